theorem RM_home {T : Twn} {h : Nat} (hh : T.1 0 = h) (d m q : Nat) : RM T d m q ↔ RM T (ndf d (2 ^ h)) m q := by
  unfold RM
  rw [rng_home hh]
theorem SB_home {T : Twn} {h : Nat} (hh : T.1 0 = h) (d L q : Nat) : SB T d L q ↔ SB T (ndf d (2 ^ h)) L q := by
  unfold SB
  simp only [RM_home hh d]
theorem TW2_home {T : Twn} {h : Nat} (hh : T.1 0 = h) (d e q : Nat) : TW2 T d e q ↔ TW2 T (ndf d (2 ^ h)) (ndf e (2 ^ h)) q := by
  unfold TW2
  simp only [RM_home hh d, SB_home hh e]
theorem FWS_home {T : Twn} {h : Nat} (hh : T.1 0 = h) (d q : Nat) : FWS T d q ↔ FWS T (ndf d (2 ^ h)) q := by
  unfold FWS
  simp only [rng_home hh d]
theorem or_511 {a b : Nat} (ha : a ≤ 511) (hb : b ≤ 511) : a ||| b < 512 := Nat.or_lt_two_pow (n := 9) (by omega) (by omega)
theorem ndf_or (a b c : Nat) : ndf a c ||| ndf b c = ndf (a ||| b) c := by
  apply Nat.eq_of_testBit_eq
  intro i
  rw [Nat.testBit_or, ndf_bit, ndf_bit, ndf_bit, Nat.testBit_or]
  cases a.testBit i <;> cases b.testBit i <;> simp
theorem TW2_le {T : Twn} (hT : Twf T) {d e q : Nat} (h : TW2 T d e q) : q < 1000000 := by
  obtain ⟨m, q1, q2, h1, h2, h3⟩ := h
  have a := (RM_lt hT h1).2
  have b := SB_le hT h2
  omega
theorem LSt_sm {S : Nat → Prop} {x : Int32} (h : LSt S x) : sm x := by
  rcases LSt_nn h with h | ⟨n, h1, h2⟩
  · exact Or.inl h
  · exact Or.inr ⟨n, by omega, h2⟩
theorem eq_two {MX MY : Mem} (h : Sim MX MY) (a b d : Int32) : ∃ r MX' MY', FX8_two a b d MX = some (r, MX') ∧ FX9_two a b d MY = some (r, MY') ∧ Sim MX' MY' := by
  obtain ⟨v, u, tx, hR⟩ := id h
  have h9 := hR.2.1.1
  unfold FX8_two FX9_two
  simp only [z_lt]
  rw [x_areCorners, x_areCorners, z_in, z_in, z_in, zrb, hR.1.1.1, hR.1.2.1, z_shl1 (by omega)]
  have bad : ∀ (p q : Bool) (P : Option (Int32 × Mem)) (R : Option (Int32 × Mem)), p = true → q = true → ∃ r MX' MY', (if p = true then some (-2, MX) else P) = some (r, MX') ∧ (if q = true then some (-2, MY) else R) = some (r, MY') ∧ Sim MX' MY' := by
    rintro p q P R rfl rfl
    exact ⟨-2, MX, MY, rfl, rfl, h⟩
  by_cases ha : 0 ≤ a ∧ a ≤ 511
  rotate_left
  · apply bad
    · rw [if_neg ha, if_pos rfl]
    · rw [if_neg ha, if_pos rfl]
  by_cases hb : 0 ≤ b ∧ b ≤ 511
  rotate_left
  · apply bad
    · rw [if_pos ha, if_neg n10, if_neg hb, if_pos rfl]
    · rw [if_pos ha, if_neg n10, if_neg hb, if_pos rfl]
  rw [if_pos ha, if_neg n10, if_pos hb, if_neg n10, if_neg nft, if_neg nft]
  obtain ⟨A, hA, rfl⟩ := zrange (n := 511) (by decide) ha
  obtain ⟨B, hB, rfl⟩ := zrange (n := 511) (by decide) hb
  rw [z_not, z_not, z_or, z_or]
  by_cases hab : (if nI (ndf A (2 ^ v 0)) = 0 then true else if nI (ndf B (2 ^ v 0)) = 0 then true else false) = true
  · apply bad
    · exact hab
    · exact hab
  rw [if_neg hab, if_neg hab]
  by_cases hd : 0 ≤ d ∧ d ≤ 1
  rotate_left
  · rw [if_neg hd, decide_eq_false hd]
    exact ⟨-7, MX, MY, rfl, rfl, h⟩
  rw [if_pos hd, decide_eq_true hd, if_neg nb1, if_neg n10]
  obtain ⟨T, Q, κ, MX1, MY1, MY2, hTe, hT, e1, e2, e3, f1, f2, f3, f4, hR'⟩ := both hR
  have hN : T.1 1 ≤ 12 := by rw [hTe]; exact hR.2.1.2.2.2.1
  have h0 : T.1 0 = v 0 := by rw [hTe]; rfl
  have h1 : T.1 1 = v 3 := by rw [hTe]; rfl
  have hA2 : ndf A (2 ^ v 0) < 512 := Nat.lt_of_le_of_lt (ndf_le _ _) (by omega)
  have hB2 : ndf B (2 ^ v 0) < 512 := Nat.lt_of_le_of_lt (ndf_le _ _) (by omega)
  have hAB := or_511 hA hB
  have z3 : MX1.1 1 4 = nI (T.1 1) := by rw [h1]; exact hR'.1.1.2.2.2.1
  obtain ⟨y, MX2, p1, p2, p3, p4⟩ := x_leastTwo hT hN (d := A) (e := B) (by omega) (by omega) e2
  have hS2 := e2.fr (p3 37 (by decide)) (p3 39 (by decide)) (p3 40 (by decide)) p4
  obtain ⟨MY3, q1, q2, q3⟩ := y_rw2 hT hN hB2 (2 ^ T.1 1) 0 FU MY2 (by omega) (by have : 2 ^ T.1 1 ≤ 4096 := Nat.pow_le_pow_right (n := 2) (by decide) hN; rw [z_FU]; omega) f3 f4 (fun L hL => absurd hL (Nat.not_lt_zero L))
  have hY3 := f3.kp q2 (by omega)
  have hF3 : FWD T MY3 := fun m c a b => by rw [q2 19 (by decide)]; exact f4 m c a b
  have hp1 : 1 ≤ 2 ^ T.1 1 := Nat.two_pow_pos _
  obtain ⟨y', s1, s2⟩ := y_tw95 hT hN hA2 hY3 hF3 q3 (2 ^ T.1 1 - 1) 1 FU (-1) (by omega) (by omega) (by have : 2 ^ T.1 1 ≤ 4096 := Nat.pow_le_pow_right (n := 2) (by decide) hN; rw [z_FU]; omega) (Or.inl ⟨rfl, by
    rintro q ⟨m, p1, p2, k1, k2, -⟩
    have : m = 0 := by omega
    subst this
    exact (rng_iff.mp k2.1).1 rfl⟩)
  have hyy : y = y' := LSt_one (p2.cong fun q => TW2_home h0 A B q) s2
  subst hyy
  have hRR : RR v u tx MX2 MY3 := hR'.fr (fun k hk => p3 k (by omega)) (QS_RZ hT hS2.1) ⟨fun k a b s _ => by rw [q2 k (by omega)], fun k a b => q2 k (by omega), fun j _ => by rw [q2 0 (by omega)]⟩
  obtain ⟨z, t1, t2⟩ := y_fewest hT hY3 hF3 (d := ndf A (2 ^ v 0) ||| ndf B (2 ^ v 0)) (by rw [ndf_or]; exact Nat.lt_of_le_of_lt (ndf_le _ _) hAB)
  have ew : FX9_ringsWithin (nI (ndf B (2 ^ v 0))) MY2 = some MY3 := by
    unfold FX9_ringsWithin
    rw [show nI 0 = 0 from rfl] at q1
    rw [q1, z_ob]
  rw [show nI 1 = 1 from rfl] at s1
  rw [e1, z_ob, z3, p1, z_ob, f1, z_ob, f2, z_ob, ew, z_ob, s1, z_ob, t1, z_ob]
  have hsm := LSt_sm p2
  have hz : LSt (FWS T (A ||| B)) z := t2.cong fun q => by rw [ndf_or]; exact (FWS_home h0 (A ||| B) q).symm
  simp only []
  rw [if_congr_prop (sm_neg hsm)]
  by_cases hy1 : y = -1
  · have b2 : (if d = 0 then true else if y = -1 then true else false) = true := by
      by_cases h : d = 0
      · rw [if_pos h]
      · rw [if_neg h, if_pos hy1]
    rw [if_pos hy1, if_pos rfl, if_pos b2]
    exact ⟨y, MX2, MY3, rfl, rfl, v, u, tx, hRR⟩
  · rw [if_neg hy1, if_neg hy1]
    by_cases hd0 : d = 0
    · rw [if_pos hd0, if_pos rfl, if_pos rfl]
      exact ⟨y, MX2, MY3, rfl, rfl, v, u, tx, hRR⟩
    · rw [if_neg hd0, if_neg nft, if_neg nft]
      rcases x_leastE hT (e := A ||| B) (by omega) hS2 with ⟨g1, g2⟩ | ⟨m, q, g1, g2, g3, g4, g5, g6⟩
      · have : z = -1 := LSt_one hz (Or.inl ⟨rfl, g2⟩)
        rw [g1, z_ob, if_neg (show ¬ (0 : Int32) ≤ -1 by decide), if_pos this]
        exact ⟨-1, MX2, MY3, rfl, rfl, v, u, tx, hRR⟩
      · have : z = nI q := LSt_one hz (Or.inr ⟨q, g4, rfl, g5, g6⟩)
        rw [g1, z_ob, if_pos (z_pos (by omega)), g3, z_ob, this, if_neg (z_m1 (by omega))]
        exact ⟨_, MX2, MY3, rfl, rfl, v, u, tx, hRR⟩
