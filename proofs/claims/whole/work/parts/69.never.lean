/-! never, bears, part -/
theorem rp_seq {S a b : Nat} (p q : Prop) [Decidable p] [Decidable q] : (S ||| (if S.testBit a = true ∧ p then 2 ^ b else 0)) ||| (if (S ||| (if S.testBit a = true ∧ p then 2 ^ b else 0)).testBit b = true ∧ q then 2 ^ a else 0) = S ||| ((if S.testBit a = true ∧ p then 2 ^ b else 0) ||| (if S.testBit b = true ∧ q then 2 ^ a else 0)) := by
  rw [Nat.or_assoc]
  by_cases h1 : S.testBit a = true ∧ p
  · simp only [if_pos h1]
    rw [Nat.testBit_or, Nat.testBit_two_pow_self, Bool.or_true]
    have e : S ||| 2 ^ a = S := by
      apply Nat.eq_of_testBit_eq
      intro i
      rw [Nat.testBit_or, Nat.testBit_two_pow]
      by_cases hi : a = i
      · subst hi; rw [h1.1]; rfl
      · simp [hi]
    have e2 : ∀ z, (z = 2 ^ a ∨ z = 0) → S ||| (2 ^ b ||| z) = S ||| 2 ^ b := by
      rintro z (rfl | rfl)
      · rw [Nat.or_comm (2 ^ b), ← Nat.or_assoc, e]
      · rw [Nat.or_zero]
    rw [e2, e2]
    · split
      · exact Or.inl rfl
      · exact Or.inr rfl
    · split
      · exact Or.inl rfl
      · exact Or.inr rfl
  · simp only [if_neg h1, Nat.or_zero]
theorem gate {S c t : Nat} (hS : S < 512) (hc : c < 9) (ht : t ≤ 99) : (if ((nI S >>> (nI c &&& 31)) &&& 1) = 1 then (if nI t ≤ 0 then some false else some true) else some false) = some (decide (S.testBit c = true ∧ t ≠ 0)) := by
  rw [if_congr_prop (z_b1 (show S < 2147483648 by omega) (show c < 32 by omega)), if_congr_prop (show nI t ≤ 0 ↔ t ≤ 0 from z_le (b := 0) (by omega) (by decide))]
  by_cases h1 : S.testBit c = true
  · by_cases h2 : t = 0
    · simp [h1, h2]
    · simp [h1, h2]
  · simp [h1]
theorem gate2 {p : Prop} [Decidable p] {c : Nat} : (if decide p = true then some (nI (2 ^ c)) else some (0 : Int32)) = some (nI (if p then 2 ^ c else 0)) := by
  by_cases h : p <;> simp [h] <;> rfl
theorem y_jo17 {T : Twn} (hT : Twf T) {M : Mem} (hY : YTw T M) {S : Nat} (hS : S < 512) : ∀ (k i f : Nat), i + k = T.1 1 → k < f → FX9_joined_L17 f (nI (rpass T i S)) (nI i) M = some (nI (rpass T (T.1 1) S)) := by
  have hN := hT.1.2.1
  have h2 := hT.1.2.2.1
  have hp : 2 ^ T.1 1 ≤ 8192 := Nat.pow_le_pow_right (n := 2) (by decide) hN
  intro k
  induction k with
  | zero =>
    intro i f hi hf
    obtain ⟨f, rfl⟩ : ∃ g, f = g + 1 := ⟨f - 1, by omega⟩
    have : i = T.1 1 := by omega
    subst this
    rw [FX9_joined_L17, hY.1.2.1, if_pos (Int32.le_refl _)]
  | succ k ih =>
    intro i f hi hf
    obtain ⟨f, rfl⟩ : ∃ g, f = g + 1 := ⟨f - 1, by omega⟩
    have hs : i < T.1 1 := by omega
    obtain ⟨x1, x2, x3⟩ := hY.2.1 i hs
    obtain ⟨t1, t2⟩ := hY.2.2 i 0 hs (by decide)
    rw [Nat.mul_zero, Nat.add_zero] at t1 t2
    obtain ⟨⟨d1, d2, -⟩, -, d3, -⟩ := hT.2 i hs
    have hlt := rpass_lt hT i S (by omega) hS
    have ihh := ih (i + 1) f (by omega) (by omega)
    rw [rpass] at ihh
    unfold rpO at ihh
    rw [FX9_joined_L17, hY.1.2.1, if_neg (nI_ge hs (by omega)), hY.1.2.2.1, if_congr_prop (z_b0 (show T.1 2 < 2147483648 by omega) (show i < 32 by omega))]
    by_cases hb : (T.1 2).testBit i = true
    · have hb' : ¬ (T.1 2).testBit i = false := by rw [hb]; decide
      rw [if_pos hb] at ihh
      rw [if_neg hb', z_lt, nI_1]
      exact ihh
    · have hb' : (T.1 2).testBit i = false := by simpa using hb
      rw [if_neg hb] at ihh
      have e4 : 4 * nI i = nI (4 * i) := by rw [show (4 : Int32) = nI 4 from rfl, pk_mul]
      have hA : (rpass T i S ||| (if (rpass T i S).testBit (T.2.1 1 i) = true ∧ T.2.2 0 (T.2.1 1 i) i ≠ 0 then 2 ^ T.2.1 2 i else 0)) < 512 := by
        refine Nat.or_lt_two_pow (n := 9) hlt ?_
        split
        · exact p2_lt d2
        · decide
      rw [if_pos hb', z_gi (by omega) (by decide), z_ix (by omega), x1, x2, e4, z_gi (by omega) (by decide), z_ix (by omega), t1, gate hlt d1 (d3 0 _ (by decide)), z_ob, z_gi (by omega) (by decide), z_shl1 (by omega), gate2, z_ob, z_or, z_lt, z_gi (by omega) (by decide), show nI (4 * i) + 1 = nI (4 * i + 1) from nI_1 _, z_gi (by omega) (by decide), z_ix (by omega), t2, gate hA d2 (d3 0 _ (by decide)), z_ob, z_gi (by omega) (by decide), z_shl1 (by omega), gate2, z_ob, z_or, z_lt, z_lt, nI_1, rp_seq]
      exact ihh
theorem y_jo9 {T : Twn} (hT : Twf T) {M : Mem} (hY : YTw T M) : ∀ (k i f S : Nat), i + k = 9 → k < f → S < 512 → FX9_joined_L9 f (nI S) (nI i) M = some (nI (itr k (rpass T (T.1 1)) S)) := by
  have hN := hT.1.2.1
  intro k
  induction k with
  | zero =>
    intro i f S hi hf hS
    obtain ⟨f, rfl⟩ : ∃ g, f = g + 1 := ⟨f - 1, by omega⟩
    have : i = 9 := by omega
    subst this
    rw [FX9_joined_L9, if_pos (by decide)]
    rfl
  | succ k ih =>
    intro i f S hi hf hS
    obtain ⟨f, rfl⟩ : ∃ g, f = g + 1 := ⟨f - 1, by omega⟩
    have e := y_jo17 hT hY hS (T.1 1) 0 FU (by omega) (by rw [z_FU]; omega)
    rw [show rpass T 0 S = S from rfl, show nI 0 = 0 from rfl] at e
    have g9 : ¬ 9 ≤ nI i := nI_ge (b := 9) (by omega) (by decide)
    rw [FX9_joined_L9, if_neg g9, e, z_ob, z_lt, nI_1]
    exact ih (i + 1) f _ (by omega) (by omega) (rpass_lt hT _ S (Nat.le_refl _) hS)
theorem y_joined {T : Twn} (hT : Twf T) {M : Mem} (hY : YTw T M) : FX9_joined M = some (nI (ndf (rch T) (2 ^ T.1 0))) := by
  have hd9 := hT.1.1
  unfold FX9_joined
  have e9 : itr 9 (rpass T (T.1 1)) (2 ^ T.1 0) = rch T := itr_9 (fun S _ => rpass_sub T _ S) (fun S hS => rpass_lt hT _ S (Nat.le_refl _) hS) (p2_lt hd9) ⟨T.1 0, hd9, Nat.testBit_two_pow_self⟩
  have e := y_jo9 hT hY 9 0 FU (2 ^ T.1 0) (by omega) (by rw [z_FU]; omega) (p2_lt hd9)
  rw [e9, show nI 0 = 0 from rfl] at e
  rw [hY.1.1, z_shl1 (by omega), z_lt, e, z_ob, z_not]
theorem x_ringedNow {T : Twn} (hT : Twf T) {Q : List Nat} {κ : Nat → Nat} {tc : Nat} {M M' : Mem} (h1 : FX8_look tc 512 0 M = some M') (hS : SK T 0 512 Q κ M') : ∃ y, y < 512 ∧ FX8_ringed tc M = some (nI y, M') ∧ ∀ b, y.testBit b = true ↔ RGD T 0 b := by
  obtain ⟨y, y1, y2, y3⟩ := x_ringedAll hT hS
  unfold FX8_ringed
  rw [h1, z_ob, y2, z_ob]
  exact ⟨y, y1, rfl, y3⟩
theorem y_ringedNow {T : Twn} (hT : Twf T) {M M1 M' : Mem} (h1 : FX9_looks 0 M = some M1) (h2 : FX9_forward M1 = some M') (hY : YTw T M') (hF : FWD T M') : ∃ y, y < 512 ∧ FX9_ringedNow M = some (nI y, M') ∧ ∀ b, y.testBit b = true ↔ RGD T 0 b := by
  obtain ⟨y, y1, y2, y3⟩ := y_ringed hT hY hF (A := 0) (by decide)
  unfold FX9_ringedNow
  rw [show nI 0 = 0 from rfl] at y2
  rw [h1, z_ob, h2, z_ob, y2, z_ob]
  exact ⟨y, y1, rfl, y3⟩
theorem z_511 (a : Nat) : (511 : Int32) &&& (nI a ^^^ (-1)) = nI (ndf 511 a) := z_not 511 a
theorem eq_never {MX MY : Mem} (h : Sim MX MY) (a : Int32) : ∃ r MX' MY', FX8_never a MX = some (r, MX') ∧ FX9_never a MY = some (r, MY') ∧ Sim MX' MY' := by
  obtain ⟨v, u, tx, hR⟩ := id h
  unfold FX8_never FX9_never
  rw [z_in, zrb, z_lt]
  by_cases ha : 0 ≤ a ∧ a ≤ 2
  rotate_left
  · rw [if_neg ha, decide_eq_false ha]
    exact ⟨-2, MX, MY, rfl, rfl, h⟩
  obtain ⟨T, Q, κ, MX', MY1, MY', hTe, hT, e1, e2, e3, f1, f2, f3, f4, hR'⟩ := both hR
  obtain ⟨r, r1, r2, r3⟩ := x_ringedNow hT e1 e2
  obtain ⟨r', p1, p2, p3⟩ := y_ringedNow hT f1 f2 f3 f4
  have := bits_eq r3 p3
  subst this
  have hN : T.1 1 ≤ 12 := by rw [hTe]; exact hR.2.1.2.2.2.1
  have h0 : T.1 0 = v 0 := by rw [hTe]; rfl
  have hd9 := hT.1.1
  have hc := rch_lt hT
  have hh := rch_home (T := T)
  have z0 : MX'.1 1 0 = nI (T.1 0) := by rw [h0]; exact hR'.1.1.1
  have w0 : MY'.1 0 0 = nI (T.1 0) := by rw [h0]; exact hR'.1.2.1
  rw [if_pos ha, decide_eq_true ha, if_neg nb1, if_neg n10, r2, p2, z_ob, z_ob, x_reached hT hN e3, y_joined hT f3, z_ob, z_ob, z0, w0, z_shl1 (by omega), z_not, z_not, z_not, z_511, z_511, z_not]
  obtain ⟨j, hj, rfl⟩ := zrange (n := 2) (by decide) ha
  have em1 : ndf (ndf (rch T) r) (2 ^ T.1 0) = ndf (ndf (rch T) (2 ^ T.1 0)) r := by
    apply Nat.eq_of_testBit_eq
    intro i
    rw [ndf_bit, ndf_bit, ndf_bit, ndf_bit, Bool.and_assoc, Bool.and_assoc, Bool.and_comm (!r.testBit i)]
  have em2 : ndf 511 (rch T) = ndf (ndf 511 (2 ^ T.1 0)) (ndf (rch T) (2 ^ T.1 0)) := by
    apply Nat.eq_of_testBit_eq
    intro i
    rw [ndf_bit, ndf_bit, ndf_bit, ndf_bit, Nat.testBit_two_pow]
    by_cases hi : T.1 0 = i
    · rw [← hi, hh]; simp
    · rw [decide_eq_false hi]; simp
  rw [em1, ← em2]
  rcases (show j = 0 ∨ j = 1 ∨ j = 2 by omega) with rfl | rfl | rfl
  · exact ⟨_, MX', MY', rfl, rfl, v, u, tx, hR'⟩
  · exact ⟨_, MX', MY', rfl, rfl, v, u, tx, hR'⟩
  · exact ⟨_, MX', MY', rfl, rfl, v, u, tx, hR'⟩
theorem eq_beL {MX MY : Mem} {n : Nat} (hn : n ≤ 12) (hx : MX.1 1 4 = nI n) (hy : MY.1 0 3 = nI n) {r : Int32} (hg : ∀ s, s < n → ∃ y, FX0_ringedWithout (nI s) MX = some y ∧ FX9_ringed (nI (2 ^ s)) MY = some y) : ∀ (k i f f' : Nat) (x : Int32), i + k = n → k < f → k < f' → ∃ y, FX8_bears_L13 f r x (nI i) MX = some y ∧ FX9_bears_L9 f' r x (nI i) MY = some y := by
  intro k
  induction k with
  | zero =>
    intro i f f' x hi hf hf'
    obtain ⟨f, rfl⟩ : ∃ g, f = g + 1 := ⟨f - 1, by omega⟩
    obtain ⟨f', rfl⟩ : ∃ g, f' = g + 1 := ⟨f' - 1, by omega⟩
    have : i = n := by omega
    subst this
    rw [FX8_bears_L13, FX9_bears_L9, hx, hy, if_pos (Int32.le_refl _), if_pos (Int32.le_refl _)]
    exact ⟨x, rfl, rfl⟩
  | succ k ih =>
    intro i f f' x hi hf hf'
    obtain ⟨f, rfl⟩ : ∃ g, f = g + 1 := ⟨f - 1, by omega⟩
    obtain ⟨f', rfl⟩ : ∃ g, f' = g + 1 := ⟨f' - 1, by omega⟩
    obtain ⟨y, y1, y2⟩ := hg i (by omega)
    rw [FX8_bears_L13, FX9_bears_L9, hx, hy, if_neg (nI_ge (by omega) (by omega)), z_shl1 (by omega), y1, y2, z_ob, z_ob, if_neg (nI_ge (by omega) (by omega))]
    simp only [z_lt]
    rw [nI_1]
    by_cases h : y = r
    · rw [if_pos h, if_pos h, Int32.or_zero]
      exact ih (i + 1) f f' x (by omega) (by omega) (by omega)
    · rw [if_neg h, if_neg h]
      exact ih (i + 1) f f' _ (by omega) (by omega) (by omega)
theorem eq_bears {MX MY : Mem} (h : Sim MX MY) : ∃ r MX' MY', FX8_bears MX = some (r, MX') ∧ FX9_bears MY = some (r, MY') ∧ Sim MX' MY' := by
  obtain ⟨v, u, tx, hR⟩ := id h
  unfold FX8_bears FX9_bears
  obtain ⟨T, Q, κ, MX', MY1, MY', hTe, hT, e1, e2, e3, f1, f2, f3, f4, hR'⟩ := both hR
  obtain ⟨r, r1, r2, r3⟩ := x_ringedNow hT e1 e2
  obtain ⟨r', p1, p2, p3⟩ := y_ringedNow hT f1 f2 f3 f4
  have := bits_eq r3 p3
  subst this
  have hn := hR.2.1.2.2.2.1
  obtain ⟨y, y1, y2⟩ := eq_beL hn hR'.1.1.2.2.2.1 hR'.1.2.2.2.2.1 (r := nI r) (fun s hs => by
    obtain ⟨a, a1, a2, a3⟩ := x_ringedWithout hT e2 (s := s) (by omega)
    obtain ⟨b, b1, b2, b3⟩ := y_ringed hT f3 f4 (A := 2 ^ s) (show 2 ^ s < 2 ^ 13 from Nat.pow_lt_pow_right (by decide) (by omega))
    have := bits_eq a3 b3
    subst this
    exact ⟨_, a2, b2⟩) (v 3) 0 FU FU 0 (by omega) (by rw [z_FU]; omega) (by rw [z_FU]; omega)
  rw [show nI 0 = 0 from rfl] at y1 y2
  rw [r2, p2, z_ob, z_ob, y1, y2, z_ob, z_ob]
  exact ⟨y, MX', MY', rfl, rfl, v, u, tx, hR'⟩
