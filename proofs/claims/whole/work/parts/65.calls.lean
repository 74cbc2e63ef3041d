/-! calls: home's own bit is nothing that a ring needs -/
theorem n10 : ¬ (1 : Int32) = 0 := by decide
theorem nb1 : ¬ (!true) = true := by decide
theorem nft : ¬ false = true := by decide
theorem ndf_le (a b : Nat) : ndf a b ≤ a := Nat.le_of_testBit fun j hj => by
  rw [ndf_bit] at hj
  cases e : a.testBit j <;> simp [e] at hj ⊢
theorem rng_home {T : Twn} {h : Nat} (hh : T.1 0 = h) (d m c : Nat) : rng T d m c = rng T (ndf d (2 ^ h)) m c := by
  have hb : (pas T m).testBit h = true := (pas_bit T m h).mpr (Or.inl hh.symm)
  have e : pas T m &&& ndf d (2 ^ h) = ndf d (2 ^ h) ↔ pas T m &&& d = d := by
    constructor
    · intro g
      apply Nat.eq_of_testBit_eq
      intro i
      have g2 := congrArg (fun x => x.testBit i) g
      simp only [Nat.testBit_and, ndf_bit, Nat.testBit_two_pow] at g2
      rw [Nat.testBit_and]
      by_cases hi : h = i
      · subst hi; rw [hb, Bool.true_and]
      · rw [decide_eq_false hi] at g2
        simpa using g2
    · intro g
      apply Nat.eq_of_testBit_eq
      intro i
      have g2 := congrArg (fun x => x.testBit i) g
      simp only [Nat.testBit_and] at g2
      rw [Nat.testBit_and, ndf_bit]
      cases h1 : d.testBit i <;> cases h2 : (pas T m).testBit i <;> simp [h1, h2] at g2 ⊢
  rw [Bool.eq_iff_iff, rng_iff, rng_iff, e]
theorem Pre_cong {T : Twn} {k d d' : Nat} (h : ∀ m c, rng T d m c = rng T d' m c) : ∀ {w : List Nat} {m c : Nat}, Pre T k d m c w → Pre T k d' m c w
  | [], _, _, _ => trivial
  | _ :: _, m, c, hp => ⟨by rw [← h m c]; exact hp.1, hp.2.1, Pre_cong h hp.2.2⟩
theorem Cpl_cong {T : Twn} {k d d' : Nat} (h : ∀ m c, rng T d m c = rng T d' m c) {w : List Nat} {m c : Nat} (hp : Cpl T k d m c w) : Cpl T k d' m c w := ⟨Pre_cong h hp.1, by rw [← h]; exact hp.2⟩
theorem TOLD_cong {T : Twn} {k d d' a : Nat} (h : ∀ m c, rng T d m c = rng T d' m c) {r : Int32} (ht : TOLD T k d a r) : TOLD T k d' a r := by
  have h' : ∀ m c, rng T d' m c = rng T d m c := fun m c => (h m c).symm
  rcases ht with ⟨h1, h2⟩ | ⟨w, h1, h2, h3⟩
  · exact Or.inl ⟨h1, fun w hw => h2 w (Cpl_cong h' hw)⟩
  · exact Or.inr ⟨w, Cpl_cong h h1, fun w' hw => h2 w' (Cpl_cong h' hw), h3⟩
theorem tell2 {v : Nat → Nat} {u : Nat → Nat → Nat} {tx : Nat → Txt} {MX MY : Mem} (hR : RR v u tx MX MY) {k d a : Nat} {p : Int32} (hp : shop p k) (hk : k < 512) (hd : d < 512) (ha : a < 4) : ∃ r q MX' MY', FX8_leastRing 1 (nI d) (nI k) (nI a) MX = some (r, MX') ∧ FX9_finds (nI (ndf d (2 ^ v 0))) p MY = some (q, MY') ∧ FX9_told4 q (nI a) MY' = some r ∧ RR v u tx MX' MY' := by
  obtain ⟨hA, hB, hK, hS, hT, hTx, hH, hZ⟩ := id hR
  obtain ⟨⟨x0, x1, x2, x3, x4, x5, x6, x7⟩, ⟨y0, y1, y2, y3, y4, y5, y6, y7⟩⟩ := id hA
  obtain ⟨b0, b1, b2, b3, b4, b5, b6, b7, b8, b9⟩ := hB
  obtain ⟨MX1, l1, l2, l3, l4⟩ := x_lay hR.TW x0 x4 x2 x3
  obtain ⟨MY1, m1, m2, m3, m4⟩ := y_looks hR.YW y0 y4 y2
  have hT := TS_wf (x := tx (v 6)) (hr := v 1) hS b3 b0 b4 b2
  have hX : XTw (TS u (tx (v 6)) (v 1) (v 3) (v 0) (v 4) (v 2)) MX1 := l3
  have hY : YTw (TS u (tx (v 6)) (v 1) (v 3) (v 0) (v 4) (v 2)) MY1 := m4
  have hZ1 : RZ MX1 := hZ.fr fun c h1 h2 => l2 c (by omega)
  obtain ⟨r, MX', e1, e2, e3, e4⟩ := x_leastRing hT b3 hk hd ha l1 hX hZ1
  obtain ⟨q, r', MY', f1, f2, f3, f4⟩ := y_told hT b3 hp (Nat.lt_of_le_of_lt (ndf_le d (2 ^ v 0)) hd) ha m1 hY
  have := TOLD_one hT (TOLD_cong (rng_home (T := TS u (tx (v 6)) (v 1) (v 3) (v 0) (v 4) (v 2)) (h := v 0) rfl d) e2) f3
  subst this
  refine ⟨r, q, MX', MY', e1, f1, f2, hR.fr (fun c hc => ?_) e4 ⟨fun c h1 h2 s _ => ?_, fun c h1 h2 => ?_, fun j hj => ?_⟩⟩
  · rw [e3 c (by omega) (by omega) (by omega)]
    exact l2 c (by omega)
  · rw [f4.1 c (by omega) (by omega) (by omega), m2 c (by omega) (by omega) (by omega) (by omega) (by omega)]
  · rw [f4.1 c (by omega) (by omega) (by omega)]
    exact m2 c (by omega) (by omega) (by omega) (by omega) (by omega)
  · rw [f4.2 j (by omega) (by omega)]
    exact m3 j (by omega)
theorem x_areCorners (a : Int32) : FX8_areCorners a = if 0 ≤ a ∧ a ≤ 511 then 1 else 0 := by
  unfold FX8_areCorners
  rw [zrg, z_lt]
  by_cases h : 0 ≤ a ∧ a ≤ 511 <;> simp [h]
theorem eq_calls {MX MY : Mem} (h : Sim MX MY) (a b d : Int32) : ∃ r MX' MY', FX8_calls a b d MX = some (r, MX') ∧ FX9_calls a b d MY = some (r, MY') ∧ Sim MX' MY' := by
  obtain ⟨v, u, tx, hR⟩ := id h
  obtain ⟨⟨x0, -⟩, ⟨y0, -⟩⟩ := id hR.1
  have hv := hR.2.1.1
  unfold FX8_calls FX9_calls
  simp only [z_lt]
  rw [x_areCorners, z_in, z_in, zrb]
  by_cases ha : 0 ≤ a ∧ a ≤ 511
  rotate_left
  · rw [if_neg ha, if_pos rfl, if_pos rfl]
    exact ⟨-2, MX, MY, rfl, rfl, h⟩
  obtain ⟨S, hS, rfl⟩ := zrange (n := 511) (by decide) ha
  rw [if_pos ha, if_neg n10, if_neg n10, y0, z_shl1 (by omega), z_not]
  have key : ∀ (p q8 : Int32) (k : Nat), shop p k → k < 512 → q8 = nI k → ∃ r MX' MY', (if (!decide (0 ≤ d ∧ d ≤ 3)) = true then some (-7, MX) else ob (FX8_leastRing 1 (nI S) q8 d MX) fun q11 => some (q11.1, q11.2)) = some (r, MX') ∧ (if (if 0 ≤ d ∧ d ≤ 3 then (1 : Int32) else 0) = 0 then some (-7, MY) else ob (FX9_finds (nI (ndf S (2 ^ v 0))) p MY) fun q4 => ob (FX9_told4 q4.1 d q4.2) fun q6 => some (q6, q4.2)) = some (r, MY') ∧ Sim MX' MY' := by
    intro p q8 k hp hk hq
    by_cases hd : 0 ≤ d ∧ d ≤ 3
    · obtain ⟨j, hj, rfl⟩ := zrange (n := 3) (by decide) hd
      obtain ⟨r, q, MX', MY', e1, e2, e3, e4⟩ := tell2 hR (a := j) hp hk (show S < 512 by omega) (by omega)
      rw [if_pos hd, decide_eq_true hd, if_neg nb1, if_neg n10, hq, e1, e2, z_ob, z_ob, e3, z_ob]
      exact ⟨r, MX', MY', rfl, rfl, v, u, tx, e4⟩
    · rw [if_neg hd, decide_eq_false hd]
      exact ⟨-7, MX, MY, rfl, rfl, h⟩
  by_cases hb : b = -1
  · subst hb
    rw [if_pos rfl, if_pos rfl, if_neg (show ¬ (0 : Int32) ≤ -1 by decide)]
    exact key (-1) 0 0 (Or.inl ⟨rfl, rfl⟩) (by decide) rfl
  · rw [if_neg hb, if_neg hb, x_isAway x0, y_isOther y0, z_ob]
    by_cases h1 : (0 ≤ b ∧ b < 9) ∧ b ≠ nI (v 0)
    · obtain ⟨c, hc, rfl⟩ := corner_nI h1.1
      rw [if_pos h1, if_neg n10, if_congr_prop (z_b0 (show S < 2147483648 by omega) (show c < 32 by omega))]
      by_cases h2 : S.testBit c = false
      · rw [if_pos h2, if_pos rfl, if_pos rfl]
        exact ⟨-5, MX, MY, rfl, rfl, h⟩
      · rw [if_neg h2, if_neg nft, if_neg nft, if_pos (z_pos (by omega)), z_shl1 (show c < 32 by omega)]
        exact key (nI c) _ (2 ^ c) (Or.inr ⟨c, hc, rfl, rfl⟩) (p2_lt hc) rfl
    · rw [if_neg h1, if_pos rfl, if_pos rfl]
      exact ⟨-5, MX, MY, rfl, rfl, h⟩
