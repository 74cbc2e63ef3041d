/-! walks by lot -/
theorem pc_eq0 {m : Nat} (hm : m < 8192) : pc m = 0 ↔ m = 0 := by
  constructor
  · intro h
    have h1 := fb_ct_zero.mp h
    apply Nat.eq_of_testBit_eq
    intro i
    rw [Nat.zero_testBit]
    rcases Nat.lt_or_ge i 13 with h2 | h2
    · exact h1 i h2
    · exact Nat.testBit_lt_two_pow (Nat.lt_of_lt_of_le hm (Nat.pow_le_pow_right (n := 2) (by decide) h2))
  · intro h
    rw [h, pc_0]
theorem ct_cut {p : Nat → Bool} {n : Nat} (h : ∀ k, n ≤ k → p k = false) : ∀ j, fb_ct p (n + j) = fb_ct p n
  | 0 => rfl
  | j + 1 => by
    show fb_ct p (n + j) + (if p (n + j) then 1 else 0) = _
    rw [ct_cut h j, h (n + j) (by omega)]
    rfl
/-- how many streets may be next -/
def nmy (T : Twn) (m c : Nat) : Nat := fb_ct (fun s => stp T 0 m c s) (T.1 1)
theorem nmy_R {T : Twn} {m c R : Nat} (hN : T.1 1 ≤ 13) (hR : ∀ s, R.testBit s = true ↔ stp T 0 m c s = true) : pc R = nmy T m c := by
  unfold pc nmy
  have e : fb_ct (fun i => R.testBit i) 13 = fb_ct (fun s => stp T 0 m c s) 13 := fb_ct_cong fun k _ => by rw [Bool.eq_iff_iff]; exact hR k
  rw [e]
  have := ct_cut (p := fun s => stp T 0 m c s) (n := T.1 1) (fun k hk => by
    rw [← Bool.not_eq_true]
    intro z
    have := (stp_iff.mp z).1
    omega) (13 - T.1 1)
  rw [show T.1 1 + (13 - T.1 1) = 13 by omega] at this
  exact this
theorem y_nmL {T : Twn} (hT : Twf T) (hN : T.1 1 ≤ 12) {m c t : Nat} {A B : Mem} (h : WR T m c t A B) (h3 : B.1 0 3 = nI (T.1 1)) : ∀ (k i f : Nat), i + k = T.1 1 → k < f → FX9_nextMany_L4 f (nI (fb_ct (fun s => stp T 0 m c s) i)) (nI i) B = some (nI (nmy T m c)) := by
  intro k
  induction k with
  | zero =>
    intro i f hi hf
    obtain ⟨f, rfl⟩ : ∃ g, f = g + 1 := ⟨f - 1, by omega⟩
    have : i = T.1 1 := by omega
    subst this
    rw [FX9_nextMany_L4, h3, if_pos (Int32.le_refl _)]
    rfl
  | succ k ih =>
    intro i f hi hf
    obtain ⟨f, rfl⟩ : ∃ g, f = g + 1 := ⟨f - 1, by omega⟩
    have ihh := ih (i + 1) f (by omega) (by omega)
    rw [fb_ct_succ] at ihh
    rw [FX9_nextMany_L4, h3, if_neg (nI_ge (by omega) (by omega)), w_may hT hN h h3 (show i < T.1 1 by omega), z_ob]
    simp only [z_lt]
    rw [nI_1]
    by_cases hs : stp T 0 m c i = true
    · rw [if_pos hs] at ihh ⊢
      rw [if_neg n10, show nI (fb_ct (fun s => stp T 0 m c s) i) + 1 = nI (fb_ct (fun s => stp T 0 m c s) i + 1) from nI_1 _]
      exact ihh
    · rw [if_neg hs] at ihh ⊢
      rw [if_pos rfl, Int32.add_zero]
      exact ihh
theorem y_nextMany {T : Twn} (hT : Twf T) (hN : T.1 1 ≤ 12) {m c t : Nat} {A B : Mem} (h : WR T m c t A B) (h3 : B.1 0 3 = nI (T.1 1)) : FX9_nextMany B = some (nI (nmy T m c)) := by
  have := y_nmL hT hN h h3 (T.1 1) 0 FU (by omega) (by rw [z_FU]; omega)
  unfold FX9_nextMany
  rw [show nI (fb_ct (fun s => stp T 0 m c s) 0) = 0 from rfl, show nI 0 = 0 from rfl] at this
  rw [this, z_ob]
/-- the street that a number picks is the same on both sides -/
theorem eq_piL {T : Twn} (hT : Twf T) (hN : T.1 1 ≤ 12) {m c t : Nat} {A B : Mem} (h : WR T m c t A B) (h3 : B.1 0 3 = nI (T.1 1)) {R : Nat} (hR8 : R < 8192) (hR : ∀ s, R.testBit s = true ↔ stp T 0 m c s = true) : ∀ (j i f f' q : Nat), i + j = T.1 1 → j < f → j < f' → fb_ct (fun s => stp T 0 m c s) i + q < nmy T m c → ∃ s, stp T 0 m c s = true ∧ FX8_pick_L4 f (nI R) (nI q) (nI i) = some (.inl (nI s)) ∧ FX9_nextOf_L4 f' (nI q) (nI i) B = some (.inl (nI s)) := by
  intro j
  induction j with
  | zero =>
    intro i f f' q hi hf hf' hq
    have : i = T.1 1 := by omega
    subst this
    unfold nmy at hq
    omega
  | succ j ih =>
    intro i f f' q hi hf hf' hq
    obtain ⟨f, rfl⟩ : ∃ g, f = g + 1 := ⟨f - 1, by omega⟩
    obtain ⟨f', rfl⟩ : ∃ g, f' = g + 1 := ⟨f' - 1, by omega⟩
    have g12 : ¬ 12 ≤ nI i := nI_ge (b := 12) (by omega) (by decide)
    have hq13 : q < 2147483648 := by
      have : nmy T m c ≤ T.1 1 := fb_ct_le _ _
      omega
    rw [FX8_pick_L4, FX9_nextOf_L4, if_neg g12, h3, if_neg (nI_ge (show i < T.1 1 by omega) (by omega)), w_may hT hN h h3 (show i < T.1 1 by omega), z_ob, if_congr_prop (z_b0 (show R < 2147483648 by omega) (show i < 32 by omega))]
    simp only [z_lt]
    rw [nI_1]
    have hq0 : nI q = 0 ↔ q = 0 := z_eq (b := 0) hq13 (by decide)
    rw [if_congr_prop hq0, if_congr_prop hq0]
    by_cases hs : stp T 0 m c i = true
    · have hRi : ¬ R.testBit i = false := by rw [(hR i).mpr hs]; decide
      rw [if_neg hRi, if_pos hs, if_neg n10]
      by_cases h0 : q = 0
      · rw [if_pos h0, if_pos h0]
        exact ⟨i, hs, rfl, rfl⟩
      · rw [if_neg h0, if_neg h0]
        have em : nI q + -1 = nI (q - 1) := by
          rw [← Int32.sub_eq_add_neg]
          exact z_sub1 (by omega)
        rw [em]
        refine ih (i + 1) f f' (q - 1) (by omega) (by omega) (by omega) ?_
        rw [fb_ct_succ, if_pos hs]
        omega
    · have hRi : R.testBit i = false := by
        rw [← Bool.not_eq_true]
        exact fun z => hs ((hR i).mp z)
      rw [if_pos hRi, if_neg hs, if_pos rfl]
      refine ih (i + 1) f f' q (by omega) (by omega) (by omega) ?_
      rw [fb_ct_succ, if_neg hs]
      omega
theorem eq_stL {v : Nat → Nat} {u : Nat → Nat → Nat} {tx : Nat → Txt} {T : Twn} (hTe : T = TS u (tx (v 6)) (v 1) (v 3) (v 0) (v 4) (v 2)) (hT : Twf T) : ∀ (k f f' m c t L : Nat) (A B : Mem), pc m + k = 12 → k < f → k < f' → L < 2147483647 → RR v u tx A B → WR T m c t A B →
    ∃ A' B' m' c' t', RR v u tx A' B' ∧ WR T m' c' t' A' B' ∧ (FX8_stray_L19 f (lN L) (nI (pc m)) A = some (.inl A') ∨ FX8_stray_L19 f (lN L) (nI (pc m)) A = some (.inr A')) ∧ FX9_draws_L9 f' (lN L) B = some B' := by
  have hT1 : T.1 1 = v 3 := by rw [hTe]; rfl
  have hT0 : T.1 0 = v 0 := by rw [hTe]; rfl
  intro k
  induction k with
  | zero =>
    intro f f' m c t L A B hk hf hf' hL hR hW
    obtain ⟨f, rfl⟩ : ∃ g, f = g + 1 := ⟨f - 1, by omega⟩
    obtain ⟨f', rfl⟩ : ∃ g, f' = g + 1 := ⟨f' - 1, by omega⟩
    have hn := hR.2.1.2.2.2.1
    have hN : T.1 1 ≤ 12 := by omega
    have y3 : B.1 0 3 = nI (T.1 1) := by rw [hT1]; exact hR.1.2.2.2.2.1
    have hw := hW.1.1
    have hno : ∀ s, ¬ stp T 0 m c s = true := by
      intro s hs
      obtain ⟨h1, h2, h3⟩ := stp_at hT hs
      have hp := pc_or (show s < 13 by omega) h3
      have := pc_leN (show T.1 1 ≤ 13 by omega) (wk_stp hT hw hs).1
      omega
    have h0 : nmy T m c = 0 := fb_ct_zero.mpr fun k _ => by
      rw [← Bool.not_eq_true]; exact hno k
    have hnm := y_nextMany hT hN hW y3
    rw [h0] at hnm
    have hmm : pc m = 12 := by omega
    have hm0 : ¬ B.1 0 48 = 0 := by
      rw [hW.2.2.2.1.2.1]
      intro z
      have := (z_eq (b := 0) (by have := p13 hT.1.2.1 hw.1; omega) (by decide)).mp z
      rw [this, pc_0] at hmm
      omega
    refine ⟨A, B, m, c, t, hR, hW, Or.inr ?_, ?_⟩
    · rw [FX8_stray_L19, hmm, if_pos (show (12 : Int32) ≤ nI 12 by decide)]
    · rw [FX9_draws_L9, if_neg hm0, hnm, z_ob, if_pos (show nI 0 ≤ 0 by decide)]
      by_cases h : B.1 0 47 = B.1 0 0
      · rw [if_pos h, z_ob, if_neg nft]
      · rw [if_neg h, z_ob, if_neg nft]
  | succ k ih =>
    intro f f' m c t L A B hk hf hf' hL hR hW
    obtain ⟨f, rfl⟩ : ∃ g, f = g + 1 := ⟨f - 1, by omega⟩
    obtain ⟨f', rfl⟩ : ∃ g, f' = g + 1 := ⟨f' - 1, by omega⟩
    have hn := hR.2.1.2.2.2.1
    have hN : T.1 1 ≤ 12 := by omega
    have y3 : B.1 0 3 = nI (T.1 1) := by rw [hT1]; exact hR.1.2.2.2.2.1
    have hw := hW.1.1
    have hm8 := p13 hT.1.2.1 hw.1
    have hc9 := hw.2.1
    have hd9 := hT.1.1
    have g12 : ¬ 12 ≤ nI (pc m) := nI_ge (b := 12) (by omega) (by decide)
    obtain ⟨R, r1, r2, r3⟩ := w_next hT hN hW
    have hpR : pc R = nmy T m c := nmy_R (by omega) r3
    have hnm := y_nextMany hT hN hW y3
    have hny : nmy T m c ≤ 12 := by have : nmy T m c ≤ T.1 1 := fb_ct_le _ _; omega
    have hcor := w_at hT hW
    have x0 : A.1 1 0 = nI (T.1 0) := by rw [hT0]; exact hR.1.1.1
    rw [FX8_stray_L19, FX9_draws_L9, if_neg g12, r2, z_ob, x_bits r1, hpR, hcor, x0, hnm, hW.2.2.2.1.2.1, hW.2.2.2.1.1, hW.2.2.2.2.1.1]
    simp only [z_lt]
    have q0 : nI (nmy T m c) = 0 ↔ nmy T m c = 0 := z_eq (b := 0) (by omega) (by decide)
    have q0' : nI (nmy T m c) ≤ 0 ↔ nmy T m c = 0 := by
      rw [show (0 : Int32) = nI 0 from rfl, z_le (by omega) (by decide)]
      omega
    have q1 : nI (pc m) ≤ 0 ↔ m = 0 := by
      rw [show (0 : Int32) = nI 0 from rfl, z_le (by omega) (by decide), ← pc_eq0 hm8]
      omega
    have q2 : nI m = 0 ↔ m = 0 := z_eq (b := 0) (by omega) (by decide)
    have q3 : nI c = nI (T.1 0) ↔ c = T.1 0 := z_eq (by omega) (by omega)
    rw [if_congr_prop q0, if_congr_prop q2]
    simp only [q1, q3, q0', z_ob]
    have done : ∃ A' B' m' c' t', RR v u tx A' B' ∧ WR T m' c' t' A' B' ∧ (some (Sum.inl A) = some (Sum.inl (β := Mem) A') ∨ some (Sum.inl A) = some (Sum.inr A')) ∧ some B = some B' := ⟨A, B, m, c, t, hR, hW, Or.inl rfl, rfl⟩
    by_cases h0 : nmy T m c = 0
    · simp only [if_pos h0]
      have eY : (if m = 0 then some false else if c = T.1 0 then some false else some false) = some false := by
        by_cases k1 : m = 0
        · rw [if_pos k1]
        · by_cases k2 : c = T.1 0
          · rw [if_neg k1, if_pos k2]
          · rw [if_neg k1, if_neg k2]
      rw [eY, z_ob, if_neg nft]
      exact done
    · simp only [if_neg h0]
      by_cases hst : ¬ m = 0 ∧ c = T.1 0
      · rw [if_neg hst.1, if_pos hst.2, if_pos rfl, if_neg hst.1, if_pos hst.2, z_ob, if_neg nft]
        exact done
      · have eX : (if m = 0 then false else if c = T.1 0 then true else false) = false := by
          by_cases k1 : m = 0
          · rw [if_pos k1]
          · rw [if_neg k1, if_neg (fun z => hst ⟨k1, z⟩)]
        have eY : (if m = 0 then some true else if c = T.1 0 then some false else some true) = some true := by
          by_cases k1 : m = 0
          · rw [if_pos k1]
          · rw [if_neg k1, if_neg (fun z => hst ⟨k1, z⟩)]
        rw [eX, eY, z_ob, if_neg nft, if_pos rfl]
        have hL2 : lN L * 48271 = lN (L * 48271) := lN_mul L 48271
        have hrem : lN (L * 48271) - lN (L * 48271) / 2147483647 * 2147483647 = lN (L * 48271 % 2147483647) := pk_lRem (b := 2147483647) (by omega) (by decide) (by decide)
        have hlt : L * 48271 % 2147483647 < 2147483647 := Nat.mod_lt _ (by decide)
        rw [hL2, hrem]
        generalize L * 48271 % 2147483647 = L1 at hlt ⊢
        have hcl : (nI (nmy T m c)).toInt64 = lN (nmy T m c) := nI_l (by omega)
        have hne : ¬ lN (nmy T m c) = 0 := fun z => h0 ((lN_eq (b := 0) (by omega) (by decide)).mp z)
        rw [hcl, z_gd hne, z_gd hne, pk_lRem (by omega) (by omega) (by omega), lN_i]
        have hq := Nat.mod_lt L1 (show 0 < nmy T m c by omega)
        obtain ⟨s, s1, s2, s3⟩ := eq_piL hT hN hW y3 r1 r3 (T.1 1) 0 FU FU (L1 % nmy T m c) (by omega) (by rw [z_FU]; omega) (by rw [z_FU]; omega) (by rw [show fb_ct (fun s => stp T 0 m c s) 0 = 0 from rfl]; omega)
        rw [show nI 0 = 0 from rfl] at s2 s3
        have eP : FX8_pick (nI R) (nI (L1 % nmy T m c)) = some (nI s) := by
          unfold FX8_pick
          rw [s2, z_ob]; rfl
        have eN : FX9_nextOf (nI (L1 % nmy T m c)) B = some (nI s) := by
          unfold FX9_nextOf
          rw [s3, z_ob]; rfl
        obtain ⟨A1, B1, g1, g2, g3, g5, -⟩ := w_step hT hN hR hW s1
        obtain ⟨p1, p2, p3⟩ := stp_at hT s1
        have hp := pc_or (show s < 13 by omega) p3
        rw [eP, eN, z_ob, z_ob, g1, g2, z_ob, z_ob, nI_1, ← hp]
        exact ih f f' _ _ _ L1 A1 B1 (by omega) (by omega) (by omega) hlt g5 g3
theorem eq_draws {v : Nat → Nat} {u : Nat → Nat → Nat} {tx : Nat → Txt} {T : Twn} (hTe : T = TS u (tx (v 6)) (v 1) (v 3) (v 0) (v 4) (v 2)) (hT : Twf T) {A B : Mem} (hR : RR v u tx A B) (hX : XTw T A) {sd : Nat} (hsd : sd < 1000000) : ∃ A' B' m c t, FX8_stray (nI sd) A = some A' ∧ FX9_draws (nI sd) B = some B' ∧ RR v u tx A' B' ∧ WR T m c t A' B' := by
  obtain ⟨A1, B1, g1, g2, g3, g4, -⟩ := w_begin hTe hT hR hX
  obtain ⟨A', B', m, c, t, h1, h2, h3, h4⟩ := eq_stL hTe hT 12 FU FU 0 (T.1 0) 0 (sd + 1) A1 B1 (by rw [pc_0]) (by rw [z_FU]; omega) (by rw [z_FU]; omega) (by omega) g4 g3
  rw [pc_0, show nI 0 = 0 from rfl] at h3
  refine ⟨A', B', m, c, t, ?_, ?_, h1, h2⟩
  · unfold FX8_stray
    rw [g1, z_ob, nI_l (by omega), lN_1, z_lt]
    rcases h3 with h3 | h3 <;> rw [h3, z_ob] <;> rfl
  · unfold FX9_draws
    rw [g2, z_ob, nI_l (by omega), lN_1, z_lt, h4, z_ob]
