/-! streetsBy -/
theorem sbL {tx : Nat → Txt} {s n q : Nat} (hs : s < 4) (hn : n ≤ 10) (hq : q ≤ 40) {m : Nat} : ∀ (k i came f f' : Nat) (v : Nat → Nat) (u : Nat → Nat → Nat) (MX MY : Mem), i + k = n → k < f → k < f' → came ≤ i → RR v u tx MX MY → u 6 s = m →
    ∃ r, ((∃ z MX' MY', FX8_streetsBy_L71 f (44 + s) (nI n) (nI came) (nI (q + 4 * i)) (nI i) MX = some (.inl (z, MX')) ∧ FX9_streetsBy_L64 f' (nI s) (nI q) (nI n) (nI came) (nI i) MY = some (.inl (z, MY')) ∧ Sim MX' MY' ∧ r = z) ∨
      (∃ z MX' MY', FX8_streetsBy_L71 f (44 + s) (nI n) (nI came) (nI (q + 4 * i)) (nI i) MX = some (.inr (z, MX')) ∧ FX9_streetsBy_L64 f' (nI s) (nI q) (nI n) (nI came) (nI i) MY = some (.inr (z, MY')) ∧ Sim MX' MY' ∧ r = z)) := by
  intro k
  induction k with
  | zero =>
    intro i came f f' v u MX MY hi hf hf' hc h hu
    obtain ⟨f, rfl⟩ : ∃ g, f = g + 1 := ⟨f - 1, by omega⟩
    obtain ⟨f', rfl⟩ : ∃ g, f' = g + 1 := ⟨f' - 1, by omega⟩
    have : i = n := by omega
    subst this
    refine ⟨nI came, Or.inr ⟨nI came, MX, MY, ?_, ?_, ⟨v, u, tx, h⟩, rfl⟩⟩
    · rw [FX8_streetsBy_L71, if_pos (Int32.le_refl _)]
    · rw [FX9_streetsBy_L64, if_pos (Int32.le_refl _)]
  | succ k ih =>
    intro i came f f' v u MX MY hi hf hf' hc h hu
    obtain ⟨f, rfl⟩ : ∃ g, f = g + 1 := ⟨f - 1, by omega⟩
    obtain ⟨f', rfl⟩ : ∃ g, f' = g + 1 := ⟨f' - 1, by omega⟩
    obtain ⟨⟨g1, g2⟩, ⟨g3, g4, g5⟩, g6⟩ := h.2.2.2.2.2.2.1 s hs
    rw [hu] at g3 g4 g5
    have c1 : ¬ nI n ≤ nI i := nI_ge (by omega) (by omega)
    have hix : Int32.toNatClampNeg (nI s) = s := z_ix (by omega)
    have e4 : nI q + 4 * nI i = nI (q + 4 * i) := by rw [show (4 : Int32) = nI 4 from rfl, pk_mul, nI_add]
    have c2 : ¬ nI q < 0 := z_neg (by omega)
    have c3 : ¬ nI (q + 4 * i) < nI q := by rw [z_lts (by omega) (by omega)]; omega
    have c4 : ∀ x : Int32, x = nI m - 4 → (nI (q + 4 * i) ≤ x ↔ q + 4 * i + 4 ≤ m) := by
      intro x hx
      rw [hx, show (4 : Int32) = nI 4 from rfl, z_lesub (by omega) (by omega) (by decide)]
    have hh : FX2_holds (44 + s) (nI (q + 4 * i)) 4 MX = if q + 4 * i + 4 ≤ m then 1 else 0 := by
      rw [x_holds g3 g5, z_ix (by omega), show Int32.toNatClampNeg 4 = 4 from rfl]
      by_cases z : q + 4 * i + 4 ≤ m
      · rw [if_pos ⟨z_neg (by omega), by decide, z⟩, if_pos z]
      · rw [if_neg (fun w => z w.2.2), if_neg z]
    by_cases hm : q + 4 * i + 4 ≤ m
    · have hr : ∀ j, j < 4 → MX.1 (44 + s + 4) (q + 4 * i + j) = MY.1 11 (40 * s + (q + 4 * i) + j) := by
        intro j hj
        have := g6 (q + 4 * i + j) (by omega)
        rw [show 44 + s + 4 = 48 + s by omega, this]
        exact congrArg (MY.1 11) (by omega)
      obtain ⟨r, MX', MY', v', u', h1, h2, h3, h4, h5, h6⟩ := eq_street' h (MY.1 11 (40 * s + (q + 4 * i))) (MY.1 11 (40 * s + (q + 4 * i) + 1)) (MY.1 11 (40 * s + (q + 4 * i) + 2)) (MY.1 11 (40 * s + (q + 4 * i) + 3))
      have hX : FX8_streetsBy_L71 (f + 1) (44 + s) (nI n) (nI came) (nI (q + 4 * i)) (nI i) MX = FX8_streetsBy_L71 f (44 + s) (nI n) (if r < 0 then nI came else nI (came + 1)) (nI (q + 4 * (i + 1))) (nI (i + 1)) MX' := by
        rw [FX8_streetsBy_L71]
        simp only [c1, if_false, hh, hm, if_true]
        rw [if_neg (by decide)]
        simp only [show (1 : Int32) = nI 1 from rfl, show (2 : Int32) = nI 2 from rfl, show (3 : Int32) = nI 3 from rfl, show (4 : Int32) = nI 4 from rfl, nI_add]
        simp (disch := omega) only [z_gi, z_ix]
        rw [hr 1 (by decide), hr 2 (by decide), hr 3 (by decide), show MX.1 (44 + s + 4) (q + 4 * i) = MY.1 11 (40 * s + (q + 4 * i)) from hr 0 (by decide), h1, z_ob]
        simp only [z_lt]
        rw [show q + 4 * i + 4 = q + 4 * (i + 1) by omega]
      have hY : FX9_streetsBy_L64 (f' + 1) (nI s) (nI q) (nI n) (nI came) (nI i) MY = FX9_streetsBy_L64 f' (nI s) (nI q) (nI n) (if r < 0 then nI came else nI (came + 1)) (nI (i + 1)) MY' := by
        rw [FX9_streetsBy_L64]
        simp only [c1, if_false, z_lt, e4, c2, c3]
        rw [z_gi (by omega) (by decide), hix, g4, if_pos ((c4 _ rfl).mpr hm), z_ob, if_neg (by decide)]
        simp only [show (1 : Int32) = nI 1 from rfl, show (2 : Int32) = nI 2 from rfl, show (3 : Int32) = nI 3 from rfl, show (40 : Int32) = nI 40 from rfl, pk_mul, nI_add]
        simp (disch := omega) only [z_gi, z_ix]
        rw [h2, z_ob]
        by_cases hr0 : r < 0
        · simp [hr0]
        · simp only [hr0, if_false, nI_add]
      have hu' : u' 6 s = m := by rw [h6]; exact hu
      rw [hX, hY]
      by_cases hr0 : r < 0
      · rw [if_pos hr0]
        exact ih (i + 1) came f f' v' u' MX' MY' (by omega) (by omega) (by omega) (by omega) h3 hu'
      · rw [if_neg hr0]
        exact ih (i + 1) (came + 1) f f' v' u' MX' MY' (by omega) (by omega) (by omega) (by omega) h3 hu'
    · refine ⟨-12, Or.inl ⟨-12, MX, MY, ?_, ?_, ⟨v, u, tx, h⟩, rfl⟩⟩
      · rw [FX8_streetsBy_L71]
        simp only [c1, if_false, hh, hm, if_true]
      · rw [FX9_streetsBy_L64]
        simp only [c1, if_false, z_lt, e4, c2, c3]
        rw [z_gi (by omega) (by decide), hix, g4, if_neg (fun z => hm ((c4 _ rfl).mp z)), z_ob, if_pos rfl]
theorem eq_streetsBy {MX MY : Mem} (h : Sim MX MY) (a b c d : Int32) : ∃ r MX' MY', FX8_streetsBy a b c d MX = some (r, MX') ∧ FX9_streetsBy a b c d MY = some (r, MY') ∧ Sim MX' MY' := by
  obtain ⟨v, u, tx, h⟩ := h
  have same : ∀ r, FX8_streetsBy a b c d MX = some (r, MX) → FX9_streetsBy a b c d MY = some (r, MY) → ∃ r MX' MY', FX8_streetsBy a b c d MX = some (r, MX') ∧ FX9_streetsBy a b c d MY = some (r, MY') ∧ Sim MX' MY' :=
    fun r e1 e2 => ⟨r, MX, MY, e1, e2, v, u, tx, h⟩
  by_cases hall : (0 ≤ a ∧ a ≤ 3) ∧ (0 ≤ b ∧ b ≤ 2) ∧ (0 ≤ d ∧ d ≤ 10)
  rotate_left
  · apply same (-2)
    · unfold FX8_streetsBy
      simp only [z_lt, x_isSheet, zi0, zrb]
      have : (if ¬ (0 ≤ a ∧ a ≤ 3) then true else if b < 0 then true else if 2 < b then true else !decide (0 ≤ d ∧ d ≤ 10)) = true := by
        by_cases q1 : 0 ≤ a ∧ a ≤ 3
        · rw [if_neg (not_not_intro q1)]
          by_cases q2 : b < 0
          · rw [if_pos q2]
          · rw [if_neg q2]
            by_cases q3 : 2 < b
            · rw [if_pos q3]
            · rw [if_neg q3]
              have : ¬ (0 ≤ d ∧ d ≤ 10) := fun z => hall ⟨q1, ⟨Int32.not_lt.mp q2, Int32.not_lt.mp q3⟩, z⟩
              simp [this]
        · rw [if_pos q1]
      rw [this]
      simp
    · unfold FX9_streetsBy
      simp only [z_lt, z_in, zi0]
      have : (if ¬ (0 ≤ a ∧ a ≤ 3) then true else if ¬ (0 ≤ b ∧ b ≤ 2) then true else if ¬ (0 ≤ d ∧ d ≤ 10) then true else false) = true := by
        by_cases q1 : 0 ≤ a ∧ a ≤ 3 <;> by_cases q2 : 0 ≤ b ∧ b ≤ 2 <;> by_cases q3 : 0 ≤ d ∧ d ≤ 10 <;> simp only [q1, q2, q3, and_self, not_true, not_false_eq_true, if_true, if_false]
        exact absurd ⟨q1, q2, q3⟩ hall
      rw [this]
      simp
  obtain ⟨ha, hb, hd⟩ := hall
  obtain ⟨s, hs, rfl⟩ := zrange (n := 3) (by decide) ha
  obtain ⟨n, hn, rfl⟩ := zrange (n := 10) (by decide) hd
  obtain ⟨⟨g1, g2⟩, ⟨g3, g4, g5⟩, g6⟩ := h.2.2.2.2.2.2.1 s (by omega)
  have hix : Int32.toNatClampNeg (nI s) = s := z_ix (by omega)
  have hsrt := srt _ g2
  have nb0 : ¬ b < 0 := Int32.not_lt.mpr hb.1
  have nb2 : ¬ 2 < b := Int32.not_lt.mpr hb.2
  have m1 : FX2_isMissing (44 + s) MX = 0 ↔ ¬ MY.1 9 s = -1 := by
    unfold FX2_isMissing
    rw [g1]
    by_cases q : 0 ≤ MY.1 9 s
    · simp [q]; exact hsrt.mp q
    · simp [q]
      by_cases z : MY.1 9 s = -1
      · exact z
      · exact absurd (hsrt.mpr z) q
  have hX0 : FX8_streetsBy (nI s) b c (nI n) MX = if ¬ MY.1 9 s = -1 then (if MY.1 9 s = b then
        ob (FX8_streetsBy_L71 FU (44 + s) (nI n) 0 c 0 MX) fun q7 => Sum.elim (fun v9 => some v9) (fun q11 => some (q11.1, q11.2)) q7
      else some ((-13), MX)) else some ((-11), MX) := by
    unfold FX8_streetsBy
    simp only [z_lt, x_isSheet, zi0, zrb]
    simp (disch := omega) only [ha, hd, and_self, not_true, if_false, nb0, nb2, decide_true, Bool.not_true, Bool.false_eq_true, z_gi, hix, g1, m1]
  have hY0 : FX9_streetsBy (nI s) b c (nI n) MY = if MY.1 9 s = -1 then some ((-11), MY) else if MY.1 9 s = b then
        ob (FX9_streetsBy_L64 FU (nI s) c (nI n) 0 0 MY) fun q7 => Sum.elim (fun v9 => some v9) (fun q11 => some (q11.1, q11.2)) q7
      else some ((-13), MY) := by
    unfold FX9_streetsBy
    simp only [z_lt, z_in, zi0]
    simp (disch := omega) only [ha, hb, hd, and_self, not_true, if_false, z_gi, hix, Bool.false_eq_true]
  by_cases hm : MY.1 9 s = -1
  · apply same (-11)
    · rw [hX0, if_neg (not_not_intro hm)]
    · rw [hY0, if_pos hm]
  by_cases hq : MY.1 9 s = b
  rotate_left
  · apply same (-13)
    · rw [hX0, if_pos hm, if_neg hq]
    · rw [hY0, if_neg hm, if_neg hq]
  rw [hX0, hY0, if_pos hm, if_neg hm, if_pos hq, if_pos hq]
  have fin : ∀ z MX' MY', ((FX8_streetsBy_L71 FU (44 + s) (nI n) 0 c 0 MX = some (.inl (z, MX')) ∧ FX9_streetsBy_L64 FU (nI s) c (nI n) 0 0 MY = some (.inl (z, MY'))) ∨ (FX8_streetsBy_L71 FU (44 + s) (nI n) 0 c 0 MX = some (.inr (z, MX')) ∧ FX9_streetsBy_L64 FU (nI s) c (nI n) 0 0 MY = some (.inr (z, MY')))) → Sim MX' MY' →
      ∃ r MX' MY', (ob (FX8_streetsBy_L71 FU (44 + s) (nI n) 0 c 0 MX) fun q7 => Sum.elim (fun v9 => some v9) (fun q11 => some (q11.1, q11.2)) q7) = some (r, MX') ∧ (ob (FX9_streetsBy_L64 FU (nI s) c (nI n) 0 0 MY) fun q7 => Sum.elim (fun v9 => some v9) (fun q11 => some (q11.1, q11.2)) q7) = some (r, MY') ∧ Sim MX' MY' := by
    intro z MX' MY' hh hs'
    rcases hh with ⟨e1, e2⟩ | ⟨e1, e2⟩
    · exact ⟨z, MX', MY', by rw [e1]; rfl, by rw [e2]; rfl, hs'⟩
    · exact ⟨z, MX', MY', by rw [e1]; rfl, by rw [e2]; rfl, hs'⟩
  have hfu : n < FU := by rw [z_FU]; omega
  rcases z_cls c 41 (by decide) with ⟨q, hq41, rfl⟩ | hc
  · obtain ⟨r, hr⟩ := sbL (s := s) (n := n) (q := q) (by omega) hn (by omega) (m := u 6 s) n 0 0 FU FU v u MX MY (by omega) hfu hfu (by omega) h rfl
    rw [show q + 4 * 0 = q by omega, show nI 0 = 0 from rfl] at hr
    rcases hr with ⟨z, MX', MY', e1, e2, e3, -⟩ | ⟨z, MX', MY', e1, e2, e3, -⟩
    · exact fin z MX' MY' (Or.inl ⟨e1, e2⟩) e3
    · exact fin z MX' MY' (Or.inr ⟨e1, e2⟩) e3
  · obtain ⟨F, hF⟩ : ∃ F, FU = F + 1 := ⟨99999, rfl⟩
    rcases Nat.eq_zero_or_pos n with hn0 | hn0
    · subst hn0
      refine fin 0 MX MY (Or.inr ⟨?_, ?_⟩) ⟨v, u, tx, h⟩
      · rw [hF, FX8_streetsBy_L71]
        rfl
      · rw [hF, FX9_streetsBy_L64]
        rfl
    · have c1 : ¬ nI n ≤ 0 := nI_nle hn0 (by omega)
      refine fin (-12) MX MY (Or.inl ⟨?_, ?_⟩) ⟨v, u, tx, h⟩
      · have hh : FX2_holds (44 + s) c 4 MX = 0 := by
          rw [x_holds g3 g5, if_neg]
          rintro ⟨w1, -, w2⟩
          rcases hc with w | w
          · exact w1 w
          · obtain ⟨j, hj, rfl⟩ := nI_of w1
            rw [z_le (by decide) (by omega)] at w
            rw [z_ix (by omega)] at w2
            omega
        rw [hF, FX8_streetsBy_L71, if_neg c1, hh, if_pos rfl]
      · rw [hF, FX9_streetsBy_L64, if_neg c1]
        simp only [z_lt]
        rw [show c + 4 * 0 = c by rw [Int32.mul_zero, Int32.add_zero]]
        rcases hc with w | w
        · rw [if_pos w, z_ob, if_pos rfl]
        · by_cases w1 : c < 0
          · rw [if_pos w1, z_ob, if_pos rfl]
          · rw [if_neg w1, if_neg Int32.lt_irrefl, z_gi (by omega) (by decide), hix, g4, if_neg, z_ob, if_pos rfl]
            obtain ⟨j, hj, rfl⟩ := nI_of w1
            rw [z_le (by decide) (by omega)] at w
            rw [fa_le, nI_toInt (by omega), show (4 : Int32) = nI 4 from rfl, pk_sub_toInt (by omega) (by omega)]
            omega
