/-! SHEETS: sheet, cell, copy, streetsBy -/
theorem x_isSheet (a : Int32) : FX8_isSheet a = if 0 ≤ a ∧ a ≤ 3 then 1 else 0 := by
  have e := zlt_iff a (n := 3) (by decide)
  rw [show nI (3 + 1) = 4 from rfl, show nI 3 = 3 from rfl] at e
  unfold FX8_isSheet
  simp only [z_lt, zrf, e]
  by_cases h : 0 ≤ a ∧ a ≤ 3 <;> simp [h]
/-- Arrays.fill -/
def fillC (M : Mem) (k n : Nat) (v : Int32) : Mem := setC M k (fun j => if j < n then v else M.1 k j)
theorem fillC_0 (M : Mem) (k : Nat) (v : Int32) : fillC M k 0 v = M := by
  unfold fillC setC
  refine Prod.ext ?_ rfl
  funext k'
  by_cases h : k' = k
  · subst h; simp
  · simp [h]
theorem fillC_s (M : Mem) (k n : Nat) (v : Int32) : wr (fillC M k n v) k n v = fillC M k (n + 1) v := by
  refine Prod.ext ?_ rfl
  funext k' j
  show (wr (fillC M k n v) k n v).1 k' j = (fillC M k (n + 1) v).1 k' j
  rw [wr_at]
  unfold fillC setC
  by_cases h : k' = k
  · subst h
    by_cases hj : j = n
    · simp [hj]
    · simp only [true_and, hj, if_false, if_true]
      have : (j < n + 1) ↔ (j < n) := by omega
      simp only [this]
  · simp [h]
theorem fill_L {p0 n0 : Nat} {v : Int32} {M : Mem} (hn : n0 < 2147483648) : ∀ (k i f : Nat), i + k = n0 → k < f → FJ7_fill_53178_L5 f p0 n0 v (nI n0) (nI i) (fillC M p0 i v) = some (fillC M p0 n0 v) := by
  intro k
  induction k with
  | zero =>
    intro i f hi hf
    obtain ⟨f, rfl⟩ : ∃ g, f = g + 1 := ⟨f - 1, by omega⟩
    have : i = n0 := by omega
    subst this
    rw [FJ7_fill_53178_L5, if_pos (Int32.le_refl _)]
  | succ k ih =>
    intro i f hi hf
    obtain ⟨f, rfl⟩ : ∃ g, f = g + 1 := ⟨f - 1, by omega⟩
    have ihh := ih (i + 1) f (by omega) (by omega)
    have g1 : ¬ nI n0 ≤ nI i := nI_ge (by omega) (by omega)
    rw [FJ7_fill_53178_L5]
    simp (disch := omega) only [g1, if_false, z_lt, z_gi, z_ix, nI_1, fillC_s]
    exact ihh
theorem fill_eq {p0 n0 : Nat} {v : Int32} {M : Mem} (hn : n0 < 100000) : FJ7_fill_53178 p0 n0 v M = some (fillC M p0 n0 v) := by
  unfold FJ7_fill_53178
  have := fill_L (p0 := p0) (v := v) (M := M) (n0 := n0) (by omega) n0 0 FU (by omega) (by rw [z_FU]; omega)
  rw [fillC_0] at this
  rw [z_lt, show (0 : Int32) = nI 0 from rfl, show Int32.ofNat n0 = nI n0 from rfl, this, z_ob]
theorem fillC_at (M : Mem) (k n : Nat) (v : Int32) (k' j : Nat) : (fillC M k n v).1 k' j = if k' = k ∧ j < n then v else M.1 k' j := by
  unfold fillC setC
  by_cases h : k' = k
  · subst h
    simp
  · simp [h]
theorem fillC_cell (M : Mem) {k n : Nat} (v : Int32) {k' : Nat} (h : k' ≠ k) : (fillC M k n v).1 k' = M.1 k' := setC_ne M _ h
/-- a run of a reference's cells becomes 0 -/
def zeroY (a : Nat) (n : Nat) (M : Mem) : Mem := setC M 11 (fun j => if a ≤ j ∧ j < a + n then 0 else M.1 11 j)
theorem zeroY_0 (a : Nat) (M : Mem) : zeroY a 0 M = M := by
  unfold zeroY setC
  refine Prod.ext ?_ rfl
  funext k' j
  by_cases h : k' = 11
  · subst h
    have : ¬ (a ≤ j ∧ j < a + 0) := by omega
    simp
    omega
  · simp [h]
theorem zeroY_s (a n : Nat) (M : Mem) : wr (zeroY a n M) 11 (a + n) 0 = zeroY a (n + 1) M := by
  refine Prod.ext ?_ rfl
  funext k' j
  show (wr (zeroY a n M) 11 (a + n) 0).1 k' j = (zeroY a (n + 1) M).1 k' j
  rw [wr_at]
  unfold zeroY setC
  by_cases h : k' = 11
  · subst h
    by_cases hj : j = a + n
    · simp [hj]
    · simp only [true_and, hj, if_false, if_true]
      have : (a ≤ j ∧ j < a + (n + 1)) ↔ (a ≤ j ∧ j < a + n) := by omega
      simp only [this]
  · simp [h]
theorem zeroY_at (a n : Nat) (M : Mem) (k' j : Nat) : (zeroY a n M).1 k' j = if k' = 11 ∧ a ≤ j ∧ j < a + n then 0 else M.1 k' j := by
  unfold zeroY setC
  by_cases h : k' = 11
  · subst h
    simp
  · simp [h]
theorem y_sheetL {s : Nat} (hs : s < 4) {M : Mem} : ∀ (k i f : Nat), i + k = 40 → k < f → FX9_sheet_L70 f (nI s) (nI i) (zeroY (40 * s) i M) = some (zeroY (40 * s) 40 M) := by
  intro k
  induction k with
  | zero =>
    intro i f hi hf
    obtain ⟨f, rfl⟩ : ∃ g, f = g + 1 := ⟨f - 1, by omega⟩
    have : i = 40 := by omega
    subst this
    rw [FX9_sheet_L70, if_pos (by decide)]
  | succ k ih =>
    intro i f hi hf
    obtain ⟨f, rfl⟩ : ∃ g, f = g + 1 := ⟨f - 1, by omega⟩
    have ihh := ih (i + 1) f (by omega) (by omega)
    have g1 : ¬ 40 ≤ nI i := nI_ge (b := 40) (by omega) (by decide)
    have e : 40 * nI s + nI i = nI (40 * s + i) := by rw [show (40 : Int32) = nI 40 from rfl, pk_mul, nI_add]
    rw [FX9_sheet_L70]
    simp (disch := omega) only [g1, if_false, z_lt, e, z_gi, z_ix, nI_1, zeroY_s]
    exact ihh
/-- the sheets change, nothing else -/
theorem RR.sh {v : Nat → Nat} {u u' : Nat → Nat → Nat} {tx : Nat → Txt} {MX MY MX' MY' : Mem} (h : RR v u tx MX MY) (hX : ∀ k, k < 44 → MX'.1 k = MX.1 k) (hY : ∀ k, (k < 9 ∨ k = 13) → MY'.1 k = MY.1 k) (hu : ∀ j, j < 6 → u' j = u j) (hH : RH u' MX' MY') : RR v u' tx MX' MY' := by
  obtain ⟨hA, hB, hK, hS, hT, hTx, -, hZ⟩ := h
  refine ⟨?_, hB, ?_, ?_, ?_, hTx.fr hB.2.2.2.2.2.2.1 (fun c h1 h2 => hX c (by omega)) (hY 7 (by omega)) (hY 8 (by omega)) (hY 13 (by omega)), hH, hZ.fr (fun c h1 h2 => hX c (by omega))⟩
  · unfold RA at hA ⊢
    rw [hX 1 (by omega), hX 14 (by omega), hX 10 (by omega), hY 0 (by omega)]
    exact hA
  · unfold RK at hK ⊢
    rw [hX 0 (by omega), hX 2 (by omega), hY 0 (by omega)]
    exact hK
  · have := hS.fr (MX' := MX') (MY' := MY') (fun k h1 h2 s _ => by rw [hX k (by omega)]) (fun k h1 h2 s _ => by rw [hY k (by omega)])
    intro s hs
    rw [hu 0 (by omega), hu 1 (by omega), hu 2 (by omega), hu 3 (by omega), hu 4 (by omega)]
    exact this s hs
  · have := hT.fr (MX' := MX') (MY' := MY') (fun i _ => by rw [hX 11 (by omega)]) (fun i _ => by rw [hY 6 (by omega)])
    intro i hi
    rw [hu 5 (by omega)]
    exact this i hi
def upZ (u : Nat → Nat → Nat) (s n : Nat) : Nat → Nat → Nat := fun j i => if j = 6 ∧ i = s then n else u j i
theorem eq_sheet {MX MY : Mem} (h : Sim MX MY) (a b c : Int32) : ∃ r MX' MY', FX8_sheet a b c MX = some (r, MX') ∧ FX9_sheet a b c MY = some (r, MY') ∧ Sim MX' MY' := by
  obtain ⟨v, u, tx, h⟩ := h
  have same : ∀ r, FX8_sheet a b c MX = some (r, MX) → FX9_sheet a b c MY = some (r, MY) → ∃ r MX' MY', FX8_sheet a b c MX = some (r, MX') ∧ FX9_sheet a b c MY = some (r, MY') ∧ Sim MX' MY' :=
    fun r e1 e2 => ⟨r, MX, MY, e1, e2, v, u, tx, h⟩
  by_cases ha : 0 ≤ a ∧ a ≤ 3
  rotate_left
  · apply same (-2)
    · unfold FX8_sheet
      simp only [z_lt, x_isSheet, zi0]
      simp [ha]
    · unfold FX9_sheet
      simp only [z_lt, z_in, zi0]
      simp [ha]
  by_cases hb : (-1) ≤ b ∧ b ≤ 2
  rotate_left
  · apply same (-2)
    · unfold FX8_sheet
      simp only [z_lt, x_isSheet, zi0, zrb]
      simp [ha, hb]
    · unfold FX9_sheet
      simp only [z_lt, z_in, zi0]
      simp [ha, hb]
  obtain ⟨s, hs, rfl⟩ := zrange (n := 3) (by decide) ha
  have hbc : b = -1 ∨ b = 0 ∨ b = 1 ∨ b = 2 := by
    by_cases h0 : 0 ≤ b
    · obtain ⟨k, hk, rfl⟩ := zrange (n := 2) (by decide) ⟨h0, hb.2⟩
      rcases (show k = 0 ∨ k = 1 ∨ k = 2 by omega) with rfl | rfl | rfl
      · exact Or.inr (Or.inl rfl)
      · exact Or.inr (Or.inr (Or.inl rfl))
      · exact Or.inr (Or.inr (Or.inr rfl))
    · left
      have h1 := (fa_le _ _).mp hb.1
      have h2 : ¬ (0 : Int32).toInt ≤ b.toInt := fun z => h0 ((fa_le _ _).mpr z)
      have e1 : (-1 : Int32).toInt = -1 := rfl
      have e0 : (0 : Int32).toInt = 0 := rfl
      exact (fa_eq _ _).mpr (by omega)
  -- what comes of it
  have go : ∀ m, m ≤ 40 → FX8_sheet (nI s) b c MX = some (1, fillC (wr (wr MX (44 + s) 1 b) (44 + s) 2 (nI m)) (44 + s + 4) 40 0) → FX9_sheet (nI s) b c MY = some (1, zeroY (40 * s) 40 (wr (wr MY 9 s b) 10 s (nI m))) → ∃ r MX' MY', FX8_sheet (nI s) b c MX = some (r, MX') ∧ FX9_sheet (nI s) b c MY = some (r, MY') ∧ Sim MX' MY' := by
    intro m hm e1 e2
    refine ⟨1, _, _, e1, e2, v, upZ u s m, tx, h.sh (fun k hk => ?_) (fun k hk => ?_) (fun j hj => ?_) ?_⟩
    · rw [fillC_cell _ _ (by omega), wr_cell _ _ (by omega), wr_cell _ _ (by omega)]
    · funext j
      rw [zeroY_at, if_neg (by omega), wr_cell _ _ (by omega), wr_cell _ _ (by omega)]
    · funext i
      simp only [upZ]
      rw [if_neg (by omega)]
    · intro t ht
      obtain ⟨g1, g2, g3⟩ := h.2.2.2.2.2.2.1 t ht
      by_cases hts : t = s
      · subst hts
        refine ⟨⟨?_, ?_⟩, ⟨?_, ?_, ?_⟩, ?_⟩
        · simp only [fillC_at, wr_at, zeroY_at]
          simp
        · simp only [zeroY_at, wr_at]
          simp
          exact hbc
        · simp only [fillC_at, wr_at, upZ]
          simp
        · simp only [zeroY_at, wr_at, upZ]
          simp
        · simp only [upZ]
          simp
          exact hm
        · intro i hi
          have q2 : 48 + t = 44 + t + 4 := by omega
          rw [fillC_at, zeroY_at, if_pos ⟨q2, hi⟩, if_pos ⟨rfl, by omega, by omega⟩]
      · have q1 : ¬ t + 44 = s + 44 + 4 := by omega
        refine ⟨⟨?_, ?_⟩, ⟨?_, ?_, ?_⟩, ?_⟩
        · simp only [fillC_at, wr_at, zeroY_at]
          rw [if_neg (by omega), if_neg (by omega), if_neg (by omega), if_neg (by omega), if_neg (by omega), if_neg (by omega)]
          exact g1.1
        · simp only [zeroY_at, wr_at]
          rw [if_neg (by omega), if_neg (by omega), if_neg (by omega)]
          exact g1.2
        · simp only [fillC_at, wr_at, upZ]
          rw [if_neg (by omega), if_neg (by omega), if_neg (by omega), if_neg (by omega)]
          exact g2.1
        · simp only [zeroY_at, wr_at, upZ]
          simp [hts]
          exact g2.2.1
        · simp only [upZ]
          rw [if_neg (by omega)]
          exact g2.2.2
        · intro i hi
          simp only [fillC_at, zeroY_at, wr_at]
          rw [if_neg (by omega), if_neg (by omega), if_neg (by omega), if_neg (by omega), if_neg (by omega), if_neg (by omega)]
          exact g3 i hi
  have ba : 0 ≤ nI s ∧ nI s ≤ 3 := ha
  have hix : Int32.toNatClampNeg (nI s) = s := z_ix (by omega)
  have hYL := fun M => y_sheetL (s := s) (by omega) (M := M) 40 0 FU (by omega) (by rw [z_FU]; omega)
  simp only [zeroY_0, show nI 0 = 0 from rfl] at hYL
  by_cases hm : b = -1
  · subst hm
    apply go 0 (by omega)
    · unfold FX8_sheet FX2_become
      simp only [z_lt, x_isSheet, zi0, zrb]
      simp (disch := omega) only [ba, and_self, not_true, if_false, z_gi, hix]
      simp [fill_eq, z_ob]
      rfl
    · unfold FX9_sheet
      simp only [z_lt, z_in, zi0]
      simp (disch := omega) only [ba, and_self, not_true, if_false, z_gi, hix]
      simp [hYL, z_ob]
      rfl
  have hb0 : 0 ≤ b := by rcases hbc with h | rfl | rfl | rfl; exact absurd h hm; all_goals decide
  have nb0 : ¬ b < 0 := Int32.not_lt.mpr hb0
  by_cases hc : c ≤ 40
  rotate_left
  · apply same (-2)
    · unfold FX8_sheet
      simp only [z_lt, x_isSheet, zi0, zrb]
      simp [ba, hb, nb0, hc]
    · unfold FX9_sheet
      simp only [z_lt, z_in, zi0]
      simp [ba, hb, hm, hc]
  by_cases hc0 : 0 ≤ c
  rotate_left
  · apply same (-14)
    · unfold FX8_sheet
      simp only [z_lt, x_isSheet, zi0, zrb]
      simp [ba, hb, nb0, hc, hc0]
    · unfold FX9_sheet
      simp only [z_lt, z_in, zi0]
      simp [ba, hb, hm, hc, hc0]
  obtain ⟨m, hm40, rfl⟩ := zrange (n := 40) (by decide) ⟨hc0, hc⟩
  have e1 : (if nI m < 40 then nI m else 40) = nI m := by
    by_cases g : m < 40
    · exact if_pos ((z_lts (b := 40) (by omega) (by decide)).mpr g)
    · have : m = 40 := by omega
      subst this
      rfl
  have e2 : (if 0 < nI m then nI m else 0) = nI m := by
    by_cases g : 0 < m
    · exact if_pos ((z_lts (a := 0) (by decide) (by omega)).mpr g)
    · have : m = 0 := by omega
      subst this
      rfl
  apply go m hm40
  · unfold FX8_sheet FX2_become
    simp only [z_lt, x_isSheet, zi0, zrb]
    simp (disch := omega) only [ba, and_self, not_true, if_false, z_gi, hix]
    simp [fill_eq, z_ob, hb, nb0, hb0, hc, hc0, e1, e2]
  · unfold FX9_sheet
    simp only [z_lt, z_in, zi0]
    simp (disch := omega) only [ba, and_self, not_true, if_false, z_gi, hix]
    simp [hYL, z_ob, hb, hm, hc, hc0]
