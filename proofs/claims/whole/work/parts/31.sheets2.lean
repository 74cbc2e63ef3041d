/-! cell, copy, streetsBy -/
theorem nIsubG {n : Nat} (hn : n < 2147483648) (a : Int32) : (0 ≤ a ∧ a ≤ nI n - 1) ↔ (0 ≤ a ∧ a < nI n) := by
  rcases Nat.eq_zero_or_pos n with h | h
  · subst h
    constructor
    · rintro ⟨h1, h2⟩
      exact absurd (Int32.le_trans h1 h2) (by decide)
    · rintro ⟨h1, h2⟩
      exact absurd h2 (Int32.not_lt.mpr h1)
  · rw [show (1 : Int32) = nI 1 from rfl, z_sub (by omega), ← zlt_iff a (by omega), show n - 1 + 1 = n by omega]
theorem z_lesub {p m k : Nat} (hp : p < 1073741824) (hm : m < 1073741824) (hk : k < 1073741824) : nI p ≤ nI m - nI k ↔ p + k ≤ m := by
  rw [fa_le, nI_toInt (by omega), pk_sub_toInt (by omega) (by omega)]
  omega
theorem srt (x : Int32) (h : x = -1 ∨ x = 0 ∨ x = 1 ∨ x = 2) : 0 ≤ x ↔ x ≠ -1 := by
  rcases h with rfl | rfl | rfl | rfl <;> decide
theorem eq_cell {MX MY : Mem} (h : Sim MX MY) (a b c : Int32) : ∃ r MX' MY', FX8_cell a b c MX = some (r, MX') ∧ FX9_cell a b c MY = some (r, MY') ∧ Sim MX' MY' := by
  obtain ⟨v, u, tx, h⟩ := h
  have same : ∀ r, FX8_cell a b c MX = some (r, MX) → FX9_cell a b c MY = some (r, MY) → ∃ r MX' MY', FX8_cell a b c MX = some (r, MX') ∧ FX9_cell a b c MY = some (r, MY') ∧ Sim MX' MY' :=
    fun r e1 e2 => ⟨r, MX, MY, e1, e2, v, u, tx, h⟩
  by_cases ha : 0 ≤ a ∧ a ≤ 3
  rotate_left
  · apply same (-2)
    · unfold FX8_cell
      simp only [x_isSheet, zi0]
      simp [ha]
    · unfold FX9_cell
      simp only [z_in, zi0]
      simp [ha]
  obtain ⟨s, hs, rfl⟩ := zrange (n := 3) (by decide) ha
  obtain ⟨⟨g1, g2⟩, ⟨g3, g4, g5⟩, g6⟩ := h.2.2.2.2.2.2.1 s (by omega)
  have hix : Int32.toNatClampNeg (nI s) = s := z_ix (by omega)
  have hsrt := srt _ g2
  by_cases hm : MY.1 9 s = -1
  · apply same (-11)
    · unfold FX8_cell FX2_isMissing
      simp only [x_isSheet, zi0]
      simp (disch := omega) only [ha, and_self, not_true, if_false, z_gi, hix, g1, hm]
      rfl
    · unfold FX9_cell
      simp only [z_in, zi0]
      simp (disch := omega) only [ha, and_self, not_true, if_false, z_gi, hix, hm, if_true]
  have h0 : 0 ≤ MY.1 9 s := hsrt.mpr hm
  by_cases hb : 0 ≤ b ∧ b < nI (u 6 s)
  rotate_left
  · apply same (-12)
    · have : b < 0 ∨ ¬ b < nI (u 6 s) := by
        by_cases q : 0 ≤ b
        · exact Or.inr fun z => hb ⟨q, z⟩
        · exact Or.inl (Int32.not_le.mp q)
      unfold FX8_cell FX2_isMissing
      simp only [x_isSheet, zi0]
      simp (disch := omega) only [ha, and_self, not_true, if_false, z_gi, hix, g1, h0, if_true, g3]
      rcases this with q | q <;> simp [q]
    · unfold FX9_cell
      simp only [z_in, zi0]
      simp (disch := omega) only [ha, and_self, not_true, if_false, z_gi, hix, hm, g4, nIsubG (show u 6 s < 2147483648 by omega)]
      simp only [hb, not_false_eq_true, if_true]
  obtain ⟨i, hi, rfl⟩ : ∃ i, i < u 6 s ∧ b = nI i := by
    obtain ⟨j, hj, rfl⟩ := nI_of (Int32.not_lt.mpr hb.1)
    exact ⟨j, (z_lts (by omega) (by omega)).mp hb.2, rfl⟩
  have nb : ¬ nI i < 0 := z_neg (by omega)
  have go : ∀ x, FX8_cell (nI s) (nI i) c MX = some (1, wr MX (44 + s + 4) i x) → FX9_cell (nI s) (nI i) c MY = some (1, wr MY 11 (40 * s + i) x) → ∃ r MX' MY', FX8_cell (nI s) (nI i) c MX = some (r, MX') ∧ FX9_cell (nI s) (nI i) c MY = some (r, MY') ∧ Sim MX' MY' := by
    intro x e1 e2
    refine ⟨1, _, _, e1, e2, v, u, tx, h.sh (fun k hk => wr_cell _ _ (by omega)) (fun k hk => wr_cell _ _ (by omega)) (fun _ _ => rfl) ?_⟩
    intro t ht
    obtain ⟨q1, q2, q3⟩ := h.2.2.2.2.2.2.1 t ht
    rw [wr_cell _ _ (show (9 : Nat) ≠ 11 by decide), wr_cell _ _ (show (10 : Nat) ≠ 11 by decide), wr_cell _ _ (show 44 + t ≠ 44 + s + 4 by omega)]
    refine ⟨q1, q2, fun j hj => ?_⟩
    rw [wr_at, wr_at, q3 j hj]
    by_cases e : t = s ∧ j = i
    · obtain ⟨rfl, rfl⟩ := e
      rw [if_pos ⟨by omega, rfl⟩, if_pos ⟨rfl, rfl⟩]
    · rw [if_neg (by omega), if_neg (by omega)]
  have e40 : 40 * nI s + nI i = nI (40 * s + i) := by rw [show (40 : Int32) = nI 40 from rfl, pk_mul, nI_add]
  have hY : ∀ x, (if MY.1 9 s = 0 then some c.toInt8.toInt32 else if MY.1 9 s = 1 then some c.toInt16.toInt32 else some c) = some x → FX9_cell (nI s) (nI i) c MY = some (1, wr MY 11 (40 * s + i) x) := by
    intro x hx
    unfold FX9_cell
    simp only [z_in, zi0]
    simp (disch := omega) only [ha, and_self, not_true, if_false, z_gi, hix, hm, g4, nIsubG (show u 6 s < 2147483648 by omega)]
    simp (disch := omega) only [hb, and_self, not_true, if_false, hx, z_ob, e40, z_gi, z_ix, z_lt]
  have hX : ∀ x, (if MY.1 9 s = 0 then some c.toInt8.toInt32 else if MY.1 9 s = 1 then some c.toInt16.toInt32 else some c) = some x → FX8_cell (nI s) (nI i) c MX = some (1, wr MX (44 + s + 4) i x) := by
    intro x hx
    unfold FX8_cell FX2_isMissing FX2_put
    simp only [x_isSheet, zi0]
    simp (disch := omega) only [ha, and_self, not_true, if_false, z_gi, hix, g1, h0, if_true, g3, nb, z_lt, zrs, hb.2]
    simp (disch := omega) only [hb, and_self, decide_true, Bool.not_true, Bool.false_eq_true, if_false, z_gi, z_ix]
    by_cases c0 : MY.1 9 s = 0
    · simp only [c0, if_true] at hx ⊢
      rw [Option.some.inj hx, z_ob]
    · by_cases c1 : MY.1 9 s = 1
      · simp only [c1, if_true] at hx ⊢
        rw [if_neg (by decide)] at hx ⊢
        rw [Option.some.inj hx, z_ob]
      · simp only [c0, c1, if_false] at hx ⊢
        rw [Option.some.inj hx, z_ob]
  by_cases c0 : MY.1 9 s = 0
  · exact go _ (hX _ (by rw [if_pos c0])) (hY _ (by rw [if_pos c0]))
  · by_cases c1 : MY.1 9 s = 1
    · exact go _ (hX _ (by rw [if_neg c0, if_pos c1])) (hY _ (by rw [if_neg c0, if_pos c1]))
    · exact go _ (hX _ (by rw [if_neg c0, if_neg c1])) (hY _ (by rw [if_neg c0, if_neg c1]))
-- copy
theorem x_holds {M : Mem} {k m : Nat} (h : M.1 k 2 = nI m) (hm : m ≤ 40) (i n : Int32) : FX2_holds k i n M = if (¬ i < 0 ∧ ¬ n < 0 ∧ i.toNatClampNeg + n.toNatClampNeg ≤ m) then 1 else 0 := by
  unfold FX2_holds
  rw [h]
  simp only [z_lt]
  by_cases hi : i < 0
  · simp [hi]
  · by_cases hn : n < 0
    · simp [hi, hn]
    · obtain ⟨p, hp, rfl⟩ := nI_of hi
      obtain ⟨q, hq, rfl⟩ := nI_of hn
      rw [z_ix (by omega), z_ix (by omega)]
      have e : nI m - nI q < nI p ↔ m < p + q := by
        rw [fa_lt, nI_toInt (n := p) (by omega), fb_subI (by rw [nI_toInt (by omega), nI_toInt (by omega)]; omega) (by rw [nI_toInt (by omega), nI_toInt (by omega)]; omega), nI_toInt (by omega), nI_toInt (by omega)]
        omega
      simp only [hi, hn, if_false, e, not_false_eq_true, true_and]
      by_cases g : m < p + q
      · have : ¬ p + q ≤ m := by omega
        simp [g, this]
      · have : p + q ≤ m := by omega
        simp [g, this]
/-- a run of the reference's cells, k of n places copied from a to b -/
def cpk (f : Nat → Int32) (a b n k : Nat) : Nat → Int32 := fun j => if (if a < b then b + n ≤ j + k ∧ j < b + n else b ≤ j ∧ j < b + k) then f (a + (j - b)) else f j
theorem cpk_0 (f : Nat → Int32) (a b n : Nat) : cpk f a b n 0 = f := by
  funext j
  unfold cpk
  by_cases h : a < b
  · simp only [h, if_true]
    rw [if_neg (by omega)]
  · simp only [h, if_false]
    rw [if_neg (by omega)]
theorem cpk_n (f : Nat → Int32) (a b n : Nat) : cpk f a b n n = va_cpy f f a b n := by
  funext j
  unfold cpk va_cpy
  by_cases h : a < b
  · simp only [h, if_true]
    have : (b + n ≤ j + n ∧ j < b + n) ↔ (b ≤ j ∧ j < b + n) := by omega
    simp only [this]
  · simp only [h, if_false]
theorem cpk_s (f : Nat → Int32) {a b n k x : Nat} (hk : k < n) (hx : x = if a < b then n - 1 - k else k) : upd (cpk f a b n k) (b + x) (cpk f a b n k (a + x)) = cpk f a b n (k + 1) := by
  have hr : cpk f a b n k (a + x) = f (a + x) := by
    unfold cpk
    rw [if_neg]
    subst hx
    split <;> omega
  rw [hr]
  funext j
  unfold upd
  by_cases hj : j = b + x
  · subst hj
    rw [if_pos rfl]
    unfold cpk
    rw [if_pos]
    · congr 1
      omega
    · subst hx
      split <;> omega
  · rw [if_neg hj]
    unfold cpk
    have : (if a < b then b + n ≤ j + (k + 1) ∧ j < b + n else b ≤ j ∧ j < b + (k + 1)) ↔ (if a < b then b + n ≤ j + k ∧ j < b + n else b ≤ j ∧ j < b + k) := by
      subst hx
      by_cases h : a < b
      · simp only [h, if_true] at hj ⊢
        omega
      · simp only [h, if_false] at hj ⊢
        omega
    simp only [this]
theorem setC_self (M : Mem) (k : Nat) : setC M k (M.1 k) = M := by
  unfold setC
  refine Prod.ext ?_ rfl
  funext k'
  by_cases h : k' = k
  · subst h; simp
  · simp [h]
theorem wr_setC (M : Mem) (k j : Nat) (f : Nat → Int32) (v : Int32) : wr (setC M k f) k j v = setC M k (upd f j v) := by
  unfold wr
  rw [setC_eq]
  unfold setC
  refine Prod.ext ?_ rfl
  funext k'
  by_cases h : k' = k
  · subst h; simp
  · simp [h]
theorem y_copyL {a b n : Nat} (ha : a + n ≤ 160) (hb : b + n ≤ 160) {M : Mem} : ∀ (m k f : Nat), k + m = n → m < f → FX9_copy_L147 f (nI n) (nI a) (nI b) (nI k) (setC M 11 (cpk (M.1 11) a b n k)) = some (setC M 11 (cpk (M.1 11) a b n n)) := by
  intro m
  induction m with
  | zero =>
    intro k f hk hf
    obtain ⟨f, rfl⟩ : ∃ g, f = g + 1 := ⟨f - 1, by omega⟩
    have : k = n := by omega
    subst this
    rw [FX9_copy_L147, if_pos (Int32.le_refl _)]
  | succ m ih =>
    intro k f hk hf
    obtain ⟨f, rfl⟩ : ∃ g, f = g + 1 := ⟨f - 1, by omega⟩
    have ihh := ih (k + 1) f (by omega) (by omega)
    have g1 : ¬ nI n ≤ nI k := nI_ge (by omega) (by omega)
    have ex : (if nI b ≤ nI a then nI k else nI n - 1 - nI k) = nI (if a < b then n - 1 - k else k) := by
      by_cases h : a < b
      · rw [if_neg (by rw [z_le (by omega) (by omega)]; omega), if_pos h, show (1 : Int32) = nI 1 from rfl, z_sub (by omega), z_sub (by omega)]
      · rw [if_pos (by rw [z_le (by omega) (by omega)]; omega), if_neg h]
    have hx : (if a < b then n - 1 - k else k) < n := by split <;> omega
    rw [FX9_copy_L147]
    simp only [g1, if_false, z_lt, ex]
    generalize hxx : (if a < b then n - 1 - k else k) = x at hx ⊢
    simp (disch := omega) only [nI_add, z_gi, z_ix, nI_1, setC_eq, wr_setC]
    rw [cpk_s (M.1 11) (by omega) hxx.symm]
    exact ihh
theorem eq_copy {MX MY : Mem} (h : Sim MX MY) (a i b j n : Int32) : ∃ r MX' MY', FX8_copy a i b j n MX = some (r, MX') ∧ FX9_copy a i b j n MY = some (r, MY') ∧ Sim MX' MY' := by
  obtain ⟨v, u, tx, h⟩ := h
  have same : ∀ r, FX8_copy a i b j n MX = some (r, MX) → FX9_copy a i b j n MY = some (r, MY) → ∃ r MX' MY', FX8_copy a i b j n MX = some (r, MX') ∧ FX9_copy a i b j n MY = some (r, MY') ∧ Sim MX' MY' :=
    fun r e1 e2 => ⟨r, MX, MY, e1, e2, v, u, tx, h⟩
  by_cases ha : 0 ≤ a ∧ a ≤ 3
  rotate_left
  · apply same (-2)
    · unfold FX8_copy
      simp only [z_lt, x_isSheet, zi0]
      simp [ha]
    · unfold FX9_copy
      simp only [z_lt, z_in, zi0]
      simp [ha]
  by_cases hb : 0 ≤ b ∧ b ≤ 3
  rotate_left
  · apply same (-2)
    · unfold FX8_copy
      simp only [z_lt, x_isSheet, zi0]
      simp [ha, hb]
    · unfold FX9_copy
      simp only [z_lt, z_in, zi0]
      simp [ha, hb]
  obtain ⟨s, hs, rfl⟩ := zrange (n := 3) (by decide) ha
  obtain ⟨o, ho, rfl⟩ := zrange (n := 3) (by decide) hb
  obtain ⟨⟨g1, g2⟩, ⟨g3, g4, g5⟩, g6⟩ := h.2.2.2.2.2.2.1 s (by omega)
  obtain ⟨⟨k1, k2⟩, ⟨k3, k4, k5⟩, k6⟩ := h.2.2.2.2.2.2.1 o (by omega)
  have hix : Int32.toNatClampNeg (nI s) = s := z_ix (by omega)
  have hio : Int32.toNatClampNeg (nI o) = o := z_ix (by omega)
  have hsrt := srt _ g2
  have hsro := srt _ k2
  have mX : ∀ t, MX.1 (44 + t) 1 = MY.1 9 t → (0 ≤ MY.1 9 t ↔ MY.1 9 t ≠ -1) → (FX2_isMissing (44 + t) MX = 0 ↔ ¬ MY.1 9 t = -1) := by
    intro t e1 e2
    unfold FX2_isMissing
    rw [e1]
    by_cases q : 0 ≤ MY.1 9 t
    · simp [q]; exact e2.mp q
    · simp [q]
      by_cases z : MY.1 9 t = -1
      · exact z
      · exact absurd (e2.mpr z) q
  have m1 := mX s g1 hsrt
  have m2 := mX o k1 hsro
  by_cases hm1 : MY.1 9 s = -1
  · apply same (-11)
    · unfold FX8_copy
      simp only [z_lt, x_isSheet, zi0]
      simp (disch := omega) only [ha, hb, and_self, not_true, if_false, z_gi, hix, hio, m1, hm1]
      simp
    · unfold FX9_copy
      simp only [z_lt, z_in, zi0]
      simp (disch := omega) only [ha, hb, and_self, not_true, if_false, z_gi, hix, hio, hm1, if_true, z_ob]
      simp
  by_cases hm2 : MY.1 9 o = -1
  · apply same (-11)
    · unfold FX8_copy
      simp only [z_lt, x_isSheet, zi0]
      simp (disch := omega) only [ha, hb, and_self, not_true, if_false, z_gi, hix, hio, m1, m2, hm1, hm2]
      simp
    · unfold FX9_copy
      simp only [z_lt, z_in, zi0]
      simp (disch := omega) only [ha, hb, and_self, not_true, if_false, z_gi, hix, hio, hm1, hm2, if_true, z_ob]
      simp
  by_cases hq : MY.1 9 s = MY.1 9 o
  rotate_left
  · apply same (-13)
    · unfold FX8_copy
      simp only [z_lt, x_isSheet, zi0]
      simp (disch := omega) only [ha, hb, and_self, not_true, if_false, z_gi, hix, hio, m1, m2, hm1, hm2, g1, k1, hq]
      simp
    · unfold FX9_copy
      simp only [z_lt, z_in, zi0]
      simp (disch := omega) only [ha, hb, and_self, not_true, if_false, z_gi, hix, hio, hm1, hm2, if_true, z_ob, hq]
      simp
  -- the places
  have hP : (¬ i < 0 ∧ ¬ n < 0 ∧ i.toNatClampNeg + n.toNatClampNeg ≤ u 6 s) ∧ (¬ j < 0 ∧ ¬ n < 0 ∧ j.toNatClampNeg + n.toNatClampNeg ≤ u 6 o) ∨ ¬ ((¬ i < 0 ∧ ¬ n < 0 ∧ i.toNatClampNeg + n.toNatClampNeg ≤ u 6 s) ∧ (¬ j < 0 ∧ ¬ n < 0 ∧ j.toNatClampNeg + n.toNatClampNeg ≤ u 6 o)) := Classical.em _
  have hYc : (if n < 0 then some true else if i < 0 then some true else if j < 0 then some true else gi (nI s) 4 (if MY.1 10 (Int32.toNatClampNeg (nI s)) < i then some true else gi (nI o) 4 (if MY.1 10 (Int32.toNatClampNeg (nI o)) < j then some true else gi (nI s) 4 (if MY.1 10 (Int32.toNatClampNeg (nI s)) - i < n then some true else gi (nI o) 4 (if n ≤ MY.1 10 (Int32.toNatClampNeg (nI o)) - j then some false else some true))))) = some (!decide ((¬ i < 0 ∧ ¬ n < 0 ∧ i.toNatClampNeg + n.toNatClampNeg ≤ u 6 s) ∧ (¬ j < 0 ∧ ¬ n < 0 ∧ j.toNatClampNeg + n.toNatClampNeg ≤ u 6 o))) := by
    simp (disch := omega) only [z_gi, hix, hio, g4, k4]
    by_cases c1 : n < 0
    · simp [c1]
    by_cases c2 : i < 0
    · simp [c1, c2]
    by_cases c3 : j < 0
    · simp [c1, c2, c3]
    obtain ⟨n, hn, rfl⟩ := nI_of c1
    obtain ⟨i, hi, rfl⟩ := nI_of c2
    obtain ⟨j, hj, rfl⟩ := nI_of c3
    rw [z_ix (by omega), z_ix (by omega), z_ix (by omega)]
    simp only [c1, c2, c3, if_false, not_false_eq_true, true_and]
    simp only [z_lts (show u 6 s < 2147483648 by omega) (show i < 2147483648 by omega), z_lts (show u 6 o < 2147483648 by omega) (show j < 2147483648 by omega)]
    by_cases d1 : u 6 s < i
    · have : ¬ i + n ≤ u 6 s := by omega
      simp [d1, this]
    rw [if_neg d1]
    by_cases d2 : u 6 o < j
    · have : ¬ j + n ≤ u 6 o := by omega
      simp [d2, this]
    rw [if_neg d2, z_sub (by omega), z_sub (by omega)]
    simp only [z_lts (show u 6 s - i < 2147483648 by omega) (show n < 2147483648 by omega), z_le (show n < 2147483648 by omega) (show u 6 o - j < 2147483648 by omega)]
    by_cases d3 : u 6 s - i < n
    · have : ¬ i + n ≤ u 6 s := by omega
      simp [d3, this]
    rw [if_neg d3]
    by_cases d4 : n ≤ u 6 o - j
    · have e1 : i + n ≤ u 6 s := by omega
      have e2 : j + n ≤ u 6 o := by omega
      simp [d4, e1, e2]
    · have e2 : ¬ j + n ≤ u 6 o := by omega
      simp [d4, e2]
  rcases hP with hP | hP
  rotate_left
  · apply same (-12)
    · unfold FX8_copy
      simp only [z_lt, x_isSheet, zi0]
      simp (disch := omega) only [ha, hb, and_self, not_true, if_false, z_gi, hix, hio, m1, m2, hm1, hm2, g1, k1, hq, x_holds g3 g5, x_holds k3 k5, zi0]
      have : (if ¬ (¬ i < 0 ∧ ¬ n < 0 ∧ i.toNatClampNeg + n.toNatClampNeg ≤ u 6 s) then true else if ¬ (¬ j < 0 ∧ ¬ n < 0 ∧ j.toNatClampNeg + n.toNatClampNeg ≤ u 6 o) then true else false) = true := by
        by_cases q1 : (¬ i < 0 ∧ ¬ n < 0 ∧ i.toNatClampNeg + n.toNatClampNeg ≤ u 6 s) <;> by_cases q2 : (¬ j < 0 ∧ ¬ n < 0 ∧ j.toNatClampNeg + n.toNatClampNeg ≤ u 6 o)
        · exact absurd ⟨q1, q2⟩ hP
        · rw [if_neg (not_not_intro q1), if_pos q2]
        · rw [if_pos q1]
        · rw [if_pos q1]
      rw [this]
      simp
    · unfold FX9_copy
      rw [hYc]
      simp only [z_lt, z_in, zi0]
      simp (disch := omega) only [ha, hb, and_self, not_true, if_false, z_gi, hix, hio, hm1, hm2, if_true, z_ob, hq, decide_eq_false hP]
      simp
  obtain ⟨⟨p1, p2, p3⟩, ⟨p4, -, p5⟩⟩ := id hP
  obtain ⟨n, hn, rfl⟩ := nI_of p2
  obtain ⟨i, hi, rfl⟩ := nI_of p1
  obtain ⟨j, hj, rfl⟩ := nI_of p4
  have in_ : Int32.toNatClampNeg (nI n) = n := z_ix (by omega)
  have ii : Int32.toNatClampNeg (nI i) = i := z_ix (by omega)
  have ij : Int32.toNatClampNeg (nI j) = j := z_ix (by omega)
  have p3' := p3
  have p5' := p5
  rw [in_, ii] at p3'
  rw [in_, ij] at p5'
  have hYL := y_copyL (a := 40 * s + i) (b := 40 * o + j) (n := n) (by omega) (by omega) (M := MY) n 0 FU (by omega) (by rw [z_FU]; omega)
  rw [cpk_0, setC_self, cpk_n] at hYL
  refine ⟨nI n, setC MX (44 + o + 4) (va_cpy (MX.1 (44 + s + 4)) (MX.1 (44 + o + 4)) i j n), setC MY 11 (va_cpy (MY.1 11) (MY.1 11) (40 * s + i) (40 * o + j) n), ?_, ?_, v, u, tx, h.sh (fun k hk => setC_ne _ _ (by omega)) (fun k hk => setC_ne _ _ (by omega)) (fun _ _ => rfl) ?_⟩
  · unfold FX8_copy
    simp only [z_lt, x_isSheet, zi0]
    simp (disch := omega) only [ha, hb, and_self, not_true, if_false, z_gi, hix, hio, m1, m2, hm1, hm2, g1, k1, hq, x_holds g3 g5, x_holds k3 k5, zi0]
    simp only [p1, p2, p4, p3, p5, not_false_eq_true, and_self, not_true, if_false, if_true]
    rw [z_gd ⟨trivial, trivial, trivial, by rw [in_, ii]; omega, by rw [in_, ij]; omega⟩, in_, ii, ij]
    simp
  · unfold FX9_copy
    rw [hYc]
    simp only [z_lt, z_in, zi0]
    simp (disch := omega) only [ha, hb, and_self, not_true, if_false, z_gi, hix, hio, hm1, hm2, if_true, z_ob, hq, decide_eq_true hP]
    simp only [show (40 : Int32) = nI 40 from rfl, pk_mul, nI_add, show (0 : Int32) = nI 0 from rfl, hYL, z_ob]
    simp
  · intro t ht
    obtain ⟨q1, q2, q3⟩ := h.2.2.2.2.2.2.1 t ht
    rw [setC_ne _ _ (show (9 : Nat) ≠ 11 by decide), setC_ne _ _ (show (10 : Nat) ≠ 11 by decide), setC_ne _ _ (show 44 + t ≠ 44 + o + 4 by omega), setC_eq]
    refine ⟨q1, q2, fun l hl => ?_⟩
    by_cases hto : t = o
    · subst hto
      rw [show 48 + t = 44 + t + 4 by omega, setC_eq]
      unfold va_cpy
      by_cases c : j ≤ l ∧ l < j + n
      · rw [if_pos c, if_pos (by omega)]
        have := g6 (i + (l - j)) (by omega)
        rw [show 44 + s + 4 = 48 + s by omega, this]
        exact congrArg (MY.1 11) (by omega)
      · rw [if_neg c, if_neg (by omega), show 44 + t + 4 = 48 + t by omega]
        exact q3 l hl
    · rw [setC_ne _ _ (show 48 + t ≠ 44 + o + 4 by omega), q3 l hl]
      unfold va_cpy
      rw [if_neg (by omega)]
