/-! THE PLAIN METHODS: set, count, force, gone, told, image, back .. -/
theorem zrb (a lo hi : Int32) : (if a < lo then true else if a ≤ hi then false else true) = !decide (lo ≤ a ∧ a ≤ hi) := by
  by_cases h1 : a < lo
  · have : ¬ lo ≤ a := Int32.not_le.mpr h1
    simp [h1, this]
  · have h2 : lo ≤ a := Int32.not_lt.mp h1
    by_cases h3 : a ≤ hi <;> simp [h1, h2, h3]
theorem zrs (a lo hi : Int32) : (if a < lo then true else if a < hi then false else true) = !decide (lo ≤ a ∧ a < hi) := by
  by_cases h1 : a < lo
  · have : ¬ lo ≤ a := Int32.not_le.mpr h1
    simp [h1, this]
  · have h2 : lo ≤ a := Int32.not_lt.mp h1
    by_cases h3 : a < hi <;> simp [h1, h2, h3]
theorem zrf (a lo hi : Int32) : (if a < lo then false else if hi ≤ a then false else true) = decide (lo ≤ a ∧ a < hi) := by
  by_cases h1 : a < lo
  · have : ¬ lo ≤ a := Int32.not_le.mpr h1
    simp [h1, this]
  · have h2 : lo ≤ a := Int32.not_lt.mp h1
    by_cases h3 : hi ≤ a
    · have : ¬ a < hi := Int32.not_lt.mpr h3
      simp [h1, h3, this]
    · have : a < hi := Int32.not_le.mp h3
      simp [h1, h2, h3, this]
theorem zrg (a lo hi : Int32) : (if a < lo then false else if hi < a then false else true) = decide (lo ≤ a ∧ a ≤ hi) := by
  by_cases h1 : a < lo
  · have : ¬ lo ≤ a := Int32.not_le.mpr h1
    simp [h1, this]
  · have h2 : lo ≤ a := Int32.not_lt.mp h1
    by_cases h3 : hi < a
    · have : ¬ a ≤ hi := Int32.not_le.mpr h3
      simp [h1, h3, this]
    · have : a ≤ hi := Int32.not_lt.mp h3
      simp [h1, h2, h3, this]
theorem zi0 (c : Prop) [Decidable c] : (if c then (1 : Int32) else 0) = 0 ↔ ¬ c := by by_cases h : c <;> simp [h]
theorem zi1 (c : Prop) [Decidable c] : (if c then (1 : Int32) else 0) = 1 ↔ c := by by_cases h : c <;> simp [h]
theorem zib (b : Bool) : (if b = true then (1 : Int32) else 0) = 0 ↔ b = false := by cases b <;> simp
theorem zb1 (c : Prop) [Decidable c] (b : Bool) : (if c then true else b) = (decide c || b) := by by_cases h : c <;> simp [h]
theorem zb2 (c : Prop) [Decidable c] (b : Bool) : (if c then false else b) = (!decide c && b) := by by_cases h : c <;> simp [h]
theorem zlt_iff (a : Int32) {n : Nat} (hn : n < 2147483647) : (0 ≤ a ∧ a < nI (n + 1)) ↔ (0 ≤ a ∧ a ≤ nI n) := by
  constructor
  · rintro ⟨h1, h2⟩
    obtain ⟨j, hj, rfl⟩ := nI_of (Int32.not_lt.mpr h1)
    rw [z_lts (by omega) (by omega)] at h2
    exact ⟨h1, (z_le (by omega) (by omega)).mpr (by omega)⟩
  · rintro ⟨h1, h2⟩
    obtain ⟨j, hj, rfl⟩ := nI_of (Int32.not_lt.mpr h1)
    rw [z_le (by omega) (by omega)] at h2
    exact ⟨h1, (z_lts (by omega) (by omega)).mpr (by omega)⟩
theorem zrange {a : Int32} {n : Nat} (hn : n < 2147483648) (h : 0 ≤ a ∧ a ≤ nI n) : ∃ k, k ≤ n ∧ a = nI k := by
  obtain ⟨j, hj, rfl⟩ := nI_of (Int32.not_lt.mpr h.1)
  exact ⟨j, (z_le (by omega) hn).mp h.2, rfl⟩
theorem wr_same (M : Mem) (k j : Nat) : wr M k j (M.1 k j) = M := by
  unfold wr setC
  refine Prod.ext ?_ rfl
  funext k' 
  by_cases h : k' = k
  · subst h
    funext j'
    by_cases h2 : j' = j <;> simp [upd, h2]
  · simp [h]
theorem wr_sameE {M : Mem} {k j : Nat} {v : Int32} (h : M.1 k j = v) : wr M k j v = M := by rw [← h]; exact wr_same M k j
-- one number changes
theorem RR.num (i jX jY : Nat) (hi : (i = 0 ∧ jX = 0 ∧ jY = 0) ∨ (i = 1 ∧ jX = 1 ∧ jY = 1) ∨ (i = 2 ∧ jX = 2 ∧ jY = 2) ∨ (i = 4 ∧ jX = 3 ∧ jY = 9) ∨ (i = 6 ∧ jX = 5 ∧ jY = 15)) {v : Nat → Nat} {u : Nat → Nat → Nat} {tx : Nat → Txt} {MX MY : Mem} (h : RR v u tx MX MY) {k : Nat}
    (hk : RB (va_up v i k)) : RR (va_up v i k) u tx (wr MX 1 jX (nI k)) (wr MY 0 jY (nI k)) := by
  obtain ⟨hA, -, hK, hS, hT, hTx, hH, hZ⟩ := h
  have e3 : va_up v i k 3 = v 3 := by unfold va_up; rw [if_neg (by omega)]
  have e5 : va_up v i k 5 = v 5 := by unfold va_up; rw [if_neg (by omega)]
  have e7 : va_up v i k 7 = v 7 := by unfold va_up; rw [if_neg (by omega)]
  have hb5 : v 5 ≤ 6 := by have := hk.2.2.2.2.2.2.1; rw [e5] at this; exact this
  refine ⟨?_, hk, ?_, ?_, ?_, ?_, ?_, ?_⟩
  · unfold RA at hA ⊢
    rcases hi with ⟨rfl, rfl, rfl⟩ | ⟨rfl, rfl, rfl⟩ | ⟨rfl, rfl, rfl⟩ | ⟨rfl, rfl, rfl⟩ | ⟨rfl, rfl, rfl⟩ <;> simp [wr_at, va_up, hA]
  · unfold RK at hK ⊢
    rcases hi with ⟨rfl, rfl, rfl⟩ | ⟨rfl, rfl, rfl⟩ | ⟨rfl, rfl, rfl⟩ | ⟨rfl, rfl, rfl⟩ | ⟨rfl, rfl, rfl⟩ <;> simpa [wr_at, va_up] using hK
  · rw [e3]
    exact hS.fr (fun k h1 h2 s _ => by rw [wr_cell _ _ (by omega)]) (fun k h1 h2 s _ => by rw [wr_cell _ _ (by omega)])
  · rw [e7]
    exact hT.fr (fun i _ => by rw [wr_cell _ _ (by omega)]) (fun i _ => by rw [wr_cell _ _ (by omega)])
  · rw [e5]
    exact hTx.fr hb5 (fun c h1 h2 => by rw [wr_cell _ _ (by omega)]) (by rw [wr_cell _ _ (by omega)]) (by rw [wr_cell _ _ (by omega)]) (by rw [wr_cell _ _ (by omega)])
  · exact hH.fr (fun c h1 h2 => by rw [wr_cell _ _ (by omega)]) (by rw [wr_cell _ _ (by omega)]) (by rw [wr_cell _ _ (by omega)]) (by rw [wr_cell _ _ (by omega)])
  · exact hZ.fr (fun c h1 h2 => by rw [wr_cell _ _ (by omega)])
theorem w3 (a : Int32) : a = 0 ∨ a = 1 ∨ a = 2 ∨ ¬ (0 ≤ a ∧ a ≤ 2) := by
  by_cases h : 0 ≤ a ∧ a ≤ 2
  · obtain ⟨k, hk, rfl⟩ := zrange (n := 2) (by decide) h
    rcases (show k = 0 ∨ k = 1 ∨ k = 2 by omega) with rfl | rfl | rfl
    · exact Or.inl rfl
    · exact Or.inr (Or.inl rfl)
    · exact Or.inr (Or.inr (Or.inl rfl))
  · exact Or.inr (Or.inr (Or.inr h))
theorem eq_count {v : Nat → Nat} {u : Nat → Nat → Nat} {tx : Nat → Txt} {MX MY : Mem} (h : RR v u tx MX MY) (a : Int32) : FX8_count a MX = FX9_count a MY := by
  obtain ⟨⟨⟨x0, x1, x2, x3, x4, x5, x6, x7⟩, ⟨y0, y1, y2, y3, y4, y5, y6, y7⟩⟩, -⟩ := h
  unfold FX8_count FX9_count
  rw [x0, x1, x2, x3, x4, x5, x6, x7, y0, y1, y2, y3, y4, y5, y6, y7]
theorem up_RB {v : Nat → Nat} (h : RB v) (i k : Nat) (hi : (i = 0 ∧ k < 9) ∨ (i = 1 ∧ k < 24) ∨ (i = 2 ∧ k < 2) ∨ (i = 4 ∧ k < 2 ^ v 3) ∨ (i = 6 ∧ k < v 5)) : RB (va_up v i k) := by
  unfold RB at h ⊢
  rcases hi with ⟨rfl, hk⟩ | ⟨rfl, hk⟩ | ⟨rfl, hk⟩ | ⟨rfl, hk⟩ | ⟨rfl, hk⟩ <;> simp [va_up, h, hk]
theorem eq_set {MX MY : Mem} (h : Sim MX MY) (a b : Int32) : ∃ r MX' MY', FX8_set a b MX = some (r, MX') ∧ FX9_set a b MY = some (r, MY') ∧ Sim MX' MY' := by
  obtain ⟨v, u, tx, h⟩ := h
  have hc := eq_count h
  have hB := h.2.1
  have hB0 := hB
  obtain ⟨⟨-, -⟩, ⟨y0, y1, y2, -⟩⟩ := h.1
  rcases w3 a with rfl | rfl | rfl | ha
  · have e := zlt_iff b (n := 8) (by decide)
    rw [show nI (8 + 1) = 9 from rfl, show nI 8 = 8 from rfl] at e
    by_cases hb : 0 ≤ b ∧ b ≤ 8
    · obtain ⟨k, hk, rfl⟩ := zrange (n := 8) (by decide) hb
      have hb' := e.mpr hb
      refine ⟨FX8_count 0 MX, wr MX 1 0 (nI k), wr MY 0 0 (nI k), ?_, ?_, _, u, tx, h.num 0 0 0 (by omega) (up_RB hB 0 k (by omega))⟩
      · simp only [FX8_set, z_lt, zrb, zrs]
        simp [hb']
      · simp only [FX9_set, z_lt, z_in, zi0]
        simp [hb, hc, wr_same, wr_at, wr_sameE (M := wr MY 0 0 (nI k))]
    · have hb' : ¬ (0 ≤ b ∧ b < 9) := fun z => hb (e.mp z)
      refine ⟨-2, MX, MY, ?_, ?_, v, u, tx, h⟩
      · simp only [FX8_set, z_lt, zrb, zrs]
        simp [hb']
      · simp only [FX9_set, z_lt, z_in, zi0]
        simp [hb]
  · have e := zlt_iff b (n := 23) (by decide)
    rw [show nI (23 + 1) = 24 from rfl, show nI 23 = 23 from rfl] at e
    by_cases hb : 0 ≤ b ∧ b ≤ 23
    · obtain ⟨k, hk, rfl⟩ := zrange (n := 23) (by decide) hb
      have hb' := e.mpr hb
      refine ⟨FX8_count 1 MX, wr MX 1 1 (nI k), wr MY 0 1 (nI k), ?_, ?_, _, u, tx, h.num 1 1 1 (by omega) (up_RB hB 1 k (by omega))⟩
      · simp only [FX8_set, z_lt, zrb, zrs]
        simp [hb']
      · simp only [FX9_set, z_lt, z_in, zi0]
        simp [hb, hc, wr_same, wr_at, wr_sameE (M := wr MY 0 1 (nI k))]
    · have hb' : ¬ (0 ≤ b ∧ b < 24) := fun z => hb (e.mp z)
      refine ⟨-2, MX, MY, ?_, ?_, v, u, tx, h⟩
      · simp only [FX8_set, z_lt, zrb, zrs]
        simp [hb']
      · simp only [FX9_set, z_lt, z_in, zi0]
        simp [hb]
  · have e := zlt_iff b (n := 1) (by decide)
    rw [show nI (1 + 1) = 2 from rfl, show nI 1 = 1 from rfl] at e
    by_cases hb : 0 ≤ b ∧ b ≤ 1
    · obtain ⟨k, hk, rfl⟩ := zrange (n := 1) (by decide) hb
      have hb' := e.mpr hb
      refine ⟨FX8_count 2 MX, wr MX 1 2 (nI k), wr MY 0 2 (nI k), ?_, ?_, _, u, tx, h.num 2 2 2 (by omega) (up_RB hB 2 k (by omega))⟩
      · simp only [FX8_set, z_lt, zrb, zrs]
        simp [hb']
      · simp only [FX9_set, z_lt, z_in, zi0]
        simp [hb, hc, wr_same, wr_at, wr_sameE (M := wr MY 0 2 (nI k))]
    · have hb' : ¬ (0 ≤ b ∧ b < 2) := fun z => hb (e.mp z)
      refine ⟨-2, MX, MY, ?_, ?_, v, u, tx, h⟩
      · simp only [FX8_set, z_lt, zrb, zrs]
        simp [hb']
      · simp only [FX9_set, z_lt, z_in, zi0]
        simp [hb]
  · refine ⟨-1, MX, MY, ?_, ?_, v, u, tx, h⟩
    · simp only [FX8_set, z_lt, zrb]
      simp [ha]
    · simp only [FX9_set, z_lt, z_in, zi0]
      simp [ha]
theorem eq_force {MX MY : Mem} (h : Sim MX MY) (a : Int32) : ∃ r MX' MY', FX8_force a MX = some (r, MX') ∧ FX9_force a MY = some (r, MY') ∧ Sim MX' MY' := by
  obtain ⟨v, u, tx, h⟩ := h
  have hB := h.2.1
  obtain ⟨⟨x0, x1, x2, x3, x4, x5, x6, x7⟩, ⟨y0, y1, y2, y3, y4, y5, y6, y7⟩⟩ := h.1
  have h5 : 1 ≤ v 5 ∧ v 5 ≤ 6 := ⟨hB.2.2.2.2.2.1, hB.2.2.2.2.2.2.1⟩
  have e := zlt_iff a (n := v 5 - 1) (by omega)
  rw [show v 5 - 1 + 1 = v 5 by omega] at e
  have e2 : nI (v 5) - 1 = nI (v 5 - 1) := z_sub (b := 1) (by omega)
  by_cases ha : 0 ≤ a ∧ a ≤ nI (v 5 - 1)
  · obtain ⟨k, hk, rfl⟩ := zrange (by omega) ha
    have ha' := e.mpr ha
    refine ⟨nI (v 6), wr MX 1 5 (nI k), wr MY 0 15 (nI k), ?_, ?_, _, u, tx, h.num 6 5 15 (by omega) (up_RB hB 6 k (by omega))⟩
    · simp only [FX8_force, z_lt, zrs, x5, x6]
      simp [ha']
    · simp only [FX9_force, z_lt, z_in, zi0, y5, y6, e2]
      simp [ha]
  · have ha' : ¬ (0 ≤ a ∧ a < nI (v 5)) := fun z => ha (e.mp z)
    refine ⟨-2, MX, MY, ?_, ?_, v, u, tx, h⟩
    · simp only [FX8_force, z_lt, zrs, x5]
      simp [ha']
    · simp only [FX9_force, z_lt, z_in, zi0, y5, e2]
      simp [ha]
theorem eq_gone {MX MY : Mem} (h : Sim MX MY) (a : Int32) : ∃ r MX' MY', FX8_gone a MX = some (r, MX') ∧ FX9_gone a MY = some (r, MY') ∧ Sim MX' MY' := by
  obtain ⟨v, u, tx, h⟩ := h
  have hB := h.2.1
  obtain ⟨⟨x0, x1, x2, x3, x4, x5, x6, x7⟩, ⟨y0, y1, y2, y3, y4, y5, y6, y7⟩⟩ := h.1
  have h3 : v 3 ≤ 12 := hB.2.2.2.1
  have hp := z_p2 (s := v 3) (by omega)
  have hp0 : 0 < 2 ^ v 3 := Nat.two_pow_pos _
  have e := zlt_iff a (n := 2 ^ v 3 - 1) (by omega)
  rw [show 2 ^ v 3 - 1 + 1 = 2 ^ v 3 by omega] at e
  have e1 : (1 : Int32) <<< (nI (v 3) &&& 31) = nI (2 ^ v 3) := z_shl1 (by omega)
  have e2 : nI (2 ^ v 3) - 1 = nI (2 ^ v 3 - 1) := z_sub (b := 1) (by omega)
  by_cases ha : 0 ≤ a ∧ a ≤ nI (2 ^ v 3 - 1)
  · obtain ⟨k, hk, rfl⟩ := zrange (by omega) ha
    have ha' := e.mpr ha
    refine ⟨nI (v 4), wr MX 1 3 (nI k), wr MY 0 9 (nI k), ?_, ?_, _, u, tx, h.num 4 3 9 (by omega) (up_RB hB 4 k (by omega))⟩
    · simp only [FX8_gone, z_lt, zrs, x3, x4, e1]
      simp [ha']
    · simp only [FX9_gone, z_lt, z_in, zi0, y3, y4, e1, e2]
      simp [ha]
  · have ha' : ¬ (0 ≤ a ∧ a < nI (2 ^ v 3)) := fun z => ha (e.mp z)
    refine ⟨-2, MX, MY, ?_, ?_, v, u, tx, h⟩
    · simp only [FX8_gone, z_lt, zrs, x3, e1]
      simp [ha']
    · simp only [FX9_gone, z_lt, z_in, zi0, y3, e1, e2]
      simp [ha]
-- take: one settings' numbers become another's
theorem take_eq (a b : Nat) (hab : a ≠ b) (M : Mem) : ∃ M', FX1_take a b M = some M' ∧ (∀ k, k ≠ a → M'.1 k = M.1 k) ∧ (∀ j, j < 6 → M'.1 a j = M.1 b j) ∧ M'.2 = M.2 := by
  refine ⟨_, rfl, fun k hk => ?_, fun j hj => ?_, rfl⟩
  · simp only [wr_cell _ _ hk]
  · have hba : b ≠ a := fun z => hab z.symm
    rcases (show j = 0 ∨ j = 1 ∨ j = 2 ∨ j = 3 ∨ j = 4 ∨ j = 5 by omega) with rfl | rfl | rfl | rfl | rfl | rfl <;> simp [wr_at, hba]
def upK (v : Nat → Nat) : Nat → Nat := fun j => if j = 8 then 1 else if 10 ≤ j ∧ j ≤ 16 then v (j - 10) else v j
theorem eq_image {MX MY : Mem} (h : Sim MX MY) : ∃ r MX' MY', FX8_image MX = some (r, MX') ∧ FX9_image MY = some (r, MY') ∧ Sim MX' MY' := by
  obtain ⟨v, u, tx, h⟩ := h
  obtain ⟨hA, hB, hK, hS, hT, hTx, hH, hZ⟩ := h
  obtain ⟨M1, hM, hk1, hk2, -⟩ := take_eq 2 1 (by decide) MX
  obtain ⟨⟨x0, x1, x2, x3, x4, x5, x6, x7⟩, ⟨y0, y1, y2, y3, y4, y5, y6, y7⟩⟩ := id hA
  refine ⟨nI (v 3), wr M1 0 3 1, wr (wr (wr (wr (wr (wr (wr MY 0 16 1) 0 17 (nI (v 0))) 0 18 (nI (v 1))) 0 19 (nI (v 2))) 0 20 (nI (v 4))) 0 21 (nI (v 3))) 0 22 (nI (v 6)), ?_, ?_, upK v, u, tx, ?_, ?_, ?_, ?_, ?_, ?_, ?_, ?_⟩
  · simp only [FX8_image, hM, z_ob, z_lt]
    rw [wr_cell _ _ (by decide), hk2 4 (by decide), x3]
  · simp only [FX9_image, z_lt, wr_at]
    simp [y0, y1, y2, y3, y4, y6]
  · unfold RA
    simp only [wr_at, upK]
    simp [hk1, x0, x1, x2, x3, x4, x5, x6, x7, y0, y1, y2, y3, y4, y5, y6, y7]
  · unfold RB at hB ⊢
    simp only [upK]
    simp [hB]
  · unfold RK
    obtain ⟨b0, b1, b2, b3, b4, b5, b6, b7, -⟩ := hB
    simp only [wr_at, upK]
    simp [hk2, x0, x1, x2, x3, x4, x5, x6, x7, b0, b1, b2, b4, b7]
    exact rfl
  · exact hS.fr (fun k h1 h2 s _ => by rw [wr_cell _ _ (by omega), hk1 k (by omega)]) (fun k h1 h2 s _ => by simp only [wr_cell _ _ (show k ≠ 0 by omega)])
  · exact hT.fr (fun i _ => by rw [wr_cell _ _ (by omega), hk1 11 (by omega)]) (fun i _ => by simp only [wr_cell _ _ (show (6 : Nat) ≠ 0 by omega)])
  · exact hTx.fr hB.2.2.2.2.2.2.1 (fun c h1 h2 => by rw [wr_cell _ _ (by omega), hk1 c (by omega)]) (by simp only [wr_cell _ _ (show (7 : Nat) ≠ 0 by omega)]) (by simp only [wr_cell _ _ (show (8 : Nat) ≠ 0 by omega)]) (by simp only [wr_cell _ _ (show (13 : Nat) ≠ 0 by omega)])
  · exact hH.fr (fun c h1 h2 => by rw [wr_cell _ _ (by omega), hk1 c (by omega)]) (by simp only [wr_cell _ _ (show (9 : Nat) ≠ 0 by omega)]) (by simp only [wr_cell _ _ (show (10 : Nat) ≠ 0 by omega)]) (by simp only [wr_cell _ _ (show (11 : Nat) ≠ 0 by omega)])
  · exact hZ.fr (fun c h1 h2 => by rw [wr_cell _ _ (by omega), hk1 c (by omega)])
def dnK (v : Nat → Nat) : Nat → Nat := fun j => if j = 5 then v 5 else if j ≤ 6 then v (j + 10) else v j
theorem eq_back {MX MY : Mem} (h : Sim MX MY) : ∃ r MX' MY', FX8_back MX = some (r, MX') ∧ FX9_back MY = some (r, MY') ∧ Sim MX' MY' := by
  obtain ⟨v, u, tx, h⟩ := h
  obtain ⟨hA, hB, hK, hS, hT, hTx, hH, hZ⟩ := id h
  have hB8 : v 8 < 2 := hB.2.2.2.2.2.2.2.2.2
  rcases (show v 8 = 0 ∨ v 8 = 1 by omega) with h8 | h8
  · refine ⟨-3, MX, MY, ?_, ?_, v, u, tx, h⟩
    · simp only [FX8_back, hK.1, h8]
      rfl
    · simp only [FX9_back, hK.2.1, h8]
      rfl
  · obtain ⟨k1, k2, k3⟩ := hK
    obtain ⟨⟨p0, p1, p2, p3, p4, p6⟩, ⟨q0, q1, q2, q3, q4, q6⟩, ⟨c0, c1, c2, c3, c4, c6⟩⟩ := k3 h8
    obtain ⟨M1, hM, hk1, hk2, -⟩ := take_eq 1 2 (by decide) MX
    obtain ⟨⟨x0, x1, x2, x3, x4, x5, x6, x7⟩, ⟨y0, y1, y2, y3, y4, y5, y6, y7⟩⟩ := id hA
    have h0 : ¬ (nI (v 8) = 0) := by rw [h8]; decide
    refine ⟨nI (v 13), M1, wr (wr (wr (wr (wr (wr MY 0 0 (nI (v 10))) 0 1 (nI (v 11))) 0 2 (nI (v 12))) 0 9 (nI (v 14))) 0 3 (nI (v 13))) 0 15 (nI (v 16)), ?_, ?_, dnK v, u, tx, ?_, ?_, ?_, ?_, ?_, ?_, ?_, ?_⟩
    · simp only [FX8_back, k1, h0, if_false, hM, z_ob]
      rw [hk2 4 (by decide), p3]
    · simp only [FX9_back, k2, h0, if_false, z_lt, wr_at]
      simp [q0, q1, q2, q3, q4, q6]
    · unfold RA
      simp only [wr_at, dnK]
      simp [hk1, hk2, x5, x7, y5, y7, p0, p1, p2, p3, p4, p6]
    · unfold RB at hB ⊢
      simp only [dnK]
      simp [hB, c0, c1, c2, c4, c6]
      omega
    · unfold RK
      simp only [wr_at, dnK]
      simp [hk1, k1, k2, h8, p0, p1, p2, p3, p4, p6, q0, q1, q2, q3, q4, q6, c0, c1, c2, c4, c6]
    · have e : dnK v 3 = v 13 := rfl
      rw [e]
      exact RS.fr (fun s hs => hS s (by omega)) (fun k h1 h2 s _ => by rw [hk1 k (by omega)]) (fun k h1 h2 s _ => by simp only [wr_cell _ _ (show k ≠ 0 by omega)])
    · exact hT.fr (fun i _ => by rw [hk1 11 (by omega)]) (fun i _ => by simp only [wr_cell _ _ (show (6 : Nat) ≠ 0 by omega)])
    · exact hTx.fr hB.2.2.2.2.2.2.1 (fun c h1 h2 => by rw [hk1 c (by omega)]) (by simp only [wr_cell _ _ (show (7 : Nat) ≠ 0 by omega)]) (by simp only [wr_cell _ _ (show (8 : Nat) ≠ 0 by omega)]) (by simp only [wr_cell _ _ (show (13 : Nat) ≠ 0 by omega)])
    · exact hH.fr (fun c h1 h2 => by rw [hk1 c (by omega)]) (by simp only [wr_cell _ _ (show (9 : Nat) ≠ 0 by omega)]) (by simp only [wr_cell _ _ (show (10 : Nat) ≠ 0 by omega)]) (by simp only [wr_cell _ _ (show (11 : Nat) ≠ 0 by omega)])
    · exact hZ.fr (fun c h1 h2 => by rw [hk1 c (by omega)])
