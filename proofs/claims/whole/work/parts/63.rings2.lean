/-! ring, heavy, gap -/
theorem x_refusal {v : Nat → Nat} {M : Mem} (h0 : M.1 1 0 = nI (v 0)) (a b n : Int32) : FX8_refusal a b n M = if (0 ≤ a ∧ a < 9) ∧ a ≠ nI (v 0) then (if 0 ≤ b ∧ b < n then 0 else -7) else -5 := by
  unfold FX8_refusal
  rw [x_isAway h0, zrs, z_lt]
  by_cases h1 : (0 ≤ a ∧ a < 9) ∧ a ≠ nI (v 0)
  · rw [if_pos h1, if_pos h1, if_neg (by decide)]
    by_cases h2 : 0 ≤ b ∧ b < n
    · rw [if_pos h2, decide_eq_true h2]; rfl
    · rw [if_neg h2, decide_eq_false h2]; rfl
  · rw [if_neg h1, if_neg h1, if_pos rfl]
theorem eq_ringG {MX MY : Mem} (h : Sim MX MY) (a b : Int32) (hv : Bool) : ∃ r MX' MY', (if hv = true then FX8_heavy a b MX else FX8_ring a b MX) = some (r, MX') ∧ (if hv = true then FX9_heavy a b MY else FX9_ring a b MY) = some (r, MY') ∧ Sim MX' MY' := by
  obtain ⟨v, u, tx, hR⟩ := id h
  obtain ⟨⟨x0, -⟩, ⟨y0, -⟩⟩ := id hR.1
  have e4 := zlt_iff b (n := 3) (by decide)
  rw [show nI (3 + 1) = 4 from rfl, show nI 3 = 3 from rfl] at e4
  unfold FX8_heavy FX8_ring FX9_heavy FX9_ring
  rw [x_refusal x0, y_isOther y0, z_lt, z_ob, z_in, z_ob]
  by_cases h1 : (0 ≤ a ∧ a < 9) ∧ a ≠ nI (v 0)
  · by_cases h2 : 0 ≤ b ∧ b < 4
    · have h3 := e4.mp h2
      obtain ⟨c, hc, rfl⟩ := corner_nI h1.1
      obtain ⟨j, hj, rfl⟩ := zrange (n := 3) (by decide) h3
      have hcp := p2_lt hc
      simp only [if_pos h1, if_pos h2, if_pos h3, z_shl1 (show c < 32 by omega), Int32.le_refl, if_true, if_neg (show ¬ (1 : Int32) = 0 from by decide)]
      cases hv with
      | false =>
        obtain ⟨r, q, MX', MY', e1, e2, e3, e4, -⟩ := tell hR (k := 0) (d := 2 ^ c) (a := j) (p := -1) (Or.inl ⟨rfl, rfl⟩) (by decide) hcp (by omega)
        rw [show nI 0 = 0 from rfl] at e1
        simp only [Bool.false_eq_true, if_false, e1, e2, e3, z_ob]
        exact ⟨r, MX', MY', rfl, rfl, v, u, tx, e4⟩
      | true =>
        obtain ⟨r, q, MX', MY', e1, e2, e3, e4, -⟩ := tell hR (k := 2 ^ c) (d := 2 ^ c) (a := j) (p := nI c) (Or.inr ⟨c, hc, rfl, rfl⟩) hcp hcp (by omega)
        simp only [if_true, e1, e2, e3, z_ob]
        exact ⟨r, MX', MY', rfl, rfl, v, u, tx, e4⟩
    · have h3 : ¬ (0 ≤ b ∧ b ≤ 3) := fun z => h2 (e4.mpr z)
      refine ⟨-7, MX, MY, ?_, ?_, h⟩
      · simp only [if_pos h1, if_neg h2, if_neg (show ¬ (0 : Int32) ≤ -7 from by decide)]
        split <;> rfl
      · simp only [if_pos h1, if_neg h3, if_neg (show ¬ (1 : Int32) = 0 from by decide), if_true]
        split <;> rfl
  · refine ⟨-5, MX, MY, ?_, ?_, h⟩
    · simp only [if_neg h1, if_neg (show ¬ (0 : Int32) ≤ -5 from by decide)]
      split <;> rfl
    · simp only [if_neg h1, if_true]
      split <;> rfl
theorem eq_ring {MX MY : Mem} (h : Sim MX MY) (a b : Int32) : ∃ r MX' MY', FX8_ring a b MX = some (r, MX') ∧ FX9_ring a b MY = some (r, MY') ∧ Sim MX' MY' := eq_ringG h a b false
theorem eq_heavy {MX MY : Mem} (h : Sim MX MY) (a b : Int32) : ∃ r MX' MY', FX8_heavy a b MX = some (r, MX') ∧ FX9_heavy a b MY = some (r, MY') ∧ Sim MX' MY' := eq_ringG h a b true
