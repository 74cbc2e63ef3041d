/-! gap -/
theorem told4_0 {q r : Int32} {M : Mem} (h : FX9_told4 q (nI 0) M = some r) : (if q = 0 then -1 else M.1 0 45) = r := by
  unfold FX9_told4 at h
  by_cases h0 : q = 0
  · rw [if_pos h0] at h ⊢
    exact Option.some.inj h
  · rw [if_neg h0] at h ⊢
    cases e : FX9_told4_L11 FU 0 0 M with
    | none => rw [e] at h; cases h
    | some y =>
      rw [e, z_ob, if_pos (show nI 0 = 0 from rfl)] at h
      exact Option.some.inj h
theorem eq_gap {MX MY : Mem} (h : Sim MX MY) (a : Int32) : ∃ r MX' MY', FX8_gap a MX = some (r, MX') ∧ FX9_gap a MY = some (r, MY') ∧ Sim MX' MY' := by
  obtain ⟨v, u, tx, hR⟩ := id h
  obtain ⟨⟨x0, -⟩, ⟨y0, -⟩⟩ := id hR.1
  unfold FX8_gap FX9_gap
  rw [x_isAway x0, y_isOther y0, z_ob]
  by_cases h1 : (0 ≤ a ∧ a < 9) ∧ a ≠ nI (v 0)
  · obtain ⟨c, hc, rfl⟩ := corner_nI h1.1
    have hcp := p2_lt hc
    obtain ⟨r, q, MX1, MY1, e1, e2, e3, e4, e5⟩ := tell hR (k := 0) (d := 2 ^ c) (a := 0) (p := -1) (Or.inl ⟨rfl, rfl⟩) (by decide) hcp (by decide)
    obtain ⟨r', q', MX2, MY2, f1, f2, f3, f4, f5⟩ := tell e4 (k := 2 ^ c) (d := 2 ^ c) (a := 0) (p := nI c) (Or.inr ⟨c, hc, rfl, rfl⟩) hcp hcp (by decide)
    have g1 := told4_0 e3
    have g2 := told4_0 f3
    rw [show nI 0 = 0 from rfl] at e1 f1
    have neg : ∀ x : Int32, (x = -1 ∨ ∃ n, n < 100000 ∧ x = nI n) → (x < 0 ↔ x = -1) := by
      rintro x (rfl | ⟨n, h1, rfl⟩)
      · exact ⟨fun _ => rfl, fun _ => by decide⟩
      · exact ⟨fun z => absurd z (z_neg (by omega)), fun z => absurd z (z_m1 (by omega))⟩
    have n1 := neg r e5
    have n2 := neg r' f5
    simp only [if_pos h1, z_shl1 (show c < 32 by omega), if_neg (show ¬ (1 : Int32) = 0 from by decide), e1, f1, e2, f2, z_ob, z_lt, g1, g2]
    by_cases c1 : r = -1
    · refine ⟨-1, MX2, MY2, ?_, ?_, v, u, tx, f4⟩
      · rw [if_pos (n1.mpr c1)]; rfl
      · rw [if_pos c1]; rfl
    · have c1' : ¬ r < 0 := fun z => c1 (n1.mp z)
      by_cases c2 : r' = -1
      · have c2' : ¬ 0 ≤ r' := Int32.not_le.mpr (n2.mpr c2)
        refine ⟨-1, MX2, MY2, ?_, ?_, v, u, tx, f4⟩
        · rw [if_neg c1', if_neg c2']; rfl
        · rw [if_neg c1, if_pos c2]; rfl
      · have c2' : 0 ≤ r' := Int32.not_lt.mp fun z => c2 (n2.mp z)
        refine ⟨r' - r, MX2, MY2, ?_, ?_, v, u, tx, f4⟩
        · rw [if_neg c1', if_pos c2']; rfl
        · rw [if_neg c1, if_neg c2]; rfl
  · refine ⟨-5, MX, MY, ?_, ?_, h⟩
    · simp only [if_neg h1, if_true]
    · simp only [if_neg h1, if_true]
