/-! street, taken -/
theorem x_isCorner (a : Int32) : FX8_isCorner a = if 0 ≤ a ∧ a < 9 then 1 else 0 := by
  unfold FX8_isCorner
  simp only [z_lt, zrf]
  by_cases h : 0 ≤ a ∧ a < 9 <;> simp [h]
def upS (u : Nat → Nat → Nat) (n k o t b m : Nat) : Nat → Nat → Nat := fun j s => if s = n ∧ j < 5 then (if j = 0 then k else if j = 1 then o else if j = 2 then t else if j = 3 then b else m) else u j s
theorem st_good {e : Nat} : (e / 10 < 9 ∧ e % 10 < 9 ∧ e / 10 ≠ e % 10) ↔ (e ≤ 88 ∧ e % 10 ≤ 8 ∧ e / 10 ≠ e % 10) := by omega
theorem eq_street' {v : Nat → Nat} {u : Nat → Nat → Nat} {tx : Nat → Txt} {MX MY : Mem} (h : RR v u tx MX MY) (a b c d : Int32) :
    ∃ r MX' MY' v' u', FX8_street a b c d MX = some (r, MX') ∧ FX9_street a b c d MY = some (r, MY') ∧ RR v' u' tx MX' MY' ∧ (∀ k, 43 ≤ k → MX'.1 k = MX.1 k) ∧ (∀ k, 6 ≤ k → MY'.1 k = MY.1 k) ∧ (∀ s, u' 6 s = u 6 s) := by
  have h00 := h
  obtain ⟨hA, hB, hK, hS, hT, hTx, hH, hZ⟩ := h
  obtain ⟨⟨x0, x1, x2, x3, x4, x5, x6, x7⟩, ⟨y0, y1, y2, y3, y4, y5, y6, y7⟩⟩ := id hA
  have hn : v 3 ≤ 12 := hB.2.2.2.1
  have bad : FX8_street a b c d MX = some (-2, MX) → FX9_street a b c d MY = some (-2, MY) → ∃ r MX' MY' v' u', FX8_street a b c d MX = some (r, MX') ∧ FX9_street a b c d MY = some (r, MY') ∧ RR v' u' tx MX' MY' ∧ (∀ k, 43 ≤ k → MX'.1 k = MX.1 k) ∧ (∀ k, 6 ≤ k → MY'.1 k = MY.1 k) ∧ (∀ s, u' 6 s = u 6 s) :=
    fun e1 e2 => ⟨-2, MX, MY, v, u, e1, e2, h00, fun _ _ => rfl, fun _ _ => rfl, fun _ => rfl⟩
  by_cases ha : 0 ≤ a ∧ a ≤ 5
  rotate_left
  · apply bad
    · have : a < 0 ∨ 5 < a := by
        by_cases h1 : 0 ≤ a
        · exact Or.inr (Int32.not_le.mp fun h2 => ha ⟨h1, h2⟩)
        · exact Or.inl (Int32.not_le.mp h1)
      unfold FX8_street
      rcases this with h1 | h1 <;> simp [z_lt, h1]
    · unfold FX9_street
      simp only [z_in, zi0, ha, not_false_eq_true, if_true, z_lt]
      by_cases g1 : 0 ≤ b ∧ b ≤ 88
      · by_cases g2 : 8 < b - b / 10 * 10
        · simp [g1, g2, z_ob]
        · by_cases g3 : b / 10 = b - b / 10 * 10
          · rw [← g3] at g2 ⊢
            simp [g1, g2, z_ob]
          · simp [g1, g2, g3, z_ob]
      · simp [g1, z_ob]
  have na : ¬ a < 0 := Int32.not_lt.mpr ha.1
  have na5 : ¬ 5 < a := Int32.not_lt.mpr ha.2
  by_cases hb : 0 ≤ b
  rotate_left
  · apply bad
    · unfold FX8_street
      simp [z_lt, na, na5, hb]
    · unfold FX9_street
      simp only [z_in, zi0, z_lt]
      simp [ha, hb, z_ob]
  obtain ⟨e, he, rfl⟩ := nI_of (Int32.not_lt.mpr hb)
  have d1 : nI e / 10 = nI (e / 10) := pk_div (d := 10) (by omega) (by decide) (by decide)
  have d2 : nI e - nI e / 10 * 10 = nI (e % 10) := pk_rem (d := 10) (by omega) (by decide) (by decide)
  have d2' : nI e - nI (e / 10) * 10 = nI (e % 10) := by rw [← d1]; exact d2
  have f1 : (0 ≤ nI (e / 10) ∧ nI (e / 10) < 9) ↔ e / 10 < 9 := by
    rw [show (9 : Int32) = nI 9 from rfl, z_lts (by omega) (by decide)]
    exact ⟨fun h => h.2, fun h => ⟨z_pos (by omega), h⟩⟩
  have f2 : (0 ≤ nI (e % 10) ∧ nI (e % 10) < 9) ↔ e % 10 < 9 := by
    rw [show (9 : Int32) = nI 9 from rfl, z_lts (by omega) (by decide)]
    exact ⟨fun h => h.2, fun h => ⟨z_pos (by omega), h⟩⟩
  have f3 : (0 ≤ nI e ∧ nI e ≤ 88) ↔ e ≤ 88 := by
    rw [show (88 : Int32) = nI 88 from rfl, z_le (by omega) (by decide)]
    exact ⟨fun h => h.2, fun h => ⟨z_pos (by omega), h⟩⟩
  have f4 : 8 < nI (e % 10) ↔ 8 < e % 10 := z_lts (a := 8) (by decide) (by omega)
  have f5 : nI (e / 10) = nI (e % 10) ↔ e / 10 = e % 10 := z_eq (by omega) (by omega)
  by_cases hg : e / 10 < 9 ∧ e % 10 < 9 ∧ e / 10 ≠ e % 10
  rotate_left
  · apply bad
    · unfold FX8_street
      simp only [z_lt, d1, d2, x_isCorner, zi0, f1, f2, f5]
      have : (if ¬ e / 10 < 9 then true else if ¬ e % 10 < 9 then true else if e / 10 = e % 10 then true else false) = true := by
        by_cases g1 : e / 10 < 9 <;> by_cases g2 : e % 10 < 9 <;> by_cases g3 : e / 10 = e % 10 <;> simp [g1, g2, g3]
        exact hg ⟨g1, g2, g3⟩
      simp only [d2', f2, f5] 
      rw [this]
      simp [na, na5, hb]
    · unfold FX9_street
      simp only [z_lt, d1, d2, d2', z_in, zi0, f3, f4, f5]
      have : (if ¬ e ≤ 88 then some false else if 8 < e % 10 then some false else if e / 10 = e % 10 then some false else some true) = some false := by
        by_cases g1 : e ≤ 88 <;> by_cases g2 : 8 < e % 10 <;> by_cases g3 : e / 10 = e % 10 <;> simp [g1, g2, g3]
        exact hg (st_good.mpr ⟨g1, by omega, g3⟩)
      rw [this, z_ob]
      simp
  have hg' := st_good.mp hg
  have hg8 : ¬ 8 < e % 10 := by omega
  by_cases hc : 1 ≤ c ∧ c ≤ 99
  rotate_left
  · apply bad
    · have : c < 1 ∨ 99 < c := by
        by_cases h1 : 1 ≤ c
        · exact Or.inr (Int32.not_le.mp fun h2 => hc ⟨h1, h2⟩)
        · exact Or.inl (Int32.not_le.mp h1)
      unfold FX8_street
      simp only [z_lt, d1, d2, d2', x_isCorner, zi0, f1, f2, f5]
      rcases this with h1 | h1 <;> simp [na, na5, hb, hg, h1]
    · unfold FX9_street
      simp only [z_lt, d1, d2, d2', z_in, zi0, f3, f4, f5]
      simp [hg', hg8, z_ob, hc, ha]
  have nc : ¬ c < 1 := Int32.not_lt.mpr hc.1
  have nc9 : ¬ 99 < c := Int32.not_lt.mpr hc.2
  by_cases hd : 0 ≤ d ∧ d ≤ 99
  rotate_left
  · apply bad
    · have : d < 0 ∨ ¬ d ≤ 99 := by
        by_cases h1 : 0 ≤ d
        · exact Or.inr fun h2 => hd ⟨h1, h2⟩
        · exact Or.inl (Int32.not_le.mp h1)
      unfold FX8_street
      simp only [z_lt, d1, d2, d2', x_isCorner, zi0, f1, f2, f5]
      rcases this with h1 | h1 <;> simp [na, na5, hb, hg, nc, nc9, h1]
    · unfold FX9_street
      simp only [z_lt, d1, d2, d2', z_in, zi0, f3, f4, f5]
      simp [hg', hg8, z_ob, hc, ha, hd]
  have nd : ¬ d < 0 := Int32.not_lt.mpr hd.1
  obtain ⟨ka, hka, rfl⟩ := zrange (n := 5) (by decide) ha
  obtain ⟨kc, hkc, rfl⟩ := zrange (a := c) (n := 99) (by decide) ⟨Int32.le_trans (by decide) hc.1, hc.2⟩
  have hkc1 : 1 ≤ kc := (z_le (a := 1) (b := kc) (by decide) (by omega)).mp hc.1
  obtain ⟨kd, hkd, rfl⟩ := zrange (n := 99) (by decide) hd
  by_cases h12 : v 3 = 12
  · refine ⟨-4, MX, MY, v, u, ?_, ?_, h00, fun _ _ => rfl, fun _ _ => rfl, fun _ => rfl⟩
    · unfold FX8_street
      simp only [z_lt, d1, d2, d2', x_isCorner, zi0, f1, f2, f5, x3, h12]
      simp [na, na5, hb, hg, nc, nc9, nd, hd, show ¬ nI 12 < 12 by decide]
    · unfold FX9_street
      simp only [z_lt, d1, d2, d2', z_in, zi0, f3, f4, f5, y3, h12]
      simp [hg', hg8, z_ob, hc, ha, hd, show nI 12 = 12 from rfl]
  · have hlt : v 3 < 12 := by omega
    have g12 : nI (v 3) < 12 := (z_lts (b := 12) (by omega) (by decide)).mpr hlt
    have g12' : ¬ nI (v 3) = 12 := fun z => h12 ((z_eq (b := 12) (by omega) (by decide)).mp z)
    have gn : ¬ nI (v 3) < 0 := z_neg (by omega)
    refine ⟨nI (v 3), wr (wr (wr (wr (wr (wr MX 5 (v 3) (nI ka)) 6 (v 3) (nI (e / 10))) 7 (v 3) (nI (e % 10))) 8 (v 3) (nI kc)) 9 (v 3) (nI kd)) 1 4 (nI (v 3 + 1)),
      wr (wr (wr (wr (wr (wr MY 1 (v 3) (nI ka)) 2 (v 3) (nI (e / 10))) 3 (v 3) (nI (e % 10))) 4 (v 3) (nI kc)) 5 (v 3) (nI kd)) 0 3 (nI (v 3 + 1)),
      va_up v 3 (v 3 + 1), upS u (v 3) ka (e / 10) (e % 10) kc kd, ?_, ?_, ⟨?_, ?_, ?_, ?_, ?_, ?_, ?_, ?_⟩, ?_, ?_, fun s => by simp [upS]⟩
    · unfold FX8_street FX3_put
      simp only [z_lt, d1, d2, d2', x_isCorner, zi0, f1, f2, f5, x3]
      simp (disch := omega) [na, na5, hb, hg, nc, nc9, nd, hd, g12, gn, z_gi, z_ix, z_ob, wr_at, x3, nI_1]
    · unfold FX9_street
      simp only [z_lt, d1, d2, d2', z_in, zi0, f3, f4, f5, y3]
      simp (disch := omega) [hg', hg8, hc, ha, hd, g12', z_gi, z_ix, z_ob, wr_at, y3, nI_1, show nI (v 3 + 1) - 1 = nI (v 3) from z_sub (b := 1) (by omega)]
    · unfold RA
      simp [wr_at, va_up, x0, x1, x2, x4, x5, x6, x7, y0, y1, y2, y4, y5, y6, y7]
    · unfold RB at hB ⊢
      have hp : 2 ^ (v 3 + 1) = 2 ^ v 3 * 2 := Nat.pow_succ 2 (v 3)
      simp [va_up, hB]
      omega
    · unfold RK at hK ⊢
      refine ⟨by simpa [wr_at, va_up] using hK.1, by simpa [wr_at, va_up] using hK.2.1, fun h => ?_⟩
      obtain ⟨k1, k2, k3⟩ := hK.2.2 (by simpa [va_up] using h)
      simp [wr_at, va_up, k1, k2, k3]
      omega
    · intro s hs
      have hs' : s < v 3 + 1 := by simpa [va_up] using hs
      by_cases hsn : s = v 3
      · subst hsn
        simp [wr_at, upS]
        omega
      · obtain ⟨g1, g2, g3⟩ := hS s (by omega)
        simp [wr_at, upS, hsn, g1, g2, g3]
    · intro i hi
      obtain ⟨g1, g2, g3⟩ := hT i (by simpa [va_up] using hi)
      simp [wr_at, upS, g1, g2, g3]
    · have e5 : va_up v 3 (v 3 + 1) 5 = v 5 := by simp [va_up]
      rw [e5]
      exact hTx.fr hB.2.2.2.2.2.2.1 (fun c h1 h2 => by simp only [wr_cell _ _ (show c ≠ 1 by omega), wr_cell _ _ (show c ≠ 9 by omega), wr_cell _ _ (show c ≠ 8 by omega), wr_cell _ _ (show c ≠ 7 by omega), wr_cell _ _ (show c ≠ 6 by omega), wr_cell _ _ (show c ≠ 5 by omega)]) (by funext i; simp [wr_at]) (by funext i; simp [wr_at]) (by funext i; simp [wr_at])
    · intro s hs
      obtain ⟨g1, g2, g3⟩ := hH s hs
      have q1 : 44 + s ≠ 1 ∧ 44 + s ≠ 9 ∧ 44 + s ≠ 8 ∧ 44 + s ≠ 7 ∧ 44 + s ≠ 6 ∧ 44 + s ≠ 5 ∧ 48 + s ≠ 1 ∧ 48 + s ≠ 9 ∧ 48 + s ≠ 8 ∧ 48 + s ≠ 7 ∧ 48 + s ≠ 6 ∧ 48 + s ≠ 5 := by omega
      simp only [wr_at, q1, upS]
      simp [g1, g2]
      exact g3
    · exact hZ.fr (fun c h1 h2 => by simp only [wr_cell _ _ (show c ≠ 1 by omega), wr_cell _ _ (show c ≠ 9 by omega), wr_cell _ _ (show c ≠ 8 by omega), wr_cell _ _ (show c ≠ 7 by omega), wr_cell _ _ (show c ≠ 6 by omega), wr_cell _ _ (show c ≠ 5 by omega)])
    · intro k hk
      simp only [wr_cell _ _ (show k ≠ 1 by omega), wr_cell _ _ (show k ≠ 9 by omega), wr_cell _ _ (show k ≠ 8 by omega), wr_cell _ _ (show k ≠ 7 by omega), wr_cell _ _ (show k ≠ 6 by omega), wr_cell _ _ (show k ≠ 5 by omega)]
    · intro k hk
      simp only [wr_cell _ _ (show k ≠ 0 by omega), wr_cell _ _ (show k ≠ 1 by omega), wr_cell _ _ (show k ≠ 2 by omega), wr_cell _ _ (show k ≠ 3 by omega), wr_cell _ _ (show k ≠ 4 by omega), wr_cell _ _ (show k ≠ 5 by omega)]
theorem eq_street {MX MY : Mem} (h : Sim MX MY) (a b c d : Int32) : ∃ r MX' MY', FX8_street a b c d MX = some (r, MX') ∧ FX9_street a b c d MY = some (r, MY') ∧ Sim MX' MY' := by
  obtain ⟨v, u, tx, h⟩ := h
  obtain ⟨r, MX', MY', v', u', h1, h2, h3, -⟩ := eq_street' h a b c d
  exact ⟨r, MX', MY', h1, h2, v', u', tx, h3⟩
