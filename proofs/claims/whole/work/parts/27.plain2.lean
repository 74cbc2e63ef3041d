/-! told, close, street, taken -/
theorem x_isStreet {v : Nat → Nat} {MX : Mem} (x3 : MX.1 1 4 = nI (v 3)) (a : Int32) : FX8_isStreet a MX = if 0 ≤ a ∧ a < nI (v 3) then 1 else 0 := by
  unfold FX8_isStreet
  rw [x3]
  simp only [z_lt, zrf]
  by_cases h : 0 ≤ a ∧ a < nI (v 3) <;> simp [h]
theorem nIsub1 {n : Nat} (hn : n ≤ 12) (a : Int32) : (0 ≤ a ∧ a ≤ nI n - 1) ↔ (0 ≤ a ∧ a < nI n) := by
  rcases Nat.eq_zero_or_pos n with h | h
  · subst h
    constructor
    · rintro ⟨h1, h2⟩
      exact absurd (Int32.le_trans h1 h2) (by decide)
    · rintro ⟨h1, h2⟩
      exact absurd h2 (Int32.not_lt.mpr h1)
  · rw [show (1 : Int32) = nI 1 from rfl, z_sub (by omega), ← zlt_iff a (by omega), show n - 1 + 1 = n by omega]
theorem y_isStreet {n : Nat} (hn : n ≤ 12) {MY : Mem} (y3 : MY.1 0 3 = nI n) (a : Int32) : FX9_isStreet a MY = some (if 0 ≤ a ∧ a < nI n then 1 else 0) := by
  unfold FX9_isStreet
  rw [y3]
  simp only [z_in, nIsub1 hn]
  rw [z_gd]
  by_cases h : 0 ≤ a ∧ a < nI n <;> simp [h]
theorem eq_told {MX MY : Mem} (h : Sim MX MY) (a b : Int32) : ∃ r, FX8_told a b MX = some r ∧ FX9_told a b MY = some r := by
  obtain ⟨v, u, tx, hA, hB, hK, hS, -⟩ := h
  obtain ⟨⟨x0, x1, x2, x3, x4, x5, x6, x7⟩, ⟨y0, y1, y2, y3, y4, y5, y6, y7⟩⟩ := id hA
  have hn : v 3 ≤ 12 := hB.2.2.2.1
  unfold FX8_told FX9_told
  rw [x_isStreet x3, y_isStreet hn y3, z_ob]
  by_cases ha : 0 ≤ a ∧ a < nI (v 3)
  · obtain ⟨s, hs, rfl⟩ : ∃ s, s < v 3 ∧ a = nI s := by
      obtain ⟨j, hj, rfl⟩ := nI_of (Int32.not_lt.mpr ha.1)
      exact ⟨j, (z_lts (by omega) (by omega)).mp ha.2, rfl⟩
    obtain ⟨⟨p0, p1, p2, p3, p4⟩, ⟨q0, q1, q2, q3, q4⟩, -⟩ := hS s hs
    rw [x3, x_spends hS hn hs, y_spends hS hn y3 hs]
    simp (disch := omega) only [z_gi, z_ix, p0, p1, p2, p3, p4, q0, q1, q2, q3, q4, z_ob, ha, and_self, if_true]
    simp only [show ¬ (1 : Int32) = 0 by decide, if_false]
    by_cases c0 : b = 0
    · exact ⟨_, if_pos c0⟩
    by_cases c1 : b = 1
    · exact ⟨_, (if_neg c0).trans (if_pos c1)⟩
    simp only [c0, c1, if_false]
    by_cases c2 : b = 2
    · exact ⟨_, if_pos c2⟩
    by_cases c3 : b = 3
    · exact ⟨_, (if_neg c2).trans (if_pos c3)⟩
    simp only [c2, c3, if_false]
    by_cases c4 : b = 4
    · exact ⟨_, if_pos c4⟩
    by_cases c5 : b = 5
    · exact ⟨_, (if_neg c4).trans (if_pos c5)⟩
    exact ⟨_, (if_neg c4).trans (if_neg c5)⟩
  · rw [if_neg ha]
    exact ⟨-5, rfl, rfl⟩
theorem mod_ndf {b n : Nat} (h : b < 2 ^ (n + 1)) : ndf b (2 ^ n) = b % 2 ^ n := by
  apply Nat.eq_of_testBit_eq
  intro i
  rw [ndf_bit, Nat.testBit_mod_two_pow, Nat.testBit_two_pow]
  by_cases hi : i < n
  · have : ¬ n = i := by omega
    simp [hi, this]
  · by_cases hn : n = i
    · simp [hn]
    · have : b.testBit i = false := Nat.testBit_lt_two_pow (Nat.lt_of_lt_of_le h (Nat.pow_le_pow_right (by decide) (by omega)))
      simp [hi, hn, this]
def clK (v : Nat → Nat) (n : Nat) : Nat → Nat := fun j => if j = 3 then n else if j = 4 then v 4 % 2 ^ n else if j = 8 then (if v 8 = 1 ∧ v 13 ≤ n then 1 else 0) else v j
theorem clK_RB {v : Nat → Nat} {n : Nat} (h : RB v) (hn : v 3 = n + 1) : RB (clK v n) := by
  unfold RB at h ⊢
  simp only [clK]
  simp [h]
  refine ⟨by omega, Nat.mod_lt _ (Nat.two_pow_pos _), by split <;> omega⟩
theorem eq_close {MX MY : Mem} (h : Sim MX MY) : ∃ r MX' MY', FX8_close MX = some (r, MX') ∧ FX9_close MY = some (r, MY') ∧ Sim MX' MY' := by
  obtain ⟨v, u, tx, hA, hB, hK, hS, hT, hTx, hH, hZ⟩ := h
  obtain ⟨⟨x0, x1, x2, x3, x4, x5, x6, x7⟩, ⟨y0, y1, y2, y3, y4, y5, y6, y7⟩⟩ := id hA
  have hn : v 3 ≤ 12 := hB.2.2.2.1
  have hb : v 4 < 2 ^ v 3 := hB.2.2.2.2.1
  have h8 : v 8 < 2 := hB.2.2.2.2.2.2.2.2.2
  rcases Nat.eq_zero_or_pos (v 3) with h0 | h0
  · refine ⟨-3, MX, MY, ?_, ?_, v, u, tx, hA, hB, hK, hS, hT, hTx, hH, hZ⟩
    · unfold FX8_close
      rw [x3, h0]
      rfl
    · unfold FX9_close
      rw [y3, h0]
      rfl
  · obtain ⟨n, hn1⟩ : ∃ n, v 3 = n + 1 := ⟨v 3 - 1, by omega⟩
    have e1 : nI (v 3) - 1 = nI n := by rw [hn1]; exact z_sub (b := 1) (by omega)
    have e0 : ¬ nI (v 3) = 0 := nI_ne0 h0 (by omega)
    have p1 : (1 : Int32) <<< (nI n &&& 31) = nI (2 ^ n) := z_shl1 (by omega)
    have hp := z_p2 (s := n) (by omega)
    have hp0 := Nat.two_pow_pos n
    have p2 : nI (v 4) &&& (nI (2 ^ n) ^^^ (-1)) = nI (v 4 % 2 ^ n) := by rw [z_not, mod_ndf (by rw [← hn1]; exact hb)]
    have p2' := p2
    simp at p2'
    have p3 : nI (v 4) &&& (nI (2 ^ n) - 1) = nI (v 4 % 2 ^ n) := by
      rw [show (1 : Int32) = nI 1 from rfl, z_sub (by omega), z_and, Nat.and_two_pow_sub_one_eq_mod]
    have hbit : clK v n 3 = n := rfl
    have key : ∀ (MX' MY' : Mem), (∀ k, k ≠ 0 → k ≠ 1 → MX'.1 k = MX.1 k) → (∀ k, k ≠ 0 → MY'.1 k = MY.1 k) →
        MX'.1 1 4 = nI n → MX'.1 1 3 = nI (v 4 % 2 ^ n) → (∀ j, j ≠ 3 → j ≠ 4 → MX'.1 1 j = MX.1 1 j) → MX'.1 0 3 = nI (clK v n 8) →
        MY'.1 0 3 = nI n → MY'.1 0 9 = nI (v 4 % 2 ^ n) → MY'.1 0 16 = nI (clK v n 8) → (∀ j, j ≠ 3 → j ≠ 9 → j ≠ 16 → MY'.1 0 j = MY.1 0 j) → Sim MX' MY' := by
      intro MX' MY' a1 a2 b1 b2 b3 b4 c1 c2 c3 c4
      refine ⟨clK v n, u, tx, ?_, clK_RB hB hn1, ?_, ?_, ?_, ?_, ?_, ?_⟩
      · unfold RA
        simp only [clK]
        simp [a1, b1, b2, b3, c1, c2, c4, x0, x1, x2, x5, x6, x7, y0, y1, y2, y5, y6, y7]
      · unfold RK at hK ⊢
        refine ⟨b4, c3, fun h => ?_⟩
        have h' : v 8 = 1 ∧ v 13 ≤ n := by
          simp only [clK] at h
          by_cases hc : v 8 = 1 ∧ v 13 ≤ n
          · exact hc
          · simp [hc] at h
        obtain ⟨k1, k2, k3⟩ := hK.2.2 h'.1
        simp only [clK]
        simp [a1, c4, k1, k2, k3, h'.2]
      · rw [hbit]
        exact RS.fr (fun s hs => hS s (by omega)) (fun k h1 h2 s _ => by rw [a1 k (by omega) (by omega)]) (fun k h1 h2 s _ => by rw [a2 k (by omega)])
      · exact hT.fr (fun i _ => by rw [a1 11 (by omega) (by omega)]) (fun i _ => by rw [a2 6 (by omega)])
      · exact hTx.fr hB.2.2.2.2.2.2.1 (fun c h1 h2 => a1 c (by omega) (by omega)) (a2 7 (by omega)) (a2 8 (by omega)) (a2 13 (by omega))
      · exact hH.fr (fun c h1 h2 => a1 c (by omega) (by omega)) (a2 9 (by omega)) (a2 10 (by omega)) (a2 11 (by omega))
      · exact hZ.fr (fun c h1 h2 => a1 c (by omega) (by omega))
    obtain ⟨kx, ky, kz⟩ := hK
    have c8 : clK v n 8 = if v 8 = 1 ∧ v 13 ≤ n then 1 else 0 := rfl
    have hYc : FX9_close MY = some (nI n, wr (wr (wr MY 0 3 (nI n)) 0 9 (nI (v 4 % 2 ^ n))) 0 16 (nI (clK v n 8))) := by
      have n1 : ¬ nI 1 = 0 := by decide
      rcases (show v 8 = 0 ∨ v 8 = 1 by omega) with h | h
      · rw [h] at ky
        rw [c8, h]
        unfold FX9_close
        simp only [z_lt, y3, e0, if_false, e1, wr_at]
        simp [p1, p3, y4, ky, z_gd, show nI 0 = 0 from rfl]
      · obtain ⟨-, ⟨-, -, -, q3, -, -⟩, ⟨-, -, -, c3, -⟩⟩ := kz h
        rw [h] at ky
        rw [c8, h]
        unfold FX9_close
        simp only [z_lt, y3, e0, if_false, e1, wr_at]
        have hq := z_lts (a := n) (b := v 13) (by omega) (by omega)
        by_cases hc : n < v 13
        · have : ¬ v 13 ≤ n := by omega
          simp [p1, p3, y4, ky, n1, q3, hq, hc, this, z_gd, show nI 0 = 0 from rfl]
        · have h2 : v 13 ≤ n := by omega
          simp [p1, p3, y4, ky, n1, q3, hq, hc, h2, z_gd, show nI 1 = 1 from rfl]
    have hXc : ∃ MX', FX8_close MX = some (nI n, MX') ∧ (MX' = wr (wr MX 1 4 (nI n)) 1 3 (nI (v 4 % 2 ^ n)) ∧ clK v n 8 = v 8 ∨ MX' = wr (wr (wr MX 1 4 (nI n)) 1 3 (nI (v 4 % 2 ^ n))) 0 3 0 ∧ clK v n 8 = 0) := by
      by_cases hc : MX.1 2 4 ≤ nI n
      · refine ⟨wr (wr MX 1 4 (nI n)) 1 3 (nI (v 4 % 2 ^ n)), ?_, Or.inl ⟨rfl, ?_⟩⟩
        · unfold FX8_close
          simp only [z_lt, x3, e0, if_false, e1, wr_at]
          simp [p1, p2', x4, hc, wr_at]
        · rw [c8]
          rcases (show v 8 = 0 ∨ v 8 = 1 by omega) with h | h
          · simp [h]
          · obtain ⟨⟨-, -, -, p3, -, -⟩, -, ⟨-, -, -, c3, -⟩⟩ := kz h
            rw [p3, z_le (by omega) (by omega)] at hc
            simp [h, hc]
      · refine ⟨wr (wr (wr MX 1 4 (nI n)) 1 3 (nI (v 4 % 2 ^ n))) 0 3 0, ?_, Or.inr ⟨rfl, ?_⟩⟩
        · unfold FX8_close
          simp only [z_lt, x3, e0, if_false, e1, wr_at]
          simp [p1, p2', x4, hc, wr_at]
        · rw [c8]
          rcases (show v 8 = 0 ∨ v 8 = 1 by omega) with h | h
          · simp [h]
          · obtain ⟨⟨-, -, -, p3, -, -⟩, -, ⟨-, -, -, c3, -⟩⟩ := kz h
            rw [p3, z_le (by omega) (by omega)] at hc
            simp [h, hc]
    obtain ⟨MX', hXe, hXd⟩ := hXc
    refine ⟨nI n, MX', _, hXe, hYc, ?_⟩
    rcases hXd with ⟨rfl, hd⟩ | ⟨rfl, hd⟩
    · refine key _ _ ?_ ?_ ?_ ?_ ?_ ?_ ?_ ?_ ?_ ?_
      · intro k h1 h2; rw [wr_cell _ _ h2, wr_cell _ _ h2]
      · intro k h1; rw [wr_cell _ _ h1, wr_cell _ _ h1, wr_cell _ _ h1]
      · simp [wr_at]
      · simp [wr_at]
      · intro j h1 h2; simp [wr_at, h1, h2]
      · simp [wr_at, kx, hd]
      · simp [wr_at]
      · simp [wr_at]
      · simp [wr_at]
      · intro j h1 h2 h3; simp [wr_at, h1, h2, h3]
    · refine key _ _ ?_ ?_ ?_ ?_ ?_ ?_ ?_ ?_ ?_ ?_
      · intro k h1 h2; rw [wr_cell _ _ h1, wr_cell _ _ h2, wr_cell _ _ h2]
      · intro k h1; rw [wr_cell _ _ h1, wr_cell _ _ h1, wr_cell _ _ h1]
      · simp [wr_at]
      · simp [wr_at]
      · intro j h1 h2; simp [wr_at, h1, h2]
      · rw [hd]; simp [wr_at]; rfl
      · simp [wr_at]
      · simp [wr_at]
      · simp [wr_at]
      · intro j h1 h2 h3; simp [wr_at, h1, h2, h3]
