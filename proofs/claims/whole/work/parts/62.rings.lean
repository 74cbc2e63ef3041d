/-! round, ring, heavy -/
theorem TOLD_nn {T : Twn} (hT : Twf T) {k d a : Nat} {r : Int32} (h : TOLD T k d a r) : r = -1 ∨ ∃ n, n < 100000 ∧ r = nI n := by
  rcases h with ⟨h, -⟩ | ⟨w, h1, -, h3⟩
  · exact Or.inl h
  · refine Or.inr ⟨_, ?_, h3⟩
    have a1 := tm_le hT h1.1
    have a2 := Pre_len hT h1.1
    have a3 := p13 hT.1.2.1 (Pre_wk hT (wk_0 hT) h1.1).1
    have a4 : w.getD 0 0 < 13 := Pre_in hT h1.1 _ (getD_mem (Cpl_ne h1))
    unfold tv
    split
    · omega
    · split
      · omega
      · split <;> omega
theorem tell {v : Nat → Nat} {u : Nat → Nat → Nat} {tx : Nat → Txt} {MX MY : Mem} (hR : RR v u tx MX MY) {k d a : Nat} {p : Int32} (hp : shop p k) (hk : k < 512) (hd : d < 512) (ha : a < 4) : ∃ r q MX' MY', FX8_leastRing 1 (nI d) (nI k) (nI a) MX = some (r, MX') ∧ FX9_finds (nI d) p MY = some (q, MY') ∧ FX9_told4 q (nI a) MY' = some r ∧ RR v u tx MX' MY' ∧ (r = -1 ∨ ∃ n, n < 100000 ∧ r = nI n) := by
  obtain ⟨hA, hB, hK, hS, hT, hTx, hH, hZ⟩ := id hR
  obtain ⟨⟨x0, x1, x2, x3, x4, x5, x6, x7⟩, ⟨y0, y1, y2, y3, y4, y5, y6, y7⟩⟩ := id hA
  obtain ⟨b0, b1, b2, b3, b4, b5, b6, b7, b8, b9⟩ := hB
  obtain ⟨MX1, l1, l2, l3, l4⟩ := x_lay hR.TW x0 x4 x2 x3
  obtain ⟨MY1, m1, m2, m3, m4⟩ := y_looks hR.YW y0 y4 y2
  have hT := TS_wf (x := tx (v 6)) (hr := v 1) hS b3 b0 b4 b2
  have hX : XTw (TS u (tx (v 6)) (v 1) (v 3) (v 0) (v 4) (v 2)) MX1 := l3
  have hY : YTw (TS u (tx (v 6)) (v 1) (v 3) (v 0) (v 4) (v 2)) MY1 := m4
  have hZ1 : RZ MX1 := hZ.fr fun c h1 h2 => l2 c (by omega)
  obtain ⟨r, MX', e1, e2, e3, e4⟩ := x_leastRing hT b3 hk hd ha l1 hX hZ1
  obtain ⟨q, r', MY', f1, f2, f3, f4⟩ := y_told hT b3 hp hd ha m1 hY
  have := TOLD_one hT e2 f3
  subst this
  refine ⟨r, q, MX', MY', e1, f1, f2, hR.fr (fun c hc => ?_) e4 ⟨fun c h1 h2 s _ => ?_, fun c h1 h2 => ?_, fun j hj => ?_⟩, ?_⟩
  · rw [e3 c (by omega) (by omega) (by omega)]
    exact l2 c (by omega)
  · rw [f4.1 c (by omega) (by omega) (by omega), m2 c (by omega) (by omega) (by omega) (by omega) (by omega)]
  · rw [f4.1 c (by omega) (by omega) (by omega)]
    exact m2 c (by omega) (by omega) (by omega) (by omega) (by omega)
  · rw [f4.2 j (by omega) (by omega)]
    exact m3 j (by omega)
  · exact TOLD_nn hT f3
theorem eq_round {MX MY : Mem} (h : Sim MX MY) (a : Int32) : ∃ r MX' MY', FX8_round a MX = some (r, MX') ∧ FX9_round a MY = some (r, MY') ∧ Sim MX' MY' := by
  unfold FX8_round FX9_round
  rw [z_in, zrb, z_lt]
  by_cases ha : 0 ≤ a ∧ a ≤ 3
  · obtain ⟨j, hj, rfl⟩ := zrange (n := 3) (by decide) ha
    obtain ⟨v, u, tx, hR⟩ := h
    obtain ⟨r, q, MX', MY', e1, e2, e3, e4, -⟩ := tell hR (k := 0) (d := 0) (a := j) (p := -1) (Or.inl ⟨rfl, rfl⟩) (by decide) (by decide) (by omega)
    rw [show nI 0 = 0 from rfl] at e1 e2
    rw [if_pos ha, decide_eq_true ha, if_neg (by decide), if_neg (by decide), e1, e2, z_ob, z_ob, e3, z_ob]
    exact ⟨r, MX', MY', rfl, rfl, v, u, tx, e4⟩
  · rw [if_neg ha, decide_eq_false ha]
    exact ⟨-2, MX, MY, rfl, rfl, h⟩
theorem x_isAway {v : Nat → Nat} {M : Mem} (h0 : M.1 1 0 = nI (v 0)) (a : Int32) : FX8_isAway a M = if (0 ≤ a ∧ a < 9) ∧ a ≠ nI (v 0) then 1 else 0 := by
  unfold FX8_isAway
  rw [x_isCorner, h0, z_lt]
  by_cases h1 : 0 ≤ a ∧ a < 9 <;> by_cases h2 : a = nI (v 0) <;> simp [h1, h2]
theorem y_isOther {v : Nat → Nat} {M : Mem} (h0 : M.1 0 0 = nI (v 0)) (a : Int32) : FX9_isOther a M = some (if (0 ≤ a ∧ a < 9) ∧ a ≠ nI (v 0) then 1 else 0) := by
  unfold FX9_isOther
  rw [y_isCorner, h0, z_ob, z_lt]
  by_cases h1 : 0 ≤ a ∧ a < 9 <;> by_cases h2 : a = nI (v 0) <;> simp [h1, h2]
