/-! part, house: another home -/
theorem gss {v : Nat → Nat} {u : Nat → Nat → Nat} {tx : Nat → Txt} {MX MY : Mem} (hR : RR v u tx MX MY) : ∃ M', FX1_take 3 1 MX = some M' ∧ (∀ k, k ≠ 3 → M'.1 k = MX.1 k) ∧ M'.1 3 0 = nI (v 0) ∧ M'.1 3 1 = nI (v 1) ∧ M'.1 3 2 = nI (v 2) ∧ M'.1 3 3 = nI (v 4) ∧ M'.1 3 4 = nI (v 3) ∧ M'.1 3 5 = nI (v 6) := by
  obtain ⟨⟨x0, x1, x2, x3, x4, x5, x6, x7⟩, -⟩ := hR.1
  obtain ⟨M', h1, h2, h3, -⟩ := take_eq 3 1 (by decide) MX
  exact ⟨M', h1, h2, (h3 0 (by decide)).trans x0, (h3 1 (by decide)).trans x1, (h3 2 (by decide)).trans x2, (h3 3 (by decide)).trans x4, (h3 4 (by decide)).trans x3, (h3 5 (by decide)).trans x6⟩
/-- the class's guess stands over the town -/
def GX (v : Nat → Nat) (MX A : Mem) (hd hr law : Nat) : Prop := QX MX A ∧ RZ A ∧ A.1 3 0 = nI hd ∧ A.1 3 1 = nI hr ∧ A.1 3 2 = nI (v 2) ∧ A.1 3 3 = nI (v 4) ∧ A.1 3 4 = nI (v 3) ∧ A.1 3 5 = nI law
/-- the reference's guess -/
def GY (v : Nat → Nat) (MY B : Mem) (hd hr law : Nat) : Prop := (∀ k, 1 ≤ k → k ≤ 13 → B.1 k = MY.1 k) ∧ (∀ j, (j = 2 ∨ j = 3 ∨ (9 ≤ j ∧ j ≤ 22 ∧ j ≠ 15)) → B.1 0 j = MY.1 0 j) ∧ B.1 0 0 = nI hd ∧ B.1 0 1 = nI hr ∧ B.1 0 15 = nI law
theorem GY.hm {v : Nat → Nat} {MY B : Mem} {hd hr law : Nat} (h : GY v MY B hd hr law) (c : Nat) : GY v MY (wr B 0 0 (nI c)) c hr law := by
  obtain ⟨h1, h2, h3, h4, h5⟩ := h
  exact ⟨fun k a b => by rw [wr_cell _ _ (by omega)]; exact h1 k a b, fun j hj => by rw [wr_at, if_neg (by omega)]; exact h2 j hj, by rw [wr_at, if_pos ⟨rfl, rfl⟩], by rw [wr_at, if_neg (by omega)]; exact h4, by rw [wr_at, if_neg (by omega)]; exact h5⟩
theorem GY.ho {v : Nat → Nat} {MY B : Mem} {hd hr law : Nat} (h : GY v MY B hd hr law) (c : Nat) : GY v MY (wr B 0 1 (nI c)) hd c law := by
  obtain ⟨h1, h2, h3, h4, h5⟩ := h
  exact ⟨fun k a b => by rw [wr_cell _ _ (by omega)]; exact h1 k a b, fun j hj => by rw [wr_at, if_neg (by omega)]; exact h2 j hj, by rw [wr_at, if_neg (by omega)]; exact h3, by rw [wr_at, if_pos ⟨rfl, rfl⟩], by rw [wr_at, if_neg (by omega)]; exact h5⟩
theorem GY.la {v : Nat → Nat} {MY B : Mem} {hd hr law : Nat} (h : GY v MY B hd hr law) (c : Nat) : GY v MY (wr B 0 15 (nI c)) hd hr c := by
  obtain ⟨h1, h2, h3, h4, h5⟩ := h
  exact ⟨fun k a b => by rw [wr_cell _ _ (by omega)]; exact h1 k a b, fun j hj => by rw [wr_at, if_neg (by omega)]; exact h2 j hj, by rw [wr_at, if_neg (by omega)]; exact h3, by rw [wr_at, if_neg (by omega)]; exact h4, by rw [wr_at, if_pos ⟨rfl, rfl⟩]⟩
theorem GX_w {v : Nat → Nat} {MX A : Mem} {hd hr law : Nat} (h : GX v MX A hd hr law) : (∀ c, GX v MX (wr A 3 0 (nI c)) c hr law) ∧ (∀ c, GX v MX (wr A 3 1 (nI c)) hd c law) ∧ ∀ c, GX v MX (wr A 3 5 (nI c)) hd hr c := by
  obtain ⟨h1, h2, h3, h4, h5, h6, h7, h8⟩ := h
  have q : ∀ j (x : Int32), QX MX (wr A 3 j x) ∧ RZ (wr A 3 j x) := fun j x => ⟨fun k hk => by rw [wr_cell _ _ (by omega)]; exact h1 k hk, h2.fr fun c a b => wr_cell _ _ (by omega)⟩
  refine ⟨fun c => ⟨(q _ _).1, (q _ _).2, ?_⟩, fun c => ⟨(q _ _).1, (q _ _).2, ?_⟩, fun c => ⟨(q _ _).1, (q _ _).2, ?_⟩⟩
  all_goals
    simp only [wr_at]
    simp
    exact ⟨by assumption, by assumption, by assumption, by assumption, by assumption⟩
theorem GX_of {v : Nat → Nat} {u : Nat → Nat → Nat} {tx : Nat → Txt} {MX MY : Mem} (hR : RR v u tx MX MY) : ∃ A, FX1_take 3 1 MX = some A ∧ GX v MX A (v 0) (v 1) (v 6) := by
  obtain ⟨A, h1, h2, h3, h4, h5, h6, h7, h8⟩ := gss hR
  exact ⟨A, h1, fun k hk => h2 k (by omega), hR.2.2.2.2.2.2.2.fr fun c a b => h2 c (by omega), h3, h4, h5, h6, h7, h8⟩
theorem GY_of {v : Nat → Nat} {u : Nat → Nat → Nat} {tx : Nat → Txt} {MX MY : Mem} (hR : RR v u tx MX MY) : GY v MY MY (v 0) (v 1) (v 6) := by
  obtain ⟨-, ⟨y0, y1, y2, y3, y4, y5, y6, y7⟩⟩ := hR.1
  exact ⟨fun _ _ _ => rfl, fun _ _ => rfl, y0, y1, y6⟩
/-- back from guesses -/
theorem RR.gs {v : Nat → Nat} {u : Nat → Nat → Nat} {tx : Nat → Txt} {MX MY A B : Mem} (hR : RR v u tx MX MY) {hd hr law : Nat} (hX : GX v MX A hd hr law) (hY : GY v MY B (v 0) (v 1) (v 6)) : RR v u tx A B := by
  obtain ⟨-, ⟨y0, y1, y2, y3, y4, y5, y6, y7⟩⟩ := hR.1
  refine hR.fr hX.1 hX.2.1 ⟨fun k a b s _ => by rw [hY.1 k (by omega) (by omega)], fun k a b => hY.1 k (by omega) b, fun j hj => ?_⟩
  by_cases h0 : j = 0
  · subst h0; rw [hY.2.2.1]; exact y0.symm
  · by_cases h1 : j = 1
    · subst h1; rw [hY.2.2.2.1]; exact y1.symm
    · by_cases h15 : j = 15
      · subst h15; rw [hY.2.2.2.2]; exact y6.symm
      · exact hY.2.1 j (by omega)
theorem gTW {v : Nat → Nat} {u : Nat → Nat → Nat} {tx : Nat → Txt} {MX MY A : Mem} (hR : RR v u tx MX MY) {hd hr law : Nat} (hX : GX v MX A hd hr law) (h1 : hr < 24) (h2 : law < v 5) : TW 3 (v 3) hr law (v 5) u (tx law) A MY := by
  obtain ⟨hA, hB, hK, hS, hT, hTx, hH, hZ⟩ := hR
  obtain ⟨⟨x0, x1, x2, x3, x4, x5, x6, x7⟩, -⟩ := hA
  obtain ⟨b0, b1, b2, b3, b4, b5, b6, b7, -⟩ := hB
  obtain ⟨g1, g2, g3, g4, g5, g6, g7, g8⟩ := hX
  exact ⟨⟨by decide, b3, h1, h2, b6⟩, ⟨g4, g8, by rw [g1 14 (by omega)]; exact x5⟩, hS.fr (fun k a b s _ => by rw [g1 k (by omega)]) (fun _ _ _ _ _ => rfl), (hTx.1 law h2).fr (g1 _ (by omega)) (g1 _ (by omega)) rfl rfl⟩
theorem gYW {v : Nat → Nat} {u : Nat → Nat → Nat} {tx : Nat → Txt} {MX MY B : Mem} (hR : RR v u tx MX MY) {hd hr law : Nat} (hY : GY v MY B hd hr law) (h1 : hr < 24) (h2 : law < v 5) : YW (v 3) hr law u (tx law) MX B := by
  obtain ⟨hA, hB, hK, hS, hT, hTx, hH, hZ⟩ := hR
  obtain ⟨-, ⟨y0, y1, y2, y3, y4, y5, y6, y7⟩⟩ := hA
  obtain ⟨b0, b1, b2, b3, b4, b5, b6, b7, -⟩ := hB
  obtain ⟨g1, g2, g3, g4, g5⟩ := hY
  exact ⟨⟨b3, h1, by omega⟩, ⟨by rw [g2 3 (by omega)]; exact y3, g4, g5⟩, hS.fr (fun _ _ _ _ _ => rfl) (fun k a b s _ => by rw [g1 k (by omega) (by omega)]), (hTx.1 law h2).fr rfl rfl (g1 7 (by decide) (by decide)) (g1 8 (by decide) (by decide))⟩
theorem gT {v : Nat → Nat} {u : Nat → Nat → Nat} {tx : Nat → Txt} {MX MY : Mem} (hR : RR v u tx MX MY) {hd hr law : Nat} (h1 : hd < 9) : Twf (TS u (tx law) hr (v 3) hd (v 4) (v 2)) :=
  TS_wf hR.2.2.2.1 hR.2.1.2.2.2.1 h1 hR.2.1.2.2.2.2.1 hR.2.1.2.2.1
/-- the class searches by its guess -/
theorem gX {v : Nat → Nat} {u : Nat → Nat → Nat} {tx : Nat → Txt} {MX MY A : Mem} (hR : RR v u tx MX MY) {hd hr law : Nat} (hX : GX v MX A hd hr law) (h0 : hd < 9) (h1 : hr < 24) (h2 : law < v 5) : ∃ Q κ A', FX8_look 3 512 0 A = some A' ∧ SK (TS u (tx law) hr (v 3) hd (v 4) (v 2)) 0 512 Q κ A' ∧ GX v MX A' hd hr law := by
  obtain ⟨g1, g2, g3, g4, g5, g6, g7, g8⟩ := id hX
  obtain ⟨Q, κ, A', e1, e2, e3, e4, e5⟩ := x_look (gTW hR hX h1 h2) g3 g6 g5 g7 (gT hR h0) g2 (d := 512) (k := 0) (by decide) (by decide)
  refine ⟨Q, κ, A', e1, e2, fun k hk => ?_, e4, ?_⟩
  · rw [e5 k (by omega)]; exact g1 k hk
  · rw [e5 3 (by omega)]; exact ⟨g3, g4, g5, g6, g7, g8⟩
theorem gY {v : Nat → Nat} {u : Nat → Nat → Nat} {tx : Nat → Txt} {MX MY B : Mem} (hR : RR v u tx MX MY) {hd hr law : Nat} (hY : GY v MY B hd hr law) (h0 : hd < 9) (h1 : hr < 24) (h2 : law < v 5) : ∃ B1 B', FX9_looks 0 B = some B1 ∧ FX9_forward B1 = some B' ∧ YTw (TS u (tx law) hr (v 3) hd (v 4) (v 2)) B' ∧ FWD (TS u (tx law) hr (v 3) hd (v 4) (v 2)) B' ∧ GY v MY B' hd hr law := by
  obtain ⟨g1, g2, g3, g4, g5⟩ := id hY
  obtain ⟨-, ⟨y0, y1, y2, y3, y4, y5, y6, y7⟩⟩ := hR.1
  obtain ⟨B1, B', f1, f2, f3, f4, f5, f6⟩ := y_fwd (gYW hR hY h1 h2) g3 (by rw [g2 9 (by omega)]; exact y4) (by rw [g2 2 (by omega)]; exact y2) (gT hR h0)
  refine ⟨B1, B', f1, f2, f3, f4, fun k a b => ?_, fun j hj => ?_, ?_, ?_, ?_⟩
  · rw [f5 k (by omega) (by omega) (by omega) (by omega) (by omega) (by omega)]; exact g1 k a b
  · rw [f6 j (by omega)]; exact g2 j hj
  · rw [f6 0 (by decide)]; exact g3
  · rw [f6 1 (by decide)]; exact g4
  · rw [f6 15 (by decide)]; exact g5
theorem eq_part {MX MY : Mem} (h : Sim MX MY) (a : Int32) : ∃ r MX' MY', FX8_part a MX = some (r, MX') ∧ FX9_part a MY = some (r, MY') ∧ Sim MX' MY' := by
  obtain ⟨v, u, tx, hR⟩ := id h
  unfold FX8_part FX9_part
  rw [x_isCorner, y_isCorner, z_ob]
  by_cases h1 : 0 ≤ a ∧ a < 9
  rotate_left
  · rw [if_neg h1, if_pos rfl, if_pos rfl]
    exact ⟨-5, MX, MY, rfl, rfl, h⟩
  obtain ⟨c, hc, rfl⟩ := corner_nI h1
  obtain ⟨A, a1, a2⟩ := GX_of hR
  have hb := hR.2.1
  rw [if_pos h1, if_neg n10, if_neg n10, a1, z_ob]
  simp only [z_lt]
  obtain ⟨Q, κ, A', e1, e2, e3⟩ := gX hR ((GX_w a2).1 c) hc hb.2.1 hb.2.2.2.2.2.2.2.1
  obtain ⟨B1, B', f1, f2, f3, f4, f5⟩ := gY hR ((GY_of hR).hm c) hc hb.2.1 hb.2.2.2.2.2.2.2.1
  have hT := gT hR (law := v 6) (hr := v 1) hc
  obtain ⟨r, r1, r2, r3⟩ := x_ringedNow hT e1 e2
  obtain ⟨r', p1, p2, p3⟩ := y_ringedNow hT f1 f2 f3 f4
  have := bits_eq r3 p3
  subst this
  rw [r2, p2, z_ob, z_ob, hR.1.2.1]
  exact ⟨_, A', _, rfl, rfl, v, u, tx, hR.gs e3 (f5.hm (v 0))⟩
