/-! show -/
theorem x_shL {T : Twn} (hT : Twf T) {k d : Nat} {w : List Nat} (hp : Pre T k d 0 (T.1 0) w) (hl : w.length ≤ 12) {s m : Nat} (hs : s < 4) (hm : m < 8192) : ∀ (n i f : Nat) (M : Mem), i + n = w.length → n < f → M.2 38 m = lN (Kw T k w) → M.1 (44 + s) 1 = 2 → M.1 (44 + s) 2 = nI w.length →
    ∃ M', FX8_show_L71 f (nI s) (nI m) (nI w.length) (nI i) M = some M' ∧ kp (48 + s) M M' ∧ ∀ j, M'.1 (48 + s) j = if i ≤ j ∧ j < w.length then nI (w.getD j 0) else M.1 (48 + s) j := by
  intro n
  induction n with
  | zero =>
    intro i f M hi hf h38 h1 h2
    obtain ⟨f, rfl⟩ : ∃ g, f = g + 1 := ⟨f - 1, by omega⟩
    have : i = w.length := by omega
    subst this
    rw [FX8_show_L71, if_pos (Int32.le_refl _)]
    exact ⟨M, rfl, kp.rf _ _, fun j => by rw [if_neg (by omega)]⟩
  | succ n ih =>
    intro i f M hi hf h38 h1 h2
    obtain ⟨f, rfl⟩ : ∃ g, f = g + 1 := ⟨f - 1, by omega⟩
    have hil : i < w.length := by omega
    have eput : FX2_put (44 + s) (nI i) (nI (w.getD i 0)) M = some (wr M (48 + s) i (nI (w.getD i 0))) := by
      unfold FX2_put
      have e : (if nI i < 0 then true else if nI i < M.1 (44 + s) 2 then false else true) = false := by
        rw [if_neg (z_neg (by omega)), h2, if_pos (nI_lt hil (by omega))]
      rw [e, z_lt, if_neg (by decide), h1, if_neg (by decide), if_neg (by decide), z_gi (by omega) (by decide), z_lt, z_ix (by omega), show 44 + s + 4 = 48 + s by omega]
    rw [FX8_show_L71, if_neg (nI_ge hil (by omega)), z_gi hs (by decide), x_streetAt hT hp hm h38 hil (by omega), z_ob, z_ix (by omega), eput, z_ob, z_lt, nI_1]
    obtain ⟨M', r1, r2, r3⟩ := ih (i + 1) f (wr M (48 + s) i (nI (w.getD i 0))) (by omega) (by omega) (by rw [wr_2]; exact h38) (by rw [wr_cell _ _ (by omega)]; exact h1) (by rw [wr_cell _ _ (by omega)]; exact h2)
    refine ⟨M', r1, (kp.wr _ _ _ _).tr r2, fun j => ?_⟩
    rw [r3 j, wr_at]
    by_cases e : j = i
    · subst e
      rw [if_neg (by omega), if_pos ⟨rfl, rfl⟩, if_pos ⟨Nat.le_refl _, hil⟩]
    · rw [if_neg (show ¬ (48 + s = 48 + s ∧ j = i) from fun z => e z.2)]
      by_cases g : i ≤ j ∧ j < w.length
      · rw [if_pos g, if_pos (by omega)]
      · rw [if_neg g, if_neg (by omega)]
theorem y_shL {w : List Nat} (hl : w.length ≤ 12) {s : Nat} (hs : s < 4) : ∀ (n i f : Nat) (M : Mem), i + n = 40 → n < f → M.1 0 44 = nI w.length → (∀ i, i < w.length → M.1 21 i = nI (w.getD i 0)) →
    ∃ M', FX9_show_L55 f (nI s) (nI i) M = some M' ∧ kp 11 M M' ∧ ∀ j, M'.1 11 j = if 40 * s + i ≤ j ∧ j < 40 * s + 40 then (if j - 40 * s < w.length then nI (w.getD (j - 40 * s) 0) else 0) else M.1 11 j := by
  intro n
  induction n with
  | zero =>
    intro i f M hi hf h44 h21
    obtain ⟨f, rfl⟩ : ∃ g, f = g + 1 := ⟨f - 1, by omega⟩
    have : i = 40 := by omega
    subst this
    rw [FX9_show_L55, if_pos (by decide)]
    exact ⟨M, rfl, kp.rf _ _, fun j => by rw [if_neg (by omega)]⟩
  | succ n ih =>
    intro i f M hi hf h44 h21
    obtain ⟨f, rfl⟩ : ∃ g, f = g + 1 := ⟨f - 1, by omega⟩
    obtain ⟨x, hx⟩ : ∃ x : Int32, x = if i < w.length then nI (w.getD i 0) else 0 := ⟨_, rfl⟩
    have e1 : (if M.1 0 44 ≤ nI i then some (0 : Int32) else gi (nI i) 12 (some (M.1 21 (Int32.toNatClampNeg (nI i))))) = some x := by
      rw [h44]
      by_cases g : i < w.length
      · rw [if_neg (nI_ge g (by omega)), z_gi (by omega) (by decide), z_ix (by omega), h21 i g, hx, if_pos g]
      · rw [if_pos (nI_le (by omega) (by omega)), hx, if_neg g]
    have e40 : 40 * nI s + nI i = nI (40 * s + i) := by rw [show (40 : Int32) = nI 40 from rfl, pk_mul, nI_add]
    have g40 : ¬ 40 ≤ nI i := nI_ge (b := 40) (by omega) (by decide)
    rw [FX9_show_L55, if_neg g40, e1, z_ob, e40, z_gi (by omega) (by decide), z_lt, z_ix (by omega), z_lt, nI_1]
    obtain ⟨M', r1, r2, r3⟩ := ih (i + 1) f (wr M 11 (40 * s + i) x) (by omega) (by omega) (by rw [wr_cell _ _ (by decide)]; exact h44) (fun i hi => by rw [wr_cell _ _ (by decide)]; exact h21 i hi)
    refine ⟨M', r1, (kp.wr _ _ _ _).tr r2, fun j => ?_⟩
    rw [r3 j, wr_at]
    by_cases e : j = 40 * s + i
    · subst e
      rw [if_neg (by omega), if_pos ⟨rfl, rfl⟩, if_pos (by omega), hx, show 40 * s + i - 40 * s = i by omega]
    · rw [if_neg (show ¬ (11 = 11 ∧ j = 40 * s + i) from fun z => e z.2)]
      by_cases g : 40 * s + i ≤ j ∧ j < 40 * s + 40
      · rw [if_pos g, if_pos (by omega)]
      · rw [if_neg g, if_neg (by omega)]
theorem eq_show {MX MY : Mem} (h : Sim MX MY) (a b : Int32) : ∃ r MX' MY', FX8_show a b MX = some (r, MX') ∧ FX9_show a b MY = some (r, MY') ∧ Sim MX' MY' := by
  obtain ⟨v, u, tx, hR⟩ := id h
  obtain ⟨hA, hB, hK, hS, hTt, hTx, hH, hZ⟩ := id hR
  obtain ⟨⟨x0, x1, x2, x3, x4, x5, x6, x7⟩, ⟨y0, y1, y2, y3, y4, y5, y6, y7⟩⟩ := id hA
  obtain ⟨b0, b1, b2, b3, b4, b5, b6, b7, b8, b9⟩ := hB
  unfold FX8_show FX9_show
  rw [x_isAway x0, y_isOther y0, z_ob, x_isSheet, z_in]
  by_cases h1 : (0 ≤ a ∧ a < 9) ∧ a ≠ nI (v 0)
  rotate_left
  · rw [if_neg h1, if_pos rfl, if_pos rfl]
    exact ⟨-5, MX, MY, rfl, rfl, h⟩
  rw [if_pos h1, if_neg n10, if_neg n10]
  by_cases h2 : 0 ≤ b ∧ b ≤ 3
  rotate_left
  · rw [if_neg h2, if_pos rfl, if_pos rfl]
    exact ⟨-2, MX, MY, rfl, rfl, h⟩
  rw [if_pos h2, if_neg n10, if_neg n10]
  obtain ⟨c, hc, rfl⟩ := corner_nI h1.1
  obtain ⟨s, hs3, rfl⟩ := zrange (n := 3) (by decide) h2
  have hs : s < 4 := by omega
  have hcp := p2_lt hc
  rw [z_shl1 (show c < 32 by omega)]
  obtain ⟨MX1, l1, l2, l3, l4⟩ := x_lay hR.TW x0 x4 x2 x3
  obtain ⟨MY1, m1, m2, m3, m4⟩ := y_looks hR.YW y0 y4 y2
  have hT := TS_wf (x := tx (v 6)) (hr := v 1) hS b3 b0 b4 b2
  obtain ⟨T, hTe⟩ : ∃ T, T = TS u (tx (v 6)) (v 1) (v 3) (v 0) (v 4) (v 2) := ⟨_, rfl⟩
  have hX : XTw T MX1 := by rw [hTe]; exact l3
  have hY : YTw T MY1 := by rw [hTe]; exact m4
  have hN : T.1 1 ≤ 12 := by rw [hTe]; exact b3
  rw [← hTe] at hT
  have hZ1 : RZ MX1 := hZ.fr fun c h1 h2 => l2 c (by omega)
  obtain ⟨Q, κ, MX2, e1, e2, e3⟩ := x_seek (k := 0) (d := 2 ^ c) hT hN (by decide) (by omega) hX hZ1
  have hZ2 := QS_RZ hT e2.1
  have hQX : QX MX MX2 := fun k hk => by
    rw [e3 k (by omega) (by omega) (by omega)]
    exact l2 k (by omega)
  unfold FX8_look
  rw [show nI 0 = 0 from rfl] at e1
  rw [l1, z_ob, e1, z_ob, z_ob]
  rcases y_finds hT hN (k := 0) (p := -1) (Or.inl ⟨rfl, rfl⟩) hcp m1 hY with ⟨MY2, f1, f2, f3, f4⟩ | ⟨w, MY2, f1, f2, f3, f4, f5, f6, f7⟩
  · -- no ring
    have hQY : QY (v 3) MY MY2 := by
      refine ⟨fun c h1 h2 s _ => ?_, fun c h1 h2 => ?_, fun j hj => ?_⟩
      · rw [f2.1 c (by omega) (by omega) (by omega), m2 c (by omega) (by omega) (by omega) (by omega) (by omega)]
      · rw [f2.1 c (by omega) (by omega) (by omega)]
        exact m2 c (by omega) (by omega) (by omega) (by omega) (by omega)
      · rw [f2.2 j (by omega) (by omega)]
        exact m3 j (by omega)
    rcases x_least hT (by omega) e2 with ⟨g1, g2⟩ | ⟨w', g1, g2, g3, g4, g5⟩
    · rw [g1, z_ob, f1, z_ob, if_neg (by decide)]
      exact ⟨-1, MX2, MY2, rfl, rfl, v, u, tx, hR.fr hQX hZ2 hQY⟩
    · exact absurd g2 (f4 w')
  · have hQY : QY (v 3) MY MY2 := by
      refine ⟨fun c h1 h2 s _ => ?_, fun c h1 h2 => ?_, fun j hj => ?_⟩
      · rw [f2.1 c (by omega) (by omega) (by omega), m2 c (by omega) (by omega) (by omega) (by omega) (by omega)]
      · rw [f2.1 c (by omega) (by omega) (by omega)]
        exact m2 c (by omega) (by omega) (by omega) (by omega) (by omega)
      · rw [f2.2 j (by omega) (by omega)]
        exact m3 j (by omega)
    rcases x_least hT (by omega) e2 with ⟨g1, g2⟩ | ⟨w', g1, g2, g3, g4, g5⟩
    · exact absurd f3 (g2 w)
    have hww : w' = w := Kw_inj hT g2 f3 (Nat.le_antisymm (g3 w f3) (f4 w' g2))
    subst hww
    have hR2 := hR.fr hQX hZ2 hQY
    have hlen : pc (mE 0 w') = w'.length := by
      have := Pre_pc hT f3.1
      rw [pc_0] at this
      omega
    have hl : w'.length ≤ 12 := by
      have := pc_leN (show T.1 1 ≤ 13 by omega) (Pre_wk hT (wk_0 hT) f3.1).1
      omega
    have hpos := Cpl_ne f3
    rw [g1, z_ob, f1, z_ob, if_pos (z_pos (by omega)), if_neg (show ¬ ((1 : Int32), MY2).1 = 0 from n10), x_bits g5, hlen, z_lt, z_gi hs (by decide), z_gi hs (by decide), z_ix (by omega), z_lt, z_gi hs (by decide), wr_cell _ _ (by decide), f5, z_lt]
    have eb : FX2_become (44 + s) 2 (nI w'.length) MX2 = some (fillC (wr (wr MX2 (44 + s) 1 2) (44 + s) 2 (nI w'.length)) (44 + s + 4) 40 0) := by
      unfold FX2_become
      have q1 : nI w'.length < 40 := (z_lts (b := 40) (by omega) (by decide)).mpr (by omega)
      have q2 : 0 < nI w'.length := (z_lts (a := 0) (by decide) (by omega)).mpr hpos
      rw [if_pos q1, if_pos q2, z_lt, z_lt, fill_eq (by decide), z_ob]
    obtain ⟨MX3, hMX3⟩ : ∃ M, M = fillC (wr (wr MX2 (44 + s) 1 2) (44 + s) 2 (nI w'.length)) (44 + s + 4) 40 0 := ⟨_, rfl⟩
    rw [← hMX3] at eb
    have c1 : MX3.1 (44 + s) 1 = 2 := by rw [hMX3, fillC_cell _ _ (by omega), wr_at, if_neg (by omega), wr_at, if_pos ⟨rfl, rfl⟩]
    have c2 : MX3.1 (44 + s) 2 = nI w'.length := by rw [hMX3, fillC_cell _ _ (by omega), wr_at, if_pos ⟨rfl, rfl⟩]
    have c3 : MX3.2 = MX2.2 := by rw [hMX3]; rfl
    have c4 : ∀ k, k ≠ 44 + s → k ≠ 48 + s → MX3.1 k = MX2.1 k := fun k h1 h2 => by rw [hMX3, fillC_cell _ _ (by omega), wr_cell _ _ h1, wr_cell _ _ h1]
    have c5 : ∀ j, j < 40 → MX3.1 (48 + s) j = 0 := fun j hj => by rw [hMX3, fillC_at, if_pos ⟨by omega, hj⟩]
    obtain ⟨MX4, d1, d2, d3⟩ := x_shL hT f3.1 hl hs g5 w'.length 0 FU MX3 (by omega) (by rw [z_FU]; omega) (by rw [c3]; exact g4) c1 c2
    obtain ⟨MY3, hMY3⟩ : ∃ M, M = wr (wr MY2 9 s 2) 10 s (nI w'.length) := ⟨_, rfl⟩
    rw [← hMY3]
    have n1 : MY3.1 0 44 = nI w'.length := by rw [hMY3, wr_cell _ _ (by decide), wr_cell _ _ (by decide)]; exact f5
    obtain ⟨MY4, p1, p2, p3⟩ := y_shL hl hs 40 0 FU MY3 (by omega) (by rw [z_FU]; omega) n1 (fun i hi => by rw [hMY3, wr_cell _ _ (by decide), wr_cell _ _ (by decide)]; exact f7 i hi)
    rw [show nI 0 = 0 from rfl] at d1 p1
    rw [eb, z_ob, d1, z_ob, p1, z_ob, p2 0 (by decide), n1]
    refine ⟨nI w'.length, MX4, MY4, rfl, rfl, v, upZ u s w'.length, tx, hR2.sh (fun k hk => ?_) (fun k hk => ?_) (fun j hj => ?_) ?_⟩
    · rw [d2 k (by omega), c4 k (by omega) (by omega)]
    · rw [p2 k (by omega), hMY3, wr_cell _ _ (by omega), wr_cell _ _ (by omega)]
    · funext i
      simp only [upZ]
      rw [if_neg (by omega)]
    · intro t ht
      obtain ⟨q1, q2, q3⟩ := hR2.2.2.2.2.2.2.1 t ht
      by_cases hts : t = s
      · subst hts
        refine ⟨⟨?_, ?_⟩, ⟨?_, ?_, ?_⟩, ?_⟩
        · rw [d2 (44 + t) (by omega), c1, p2 9 (by decide), hMY3, wr_cell _ _ (by decide), wr_at, if_pos ⟨rfl, rfl⟩]
        · rw [p2 9 (by decide), hMY3, wr_cell _ _ (by decide), wr_at, if_pos ⟨rfl, rfl⟩]
          exact Or.inr (Or.inr (Or.inr rfl))
        · rw [d2 (44 + t) (by omega), c2]
          simp only [upZ]
          simp
        · rw [p2 10 (by decide), hMY3, wr_at, if_pos ⟨rfl, rfl⟩]
          simp only [upZ]
          simp
        · simp only [upZ]
          simp
          omega
        · intro i hi
          rw [d3 i, p3, if_pos (show 40 * t + 0 ≤ 40 * t + i ∧ 40 * t + i < 40 * t + 40 by omega), show 40 * t + i - 40 * t = i by omega]
          by_cases g : i < w'.length
          · rw [if_pos ⟨Nat.zero_le _, g⟩, if_pos g]
          · rw [if_neg (fun z => g z.2), if_neg g, c5 i hi]
      · refine ⟨⟨?_, ?_⟩, ⟨?_, ?_, ?_⟩, ?_⟩
        · rw [d2 (44 + t) (by omega), c4 _ (by omega) (by omega), p2 9 (by decide), hMY3, wr_cell _ _ (by decide), wr_at, if_neg (fun z => hts z.2)]
          exact q1.1
        · rw [p2 9 (by decide), hMY3, wr_cell _ _ (by decide), wr_at, if_neg (fun z => hts z.2)]
          exact q1.2
        · rw [d2 (44 + t) (by omega), c4 _ (by omega) (by omega)]
          simp only [upZ]
          rw [if_neg (fun z => hts z.2)]
          exact q2.1
        · rw [p2 10 (by decide), hMY3, wr_at, if_neg (fun z => hts z.2), wr_cell _ _ (by decide)]
          simp only [upZ]
          rw [if_neg (fun z => hts z.2)]
          exact q2.2.1
        · simp only [upZ]
          rw [if_neg (fun z => hts z.2)]
          exact q2.2.2
        · intro i hi
          rw [d2 (48 + t) (by omega), c4 _ (by omega) (by omega), p3, if_neg (by omega), hMY3, wr_cell _ _ (by decide), wr_cell _ _ (by decide)]
          exact q3 i hi
