/-! lane: the reference, and both -/
theorem y_oneL {m : Nat} (hm : m < 8192) : ∀ (k i f : Nat), i + k = 13 → k < f → FX9_ones_L4 f (nI m) (nI (fb_ct (fun j => m.testBit j) i)) (nI i) = some (nI (pc m)) := by
  intro k
  induction k with
  | zero =>
    intro i f hi hf
    obtain ⟨f, rfl⟩ : ∃ g, f = g + 1 := ⟨f - 1, by omega⟩
    have : i = 13 := by omega
    subst this
    rw [FX9_ones_L4, if_pos (by decide)]
    rfl
  | succ k ih =>
    intro i f hi hf
    obtain ⟨f, rfl⟩ : ∃ g, f = g + 1 := ⟨f - 1, by omega⟩
    have ihh := ih (i + 1) f (by omega) (by omega)
    have g13 : ¬ 13 ≤ nI i := nI_ge (b := 13) (by omega) (by decide)
    rw [FX9_ones_L4, if_neg g13, z_bit (by omega) (by omega), nI_add]
    simp only [z_lt]
    rw [nI_1]
    have e : fb_ct (fun j => m.testBit j) i + bt1 m i = fb_ct (fun j => m.testBit j) (i + 1) := by
      rw [fb_ct_succ]
      rfl
    rw [e]
    exact ihh
theorem y_ones {m : Nat} (hm : m < 8192) : FX9_ones (nI m) = some (nI (pc m)) := by
  have := y_oneL hm 13 0 FU (by omega) (by rw [z_FU]; omega)
  unfold FX9_ones
  rw [show nI (fb_ct (fun j => m.testBit j) 0) = 0 from rfl, show nI 0 = 0 from rfl] at this
  rw [this, z_ob]
theorem y_looksL {n hr law hd been once a b mi : Nat} {u : Nat → Nat → Nat} {x : Txt} {MX M : Mem} (h : YW n hr law u x MX M) (h0 : M.1 0 0 = nI hd) (h9 : M.1 0 9 = nI been) (h2 : M.1 0 2 = nI once) (n2 : M.1 2 n = nI a) (n3 : M.1 3 n = nI b) (n4 : M.1 4 n = nI mi) :
    ∃ M', FX9_looks 1 M = some M' ∧ (∀ k, k ≠ 0 → k ≠ 15 → k ≠ 16 → k ≠ 17 → k ≠ 18 → M'.1 k = M.1 k) ∧ (∀ j, j ≠ 40 → M'.1 0 j = M.1 0 j) ∧ YTw (TL (TS u x hr n hd been once) a b mi) M' := by
  obtain ⟨⟨t1, t2, t3⟩, ⟨t6, t7, t8⟩, hS, hX⟩ := id h
  unfold FX9_looks
  rw [if_neg (by decide), z_lt, t6, z_lt]
  obtain ⟨M0, hM0⟩ : ∃ M0, M0 = wr M 0 40 (nI n + 1) := ⟨_, rfl⟩
  rw [← hM0]
  have c0 : ∀ j, j ≠ 40 → M0.1 0 j = M.1 0 j := fun j hj => by rw [hM0, wr_at, if_neg (fun z => hj z.2)]
  have ck : ∀ k, k ≠ 0 → M0.1 k = M.1 k := fun k hk => by rw [hM0, wr_cell _ _ hk]
  have hW : YW n hr law u x MX M0 := by
    refine ⟨⟨t1, t2, t3⟩, ⟨?_, ?_, ?_⟩, hS.fr (fun _ _ _ _ _ => rfl) (fun k h1 h2 s _ => by rw [ck k (by omega)]), hX.fr rfl rfl (ck 7 (by decide)) (ck 8 (by decide))⟩
    · rw [c0 3 (by decide)]; exact t6
    · rw [c0 1 (by decide)]; exact t7
    · rw [c0 15 (by decide)]; exact t8
  obtain ⟨T, hTe⟩ : ∃ T, T = TS u x hr n hd been once := ⟨_, rfl⟩
  have hT1 : T.1 1 = n := by rw [hTe]; rfl
  have l1 : ∀ s, s < n → (TL T a b mi).2.1 1 s = u 1 s := fun s hs => by rw [TL_e (by omega), hTe]; rfl
  have l2 : ∀ s, s < n → (TL T a b mi).2.1 2 s = u 2 s := fun s hs => by rw [TL_e (by omega), hTe]; rfl
  have l3 : ∀ s, s < n → (TL T a b mi).2.1 3 s = spn u n s := fun s hs => by rw [TL_e (by omega), hTe]; rfl
  have l4 : ∀ l c s, s < n → (TL T a b mi).2.2 l c s = tkS u x hr l c s := fun l c s hs => by rw [TL_t (by omega), hTe]; rfl
  have e1 := TL_n1 T a b mi
  have e2 := TL_n2 T a b mi
  have e3 := TL_n3 T a b mi
  have e4 := TL_nt T a b mi
  rw [hT1] at e1 e2 e3
  simp only [hT1] at e4
  have hend : ∀ s, s < n + 1 → M0.1 2 s = nI ((TL T a b mi).2.1 1 s) ∧ M0.1 3 s = nI ((TL T a b mi).2.1 2 s) := fun s hs => by
    rw [ck 2 (by decide), ck 3 (by decide)]
    rcases (show s < n ∨ s = n by omega) with hs | rfl
    · obtain ⟨-, ⟨y0, y1, y2, y3, y4⟩, -⟩ := hS s hs
      rw [l1 s hs, l2 s hs]
      exact ⟨y1, y2⟩
    · rw [e1, e2]; exact ⟨n2, n3⟩
  obtain ⟨M', f1, f2, f3⟩ := y_lo20 (e1 := (TL T a b mi).2.1 1) (e2 := (TL T a b mi).2.1 2) (sp := (TL T a b mi).2.1 3) (tk := (TL T a b mi).2.2) (show n + 1 ≤ 13 by omega) (M0 := M0) (by rw [hM0, wr_at, if_pos ⟨rfl, rfl⟩, nI_1]) hend (fun s hs M' hk => by
    obtain ⟨-, ⟨w6, -, -⟩, hS', -⟩ := hW.ky hk
    rcases (show s < n ∨ s = n by omega) with hs | rfl
    · rw [l3 s hs]
      exact y_spends hS' t1 w6 hs
    · rw [e3]
      unfold FX9_spendsOf
      rw [z_shl1 (by omega), z_lt, show FU = 99999 + 1 from rfl, FX9_spendsOf_L6, w6, if_pos (Int32.le_refl (nI s))]
      have eb : (if nI s ≤ 0 then false else false) = false := by split <;> rfl
      rw [eb, z_lt, if_neg nft, z_ob]) (fun s hs => by
    rcases (show s < n ∨ s = n by omega) with hs | rfl
    · exact YG_of hW hs (l1 s hs) (l2 s hs) (fun l c => l4 l c s hs)
    · intro M' hk c l hc hl
      obtain ⟨-, ⟨w6, -, -⟩, -, -⟩ := hW.ky hk
      have hlt : ¬ nI s < nI s := fun z => absurd ((z_lts (by omega) (by omega)).mp z) (Nat.lt_irrefl s)
      refine ⟨1, M', ?_, fun _ _ _ => rfl, fun z => absurd z (by decide), fun _ => ⟨M', ?_, fun _ _ _ => rfl⟩⟩
      · unfold FX9_mayGo
        rw [w6, if_neg hlt]
      · unfold FX9_minutesOf
        rw [w6, if_neg hlt, z_gi (by omega) (by decide), z_ix (by omega), hk 4 (by decide) (by decide) (by decide) (by decide), ck 4 (by decide), n4, e4, if_pos (by rw [e1, e2] at hc; exact hc)]) (n + 1) 0 FU M0 (by omega) (by rw [z_FU]; omega) (fun _ _ _ _ _ => rfl) (fun s hs => absurd hs (Nat.not_lt_zero s))
  rw [show nI 0 = 0 from rfl] at f1
  rw [f1, z_ob]
  have k0 := f2 0 (by decide) (by decide) (by decide) (by decide)
  refine ⟨M', rfl, fun k a b c d e => by rw [f2 k b c d e, ck k a], fun j hj => by rw [k0, c0 j hj], ?_⟩
  rw [← hTe]
  refine YT_of ⟨?_, ?_, ?_, ?_⟩ (fun s hs => ?_) (fun s hs => ?_)
  · rw [k0, c0 0 (by decide), TL_0, hTe]; exact h0
  · rw [k0, hM0, wr_at, if_pos ⟨rfl, rfl⟩, TL_1, hT1, nI_1]
  · rw [k0, c0 9 (by decide), TL_2, hTe]; exact h9
  · rw [k0, c0 2 (by decide), TL_3, hTe]; exact h2
  · rw [TL_1, hT1] at hs
    rw [f2 2 (by decide) (by decide) (by decide) (by decide), f2 3 (by decide) (by decide) (by decide) (by decide)]
    exact hend s hs
  · rw [TL_1, hT1] at hs
    exact f3 s hs
theorem pc_or_x {r y : Nat} (hr : r < 512) (hy : y < 512) : FJ6_bitCount_0f7a4 (nI r ||| nI y) = nI (pc (r ||| y)) := by
  rw [z_or]
  exact x_bits (Nat.lt_trans (Nat.or_lt_two_pow (n := 9) hr hy) (by decide))
/-- one lane, on both sides -/
theorem eq_la1 {v : Nat → Nat} {u : Nat → Nat → Nat} {tx : Nat → Txt} {T : Twn} (hTe : T = TS u (tx (v 6)) (v 1) (v 3) (v 0) (v 4) (v 2)) (hT : Twf T) {Q : List Nat} {r : Nat} (hr : r < 512) (hrb : ∀ i, r.testBit i = true ↔ RGD T 0 i) {A B : Mem} (hR : RR v u tx A B) (hX : XTw T A) (hQ : SQ T Q A) {a b mi : Nat} (ha : a < 9) (hb : b < 9) (hab : a ≠ b) (h1 : 1 ≤ mi) (h99 : mi ≤ 99) :
    ∃ y A' B1 B2 B' r', FX0_ringedByLane (nI a) (nI b) A = some (nI y, A') ∧ y < 512 ∧ FX9_looks 1 (wr (wr (wr (wr B 1 (v 3) 0) 2 (v 3) (nI a)) 3 (v 3) (nI b)) 4 (v 3) (nI mi)) = some B1 ∧ FX9_forward B1 = some B2 ∧ FX9_ringed 0 B2 = some (nI r') ∧ r' < 512 ∧ r ||| y = r' ∧ RR v u tx A' B2 ∧ XTw T A' ∧ SQ T Q A' ∧ B' = B2 := by
  obtain ⟨hA, hB, hK, hS, hTt, hTx, hH, hZ⟩ := id hR
  have hn : v 3 ≤ 12 := hB.2.2.2.1
  have hN : T.1 1 ≤ 12 := by rw [hTe]; exact hn
  obtain ⟨-, ⟨y0, y1, y2, y3, y4, y5, y6, y7⟩⟩ := hA
  obtain ⟨y, A', e1, e2, e3, e4, e5, e6, e7⟩ := x_lane hT hN ha hb hab (show mi ≠ 0 by omega) h99 hX hQ
  have hTL := TL_wf hT hN ha hb hab h99
  obtain ⟨C, hC⟩ : ∃ C, C = wr (wr (wr (wr B 1 (v 3) 0) 2 (v 3) (nI a)) 3 (v 3) (nI b)) 4 (v 3) (nI mi) := ⟨_, rfl⟩
  have hc : ∀ k, k ≠ 1 → k ≠ 2 → k ≠ 3 → k ≠ 4 → C.1 k = B.1 k := fun k a1 a2 a3 a4 => by rw [hC, wr_cell _ _ a4, wr_cell _ _ a3, wr_cell _ _ a2, wr_cell _ _ a1]
  have hcs : ∀ k s, s < v 3 → C.1 k s = B.1 k s := fun k s hs => by
    simp only [hC, wr_at]
    simp [show s ≠ v 3 by omega]
  have hYW : YW (v 3) (v 1) (v 6) u (tx (v 6)) A C := by
    obtain ⟨w1, ⟨w2, w3, w4⟩, w5, w6⟩ := hR.YW
    refine ⟨w1, ⟨by rw [hc 0 (by decide) (by decide) (by decide) (by decide)]; exact w2, by rw [hc 0 (by decide) (by decide) (by decide) (by decide)]; exact w3, by rw [hc 0 (by decide) (by decide) (by decide) (by decide)]; exact w4⟩, w5.fr (fun _ _ _ _ _ => rfl) (fun k _ _ s hs => hcs k s hs), w6.fr rfl rfl (hc 7 (by decide) (by decide) (by decide) (by decide)) (hc 8 (by decide) (by decide) (by decide) (by decide))⟩
  have k0 := hc 0 (by decide) (by decide) (by decide) (by decide)
  obtain ⟨B1, f1, f2, f3, f4⟩ := y_looksL (a := a) (b := b) (mi := mi) hYW (by rw [k0]; exact y0) (by rw [k0]; exact y4) (by rw [k0]; exact y2) (by rw [hC]; simp only [wr_at]; simp) (by rw [hC]; simp only [wr_at]; simp) (by rw [hC]; simp only [wr_at]; simp)
  rw [← hTe] at f4
  obtain ⟨B2, g1, g2, g3⟩ := y_forward hTL f4
  have hY2 := f4.kp g2 (by omega)
  obtain ⟨r', p1, p2, p3⟩ := y_ringed hTL hY2 g3 (A := 0) (by decide)
  rw [show nI 0 = 0 from rfl] at p2
  refine ⟨y, A', B1, B2, B2, r', e1, e2, by rw [← hC]; exact f1, g1, p2, p1, bits_eq (fun i => ?_) p3, hR.fr (fun k hk => ?_) e6 ⟨fun k a1 a2 s hs => ?_, fun k a1 a2 => ?_, fun j hj => ?_⟩, e4, e5, rfl⟩
  · rw [Nat.testBit_or, Bool.or_eq_true, hrb i, Or.comm]
    exact e3 i
  · exact e7 k (by omega)
  · rw [g2 k (by omega), f2 k (by omega) (by omega) (by omega) (by omega) (by omega)]
    exact hcs k s hs
  · rw [g2 k (by omega), f2 k (by omega) (by omega) (by omega) (by omega) (by omega)]
    exact hc k (by omega) (by omega) (by omega) (by omega)
  · rw [g2 0 (by decide), f3 j (by omega), k0]
theorem eq_la2 {v : Nat → Nat} {u : Nat → Nat → Nat} {tx : Nat → Txt} {T : Twn} (hTe : T = TS u (tx (v 6)) (v 1) (v 3) (v 0) (v 4) (v 2)) (hT : Twf T) {Q : List Nat} {r : Nat} (hr : r < 512) (hrb : ∀ i, r.testBit i = true ↔ RGD T 0 i) {a mi : Nat} (ha : a < 9) (h1 : 1 ≤ mi) (h99 : mi ≤ 99) : ∀ (k b f f' : Nat) (mo be : Int32) (A B : Mem), b + k = 9 → k < f → k < f' → a < b → RR v u tx A B → XTw T A → SQ T Q A →
    ∃ mo' be' A' B', FX8_lane_L60 f (nI r) (nI a) mo be (nI b) A = some (mo', be', A') ∧ FX9_lane_L52 f' (nI mi) (nI a) be mo (nI b) B = some (be', mo', B') ∧ RR v u tx A' B' ∧ XTw T A' ∧ SQ T Q A' := by
  intro k
  induction k with
  | zero =>
    intro b f f' mo be A B hb hf hf' hab hR hX hQ
    obtain ⟨f, rfl⟩ : ∃ g, f = g + 1 := ⟨f - 1, by omega⟩
    obtain ⟨f', rfl⟩ : ∃ g, f' = g + 1 := ⟨f' - 1, by omega⟩
    have : b = 9 := by omega
    subst this
    rw [FX8_lane_L60, FX9_lane_L52, if_pos (show (9 : Int32) ≤ nI 9 by decide), if_pos (show (9 : Int32) ≤ nI 9 by decide)]
    exact ⟨mo, be, A, B, rfl, rfl, hR, hX, hQ⟩
  | succ k ih =>
    intro b f f' mo be A B hb hf hf' hab hR hX hQ
    obtain ⟨f, rfl⟩ : ∃ g, f = g + 1 := ⟨f - 1, by omega⟩
    obtain ⟨f', rfl⟩ : ∃ g, f' = g + 1 := ⟨f' - 1, by omega⟩
    have g9 : ¬ 9 ≤ nI b := nI_ge (b := 9) (by omega) (by decide)
    have hn := hR.2.1.2.2.2.1
    obtain ⟨y, A', B1, B2, B', r', e1, e2, f1, f2, f3, f4, f5, f6, f7, f8, -⟩ := eq_la1 hTe hT hr hrb hR hX hQ ha (show b < 9 by omega) (by omega) h1 h99
    have y3 := hR.1.2.2.2.2.1
    have gn : ∀ {α : Type} (z : Option α), gi (nI (v 3)) 13 z = z := fun z => z_gi (by omega) (by decide) z
    have inn : Int32.toNatClampNeg (nI (v 3)) = v 3 := z_ix (by omega)
    have w1 : ∀ (M : Mem) (k j : Nat) (x : Int32), k ≠ 0 → (wr M k j x).1 0 = M.1 0 := fun M k j x h => wr_cell _ _ (Ne.symm h)
    rw [FX8_lane_L60, FX9_lane_L52, if_neg g9, if_neg g9, e1, z_ob]
    simp only [z_lt, w1 _ 1 _ _ (by decide), w1 _ 2 _ _ (by decide), w1 _ 3 _ _ (by decide), y3, gn, inn]
    rw [f1, z_ob, f2, z_ob, f3, z_ob, y_ones (show r' < 8192 by omega), z_ob, pc_or_x hr e2, f5, nI_1]
    by_cases hle : nI (pc r') ≤ mo
    · rw [if_pos hle, if_pos hle, if_pos hle]
      exact ih (b + 1) f f' mo be A' B2 (by omega) (by omega) (by omega) (by omega) f6 f7 f8
    · rw [if_neg hle, if_neg hle, if_neg hle]
      exact ih (b + 1) f f' _ _ A' B2 (by omega) (by omega) (by omega) (by omega) f6 f7 f8
theorem eq_la3 {v : Nat → Nat} {u : Nat → Nat → Nat} {tx : Nat → Txt} {T : Twn} (hTe : T = TS u (tx (v 6)) (v 1) (v 3) (v 0) (v 4) (v 2)) (hT : Twf T) {Q : List Nat} {r : Nat} (hr : r < 512) (hrb : ∀ i, r.testBit i = true ↔ RGD T 0 i) {mi : Nat} (h1 : 1 ≤ mi) (h99 : mi ≤ 99) : ∀ (k a f f' : Nat) (mo be : Int32) (A B : Mem), a + k = 9 → k < f → k < f' → RR v u tx A B → XTw T A → SQ T Q A →
    ∃ mo' be' A' B', FX8_lane_L47 f (nI r) mo be (nI a) A = some (mo', be', A') ∧ FX9_lane_L39 f' (nI mi) be mo (nI a) B = some (be', mo', B') ∧ RR v u tx A' B' := by
  intro k
  induction k with
  | zero =>
    intro a f f' mo be A B ha hf hf' hR hX hQ
    obtain ⟨f, rfl⟩ : ∃ g, f = g + 1 := ⟨f - 1, by omega⟩
    obtain ⟨f', rfl⟩ : ∃ g, f' = g + 1 := ⟨f' - 1, by omega⟩
    have : a = 9 := by omega
    subst this
    rw [FX8_lane_L47, FX9_lane_L39, if_pos (show (9 : Int32) ≤ nI 9 by decide), if_pos (show (9 : Int32) ≤ nI 9 by decide)]
    exact ⟨mo, be, A, B, rfl, rfl, hR⟩
  | succ k ih =>
    intro a f f' mo be A B ha hf hf' hR hX hQ
    obtain ⟨f, rfl⟩ : ∃ g, f = g + 1 := ⟨f - 1, by omega⟩
    obtain ⟨f', rfl⟩ : ∃ g, f' = g + 1 := ⟨f' - 1, by omega⟩
    have g9 : ¬ 9 ≤ nI a := nI_ge (b := 9) (by omega) (by decide)
    obtain ⟨mo1, be1, A1, B1, e1, e2, e3, e4, e5⟩ := eq_la2 hTe hT hr hrb (show a < 9 by omega) h1 h99 (8 - a) (a + 1) FU FU mo be A B (by omega) (by rw [z_FU]; omega) (by rw [z_FU]; omega) (by omega) hR hX hQ
    rw [FX8_lane_L47, FX9_lane_L39, if_neg g9, if_neg g9]
    simp only [z_lt]
    rw [nI_1, e1, z_ob, e2, z_ob]
    exact ih (a + 1) f f' mo1 be1 A1 B1 (by omega) (by omega) (by omega) e3 e4 e5
theorem eq_lane {MX MY : Mem} (h : Sim MX MY) (a b : Int32) : ∃ r MX' MY', FX8_lane a b MX = some (r, MX') ∧ FX9_lane a b MY = some (r, MY') ∧ Sim MX' MY' := by
  obtain ⟨v, u, tx, hR⟩ := id h
  unfold FX8_lane FX9_lane
  simp only [z_lt]
  rw [zrb, zrb, z_in, z_in]
  by_cases ha : 1 ≤ a ∧ a ≤ 99
  rotate_left
  · rw [if_neg ha, decide_eq_false ha]
    exact ⟨-2, MX, MY, rfl, rfl, h⟩
  rw [if_pos ha, decide_eq_true ha, if_neg nb1, if_neg n10]
  by_cases hb : 0 ≤ b ∧ b ≤ 1
  rotate_left
  · rw [if_neg hb, decide_eq_false hb]
    exact ⟨-7, MX, MY, rfl, rfl, h⟩
  rw [if_pos hb, decide_eq_true hb, if_neg nb1, if_neg n10]
  obtain ⟨mi, hmi, rfl⟩ := zrange (n := 99) (by decide) ⟨Int32.le_trans (show (0 : Int32) ≤ 1 by decide) ha.1, ha.2⟩
  have h1 : 1 ≤ mi := by
    have := ha.1
    rw [show (1 : Int32) = nI 1 from rfl, z_le (by decide) (by omega)] at this
    exact this
  obtain ⟨T, Q, κ, MX', MY1, MY', hTe, hT, e1, e2, e3, f1, f2, f3, f4, hR'⟩ := both hR
  obtain ⟨r, r1, r2, r3⟩ := x_ringedNow hT e1 e2
  obtain ⟨r', p1, p2, p3⟩ := y_ringedNow hT f1 f2 f3 f4
  have := bits_eq r3 p3
  subst this
  obtain ⟨mo', be', A', B', g1, g2, g3⟩ := eq_la3 hTe hT r1 r3 h1 hmi 9 0 FU FU (nI (pc r)) (-1) MX' MY' (by omega) (by rw [z_FU]; omega) (by rw [z_FU]; omega) hR' e3 (SQ_of e2)
  rw [show nI 0 = 0 from rfl] at g1 g2
  rw [r2, z_ob, p2, z_ob, x_bits (show r < 8192 by omega), y_ones (show r < 8192 by omega), z_ob, g1, z_ob, g2, z_ob]
  by_cases h0 : b = 0
  · rw [if_pos h0, if_pos h0]
    exact ⟨be', A', B', rfl, rfl, v, u, tx, g3⟩
  · rw [if_neg h0, if_neg h0]
    exact ⟨mo', A', B', rfl, rfl, v, u, tx, g3⟩
