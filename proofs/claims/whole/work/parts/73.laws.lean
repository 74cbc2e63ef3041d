/-! laws -/
theorem gR {v : Nat → Nat} {u : Nat → Nat → Nat} {tx : Nat → Txt} {MX MY A : Mem} (hR : RR v u tx MX MY) {hd hr law d a : Nat} (hX : GX v MX A hd hr law) (h0 : hd < 9) (h1 : hr < 24) (h2 : law < v 5) (hd9 : d < 512) (ha : a < 4) : ∃ r A', FX8_leastRing 3 (nI d) 0 (nI a) A = some (r, A') ∧ TOLD (TS u (tx law) hr (v 3) hd (v 4) (v 2)) 0 d a r ∧ GX v MX A' hd hr law := by
  obtain ⟨g1, g2, g3, g4, g5, g6, g7, g8⟩ := id hX
  obtain ⟨A1, l1, l2, l3, l4⟩ := x_lay (gTW hR hX h1 h2) g3 g6 g5 g7
  have hXT : XTw (TS u (tx law) hr (v 3) hd (v 4) (v 2)) A1 := l3
  have hZ1 : RZ A1 := g2.fr fun c h1 h2 => l2 c (by omega)
  obtain ⟨r, A', e1, e2, e3, e4⟩ := x_leastRing (gT hR h0) hR.2.1.2.2.2.1 (k := 0) (by decide) hd9 ha l1 hXT hZ1
  refine ⟨r, A', e1, e2, fun k hk => ?_, e4, ?_⟩
  · rw [e3 k (by omega) (by omega) (by omega), l2 k (by omega)]; exact g1 k hk
  · rw [e3 3 (by omega) (by omega) (by omega), l2 3 (by omega)]; exact ⟨g3, g4, g5, g6, g7, g8⟩
theorem eq_laL {v : Nat → Nat} {u : Nat → Nat → Nat} {tx : Nat → Txt} {MX MY : Mem} (hR : RR v u tx MX MY) {c : Nat} (hc : c < 9) (hch : c ≠ v 0) : ∀ (k t f f' law law' : Nat) (x : Int32) (A B : Mem), t + k = v 5 → k < f → k < f' → GX v MX A (v 0) (v 1) law → GY v MY B (v 0) (v 1) law' → ∃ y A' B' l l', FX8_laws_L26 f (nI c) x (nI t) A = some (y, A') ∧ FX9_laws_L21 f' (nI c) x (nI t) B = some (y, B') ∧ GX v MX A' (v 0) (v 1) l ∧ GY v MY B' (v 0) (v 1) l' := by
  have hb := hR.2.1
  have h6 := hb.2.2.2.2.2.2.1
  obtain ⟨⟨x0, x1, x2, x3, x4, x5, x6, x7⟩, ⟨y0, y1, y2, y3, y4, y5, y6, y7⟩⟩ := hR.1
  intro k
  induction k with
  | zero =>
    intro t f f' law law' x A B ht hf hf' hA hB
    obtain ⟨f, rfl⟩ : ∃ g, f = g + 1 := ⟨f - 1, by omega⟩
    obtain ⟨f', rfl⟩ : ∃ g, f' = g + 1 := ⟨f' - 1, by omega⟩
    have : t = v 5 := by omega
    subst this
    rw [FX8_laws_L26, FX9_laws_L21, hA.1 14 (by omega), x5, hB.2.1 14 (by omega), y5, if_pos (Int32.le_refl _), if_pos (Int32.le_refl _)]
    exact ⟨x, A, B, law, law', rfl, rfl, hA, hB⟩
  | succ k ih =>
    intro t f f' law law' x A B ht hf hf' hA hB
    obtain ⟨f, rfl⟩ : ∃ g, f = g + 1 := ⟨f - 1, by omega⟩
    obtain ⟨f', rfl⟩ : ∃ g, f' = g + 1 := ⟨f' - 1, by omega⟩
    have g5 : ¬ nI (v 5) ≤ nI t := nI_ge (by omega) (by omega)
    obtain ⟨r, A', e1, e2, e3⟩ := gR hR ((GX_w hA).2.2 t) hb.1 hb.2.1 (show t < v 5 by omega) (d := 2 ^ c) (a := 0) (p2_lt hc) (by decide)
    obtain ⟨B1, B', f1, f2, f3, f4, f5⟩ := gY hR (hB.la t) hb.1 hb.2.1 (show t < v 5 by omega)
    have hT := gT hR (law := t) (hr := v 1) hb.1
    obtain ⟨q, p1, p2, p3⟩ := y_ringedNow hT f1 f2 f3 f4
    have hL := TOLD_LSt hT e2
    have hch2 : c ≠ (TS u (tx t) (v 1) (v 3) (v 0) (v 4) (v 2)).1 0 := hch
    rw [FX8_laws_L26, FX9_laws_L21, hA.1 14 (by omega), x5, hB.2.1 14 (by omega), y5, if_neg g5, if_neg g5]
    simp only [z_lt]
    rw [show nI 0 = 0 from rfl] at e1
    rw [z_shl1 (show c < 32 by omega), e1, z_ob, p2, z_ob, z_shl1 (show t < 32 by omega), nI_1]
    simp only []
    rw [if_congr_prop (z_b1 (show q < 2147483648 by omega) (show c < 32 by omega))]
    rcases hL with ⟨h1, h2⟩ | ⟨n, h1, h2, h3, -⟩
    · have hno : ¬ q.testBit c = true := by
        intro z
        obtain ⟨p, hp⟩ := (RGD_FWS hch2).mp ((p3 c).mp z)
        exact h2 p hp
      rw [h1, if_pos (by decide), if_neg hno, Int32.or_zero]
      exact ih (t + 1) f f' t t x A' B' (by omega) (by omega) (by omega) e3 f5
    · have hyes : q.testBit c = true := (p3 c).mpr ((RGD_FWS hch2).mpr ⟨n, h3⟩)
      rw [h2, if_neg (z_neg (by omega)), if_pos hyes]
      exact ih (t + 1) f f' t t _ A' B' (by omega) (by omega) (by omega) e3 f5
theorem eq_laws {MX MY : Mem} (h : Sim MX MY) (a : Int32) : ∃ r MX' MY', FX8_laws a MX = some (r, MX') ∧ FX9_laws a MY = some (r, MY') ∧ Sim MX' MY' := by
  obtain ⟨v, u, tx, hR⟩ := id h
  obtain ⟨⟨x0, -⟩, ⟨y0, y1, y2, y3, y4, y5, y6, y7⟩⟩ := id hR.1
  unfold FX8_laws FX9_laws
  rw [x_isAway x0, y_isOther y0, z_ob]
  by_cases h1 : (0 ≤ a ∧ a < 9) ∧ a ≠ nI (v 0)
  rotate_left
  · rw [if_neg h1, if_pos rfl, if_pos rfl]
    exact ⟨-5, MX, MY, rfl, rfl, h⟩
  obtain ⟨c, hc, rfl⟩ := corner_nI h1.1
  have hch : c ≠ v 0 := fun z => h1.2 (by rw [z])
  obtain ⟨A, a1, a2⟩ := GX_of hR
  have h6 := hR.2.1.2.2.2.2.2.2.1
  obtain ⟨y, A', B', l, l', e1, e2, e3, e4⟩ := eq_laL hR hc hch (v 5) 0 FU FU (v 6) (v 6) 0 A MY (by omega) (by rw [z_FU]; omega) (by rw [z_FU]; omega) a2 (GY_of hR)
  rw [show nI 0 = 0 from rfl] at e1 e2
  rw [if_pos h1, if_neg n10, if_neg n10, a1, z_ob, e1, z_ob]
  simp only [z_lt]
  rw [e2, z_ob, y6]
  exact ⟨y, A', _, rfl, rfl, v, u, tx, hR.gs e3 (e4.la (v 6))⟩
/-! hours -/
theorem ev_no2 {nm nm' : Nat → Int32} (hm : ∀ j, j < 6 → j ≠ 2 → nm j = nm' j) : ∀ (cs : List Nat) (d : Nat) (s : Nat → Int32), (∀ c ∈ cs, c ≠ 2) → ev nm cs d s = ev nm' cs d s
  | [], _, _, _ => rfl
  | c :: r, d, s, h => by
    have hr : ∀ c ∈ r, c ≠ 2 := fun c hc => h c (List.mem_cons_of_mem _ hc)
    rw [ev, ev]
    by_cases h1 : 100000 ≤ c
    · rw [if_pos h1, if_pos h1]; exact ev_no2 hm r _ _ hr
    · rw [if_neg h1, if_neg h1]
      by_cases h2 : c < 6
      · rw [if_pos h2, if_pos h2, hm c h2 (h c List.mem_cons_self)]; exact ev_no2 hm r _ _ hr
      · rw [if_neg h2, if_neg h2]
        by_cases h3 : c = 13 ∨ c = 19
        · rw [if_pos h3, if_pos h3]; exact ev_no2 hm r _ _ hr
        · rw [if_neg h3, if_neg h3]; exact ev_no2 hm r _ _ hr
theorem tkS_hr {u : Nat → Nat → Nat} {x : Txt} {hr hr' : Nat} (hx : ∀ c ∈ x.1, c ≠ 2) (hh : hr < 12 ↔ hr' < 12) : tkS u x hr = tkS u x hr' := by
  have hw : ∀ s c p, wv (nmS u hr s c) (sec x p) = wv (nmS u hr' s c) (sec x p) := by
    intro s c p
    unfold wv
    refine ev_no2 (fun j _ hj => ?_) _ _ _ (fun e he => ?_)
    · unfold nmS
      simp only [if_neg hj]
    · refine hx e ?_
      unfold sec at he
      exact List.mem_of_mem_take (List.mem_of_mem_drop he)
  have hk : ∀ s c l, kok u hr s c l = kok u hr' s c l := by
    intro s c l
    unfold kok
    have e : decide (hr < 12) = decide (hr' < 12) := by simp only [hh]
    rw [e]
  have hge : 12 ≤ hr ↔ 12 ≤ hr' := by omega
  funext l c s
  unfold tkS opn may mn
  simp only [hw, hk, hge]
theorem x_naL {x : Txt} {t N : Nat} {MX MY : Mem} (hX : TXR x t MX MY) (ht : t < 6) : ∀ (k i f : Nat), i + k = x.1.length → k < f → (FX6_names_L16 f (nI t) 264 (nI i) MX = some (.inl 1)) ∨ (FX6_names_L16 f (nI t) 264 (nI i) MX = some (.inr ()) ∧ ∀ j, i ≤ j → j < x.1.length → x.1.getD j 0 ≠ 2) := by
  obtain ⟨⟨c1, c2, c3, c4⟩, -, -, c5, c6, -⟩ := hX
  have i2 : Int32.toNatClampNeg 2 = 2 := rfl
  have e2 := (c6 2 (by decide)).1
  rw [c3] at e2
  have g2 : ∀ {α : Type} (z : Option α), gi 2 3 z = z := fun z => z_gi (a := 2) (by decide) (by decide) z
  intro k
  induction k with
  | zero =>
    intro i f hi hf
    obtain ⟨f, rfl⟩ : ∃ g, f = g + 1 := ⟨f - 1, by omega⟩
    have : i = x.1.length := by omega
    subst this
    right
    rw [FX6_names_L16, z_gi ht (by decide), g2, z_ix (by omega), i2, e2, if_pos (Int32.le_refl _)]
    exact ⟨rfl, fun j h1 h2 => by omega⟩
  | succ k ih =>
    intro i f hi hf
    obtain ⟨f, rfl⟩ : ∃ g, f = g + 1 := ⟨f - 1, by omega⟩
    have hil : i < x.1.length := by omega
    have e5 := (c5 i hil).1
    rw [FX6_names_L16, z_gi ht (by decide), g2, z_ix (by omega), i2, e2, if_neg (nI_ge hil (by omega)), z_gi ht (by decide), z_gi (by omega) (by decide), z_ix (show i < 2147483648 by omega), e5]
    by_cases h : encX (x.1.getD i 0) = -264
    · left
      rw [if_pos h]
    · rw [if_neg h, z_lt, nI_1]
      have h2 : x.1.getD i 0 ≠ 2 := fun z => h (by rw [z]; decide)
      rcases ih (i + 1) f (by omega) (by omega) with g | ⟨g, g'⟩
      · exact Or.inl g
      · refine Or.inr ⟨g, fun j h1 h3 => ?_⟩
        rcases (show j = i ∨ i + 1 ≤ j by omega) with h4 | h4
        · rw [h4]; exact h2
        · exact g' j h4 h3
theorem x_names {x : Txt} {t N : Nat} {MX MY : Mem} (hX : TXR x t MX MY) (ht : t < N) (hN : N ≤ 6) (h14 : MX.1 14 4 = nI N) : FX6_names (nI t) 264 MX = some 1 ∨ (FX6_names (nI t) 264 MX = some 0 ∧ ∀ c ∈ x.1, c ≠ 2) := by
  unfold FX6_names
  have e : (if nI t < 0 then true else if nI t < MX.1 14 4 then false else true) = false := by
    rw [if_neg (z_neg (by omega)), h14, if_pos (nI_lt ht (by omega))]
  have hl := hX.1.2.2.2
  rw [e, z_lt, if_neg (by decide)]
  rcases x_naL (N := N) hX (by omega) x.1.length 0 FU (by omega) (by rw [z_FU]; omega) with g | ⟨g, g'⟩
  · left
    rw [show nI 0 = 0 from rfl] at g
    rw [g, z_ob]; rfl
  · right
    rw [show nI 0 = 0 from rfl] at g
    rw [g, z_ob]
    refine ⟨rfl, fun c hc => ?_⟩
    obtain ⟨i, hi, hi2⟩ := mem_getD hc
    rw [← hi2]
    exact g' i (Nat.zero_le _) hi
theorem eq_hrL {v : Nat → Nat} {u : Nat → Nat → Nat} {tx : Nat → Txt} {MX MY : Mem} (hR : RR v u tx MX MY) {c : Nat} (hc : c < 9) {nmd : Int32} (hnm : nmd = 0 → ∀ c ∈ (tx (v 6)).1, c ≠ 2) : ∀ (k i f f' hr hr' : Nat) (x b w mi : Int32) (A B : Mem), i + k = 24 → k < f → k < f' → GX v MX A (v 0) hr (v 6) → GY v MY B (v 0) hr' (v 6) → sm b → (0 < i → LSt (FWS (TS u (tx (v 6)) (i - 1) (v 3) (v 0) (v 4) (v 2)) (2 ^ c)) mi) →
    ∃ x' b' A' B' h h', FX8_hours_L59 f (nI c) nmd x b w mi (nI i) A = some (x', b', A') ∧ FX9_hours_L40 f' (nI c) x b w (nI i) B = some (x', b', B') ∧ GX v MX A' (v 0) h (v 6) ∧ GY v MY B' (v 0) h' (v 6) := by
  have hb := hR.2.1
  have h56 := hb.2.2.2.2.2.2.2.1
  intro k
  induction k with
  | zero =>
    intro i f f' hr hr' x b w mi A B hi hf hf' hA hB hbb hmi
    obtain ⟨f, rfl⟩ : ∃ g, f = g + 1 := ⟨f - 1, by omega⟩
    obtain ⟨f', rfl⟩ : ∃ g, f' = g + 1 := ⟨f' - 1, by omega⟩
    have : i = 24 := by omega
    subst this
    rw [FX8_hours_L59, FX9_hours_L40, if_pos (show (24 : Int32) ≤ nI 24 by decide), if_pos (show (24 : Int32) ≤ nI 24 by decide)]
    exact ⟨x, b, A, B, hr, hr', rfl, rfl, hA, hB⟩
  | succ k ih =>
    intro i f f' hr hr' x b w mi A B hi hf hf' hA hB hbb hmi
    obtain ⟨f, rfl⟩ : ∃ g, f = g + 1 := ⟨f - 1, by omega⟩
    obtain ⟨f', rfl⟩ : ∃ g, f' = g + 1 := ⟨f' - 1, by omega⟩
    have hi24 : i < 24 := by omega
    have g24 : ¬ 24 ≤ nI i := nI_ge (b := 24) (by omega) (by decide)
    have hT := gT hR (law := v 6) (hr := i) hb.1
    -- the class's minutes at this hour
    obtain ⟨mi', A', e1, e2, e3⟩ : ∃ mi' A', (if (if nmd = 0 then if nI i = 0 then true else if nI i = 12 then true else false else true) = true then ob (FX8_leastRing 3 (nI (2 ^ c)) 0 0 (wr A 3 1 (nI i))) fun q122 => some (q122.1, q122.2) else some (mi, wr A 3 1 (nI i))) = some (mi', A') ∧ LSt (FWS (TS u (tx (v 6)) i (v 3) (v 0) (v 4) (v 2)) (2 ^ c)) mi' ∧ GX v MX A' (v 0) i (v 6) := by
      have hA1 := (GX_w hA).2.1 i
      by_cases hcmp : (if nmd = 0 then if nI i = 0 then true else if nI i = 12 then true else false else true) = true
      · obtain ⟨r, A', e1, e2, e3⟩ := gR hR hA1 hb.1 hi24 h56 (d := 2 ^ c) (a := 0) (p2_lt hc) (by decide)
        rw [show nI 0 = 0 from rfl] at e1
        rw [if_pos hcmp, e1, z_ob]
        exact ⟨r, A', rfl, TOLD_LSt hT e2, e3⟩
      · rw [if_neg hcmp]
        refine ⟨mi, _, rfl, ?_, hA1⟩
        have hn0 : nmd = 0 := Classical.byContradiction fun z => hcmp (if_neg z)
        rw [if_pos hn0] at hcmp
        have hi0 : i ≠ 0 := fun z => hcmp (by rw [z]; rfl)
        have hi12 : i ≠ 12 := fun z => hcmp (by rw [z]; rfl)
        have ht : tkS u (tx (v 6)) i = tkS u (tx (v 6)) (i - 1) := tkS_hr (hnm hn0) (by omega)
        have := hmi (by omega)
        unfold TS at this ⊢
        rw [ht]
        exact this
    obtain ⟨B1, B', f1, f2, f3, f4, f5⟩ := gY hR (hB.ho i) hb.1 hi24 h56
    obtain ⟨y, y1, y2⟩ := y_fewest hT f3 f4 (d := 2 ^ c) (p2_lt hc)
    have := LSt_one e2 y2
    subst this
    have hsm : sm mi' := by
      rcases LSt_nn e2 with h | ⟨n, h1, h2⟩
      · exact Or.inl h
      · exact Or.inr ⟨n, by omega, h2⟩
    rw [FX8_hours_L59, FX9_hours_L40, if_neg g24, if_neg g24]
    simp only [z_lt]
    rw [z_shl1 (show c < 32 by omega), e1, z_ob, f1, z_ob, f2, z_ob, y1, z_ob, z_shl1 (show i < 32 by omega), nI_1]
    simp only []
    rw [if_congr_prop (sm_neg hbb)]
    have nxt : 0 < i + 1 → LSt (FWS (TS u (tx (v 6)) (i + 1 - 1) (v 3) (v 0) (v 4) (v 2)) (2 ^ c)) mi' := fun _ => by
      rw [Nat.add_sub_cancel]
      exact e2
    by_cases h1 : mi' = -1
    · have h0 : ¬ 0 ≤ mi' := by rw [h1]; decide
      rw [if_neg h0, if_pos h1, if_pos h1, Int32.or_zero]
      exact ih (i + 1) f f' i i x b w mi' A' B' (by omega) (by omega) (by omega) e3 f5 hbb nxt
    · have h0 : 0 ≤ mi' := Int32.not_lt.mp fun z => h1 ((sm_neg hsm).mp z)
      rw [if_pos h0, if_neg h1, if_neg h1]
      by_cases h2 : (if b = -1 then true else if w ≤ mi' then false else true) = true
      · rw [if_pos h2, if_pos h2]
        exact ih (i + 1) f f' i i _ (nI i) mi' mi' A' B' (by omega) (by omega) (by omega) e3 f5 (Or.inr ⟨i, by omega, rfl⟩) nxt
      · rw [if_neg h2, if_neg h2]
        exact ih (i + 1) f f' i i _ b w mi' A' B' (by omega) (by omega) (by omega) e3 f5 hbb nxt
theorem eq_hours {MX MY : Mem} (h : Sim MX MY) (a b : Int32) : ∃ r MX' MY', FX8_hours a b MX = some (r, MX') ∧ FX9_hours a b MY = some (r, MY') ∧ Sim MX' MY' := by
  obtain ⟨v, u, tx, hR⟩ := id h
  obtain ⟨⟨x0, x1, x2, x3, x4, x5, x6, x7⟩, ⟨y0, y1, y2, y3, y4, y5, y6, y7⟩⟩ := id hR.1
  have e2 := zlt_iff b (n := 1) (by decide)
  rw [show nI (1 + 1) = 2 from rfl, show nI 1 = 1 from rfl] at e2
  unfold FX8_hours FX9_hours
  rw [x_refusal x0, y_isOther y0, z_lt, z_ob, z_in]
  by_cases h1 : (0 ≤ a ∧ a < 9) ∧ a ≠ nI (v 0)
  rotate_left
  · simp only [if_neg h1, if_neg (show ¬ (0 : Int32) ≤ -5 from by decide), if_true]
    exact ⟨-5, MX, MY, rfl, rfl, h⟩
  by_cases h2 : 0 ≤ b ∧ b < 2
  rotate_left
  · have h3 : ¬ (0 ≤ b ∧ b ≤ 1) := fun z => h2 (e2.mpr z)
    simp only [if_pos h1, if_neg h2, if_neg h3, if_neg (show ¬ (0 : Int32) ≤ -7 from by decide), if_true, if_neg (show ¬ (1 : Int32) = 0 from by decide)]
    exact ⟨-7, MX, MY, rfl, rfl, h⟩
  have h3 := e2.mp h2
  obtain ⟨c, hc, rfl⟩ := corner_nI h1.1
  obtain ⟨A, a1, a2⟩ := GX_of hR
  simp only [if_pos h1, if_pos h2, if_pos h3, Int32.le_refl, if_true, if_neg (show ¬ (1 : Int32) = 0 from by decide), z_lt]
  obtain ⟨nmd, n1, n2⟩ : ∃ nmd : Int32, FX6_names (MX.1 1 5) 264 MX = some nmd ∧ (nmd = 0 → ∀ c ∈ (tx (v 6)).1, c ≠ 2) := by
    rw [x6]
    rcases x_names (hR.2.2.2.2.2.1.1 (v 6) hR.2.1.2.2.2.2.2.2.2.1) hR.2.1.2.2.2.2.2.2.2.1 hR.2.1.2.2.2.2.2.2.1 x5 with g | ⟨g, g'⟩
    · exact ⟨1, g, fun z => absurd z (by decide)⟩
    · exact ⟨0, g, fun _ => g'⟩
  obtain ⟨x', b', A', B', q, q', e1, f1, g1, g2⟩ := eq_hrL hR hc n2 24 0 FU FU (v 1) (v 1) 0 (-1) 0 (-1) A MY (by omega) (by rw [z_FU]; omega) (by rw [z_FU]; omega) a2 (GY_of hR) (Or.inl rfl) (fun z => absurd z (Nat.lt_irrefl 0))
  rw [show nI 0 = 0 from rfl] at e1 f1
  rw [n1, z_ob, a1, z_ob, e1, z_ob, f1, z_ob, y1]
  by_cases h0 : b = 0
  · rw [if_pos h0, if_pos h0]
    exact ⟨x', A', _, rfl, rfl, v, u, tx, hR.gs g1 (g2.ho (v 1))⟩
  · rw [if_neg h0, if_neg h0]
    exact ⟨b', A', _, rfl, rfl, v, u, tx, hR.gs g1 (g2.ho (v 1))⟩
