/-! the reference's small functions on a town -/
def YTw (T : Twn) (M : Mem) : Prop := YT T.1 (T.2.1 1) (T.2.1 2) (T.2.1 3) T.2.2 M
theorem p13 {n m : Nat} (hn : n ≤ 13) (h : m < 2 ^ n) : m < 8192 := Nat.lt_of_lt_of_le h (Nat.pow_le_pow_right (n := 2) (by decide) hn)
theorem y_spL7 {T : Twn} (hT : Twf T) {M : Mem} (hY : YTw T M) {m : Nat} (hm : m < 2 ^ T.1 1) : ∀ (k i f : Nat), i + k = T.1 1 → k < f →
    FX9_spentBy_L7 f (nI m) (nI (T.1 2 ||| orB i (fun s => m.testBit s) (T.2.1 3))) (nI i) M = some (nI (spt T m)) := by
  have hN := hT.1.2.1
  have hm2 := p13 hN hm
  intro k
  induction k with
  | zero =>
    intro i f hi hf
    obtain ⟨f, rfl⟩ : ∃ g, f = g + 1 := ⟨f - 1, by omega⟩
    have : i = T.1 1 := by omega
    subst this
    rw [FX9_spentBy_L7, hY.1.2.1, if_pos (Int32.le_refl _)]
    rfl
  | succ k ih =>
    intro i f hi hf
    obtain ⟨f, rfl⟩ : ∃ g, f = g + 1 := ⟨f - 1, by omega⟩
    have ihh := ih (i + 1) f (by omega) (by omega)
    rw [orB] at ihh
    have g1 : ¬ nI (T.1 1) ≤ nI i := nI_ge (by omega) (by omega)
    obtain ⟨a1, a2, a3⟩ := hY.2.1 i (by omega)
    rw [FX9_spentBy_L7, hY.1.2.1, if_neg g1]
    simp (disch := omega) only [z_b1, z_gi, z_ix, a3, z_lt, nI_1]
    by_cases hb : m.testBit i = true
    · rw [if_pos hb, z_ob, z_or]
      rw [if_pos hb, ← Nat.or_assoc] at ihh
      exact ihh
    · rw [if_neg hb, z_ob, show (0 : Int32) = nI 0 from rfl, z_or]
      rw [if_neg hb, ← Nat.or_assoc] at ihh
      exact ihh
theorem y_spentBy {T : Twn} (hT : Twf T) {M : Mem} (hY : YTw T M) {m : Nat} (hm : m < 2 ^ T.1 1) : FX9_spentBy (nI m) M = some (nI (spt T m)) := by
  have := y_spL7 hT hY hm (T.1 1) 0 FU (by omega) (by have := hT.1.2.1; rw [z_FU]; omega)
  rw [orB, Nat.or_zero, show nI 0 = 0 from rfl] at this
  unfold FX9_spentBy
  rw [z_lt, hY.1.2.2.1, this, z_ob]
theorem y_paL9 {T : Twn} (hT : Twf T) {M : Mem} (hY : YTw T M) {m : Nat} (hm : m < 2 ^ T.1 1) : ∀ (k i f : Nat), i + k = T.1 1 → k < f →
    FX9_passedBy_L9 f (nI m) (nI (2 ^ T.1 0 ||| orB i (fun s => m.testBit s) (fun s => 2 ^ T.2.1 1 s ||| 2 ^ T.2.1 2 s))) (nI i) M = some (nI (pas T m)) := by
  have hN := hT.1.2.1
  have hm2 := p13 hN hm
  intro k
  induction k with
  | zero =>
    intro i f hi hf
    obtain ⟨f, rfl⟩ : ∃ g, f = g + 1 := ⟨f - 1, by omega⟩
    have : i = T.1 1 := by omega
    subst this
    rw [FX9_passedBy_L9, hY.1.2.1, if_pos (Int32.le_refl _)]
    rfl
  | succ k ih =>
    intro i f hi hf
    obtain ⟨f, rfl⟩ : ∃ g, f = g + 1 := ⟨f - 1, by omega⟩
    have ihh := ih (i + 1) f (by omega) (by omega)
    rw [orB] at ihh
    have g1 : ¬ nI (T.1 1) ≤ nI i := nI_ge (by omega) (by omega)
    obtain ⟨a1, a2, a3⟩ := hY.2.1 i (by omega)
    obtain ⟨⟨b1, b2, -⟩, -⟩ := hT.2 i (by omega)
    rw [FX9_passedBy_L9, hY.1.2.1, if_neg g1]
    simp (disch := omega) only [z_b1, z_gi, z_ix, a1, a2, z_lt, nI_1, z_shl1, z_or]
    by_cases hb : m.testBit i = true
    · rw [if_pos hb, z_ob, z_or]
      rw [if_pos hb, ← Nat.or_assoc] at ihh
      exact ihh
    · rw [if_neg hb, z_ob, show (0 : Int32) = nI 0 from rfl, z_or]
      rw [if_neg hb, ← Nat.or_assoc] at ihh
      exact ihh
theorem y_passedBy {T : Twn} (hT : Twf T) {M : Mem} (hY : YTw T M) {m : Nat} (hm : m < 2 ^ T.1 1) : FX9_passedBy (nI m) M = some (nI (pas T m)) := by
  have := y_paL9 hT hY hm (T.1 1) 0 FU (by omega) (by have := hT.1.2.1; rw [z_FU]; omega)
  have hd := hT.1.1
  rw [orB, Nat.or_zero, show nI 0 = 0 from rfl] at this
  unfold FX9_passedBy
  rw [z_lt, hY.1.1, z_shl1 (by omega), this, z_ob]
theorem y_odL4 {T : Twn} (hT : Twf T) {M : Mem} (hY : YTw T M) {m : Nat} (hm : m < 2 ^ T.1 1) : ∀ (k i f : Nat), i + k = T.1 1 → k < f →
    FX9_oddBy_L4 f (nI m) (nI (xoB i (fun s => m.testBit s) (fun s => 2 ^ T.2.1 1 s ^^^ 2 ^ T.2.1 2 s))) (nI i) M = some (nI (od T m)) := by
  have hN := hT.1.2.1
  have hm2 := p13 hN hm
  intro k
  induction k with
  | zero =>
    intro i f hi hf
    obtain ⟨f, rfl⟩ : ∃ g, f = g + 1 := ⟨f - 1, by omega⟩
    have : i = T.1 1 := by omega
    subst this
    rw [FX9_oddBy_L4, hY.1.2.1, if_pos (Int32.le_refl _)]
    rfl
  | succ k ih =>
    intro i f hi hf
    obtain ⟨f, rfl⟩ : ∃ g, f = g + 1 := ⟨f - 1, by omega⟩
    have ihh := ih (i + 1) f (by omega) (by omega)
    rw [xoB] at ihh
    have g1 : ¬ nI (T.1 1) ≤ nI i := nI_ge (by omega) (by omega)
    obtain ⟨a1, a2, a3⟩ := hY.2.1 i (by omega)
    obtain ⟨⟨b1, b2, -⟩, -⟩ := hT.2 i (by omega)
    rw [FX9_oddBy_L4, hY.1.2.1, if_neg g1]
    simp (disch := omega) only [z_b1, z_gi, z_ix, a1, a2, z_lt, nI_1, z_shl1, z_xor]
    by_cases hb : m.testBit i = true
    · rw [if_pos hb, z_ob, z_xor]
      rw [if_pos hb] at ihh
      exact ihh
    · rw [if_neg hb, z_ob, show (0 : Int32) = nI 0 from rfl, z_xor]
      rw [if_neg hb] at ihh
      exact ihh
theorem y_oddBy {T : Twn} (hT : Twf T) {M : Mem} (hY : YTw T M) {m : Nat} (hm : m < 2 ^ T.1 1) : FX9_oddBy (nI m) M = some (nI (od T m)) := by
  have := y_odL4 hT hY hm (T.1 1) 0 FU (by omega) (by have := hT.1.2.1; rw [z_FU]; omega)
  rw [xoB, show nI 0 = 0 from rfl] at this
  unfold FX9_oddBy
  rw [this, z_ob]
theorem y_side {T : Twn} (hT : Twf T) {M : Mem} (hY : YTw T M) {s c : Nat} (hs : s < T.1 1) (hc : c < 9) : ∃ d : Int32, FX9_sideOf (nI s) (nI c) M = some d ∧ ((d = -1 ∧ ¬ (c = T.2.1 1 s ∨ c = T.2.1 2 s)) ∨ ∃ j, j < 2 ∧ d = nI j ∧ FX9_beyond (nI s) d M = some (nI (ot T s c)) ∧ ∀ l, l < 2 → M.1 17 (4 * s + 2 * l + j) = nI (T.2.2 l c s)) := by
  have hN := hT.1.2.1
  obtain ⟨a1, a2, a3⟩ := hY.2.1 s hs
  obtain ⟨⟨b1, b2, b3, -⟩, -⟩ := hT.2 s hs
  unfold FX9_sideOf FX9_beyond ot
  simp (disch := omega) only [z_gi, z_ix, a1, a2, z_eq]
  by_cases h1 : T.2.1 1 s = c
  · refine ⟨0, by rw [if_pos h1], Or.inr ⟨0, by decide, rfl, by rw [if_pos rfl, if_pos h1], fun l hl => ?_⟩⟩
    have := (hY.2.2 s l hs hl).1
    rw [h1] at this
    exact this
  · by_cases h2 : T.2.1 2 s = c
    · refine ⟨1, by rw [if_neg h1, if_pos h2], Or.inr ⟨1, by decide, rfl, by rw [if_neg (by decide), if_neg h1], fun l hl => ?_⟩⟩
      have := (hY.2.2 s l hs hl).2
      rw [h2] at this
      exact this
    · refine ⟨-1, by rw [if_neg h1, if_neg h2], Or.inl ⟨rfl, ?_⟩⟩
      rintro (h | h)
      · exact h1 h.symm
      · exact h2 h.symm
theorem y_mayCome {T : Twn} (hT : Twf T) {M : Mem} (hY : YTw T M) {d P : Nat} (hd : d < 9) (hP : P < 512) : FX9_mayCome (nI d) (nI P) M = if (T.1 3 = 0 ∨ d = T.1 0 ∨ P.testBit d = false) then 1 else 0 := by
  obtain ⟨h1, h2, h3, h4⟩ := hT.1
  unfold FX9_mayCome
  rw [hY.1.2.2.2, hY.1.1]
  have e0 : (nI (T.1 3) = 0) ↔ T.1 3 = 0 := by
    rw [show (0 : Int32) = nI 0 from rfl]; exact z_eq (by omega) (by omega)
  simp (disch := omega) only [e0, z_eq, z_b0, z_lt]
  by_cases q1 : T.1 3 = 0
  · simp [q1]
  · by_cases q2 : d = T.1 0
    · simp [q2]
    · cases q3 : P.testBit d <;> simp [q1, q2, q3]
/-- the reference's question whether a street may be next, in its three pieces -/
theorem if_congr_prop {α : Type} {p q : Prop} [Decidable p] [Decidable q] (h : p ↔ q) {a b : α} : (if p then a else b) = if q then a else b := by
  by_cases hp : p
  · rw [if_pos hp, if_pos (h.mp hp)]
  · rw [if_neg hp, if_neg (fun z => hp (h.mpr z))]
theorem y_frag {T : Twn} (hT : Twf T) {M : Mem} (hY : YTw T M) {m c s l : Nat} (hm : m < 2 ^ T.1 1) (hs : s < T.1 1) (hc : c < 9) (hl : l < 2) : ∃ (d : Int32) (q : Nat),
    (if ((nI (spt T m) >>> (nI s &&& 31)) &&& 1) = 1 then some (-1) else ob (FX9_sideOf (nI s) (nI c) M) fun q => some q) = some d ∧
    (l = 0 → (if d = -1 then some 0 else gi ((4 * nI s) + d) 52 (some (M.1 17 (Int32.toNatClampNeg ((4 * nI s) + d))))) = some (nI q)) ∧
    (if d = -1 then some 0 else gi (((4 * nI s) + (2 * nI l)) + d) 52 (some (M.1 17 (Int32.toNatClampNeg (((4 * nI s) + (2 * nI l)) + d))))) = some (nI q) ∧
    (if nI q ≤ 0 then some false else ob (FX9_beyond (nI s) d M) fun q135 => if (FX9_mayCome q135 (nI (pas T m)) M) = 0 then some false else some true) = some (decide (q ≠ 0) && (T.1 3 == 0 || (ot T s c == T.1 0 || !(pas T m).testBit (ot T s c)))) ∧
    q = (if (spt T m).testBit s = true then 0 else T.2.2 l c s) ∧ (q ≠ 0 → FX9_beyond (nI s) d M = some (nI (ot T s c))) ∧ q ≤ 99 := by
  have hN := hT.1.2.1
  have hm2 := p13 hN hm
  have hsp := p13 hN (spt_lt hT m)
  have hp := pas_lt hT m
  have h99 := (hT.2 s hs).2.2.1 l c hl
  have hot := ot_lt hT hs c
  have nil : (if nI 0 ≤ 0 then some false else ob (FX9_beyond (nI s) (-1) M) fun q135 => if (FX9_mayCome q135 (nI (pas T m)) M) = 0 then some false else some true) = some false := if_pos (by decide)
  rw [if_congr_prop (z_b1 (show spt T m < 2147483648 by omega) (show s < 32 by omega))]
  by_cases hb : (spt T m).testBit s = true
  · refine ⟨-1, 0, by rw [if_pos hb], fun _ => by rw [if_pos rfl]; rfl, by rw [if_pos rfl]; rfl, by rw [nil]; rfl, by rw [if_pos hb], fun h => absurd rfl h, by omega⟩
  · obtain ⟨d, e1, e2⟩ := y_side hT hY hs hc
    rcases e2 with ⟨rfl, e2⟩ | ⟨j, j1, rfl, e3, e4⟩
    · have hz : T.2.2 l c s = 0 := by
        by_cases h : T.2.2 l c s = 0
        · exact h
        · exact absurd ((hT.2 s hs).2.1 l c hl h) e2
      refine ⟨-1, 0, by rw [if_neg hb, e1, z_ob], fun _ => by rw [if_pos rfl]; rfl, by rw [if_pos rfl]; rfl, by rw [nil]; rfl, by rw [if_neg hb, hz], fun h => absurd rfl h, by omega⟩
    · have f4 : (4 : Int32) = nI 4 := rfl
      have f2 : (2 : Int32) = nI 2 := rfl
      have nm : ¬ nI j = -1 := z_m1 (by omega)
      refine ⟨nI j, T.2.2 l c s, by rw [if_neg hb, e1, z_ob], fun h0 => ?_, ?_, ?_, by rw [if_neg hb], fun _ => e3, h99⟩
      · subst h0
        rw [if_neg nm, f4, pk_mul, nI_add, z_gi (by omega) (by decide), z_ix (by omega)]
        have := e4 0 (by decide)
        rw [show 4 * s + 2 * 0 + j = 4 * s + j by omega] at this
        rw [this]
      · rw [if_neg nm, f4, f2, pk_mul, pk_mul, nI_add, nI_add, z_gi (by omega) (by decide), z_ix (by omega), e4 l hl]
      · by_cases h0 : T.2.2 l c s = 0
        · rw [h0]
          exact if_pos (by decide)
        · have hle : ¬ nI (T.2.2 l c s) ≤ 0 := nI_nle (by omega) (by omega)
          rw [if_neg hle, e3, z_ob, y_mayCome hT hY hot hp]
          rw [decide_eq_true h0, Bool.true_and]
          by_cases q1 : T.1 3 = 0
          · simp [q1]
          · by_cases q2 : ot T s c = T.1 0
            · simp [q2]
            · cases q3 : (pas T m).testBit (ot T s c) <;> simp [q1, q2, q3]
