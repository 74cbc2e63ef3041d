/-! walks that are gone step by step, on both sides -/
def WR (T : Twn) (m c t : Nat) (A B : Mem) : Prop := (wk T m c ∧ t ≤ 99 * pc m) ∧ (A.1 42 0 = nI (stt T m c) ∧ A.1 42 1 = nI t ∧ A.1 42 2 = nI (pc m)) ∧ XTw T A ∧ (B.1 0 47 = nI c ∧ B.1 0 48 = nI m ∧ B.1 0 49 = nI t) ∧ YTw T B
theorem w_begin {v : Nat → Nat} {u : Nat → Nat → Nat} {tx : Nat → Txt} {T : Twn} (hTe : T = TS u (tx (v 6)) (v 1) (v 3) (v 0) (v 4) (v 2)) (hT : Twf T) {A B : Mem} (hR : RR v u tx A B) (hX : XTw T A) : ∃ A' B', FX4_begin A = some A' ∧ FX9_sets B = some B' ∧ WR T 0 (T.1 0) 0 A' B' ∧ RR v u tx A' B' ∧ XTw T A' := by
  obtain ⟨-, ⟨y0, y1, y2, y3, y4, y5, y6, y7⟩⟩ := hR.1
  obtain ⟨B1, m1, m2, m3, m4⟩ := y_looks hR.YW y0 y4 y2
  have hY : YTw T B1 := by rw [hTe]; exact m4
  obtain ⟨A', hA'⟩ : ∃ A', A' = wr (wr (wr A 42 0 (FX7_start A)) 42 1 0) 42 2 0 := ⟨_, rfl⟩
  obtain ⟨B', hB'⟩ : ∃ B', B' = wr (wr (wr B1 0 47 (B1.1 0 0)) 0 48 0) 0 49 0 := ⟨_, rfl⟩
  have kA : ∀ k, k ≠ 42 → A'.1 k = A.1 k := fun k hk => by rw [hA', wr_cell _ _ hk, wr_cell _ _ hk, wr_cell _ _ hk]
  have kB : ∀ k, k ≠ 0 → B'.1 k = B1.1 k := fun k hk => by rw [hB', wr_cell _ _ hk, wr_cell _ _ hk, wr_cell _ _ hk]
  have kB0 : ∀ j, j < 47 → B'.1 0 j = B1.1 0 j := fun j hj => by rw [hB', wr_at, if_neg (by omega), wr_at, if_neg (by omega), wr_at, if_neg (by omega)]
  have hXA : XTw T A' := by
    unfold XTw XT at hX ⊢
    rw [kA 31 (by decide), kA 32 (by decide), kA 33 (by decide), kA 34 (by decide), kA 35 (by decide), kA 36 (by decide)]
    exact hX
  have hYB : YTw T B' := hY.cells (fun j hj => kB0 j (by omega)) (fun c hc => kB c (by omega))
  refine ⟨A', B', ?_, ?_, ⟨⟨wk_0 hT, Nat.zero_le _⟩, ⟨?_, ?_, ?_⟩, hXA, ⟨?_, ?_, ?_⟩, hYB⟩, hR.fr (fun k hk => kA k (by omega)) (hR.2.2.2.2.2.2.2.fr fun c a b => kA c (by omega)) ⟨fun k a b s hs => ?_, fun k a b => ?_, fun j hj => ?_⟩, hXA⟩
  · unfold FX4_begin
    rw [hA']
    simp only [z_lt]
  · unfold FX9_sets
    rw [m1, z_ob, hB']
    simp only [z_lt]
  · rw [hA', wr_at, if_neg (by omega), wr_at, if_neg (by omega), wr_at, if_pos ⟨rfl, rfl⟩]
    exact x_start hT hX
  · rw [hA', wr_at, if_neg (by omega), wr_at, if_pos ⟨rfl, rfl⟩]; rfl
  · rw [hA', wr_at, if_pos ⟨rfl, rfl⟩, pc_0]; rfl
  · rw [hB', wr_at, if_neg (by omega), wr_at, if_neg (by omega), wr_at, if_pos ⟨rfl, rfl⟩]
    exact hY.1.1
  · rw [hB', wr_at, if_neg (by omega), wr_at, if_pos ⟨rfl, rfl⟩]; rfl
  · rw [hB', wr_at, if_pos ⟨rfl, rfl⟩]; rfl
  · rw [kB k (by omega), m2 k (by omega) (by omega) (by omega) (by omega) (by omega)]
  · rw [kB k (by omega), m2 k (by omega) (by omega) (by omega) (by omega) (by omega)]
  · rw [kB0 j (by omega), m3 j (by omega)]
theorem w_next {T : Twn} (hT : Twf T) (hN : T.1 1 ≤ 12) {m c t : Nat} {A B : Mem} (h : WR T m c t A B) : ∃ R, R < 8192 ∧ FX7_next (A.1 42 0) 0 A = some (nI R) ∧ ∀ s, R.testBit s = true ↔ stp T 0 m c s = true := by
  obtain ⟨⟨h1, -⟩, ⟨h2, -, -⟩, h3, -, -⟩ := h
  obtain ⟨R, r1, r2, r3⟩ := x_next (k := 0) hT hN h3 h1
  rw [ldw_0] at r2
  rw [h2]
  exact ⟨R, r1, r2, r3⟩
theorem w_at {T : Twn} (hT : Twf T) {m c t : Nat} {A B : Mem} (h : WR T m c t A B) : FX4_corner A = nI c := by
  obtain ⟨⟨h1, -⟩, ⟨h2, -, -⟩, -, -, -⟩ := h
  unfold FX4_corner
  rw [h2]
  exact x_at (by have := h1.2.1; omega) (pas_lt hT m) (p13 hT.1.2.1 (spt_lt hT m))
theorem w_mayN {n : Nat} (hn : n ≤ 12) {B : Mem} (h3 : B.1 0 3 = nI n) {a : Int32} (ha : ¬ (0 ≤ a ∧ a < nI n)) : FX9_mayBeNext a B = some 0 := by
  unfold FX9_mayBeNext
  rw [y_isStreet hn h3, z_ob, if_neg ha, if_pos rfl]
theorem w_may {T : Twn} (hT : Twf T) (hN : T.1 1 ≤ 12) {m c t : Nat} {A B : Mem} (h : WR T m c t A B) (h3 : B.1 0 3 = nI (T.1 1)) {s : Nat} (hs : s < T.1 1) : FX9_mayBeNext (nI s) B = some (if stp T 0 m c s = true then 1 else 0) := by
  obtain ⟨⟨hw, -⟩, -, -, ⟨g1, g2, -⟩, hY⟩ := h
  obtain ⟨⟨c0, c1, c2, c3⟩, -, -⟩ := id hY
  have hd9 := hT.1.1
  have ho2 := hT.1.2.2.2
  have hm8 := p13 hT.1.2.1 hw.1
  have hc9 := hw.2.1
  have hsp := p13 hT.1.2.1 (spt_lt hT m)
  have hin : 0 ≤ nI s ∧ nI s < nI (T.1 1) := ⟨z_pos (by omega), nI_lt hs (by omega)⟩
  unfold FX9_mayBeNext
  rw [y_isStreet hN h3, z_ob, if_pos hin, if_neg n10, c3, g2, g1, c0]
  have eb : (if nI (T.1 3) = 1 then (if nI m = 0 then false else if nI c = nI (T.1 0) then true else false) else false) = decide (T.1 3 = 1 ∧ m ≠ 0 ∧ c = T.1 0) := by
    have e1 : nI (T.1 3) = 1 ↔ T.1 3 = 1 := z_eq (b := 1) (by omega) (by decide)
    have e2 : nI m = 0 ↔ m = 0 := z_eq (b := 0) (by omega) (by decide)
    have e3 : nI c = nI (T.1 0) ↔ c = T.1 0 := z_eq (by omega) (by omega)
    simp only [e1, e2, e3]
    by_cases k1 : T.1 3 = 1 <;> by_cases k2 : m = 0 <;> by_cases k3 : c = T.1 0 <;> simp [k1, k2, k3]
  rw [eb, z_lt]
  by_cases hon : T.1 3 = 1 ∧ m ≠ 0 ∧ c = T.1 0
  · have hno : ¬ stp T 0 m c s = true := fun z => (stp_iff.mp z).2.2.2.2 hon
    rw [decide_eq_true hon, if_pos rfl, if_neg hno]
  rw [decide_eq_false hon, if_neg nft, y_spentBy hT hY hw.1, z_ob, if_congr_prop (z_b1 (show spt T m < 2147483648 by omega) (show s < 32 by omega))]
  by_cases hsb : (spt T m).testBit s = true
  · have hno : ¬ stp T 0 m c s = true := fun z => by
      have := (stp_iff.mp z).2.2.1
      rw [hsb] at this
      cases this
    rw [if_pos hsb, z_ob, if_pos rfl, z_ob, if_neg nft, if_neg hno]
  have hsb' : (spt T m).testBit s = false := by simpa using hsb
  obtain ⟨d, e1, e2⟩ := y_side hT hY hs hc9
  rw [if_neg hsb, e1, z_ob, z_ob]
  rcases e2 with ⟨rfl, e3⟩ | ⟨j, e3, rfl, e4, e5⟩
  · have hno : ¬ stp T 0 m c s = true := fun z => by
      have h1 := (stp_iff.mp z).2.1
      exact e3 ((hT.2 s hs).2.1 _ c (ldw_lt T 0 m) h1)
    rw [if_pos rfl, z_ob, if_neg nft, if_neg hno]
  · have e6 := e5 0 (by decide)
    have h99 := (hT.2 s hs).2.2.1 0 c (by decide)
    rw [show 4 * s + 2 * 0 + j = 4 * s + j by omega] at e6
    have e44 : 4 * nI s + nI j = nI (4 * s + j) := by rw [show (4 : Int32) = nI 4 from rfl, pk_mul, nI_add]
    rw [if_neg (z_m1 (by omega)), e44, z_gi (by omega) (by decide), z_ix (by omega), e6, if_congr_prop (show nI (T.2.2 0 c s) ≤ 0 ↔ T.2.2 0 c s ≤ 0 from z_le (b := 0) (by omega) (by decide))]
    by_cases ht : T.2.2 0 c s ≤ 0
    · have hno : ¬ stp T 0 m c s = true := fun z => by
        have h1 := (stp_iff.mp z).2.1
        rw [ldw_0] at h1
        omega
      rw [if_pos ht, z_ob, if_neg nft, if_neg hno]
    · rw [if_neg ht, e4, z_ob, y_passedBy hT hY hw.1, z_ob, y_mayCome hT hY (ot_lt hT hs c) (pas_lt hT m)]
      by_cases hco : T.1 3 = 0 ∨ ot T s c = T.1 0 ∨ (pas T m).testBit (ot T s c) = false
      · have hyes : stp T 0 m c s = true := stp_iff.mpr ⟨hs, by rw [ldw_0]; omega, hsb', hco, hon⟩
        rw [if_pos hco, if_neg n10, z_ob, if_pos rfl, if_pos hyes]
      · have hno : ¬ stp T 0 m c s = true := fun z => hco (stp_iff.mp z).2.2.2.1
        rw [if_neg hco, if_pos rfl, z_ob, if_neg nft, if_neg hno]
theorem w_step {v : Nat → Nat} {u : Nat → Nat → Nat} {tx : Nat → Txt} {T : Twn} (hT : Twf T) (hN : T.1 1 ≤ 12) {m c t : Nat} {A B : Mem} (hR : RR v u tx A B) (h : WR T m c t A B) {s : Nat} (hs : stp T 0 m c s = true) : ∃ A' B', FX4_go (nI s) A = some A' ∧ FX9_steps (nI s) B = some B' ∧ WR T (m ||| 2 ^ s) (ot T s c) (t + T.2.2 0 c s) A' B' ∧ RR v u tx A' B' ∧ XTw T A' := by
  have hcor := w_at hT h
  obtain ⟨⟨hw, ht99⟩, ⟨a0, a1, a2⟩, hX, ⟨g1, g2, g3⟩, hY⟩ := h
  obtain ⟨h1, h2, h3⟩ := stp_at hT hs
  have htk := (stp_iff.mp hs).2.1
  rw [ldw_0] at htk
  have h99 := (hT.2 s h1).2.2.1 0 c (by decide)
  have hc9 := hw.2.1
  have hm8 := p13 hT.1.2.1 hw.1
  have hpc := pc_or (show s < 13 by omega) h3
  have hpl := pc_le m
  obtain ⟨x1, x2, x3⟩ := hX.2.1 s h1
  -- the class
  have em := x_minutes (show s < 13 by omega) (show 0 < 2 by decide) hc9 (hX.2.2.2 s 0 c h1 (by decide) hc9 htk)
  rw [show nI 0 = 0 from rfl] at em
  obtain ⟨A1, hA1⟩ : ∃ A1, A1 = wr A 42 1 (nI (t + T.2.2 0 c s)) := ⟨_, rfl⟩
  have k1 : ∀ k, k ≠ 42 → A1.1 k = A.1 k := fun k hk => by rw [hA1, wr_cell _ _ hk]
  have af := x_after (M := A1) hT hw hs (by rw [k1 32 (by decide)]; exact x1) (by rw [k1 33 (by decide)]; exact x2) (by rw [k1 34 (by decide)]; exact x3)
  have e420 : A1.1 42 0 = nI (stt T m c) := by rw [hA1, wr_at, if_neg (by omega)]; exact a0
  have e422 : A1.1 42 2 = nI (pc m) := by rw [hA1, wr_at, if_neg (by omega)]; exact a2
  obtain ⟨A', hA'⟩ : ∃ A', A' = wr (wr A1 42 0 (nI (stt T (m ||| 2 ^ s) (ot T s c)))) 42 2 (nI (pc m + 1)) := ⟨_, rfl⟩
  have kA : ∀ k, k ≠ 42 → A'.1 k = A.1 k := fun k hk => by rw [hA', wr_cell _ _ hk, wr_cell _ _ hk, k1 k hk]
  have hXA : XTw T A' := by
    unfold XTw XT at hX ⊢
    rw [kA 31 (by decide), kA 32 (by decide), kA 33 (by decide), kA 34 (by decide), kA 35 (by decide), kA 36 (by decide)]
    exact hX
  -- the reference
  obtain ⟨d, e1, e2⟩ := y_side hT hY h1 hc9
  obtain ⟨j, e3, rfl, e4, e5⟩ : ∃ j, j < 2 ∧ d = nI j ∧ FX9_beyond (nI s) d B = some (nI (ot T s c)) ∧ ∀ l, l < 2 → B.1 17 (4 * s + 2 * l + j) = nI (T.2.2 l c s) := by
    rcases e2 with ⟨-, z⟩ | z
    · exact absurd h2 z
    · exact z
  have e6 := e5 0 (by decide)
  rw [show 4 * s + 2 * 0 + j = 4 * s + j by omega] at e6
  have e44 : 4 * nI s + nI j = nI (4 * s + j) := by rw [show (4 : Int32) = nI 4 from rfl, pk_mul, nI_add]
  obtain ⟨B1, hB1⟩ : ∃ B1, B1 = wr B 0 49 (nI (t + T.2.2 0 c s)) := ⟨_, rfl⟩
  have kB1 : ∀ k, k ≠ 0 → B1.1 k = B.1 k := fun k hk => by rw [hB1, wr_cell _ _ hk]
  have e4' : FX9_beyond (nI s) (nI j) B1 = some (nI (ot T s c)) := by
    unfold FX9_beyond at e4 ⊢
    rw [kB1 2 (by decide), kB1 3 (by decide)]
    exact e4
  obtain ⟨B', hB'⟩ : ∃ B', B' = wr (wr B1 0 47 (nI (ot T s c))) 0 48 (nI (m ||| 2 ^ s)) := ⟨_, rfl⟩
  have kB : ∀ k, k ≠ 0 → B'.1 k = B.1 k := fun k hk => by rw [hB', wr_cell _ _ hk, wr_cell _ _ hk, kB1 k hk]
  have kB0 : ∀ j, j < 47 → B'.1 0 j = B.1 0 j := fun j hj => by rw [hB', wr_at, if_neg (by omega), wr_at, if_neg (by omega), hB1, wr_at, if_neg (by omega)]
  have hYB : YTw T B' := hY.cells (fun j hj => kB0 j (by omega)) (fun c hc => kB c (by omega))
  refine ⟨A', B', ?_, ?_, ⟨⟨wk_stp hT hw hs, by omega⟩, ⟨?_, ?_, ?_⟩, hXA, ⟨?_, ?_, ?_⟩, hYB⟩, hR.fr (fun k hk => kA k (by omega)) (hR.2.2.2.2.2.2.2.fr fun c a b => kA c (by omega)) ⟨fun k a b s hs => by rw [kB k (by omega)], fun k a b => kB k (by omega), fun j hj => kB0 j (by omega)⟩, hXA⟩
  · unfold FX4_go
    rw [hcor, em, z_ob, a1, nI_add, ← hA1, z_lt, e420, af, z_ob, z_lt, wr_at, if_neg (by omega), e422, nI_1, z_lt, hA']
  · unfold FX9_steps
    rw [g1, e1, z_ob, e44, z_gi (by omega) (by decide), z_ix (by omega), g3, e6, nI_add, ← hB1, z_lt, e4', z_ob, z_lt, wr_at, if_neg (by omega), hB1, wr_at, if_neg (by omega), g2, z_shl1 (by omega), z_or, ← hB1, z_lt, hB']
  · rw [hA', wr_at, if_neg (by omega), wr_at, if_pos ⟨rfl, rfl⟩]
  · rw [hA', wr_at, if_neg (by omega), wr_at, if_neg (by omega), hA1, wr_at, if_pos ⟨rfl, rfl⟩]
  · rw [hA', wr_at, if_pos ⟨rfl, rfl⟩, hpc]
  · rw [hB', wr_at, if_neg (by omega), wr_at, if_pos ⟨rfl, rfl⟩]
  · rw [hB', wr_at, if_pos ⟨rfl, rfl⟩]
  · rw [hB', wr_at, if_neg (by omega), wr_at, if_neg (by omega), hB1, wr_at, if_pos ⟨rfl, rfl⟩]
