/-! forward, the rest of it -/
theorem y_fo63 {T : Twn} (hT : Twf T) {m : Nat} (hm : m < 2 ^ T.1 1) : ∀ (k j f : Nat) (M : Mem), j + k = 9 → k < f → YTw T M → FW T (P3 m j 0) M →
    ∃ M', FX9_forward_L63 f (nI m) (nI (spt T m)) (nI (pas T m)) (nI j) M = some M' ∧ kp 19 M M' ∧ FW T (P3 m 9 0) M' := by
  have hN := hT.1.2.1
  have hm2 := p13 hN hm
  obtain ⟨hd9, -, -, ho2⟩ := hT.1
  intro k
  induction k with
  | zero =>
    intro j f M hj hf hY hF
    obtain ⟨f, rfl⟩ : ∃ g, f = g + 1 := ⟨f - 1, by omega⟩
    have : j = 9 := by omega
    subst this
    rw [FX9_forward_L63, if_pos (by decide)]
    exact ⟨M, rfl, kp.rf _ _, hF⟩
  | succ k ih =>
    intro j f M hj hf hY hF
    obtain ⟨f, rfl⟩ : ∃ g, f = g + 1 := ⟨f - 1, by omega⟩
    have g1 : ¬ 9 ≤ nI j := nI_ge (b := 9) (by omega) (by decide)
    have j9 : j < 9 := by omega
    have hcell := LSt_WS hT (P := P3 m j 0) (fun m' c' s h _ => Or.inl h) (hF m j hm j9)
    have eb : (if nI (T.1 3) = 1 then if nI m = 0 then false else if nI j = nI (T.1 0) then true else false else false) = decide (T.1 3 = 1 ∧ m ≠ 0 ∧ j = T.1 0) := by
      have a1 : (nI (T.1 3) = 1) ↔ T.1 3 = 1 := z_eq (b := 1) (by omega) (by omega)
      have a2 : (nI m = 0) ↔ m = 0 := z_eq (b := 0) (by omega) (by omega)
      simp (disch := omega) only [a1, a2, z_eq]
      by_cases q1 : T.1 3 = 1 <;> by_cases q2 : m = 0 <;> by_cases q3 : j = T.1 0 <;> simp [q1, q2, q3]
    rw [FX9_forward_L63, if_neg g1, hY.1.2.2.2, hY.1.1, eb, z_lt, z_lt]
    simp (disch := omega) only [show (9 : Int32) = nI 9 from rfl, pk_mul, nI_add, z_gi, z_ix, z_ltp]
    have skip : (∀ s q, stp T 0 m j s = true → WS T m j q → False) → ∃ M', FX9_forward_L63 f (nI m) (nI (spt T m)) (nI (pas T m)) (nI j + 1) M = some M' ∧ kp 19 M M' ∧ FW T (P3 m 9 0) M' := by
      intro hno
      rw [nI_1]
      refine ih (j + 1) f M (by omega) (by omega) hY (hF.cong fun m' c' s q h1 h2 => ?_)
      unfold P3
      constructor
      · rintro (h | ⟨h, h' | ⟨h', h''⟩⟩)
        · exact Or.inl h
        · exact Or.inr ⟨h, Or.inl (by omega)⟩
        · omega
      · rintro (h | ⟨h, h' | ⟨h', h''⟩⟩)
        · exact Or.inl h
        · rcases (show c' < j ∨ c' = j by omega) with h3 | h3
          · exact Or.inr ⟨h, Or.inl h3⟩
          · subst h; subst h3
            exact (hno s q h1 h2).elim
        · omega
    by_cases hon : T.1 3 = 1 ∧ m ≠ 0 ∧ j = T.1 0
    · have : (if M.1 19 (9 * m + j) = -1 then false else if (if decide (T.1 3 = 1 ∧ m ≠ 0 ∧ j = T.1 0) = true then (1 : Int32) else 0) = 0 then true else false) = false := by
        rw [decide_eq_true hon]
        split <;> rfl
      rw [this, if_neg (by decide)]
      exact skip fun s q h1 _ => (stp_iff.mp h1).2.2.2.2 hon
    · rcases hcell with ⟨h1, h2⟩ | ⟨q0, h1, h2, h3, h4⟩
      · have : (if M.1 19 (9 * m + j) = -1 then false else if (if decide (T.1 3 = 1 ∧ m ≠ 0 ∧ j = T.1 0) = true then (1 : Int32) else 0) = 0 then true else false) = false := if_pos h1
        rw [this, if_neg (by decide)]
        exact skip fun s q _ h => h2 q h
      · have : (if M.1 19 (9 * m + j) = -1 then false else if (if decide (T.1 3 = 1 ∧ m ≠ 0 ∧ j = T.1 0) = true then (1 : Int32) else 0) = 0 then true else false) = true := by
          rw [h2, if_neg (z_m1 (by omega)), decide_eq_false hon]
          rfl
        rw [this, if_pos rfl]
        have hgo := y_goL3 hT hm j9 ⟨h3, h4⟩ hon (T.1 1) 0 FU M (by omega) (by rw [z_FU]; omega) hY hF h2
        obtain ⟨M1, e1, e2, e3⟩ := hgo
        have eg : FX9_goesOn (nI m) (nI j) (nI (spt T m)) (nI (pas T m)) M = some M1 := by
          unfold FX9_goesOn
          rw [show nI 0 = 0 from rfl] at e1
          rw [e1, z_ob]
        rw [eg, z_ob, nI_1]
        obtain ⟨M', r1, r2, r3⟩ := ih (j + 1) f M1 (by omega) (by omega) (hY.kp e2 (by omega)) (e3.cong fun m' c' s q h1 _ => by
          obtain ⟨hs, -, -⟩ := stp_at hT h1
          unfold P3
          constructor
          · rintro (h | ⟨h, h' | ⟨h', h''⟩⟩)
            · exact Or.inl h
            · exact Or.inr ⟨h, Or.inl (by omega)⟩
            · exact Or.inr ⟨h, Or.inl (by omega)⟩
          · rintro (h | ⟨h, h' | ⟨h', h''⟩⟩)
            · exact Or.inl h
            · rcases (show c' < j ∨ c' = j by omega) with h5 | h5
              · exact Or.inr ⟨h, Or.inl h5⟩
              · exact Or.inr ⟨h, Or.inr ⟨h5, hs⟩⟩
            · omega)
        exact ⟨M', r1, e2.tr r2, r3⟩
theorem y_fo38 {T : Twn} (hT : Twf T) : ∀ (k i f : Nat) (M : Mem), i + k = 2 ^ T.1 1 → k < f → YTw T M → FW T (P3 i 0 0) M →
    ∃ M', FX9_forward_L38 f (nI i) M = some M' ∧ kp 19 M M' ∧ FW T (P3 (2 ^ T.1 1) 0 0) M' := by
  have hN := hT.1.2.1
  have hp : 2 ^ T.1 1 ≤ 8192 := Nat.pow_le_pow_right (n := 2) (by decide) hN
  intro k
  induction k with
  | zero =>
    intro i f M hi hf hY hF
    obtain ⟨f, rfl⟩ : ∃ g, f = g + 1 := ⟨f - 1, by omega⟩
    have : i = 2 ^ T.1 1 := by omega
    subst this
    rw [FX9_forward_L38, hY.1.2.1, z_shl1 (by omega), if_pos (Int32.le_refl _)]
    exact ⟨M, rfl, kp.rf _ _, hF⟩
  | succ k ih =>
    intro i f M hi hf hY hF
    obtain ⟨f, rfl⟩ : ∃ g, f = g + 1 := ⟨f - 1, by omega⟩
    have hm : i < 2 ^ T.1 1 := by omega
    have g1 : ¬ nI (2 ^ T.1 1) ≤ nI i := nI_ge (by omega) (by omega)
    rw [FX9_forward_L38, hY.1.2.1, z_shl1 (by omega), if_neg g1, y_spentBy hT hY hm, z_ob, y_passedBy hT hY hm, z_ob]
    obtain ⟨M1, e1, e2, e3⟩ := y_fo63 hT hm 9 0 FU M (by omega) (by rw [z_FU]; omega) hY hF
    rw [show nI 0 = 0 from rfl] at e1
    rw [e1, z_ob, z_lt, nI_1]
    obtain ⟨M', r1, r2, r3⟩ := ih (i + 1) f M1 (by omega) (by omega) (hY.kp e2 (by omega)) (e3.cong fun m' c' s q h1 h2 => by
      have hw := (WS_wk hT h2).2.1
      unfold P3
      constructor
      · rintro (h | ⟨h, h' | ⟨h', h''⟩⟩)
        · exact Or.inl (by omega)
        · exact Or.inl (by omega)
        · omega
      · rintro (h | ⟨h, h' | ⟨h', h''⟩⟩)
        · rcases (show m' < i ∨ m' = i by omega) with h5 | h5
          · exact Or.inl h5
          · exact Or.inr ⟨h5, Or.inl hw⟩
        · omega
        · omega)
    exact ⟨M', r1, e2.tr r2, r3⟩
theorem y_fo2 {T : Twn} (hT : Twf T) : ∀ (k i f : Nat) (M : Mem), i + k = 9 * 2 ^ T.1 1 → k < f → M.1 0 40 = nI (T.1 1) → (∀ j, j < i → M.1 19 j = -1) →
    ∃ M', FX9_forward_L2 f (nI i) M = some M' ∧ kp 19 M M' ∧ ∀ j, j < 9 * 2 ^ T.1 1 → M'.1 19 j = -1 := by
  have hN := hT.1.2.1
  have hp : 2 ^ T.1 1 ≤ 8192 := Nat.pow_le_pow_right (n := 2) (by decide) hN
  intro k
  induction k with
  | zero =>
    intro i f M hi hf hY hF
    obtain ⟨f, rfl⟩ : ∃ g, f = g + 1 := ⟨f - 1, by omega⟩
    have : i = 9 * 2 ^ T.1 1 := by omega
    subst this
    rw [FX9_forward_L2, hY, show (9 : Int32) = nI 9 from rfl, z_shl _ (by omega), if_pos (Int32.le_refl _)]
    exact ⟨M, rfl, kp.rf _ _, hF⟩
  | succ k ih =>
    intro i f M hi hf hY hF
    obtain ⟨f, rfl⟩ : ∃ g, f = g + 1 := ⟨f - 1, by omega⟩
    have g1 : ¬ nI (9 * 2 ^ T.1 1) ≤ nI i := nI_ge (by omega) (by omega)
    rw [FX9_forward_L2, hY, show (9 : Int32) = nI 9 from rfl, z_shl _ (by omega), if_neg g1, z_gi (by omega) (by decide), z_lt, z_lt, z_ix (by omega), nI_1]
    obtain ⟨M', r1, r2, r3⟩ := ih (i + 1) f (wr M 19 i (-1)) (by omega) (by omega) (by rw [wr_cell _ _ (by decide)]; exact hY) (fun j hj => by
      rw [wr_at]
      by_cases h : j = i
      · rw [if_pos ⟨rfl, h⟩]
      · rw [if_neg (fun z => h z.2)]; exact hF j (by omega))
    exact ⟨M', r1, (kp.wr 19 M i (-1)).tr r2, r3⟩
/-- forward's cells, when it is through -/
def FWD (T : Twn) (M : Mem) : Prop := ∀ m c, m < 2 ^ T.1 1 → c < 9 → LSt (WS T m c) (M.1 19 (9 * m + c))
theorem y_forward {T : Twn} (hT : Twf T) {M : Mem} (hY : YTw T M) : ∃ M', FX9_forward M = some M' ∧ kp 19 M M' ∧ FWD T M' := by
  have hN := hT.1.2.1
  obtain ⟨hd9, -, -, ho2⟩ := hT.1
  have hp : 2 ^ T.1 1 ≤ 8192 := Nat.pow_le_pow_right (n := 2) (by decide) hN
  have hp1 : 1 ≤ 2 ^ T.1 1 := Nat.two_pow_pos _
  unfold FX9_forward
  obtain ⟨M1, e1, e2, e3⟩ := y_fo2 hT (9 * 2 ^ T.1 1) 0 FU M (by omega) (by rw [z_FU]; omega) hY.1.2.1 (fun j hj => absurd hj (Nat.not_lt_zero j))
  rw [show nI 0 = 0 from rfl] at e1
  rw [e1, z_ob]
  have hY1 := hY.kp e2 (by omega)
  rw [hY1.1.1, z_gi (by omega) (by decide), z_lt, z_ix (by omega)]
  have k2 := kp.wr 19 M1 (T.1 0) 0
  have hF : FW T (P3 0 0 0) (wr M1 19 (T.1 0) 0) := by
    intro m c hm hc
    rw [wr_at]
    by_cases h : 9 * m + c = T.1 0
    · rw [if_pos ⟨rfl, h⟩]
      have e1 : m = 0 := by omega
      have e2 : c = T.1 0 := by omega
      exact Or.inr ⟨0, by decide, rfl, Or.inl ⟨e1, e2, rfl⟩, fun q' _ => Nat.zero_le _⟩
    · rw [if_neg (fun z => h z.2), e3 _ (by omega)]
      refine Or.inl ⟨rfl, fun q hq => ?_⟩
      rcases hq with ⟨h1, h2, -⟩ | ⟨m', c', s, q', h1, -⟩
      · exact h (by omega)
      · unfold P3 at h1
        omega
  obtain ⟨M', r1, r2, r3⟩ := y_fo38 hT (2 ^ T.1 1) 0 FU (wr M1 19 (T.1 0) 0) (by omega) (by rw [z_FU]; omega) (hY1.kp k2 (by omega)) hF
  rw [show nI 0 = 0 from rfl] at r1
  rw [r1, z_ob]
  exact ⟨M', rfl, (e2.tr k2).tr r2, fun m c hm hc => LSt_WS hT (fun m' c' s h _ => Or.inl (by omega)) (r3 m c hm hc)⟩
