/-! forward: the fewest minutes to every set of streets -/
def LSt (S : Nat → Prop) (x : Int32) : Prop := (x = -1 ∧ ∀ q, ¬ S q) ∨ ∃ q, q < 100000 ∧ x = nI q ∧ S q ∧ ∀ q', S q' → q ≤ q'
theorem LSt.cong {S S' : Nat → Prop} {x : Int32} (h : LSt S x) (he : ∀ q, S q ↔ S' q) : LSt S' x := by
  have : S = S' := funext fun q => propext (he q)
  rw [← this]
  exact h
/-- the minutes of the walks from home to a place -/
def WS (T : Twn) (m c q : Nat) : Prop := ∃ w, Pre T 0 512 0 (T.1 0) w ∧ mE 0 w = m ∧ cE T (T.1 0) w = c ∧ tmE T 0 0 (T.1 0) w = q
def DM (T : Twn) (m c q : Nat) : Prop := WS T m c q ∧ ∀ q', WS T m c q' → q ≤ q'
def CS (T : Twn) (P : Nat → Nat → Nat → Prop) (m c q : Nat) : Prop := (m = 0 ∧ c = T.1 0 ∧ q = 0) ∨ ∃ m' c' s q', P m' c' s ∧ stp T 0 m' c' s = true ∧ m = m' ||| 2 ^ s ∧ c = ot T s c' ∧ DM T m' c' q' ∧ q = q' + T.2.2 0 c' s
theorem rng_512 {T : Twn} (hT : Twf T) (m c : Nat) : rng T 512 m c = false := by
  rw [← Bool.not_eq_true, rng_iff]
  rintro ⟨-, -, h⟩
  have h1 := Nat.testBit_lt_two_pow (i := 9) (show pas T m < 2 ^ 9 from pas_lt hT m)
  have h2 : (pas T m &&& 512).testBit 9 = true := by rw [h]; decide
  rw [Nat.testBit_and, h1] at h2
  cases h2
theorem ldw_0 (T : Twn) (m : Nat) : ldw T 0 m = 0 := by unfold ldw; rw [Nat.and_zero, if_pos rfl]
theorem WS_wk {T : Twn} (hT : Twf T) {m c q : Nat} (h : WS T m c q) : wk T m c := by
  obtain ⟨w, h1, rfl, rfl, -⟩ := h
  exact Pre_wk hT (wk_0 hT) h1
theorem WS_le {T : Twn} (hT : Twf T) {m c q : Nat} (h : WS T m c q) : q ≤ 1287 := by
  obtain ⟨w, h1, -, -, rfl⟩ := h
  have := tm_le hT h1
  have := Pre_len hT h1
  omega
theorem WS_stp {T : Twn} (hT : Twf T) {m c q s : Nat} (h : WS T m c q) (hs : stp T 0 m c s = true) : WS T (m ||| 2 ^ s) (ot T s c) (q + T.2.2 0 c s) := by
  obtain ⟨w, h1, rfl, rfl, rfl⟩ := h
  refine ⟨w ++ [s], (Pre_app T 0 512 w _ _ s).mpr ⟨h1, rng_512 hT _ _, hs⟩, mE_app w 0 s, cE_app T w _ s, ?_⟩
  rw [tmE_app, ldw_0]
theorem WS_0 (T : Twn) : WS T 0 (T.1 0) 0 := ⟨[], trivial, rfl, rfl, rfl⟩
theorem DM_of {T : Twn} {m c q : Nat} (h : WS T m c q) : ∃ q0, DM T m c q0 ∧ q0 ≤ q := by
  obtain ⟨q0, h1, h2⟩ := pk_least (fun q => WS T m c q) ⟨q, h⟩
  have h3 : ∀ q', WS T m c q' → q0 ≤ q' := fun q' h' => Nat.not_lt.mp fun z => h2 q' z h'
  exact ⟨q0, ⟨h1, h3⟩, h3 q h⟩
theorem snoc (w : List Nat) : w = [] ∨ ∃ v s, w = v ++ [s] := by
  rcases List.eq_nil_or_concat w with h | ⟨v, s, h⟩
  · exact Or.inl h
  · exact Or.inr ⟨v, s, by rw [h, List.concat_eq_append]⟩
theorem CS_WS {T : Twn} (hT : Twf T) {P : Nat → Nat → Nat → Prop} {m c q : Nat} (h : CS T P m c q) : WS T m c q := by
  rcases h with ⟨rfl, rfl, rfl⟩ | ⟨m', c', s, q', -, h2, rfl, rfl, h5, rfl⟩
  · exact WS_0 T
  · exact WS_stp hT h5.1 h2
theorem WS_CS {T : Twn} (hT : Twf T) {P : Nat → Nat → Nat → Prop} {m c q : Nat} (hP : ∀ m' c' s, m' < m → stp T 0 m' c' s = true → P m' c' s) (h : WS T m c q) : ∃ q', CS T P m c q' ∧ q' ≤ q := by
  obtain ⟨w, h1, h2, h3, h4⟩ := h
  rcases snoc w with rfl | ⟨v, s, rfl⟩
  · exact ⟨0, Or.inl ⟨h2.symm, h3.symm, rfl⟩, Nat.zero_le _⟩
  · rw [Pre_app] at h1
    rw [mE_app] at h2
    rw [cE_app] at h3
    rw [tmE_app, ldw_0] at h4
    obtain ⟨g1, -, g3⟩ := h1
    obtain ⟨q0, d1, d2⟩ := DM_of (T := T) ⟨v, g1, rfl, rfl, rfl⟩
    obtain ⟨-, -, hb⟩ := stp_at hT g3
    have hlt : mE 0 v < m := by
      rw [← h2, or_add hb]
      have := Nat.two_pow_pos s
      omega
    refine ⟨q0 + T.2.2 0 (cE T (T.1 0) v) s, Or.inr ⟨_, _, s, q0, hP _ _ _ hlt g3, g3, h2.symm, h3.symm, d1, rfl⟩, ?_⟩
    omega
theorem LSt_WS {T : Twn} (hT : Twf T) {P : Nat → Nat → Nat → Prop} {m c : Nat} (hP : ∀ m' c' s, m' < m → stp T 0 m' c' s = true → P m' c' s) {x : Int32} (h : LSt (CS T P m c) x) : LSt (WS T m c) x := by
  rcases h with ⟨h1, h2⟩ | ⟨q, h1, h2, h3, h4⟩
  · refine Or.inl ⟨h1, fun q hq => ?_⟩
    obtain ⟨q', h3, -⟩ := WS_CS hT hP hq
    exact h2 q' h3
  · refine Or.inr ⟨q, h1, h2, CS_WS hT h3, fun q' hq => ?_⟩
    obtain ⟨q2, h5, h6⟩ := WS_CS hT hP hq
    have := h4 q2 h5
    omega
theorem LSt_add {S S' : Nat → Prop} {x : Int32} {q : Nat} (hq : q < 100000) (h : LSt S x) (he : ∀ p, S' p ↔ S p ∨ p = q) : LSt S' (if x = -1 ∨ ¬ x ≤ nI q then nI q else x) := by
  rcases h with ⟨h1, h2⟩ | ⟨p, h1, rfl, h3, h4⟩
  · rw [if_pos (Or.inl h1)]
    refine Or.inr ⟨q, hq, rfl, (he q).mpr (Or.inr rfl), fun q' h => ?_⟩
    rcases (he q').mp h with h5 | h5
    · exact absurd h5 (h2 q')
    · omega
  · have e : (nI p = -1 ∨ ¬ nI p ≤ nI q) ↔ q < p := by
      rw [z_le (by omega) (by omega)]
      constructor
      · rintro (h | h)
        · exact absurd h (z_m1 (by omega))
        · omega
      · intro h; right; omega
    by_cases h5 : q < p
    · rw [if_pos (e.mpr h5)]
      refine Or.inr ⟨q, hq, rfl, (he q).mpr (Or.inr rfl), fun q' h => ?_⟩
      rcases (he q').mp h with h6 | h6
      · have := h4 q' h6; omega
      · omega
    · rw [if_neg (fun z => h5 (e.mp z))]
      refine Or.inr ⟨p, h1, rfl, (he p).mpr (Or.inl h3), fun q' h => ?_⟩
      rcases (he q').mp h with h6 | h6
      · exact h4 q' h6
      · omega
def P3 (a b e : Nat) : Nat → Nat → Nat → Prop := fun m c s => m < a ∨ (m = a ∧ (c < b ∨ (c = b ∧ s < e)))
def FW (T : Twn) (P : Nat → Nat → Nat → Prop) (M : Mem) : Prop := ∀ m c, m < 2 ^ T.1 1 → c < 9 → LSt (CS T P m c) (M.1 19 (9 * m + c))
theorem FW.cong {T : Twn} {P P' : Nat → Nat → Nat → Prop} {M : Mem} (h : FW T P M) (he : ∀ m c s q, stp T 0 m c s = true → WS T m c q → (P m c s ↔ P' m c s)) : FW T P' M := by
  intro m c hm hc
  refine (h m c hm hc).cong fun q => ?_
  unfold CS
  constructor
  · rintro (h1 | ⟨m', c', s, q', h1, h2, h3, h4, h5, h6⟩)
    · exact Or.inl h1
    · exact Or.inr ⟨m', c', s, q', (he m' c' s q' h2 h5.1).mp h1, h2, h3, h4, h5, h6⟩
  · rintro (h1 | ⟨m', c', s, q', h1, h2, h3, h4, h5, h6⟩)
    · exact Or.inl h1
    · exact Or.inr ⟨m', c', s, q', (he m' c' s q' h2 h5.1).mpr h1, h2, h3, h4, h5, h6⟩
theorem YTw.kp {T : Twn} {M M' : Mem} (h : YTw T M) {c : Nat} (hk : kp c M M') (hc : c = 15 ∨ c = 16 ∨ 19 ≤ c) : YTw T M' := by
  obtain ⟨h1, h2, h3⟩ := h
  unfold YTw YT
  rw [hk 0 (by omega), hk 2 (by omega), hk 3 (by omega), hk 17 (by omega), hk 18 (by omega)]
  exact ⟨h1, h2, h3⟩
theorem y_goL3 {T : Twn} (hT : Twf T) {m c q0 : Nat} (hm : m < 2 ^ T.1 1) (hc : c < 9) (hD : DM T m c q0) (hon : ¬ (T.1 3 = 1 ∧ m ≠ 0 ∧ c = T.1 0)) : ∀ (k i f : Nat) (M : Mem), i + k = T.1 1 → k < f → YTw T M → FW T (P3 m c i) M → M.1 19 (9 * m + c) = nI q0 →
    ∃ M', FX9_goesOn_L3 f (nI m) (nI c) (nI (spt T m)) (nI (pas T m)) (nI i) M = some M' ∧ kp 19 M M' ∧ FW T (P3 m c (T.1 1)) M' := by
  have hN := hT.1.2.1
  have hm2 := p13 hN hm
  intro k
  induction k with
  | zero =>
    intro i f M hi hf hY hF h0
    obtain ⟨f, rfl⟩ : ∃ g, f = g + 1 := ⟨f - 1, by omega⟩
    have : i = T.1 1 := by omega
    subst this
    rw [FX9_goesOn_L3, hY.1.2.1, if_pos (Int32.le_refl _)]
    exact ⟨M, rfl, kp.rf _ _, hF⟩
  | succ k ih =>
    intro i f M hi hf hY hF h0
    obtain ⟨f, rfl⟩ : ∃ g, f = g + 1 := ⟨f - 1, by omega⟩
    have his : i < T.1 1 := by omega
    have g1 : ¬ nI (T.1 1) ≤ nI i := nI_ge (by omega) (by omega)
    obtain ⟨d, q, f1, f2, -, f4, f5, f6, f7⟩ := y_frag hT hY hm his hc (show 0 < 2 by decide)
    have hst : stp T 0 m c i = (decide (q ≠ 0) && (T.1 3 == 0 || (ot T i c == T.1 0 || !(pas T m).testBit (ot T i c)))) := by
      rw [Bool.eq_iff_iff, stp_iff, ldw_0, f5]
      simp only [Bool.and_eq_true, Bool.or_eq_true, decide_eq_true_eq, beq_iff_eq, Bool.not_eq_true']
      constructor
      · rintro ⟨-, h2, h3, h4, -⟩
        rw [if_neg (by rw [h3]; decide)]
        exact ⟨h2, h4⟩
      · rintro ⟨h2, h4⟩
        by_cases hb : (spt T m).testBit i = true
        · rw [if_pos hb] at h2; exact absurd rfl h2
        · rw [if_neg hb] at h2
          exact ⟨his, h2, by simpa using hb, h4, hon⟩
    rw [FX9_goesOn_L3, hY.1.2.1, if_neg g1, f1, z_ob, f2 rfl, z_ob, f4, z_ob, ← hst]
    have hnext : ∀ s, s < i + 1 ↔ s < i ∨ s = i := fun s => by omega
    cases hs : stp T 0 m c i with
    | false =>
      rw [if_neg (by decide), z_lt, nI_1]
      refine ih (i + 1) f M (by omega) (by omega) hY (hF.cong fun m' c' s q' h2 _ => ?_) h0
      unfold P3
      constructor
      · rintro (h | ⟨h, h' | ⟨h', h''⟩⟩)
        · exact Or.inl h
        · exact Or.inr ⟨h, Or.inl h'⟩
        · exact Or.inr ⟨h, Or.inr ⟨h', by omega⟩⟩
      · rintro (h | ⟨h, h' | ⟨h', h''⟩⟩)
        · exact Or.inl h
        · exact Or.inr ⟨h, Or.inl h'⟩
        · refine Or.inr ⟨h, Or.inr ⟨h', ?_⟩⟩
          rcases (hnext s).mp h'' with h3 | h3
          · exact h3
          · rw [h, h', h3, hs] at h2
            cases h2
    | true =>
      obtain ⟨-, hce, hb⟩ := stp_at hT hs
      have hq0 : q ≠ 0 := by
        intro z
        rw [hs, z] at hst
        cases hst
      have hqt : q = T.2.2 0 c i := by
        rw [f5, if_neg]
        intro z
        rw [if_pos z] at f5
        exact hq0 f5
      have w1 := wk_stp hT (WS_wk hT hD.1) hs
      have ho := ot_lt hT his c
      have hmt := p13 hN w1.1
      have hq0b := WS_le hT hD.1
      have hold := hF _ _ w1.1 w1.2.1
      have hne : 9 * m + c ≠ 9 * (m ||| 2 ^ i) + ot T i c := by
        rw [or_add hb]
        have := Nat.two_pow_pos i
        omega
      rw [if_pos rfl, f6 hq0, z_ob]
      simp (disch := omega) only [z_shl1, z_or, show (9 : Int32) = nI 9 from rfl, pk_mul, nI_add, z_ltp, z_gi, z_ix, h0, nI_1]
      generalize hcell : M.1 19 (9 * (m ||| 2 ^ i) + ot T i c) = x at hold
      have eb : (if x = -1 then some true else if x ≤ nI (q0 + q) then some false else some true) = some (decide (x = -1 ∨ ¬ x ≤ nI (q0 + q))) := by
        by_cases a : x = -1
        · simp [a]
        · by_cases b : x ≤ nI (q0 + q) <;> simp [a, b]
      rw [eb, z_ob]
      have ev : (if decide (x = -1 ∨ ¬ x ≤ nI (q0 + q)) = true then some (nI (q0 + q)) else some x) = some (if x = -1 ∨ ¬ x ≤ nI (q0 + q) then nI (q0 + q) else x) := by
        by_cases a : x = -1 ∨ ¬ x ≤ nI (q0 + q)
        · rw [decide_eq_true a, if_pos rfl, if_pos a]
        · rw [decide_eq_false a, if_neg (by decide), if_neg a]
      rw [ev, z_ob]
      have hadd := LSt_add (S' := CS T (P3 m c (i + 1)) (m ||| 2 ^ i) (ot T i c)) (q := q0 + q) (by omega) hold (fun p => by
        unfold CS
        constructor
        · rintro (h | ⟨m', c', s, q', h1, h2, h3, h4, h5, h6⟩)
          · exact Or.inl (Or.inl h)
          · rcases h1 with h | ⟨h, h' | ⟨h', h''⟩⟩
            · exact Or.inl (Or.inr ⟨m', c', s, q', Or.inl h, h2, h3, h4, h5, h6⟩)
            · exact Or.inl (Or.inr ⟨m', c', s, q', Or.inr ⟨h, Or.inl h'⟩, h2, h3, h4, h5, h6⟩)
            · rcases (hnext s).mp h'' with h7 | h7
              · exact Or.inl (Or.inr ⟨m', c', s, q', Or.inr ⟨h, Or.inr ⟨h', h7⟩⟩, h2, h3, h4, h5, h6⟩)
              · subst h; subst h'; subst h7
                right
                have : q' = q0 := Nat.le_antisymm (h5.2 _ hD.1) (hD.2 _ h5.1)
                rw [h6, this, hqt]
        · rintro ((h | ⟨m', c', s, q', h1, h2, h3, h4, h5, h6⟩) | h)
          · exact Or.inl h
          · refine Or.inr ⟨m', c', s, q', ?_, h2, h3, h4, h5, h6⟩
            rcases h1 with h | ⟨h, h' | ⟨h', h''⟩⟩
            · exact Or.inl h
            · exact Or.inr ⟨h, Or.inl h'⟩
            · exact Or.inr ⟨h, Or.inr ⟨h', by omega⟩⟩
          · exact Or.inr ⟨m, c, i, q0, Or.inr ⟨rfl, Or.inr ⟨rfl, by omega⟩⟩, hs, rfl, rfl, hD, by rw [h, hqt]⟩)
      generalize (if x = -1 ∨ ¬ x ≤ nI (q0 + q) then nI (q0 + q) else x) = y at hadd ⊢
      have k1 := kp.wr 19 M (9 * (m ||| 2 ^ i) + ot T i c) y
      obtain ⟨M', r1, r2, r3⟩ := ih (i + 1) f (wr M 19 (9 * (m ||| 2 ^ i) + ot T i c) y) (by omega) (by omega) (hY.kp k1 (by omega)) (fun m' c' h1 h2 => by
        rw [wr_at]
        by_cases hh : 9 * m' + c' = 9 * (m ||| 2 ^ i) + ot T i c
        · rw [if_pos ⟨rfl, hh⟩]
          have e1 : m' = m ||| 2 ^ i := by omega
          have e2 : c' = ot T i c := by omega
          rw [e1, e2]
          exact hadd
        · rw [if_neg (fun z => hh z.2)]
          refine (hF m' c' h1 h2).cong fun p => ?_
          unfold CS
          constructor
          · rintro (h | ⟨a, b, s, q', h1, h2, h3, h4, h5, h6⟩)
            · exact Or.inl h
            · refine Or.inr ⟨a, b, s, q', ?_, h2, h3, h4, h5, h6⟩
              rcases h1 with h | ⟨h, h' | ⟨h', h''⟩⟩
              · exact Or.inl h
              · exact Or.inr ⟨h, Or.inl h'⟩
              · exact Or.inr ⟨h, Or.inr ⟨h', by omega⟩⟩
          · rintro (h | ⟨a, b, s, q', h1, h2, h3, h4, h5, h6⟩)
            · exact Or.inl h
            · refine Or.inr ⟨a, b, s, q', ?_, h2, h3, h4, h5, h6⟩
              rcases h1 with h | ⟨h, h' | ⟨h', h''⟩⟩
              · exact Or.inl h
              · exact Or.inr ⟨h, Or.inl h'⟩
              · rcases (hnext s).mp h'' with h7 | h7
                · exact Or.inr ⟨h, Or.inr ⟨h', h7⟩⟩
                · subst h; subst h'; subst h7
                  exact absurd (by rw [h3, h4]) hh) (by rw [wr_at, if_neg (fun z => hne z.2)]; exact h0)
      exact ⟨M', r1, k1.tr r2, r3⟩
