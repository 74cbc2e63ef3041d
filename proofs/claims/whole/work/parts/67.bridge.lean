/-! rings of one search against rings of another: the first ring that passes d on a walk -/
theorem Pre_512 {T : Twn} (hT : Twf T) {k d : Nat} : ∀ {w : List Nat} {m c : Nat}, Pre T k d m c w → Pre T k 512 m c w
  | [], _, _, _ => trivial
  | _ :: _, m, c, hp => ⟨rng_512 hT m c, hp.2.1, Pre_512 hT hp.2.2⟩
theorem sub_or1 (m s : Nat) : sub m (m ||| 2 ^ s) := sub_or m _
theorem mE_sub : ∀ (w : List Nat) (m : Nat), sub m (mE m w)
  | [], m => sub_rf m
  | s :: r, m => sub_tr (sub_or1 m s) (mE_sub r _)
theorem cut {T : Twn} {d : Nat} : ∀ {w : List Nat} {m c : Nat}, Pre T 0 512 m c w → rng T d (mE m w) (cE T c w) = true → ∃ w', Cpl T 0 d m c w' ∧ tmE T 0 m c w' ≤ tmE T 0 m c w ∧ sub (mE m w') (mE m w)
  | [], m, c, _, hr => ⟨[], Cpl_nil.mpr hr, Nat.le_refl _, sub_rf _⟩
  | s :: r, m, c, hp, hr => by
    cases h : rng T d m c with
    | true => exact ⟨[], Cpl_nil.mpr h, Nat.zero_le _, mE_sub (s :: r) m⟩
    | false =>
      obtain ⟨w', h1, h2, h3⟩ := cut (w := r) hp.2.2 hr
      refine ⟨s :: w', Cpl_cons.mpr ⟨h, hp.2.1, h1⟩, ?_, h3⟩
      rw [tmE, tmE]
      omega
theorem Cpl_WS {T : Twn} (hT : Twf T) {d : Nat} {w : List Nat} (h : Cpl T 0 d 0 (T.1 0) w) : rng T d (mE 0 w) (T.1 0) = true ∧ WS T (mE 0 w) (T.1 0) (tmE T 0 0 (T.1 0) w) := by
  have h1 := (rng_iff.mp h.2).2.1
  have h2 := h.2
  rw [h1] at h2
  exact ⟨h2, w, Pre_512 hT h.1, rfl, h1, rfl⟩
theorem WS_cut {T : Twn} {d m q : Nat} (hr : rng T d m (T.1 0) = true) (h : WS T m (T.1 0) q) : ∃ w, Cpl T 0 d 0 (T.1 0) w ∧ tmE T 0 0 (T.1 0) w ≤ q ∧ sub (mE 0 w) m := by
  obtain ⟨w, h1, rfl, h3, rfl⟩ := h
  exact cut h1 (by rw [h3]; exact hr)
theorem Kw_tm {T : Twn} (hT : Twf T) {k d : Nat} {w w' : List Nat} (h : Cpl T k d 0 (T.1 0) w) (h' : Cpl T k d 0 (T.1 0) w') (hle : Kw T k w ≤ Kw T k w') : tmE T k 0 (T.1 0) w ≤ tmE T k 0 (T.1 0) w' := by
  have l2 := Pre_len hT h'.1
  have b2 := dg_lt (w := w') (j := 0) (fun t ht => Pre_in hT h'.1 t ht) (by omega)
  unfold Kw at hle
  rcases Nat.lt_or_ge (tmE T k 0 (T.1 0) w') (tmE T k 0 (T.1 0) w) with h4 | h4
  · have : (tmE T k 0 (T.1 0) w' + 1) * 16 ^ 13 ≤ tmE T k 0 (T.1 0) w * 16 ^ 13 := Nat.mul_le_mul_right _ h4
    rw [Nat.add_mul] at this
    omega
  · exact h4
theorem TOLD_LSt {T : Twn} (hT : Twf T) {d : Nat} {r : Int32} (h : TOLD T 0 d 0 r) : LSt (FWS T d) r := by
  rcases h with ⟨h1, h2⟩ | ⟨w, h1, h2, h3⟩
  · refine Or.inl ⟨h1, fun q ⟨m, g1, g2⟩ => ?_⟩
    obtain ⟨w, w1, -⟩ := WS_cut g1 g2
    exact h2 w w1
  · obtain ⟨c1, c2⟩ := Cpl_WS hT h1
    refine Or.inr ⟨tmE T 0 0 (T.1 0) w, ?_, h3, ⟨_, c1, c2⟩, fun q' ⟨m, g1, g2⟩ => ?_⟩
    · have := WS_le hT c2
      omega
    · obtain ⟨w', w1, w2, -⟩ := WS_cut g1 g2
      exact Nat.le_trans (Kw_tm hT h1 w1 (h2 w' w1)) w2
theorem LSt_one {S : Nat → Prop} {x y : Int32} (h : LSt S x) (h' : LSt S y) : x = y := by
  rcases h with ⟨h1, h2⟩ | ⟨q, -, h1, h2, h3⟩ <;> rcases h' with ⟨g1, g2⟩ | ⟨p, -, g1, g2, g3⟩
  · rw [h1, g1]
  · exact absurd g2 (h2 p)
  · exact absurd h2 (g2 q)
  · rw [h1, g1, Nat.le_antisymm (h3 p g2) (g3 q h2)]
theorem LSt_nn {S : Nat → Prop} {x : Int32} (h : LSt S x) : x = -1 ∨ ∃ n, n < 100000 ∧ x = nI n := by
  rcases h with ⟨h1, -⟩ | ⟨q, h1, h2, -⟩
  · exact Or.inl h1
  · exact Or.inr ⟨q, h1, h2⟩
/-- a corner that is not home is ringed just when a ring passes it -/
theorem RGD_FWS {T : Twn} {c : Nat} (hc : c ≠ T.1 0) : RGD T 0 c ↔ ∃ q, FWS T (2 ^ c) q := by
  have e : ∀ m, (pas T m).testBit c = true ↔ pas T m &&& 2 ^ c = 2 ^ c := by
    intro m
    constructor
    · intro h
      apply Nat.eq_of_testBit_eq
      intro i
      rw [Nat.testBit_and, Nat.testBit_two_pow]
      by_cases hi : c = i
      · subst hi; rw [h]; simp
      · simp [hi]
    · intro h
      have := congrArg (fun x => x.testBit c) h
      simp only [Nat.testBit_and, Nat.testBit_two_pow_self, Bool.and_true] at this
      exact this
  constructor
  · rintro ⟨-, m, q, h1, -, h3, h4⟩
    exact ⟨q, m, rng_iff.mpr ⟨h1, rfl, (e m).mp h4⟩, h3⟩
  · rintro ⟨q, m, h1, h2⟩
    obtain ⟨g1, -, g3⟩ := rng_iff.mp h1
    exact ⟨hc, m, q, g1, Nat.and_zero m, h2, (e m).mpr g3⟩
/-- the closed walks lie in the row of a search that no ring ends -/
theorem SK_mem {T : Twn} (hT : Twf T) {Q : List Nat} {κ : Nat → Nat} {M : Mem} (h : SK T 0 512 Q κ M) {m c : Nat} : (m ∈ Q ∧ wk T m c) ↔ ∃ q, WS T m c q := by
  constructor
  · rintro ⟨h1, h2⟩
    obtain ⟨w, w1, w2, -⟩ := h.1.2.2.2.1 m h1
    have hw := Pre_wk hT (wk_0 hT) w1
    rw [w2] at hw
    exact ⟨_, w, w1, w2, par_inj hw.2.2.2 h2.2.2.2, rfl⟩
  · rintro ⟨q, hq⟩
    obtain ⟨w, w1, w2, -, -⟩ := id hq
    exact ⟨by rw [← w2]; exact (h.2 w w1).1, WS_wk hT hq⟩
/-- the least of a row's rings that pass e -/
theorem x_leE {T : Twn} (hT : Twf T) {k d e : Nat} (he : e < 1024) {Q : List Nat} {κ : Nat → Nat} {M : Mem} (hQ : QS T k d True Q κ M) : ∀ (j i f : Nat) (x : Int32), i + j = Q.length → j < f → ((x = -1 ∧ ∀ m, ¬ rgs T k e Q i m) ∨ ∃ m, x = nI m ∧ rgs T k e Q i m ∧ ∀ m', rgs T k e Q i m' → κ m ≤ κ m') →
    ∃ y, FX0_least_L4 f (nI e) x (nI i) M = some y ∧ ((y = -1 ∧ ∀ m, ¬ rgs T k e Q Q.length m) ∨ ∃ m, y = nI m ∧ rgs T k e Q Q.length m ∧ ∀ m', rgs T k e Q Q.length m' → κ m ≤ κ m') := by
  have hN := hT.1.2.1
  have hlt := QS_lt hT hQ
  obtain ⟨⟨q1, q2⟩, q3, q4, q5, q6, q7⟩ := id hQ
  have hQl := nodup_le 8192 Q q4 (fun x hx => p13 hN (hlt x hx))
  intro j
  induction j with
  | zero =>
    intro i f x hi hf hx
    obtain ⟨f, rfl⟩ : ∃ g, f = g + 1 := ⟨f - 1, by omega⟩
    have : i = Q.length := by omega
    subst this
    rw [FX0_least_L4, q1, if_pos (Int32.le_refl _)]
    exact ⟨x, rfl, hx⟩
  | succ j ih =>
    intro i f x hi hf hx
    obtain ⟨f, rfl⟩ : ∃ g, f = g + 1 := ⟨f - 1, by omega⟩
    have hil : i < Q.length := by omega
    have hmem := getD_mem hil
    rw [FX0_least_L4, q1, if_neg (nI_ge hil (by omega)), z_gi (by omega) (by decide), z_lt, z_ix (by omega), q3 i hil]
    obtain ⟨m, hm⟩ : ∃ m, m = Q.getD i 0 := ⟨_, rfl⟩
    rw [← hm] at hmem ⊢
    obtain ⟨w, w1, w2, w3, w4⟩ := q5 m hmem
    have hw := Pre_wk hT (wk_0 hT) w1
    rw [w2] at hw
    generalize cE T (T.1 0) w = c at w3 hw
    have hm8 := p13 hN hw.1
    have hKm := (w4 trivial)
    have hKb := Kw_lt hT w1
    have up : ∀ m', rgs T k e Q (i + 1) m' ↔ rgs T k e Q i m' ∨ (m' = m ∧ rng T e m c = true) := by
      intro m'
      constructor
      · rintro ⟨⟨a, a1, a2, a3⟩, c', c1, c2⟩
        rcases (show a < i ∨ a = i by omega) with h | h
        · exact Or.inl ⟨⟨a, h, a2, a3⟩, c', c1, c2⟩
        · right
          have e : m' = m := by rw [← a3, h, hm]
          subst e
          rw [par_inj c1.2.2.2 hw.2.2.2] at c2
          exact ⟨rfl, c2⟩
      · rintro (⟨⟨a, a1, a2, a3⟩, h⟩ | ⟨rfl, h⟩)
        · exact ⟨⟨a, by omega, a2, a3⟩, h⟩
        · exact ⟨⟨i, by omega, hil, hm.symm⟩, c, hw, h⟩
    rw [x_isRing hT hm8 he hw.2.1 q2 (fun _ => w3), z_ob]
    cases hr : rng T e m c with
    | false =>
      have up' : ∀ m', rgs T k e Q (i + 1) m' ↔ rgs T k e Q i m' := fun m' => by rw [up m', hr]; simp
      rw [if_pos (show (if false = true then (1 : Int32) else 0) = 0 from by decide), z_lt, nI_1]
      refine ih (i + 1) f x (by omega) (by omega) ?_
      rcases hx with ⟨h1, h2⟩ | ⟨m2, h1, h2, h3⟩
      · exact Or.inl ⟨h1, fun m' h => h2 m' ((up' m').mp h)⟩
      · exact Or.inr ⟨m2, h1, (up' m2).mpr h2, fun m' h => h3 m' ((up' m').mp h)⟩
    | true =>
      rw [if_neg (show ¬ (if true = true then (1 : Int32) else 0) = 0 from by decide)]
      have mine : rgs T k e Q (i + 1) m := (up m).mpr (Or.inr ⟨rfl, hr⟩)
      rcases hx with ⟨h1, h2⟩ | ⟨m2, h1, h2, h3⟩
      · rw [h1, if_pos (by decide), z_ob, if_pos rfl, z_lt, nI_1]
        refine ih (i + 1) f _ (by omega) (by omega) (Or.inr ⟨m, rfl, mine, fun m' h => ?_⟩)
        rcases (up m').mp h with h | h
        · exact absurd h (h2 m')
        · rw [h.1]; exact Nat.le_refl _
      · obtain ⟨⟨a, a1, a2, a3⟩, -⟩ := id h2
        have mem2 : m2 ∈ Q := by rw [← a3]; exact getD_mem a2
        obtain ⟨v, v1, v2, v3, v4⟩ := q5 m2 mem2
        have hm28 := p13 hN (hlt m2 mem2)
        have hK2 := v4 trivial
        have hK2b := Kw_lt hT v1
        rw [h1, if_neg (z_neg (by omega)), z_gi hm8 (by decide), z_gi hm28 (by decide), z_ix (show m < 2147483648 by omega), z_ix (show m2 < 2147483648 by omega), hKm.1, hK2.1]
        have ecmp : (0 ≤ lg_cmp (lN (κ m)) (lN (κ m2))) ↔ κ m2 ≤ κ m := by
          rw [lg_cmp_ge, hKm.2, hK2.2]
          exact pk_lLE hK2b hKb
        rw [if_congr_prop ecmp]
        by_cases hle : κ m2 ≤ κ m
        · rw [if_pos hle, z_ob, if_neg (by decide), z_lt, nI_1]
          refine ih (i + 1) f _ (by omega) (by omega) (Or.inr ⟨m2, rfl, (up m2).mpr (Or.inl h2), fun m' h => ?_⟩)
          rcases (up m').mp h with h | h
          · exact h3 m' h
          · rw [h.1]; exact hle
        · rw [if_neg hle, z_ob, if_pos rfl, z_lt, nI_1]
          refine ih (i + 1) f _ (by omega) (by omega) (Or.inr ⟨m, rfl, mine, fun m' h => ?_⟩)
          rcases (up m').mp h with h | h
          · have := h3 m' h; omega
          · rw [h.1]; exact Nat.le_refl _
theorem Kw_tm0 {T : Twn} (hT : Twf T) {k d d' : Nat} {w w' : List Nat} (h' : Pre T k d' 0 (T.1 0) w') (hle : Kw T k w ≤ Kw T k w') : tmE T k 0 (T.1 0) w ≤ tmE T k 0 (T.1 0) w' := by
  have l2 := Pre_len hT h'
  have b2 := dg_lt (w := w') (j := 0) (fun t ht => Pre_in hT h' t ht) (by omega)
  unfold Kw at hle
  rcases Nat.lt_or_ge (tmE T k 0 (T.1 0) w') (tmE T k 0 (T.1 0) w) with h4 | h4
  · have : (tmE T k 0 (T.1 0) w' + 1) * 16 ^ 13 ≤ tmE T k 0 (T.1 0) w * 16 ^ 13 := Nat.mul_le_mul_right _ h4
    rw [Nat.add_mul] at this
    omega
  · exact h4
/-- the minutes of the least of all rings that pass e -/
theorem x_leastE {T : Twn} (hT : Twf T) {e : Nat} (he : e < 1024) {Q : List Nat} {κ : Nat → Nat} {M : Mem} (hS : SK T 0 512 Q κ M) : (FX0_least (nI e) M = some (-1) ∧ ∀ q, ¬ FWS T e q) ∨ ∃ m q, FX0_least (nI e) M = some (nI m) ∧ m < 8192 ∧ FX0_minutes (nI m) M = some (nI q) ∧ q < 100000 ∧ FWS T e q ∧ ∀ q', FWS T e q' → q ≤ q' := by
  have hN := hT.1.2.1
  obtain ⟨hQ, hall⟩ := id hS
  obtain ⟨-, q3, q4, q5, q6, q7⟩ := id hQ
  have hQl := nodup_le 8192 Q q4 (fun x hx => p13 hN (QS_lt hT hQ x hx))
  obtain ⟨y, e1, e2⟩ := x_leE hT he hQ Q.length 0 FU (-1) (by omega) (by rw [z_FU]; omega) (Or.inl ⟨rfl, fun m h => by
    obtain ⟨⟨a, a1, -⟩, -⟩ := h
    omega⟩)
  unfold FX0_least
  rw [show nI 0 = 0 from rfl] at e1
  rw [e1, z_ob]
  have ring : ∀ m q, rng T e m (T.1 0) = true → WS T m (T.1 0) q → rgs T 0 e Q Q.length m := by
    intro m q hr hw
    obtain ⟨m1, m2⟩ := (SK_mem hT hS).mpr ⟨q, hw⟩
    obtain ⟨a, a1, a2⟩ := mem_getD m1
    exact ⟨⟨a, a1, a1, a2⟩, _, m2, hr⟩
  rcases e2 with ⟨h1, h2⟩ | ⟨m, h1, h2, h3⟩
  · left
    rw [h1]
    exact ⟨rfl, fun q ⟨m, g1, g2⟩ => h2 m (ring m q g1 g2)⟩
  · right
    obtain ⟨⟨a, a1, a2, a3⟩, c, c1, c2⟩ := h2
    have hmem : m ∈ Q := by rw [← a3]; exact getD_mem a2
    obtain ⟨w, w1, w2, w3, w4⟩ := q5 m hmem
    have hw := Pre_wk hT (wk_0 hT) w1
    have ec : cE T (T.1 0) w = c := by
      rw [w2] at hw
      exact par_inj hw.2.2.2 c1.2.2.2
    have hch : c = T.1 0 := (rng_iff.mp c2).2.1
    have hK := w4 trivial
    have hW : WS T m (T.1 0) (tmE T 0 0 (T.1 0) w) := ⟨w, w1, w2, by rw [ec, hch], rfl⟩
    have hm8 := p13 hN c1.1
    rw [hch] at c2
    refine ⟨m, tmE T 0 0 (T.1 0) w, by rw [h1], hm8, x_min hT w1 hm8 (by rw [hK.1, hK.2]), ?_, ⟨m, c2, hW⟩, fun q' ⟨m', g1, g2⟩ => ?_⟩
    · have := WS_le hT hW
      omega
    · have h5 := h3 _ (ring m' q' g1 g2)
      obtain ⟨w', v1, v2, v3, rfl⟩ := g2
      have h6 := (hall w' v1).2
      rw [v2] at h6
      exact Kw_tm0 hT (d := 0) v1 (by rw [← hK.2]; omega)
