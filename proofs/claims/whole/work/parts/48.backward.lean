/-! backward: the least minutes on to a ring -/
/-- the minutes of the walks on from a place to the first ring that passes d -/
def BS (T : Twn) (k d m c q : Nat) : Prop := ∃ w, Cpl T k d m c w ∧ tmE T k m c w = q
/-- the reference's shop and the class's mask of it -/
def shop (p : Int32) (k : Nat) : Prop := (p = -1 ∧ k = 0) ∨ ∃ c, c < 9 ∧ p = nI c ∧ k = 2 ^ c
theorem shop_b {T : Twn} (hT : Twf T) {p : Int32} {k : Nat} (h : shop p k) (m : Nat) : (if p = -1 then false else if ((nI (pas T m) >>> (p &&& 31)) &&& 1) = 1 then true else false) = decide (ldw T k m = 1) := by
  have hp := pas_lt hT m
  unfold ldw
  rcases h with ⟨rfl, rfl⟩ | ⟨c, h1, rfl, rfl⟩
  · rw [if_pos rfl, Nat.and_zero, if_pos rfl]; rfl
  · rw [if_neg (z_m1 (by omega)), if_congr_prop (z_b1 (by omega) (by omega))]
    have : (pas T m &&& 2 ^ c = 0) ↔ (pas T m).testBit c = false := by
      constructor
      · intro h
        have h2 : (pas T m &&& 2 ^ c).testBit c = false := by rw [h, Nat.zero_testBit]
        rw [Nat.testBit_and, Nat.testBit_two_pow_self, Bool.and_true] at h2
        exact h2
      · intro h
        apply Nat.eq_of_testBit_eq
        intro i
        rw [Nat.testBit_and, Nat.testBit_two_pow, Nat.zero_testBit]
        by_cases hi : c = i
        · subst hi; rw [h]; rfl
        · simp [hi]
    rw [if_congr_prop this]
    cases (pas T m).testBit c <;> rfl
/-- backward's cells for the sets from i on -/
def BW (T : Twn) (k d i : Nat) (M : Mem) : Prop := ∀ m c, i ≤ m → m < 2 ^ T.1 1 → c < 9 → par T m c → LSt (BS T k d m c) (M.1 20 (9 * m + c))
theorem BS_le {T : Twn} (hT : Twf T) {k d m c q : Nat} (h : BS T k d m c q) : q ≤ 1287 := by
  obtain ⟨w, h1, rfl⟩ := h
  have a1 := tm_le hT h1.1
  have a2 := Pre_pc hT h1.1
  have a3 := pc_le (mE m w)
  omega
theorem y_reL6 {T : Twn} (hT : Twf T) {M : Mem} (hY : YTw T M) {k d m c : Nat} (hm : m < 2 ^ T.1 1) (hc : c < 9) (hB : BW T k d (m + 1) M) (hp : par T m c) (hon : ¬ (T.1 3 = 1 ∧ m ≠ 0 ∧ c = T.1 0)) : ∀ (n i f : Nat) (x : Int32), i + n = T.1 1 → n < f → LSt (fun q => ∃ s, s < i ∧ stp T k m c s = true ∧ ∃ q', BS T k d (m ||| 2 ^ s) (ot T s c) q' ∧ q = q' + T.2.2 (ldw T k m) c s) x →
    ∃ y, FX9_restFrom_L6 f (nI m) (nI c) (nI (spt T m)) (nI (pas T m)) (nI (ldw T k m)) x (nI i) M = some y ∧ LSt (fun q => ∃ s, stp T k m c s = true ∧ ∃ q', BS T k d (m ||| 2 ^ s) (ot T s c) q' ∧ q = q' + T.2.2 (ldw T k m) c s) y := by
  have hN := hT.1.2.1
  have hm2 := p13 hN hm
  intro n
  induction n with
  | zero =>
    intro i f x hi hf hx
    obtain ⟨f, rfl⟩ : ∃ g, f = g + 1 := ⟨f - 1, by omega⟩
    have : i = T.1 1 := by omega
    subst this
    rw [FX9_restFrom_L6, hY.1.2.1, if_pos (Int32.le_refl _)]
    refine ⟨x, rfl, hx.cong fun q => ?_⟩
    constructor
    · rintro ⟨s, -, h⟩
      exact ⟨s, h⟩
    · rintro ⟨s, h⟩
      exact ⟨s, (stp_at hT h.1).1, h⟩
  | succ n ih =>
    intro i f x hi hf hx
    obtain ⟨f, rfl⟩ : ∃ g, f = g + 1 := ⟨f - 1, by omega⟩
    have his : i < T.1 1 := by omega
    have g1 : ¬ nI (T.1 1) ≤ nI i := nI_ge (by omega) (by omega)
    obtain ⟨e, q, f1, -, f3, f4, f5, f6, f7⟩ := y_frag hT hY hm his hc (ldw_lt T k m)
    have hst : stp T k m c i = (decide (q ≠ 0) && (T.1 3 == 0 || (ot T i c == T.1 0 || !(pas T m).testBit (ot T i c)))) := by
      rw [Bool.eq_iff_iff, stp_iff, f5]
      simp only [Bool.and_eq_true, Bool.or_eq_true, decide_eq_true_eq, beq_iff_eq, Bool.not_eq_true']
      constructor
      · rintro ⟨-, h2, h3, h4, -⟩
        rw [if_neg (by rw [h3]; decide)]
        exact ⟨h2, h4⟩
      · rintro ⟨h2, h4⟩
        by_cases hb : (spt T m).testBit i = true
        · rw [if_pos hb] at h2; exact absurd rfl h2
        · rw [if_neg hb] at h2
          exact ⟨his, h2, by simpa using hb, h4, hon⟩
    rw [FX9_restFrom_L6, hY.1.2.1, if_neg g1, f1, z_ob, f3, z_ob, f4, z_ob, ← hst]
    have grow : ∀ y, LSt (fun p => (∃ s, s < i ∧ stp T k m c s = true ∧ ∃ q', BS T k d (m ||| 2 ^ s) (ot T s c) q' ∧ p = q' + T.2.2 (ldw T k m) c s) ∨ (stp T k m c i = true ∧ ∃ q', BS T k d (m ||| 2 ^ i) (ot T i c) q' ∧ p = q' + T.2.2 (ldw T k m) c i)) y → LSt (fun q => ∃ s, s < i + 1 ∧ stp T k m c s = true ∧ ∃ q', BS T k d (m ||| 2 ^ s) (ot T s c) q' ∧ q = q' + T.2.2 (ldw T k m) c s) y := by
      intro y hy
      refine hy.cong fun p => ?_
      constructor
      · rintro (⟨s, h1, h2⟩ | h)
        · exact ⟨s, by omega, h2⟩
        · exact ⟨i, by omega, h⟩
      · rintro ⟨s, h1, h2⟩
        rcases (show s < i ∨ s = i by omega) with h | h
        · exact Or.inl ⟨s, h, h2⟩
        · subst h; exact Or.inr h2
    cases hs : stp T k m c i with
    | false =>
      rw [if_neg (by decide), z_lt, nI_1]
      exact ih (i + 1) f x (by omega) (by omega) (grow x (LSt_no hx fun p h => by rw [hs] at h; cases h.1))
    | true =>
      obtain ⟨-, hce, hb⟩ := stp_at hT hs
      have hq0 : q ≠ 0 := by
        intro z
        rw [hs, z] at hst
        cases hst
      have hqt : q = T.2.2 (ldw T k m) c i := by
        rw [f5, if_neg]
        intro z
        rw [if_pos z] at f5
        exact hq0 f5
      have ho := ot_lt hT his c
      have hmn : m ||| 2 ^ i < 2 ^ T.1 1 := Nat.or_lt_two_pow hm (Nat.pow_lt_pow_right (by decide) his)
      have hmt := p13 hN hmn
      have hmgt : m + 1 ≤ m ||| 2 ^ i := by
        rw [or_add hb]
        have := Nat.two_pow_pos i
        omega
      have hcell := hB _ _ hmgt hmn ho (par_or his hb hce hp)
      rw [if_pos rfl, f6 hq0, z_ob]
      simp (disch := omega) only [z_shl1, z_or, show (9 : Int32) = nI 9 from rfl, pk_mul, nI_add, z_ltp, z_gi, z_ix, nI_1]
      rcases hcell with ⟨c1, c2⟩ | ⟨p, c1, c2, c3, c4⟩
      · rw [c1, if_pos rfl]
        exact ih (i + 1) f x (by omega) (by omega) (grow x (LSt_no hx fun p h => by
          obtain ⟨-, q', h2, -⟩ := h
          exact c2 q' h2))
      · have hp2 := BS_le hT c3
        rw [c2, if_neg (z_m1 (by omega))]
        simp only [nI_add, b_if, decide_eq_true_eq]
        refine ih (i + 1) f _ (by omega) (by omega) (grow _ (LSt_un (by omega) hx ⟨hs, p, c3, by rw [hqt]⟩ fun p' h => ?_))
        obtain ⟨-, q', h2, h3⟩ := h
        have := c4 q' h2
        omega
theorem y_restFrom {T : Twn} (hT : Twf T) {M : Mem} (hY : YTw T M) {k d m c : Nat} (hm : m < 2 ^ T.1 1) (hc : c < 9) (hB : BW T k d (m + 1) M) (hp : par T m c) (hon : ¬ (T.1 3 = 1 ∧ m ≠ 0 ∧ c = T.1 0)) (hr : rng T d m c = false) : ∃ y, FX9_restFrom (nI m) (nI c) (nI (spt T m)) (nI (pas T m)) (nI (ldw T k m)) M = some y ∧ LSt (BS T k d m c) y := by
  have hN := hT.1.2.1
  obtain ⟨y, h1, h2⟩ := y_reL6 hT hY hm hc hB hp hon (T.1 1) 0 FU (-1) (by omega) (by rw [z_FU]; omega) (Or.inl ⟨rfl, by rintro q ⟨s, h, -⟩; omega⟩)
  unfold FX9_restFrom
  rw [show nI 0 = 0 from rfl] at h1
  rw [h1, z_ob]
  refine ⟨y, rfl, h2.cong fun q => ?_⟩
  constructor
  · rintro ⟨s, h3, q', ⟨w, h4, rfl⟩, rfl⟩
    exact ⟨s :: w, Cpl_cons.mpr ⟨hr, h3, h4⟩, by rw [tmE, Nat.add_comm]⟩
  · rintro ⟨w, h3, rfl⟩
    cases w with
    | nil => rw [Cpl_nil, hr] at h3; cases h3
    | cons s r =>
      rw [Cpl_cons] at h3
      exact ⟨s, h3.2.1, _, ⟨r, h3.2.2, rfl⟩, by rw [tmE, Nat.add_comm]⟩
theorem y_ba52 {T : Twn} (hT : Twf T) {k d m : Nat} (hd : d < 512) (hm : m < 2 ^ T.1 1) : ∀ (n j f : Nat) (M : Mem), j + n = 9 → n < f → YTw T M → BW T k d (m + 1) M → (∀ c, c < j → par T m c → LSt (BS T k d m c) (M.1 20 (9 * m + c))) →
    ∃ M', FX9_backward_L52 f (nI d) (nI m) (nI (spt T m)) (nI (pas T m)) (nI (ldw T k m)) (nI j) M = some M' ∧ kp 20 M M' ∧ BW T k d m M' := by
  have hN := hT.1.2.1
  have hm2 := p13 hN hm
  obtain ⟨hd9, -, -, ho2⟩ := hT.1
  have hps := pas_lt hT m
  intro n
  induction n with
  | zero =>
    intro j f M hj hf hY hB hL
    obtain ⟨f, rfl⟩ : ∃ g, f = g + 1 := ⟨f - 1, by omega⟩
    have : j = 9 := by omega
    subst this
    rw [FX9_backward_L52, if_pos (by decide)]
    refine ⟨M, rfl, kp.rf _ _, fun m' c h1 h2 h3 h4 => ?_⟩
    rcases (show m + 1 ≤ m' ∨ m' = m by omega) with h | h
    · exact hB m' c h h2 h3 h4
    · subst h; exact hL c h3 h4
  | succ n ih =>
    intro j f M hj hf hY hB hL
    obtain ⟨f, rfl⟩ : ∃ g, f = g + 1 := ⟨f - 1, by omega⟩
    have g1 : ¬ 9 ≤ nI j := nI_ge (b := 9) (by omega) (by decide)
    have j9 : j < 9 := by omega
    have a0 : (nI m = 0) ↔ m = 0 := z_eq (b := 0) (by omega) (by omega)
    have eb : (if nI m = 0 then false else if nI j = nI (T.1 0) then true else false) = decide (m ≠ 0 ∧ j = T.1 0) := by
      simp (disch := omega) only [a0, z_eq]
      by_cases q2 : m = 0 <;> by_cases q3 : j = T.1 0 <;> simp [q2, q3]
    rw [FX9_backward_L52, if_neg g1, hY.1.1, eb, z_lt, z_lt, y_oddBy hT hY hm, z_ob]
    simp (disch := omega) only [show (9 : Int32) = nI 9 from rfl, pk_mul, nI_add, z_gi, z_ix, z_ltp, z_shl1, z_xor, nI_1]
    have fin : ∀ x, (par T m j → LSt (BS T k d m j) x) → ∃ M', FX9_backward_L52 f (nI d) (nI m) (nI (spt T m)) (nI (pas T m)) (nI (ldw T k m)) (nI (j + 1)) (wr M 20 (9 * m + j) x) = some M' ∧ kp 20 M M' ∧ BW T k d m M' := by
      intro x hx
      have k1 := kp.wr 20 M (9 * m + j) x
      obtain ⟨M', r1, r2, r3⟩ := ih (j + 1) f (wr M 20 (9 * m + j) x) (by omega) (by omega) (hY.kp k1 (by omega)) (fun m' c h1 h2 h3 h4 => by
        rw [wr_at, if_neg (fun z => by omega)]
        exact hB m' c h1 h2 h3 h4) (fun c hc hp => by
        rw [wr_at]
        by_cases h : c = j
        · subst h
          rw [if_pos ⟨rfl, rfl⟩]
          exact hx hp
        · rw [if_neg (fun z => by omega)]
          exact hL c (by omega) hp)
      exact ⟨M', r1, k1.tr r2, r3⟩
    have hodl : od T m ^^^ 2 ^ T.1 0 < 2147483648 := by
      have h1 : ∀ n, n ≤ T.1 1 → xoB n (fun s => m.testBit s) (fun s => 2 ^ T.2.1 1 s ^^^ 2 ^ T.2.1 2 s) < 2 ^ 9 := by
        intro n
        induction n with
        | zero => intro _; show 0 < 2 ^ 9; decide
        | succ n ih =>
          intro hn
          obtain ⟨⟨b1, b2, -⟩, -⟩ := hT.2 n (by omega)
          rw [xoB]
          refine Nat.xor_lt_two_pow (ih (by omega)) ?_
          split
          · exact Nat.xor_lt_two_pow (Nat.pow_lt_pow_right (by decide) b1) (Nat.pow_lt_pow_right (by decide) b2)
          · decide
      have := Nat.xor_lt_two_pow (h1 _ (Nat.le_refl _)) (show 2 ^ T.1 0 < 2 ^ 9 from Nat.pow_lt_pow_right (by decide) hd9)
      exact Nat.lt_trans this (by decide)
    have hpj : 2 ^ j < 2147483648 := z_p2 (by omega)
    have epar : (nI (od T m ^^^ 2 ^ T.1 0) = nI (2 ^ j)) ↔ par T m j := z_eq hodl hpj
    by_cases hp : par T m j
    · rw [if_pos (epar.mpr hp)]
      have hand : pas T m &&& d < 2147483648 := Nat.lt_of_le_of_lt Nat.and_le_left (by omega)
      have ering : (if (if decide (m ≠ 0 ∧ j = T.1 0) = true then (1 : Int32) else 0) = 0 then false else if nI (pas T m) &&& nI d = nI d then true else false) = rng T d m j := by
        rw [z_and, if_congr_prop (z_eq hand (show d < 2147483648 by omega))]
        rw [Bool.eq_iff_iff, rng_iff]
        by_cases q1 : m ≠ 0 ∧ j = T.1 0
        · rw [decide_eq_true q1, if_pos rfl, if_neg (by decide)]
          by_cases q2 : pas T m &&& d = d
          · rw [if_pos q2]
            exact ⟨fun _ => ⟨q1.1, q1.2, q2⟩, fun _ => rfl⟩
          · rw [if_neg q2]
            exact ⟨fun h => (by cases h), fun h => absurd h.2.2 q2⟩
        · rw [decide_eq_false q1, if_pos (by decide)]
          exact ⟨fun h => (by cases h), fun h => absurd ⟨h.1, h.2.1⟩ q1⟩
      rw [ering]
      cases hr : rng T d m j with
      | true =>
        rw [if_pos rfl]
        exact fin 0 fun _ => Or.inr ⟨0, by decide, rfl, ⟨[], Cpl_nil.mpr hr, rfl⟩, fun q' _ => Nat.zero_le _⟩
      | false =>
        rw [if_neg (by decide), hY.1.2.2.2]
        have eon : (if (if decide (m ≠ 0 ∧ j = T.1 0) = true then (1 : Int32) else 0) = 0 then false else if nI (T.1 3) = 1 then true else false) = decide (T.1 3 = 1 ∧ m ≠ 0 ∧ j = T.1 0) := by
          have a1 : (nI (T.1 3) = 1) ↔ T.1 3 = 1 := z_eq (b := 1) (by omega) (by omega)
          rw [if_congr_prop a1]
          by_cases q1 : m ≠ 0 ∧ j = T.1 0
          · rw [decide_eq_true q1, if_pos rfl, if_neg (by decide)]
            by_cases q2 : T.1 3 = 1
            · rw [if_pos q2, decide_eq_true ⟨q2, q1⟩]
            · rw [if_neg q2, decide_eq_false fun z => q2 z.1]
          · rw [decide_eq_false q1, if_pos (by decide), decide_eq_false fun z => q1 z.2]
        rw [eon]
        by_cases hon : T.1 3 = 1 ∧ m ≠ 0 ∧ j = T.1 0
        · rw [decide_eq_true hon, if_pos rfl, z_ob]
          refine fin (-1) fun _ => Or.inl ⟨rfl, ?_⟩
          rintro q ⟨w, h1, -⟩
          cases w with
          | nil => rw [Cpl_nil, hr] at h1; cases h1
          | cons s r =>
            rw [Cpl_cons] at h1
            exact (stp_iff.mp h1.2.1).2.2.2.2 hon
        · rw [decide_eq_false hon, if_neg (by decide)]
          obtain ⟨y, r1, r2⟩ := y_restFrom hT hY hm j9 hB hp hon hr
          rw [r1, z_ob, z_ob]
          exact fin y fun _ => r2
    · rw [if_neg (fun z => hp (epar.mp z))]
      exact fin (-1) fun z => absurd z hp
theorem y_ba9 {T : Twn} (hT : Twf T) {k d : Nat} {p : Int32} (hp : shop p k) (hd : d < 512) : ∀ (i f : Nat) (M : Mem), i ≤ 2 ^ T.1 1 → i < f → YTw T M → BW T k d i M →
    ∃ M', FX9_backward_L9 f (nI d) p (nI i - 1) M = some M' ∧ kp 20 M M' ∧ BW T k d 0 M' := by
  have hN := hT.1.2.1
  have h8 : 2 ^ T.1 1 ≤ 8192 := Nat.pow_le_pow_right (n := 2) (by decide) hN
  intro i
  induction i with
  | zero =>
    intro f M hi hf hY hB
    obtain ⟨f, rfl⟩ : ∃ g, f = g + 1 := ⟨f - 1, by omega⟩
    rw [FX9_backward_L9, if_pos (by decide)]
    exact ⟨M, rfl, kp.rf _ _, hB⟩
  | succ i ih =>
    intro f M hi hf hY hB
    obtain ⟨f, rfl⟩ : ∃ g, f = g + 1 := ⟨f - 1, by omega⟩
    have hm : i < 2 ^ T.1 1 := by omega
    rw [FX9_backward_L9, nI_pred, if_neg (z_neg (by omega)), y_spentBy hT hY hm, z_ob, y_passedBy hT hY hm, z_ob, shop_b hT hp i, z_lt, z_lt]
    have el : (if decide (ldw T k i = 1) = true then (1 : Int32) else 0) = nI (ldw T k i) := by
      have := ldw_lt T k i
      rcases (show ldw T k i = 0 ∨ ldw T k i = 1 by omega) with h | h <;> rw [h] <;> rfl
    rw [el]
    obtain ⟨M1, e1, e2, e3⟩ := y_ba52 hT hd hm 9 0 FU M (by omega) (by rw [z_FU]; omega) hY hB (fun c h => absurd h (Nat.not_lt_zero c))
    rw [show nI 0 = 0 from rfl] at e1
    rw [e1, z_ob, z_lt, show nI i + (-1) = nI i - 1 from (Int32.sub_eq_add_neg _ _).symm]
    obtain ⟨M', r1, r2, r3⟩ := ih f M1 (by omega) (by omega) (hY.kp e2 (by omega)) e3
    exact ⟨M', r1, e2.tr r2, r3⟩
theorem y_backward {T : Twn} (hT : Twf T) {k d : Nat} {p : Int32} (hp : shop p k) (hd : d < 512) {M : Mem} (hY : YTw T M) : ∃ M', FX9_backward (nI d) p M = some M' ∧ kp 20 M M' ∧ BW T k d 0 M' := by
  have hN := hT.1.2.1
  have h8 : 2 ^ T.1 1 ≤ 8192 := Nat.pow_le_pow_right (n := 2) (by decide) hN
  obtain ⟨M', r1, r2, r3⟩ := y_ba9 hT hp hd (2 ^ T.1 1) FU M (Nat.le_refl _) (by rw [z_FU]; omega) hY (fun m c h1 h2 => by omega)
  unfold FX9_backward
  rw [hY.1.2.1, z_shl1 (by omega), z_lt, r1, z_ob]
  exact ⟨M', rfl, r2, r3⟩
