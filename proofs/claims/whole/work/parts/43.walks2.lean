/-! walks: parity, lengths, keys -/
def xoB : Nat → (Nat → Bool) → (Nat → Nat) → Nat
  | 0, _, _ => 0
  | n + 1, p, f => xoB n p f ^^^ (if p n then f n else 0)
theorem xoB_cong {p q : Nat → Bool} {f : Nat → Nat} : ∀ {n : Nat}, (∀ k, k < n → p k = q k) → xoB n p f = xoB n q f
  | 0, _ => rfl
  | n + 1, h => by rw [xoB, xoB, xoB_cong (fun k hk => h k (by omega)), h n (by omega)]
theorem xoB_add {p q : Nat → Bool} {f : Nat → Nat} {s : Nat} (hp : p s = false) (hq : q s = true) (hr : ∀ k, k ≠ s → p k = q k) : ∀ {n : Nat}, s < n → xoB n q f = xoB n p f ^^^ f s
  | 0, h => absurd h (Nat.not_lt_zero s)
  | n + 1, h => by
    rw [xoB, xoB]
    by_cases hn : s = n
    · subst hn
      rw [hp, hq, xoB_cong (p := q) (q := p) (fun k hk => (hr k (by omega)).symm)]
      simp
    · rw [xoB_add hp hq hr (show s < n by omega), hr n (fun z => hn z.symm), Nat.xor_assoc, Nat.xor_assoc, Nat.xor_comm (f s)]
theorem ct_add {p q : Nat → Bool} {s : Nat} (hp : p s = false) (hq : q s = true) (hr : ∀ k, k ≠ s → p k = q k) : ∀ {n : Nat}, s < n → fb_ct q n = fb_ct p n + 1
  | 0, h => absurd h (Nat.not_lt_zero s)
  | n + 1, h => by
    rw [fb_ct_succ, fb_ct_succ]
    by_cases hn : s = n
    · subst hn
      have : fb_ct q s = fb_ct p s := fb_ct_cong (fun k hk => (hr k (by omega)).symm)
      rw [hp, hq, this]
      simp
    · rw [ct_add hp hq hr (show s < n by omega), hr n (fun z => hn z.symm)]
      omega
theorem or1_ne {m s k : Nat} (h : k ≠ s) : m.testBit k = (m ||| 2 ^ s).testBit k := by
  rw [Bool.eq_iff_iff, or_bit1]
  constructor
  · exact Or.inl
  · rintro (h1 | h1)
    · exact h1
    · exact absurd h1 h
theorem or1_s (m s : Nat) : (m ||| 2 ^ s).testBit s = true := (or_bit1 m s s).mpr (Or.inr rfl)
/-- corners that an odd number of the streets touch -/
def od (T : Twn) (m : Nat) : Nat := xoB (T.1 1) (fun s => m.testBit s) (fun s => 2 ^ T.2.1 1 s ^^^ 2 ^ T.2.1 2 s)
theorem od_or {T : Twn} {m s : Nat} (hs : s < T.1 1) (h : m.testBit s = false) : od T (m ||| 2 ^ s) = od T m ^^^ (2 ^ T.2.1 1 s ^^^ 2 ^ T.2.1 2 s) :=
  xoB_add (p := fun s => m.testBit s) (q := fun k => (m ||| 2 ^ s).testBit k) h (or1_s m s) (fun k hk => or1_ne hk) hs
/-- the streets end at the corner, by parity -/
def par (T : Twn) (m c : Nat) : Prop := od T m ^^^ 2 ^ T.1 0 = 2 ^ c
theorem par_inj {T : Twn} {m c c' : Nat} (h : par T m c) (h' : par T m c') : c = c' := by
  have : 2 ^ c = 2 ^ c' := h.symm.trans h'
  have h1 : (2 ^ c').testBit c = true := by rw [← this]; exact Nat.testBit_two_pow_self
  rw [Nat.testBit_two_pow] at h1
  have h2 : c' = c := by simpa using h1
  exact h2.symm
theorem od_0 (T : Twn) : od T 0 = 0 := by
  unfold od
  have : ∀ n, xoB n (fun s => (0 : Nat).testBit s) (fun s => 2 ^ T.2.1 1 s ^^^ 2 ^ T.2.1 2 s) = 0 := by
    intro n
    induction n with
    | zero => rfl
    | succ n ih => rw [xoB, ih, Nat.zero_testBit]; simp
  exact this _
theorem par_0 (T : Twn) : par T 0 (T.1 0) := by unfold par; rw [od_0, Nat.zero_xor]
theorem xor_pow (a b : Nat) : (2 ^ a ^^^ (2 ^ a ^^^ 2 ^ b)) = 2 ^ b := by rw [← Nat.xor_assoc, Nat.xor_self, Nat.zero_xor]
theorem par_or {T : Twn} {m c s : Nat} (hs : s < T.1 1) (hb : m.testBit s = false) (hc : c = T.2.1 1 s ∨ c = T.2.1 2 s) (h : par T m c) : par T (m ||| 2 ^ s) (ot T s c) := by
  unfold par at h ⊢
  rw [od_or hs hb, Nat.xor_assoc, Nat.xor_comm (2 ^ T.2.1 1 s ^^^ 2 ^ T.2.1 2 s), ← Nat.xor_assoc, h]
  unfold ot
  by_cases h1 : T.2.1 1 s = c
  · rw [if_pos h1, ← h1, xor_pow]
  · rw [if_neg h1]
    rcases hc with h2 | h2
    · exact absurd h2.symm h1
    · rw [← h2, Nat.xor_comm (2 ^ T.2.1 1 s), xor_pow]
def pc (m : Nat) : Nat := fb_ct (fun i => m.testBit i) 13
theorem pc_or {m s : Nat} (hs : s < 13) (h : m.testBit s = false) : pc (m ||| 2 ^ s) = pc m + 1 :=
  ct_add (p := fun i => m.testBit i) (q := fun k => (m ||| 2 ^ s).testBit k) h (or1_s m s) (fun k hk => or1_ne hk) hs
theorem pc_le (m : Nat) : pc m ≤ 13 := fb_ct_le _ _
theorem pc_0 : pc 0 = 0 := by decide
/-- what holds of every place on a walk -/
def wk (T : Twn) (m c : Nat) : Prop := m < 2 ^ T.1 1 ∧ c < 9 ∧ (pas T m).testBit c = true ∧ par T m c
theorem wk_0 {T : Twn} (hT : Twf T) : wk T 0 (T.1 0) := ⟨Nat.two_pow_pos _, hT.1.1, (pas_bit T 0 _).mpr (Or.inl rfl), par_0 T⟩
theorem wk_stp {T : Twn} (hT : Twf T) {k m c s : Nat} (h : wk T m c) (hs : stp T k m c s = true) : wk T (m ||| 2 ^ s) (ot T s c) := by
  obtain ⟨h1, h2, h3⟩ := stp_at hT hs
  obtain ⟨w1, w2, w3, w4⟩ := h
  refine ⟨Nat.or_lt_two_pow w1 (Nat.pow_lt_pow_right (by decide) h1), ot_lt hT h1 c, (pas_or T h1 _).mpr (Or.inr ?_), par_or h1 h3 h2 w4⟩
  unfold ot
  split
  · exact Or.inr rfl
  · exact Or.inl rfl
theorem Pre_wk {T : Twn} (hT : Twf T) {k d : Nat} : ∀ {w : List Nat} {m c : Nat}, wk T m c → Pre T k d m c w → wk T (mE m w) (cE T c w)
  | [], _, _, h, _ => h
  | s :: r, m, c, h, hp => Pre_wk (w := r) (m := m ||| 2 ^ s) (c := ot T s c) hT (wk_stp hT h hp.2.1) hp.2.2
theorem Pre_pc {T : Twn} (hT : Twf T) {k d : Nat} : ∀ {w : List Nat} {m c : Nat}, Pre T k d m c w → pc (mE m w) = pc m + w.length
  | [], _, _, _ => rfl
  | s :: r, m, c, hp => by
    obtain ⟨h1, h2, h3⟩ := stp_at hT hp.2.1
    have := Pre_pc hT hp.2.2
    have h4 := hT.1.2.1
    rw [mE, this, pc_or (by omega) h3, List.length_cons]
    omega
theorem Pre_in {T : Twn} (hT : Twf T) {k d : Nat} : ∀ {w : List Nat} {m c : Nat}, Pre T k d m c w → ∀ s ∈ w, s < 13
  | [], _, _, _, s, h => by cases h
  | t :: r, m, c, hp, s, h => by
    obtain ⟨h1, -, -⟩ := stp_at hT hp.2.1
    have h4 := hT.1.2.1
    rcases List.mem_cons.mp h with rfl | h2
    · omega
    · exact Pre_in hT hp.2.2 s h2
theorem dg_lt : ∀ {w : List Nat} {j : Nat}, (∀ s ∈ w, s < 13) → j + w.length ≤ 13 → dg j w < 16 ^ (13 - j)
  | [], j, _, _ => Nat.pow_pos (by decide)
  | s :: r, j, h, hl => by
    rw [List.length_cons] at hl
    have ih := dg_lt (w := r) (j := j + 1) (fun t ht => h t (List.mem_cons_of_mem _ ht)) (by omega)
    have hs : s < 13 := h s (List.mem_cons_self)
    rw [dg, show 13 - j = (12 - j) + 1 by omega, Nat.pow_succ]
    rw [show 13 - (j + 1) = 12 - j by omega] at ih
    have : s * 16 ^ (12 - j) ≤ 12 * 16 ^ (12 - j) := Nat.mul_le_mul_right _ (by omega)
    omega
/-- a walk that ends at its first ring that passes the corners d -/
def Cpl (T : Twn) (k d m c : Nat) (w : List Nat) : Prop := Pre T k d m c w ∧ rng T d (mE m w) (cE T c w) = true
theorem Cpl_cons {T : Twn} {k d m c s : Nat} {r : List Nat} : Cpl T k d m c (s :: r) ↔ rng T d m c = false ∧ stp T k m c s = true ∧ Cpl T k d (m ||| 2 ^ s) (ot T s c) r := by
  unfold Cpl
  show ((_ ∧ _ ∧ _) ∧ _) ↔ _
  simp only [and_assoc]
  exact Iff.rfl
theorem Cpl_nil {T : Twn} {k d m c : Nat} : Cpl T k d m c [] ↔ rng T d m c = true := by
  unfold Cpl
  show (True ∧ _) ↔ _
  rw [true_and]
  exact Iff.rfl
theorem mul_lex {p a b x y : Nat} (hx : x < p) (hy : y < p) (h : a * p + x = b * p + y) : a = b ∧ x = y := by
  have h1 : a = b := by
    rcases Nat.lt_trichotomy a b with h2 | h2 | h2
    · have : (a + 1) * p ≤ b * p := Nat.mul_le_mul_right _ h2
      rw [Nat.add_mul] at this
      omega
    · exact h2
    · have : (b + 1) * p ≤ a * p := Nat.mul_le_mul_right _ h2
      rw [Nat.add_mul] at this
      omega
  subst h1
  exact ⟨rfl, by omega⟩
theorem Cpl_inj {T : Twn} (hT : Twf T) {k d : Nat} : ∀ {w w' : List Nat} {m c j : Nat}, Cpl T k d m c w → Cpl T k d m c w' → j + w.length ≤ 13 → j + w'.length ≤ 13 → dg j w = dg j w' → w = w'
  | [], [], _, _, _, _, _, _, _, _ => rfl
  | [], s :: r, m, c, j, h, h', _, _, _ => by
    rw [Cpl_nil] at h
    rw [Cpl_cons] at h'
    rw [h] at h'
    cases h'.1
  | s :: r, [], m, c, j, h, h', _, _, _ => by
    rw [Cpl_nil] at h'
    rw [Cpl_cons] at h
    rw [h'] at h
    cases h.1
  | s :: r, s' :: r', m, c, j, h, h', hl, hl', he => by
    rw [Cpl_cons] at h h'
    rw [List.length_cons] at hl hl'
    have b1 := dg_lt (w := r) (j := j + 1) (fun t ht => Pre_in hT h.2.2.1 t ht) (by omega)
    have b2 := dg_lt (w := r') (j := j + 1) (fun t ht => Pre_in hT h'.2.2.1 t ht) (by omega)
    rw [show 13 - (j + 1) = 12 - j by omega] at b1 b2
    obtain ⟨e1, e2⟩ := mul_lex b1 b2 he
    subst e1
    rw [Cpl_inj hT h.2.2 h'.2.2 (by omega) (by omega) e2]
/-- the key of a walk from home -/
def Kw (T : Twn) (k : Nat) (w : List Nat) : Nat := tmE T k 0 (T.1 0) w * 16 ^ 13 + dg 0 w
theorem Pre_len {T : Twn} (hT : Twf T) {k d : Nat} {w : List Nat} {c : Nat} (h : Pre T k d 0 c w) : w.length ≤ 13 := by
  have h1 := Pre_pc hT h
  have h2 := pc_le (mE 0 w)
  rw [pc_0] at h1
  omega
theorem tm_le {T : Twn} (hT : Twf T) {k d : Nat} : ∀ {w : List Nat} {m c : Nat}, Pre T k d m c w → tmE T k m c w ≤ 99 * w.length
  | [], _, _, _ => Nat.zero_le _
  | s :: r, m, c, hp => by
    obtain ⟨h1, -, -⟩ := stp_at hT hp.2.1
    have := tm_le hT hp.2.2
    have h2 := (hT.2 s h1).2.2.1 (ldw T k m) c (ldw_lt T k m)
    rw [tmE, List.length_cons]
    omega
theorem Kw_inj {T : Twn} (hT : Twf T) {k d : Nat} {w w' : List Nat} (h : Cpl T k d 0 (T.1 0) w) (h' : Cpl T k d 0 (T.1 0) w') (he : Kw T k w = Kw T k w') : w = w' := by
  have l1 := Pre_len hT h.1
  have l2 := Pre_len hT h'.1
  have b1 := dg_lt (w := w) (j := 0) (fun t ht => Pre_in hT h.1 t ht) (by omega)
  have b2 := dg_lt (w := w') (j := 0) (fun t ht => Pre_in hT h'.1 t ht) (by omega)
  exact Cpl_inj hT h h' (by omega) (by omega) (mul_lex b1 b2 he).2
/-- q is the least of the minutes of the walks on to the first ring that passes d -/
def Rst (T : Twn) (k d m c : Nat) : Option Nat → Prop
  | none => ∀ w, ¬ Cpl T k d m c w
  | some q => (∃ w, Cpl T k d m c w ∧ tmE T k m c w = q) ∧ ∀ w, Cpl T k d m c w → q ≤ tmE T k m c w
/-- the walk that goes on by the lowest street with the least minutes -/
def Grd (T : Twn) (k d : Nat) (rs : Nat → Nat → Option Nat) : Nat → Nat → List Nat → Prop
  | m, c, [] => rng T d m c = true
  | m, c, s :: r => rng T d m c = false ∧ (stp T k m c s = true ∧ ∃ q, rs (m ||| 2 ^ s) (ot T s c) = some q ∧ rs m c = some (q + T.2.2 (ldw T k m) c s)) ∧ (∀ t, t < s → stp T k m c t = true → ∀ q, rs (m ||| 2 ^ t) (ot T t c) = some q → rs m c ≠ some (q + T.2.2 (ldw T k m) c t)) ∧ Grd T k d rs (m ||| 2 ^ s) (ot T s c) r
theorem Grd_cpl {T : Twn} {k d : Nat} {rs : Nat → Nat → Option Nat} : ∀ {w : List Nat} {m c : Nat}, Grd T k d rs m c w → Cpl T k d m c w
  | [], _, _, h => Cpl_nil.mpr h
  | s :: r, _, _, h => Cpl_cons.mpr ⟨h.1, h.2.1.1, Grd_cpl h.2.2.2⟩
theorem Grd_least {T : Twn} (hT : Twf T) {k d : Nat} {rs : Nat → Nat → Option Nat} (hrs : ∀ m c, wk T m c → Rst T k d m c (rs m c)) : ∀ {w : List Nat} {m c j : Nat}, wk T m c → Grd T k d rs m c w → rs m c = some (tmE T k m c w) ∧ ∀ w', Cpl T k d m c w' → tmE T k m c w' = tmE T k m c w → j + w.length ≤ 13 → j + w'.length ≤ 13 → dg j w ≤ dg j w'
  | [], m, c, j, hw, h => by
    have hr := hrs m c hw
    have hc : Cpl T k d m c [] := Cpl_nil.mpr h
    constructor
    · cases hq : rs m c with
      | none => rw [hq] at hr; exact absurd hc (hr [])
      | some q =>
        rw [hq] at hr
        have := hr.2 [] hc
        show some q = some 0
        have h0 : tmE T k m c [] = 0 := rfl
        rw [h0] at this
        congr 1
        omega
    · intro w' _ _ _ _
      exact Nat.zero_le _
  | s :: r, m, c, j, hw, h => by
    obtain ⟨g1, ⟨g2, q, g3, g4⟩, g5, g6⟩ := h
    obtain ⟨i1, i2⟩ := Grd_least hT hrs (j := j + 1) (wk_stp hT hw g2) g6
    have eq : q = tmE T k (m ||| 2 ^ s) (ot T s c) r := by
      rw [g3] at i1
      exact Option.some.inj i1
    constructor
    · rw [g4, eq, tmE, Nat.add_comm]
    · intro w' hc ht hl hl'
      cases w' with
      | nil =>
        rw [Cpl_nil] at hc
        rw [hc] at g1
        cases g1
      | cons t r' =>
        rw [Cpl_cons] at hc
        rw [List.length_cons] at hl hl'
        have b1 := dg_lt (w := r) (j := j + 1) (fun t ht => Pre_in hT (Grd_cpl g6).1 t ht) (by omega)
        have b2 := dg_lt (w := r') (j := j + 1) (fun t ht => Pre_in hT hc.2.2.1 t ht) (by omega)
        rw [show 13 - (j + 1) = 12 - j by omega] at b1 b2
        rw [dg, dg]
        rcases Nat.lt_trichotomy s t with h1 | h1 | h1
        · have : (s + 1) * 16 ^ (12 - j) ≤ t * 16 ^ (12 - j) := Nat.mul_le_mul_right _ h1
          rw [Nat.add_mul] at this
          omega
        · subst h1
          have : tmE T k (m ||| 2 ^ s) (ot T s c) r' = tmE T k (m ||| 2 ^ s) (ot T s c) r := by
            rw [tmE, tmE] at ht
            omega
          have := i2 r' hc.2.2 this (by omega) (by omega)
          omega
        · -- a lower street with the same minutes
          exfalso
          have hrt := hrs _ _ (wk_stp hT hw hc.2.1)
          cases hq : rs (m ||| 2 ^ t) (ot T t c) with
          | none => rw [hq] at hrt; exact hrt r' hc.2.2
          | some q' =>
            rw [hq] at hrt
            obtain ⟨⟨w2, h2, h3⟩, h4⟩ := hrt
            have a1 := h4 r' hc.2.2
            have hrm := hrs m c hw
            rw [g4] at hrm
            have a2 := hrm.2 (t :: w2) (Cpl_cons.mpr ⟨hc.1, hc.2.1, h2⟩)
            rw [tmE, h3] at a2
            rw [tmE, tmE] at ht
            refine g5 t h1 hc.2.1 q' hq ?_
            rw [g4]
            congr 1
            omega
theorem Grd_K {T : Twn} (hT : Twf T) {k d : Nat} {rs : Nat → Nat → Option Nat} (hrs : ∀ m c, wk T m c → Rst T k d m c (rs m c)) {w w' : List Nat} (h : Grd T k d rs 0 (T.1 0) w) (h' : Cpl T k d 0 (T.1 0) w') : Kw T k w ≤ Kw T k w' := by
  obtain ⟨h1, h2⟩ := Grd_least hT hrs (j := 0) (wk_0 hT) h
  have hc := Grd_cpl h
  have l1 := Pre_len hT hc.1
  have l2 := Pre_len hT h'.1
  have b1 := dg_lt (w := w) (j := 0) (fun t ht => Pre_in hT hc.1 t ht) (by omega)
  have b2 := dg_lt (w := w') (j := 0) (fun t ht => Pre_in hT h'.1 t ht) (by omega)
  have hr := hrs _ _ (wk_0 hT)
  rw [h1] at hr
  have h3 := hr.2 w' h'
  unfold Kw
  rcases Nat.lt_or_ge (tmE T k 0 (T.1 0) w) (tmE T k 0 (T.1 0) w') with h4 | h4
  · have : (tmE T k 0 (T.1 0) w + 1) * 16 ^ 13 ≤ tmE T k 0 (T.1 0) w' * 16 ^ 13 := Nat.mul_le_mul_right _ h4
    rw [Nat.add_mul] at this
    omega
  · have e : tmE T k 0 (T.1 0) w' = tmE T k 0 (T.1 0) w := by omega
    have := h2 w' h' e (by omega) (by omega)
    rw [e]
    omega
