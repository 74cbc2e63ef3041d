/-! fewest, ringed -/
theorem LSt_un {S S2 : Nat → Prop} {x : Int32} {q : Nat} (hq : q < 100000) (h : LSt S x) (h2 : S2 q) (h3 : ∀ p, S2 p → q ≤ p) : LSt (fun p => S p ∨ S2 p) (if x = -1 ∨ ¬ x ≤ nI q then nI q else x) := by
  have h4 := LSt_add (S' := fun p => S p ∨ p = q) hq h (fun p => Iff.rfl)
  generalize (if x = -1 ∨ ¬ x ≤ nI q then nI q else x) = y at h4 ⊢
  rcases h4 with ⟨h5, h6⟩ | ⟨p, h5, h6, h7, h8⟩
  · exact absurd (Or.inr rfl) (h6 q)
  · refine Or.inr ⟨p, h5, h6, ?_, fun q' hq' => ?_⟩
    · rcases h7 with h | h
      · exact Or.inl h
      · rw [h]; exact Or.inr h2
    · rcases hq' with h | h
      · exact h8 q' (Or.inl h)
      · exact Nat.le_trans (h8 q (Or.inr rfl)) (h3 q' h)
theorem LSt_no {S S2 : Nat → Prop} {x : Int32} (h : LSt S x) (h2 : ∀ p, ¬ S2 p) : LSt (fun p => S p ∨ S2 p) x :=
  h.cong fun p => ⟨Or.inl, fun z => z.elim id (fun z => absurd z (h2 p))⟩
/-- the minutes of the rings that pass d -/
def FWS (T : Twn) (d q : Nat) : Prop := ∃ m, rng T d m (T.1 0) = true ∧ WS T m (T.1 0) q
theorem b_if {p q : Prop} [Decidable p] [Decidable q] : (if p then true else if q then false else true) = decide (p ∨ ¬ q) := by
  by_cases h1 : p <;> by_cases h2 : q <;> simp [h1, h2]
theorem y_feL4 {T : Twn} (hT : Twf T) {M : Mem} (hY : YTw T M) (hF : FWD T M) {d : Nat} (hd : d < 512) : ∀ (k i f : Nat) (x : Int32), 1 ≤ i → i + k = 2 ^ T.1 1 → k < f → LSt (fun q => ∃ m, m < i ∧ rng T d m (T.1 0) = true ∧ WS T m (T.1 0) q) x →
    ∃ y, FX9_fewest_L4 f (nI d) x (nI i) M = some y ∧ LSt (FWS T d) y := by
  have hN := hT.1.2.1
  obtain ⟨hd9, -, -, ho2⟩ := hT.1
  have hp : 2 ^ T.1 1 ≤ 8192 := Nat.pow_le_pow_right (n := 2) (by decide) hN
  intro k
  induction k with
  | zero =>
    intro i f x h1 hi hf hx
    obtain ⟨f, rfl⟩ : ∃ g, f = g + 1 := ⟨f - 1, by omega⟩
    have : i = 2 ^ T.1 1 := by omega
    subst this
    rw [FX9_fewest_L4, hY.1.2.1, z_shl1 (by omega), if_pos (Int32.le_refl _)]
    refine ⟨x, rfl, hx.cong fun q => ?_⟩
    constructor
    · rintro ⟨m, -, h⟩
      exact ⟨m, h⟩
    · rintro ⟨m, h⟩
      exact ⟨m, (WS_wk hT h.2).1, h⟩
  | succ k ih =>
    intro i f x h1 hi hf hx
    obtain ⟨f, rfl⟩ : ∃ g, f = g + 1 := ⟨f - 1, by omega⟩
    have hm : i < 2 ^ T.1 1 := by omega
    have g1 : ¬ nI (2 ^ T.1 1) ≤ nI i := nI_ge (by omega) (by omega)
    have hcell := hF i (T.1 0) hm hd9
    have hps := pas_lt hT i
    have hrng : rng T d i (T.1 0) = true ↔ nI (pas T i) &&& nI d = nI d := by
      have hand : pas T i &&& d < 2147483648 := Nat.lt_of_le_of_lt Nat.and_le_left (by omega)
      rw [rng_iff, z_and, z_eq hand (by omega)]
      constructor
      · exact fun h => h.2.2
      · exact fun h => ⟨by omega, rfl, h⟩
    rw [FX9_fewest_L4, hY.1.2.1, z_shl1 (by omega), if_neg g1, hY.1.1]
    simp (disch := omega) only [show (9 : Int32) = nI 9 from rfl, pk_mul, nI_add, z_gi, z_ix, z_ltp, y_passedBy hT hY hm, z_obp, nI_1]
    have split : ∀ y, LSt (fun q => (∃ m, m < i ∧ rng T d m (T.1 0) = true ∧ WS T m (T.1 0) q) ∨ (rng T d i (T.1 0) = true ∧ WS T i (T.1 0) q)) y → LSt (fun q => ∃ m, m < i + 1 ∧ rng T d m (T.1 0) = true ∧ WS T m (T.1 0) q) y := by
      intro y hy
      refine hy.cong fun q => ?_
      constructor
      · rintro (⟨m, h1, h2⟩ | h)
        · exact ⟨m, by omega, h2⟩
        · exact ⟨i, by omega, h⟩
      · rintro ⟨m, h1, h2⟩
        rcases (show m < i ∨ m = i by omega) with h | h
        · exact Or.inl ⟨m, h, h2⟩
        · subst h; exact Or.inr h2
    rcases hcell with ⟨c1, c2⟩ | ⟨q, c1, c2, c3, c4⟩
    · rw [c1, if_pos rfl, z_ob]
      simp only [Bool.false_eq_true, if_false, if_true]
      exact ih (i + 1) f x (by omega) (by omega) (by omega) (split x (LSt_no hx fun p h => c2 p h.2))
    · rw [c2, if_neg (z_m1 (by omega))]
      by_cases hr : rng T d i (T.1 0) = true
      · rw [if_pos (hrng.mp hr), z_ob]
        simp only [if_true, if_neg (show ¬ (1 : Int32) = 0 from by decide), b_if, decide_eq_true_eq]
        exact ih (i + 1) f _ (by omega) (by omega) (by omega) (split _ (LSt_un c1 hx ⟨hr, c3⟩ fun p h => c4 p h.2))
      · rw [if_neg (fun z => hr (hrng.mpr z)), z_ob]
        simp only [Bool.false_eq_true, if_false, if_true]
        exact ih (i + 1) f x (by omega) (by omega) (by omega) (split x (LSt_no hx fun p h => hr h.1))
theorem y_fewest {T : Twn} (hT : Twf T) {M : Mem} (hY : YTw T M) (hF : FWD T M) {d : Nat} (hd : d < 512) : ∃ y, FX9_fewest (nI d) M = some y ∧ LSt (FWS T d) y := by
  have hN := hT.1.2.1
  have hp : 2 ^ T.1 1 ≤ 8192 := Nat.pow_le_pow_right (n := 2) (by decide) hN
  have hp1 : 1 ≤ 2 ^ T.1 1 := Nat.two_pow_pos _
  obtain ⟨y, h1, h2⟩ := y_feL4 hT hY hF hd (2 ^ T.1 1 - 1) 1 FU (-1) (by omega) (by omega) (by rw [z_FU]; omega) (Or.inl ⟨rfl, by
    rintro q ⟨m, h1, h2, -⟩
    have : m = 0 := by omega
    subst this
    exact (rng_iff.mp h2).1 rfl⟩)
  unfold FX9_fewest
  rw [show nI 1 = 1 from rfl] at h1
  rw [h1, z_ob]
  exact ⟨y, rfl, h2⟩
/-- corner i is passed by a ring without the streets A -/
def RGD (T : Twn) (A i : Nat) : Prop := i ≠ T.1 0 ∧ ∃ m q, m ≠ 0 ∧ m &&& A = 0 ∧ WS T m (T.1 0) q ∧ (pas T m).testBit i = true
theorem y_riL4 {T : Twn} (hT : Twf T) {M : Mem} (hY : YTw T M) (hF : FWD T M) {A : Nat} (hA : A < 8192) : ∀ (k i f r : Nat), 1 ≤ i → i + k = 2 ^ T.1 1 → k < f → r < 512 → (∀ j, r.testBit j = true ↔ ∃ m q, m < i ∧ m ≠ 0 ∧ m &&& A = 0 ∧ WS T m (T.1 0) q ∧ (pas T m).testBit j = true) →
    ∃ y, y < 512 ∧ FX9_ringed_L4 f (nI A) (nI r) (nI i) M = some (nI y) ∧ ∀ j, y.testBit j = true ↔ ∃ m q, m ≠ 0 ∧ m &&& A = 0 ∧ WS T m (T.1 0) q ∧ (pas T m).testBit j = true := by
  have hN := hT.1.2.1
  obtain ⟨hd9, -, -, ho2⟩ := hT.1
  have hp : 2 ^ T.1 1 ≤ 8192 := Nat.pow_le_pow_right (n := 2) (by decide) hN
  intro k
  induction k with
  | zero =>
    intro i f r h1 hi hf hr hx
    obtain ⟨f, rfl⟩ : ∃ g, f = g + 1 := ⟨f - 1, by omega⟩
    have : i = 2 ^ T.1 1 := by omega
    subst this
    rw [FX9_ringed_L4, hY.1.2.1, z_shl1 (by omega), if_pos (Int32.le_refl _)]
    refine ⟨r, hr, rfl, fun j => (hx j).trans ?_⟩
    constructor
    · rintro ⟨m, q, -, h⟩
      exact ⟨m, q, h⟩
    · rintro ⟨m, q, h⟩
      exact ⟨m, q, (WS_wk hT h.2.2.1).1, h⟩
  | succ k ih =>
    intro i f r h1 hi hf hr hx
    obtain ⟨f, rfl⟩ : ∃ g, f = g + 1 := ⟨f - 1, by omega⟩
    have hm : i < 2 ^ T.1 1 := by omega
    have g1 : ¬ nI (2 ^ T.1 1) ≤ nI i := nI_ge (by omega) (by omega)
    have hcell := hF i (T.1 0) hm hd9
    have hps := pas_lt hT i
    have hand : i &&& A < 2147483648 := Nat.lt_of_le_of_lt Nat.and_le_left (by omega)
    have e0 : (nI (i &&& A) = 0) ↔ i &&& A = 0 := z_eq (b := 0) hand (by omega)
    rw [FX9_ringed_L4, hY.1.2.1, z_shl1 (by omega), if_neg g1, hY.1.1]
    simp (disch := omega) only [show (9 : Int32) = nI 9 from rfl, pk_mul, nI_add, z_gi, z_ix, z_ltp, y_passedBy hT hY hm, z_obp, nI_1, z_and, e0]
    have keep : (¬ (i &&& A = 0 ∧ ∃ q, WS T i (T.1 0) q)) → ∀ j, r.testBit j = true ↔ ∃ m q, m < i + 1 ∧ m ≠ 0 ∧ m &&& A = 0 ∧ WS T m (T.1 0) q ∧ (pas T m).testBit j = true := by
      intro hno j
      refine (hx j).trans ?_
      constructor
      · rintro ⟨m, q, h1, h2⟩
        exact ⟨m, q, by omega, h2⟩
      · rintro ⟨m, q, h1, h2, h3, h4, h5⟩
        rcases (show m < i ∨ m = i by omega) with h | h
        · exact ⟨m, q, h, h2, h3, h4, h5⟩
        · subst h; exact absurd ⟨h3, q, h4⟩ hno
    have hr0 : nI r ||| 0 = nI r := by rw [show (0 : Int32) = nI 0 from rfl, z_or, Nat.or_zero]
    by_cases ha : i &&& A = 0
    · rw [if_pos ha]
      rcases hcell with ⟨c1, c2⟩ | ⟨q, c1, c2, c3, c4⟩
      · rw [c1, if_pos rfl, z_ob]
        simp only [Bool.false_eq_true, if_false, z_obp, hr0]
        exact ih (i + 1) f r (by omega) (by omega) (by omega) hr (keep fun h => h.2.elim fun q h => c2 q h)
      · rw [c2, if_neg (z_m1 (by omega)), z_ob]
        simp only [if_true, z_obp, z_or]
        refine ih (i + 1) f _ (by omega) (by omega) (by omega) (Nat.or_lt_two_pow (n := 9) hr hps) (fun j => ?_)
        rw [Nat.testBit_or, Bool.or_eq_true, hx j]
        constructor
        · rintro (⟨m, q, h1, h2⟩ | h)
          · exact ⟨m, q, by omega, h2⟩
          · exact ⟨i, q, by omega, by omega, ha, c3, h⟩
        · rintro ⟨m, q, h1, h2, h3, h4, h5⟩
          rcases (show m < i ∨ m = i by omega) with h | h
          · exact Or.inl ⟨m, q, h, h2, h3, h4, h5⟩
          · subst h; exact Or.inr h5
    · rw [if_neg ha, z_ob]
      simp only [Bool.false_eq_true, if_false, z_obp, hr0]
      exact ih (i + 1) f r (by omega) (by omega) (by omega) hr (keep fun h => ha h.1)
theorem y_ringed {T : Twn} (hT : Twf T) {M : Mem} (hY : YTw T M) (hF : FWD T M) {A : Nat} (hA : A < 8192) : ∃ r, r < 512 ∧ FX9_ringed (nI A) M = some (nI r) ∧ ∀ i, r.testBit i = true ↔ RGD T A i := by
  have hN := hT.1.2.1
  have hd9 := hT.1.1
  have hp : 2 ^ T.1 1 ≤ 8192 := Nat.pow_le_pow_right (n := 2) (by decide) hN
  have hp1 : 1 ≤ 2 ^ T.1 1 := Nat.two_pow_pos _
  obtain ⟨y, h1, h2, h3⟩ := y_riL4 hT hY hF hA (2 ^ T.1 1 - 1) 1 FU 0 (by omega) (by omega) (by rw [z_FU]; omega) (by decide) (fun j => by
    rw [Nat.zero_testBit]
    constructor
    · intro h; cases h
    · rintro ⟨m, q, g1, g2, -⟩
      omega)
  unfold FX9_ringed
  rw [show nI 1 = 1 from rfl, show nI 0 = 0 from rfl] at h2
  rw [h2, z_ob, hY.1.1, z_shl1 (by omega), z_not]
  refine ⟨ndf y (2 ^ T.1 0), ?_, rfl, fun i => ?_⟩
  · exact Nat.lt_of_le_of_lt (Nat.le_of_testBit fun j hj => by rw [ndf_bit] at hj; cases e : y.testBit j <;> simp [e] at hj ⊢) h1
  · rw [ndf_bit, Bool.and_eq_true, h3 i, Nat.testBit_two_pow]
    unfold RGD
    simp only [Bool.not_eq_true', decide_eq_false_iff_not]
    constructor
    · rintro ⟨a, b⟩
      exact ⟨fun z => b z.symm, a⟩
    · rintro ⟨a, b⟩
      exact ⟨b, fun z => a z.symm⟩
