/-! STREETS: told, close, street, taken -/
/-- the union of f k over the k < n with p k -/
def orB : Nat → (Nat → Bool) → (Nat → Nat) → Nat
  | 0, _, _ => 0
  | n + 1, p, f => orB n p f ||| (if p n then f n else 0)
theorem orB_bit : ∀ (n : Nat) (p : Nat → Bool) (f : Nat → Nat) (i : Nat), (orB n p f).testBit i = true ↔ ∃ k, k < n ∧ p k = true ∧ (f k).testBit i = true
  | 0, p, f, i => by simp [orB]
  | n + 1, p, f, i => by
    rw [orB, Nat.testBit_or, Bool.or_eq_true, orB_bit n p f i]
    constructor
    · rintro (⟨k, h1, h2, h3⟩ | h)
      · exact ⟨k, by omega, h2, h3⟩
      · by_cases hp : p n = true
        · rw [if_pos hp] at h
          exact ⟨n, by omega, hp, h⟩
        · rw [if_neg hp] at h
          simp at h
    · rintro ⟨k, h1, h2, h3⟩
      by_cases hk : k = n
      · subst hk
        right
        rw [if_pos h2]
        exact h3
      · exact Or.inl ⟨k, by omega, h2, h3⟩
theorem orB_lt {n b : Nat} {p : Nat → Bool} {f : Nat → Nat} (h : ∀ k, k < n → p k = true → f k < 2 ^ b) : orB n p f < 2 ^ b := by
  refine Nat.lt_pow_two_of_testBit _ fun i hi => ?_
  rw [← Bool.not_eq_true]
  intro hc
  obtain ⟨k, h1, h2, h3⟩ := (orB_bit n p f i).mp hc
  have h4 := Nat.testBit_lt_two_pow (Nat.lt_of_lt_of_le (h k h1 h2) (Nat.pow_le_pow_right (by decide) hi))
  rw [h4] at h3
  cases h3
theorem orB_cong {p q : Nat → Bool} {f g : Nat → Nat} : ∀ {n : Nat}, (∀ k, k < n → p k = q k ∧ (p k = true → f k = g k)) → orB n p f = orB n q g
  | 0, _ => rfl
  | n + 1, h => by
    rw [orB, orB, orB_cong (fun k hk => h k (by omega))]
    obtain ⟨h1, h2⟩ := h n (by omega)
    by_cases hp : p n = true
    · rw [if_pos hp, if_pos (by rw [← h1]; exact hp), h2 hp]
    · rw [if_neg hp, if_neg (by rw [← h1]; exact hp)]
def brd (k : Nat) : Bool := k == 3 || k == 5
/-- the streets that a street spends -/
def spn (u : Nat → Nat → Nat) (n s : Nat) : Nat := 2 ^ s ||| orB n (fun t => brd (u 0 s) && (brd (u 0 t) && u 4 t == u 4 s)) (fun t => 2 ^ t)
theorem spn_self (u : Nat → Nat → Nat) (n s : Nat) : (spn u n s).testBit s = true := by
  unfold spn
  rw [Nat.testBit_or, Nat.testBit_two_pow_self]
  rfl
theorem spn_lt {u : Nat → Nat → Nat} {n s b : Nat} (hs : s < b) (hn : n ≤ b) : spn u n s < 2 ^ b := by
  unfold spn
  exact Nat.or_lt_two_pow (Nat.pow_lt_pow_right (by decide) hs) (orB_lt fun k hk _ => Nat.pow_lt_pow_right (by decide) (by omega))
theorem y_bridge {n : Nat} {u : Nat → Nat → Nat} {MX MY : Mem} (h : RS n u MX MY) (hn : n ≤ 12) {s : Nat} (hs : s < n) : FX9_isBridge (nI s) MY = some (nI (if brd (u 0 s) then 1 else 0)) := by
  obtain ⟨-, ⟨y0, -⟩, ⟨b0, -⟩⟩ := h s hs
  unfold FX9_isBridge
  have e3 : (3 : Int32) = nI 3 := rfl
  have e5 : (5 : Int32) = nI 5 := rfl
  simp (disch := omega) only [z_gi, z_ix, y0, e3, e5, z_eq, z_ob]
  by_cases h3 : u 0 s = 3
  · simp [h3, brd, z_ob]; rfl
  · by_cases h5 : u 0 s = 5
    · simp [h5, brd, z_ob]; rfl
    · simp [h3, h5, brd, z_ob]; rfl
theorem x_isA {n : Nat} {u : Nat → Nat → Nat} {MX MY : Mem} (h : RS n u MX MY) (hn : n ≤ 12) {s k : Nat} (hs : s < n) (hk : k < 2147483648) : FX3_isA (nI s) (nI k) MX = some (if k = 0 ∨ u 0 s = k ∨ (k = 3 ∧ u 0 s = 5) then 1 else 0) := by
  obtain ⟨⟨x0, -⟩, -, ⟨b0, -⟩⟩ := h s hs
  unfold FX3_isA
  have e0 : (0 : Int32) = nI 0 := rfl
  have e3 : (3 : Int32) = nI 3 := rfl
  have e5 : (5 : Int32) = nI 5 := rfl
  have e1 : (1 : Int32) = nI 1 := rfl
  simp (disch := omega) only [z_gi, z_ix, x0, e3, e5, e0, z_eq]
  by_cases h0 : k = 0
  · simp [h0, z_ob]
  · by_cases h1 : u 0 s = k
    · simp [h0, h1, z_ob]
    · by_cases h2 : k = 3
      · by_cases h5 : u 0 s = 5
        · simp [h2, h5, z_ob]
        · subst h2; simp [h1, h5, z_ob]
      · simp [h0, h1, h2, z_ob]
theorem x_bridge {n : Nat} {u : Nat → Nat → Nat} {MX MY : Mem} (h : RS n u MX MY) (hn : n ≤ 12) {s : Nat} (hs : s < n) : FX3_isA (nI s) 3 MX = some (if brd (u 0 s) then 1 else 0) := by
  have := x_isA h hn hs (k := 3) (by decide)
  rw [show nI 3 = 3 from rfl] at this
  rw [this]
  congr 1
  by_cases h3 : u 0 s = 3 <;> by_cases h5 : u 0 s = 5 <;> simp [h3, h5, brd]
theorem y_spL {n : Nat} {u : Nat → Nat → Nat} {MX MY : Mem} (h : RS n u MX MY) (hn : n ≤ 12) (hy : MY.1 0 3 = nI n) {s : Nat} (hs : s < n) : ∀ (k i f : Nat), i + k = n → k < f →
    FX9_spendsOf_L6 f (nI s) (nI (2 ^ s ||| orB i (fun t => brd (u 0 s) && (brd (u 0 t) && u 4 t == u 4 s)) (fun t => 2 ^ t))) (nI i) MY = some (nI (spn u n s)) := by
  intro k
  induction k with
  | zero =>
    intro i f hi hf
    obtain ⟨f, rfl⟩ : ∃ g, f = g + 1 := ⟨f - 1, by omega⟩
    have : i = n := by omega
    subst this
    rw [FX9_spendsOf_L6, hy]
    simp [z_lt, spn, Int32.le_refl]
  | succ k ih =>
    intro i f hi hf
    obtain ⟨f, rfl⟩ : ∃ g, f = g + 1 := ⟨f - 1, by omega⟩
    obtain ⟨-, ⟨y0, y1, y2, y3, y4⟩, ⟨b0, b1, b2, b3, b4, b5, b6⟩⟩ := h i (by omega)
    obtain ⟨-, ⟨s0, s1, s2, s3, s4⟩, ⟨d0, d1, d2, d3, d4, d5, d6⟩⟩ := h s hs
    have hbit := z_shl1 (s := i) (by omega)
    have ihh := ih (i + 1) f (by omega) (by omega)
    rw [orB, ← Nat.or_assoc] at ihh
    rw [FX9_spendsOf_L6, hy, y_bridge h hn hs, y_bridge h hn (show i < n by omega)]
    have g1 : ¬ nI n ≤ nI i := nI_ge (by omega) (by omega)
    have g2 : ¬ nI n ≤ nI s := nI_ge (by omega) (by omega)
    simp (disch := omega) only [g1, g2, if_false, z_lt, z_ob, if_true, z_gi, z_ix, y4, s4, z_eq, nI_1, hbit]
    by_cases p1 : brd (u 0 s) = true
    · by_cases p2 : brd (u 0 i) = true
      · by_cases p3 : u 4 i = u 4 s
        · simp only [p1, p2, p3] at ihh ⊢
          simp [z_ob, show nI 1 = 1 from rfl, z_or] at ihh ⊢
          exact ihh
        · simp only [p1, p2] at ihh ⊢
          simp [z_ob, show nI 1 = 1 from rfl, p3, show (0 : Int32) = nI 0 from rfl, z_or] at ihh ⊢
          exact ihh
      · simp only [p1, p2] at ihh ⊢
        simp [z_ob, show nI 1 = 1 from rfl, show nI 0 = 0 from rfl] at ihh ⊢
        exact ihh
    · simp only [p1] at ihh ⊢
      simp [z_ob, show nI 0 = 0 from rfl] at ihh ⊢
      exact ihh
theorem y_spends {n : Nat} {u : Nat → Nat → Nat} {MX MY : Mem} (h : RS n u MX MY) (hn : n ≤ 12) (hy : MY.1 0 3 = nI n) {s : Nat} (hs : s < n) : FX9_spendsOf (nI s) MY = some (nI (spn u n s)) := by
  unfold FX9_spendsOf
  have := y_spL h hn hy hs n 0 FU (by omega) (by rw [z_FU]; omega)
  rw [orB, Nat.or_zero] at this
  rw [z_lt, z_shl1 (by omega), show (0 : Int32) = nI 0 from rfl, this, z_ob]
theorem x_spL {n : Nat} {u : Nat → Nat → Nat} {MX MY : Mem} (h : RS n u MX MY) (hn : n ≤ 12) {s : Nat} (hs : s < n) (p1 : brd (u 0 s) = true) : ∀ (k i f : Nat), i + k = n → k < f →
    FX3_spentBy_L18 f (nI s) (nI n) (nI (2 ^ s ||| orB i (fun t => brd (u 0 s) && (brd (u 0 t) && u 4 t == u 4 s)) (fun t => 2 ^ t))) (nI i) MX = some (nI (spn u n s)) := by
  intro k
  induction k with
  | zero =>
    intro i f hi hf
    obtain ⟨f, rfl⟩ : ∃ g, f = g + 1 := ⟨f - 1, by omega⟩
    have : i = n := by omega
    subst this
    rw [FX3_spentBy_L18]
    simp [spn, Int32.le_refl]
  | succ k ih =>
    intro i f hi hf
    obtain ⟨f, rfl⟩ : ∃ g, f = g + 1 := ⟨f - 1, by omega⟩
    obtain ⟨⟨y0, y1, y2, y3, y4⟩, -, ⟨b0, b1, b2, b3, b4, b5, b6⟩⟩ := h i (by omega)
    obtain ⟨⟨s0, s1, s2, s3, s4⟩, -, ⟨d0, d1, d2, d3, d4, d5, d6⟩⟩ := h s hs
    have hbit := z_shl1 (s := i) (by omega)
    have ihh := ih (i + 1) f (by omega) (by omega)
    rw [orB, ← Nat.or_assoc] at ihh
    rw [FX3_spentBy_L18, x_bridge h hn (show i < n by omega)]
    have g1 : ¬ nI n ≤ nI i := nI_ge (by omega) (by omega)
    simp (disch := omega) only [g1, if_false, z_lt, z_ob, if_true, z_gi, z_ix, y4, s4, z_eq, nI_1, hbit]
    by_cases p2 : brd (u 0 i) = true
    · by_cases p3 : u 4 i = u 4 s
      · simp only [p1, p2, p3] at ihh ⊢
        simp [z_ob, z_or] at ihh ⊢
        exact ihh
      · simp only [p1, p2] at ihh ⊢
        simp [z_ob, p3] at ihh ⊢
        exact ihh
    · simp only [p1, p2] at ihh ⊢
      simp [z_ob] at ihh ⊢
      exact ihh
theorem spn_no {u : Nat → Nat → Nat} {n s : Nat} (p1 : ¬ brd (u 0 s) = true) : spn u n s = 2 ^ s := by
  unfold spn
  have : orB n (fun t => brd (u 0 s) && (brd (u 0 t) && u 4 t == u 4 s)) (fun t => 2 ^ t) = 0 := by
    apply Nat.eq_of_testBit_eq
    intro i
    rw [Nat.zero_testBit, ← Bool.not_eq_true]
    intro h
    obtain ⟨k, -, h2, -⟩ := (orB_bit _ _ _ _).mp h
    simp [p1] at h2
  rw [this, Nat.or_zero]
theorem x_spends {n : Nat} {u : Nat → Nat → Nat} {MX MY : Mem} (h : RS n u MX MY) (hn : n ≤ 12) {s : Nat} (hs : s < n) : FX3_spentBy (nI s) (nI n) MX = some (nI (spn u n s)) := by
  unfold FX3_spentBy
  rw [z_lt, z_shl1 (by omega), x_bridge h hn hs, z_ob]
  by_cases p1 : brd (u 0 s) = true
  · have := x_spL h hn hs p1 n 0 FU (by omega) (by rw [z_FU]; omega)
    rw [orB, Nat.or_zero] at this
    rw [if_pos p1, if_neg (by decide), show (0 : Int32) = nI 0 from rfl, this, z_ob]
  · rw [if_neg p1, if_pos rfl, spn_no p1]
