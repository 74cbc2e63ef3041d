/-! WALKS in a town. T.1: 0 home, 1 streets, 2 been, 3 once; T.2.1: 1 and 2 ends, 3 what it spends; T.2.2 load corner street: 0 or the minutes -/
abbrev Twn : Type := (Nat → Nat) × (Nat → Nat → Nat) × (Nat → Nat → Nat → Nat)
def pas (T : Twn) (m : Nat) : Nat := 2 ^ T.1 0 ||| orB (T.1 1) (fun s => m.testBit s) (fun s => 2 ^ T.2.1 1 s ||| 2 ^ T.2.1 2 s)
def spt (T : Twn) (m : Nat) : Nat := T.1 2 ||| orB (T.1 1) (fun s => m.testBit s) (T.2.1 3)
def ot (T : Twn) (s c : Nat) : Nat := if T.2.1 1 s = c then T.2.1 2 s else T.2.1 1 s
/-- loaded or not, when the corners k load -/
def ldw (T : Twn) (k m : Nat) : Nat := if pas T m &&& k = 0 then 0 else 1
/-- from corner c, with the streets m walked, street s may be next -/
def stp (T : Twn) (k m c s : Nat) : Bool := decide (s < T.1 1) && ((T.2.2 (ldw T k m) c s != 0) && (!(spt T m).testBit s && ((T.1 3 == 0 || (ot T s c == T.1 0 || !(pas T m).testBit (ot T s c))) && !(T.1 3 == 1 && (m != 0 && c == T.1 0)))))
/-- a ring that passes the corners d -/
def rng (T : Twn) (d m c : Nat) : Bool := m != 0 && (c == T.1 0 && pas T m &&& d == d)
def Twf (T : Twn) : Prop := (T.1 0 < 9 ∧ T.1 1 ≤ 13 ∧ T.1 2 < 2 ^ T.1 1 ∧ T.1 3 < 2) ∧ ∀ s, s < T.1 1 → (T.2.1 1 s < 9 ∧ T.2.1 2 s < 9 ∧ T.2.1 1 s ≠ T.2.1 2 s ∧ T.2.1 3 s < 2 ^ T.1 1 ∧ (T.2.1 3 s).testBit s = true) ∧ (∀ l c, l < 2 → T.2.2 l c s ≠ 0 → (c = T.2.1 1 s ∨ c = T.2.1 2 s)) ∧ (∀ l c, l < 2 → T.2.2 l c s ≤ 99) ∧ (∀ c, T.2.2 1 c s ≠ 0 → T.2.2 0 c s ≠ 0)
theorem stp_iff {T : Twn} {k m c s : Nat} : stp T k m c s = true ↔ s < T.1 1 ∧ T.2.2 (ldw T k m) c s ≠ 0 ∧ (spt T m).testBit s = false ∧ (T.1 3 = 0 ∨ ot T s c = T.1 0 ∨ (pas T m).testBit (ot T s c) = false) ∧ ¬ (T.1 3 = 1 ∧ m ≠ 0 ∧ c = T.1 0) := by
  unfold stp
  simp only [Bool.and_eq_true, Bool.or_eq_true, decide_eq_true_eq, bne_iff_ne, ne_eq, beq_iff_eq, Bool.not_eq_true', Bool.and_eq_false_imp]
  constructor
  · rintro ⟨h1, h2, h3, h4, h5⟩
    refine ⟨h1, h2, h3, h4, ?_⟩
    rintro ⟨a, b, c⟩
    have := h5 a b
    simp [c] at this
  · rintro ⟨h1, h2, h3, h4, h5⟩
    refine ⟨h1, h2, h3, h4, fun a b => ?_⟩
    rw [← Bool.not_eq_true]
    intro c
    exact h5 ⟨a, b, by simpa using c⟩
theorem rng_iff {T : Twn} {d m c : Nat} : rng T d m c = true ↔ m ≠ 0 ∧ c = T.1 0 ∧ pas T m &&& d = d := by
  unfold rng
  simp
theorem ldw_lt (T : Twn) (k m : Nat) : ldw T k m < 2 := by unfold ldw; split <;> omega
theorem pas_bit (T : Twn) (m i : Nat) : (pas T m).testBit i = true ↔ i = T.1 0 ∨ ∃ s, s < T.1 1 ∧ m.testBit s = true ∧ (i = T.2.1 1 s ∨ i = T.2.1 2 s) := by
  unfold pas
  rw [Nat.testBit_or, Bool.or_eq_true, orB_bit, Nat.testBit_two_pow]
  constructor
  · rintro (h | ⟨s, h1, h2, h3⟩)
    · left
      have : T.1 0 = i := by simpa using h
      exact this.symm
    · right
      rw [Nat.testBit_or, Bool.or_eq_true, Nat.testBit_two_pow, Nat.testBit_two_pow] at h3
      refine ⟨s, h1, h2, ?_⟩
      rcases h3 with h | h
      · left; have : T.2.1 1 s = i := by simpa using h
        exact this.symm
      · right; have : T.2.1 2 s = i := by simpa using h
        exact this.symm
  · rintro (h | ⟨s, h1, h2, h3⟩)
    · left; simp [h]
    · right
      refine ⟨s, h1, h2, ?_⟩
      rw [Nat.testBit_or, Bool.or_eq_true, Nat.testBit_two_pow, Nat.testBit_two_pow]
      rcases h3 with h | h
      · left; simp [h]
      · right; simp [h]
theorem pas_lt {T : Twn} (hT : Twf T) (m : Nat) : pas T m < 512 := by
  obtain ⟨⟨h1, h2, h3, h4⟩, h5⟩ := hT
  unfold pas
  exact Nat.or_lt_two_pow (n := 9) (Nat.pow_lt_pow_right (by decide) h1) (orB_lt fun s hs _ => Nat.or_lt_two_pow (Nat.pow_lt_pow_right (by decide) (h5 s hs).1.1) (Nat.pow_lt_pow_right (by decide) (h5 s hs).1.2.1))
theorem spt_bit (T : Twn) (m i : Nat) : (spt T m).testBit i = true ↔ (T.1 2).testBit i = true ∨ ∃ s, s < T.1 1 ∧ m.testBit s = true ∧ (T.2.1 3 s).testBit i = true := by
  unfold spt
  rw [Nat.testBit_or, Bool.or_eq_true, orB_bit]
theorem spt_lt {T : Twn} (hT : Twf T) (m : Nat) : spt T m < 2 ^ T.1 1 := by
  obtain ⟨⟨h1, h2, h3, h4⟩, h5⟩ := hT
  exact Nat.or_lt_two_pow h3 (orB_lt fun s hs _ => (h5 s hs).1.2.2.2.1)
theorem spt_self {T : Twn} (hT : Twf T) {m s : Nat} (hs : s < T.1 1) (h : m.testBit s = true) : (spt T m).testBit s = true := by
  rw [spt_bit]
  exact Or.inr ⟨s, hs, h, ((hT.2 s hs).1.2.2.2.2)⟩
theorem or_bit1 (m s i : Nat) : (m ||| 2 ^ s).testBit i = true ↔ m.testBit i = true ∨ i = s := by
  rw [Nat.testBit_or, Bool.or_eq_true, Nat.testBit_two_pow]
  constructor
  · rintro (h | h)
    · exact Or.inl h
    · right; have : s = i := by simpa using h
      exact this.symm
  · rintro (h | h)
    · exact Or.inl h
    · right; simp [h]
theorem pas_or (T : Twn) {m s : Nat} (hs : s < T.1 1) (i : Nat) : (pas T (m ||| 2 ^ s)).testBit i = true ↔ (pas T m).testBit i = true ∨ i = T.2.1 1 s ∨ i = T.2.1 2 s := by
  rw [pas_bit, pas_bit]
  constructor
  · rintro (h | ⟨t, h1, h2, h3⟩)
    · exact Or.inl (Or.inl h)
    · rcases (or_bit1 m s t).mp h2 with h | h
      · exact Or.inl (Or.inr ⟨t, h1, h, h3⟩)
      · subst h; exact Or.inr h3
  · rintro ((h | ⟨t, h1, h2, h3⟩) | h)
    · exact Or.inl h
    · exact Or.inr ⟨t, h1, (or_bit1 m s t).mpr (Or.inl h2), h3⟩
    · exact Or.inr ⟨s, hs, (or_bit1 m s s).mpr (Or.inr rfl), h⟩
theorem spt_or (T : Twn) {m s : Nat} (hs : s < T.1 1) : spt T (m ||| 2 ^ s) = spt T m ||| T.2.1 3 s := by
  apply Nat.eq_of_testBit_eq
  intro i
  rw [Bool.eq_iff_iff, Nat.testBit_or, Bool.or_eq_true, spt_bit, spt_bit]
  constructor
  · rintro (h | ⟨t, h1, h2, h3⟩)
    · exact Or.inl (Or.inl h)
    · rcases (or_bit1 m s t).mp h2 with h | h
      · exact Or.inl (Or.inr ⟨t, h1, h, h3⟩)
      · subst h; exact Or.inr h3
  · rintro ((h | ⟨t, h1, h2, h3⟩) | h)
    · exact Or.inl h
    · exact Or.inr ⟨t, h1, (or_bit1 m s t).mpr (Or.inl h2), h3⟩
    · exact Or.inr ⟨s, hs, (or_bit1 m s s).mpr (Or.inr rfl), h⟩
theorem ot_lt {T : Twn} (hT : Twf T) {s : Nat} (hs : s < T.1 1) (c : Nat) : ot T s c < 9 := by
  unfold ot
  split
  · exact (hT.2 s hs).1.2.1
  · exact (hT.2 s hs).1.1
/-- a step's street lies at the corner and is new -/
theorem stp_at {T : Twn} (hT : Twf T) {k m c s : Nat} (h : stp T k m c s = true) : s < T.1 1 ∧ (c = T.2.1 1 s ∨ c = T.2.1 2 s) ∧ m.testBit s = false := by
  obtain ⟨h1, h2, h3, -, -⟩ := stp_iff.mp h
  refine ⟨h1, (hT.2 s h1).2.1 _ _ (ldw_lt T k m) h2, ?_⟩
  rw [← Bool.not_eq_true]
  intro hb
  rw [spt_self hT h1 hb] at h3
  cases h3
theorem or_add {m s : Nat} (h : m.testBit s = false) : m ||| 2 ^ s = m + 2 ^ s := by
  have hr : m % 2 ^ (s + 1) < 2 ^ s := by
    refine Nat.lt_pow_two_of_testBit _ fun i hi => ?_
    rw [Nat.testBit_mod_two_pow]
    by_cases hs : i = s
    · subst hs; rw [h, Bool.and_false]
    · rw [decide_eq_false (by omega), Bool.false_and]
  have e := Nat.div_add_mod m (2 ^ (s + 1))
  have h1 := Nat.two_pow_add_eq_or_of_lt (i := s) hr 1
  rw [Nat.mul_one] at h1
  have h2 := Nat.two_pow_add_eq_or_of_lt (i := s + 1) (Nat.mod_lt m (Nat.two_pow_pos (s + 1))) (m / 2 ^ (s + 1))
  have h3 := Nat.two_pow_add_eq_or_of_lt (i := s + 1) (b := 2 ^ s + m % 2 ^ (s + 1)) (by have hp : 2 ^ (s + 1) = 2 ^ s * 2 := Nat.pow_succ 2 s; omega) (m / 2 ^ (s + 1))
  have e2 : m ||| 2 ^ s = 2 ^ (s + 1) * (m / 2 ^ (s + 1)) ||| (2 ^ s + m % 2 ^ (s + 1)) := by
    conv => lhs; rw [← e, h2]
    rw [h1, Nat.or_assoc, Nat.or_comm (m % 2 ^ (s + 1))]
  rw [e2, ← h3]
  omega
-- a walk's streets, end, minutes, digits
def mE : Nat → List Nat → Nat
  | m, [] => m
  | m, s :: r => mE (m ||| 2 ^ s) r
def cE (T : Twn) : Nat → List Nat → Nat
  | c, [] => c
  | c, s :: r => cE T (ot T s c) r
def tmE (T : Twn) (k : Nat) : Nat → Nat → List Nat → Nat
  | _, _, [] => 0
  | m, c, s :: r => T.2.2 (ldw T k m) c s + tmE T k (m ||| 2 ^ s) (ot T s c) r
def dg : Nat → List Nat → Nat
  | _, [] => 0
  | j, s :: r => s * 16 ^ (12 - j) + dg (j + 1) r
/-- a walk on which no ring that passes the corners d lies before the end -/
def Pre (T : Twn) (k d : Nat) : Nat → Nat → List Nat → Prop
  | _, _, [] => True
  | m, c, s :: r => rng T d m c = false ∧ stp T k m c s = true ∧ Pre T k d (m ||| 2 ^ s) (ot T s c) r
theorem mE_app : ∀ (w : List Nat) (m s : Nat), mE m (w ++ [s]) = mE m w ||| 2 ^ s
  | [], _, _ => rfl
  | _ :: r, m, s => mE_app r _ s
theorem cE_app (T : Twn) : ∀ (w : List Nat) (c s : Nat), cE T c (w ++ [s]) = ot T s (cE T c w)
  | [], _, _ => rfl
  | _ :: r, _, s => cE_app T r _ s
theorem tmE_app (T : Twn) (k : Nat) : ∀ (w : List Nat) (m c s : Nat), tmE T k m c (w ++ [s]) = tmE T k m c w + T.2.2 (ldw T k (mE m w)) (cE T c w) s
  | [], m, c, s => by show _ + 0 = 0 + _; rw [Nat.add_comm]; rfl
  | t :: r, m, c, s => by
    show _ + tmE T k _ _ (r ++ [s]) = _ + tmE T k _ _ r + _
    rw [tmE_app T k r, Nat.add_assoc]
    rfl
theorem dg_app : ∀ (w : List Nat) (j s : Nat), dg j (w ++ [s]) = dg j w + s * 16 ^ (12 - (j + w.length))
  | [], j, s => by show _ + 0 = 0 + _; rw [Nat.add_comm]; rfl
  | t :: r, j, s => by
    show _ + dg (j + 1) (r ++ [s]) = _ + dg (j + 1) r + _
    rw [dg_app r, List.length_cons, show j + 1 + r.length = j + (r.length + 1) by omega, Nat.add_assoc]
theorem Pre_app (T : Twn) (k d : Nat) : ∀ (w : List Nat) (m c s : Nat), Pre T k d m c (w ++ [s]) ↔ Pre T k d m c w ∧ rng T d (mE m w) (cE T c w) = false ∧ stp T k (mE m w) (cE T c w) s = true
  | [], m, c, s => by
    show (_ ∧ _ ∧ True) ↔ True ∧ _ ∧ _
    simp only [and_true, true_and]
    exact Iff.rfl
  | t :: r, m, c, s => by
    show (_ ∧ _ ∧ Pre T k d _ _ (r ++ [s])) ↔ (_ ∧ _ ∧ Pre T k d _ _ r) ∧ _ ∧ _
    rw [Pre_app T k d r]
    simp only [and_assoc]
    exact Iff.rfl
