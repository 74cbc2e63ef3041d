/-! the class's small functions on a town; a walk's state is corner + 16 * passed + 8192 * spent -/
def XTw (T : Twn) (M : Mem) : Prop := XT T.1 (T.2.1 1) (T.2.1 2) (T.2.1 3) T.2.2 M
def pk3 (c P S : Nat) : Nat := c + 16 * P + 8192 * S
theorem pk3_bit {c P : Nat} (hc : c < 16) (hP : P < 512) (S i : Nat) : (pk3 c P S).testBit i = if i < 4 then c.testBit i else if i < 13 then P.testBit (i - 4) else S.testBit (i - 13) := by
  have e : pk3 c P S = 2 ^ 4 * (2 ^ 9 * S + P) + c := by unfold pk3; omega
  rw [e, Nat.two_pow_add_eq_or_of_lt (show c < 2 ^ 4 from hc), Nat.two_pow_add_eq_or_of_lt (show P < 2 ^ 9 from hP), Nat.testBit_or, Nat.testBit_two_pow_mul, Nat.testBit_or, Nat.testBit_two_pow_mul]
  by_cases h1 : i < 4
  · rw [if_pos h1, decide_eq_false (by omega), Bool.false_and, Bool.false_or]
  · rw [if_neg h1, decide_eq_true (by omega), Bool.true_and, Nat.testBit_lt_two_pow (Nat.lt_of_lt_of_le (show c < 2 ^ 4 from hc) (Nat.pow_le_pow_right (by decide) (by omega))), Bool.or_false]
    by_cases h2 : i < 13
    · rw [if_pos h2, decide_eq_false (by omega), Bool.false_and, Bool.false_or]
    · rw [if_neg h2, decide_eq_true (by omega), Bool.true_and, Nat.testBit_lt_two_pow (Nat.lt_of_lt_of_le (show P < 2 ^ 9 from hP) (Nat.pow_le_pow_right (by decide) (by omega))), Bool.or_false]
      congr 1
theorem pk3_lt {c P S : Nat} (hc : c < 16) (hP : P < 512) (hS : S < 8192) : pk3 c P S < 67108864 := by unfold pk3; omega
theorem x_at {c P S : Nat} (hc : c < 16) (hP : P < 512) (hS : S < 8192) : FX7_at (nI (pk3 c P S)) = nI c := by
  have := pk3_lt hc hP hS
  unfold FX7_at
  rw [pk_andN (by omega) 4 (by decide)]
  congr 1
  unfold pk3
  omega
theorem x_passed {c P S : Nat} (hc : c < 16) (hP : P < 512) (hS : S < 8192) : FX7_passed (nI (pk3 c P S)) = nI P := by
  have := pk3_lt hc hP hS
  unfold FX7_passed
  rw [show (4 : Int32) = nI 4 from rfl, z_shr (by omega) (by decide), pk_andN (by omega) 9 (by decide)]
  congr 1
  unfold pk3
  omega
theorem x_spent {c P S : Nat} (hc : c < 16) (hP : P < 512) (hS : S < 8192) : FX7_spent (nI (pk3 c P S)) = nI S := by
  have := pk3_lt hc hP hS
  unfold FX7_spent
  rw [show (13 : Int32) = nI 13 from rfl, z_shr (by omega) (by decide)]
  congr 1
  unfold pk3
  omega
theorem pk3_ne {c P S : Nat} {i : Nat} (h : P.testBit i = true) : pk3 c P S ≠ 0 := by
  intro z
  have : P = 0 := by unfold pk3 at z; omega
  rw [this, Nat.zero_testBit] at h
  cases h
/-- the state of a walk -/
def stt (T : Twn) (m c : Nat) : Nat := pk3 c (pas T m) (spt T m)
theorem pas_0 (T : Twn) : pas T 0 = 2 ^ T.1 0 := by
  apply Nat.eq_of_testBit_eq
  intro i
  rw [Bool.eq_iff_iff, pas_bit, Nat.testBit_two_pow]
  constructor
  · rintro (h | ⟨s, -, h, -⟩)
    · simp [h]
    · rw [Nat.zero_testBit] at h; cases h
  · intro h
    left
    have : T.1 0 = i := by simpa using h
    exact this.symm
theorem spt_0 (T : Twn) : spt T 0 = T.1 2 := by
  apply Nat.eq_of_testBit_eq
  intro i
  rw [Bool.eq_iff_iff, spt_bit]
  constructor
  · rintro (h | ⟨s, -, h, -⟩)
    · exact h
    · rw [Nat.zero_testBit] at h; cases h
  · exact Or.inl
theorem pas_1 {T : Twn} (hT : Twf T) {m : Nat} (hm : m < 2 ^ T.1 1) : pas T m = 2 ^ T.1 0 ↔ m = 0 := by
  constructor
  · intro h
    apply Nat.eq_of_testBit_eq
    intro s
    rw [Nat.zero_testBit, ← Bool.not_eq_true]
    intro hb
    have hs : s < T.1 1 := by
      rcases Nat.lt_or_ge s (T.1 1) with h1 | h1
      · exact h1
      · rw [Nat.testBit_lt_two_pow (Nat.lt_of_lt_of_le hm (Nat.pow_le_pow_right (by decide) h1))] at hb
        cases hb
    have b1 := (pas_bit T m (T.2.1 1 s)).mpr (Or.inr ⟨s, hs, hb, Or.inl rfl⟩)
    have b2 := (pas_bit T m (T.2.1 2 s)).mpr (Or.inr ⟨s, hs, hb, Or.inr rfl⟩)
    rw [h, Nat.testBit_two_pow] at b1 b2
    have e1 : T.1 0 = T.2.1 1 s := by simpa using b1
    have e2 : T.1 0 = T.2.1 2 s := by simpa using b2
    exact (hT.2 s hs).1.2.2.1 (e1.symm.trans e2)
  · intro h
    rw [h, pas_0]
theorem or_pk {a b n : Nat} (h : b < 2 ^ n) : b ||| a * 2 ^ n = b + a * 2 ^ n := by
  have := Nat.two_pow_add_eq_or_of_lt h a
  rw [Nat.or_comm, Nat.mul_comm a, ← this, Nat.add_comm]
theorem x_start {T : Twn} (hT : Twf T) {M : Mem} (hX : XTw T M) : FX7_start M = nI (stt T 0 (T.1 0)) := by
  obtain ⟨h1, h2, h3, h4⟩ := hT.1
  unfold FX7_start
  rw [hX.1.1, hX.1.2.2.1, show (4 : Int32) = nI 4 from rfl, nI_add, z_shl1 (by omega), z_or, show (13 : Int32) = nI 13 from rfl, z_shl _ (by decide), z_or]
  congr 1
  have p : 2 ^ T.1 0 < 2 ^ 9 := Nat.pow_lt_pow_right (by decide) h1
  have e1 : T.1 0 ||| 2 ^ (T.1 0 + 4) = T.1 0 + 2 ^ T.1 0 * 2 ^ 4 := by
    rw [Nat.pow_add]
    exact or_pk (by omega)
  rw [e1, or_pk (by omega)]
  unfold stt pk3
  rw [pas_0, spt_0]
  omega
theorem x_after {T : Twn} (hT : Twf T) {M : Mem} {k m c s : Nat} (hw : wk T m c) (hs : stp T k m c s = true) (h32 : M.1 32 s = nI (T.2.1 1 s)) (h33 : M.1 33 s = nI (T.2.1 2 s)) (h34 : M.1 34 s = nI (T.2.1 3 s)) : FX7_after (nI (stt T m c)) (nI s) M = some (nI (stt T (m ||| 2 ^ s) (ot T s c))) := by
  have hN := hT.1.2.1
  obtain ⟨h1, h2, h3⟩ := stp_at hT hs
  obtain ⟨⟨b1, b2, b3, b4, b5⟩, -⟩ := hT.2 s h1
  have hps := pas_lt hT m
  have hsp := p13 hN (spt_lt hT m)
  have hps' := pas_lt hT (m ||| 2 ^ s)
  have ho := ot_lt hT h1 c
  have hc9 := hw.2.1
  have hlt := pk3_lt (show c < 16 by omega) hps hsp
  unfold FX7_after
  rw [z_gi (by omega) (by decide), z_gi (by omega) (by decide), z_lt, z_ix (by omega), h32, h33, h34, z_gi (by omega) (by decide)]
  have eat : nI (stt T m c) &&& 15 = nI c := x_at (show c < 16 by omega) hps hsp
  have eo : nI (T.2.1 1 s) + nI (T.2.1 2 s) - nI c = nI (ot T s c) := by
    rw [nI_add, z_sub (by rcases h2 with h | h <;> omega)]
    congr 1
    unfold ot
    by_cases h : T.2.1 1 s = c
    · rw [if_pos h]; omega
    · rw [if_neg h]
      rcases h2 with h4 | h4
      · exact absurd h4.symm h
      · omega
  rw [eat, eo, show (-16 : Int32) = nI 15 ^^^ (-1) from by decide, z_not, z_or, show (4 : Int32) = nI 4 from rfl, nI_add, z_shl1 (by omega), z_or, show (13 : Int32) = nI 13 from rfl, z_shl _ (by decide), z_or]
  congr 2
  apply Nat.eq_of_testBit_eq
  intro i
  have f15 : (15 : Nat).testBit i = decide (i < 4) := by
    rw [show (15 : Nat) = 2 ^ 4 - 1 from rfl, Nat.testBit_two_pow_sub_one]
  rw [Nat.testBit_or, Nat.testBit_or, Nat.testBit_or, ndf_bit, f15]
  unfold stt
  rw [pk3_bit (show c < 16 by omega) hps, pk3_bit (show ot T s c < 16 by omega) hps', Nat.testBit_two_pow, Nat.testBit_mul_two_pow]
  by_cases i4 : i < 4
  · rw [if_pos i4, if_pos i4, decide_eq_true i4, decide_eq_false (show ¬ ot T s c + 4 = i by omega), decide_eq_false (show ¬ 13 ≤ i by omega)]
    simp
  · have oz : (ot T s c).testBit i = false := Nat.testBit_lt_two_pow (Nat.lt_of_lt_of_le (show ot T s c < 2 ^ 4 by omega) (Nat.pow_le_pow_right (by decide) (by omega)))
    rw [if_neg i4, if_neg i4, decide_eq_false i4, oz]
    by_cases i13 : i < 13
    · rw [if_pos i13, if_pos i13, decide_eq_false (show ¬ 13 ≤ i by omega)]
      rw [Bool.eq_iff_iff, pas_or T h1]
      simp only [Bool.not_false, Bool.and_true, Bool.or_false, Bool.false_and, Bool.or_eq_true, decide_eq_true_eq]
      unfold ot
      have hcp := hw.2.2.1
      constructor
      · rintro (h | h)
        · exact Or.inl h
        · by_cases h4 : T.2.1 1 s = c
          · rw [if_pos h4] at h; right; right; omega
          · rw [if_neg h4] at h; right; left; omega
      · rintro (h | h | h)
        · exact Or.inl h
        · by_cases h4 : T.2.1 1 s = c
          · left; rw [h, h4]; exact hcp
          · rw [if_neg h4]; right; omega
        · by_cases h4 : T.2.1 1 s = c
          · rw [if_pos h4]; right; omega
          · rcases h2 with h5 | h5
            · exact absurd h5.symm h4
            · left; rw [h, ← h5]; exact hcp
    · rw [if_neg i13, if_neg i13, decide_eq_true (show 13 ≤ i by omega), decide_eq_false (show ¬ ot T s c + 4 = i by omega), spt_or T h1, Nat.testBit_or]
      simp
