/-! the class's lane -/
theorem x_nextT {T : Twn} (hT : Twf T) {n : Nat} (hn : n ≤ 12) {M : Mem} (a0 : M.1 31 0 = nI (T.1 0)) (a1 : M.1 31 1 = nI n) (a3 : M.1 31 3 = nI (T.1 3)) {k m c O : Nat} (hw : wk T m c) (hO : O < 8192) (h35 : M.1 35 (16 * ldw T k m + c) = nI O) (hends : ∀ s, s ≤ n → O.testBit s = true → M.1 32 s = nI (T.2.1 1 s) ∧ M.1 33 s = nI (T.2.1 2 s) ∧ T.2.1 1 s < 9 ∧ T.2.1 2 s < 9) (hON : ∀ s, n < s → O.testBit s = false)
    (hOb : ∀ s, (O.testBit s = true ∧ (spt T m).testBit s = false) ↔ s < T.1 1 ∧ T.2.2 (ldw T k m) c s ≠ 0 ∧ (spt T m).testBit s = false) : ∃ R, R < 8192 ∧ FX7_next (nI (stt T m c)) (nI (ldw T k m)) M = some (nI R) ∧ ∀ s, R.testBit s = true ↔ stp T k m c s = true := by
  obtain ⟨h1, h2, h3, h4⟩ := hT.1
  have hl := ldw_lt T k m
  obtain ⟨R, g1, g2, g3⟩ := x_nextG (S := spt T m) (e1 := T.2.1 1) (e2 := T.2.1 2) hn h1 h4 hw.2.1 (pas_lt hT m) (p13 h2 (spt_lt hT m)) hO hl a0 a1 a3 h35 hends hON
  refine ⟨R, g1, g2, fun s => ?_⟩
  rw [g3 s, hOb s, stp_iff]
  have hp1 := pas_1 hT hw.1
  have eot : (if T.2.1 1 s = c then T.2.1 2 s else T.2.1 1 s) = ot T s c := rfl
  rw [eot]
  constructor
  · rintro ⟨⟨q1, q2, q3⟩, q4⟩
    refine ⟨q1, q2, q3, ?_, ?_⟩
    · rcases q4 with h | h
      · exact Or.inl h
      · exact Or.inr h.2
    · rintro ⟨z1, z2, z3⟩
      rcases q4 with h | h
      · omega
      · exact h.1 ⟨z3, fun z => z2 (hp1.mp z)⟩
  · rintro ⟨q1, q2, q3, q4, q5⟩
    refine ⟨⟨q1, q2, q3⟩, ?_⟩
    by_cases o0 : T.1 3 = 0
    · exact Or.inl o0
    · right
      refine ⟨fun z => q5 ⟨by omega, fun z0 => z.2 (hp1.mpr z0), z.1⟩, ?_⟩
      rcases q4 with h | h
      · exact absurd h o0
      · exact h
/-- the streets that are open from a corner -/
def opT (T : Twn) (l c : Nat) : Nat := orB (T.1 1) (fun s => T.2.2 l c s != 0) (fun s => 2 ^ s)
theorem opT_bit (T : Twn) (l c s : Nat) : (opT T l c).testBit s = true ↔ s < T.1 1 ∧ T.2.2 l c s ≠ 0 := by
  unfold opT
  rw [orB_bit]
  constructor
  · rintro ⟨t, g1, g2, g3⟩
    rw [Nat.testBit_two_pow] at g3
    have : t = s := by simpa using g3
    subst this
    exact ⟨g1, by simpa using g2⟩
  · rintro ⟨g1, g2⟩
    exact ⟨s, g1, by simpa using g2, Nat.testBit_two_pow_self⟩
theorem opT_lt (T : Twn) (l c : Nat) : opT T l c < 2 ^ T.1 1 := orB_lt fun s hs _ => Nat.pow_lt_pow_right (by decide) hs
theorem and15 {c : Nat} (h : c < 9) : nI c &&& 15 = nI c := by
  rw [pk_andN (by omega) 4 (by decide), Nat.mod_eq_of_lt (by omega)]
/-- the lane is open -/
def LO (T : Twn) (a b : Nat) (M : Mem) : Prop := (M.1 31 0 = nI (T.1 0) ∧ M.1 31 1 = nI (T.1 1) ∧ M.1 31 2 = nI (T.1 2) ∧ M.1 31 3 = nI (T.1 3)) ∧ (∀ s, s < T.1 1 → M.1 32 s = nI (T.2.1 1 s) ∧ M.1 33 s = nI (T.2.1 2 s) ∧ M.1 34 s = nI (T.2.1 3 s)) ∧ (M.1 32 (T.1 1) = nI a ∧ M.1 33 (T.1 1) = nI b ∧ M.1 34 (T.1 1) = nI (2 ^ T.1 1)) ∧ ∀ c, c < 9 → M.1 35 c = nI (if c = a ∨ c = b then opT T 0 c ||| 2 ^ T.1 1 else opT T 0 c)
theorem x_openLane {T : Twn} (hN : T.1 1 ≤ 12) {M : Mem} (hX : XTw T M) {a b : Nat} (ha : a < 9) (hb : b < 9) (hab : a ≠ b) : ∃ M', FX7_openLane (nI a) (nI b) M = some M' ∧ LO T a b M' ∧ (∀ k, k ≠ 32 → k ≠ 33 → k ≠ 34 → k ≠ 35 → M'.1 k = M.1 k) ∧ (∀ j, j ≠ a → j ≠ b → M'.1 35 j = M.1 35 j) ∧ M'.2 = M.2 := by
  obtain ⟨⟨a0, a1, a2, a3⟩, b1, b2, b3⟩ := hX
  unfold FX7_openLane
  have e1 : ∀ M1 : Mem, M1.1 31 = M.1 31 → M1.1 31 1 = nI (T.1 1) := fun M1 h => by rw [h]; exact a1
  have gn : ∀ {α : Type} (z : Option α), gi (nI (T.1 1)) 13 z = z := fun z => z_gi (by omega) (by decide) z
  have inn : Int32.toNatClampNeg (nI (T.1 1)) = T.1 1 := z_ix (by omega)
  have ga : ∀ {α : Type} (z : Option α), gi (nI a) 32 z = z := fun z => z_gi (by omega) (by decide) z
  have gb : ∀ {α : Type} (z : Option α), gi (nI b) 32 z = z := fun z => z_gi (by omega) (by decide) z
  have ia : Int32.toNatClampNeg (nI a) = a := z_ix (by omega)
  have ib : Int32.toNatClampNeg (nI b) = b := z_ix (by omega)
  have w31 : ∀ (M1 : Mem) (k j : Nat) (x : Int32), k ≠ 31 → (wr M1 k j x).1 31 = M1.1 31 := fun M1 k j x h => wr_cell _ _ (Ne.symm h)
  simp only [z_lt, and15 ha, and15 hb, a1, gn, inn, ga, gb, ia, ib, w31 _ 32 _ _ (by decide), w31 _ 33 _ _ (by decide), w31 _ 34 _ _ (by decide), w31 _ 35 _ _ (by decide)]
  rw [z_shl1 (by omega)]
  have r35 : ∀ (M1 : Mem) (k j : Nat) (x : Int32), k ≠ 35 → (wr M1 k j x).1 35 = M1.1 35 := fun M1 k j x h => wr_cell _ _ (Ne.symm h)
  have ea : M.1 35 a = nI (opT T 0 a) := by have := b2 0 a (by decide) ha; rw [show 16 * 0 + a = a by omega] at this; exact this
  have eb : M.1 35 b = nI (opT T 0 b) := by have := b2 0 b (by decide) hb; rw [show 16 * 0 + b = b by omega] at this; exact this
  refine ⟨_, rfl, ⟨⟨?_, ?_, ?_, ?_⟩, fun s hs => ?_, ⟨?_, ?_, ?_⟩, fun c hc => ?_⟩, fun k h1 h2 h3 h4 => ?_, fun j h1 h2 => ?_, rfl⟩
  · simp only [w31 _ 32 _ _ (by decide), w31 _ 33 _ _ (by decide), w31 _ 34 _ _ (by decide), w31 _ 35 _ _ (by decide)]; exact a0
  · simp only [w31 _ 32 _ _ (by decide), w31 _ 33 _ _ (by decide), w31 _ 34 _ _ (by decide), w31 _ 35 _ _ (by decide)]; exact a1
  · simp only [w31 _ 32 _ _ (by decide), w31 _ 33 _ _ (by decide), w31 _ 34 _ _ (by decide), w31 _ 35 _ _ (by decide)]; exact a2
  · simp only [w31 _ 32 _ _ (by decide), w31 _ 33 _ _ (by decide), w31 _ 34 _ _ (by decide), w31 _ 35 _ _ (by decide)]; exact a3
  · obtain ⟨x1, x2, x3⟩ := b1 s hs
    simp only [wr_at]
    simp [show s ≠ T.1 1 by omega, x1, x2, x3]
  · simp only [wr_at]; simp
  · simp only [wr_at]; simp
  · simp only [wr_at]; simp
  · have ec : M.1 35 c = nI (opT T 0 c) := by have := b2 0 c (by decide) hc; rw [show 16 * 0 + c = c by omega] at this; exact this
    simp only [wr_at]
    by_cases h1 : c = b
    · subst h1
      simp [Ne.symm hab, eb, z_or]
    · by_cases h2 : c = a
      · subst h2
        simp [h1, ea, z_or]
      · simp [h1, h2, ec]
  · simp only [wr_at]
    funext j
    rw [wr_at, if_neg (by omega), wr_at, if_neg (by omega), wr_at, if_neg (by omega), wr_at, if_neg (by omega), wr_at, if_neg (by omega)]
  · simp only [wr_at]
    simp [h1, h2]
theorem ndf_or1 {O n : Nat} (h : O < 2 ^ n) : ndf (O ||| 2 ^ n) (2 ^ n) = O := by
  apply Nat.eq_of_testBit_eq
  intro i
  rw [ndf_bit, Nat.testBit_or, Nat.testBit_two_pow]
  by_cases hi : n = i
  · subst hi; rw [hi_bit h]; simp
  · simp [hi]
theorem x_closeLane {T : Twn} (hN : T.1 1 ≤ 12) {M0 M : Mem} (hX : XTw T M0) {a b : Nat} (ha : a < 9) (hb : b < 9) (hab : a ≠ b) (hL : LO T a b M) (h36 : M.1 36 = M0.1 36) (h35 : ∀ j, j ≠ a → j ≠ b → M.1 35 j = M0.1 35 j) : ∃ M', FX7_closeLane (nI a) (nI b) M = some M' ∧ XTw T M' ∧ (M'.1 32 (T.1 1) = nI a ∧ M'.1 33 (T.1 1) = nI b ∧ M'.1 34 (T.1 1) = nI (2 ^ T.1 1)) ∧ (∀ k, k ≠ 35 → M'.1 k = M.1 k) ∧ M'.2 = M.2 := by
  obtain ⟨⟨a0, a1, a2, a3⟩, b1, ⟨c1, c2, c3⟩, b2⟩ := hL
  obtain ⟨-, -, d2, d3⟩ := hX
  unfold FX7_closeLane
  have ga : ∀ {α : Type} (z : Option α), gi (nI a) 32 z = z := fun z => z_gi (by omega) (by decide) z
  have gb : ∀ {α : Type} (z : Option α), gi (nI b) 32 z = z := fun z => z_gi (by omega) (by decide) z
  have ia : Int32.toNatClampNeg (nI a) = a := z_ix (by omega)
  have ib : Int32.toNatClampNeg (nI b) = b := z_ix (by omega)
  have w31 : ∀ (M1 : Mem) (j : Nat) (x : Int32), (wr M1 35 j x).1 31 = M1.1 31 := fun M1 j x => wr_cell _ _ (by decide)
  simp only [z_lt, and15 ha, and15 hb, ga, gb, ia, ib, w31, a1]
  rw [z_shl1 (by omega)]
  have ea : M.1 35 a = nI (opT T 0 a ||| 2 ^ T.1 1) := by rw [b2 a ha, if_pos (Or.inl rfl)]
  have eb : M.1 35 b = nI (opT T 0 b ||| 2 ^ T.1 1) := by rw [b2 b hb, if_pos (Or.inr rfl)]
  refine ⟨_, rfl, ⟨⟨?_, ?_, ?_, ?_⟩, fun s hs => ?_, fun l c hl hc => ?_, fun s l c hs hl hc ht => ?_⟩, ⟨?_, ?_, ?_⟩, fun k hk => ?_, rfl⟩
  · rw [w31, w31]; exact a0
  · rw [w31, w31]; exact a1
  · rw [w31, w31]; exact a2
  · rw [w31, w31]; exact a3
  · rw [wr_cell _ _ (by decide), wr_cell _ _ (by decide), wr_cell _ _ (by decide), wr_cell _ _ (by decide), wr_cell _ _ (by decide), wr_cell _ _ (by decide)]
    exact b1 s hs
  · simp only [wr_at, true_and]
    rw [if_neg (Ne.symm hab), ea, eb, z_not, z_not, ndf_or1 (opT_lt T 0 a), ndf_or1 (opT_lt T 0 b)]
    show _ = nI (opT T l c)
    rcases (show l = 0 ∨ l = 1 by omega) with rfl | rfl
    · rw [show 16 * 0 + c = c by omega]
      by_cases h1 : c = b
      · rw [if_pos h1, h1]
      · rw [if_neg h1]
        by_cases h2 : c = a
        · rw [if_pos h2, h2]
        · rw [if_neg h2, b2 c hc, if_neg (fun z => z.elim h2 h1)]
    · rw [if_neg (by omega), if_neg (by omega), h35 _ (by omega) (by omega)]
      exact d2 1 c hl hc
  · rw [wr_cell _ _ (by decide), wr_cell _ _ (by decide), h36]
    exact d3 s l c hs hl hc ht
  · rw [wr_cell _ _ (by decide), wr_cell _ _ (by decide)]; exact c1
  · rw [wr_cell _ _ (by decide), wr_cell _ _ (by decide)]; exact c2
  · rw [wr_cell _ _ (by decide), wr_cell _ _ (by decide)]; exact c3
  · rw [wr_cell _ _ hk, wr_cell _ _ hk]
