/-! the class: bits, next, isRing -/
theorem x_nxL {n hd c P B : Nat} {e1 e2 : Nat → Nat} {M : Mem} (hn : n ≤ 12) (hd9 : hd < 9) (hc : c < 9) (hP : P < 512) (h0 : M.1 31 0 = nI hd) (h1 : M.1 31 1 = nI n) (hends : ∀ s, s ≤ n → B.testBit s = true → M.1 32 s = nI (e1 s) ∧ M.1 33 s = nI (e2 s) ∧ e1 s < 9 ∧ e2 s < 9) : ∀ (k i f R : Nat), i + k = n + 1 → k < f → R < 8192 → (∀ s, R.testBit s = true ↔ B.testBit s = true ∧ (s < i → ((if e1 s = c then e2 s else e1 s) = hd ∨ P.testBit (if e1 s = c then e2 s else e1 s) = false))) → (∀ s, n < s → B.testBit s = false) →
    ∃ R', R' < 8192 ∧ FX7_next_L60 f (nI c) (nI P) (nI R) (nI i) M = some (nI R') ∧ ∀ s, R'.testBit s = true ↔ B.testBit s = true ∧ ((if e1 s = c then e2 s else e1 s) = hd ∨ P.testBit (if e1 s = c then e2 s else e1 s) = false) := by
  intro k
  induction k with
  | zero =>
    intro i f R hi hf hR hr hB
    obtain ⟨f, rfl⟩ : ∃ g, f = g + 1 := ⟨f - 1, by omega⟩
    rw [FX7_next_L60, h1, if_pos (nI_lt (by omega) (by omega))]
    refine ⟨R, hR, rfl, fun s => (hr s).trans ?_⟩
    constructor
    · rintro ⟨a, b⟩
      refine ⟨a, b ?_⟩
      rcases Nat.lt_or_ge n s with h | h
      · rw [hB s h] at a; cases a
      · omega
    · rintro ⟨a, b⟩
      exact ⟨a, fun _ => b⟩
  | succ k ih =>
    intro i f R hi hf hR hr hB
    obtain ⟨f, rfl⟩ : ∃ g, f = g + 1 := ⟨f - 1, by omega⟩
    have hnd : ndf R (2 ^ i) < 8192 := Nat.lt_of_le_of_lt (Nat.le_of_testBit fun j hj => by rw [ndf_bit] at hj; cases e : R.testBit j <;> simp [e] at hj ⊢) hR
    have ndb : ∀ s, (ndf R (2 ^ i)).testBit s = true ↔ R.testBit s = true ∧ s ≠ i := by
      intro s
      rw [ndf_bit, Nat.testBit_two_pow, Bool.and_eq_true]
      simp only [Bool.not_eq_true', decide_eq_false_iff_not]
      exact ⟨fun h => ⟨h.1, fun z => h.2 z.symm⟩, fun h => ⟨h.1, fun z => h.2 z.symm⟩⟩
    rw [FX7_next_L60, h1, if_neg (nI_nlt (by omega) (by omega)), h0]
    have eac : FX7_across (nI i) (nI c) M = some (if nI c = M.1 32 i then M.1 33 i else M.1 32 i) := by
      unfold FX7_across
      rw [z_gi (by omega) (by decide), z_gi (by omega) (by decide), z_gi (by omega) (by decide), z_ix (by omega)]
      by_cases h : nI c = M.1 32 i
      · rw [if_pos h, if_pos h]
      · rw [if_neg h, if_neg h]
    rw [eac, z_ob, z_lt]
    by_cases hb : B.testBit i = true
    · obtain ⟨g1, g2, g3, g4⟩ := hends i (by omega) hb
      have eo : (if nI c = M.1 32 i then M.1 33 i else M.1 32 i) = nI (if e1 i = c then e2 i else e1 i) := by
        rw [g1, g2, if_congr_prop (z_eq (show c < 2147483648 by omega) (show e1 i < 2147483648 by omega))]
        by_cases h : c = e1 i
        · rw [if_pos h, if_pos h.symm]
        · rw [if_neg h, if_neg (fun z => h z.symm)]
      have ho : (if e1 i = c then e2 i else e1 i) < 9 := by split <;> assumption
      rw [eo]
      generalize hoo : (if e1 i = c then e2 i else e1 i) = o at ho
      rw [if_congr_prop (z_eq (show o < 2147483648 by omega) (show hd < 2147483648 by omega)), if_congr_prop (z_b0 (show P < 2147483648 by omega) (show o < 32 by omega))]
      by_cases hcond : o = hd ∨ P.testBit o = false
      · have : (if o = hd then false else if P.testBit o = false then false else true) = false := by
          rcases hcond with h | h
          · rw [if_pos h]
          · rw [if_pos h]; split <;> rfl
        rw [this, if_neg (by decide), z_lt, nI_1]
        refine ih (i + 1) f R (by omega) (by omega) hR (fun s => (hr s).trans ?_) hB
        constructor
        · rintro ⟨a, b⟩
          refine ⟨a, fun h => ?_⟩
          rcases (show s < i ∨ s = i by omega) with h2 | h2
          · exact b h2
          · rw [h2, hoo]; exact hcond
        · rintro ⟨a, b⟩
          exact ⟨a, fun h => b (by omega)⟩
      · have : (if o = hd then false else if P.testBit o = false then false else true) = true := by
          rw [if_neg (fun h => hcond (Or.inl h)), if_neg (fun h => hcond (Or.inr h))]
        rw [this, if_pos rfl, z_lt, z_lt, nI_1, z_shl1 (by omega), z_not]
        refine ih (i + 1) f _ (by omega) (by omega) hnd (fun s => (ndb s).trans ?_) hB
        rw [hr s]
        constructor
        · rintro ⟨⟨a, b⟩, h⟩
          exact ⟨a, fun h2 => b (by omega)⟩
        · rintro ⟨a, b⟩
          refine ⟨⟨a, fun h2 => b (by omega)⟩, fun h => ?_⟩
          have := b (by omega)
          rw [h, hoo] at this
          exact hcond this
    · have hrb : ∀ s, R.testBit s = true → s ≠ i := fun s h z => hb (by rw [← z]; exact ((hr s).mp h).1)
      have same : ∀ s, R.testBit s = true ↔ B.testBit s = true ∧ (s < i + 1 → ((if e1 s = c then e2 s else e1 s) = hd ∨ P.testBit (if e1 s = c then e2 s else e1 s) = false)) := by
        intro s
        refine (hr s).trans ?_
        constructor
        · rintro ⟨a, b⟩
          refine ⟨a, fun h => b ?_⟩
          rcases (show s < i ∨ s = i by omega) with h2 | h2
          · exact h2
          · rw [h2] at a; exact absurd a hb
        · rintro ⟨a, b⟩
          exact ⟨a, fun h => b (by omega)⟩
      generalize (if (if nI c = M.1 32 i then M.1 33 i else M.1 32 i) = nI hd then false else if ((nI P >>> ((if nI c = M.1 32 i then M.1 33 i else M.1 32 i) &&& 31)) &&& 1) = 0 then false else true) = b
      cases b with
      | true =>
        rw [if_pos rfl, z_lt, z_lt, nI_1, z_shl1 (by omega), z_not]
        refine ih (i + 1) f _ (by omega) (by omega) hnd (fun s => (ndb s).trans ?_) hB
        rw [← same s]
        exact ⟨fun h => h.1, fun h => ⟨h, hrb s h⟩⟩
      | false =>
        rw [if_neg (by decide), z_lt, nI_1]
        exact ih (i + 1) f R (by omega) (by omega) hR same hB
theorem x_nextG {n hd once c P S O l : Nat} {e1 e2 : Nat → Nat} {M : Mem} (hn : n ≤ 12) (hd9 : hd < 9) (hon : once < 2) (hc : c < 9) (hP : P < 512) (hS : S < 8192) (hO : O < 8192) (hl : l < 2) (h0 : M.1 31 0 = nI hd) (h1 : M.1 31 1 = nI n) (h3 : M.1 31 3 = nI once) (h35 : M.1 35 (16 * l + c) = nI O) (hends : ∀ s, s ≤ n → O.testBit s = true → M.1 32 s = nI (e1 s) ∧ M.1 33 s = nI (e2 s) ∧ e1 s < 9 ∧ e2 s < 9) (hON : ∀ s, n < s → O.testBit s = false) :
    ∃ R, R < 8192 ∧ FX7_next (nI (pk3 c P S)) (nI l) M = some (nI R) ∧ ∀ s, R.testBit s = true ↔ (O.testBit s = true ∧ S.testBit s = false) ∧ (once = 0 ∨ (¬ (c = hd ∧ P ≠ 2 ^ hd) ∧ ((if e1 s = c then e2 s else e1 s) = hd ∨ P.testBit (if e1 s = c then e2 s else e1 s) = false))) := by
  unfold FX7_next
  have hB : ndf O S < 8192 := Nat.lt_of_le_of_lt (Nat.le_of_testBit fun j hj => by rw [ndf_bit] at hj; cases e : O.testBit j <;> simp [e] at hj ⊢) hO
  have hBb : ∀ s, (ndf O S).testBit s = true ↔ O.testBit s = true ∧ S.testBit s = false := by
    intro s
    rw [ndf_bit, Bool.and_eq_true, Bool.not_eq_true']
  rw [x_at (by omega) hP hS, x_passed (by omega) hP hS, x_spent (by omega) hP hS, z_lt, z_lt, x_open hl hc h35, z_ob, z_not, z_lt, h3, h0]
  by_cases o0 : once = 0
  · subst o0
    rw [if_pos (show nI 0 = 0 from rfl)]
    exact ⟨_, hB, rfl, fun s => by rw [hBb s]; exact ⟨fun h => ⟨h, Or.inl rfl⟩, fun h => h.1⟩⟩
  · rw [if_neg (by rw [show (0 : Int32) = nI 0 from rfl, z_eq (by omega) (by omega)]; exact o0)]
    have p2 : 2 ^ hd < 512 := p2_lt hd9
    rw [z_shl1 (by omega), if_congr_prop (z_eq (show c < 2147483648 by omega) (show hd < 2147483648 by omega)), if_congr_prop (z_eq (show P < 2147483648 by omega) (show 2 ^ hd < 2147483648 by omega)), z_lt]
    by_cases hh : c = hd ∧ P ≠ 2 ^ hd
    · have : (if c = hd then if P = 2 ^ hd then false else true else false) = true := by rw [if_pos hh.1, if_neg hh.2]
      rw [this, if_pos rfl]
      refine ⟨0, by decide, rfl, fun s => ?_⟩
      rw [Nat.zero_testBit]
      constructor
      · intro h; cases h
      · rintro ⟨-, h | h⟩
        · exact absurd h o0
        · exact absurd hh h.1
    · have : (if c = hd then if P = 2 ^ hd then false else true else false) = false := by
        by_cases a : c = hd
        · rw [if_pos a]
          by_cases b : P = 2 ^ hd
          · rw [if_pos b]
          · exact absurd ⟨a, b⟩ hh
        · rw [if_neg a]
      rw [this, if_neg (by decide)]
      obtain ⟨R, g1, g2, g3⟩ := x_nxL (c := c) (P := P) (B := ndf O S) (e1 := e1) (e2 := e2) hn hd9 hc hP h0 h1 (fun s hs hb => hends s hs ((hBb s).mp hb).1) (n + 1) 0 FU (ndf O S) (by omega) (by rw [z_FU]; omega) hB (fun s => ⟨fun h => ⟨h, fun z => absurd z (Nat.not_lt_zero s)⟩, fun h => h.1⟩) (fun s hs => by
        rw [← Bool.not_eq_true]
        intro z
        have := ((hBb s).mp z).1
        rw [hON s hs] at this
        cases this)
      rw [show nI 0 = 0 from rfl] at g2
      rw [g2, z_ob]
      refine ⟨R, g1, rfl, fun s => ?_⟩
      rw [g3 s, hBb s]
      constructor
      · rintro ⟨a, b⟩
        exact ⟨a, Or.inr ⟨hh, b⟩⟩
      · rintro ⟨a, b | b⟩
        · exact absurd b o0
        · exact ⟨a, b.2⟩
theorem x_next {T : Twn} (hT : Twf T) (hN : T.1 1 ≤ 12) {M : Mem} (hX : XTw T M) {k m c : Nat} (hw : wk T m c) : ∃ R, R < 8192 ∧ FX7_next (nI (stt T m c)) (nI (ldw T k m)) M = some (nI R) ∧ ∀ s, R.testBit s = true ↔ stp T k m c s = true := by
  obtain ⟨h1, h2, h3, h4⟩ := hT.1
  obtain ⟨⟨a0, a1, a2, a3⟩, b1, b2, b3⟩ := hX
  have hl := ldw_lt T k m
  have hO : orB (T.1 1) (fun s => T.2.2 (ldw T k m) c s != 0) (fun s => 2 ^ s) < 2 ^ 13 := orB_lt fun s hs _ => Nat.pow_lt_pow_right (by decide) (by omega)
  have hOb : ∀ s, (orB (T.1 1) (fun s => T.2.2 (ldw T k m) c s != 0) (fun s => 2 ^ s)).testBit s = true ↔ s < T.1 1 ∧ T.2.2 (ldw T k m) c s ≠ 0 := by
    intro s
    rw [orB_bit]
    constructor
    · rintro ⟨t, g1, g2, g3⟩
      rw [Nat.testBit_two_pow] at g3
      have : t = s := by simpa using g3
      subst this
      exact ⟨g1, by simpa using g2⟩
    · rintro ⟨g1, g2⟩
      exact ⟨s, g1, by simpa using g2, Nat.testBit_two_pow_self⟩
  obtain ⟨R, g1, g2, g3⟩ := x_nextG (S := spt T m) (e1 := T.2.1 1) (e2 := T.2.1 2) hN h1 h4 hw.2.1 (pas_lt hT m) (p13 h2 (spt_lt hT m)) hO hl a0 a1 a3 (b2 _ _ hl hw.2.1) (fun s _ hb => by
    obtain ⟨hs, -⟩ := (hOb s).mp hb
    obtain ⟨⟨c1, c2, -⟩, -⟩ := hT.2 s hs
    exact ⟨(b1 s hs).1, (b1 s hs).2.1, c1, c2⟩) (fun s hs => by
    rw [← Bool.not_eq_true]
    intro z
    have := ((hOb s).mp z).1
    omega)
  refine ⟨R, g1, g2, fun s => ?_⟩
  rw [g3 s, hOb s, stp_iff]
  have hp1 := pas_1 hT hw.1
  have eot : (if T.2.1 1 s = c then T.2.1 2 s else T.2.1 1 s) = ot T s c := rfl
  rw [eot]
  constructor
  · rintro ⟨⟨⟨q1, q2⟩, q3⟩, q4⟩
    refine ⟨q1, q2, q3, ?_, ?_⟩
    · rcases q4 with h | h
      · exact Or.inl h
      · exact Or.inr h.2
    · rintro ⟨z1, z2, z3⟩
      rcases q4 with h | h
      · omega
      · exact h.1 ⟨z3, fun z => z2 (hp1.mp z)⟩
  · rintro ⟨q1, q2, q3, q4, q5⟩
    refine ⟨⟨⟨q1, q2⟩, q3⟩, ?_⟩
    by_cases o0 : T.1 3 = 0
    · exact Or.inl o0
    · right
      refine ⟨fun z => q5 ⟨by omega, fun z0 => z.2 (hp1.mpr z0), z.1⟩, ?_⟩
      rcases q4 with h | h
      · exact absurd h o0
      · exact h
theorem x_isRing {T : Twn} (hT : Twf T) {M : Mem} {d m c : Nat} (hm : m < 8192) (hd : d < 1024) (hc : c < 9) (h37 : M.1 37 5 = nI (T.1 0)) (h39 : m ≠ 0 → M.1 39 m = nI (stt T m c)) : FX0_isRing (nI m) (nI d) M = some (if rng T d m c = true then 1 else 0) := by
  have hN := hT.1.2.1
  have hps := pas_lt hT m
  have hsp := p13 hN (spt_lt hT m)
  have hd9 := hT.1.1
  unfold FX0_isRing
  by_cases h0 : m = 0
  · subst h0
    have : ¬ rng T d 0 c = true := fun z => (rng_iff.mp z).1 rfl
    rw [if_pos (show nI 0 = 0 from rfl), z_ob, if_neg this]
    rfl
  · rw [if_neg (by rw [show (0 : Int32) = nI 0 from rfl, z_eq (by omega) (by omega)]; exact h0), z_gi (by omega) (by decide), z_ix (by omega), h39 h0, h37]
    unfold stt
    rw [x_at (by omega) hps hsp, x_passed (by omega) hps hsp, z_not, if_congr_prop (z_eq (show c < 2147483648 by omega) (show T.1 0 < 2147483648 by omega)), z_gi (by omega) (by decide)]
    have hnd : ndf d (pas T m) < 1024 := Nat.lt_of_le_of_lt (Nat.le_of_testBit fun j hj => by rw [ndf_bit] at hj; cases e : d.testBit j <;> simp [e] at hj ⊢) hd
    have ed : (nI (ndf d (pas T m)) = 0) ↔ pas T m &&& d = d := by
      rw [show (0 : Int32) = nI 0 from rfl, z_eq (by omega) (by omega)]
      constructor
      · intro h
        apply Nat.eq_of_testBit_eq
        intro i
        have h2 : (ndf d (pas T m)).testBit i = false := by rw [h, Nat.zero_testBit]
        rw [ndf_bit] at h2
        rw [Nat.testBit_and]
        cases e1 : d.testBit i <;> cases e2 : (pas T m).testBit i <;> simp [e1, e2] at h2 ⊢
      · intro h
        apply Nat.eq_of_testBit_eq
        intro i
        rw [ndf_bit, ← h, Nat.testBit_and, Nat.zero_testBit]
        cases (pas T m).testBit i <;> cases d.testBit i <;> rfl
    rw [if_congr_prop ed]
    by_cases hr : rng T d m c = true
    · obtain ⟨-, r2, r3⟩ := rng_iff.mp hr
      rw [if_pos r2, if_pos r3, z_ob, if_pos rfl, if_pos hr]
    · rw [if_neg hr]
      by_cases r2 : c = T.1 0
      · rw [if_pos r2, if_neg (fun r3 => hr (rng_iff.mpr ⟨h0, r2, r3⟩)), z_ob]; rfl
      · rw [if_neg r2, z_ob]; rfl
