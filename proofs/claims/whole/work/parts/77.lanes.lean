/-! a town with a lane besides: the street behind the last -/
def TL (T : Twn) (a b x : Nat) : Twn := ((fun j => if j = 1 then T.1 1 + 1 else T.1 j), (fun j s => if s = T.1 1 then (if j = 1 then a else if j = 2 then b else 2 ^ T.1 1) else T.2.1 j s), (fun l c s => if s = T.1 1 then (if c = a ∨ c = b then x else 0) else T.2.2 l c s))
theorem TL_0 (T : Twn) (a b x : Nat) : (TL T a b x).1 0 = T.1 0 := rfl
theorem TL_1 (T : Twn) (a b x : Nat) : (TL T a b x).1 1 = T.1 1 + 1 := rfl
theorem TL_2 (T : Twn) (a b x : Nat) : (TL T a b x).1 2 = T.1 2 := rfl
theorem TL_3 (T : Twn) (a b x : Nat) : (TL T a b x).1 3 = T.1 3 := rfl
theorem TL_e {T : Twn} {a b x j s : Nat} (h : s < T.1 1) : (TL T a b x).2.1 j s = T.2.1 j s := if_neg (by omega)
theorem TL_t {T : Twn} {a b x l c s : Nat} (h : s < T.1 1) : (TL T a b x).2.2 l c s = T.2.2 l c s := if_neg (by omega)
theorem TL_n1 (T : Twn) (a b x : Nat) : (TL T a b x).2.1 1 (T.1 1) = a := by
  show (if T.1 1 = T.1 1 then _ else _) = a
  rw [if_pos rfl]; rfl
theorem TL_n2 (T : Twn) (a b x : Nat) : (TL T a b x).2.1 2 (T.1 1) = b := by
  show (if T.1 1 = T.1 1 then _ else _) = b
  rw [if_pos rfl]; rfl
theorem TL_n3 (T : Twn) (a b x : Nat) : (TL T a b x).2.1 3 (T.1 1) = 2 ^ T.1 1 := by
  show (if T.1 1 = T.1 1 then _ else _) = _
  rw [if_pos rfl]; rfl
theorem TL_nt (T : Twn) (a b x l c : Nat) : (TL T a b x).2.2 l c (T.1 1) = if c = a ∨ c = b then x else 0 := by
  show (if T.1 1 = T.1 1 then _ else _) = _
  rw [if_pos rfl]
theorem TL_wf {T : Twn} (hT : Twf T) (hN : T.1 1 ≤ 12) {a b x : Nat} (ha : a < 9) (hb : b < 9) (hab : a ≠ b) (hx : x ≤ 99) : Twf (TL T a b x) := by
  obtain ⟨⟨h1, h2, h3, h4⟩, h5⟩ := hT
  have hpp : 2 ^ (T.1 1 + 1) = 2 ^ T.1 1 * 2 := Nat.pow_succ 2 _
  refine ⟨⟨h1, by rw [TL_1]; omega, by rw [TL_1, TL_2]; omega, h4⟩, fun s hs => ?_⟩
  rw [TL_1] at hs ⊢
  rcases (show s < T.1 1 ∨ s = T.1 1 by omega) with h | h
  · obtain ⟨⟨g1, g2, g3, g4, g5⟩, g6, g7, g8⟩ := h5 s h
    refine ⟨⟨by rw [TL_e h]; exact g1, by rw [TL_e h]; exact g2, by rw [TL_e h, TL_e h]; exact g3, by rw [TL_e h]; omega, by rw [TL_e h]; exact g5⟩, fun l c hl => ?_, fun l c hl => ?_, fun c => ?_⟩
    · rw [TL_t h, TL_e h, TL_e h]; exact g6 l c hl
    · rw [TL_t h]; exact g7 l c hl
    · rw [TL_t h, TL_t h]; exact g8 c
  · subst h
    rw [TL_n1, TL_n2, TL_n3]
    refine ⟨⟨ha, hb, hab, by have := Nat.two_pow_pos (T.1 1); omega, Nat.testBit_two_pow_self⟩, fun l c hl => ?_, fun l c hl => ?_, fun c => ?_⟩
    · rw [TL_nt]
      intro h
      by_cases e : c = a ∨ c = b
      · exact e
      · rw [if_neg e] at h; exact absurd rfl h
    · rw [TL_nt]; split <;> omega
    · rw [TL_nt, TL_nt]; exact id
theorem hi_bit {m n : Nat} (h : m < 2 ^ n) : m.testBit n = false := Nat.testBit_lt_two_pow h
theorem lt_bit {m n : Nat} (h : m < 2 ^ (n + 1)) (hb : m.testBit n = false) : m < 2 ^ n := by
  refine Nat.lt_pow_two_of_testBit _ fun i hi => ?_
  rcases (show i = n ∨ n + 1 ≤ i by omega) with h1 | h1
  · rw [h1]; exact hb
  · exact Nat.testBit_lt_two_pow (Nat.lt_of_lt_of_le h (Nat.pow_le_pow_right (by decide) h1))
theorem pasL {T : Twn} {a b x m : Nat} (h : m.testBit (T.1 1) = false) : pas (TL T a b x) m = pas T m := by
  refine bits_eq (fun i => pas_bit (TL T a b x) m i) (fun i => (pas_bit T m i).trans ?_)
  rw [TL_0, TL_1]
  constructor
  · rintro (h1 | ⟨s, h1, h2, h3⟩)
    · exact Or.inl h1
    · exact Or.inr ⟨s, by omega, h2, by rw [TL_e h1, TL_e h1]; exact h3⟩
  · rintro (h1 | ⟨s, h1, h2, h3⟩)
    · exact Or.inl h1
    · have hs : s < T.1 1 := by
        rcases (show s < T.1 1 ∨ s = T.1 1 by omega) with g | g
        · exact g
        · rw [g, h] at h2; cases h2
      rw [TL_e hs, TL_e hs] at h3
      exact Or.inr ⟨s, hs, h2, h3⟩
theorem sptL {T : Twn} {a b x m : Nat} (h : m.testBit (T.1 1) = false) : spt (TL T a b x) m = spt T m := by
  refine bits_eq (fun i => spt_bit (TL T a b x) m i) (fun i => (spt_bit T m i).trans ?_)
  rw [TL_2, TL_1]
  constructor
  · rintro (h1 | ⟨s, h1, h2, h3⟩)
    · exact Or.inl h1
    · exact Or.inr ⟨s, by omega, h2, by rw [TL_e h1]; exact h3⟩
  · rintro (h1 | ⟨s, h1, h2, h3⟩)
    · exact Or.inl h1
    · have hs : s < T.1 1 := by
        rcases (show s < T.1 1 ∨ s = T.1 1 by omega) with g | g
        · exact g
        · rw [g, h] at h2; cases h2
      rw [TL_e hs] at h3
      exact Or.inr ⟨s, hs, h2, h3⟩
theorem sttL {T : Twn} {a b x m c : Nat} (h : m.testBit (T.1 1) = false) : stt (TL T a b x) m c = stt T m c := by
  unfold stt
  rw [pasL h, sptL h]
theorem ldwL {T : Twn} {a b x k m : Nat} (h : m.testBit (T.1 1) = false) : ldw (TL T a b x) k m = ldw T k m := by
  unfold ldw
  rw [pasL h]
theorem otL {T : Twn} {a b x s c : Nat} (h : s < T.1 1) : ot (TL T a b x) s c = ot T s c := by
  unfold ot
  rw [TL_e h, TL_e h]
theorem rngL {T : Twn} {a b x d m c : Nat} (h : m.testBit (T.1 1) = false) : rng (TL T a b x) d m c = rng T d m c := by
  unfold rng
  rw [pasL h]
  rfl
theorem stpL {T : Twn} {a b x k m c s : Nat} (h : m.testBit (T.1 1) = false) (hs : s < T.1 1) : stp (TL T a b x) k m c s = stp T k m c s := by
  rw [Bool.eq_iff_iff, stp_iff, stp_iff, ldwL h, TL_1, TL_t hs, sptL h, TL_3, otL hs, TL_0, pasL h]
  constructor
  · rintro ⟨-, h2⟩; exact ⟨hs, h2⟩
  · rintro ⟨-, h2⟩; exact ⟨by omega, h2⟩
theorem orL {m s n : Nat} (h : m.testBit n = false) (hs : s ≠ n) : (m ||| 2 ^ s).testBit n = false := by
  rw [← or1_ne (fun z => hs z.symm)]
  exact h
/-- walks without the lane are the same -/
theorem PreL {T : Twn} (hT : Twf T) {a b x k d : Nat} : ∀ {w : List Nat} {m c : Nat}, m.testBit (T.1 1) = false → Pre T k d m c w → Pre (TL T a b x) k d m c w ∧ (mE m w).testBit (T.1 1) = false ∧ cE (TL T a b x) c w = cE T c w ∧ tmE (TL T a b x) k m c w = tmE T k m c w
  | [], _, _, h, _ => ⟨trivial, h, rfl, rfl⟩
  | s :: r, m, c, h, hp => by
    have hs := (stp_at hT hp.2.1).1
    obtain ⟨g1, g2, g3, g4⟩ := PreL hT (a := a) (b := b) (x := x) (w := r) (orL h (Nat.ne_of_lt hs)) hp.2.2
    refine ⟨⟨by rw [rngL h]; exact hp.1, by rw [stpL h hs]; exact hp.2.1, by rw [otL hs]; exact g1⟩, g2, ?_, ?_⟩
    · rw [cE, cE, otL hs]; exact g3
    · rw [tmE, tmE, otL hs, TL_t hs, ldwL h, g4]
theorem PreU {T : Twn} (hT : Twf T) {a b x k d : Nat} (hTL : Twf (TL T a b x)) : ∀ {w : List Nat} {m c : Nat}, (mE m w).testBit (T.1 1) = false → Pre (TL T a b x) k d m c w → Pre T k d m c w
  | [], _, _, _, _ => trivial
  | s :: r, m, c, h, hp => by
    have h2 : (m ||| 2 ^ s).testBit (T.1 1) = false := by
      rw [← Bool.not_eq_true]
      intro z
      have := mE_sub r (m ||| 2 ^ s) _ z
      rw [show mE (m ||| 2 ^ s) r = mE m (s :: r) from rfl, h] at this
      cases this
    have h1 : m.testBit (T.1 1) = false := by
      rw [← Bool.not_eq_true]
      intro z
      rw [sub_or1 m s _ z] at h2
      cases h2
    have hs : s < T.1 1 := by
      have := (stp_at hTL hp.2.1).1
      rw [TL_1] at this
      rcases (show s < T.1 1 ∨ s = T.1 1 by omega) with g | g
      · exact g
      · rw [g, or1_s] at h2; cases h2
    refine ⟨by rw [← rngL h1 (a := a) (b := b) (x := x)]; exact hp.1, by rw [← stpL h1 hs (a := a) (b := b) (x := x)]; exact hp.2.1, ?_⟩
    have := PreU hT hTL (w := r) h hp.2.2
    rw [otL hs] at this
    exact this
theorem WS_L {T : Twn} (hT : Twf T) {a b x m c q : Nat} (h : WS T m c q) : WS (TL T a b x) m c q := by
  obtain ⟨w, h1, h2, h3, h4⟩ := h
  obtain ⟨g1, g2, g3, g4⟩ := PreL hT (a := a) (b := b) (x := x) (Nat.zero_testBit _) h1
  exact ⟨w, g1, h2, g3.trans h3, g4.trans h4⟩
theorem WS_U {T : Twn} (hT : Twf T) {a b x m c q : Nat} (hTL : Twf (TL T a b x)) (hm : m.testBit (T.1 1) = false) (h : WS (TL T a b x) m c q) : WS T m c q := by
  obtain ⟨w, h1, h2, h3, h4⟩ := h
  have g := PreU hT hTL (by rw [h2]; exact hm) h1
  obtain ⟨-, -, g3, g4⟩ := PreL hT (a := a) (b := b) (x := x) (Nat.zero_testBit _) g
  exact ⟨w, g, h2, g3.symm.trans h3, g4.symm.trans h4⟩
theorem RGD_L {T : Twn} (hT : Twf T) {a b x i : Nat} (h : RGD T 0 i) : RGD (TL T a b x) 0 i := by
  obtain ⟨h1, m, q, h2, h3, h4, h5⟩ := h
  have hm : m.testBit (T.1 1) = false := hi_bit (WS_wk hT h4).1
  exact ⟨h1, m, q, h2, h3, WS_L hT h4, by rw [pasL hm]; exact h5⟩
theorem wkL {T : Twn} {a b x m c : Nat} (hm : m < 2 ^ T.1 1) (h : wk T m c) : wk (TL T a b x) m c := by
  obtain ⟨h1, h2, h3, h4⟩ := h
  have hb := hi_bit hm
  refine ⟨by rw [TL_1, Nat.pow_succ]; omega, h2, by rw [pasL hb]; exact h3, ?_⟩
  unfold par od at h4 ⊢
  rw [TL_1, TL_0, xoB, hb]
  simp only [Bool.false_eq_true, if_false, Nat.xor_zero]
  rw [← h4]
  congr 1
  have : ∀ n, n ≤ T.1 1 → xoB n (fun s => m.testBit s) (fun s => 2 ^ (TL T a b x).2.1 1 s ^^^ 2 ^ (TL T a b x).2.1 2 s) = xoB n (fun s => m.testBit s) (fun s => 2 ^ T.2.1 1 s ^^^ 2 ^ T.2.1 2 s) := by
    intro n
    induction n with
    | zero => intro _; rfl
    | succ n ih =>
      intro hn
      rw [xoB, xoB, ih (by omega), TL_e (show n < T.1 1 by omega), TL_e (show n < T.1 1 by omega)]
  exact this _ (Nat.le_refl _)
