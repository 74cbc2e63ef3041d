/-! reached, joined -/
theorem ot_1 (T : Twn) (s : Nat) : ot T s (T.2.1 1 s) = T.2.1 2 s := if_pos rfl
theorem ot_2 {T : Twn} (hT : Twf T) {s : Nat} (hs : s < T.1 1) : ot T s (T.2.1 2 s) = T.2.1 1 s := if_neg (hT.2 s hs).1.2.2.1
theorem x_re17 {T : Twn} (hT : Twf T) (hN : T.1 1 ≤ 12) {M : Mem} (hX : XTw T M) {S : Nat} (hS : S < 512) : ∀ (k i f : Nat), i + k = T.1 1 → k < f → FX7_reached_L17 f (nI (rpass T i S)) (nI i) M = some (nI (rpass T (T.1 1) S)) := by
  have h2 := hT.1.2.2.1
  have hp : 2 ^ T.1 1 ≤ 4096 := Nat.pow_le_pow_right (n := 2) (by decide) hN
  intro k
  induction k with
  | zero =>
    intro i f hi hf
    obtain ⟨f, rfl⟩ : ∃ g, f = g + 1 := ⟨f - 1, by omega⟩
    have : i = T.1 1 := by omega
    subst this
    rw [FX7_reached_L17, hX.1.2.1, if_pos (Int32.le_refl _)]
  | succ k ih =>
    intro i f hi hf
    obtain ⟨f, rfl⟩ : ∃ g, f = g + 1 := ⟨f - 1, by omega⟩
    have hs : i < T.1 1 := by omega
    obtain ⟨x1, x2, x3⟩ := hX.2.1 i hs
    obtain ⟨⟨d1, d2, -⟩, -⟩ := hT.2 i hs
    have hlt := rpass_lt hT i S (by omega) hS
    have ihh := ih (i + 1) f (by omega) (by omega)
    rw [rpass] at ihh
    unfold rpO at ihh
    rw [FX7_reached_L17, hX.1.2.1, if_neg (nI_ge hs (by omega)), hX.1.2.2.1, if_congr_prop (z_b0 (show T.1 2 < 2147483648 by omega) (show i < 32 by omega))]
    by_cases hb : (T.1 2).testBit i = true
    · have hb' : ¬ (T.1 2).testBit i = false := by rw [hb]; decide
      rw [if_pos hb] at ihh
      rw [if_neg hb', z_lt, nI_1]
      exact ihh
    · have hb' : (T.1 2).testBit i = false := by simpa using hb
      rw [if_neg hb] at ihh
      rw [if_pos hb', z_gi (by omega) (by decide), z_ix (by omega), x1, x2, x_over hT hX hs hN d1 hlt, z_ob, z_gi (by omega) (by decide), x_over hT hX hs hN d2 hlt, z_ob, z_or, z_or, z_lt, z_lt, nI_1, ot_1, ot_2 hT hs]
      exact ihh
theorem x_re9 {T : Twn} (hT : Twf T) (hN : T.1 1 ≤ 12) {M : Mem} (hX : XTw T M) : ∀ (k i f S : Nat), i + k = 9 → k < f → S < 512 → FX7_reached_L9 f (nI S) (nI i) M = some (nI (itr k (rpass T (T.1 1)) S)) := by
  intro k
  induction k with
  | zero =>
    intro i f S hi hf hS
    obtain ⟨f, rfl⟩ : ∃ g, f = g + 1 := ⟨f - 1, by omega⟩
    have : i = 9 := by omega
    subst this
    rw [FX7_reached_L9, if_pos (by decide)]
    rfl
  | succ k ih =>
    intro i f S hi hf hS
    obtain ⟨f, rfl⟩ : ∃ g, f = g + 1 := ⟨f - 1, by omega⟩
    have e := x_re17 hT hN hX hS (T.1 1) 0 FU (by omega) (by rw [z_FU]; omega)
    rw [show rpass T 0 S = S from rfl, show nI 0 = 0 from rfl] at e
    have g9 : ¬ 9 ≤ nI i := nI_ge (b := 9) (by omega) (by decide)
    rw [FX7_reached_L9, if_neg g9, e, z_ob, z_lt, nI_1]
    exact ih (i + 1) f _ (by omega) (by omega) (rpass_lt hT _ S (Nat.le_refl _) hS)
theorem x_reached {T : Twn} (hT : Twf T) (hN : T.1 1 ≤ 12) {M : Mem} (hX : XTw T M) : FX7_reached M = some (nI (rch T)) := by
  have hd9 := hT.1.1
  unfold FX7_reached
  rw [hX.1.1, z_shl1 (by omega), z_lt, show (1 : Int32) = nI 1 from rfl, x_re9 hT hN hX 8 1 FU _ (by omega) (by rw [z_FU]; omega) (p2_lt hd9), z_ob]
  rfl
theorem rch_lt {T : Twn} (hT : Twf T) : rch T < 512 := by
  have : ∀ k S, S < 512 → itr k (rpass T (T.1 1)) S < 512 := by
    intro k
    induction k with
    | zero => intro S h; exact h
    | succ k ih => intro S h; exact ih _ (rpass_lt hT _ S (Nat.le_refl _) h)
  exact this 8 _ (p2_lt hT.1.1)
theorem rch_still {T : Twn} (hT : Twf T) : rpass T (T.1 1) (rch T) = rch T :=
  still (fun S _ => rpass_sub T _ S) (fun S hS => rpass_lt hT _ S (Nat.le_refl _) hS) (p2_lt hT.1.1) ⟨T.1 0, hT.1.1, Nat.testBit_two_pow_self⟩
theorem rch_home {T : Twn} : (rch T).testBit (T.1 0) = true := by
  have : ∀ k S, sub S (itr k (rpass T (T.1 1)) S) := by
    intro k
    induction k with
    | zero => intro S; exact sub_rf S
    | succ k ih => intro S; exact sub_tr (rpass_sub T _ S) (ih _)
  exact this 8 _ _ Nat.testBit_two_pow_self
theorem rpass_has {T : Twn} : ∀ {n s S c : Nat}, s < n → (T.1 2).testBit s = false → (c = T.2.1 1 s ∨ c = T.2.1 2 s) → T.2.2 0 c s ≠ 0 → S.testBit c = true → (rpass T n S).testBit (ot T s c) = true
  | 0, _, _, _, h, _, _, _, _ => absurd h (Nat.not_lt_zero _)
  | n + 1, s, S, c, hs, hb, hc, ht, hS => by
    by_cases h : s < n
    · have := rpass_has (T := T) h hb hc ht hS
      exact rpO_sub T n _ _ this
    · have hn : s = n := by omega
      subst hn
      have h1 := rpass_sub T s S c hS
      rw [rpass]
      unfold rpO
      rw [if_neg (by rw [hb]; decide), Nat.testBit_or, Nat.testBit_or]
      by_cases h2 : T.2.1 1 s = c
      · have e : ot T s c = T.2.1 2 s := if_pos h2
        rw [e, h2, if_pos (⟨h1, ht⟩ : _ ∧ _), Nat.testBit_two_pow_self]
        simp
      · have e : ot T s c = T.2.1 1 s := if_neg h2
        have h3 : T.2.1 2 s = c := by
          rcases hc with h4 | h4
          · exact absurd h4.symm h2
          · exact h4.symm
        rw [e, h3, if_pos (⟨h1, ht⟩ : (rpass T s S).testBit c = true ∧ T.2.2 0 c s ≠ 0), Nat.testBit_two_pow_self]
        simp
/-- a walk passes reached corners only -/
theorem rch_stp {T : Twn} (hT : Twf T) {k m c s : Nat} (hs : stp T k m c s = true) (hc : (rch T).testBit c = true) : (rch T).testBit (ot T s c) = true := by
  obtain ⟨h1, h2, -⟩ := stp_at hT hs
  obtain ⟨-, h3, h4, -, -⟩ := stp_iff.mp hs
  have h5 : T.2.2 0 c s ≠ 0 := by
    have := ldw_lt T k m
    rcases (show ldw T k m = 0 ∨ ldw T k m = 1 by omega) with h | h
    · rw [h] at h3; exact h3
    · rw [h] at h3; exact (hT.2 s h1).2.2.2 c h3
  have h6 : (T.1 2).testBit s = false := by
    rw [← Bool.not_eq_true]
    intro z
    rw [(spt_bit T m s).mpr (Or.inl z)] at h4
    cases h4
  have := rpass_has (n := T.1 1) h1 h6 h2 h5 hc
  rw [rch_still hT] at this
  exact this
theorem Pre_rch {T : Twn} (hT : Twf T) {k d : Nat} : ∀ {w : List Nat} {m c : Nat}, Pre T k d m c w → (rch T).testBit c = true → sub (pas T m) (rch T) → sub (pas T (mE m w)) (rch T)
  | [], _, _, _, _, h => h
  | s :: r, m, c, hp, hc, hm => by
    obtain ⟨h1, h2, -⟩ := stp_at hT hp.2.1
    have ho := rch_stp hT hp.2.1 hc
    refine Pre_rch (w := r) (m := m ||| 2 ^ s) hT hp.2.2 ho fun i hi => ?_
    rcases (pas_or T h1 i).mp hi with h | h | h
    · exact hm i h
    · by_cases h4 : T.2.1 1 s = c
      · rw [h, h4]; exact hc
      · unfold ot at ho
        rw [if_neg h4] at ho
        rw [h]; exact ho
    · by_cases h4 : T.2.1 1 s = c
      · unfold ot at ho
        rw [if_pos h4] at ho
        rw [h]; exact ho
      · rcases h2 with h5 | h5
        · exact absurd h5.symm h4
        · rw [h, ← h5]; exact hc
theorem Pre_rch0 {T : Twn} (hT : Twf T) {k d : Nat} {w : List Nat} (hp : Pre T k d 0 (T.1 0) w) : sub (pas T (mE 0 w)) (rch T) :=
  Pre_rch hT hp rch_home (by
    intro i hi
    rw [pas_0, Nat.testBit_two_pow] at hi
    have : T.1 0 = i := by simpa using hi
    rw [← this]
    exact rch_home)
