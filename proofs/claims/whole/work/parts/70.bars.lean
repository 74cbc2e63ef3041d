/-! bars -/
theorem x_sdL {T : Twn} (hT : Twf T) {k d e : Nat} (he : e < 1024) {Kf : Prop} {Q : List Nat} {κ : Nat → Nat} {M : Mem} (hQ : QS T k d Kf Q κ M) : ∀ (j i f : Nat) (x : Int32), i + j = Q.length → j < f → ((x = -1 ∧ ∀ a, a < i → ¬ rga T e Q a) ∨ ∃ y, y < 8192 ∧ x = nI y ∧ (∃ a, a < i ∧ rga T e Q a) ∧ ∀ b, y.testBit b = true ↔ ∀ a, a < i → rga T e Q a → (Q.getD a 0).testBit b = true) →
    ∃ x', FX0_shared_L4 f (nI e) x (nI i) M = some x' ∧ ((x' = -1 ∧ ∀ a, ¬ rga T e Q a) ∨ ∃ y, y < 8192 ∧ x' = nI y ∧ (∃ a, rga T e Q a) ∧ ∀ b, y.testBit b = true ↔ ∀ a, rga T e Q a → (Q.getD a 0).testBit b = true) := by
  have hN := hT.1.2.1
  have hlt := QS_lt hT hQ
  obtain ⟨⟨q1, q2⟩, q3, q4, q5, q6, q7⟩ := id hQ
  have hQl := nodup_le 8192 Q q4 (fun x hx => p13 hN (hlt x hx))
  intro j
  induction j with
  | zero =>
    intro i f x hi hf hx
    obtain ⟨f, rfl⟩ : ∃ g, f = g + 1 := ⟨f - 1, by omega⟩
    have : i = Q.length := by omega
    subst this
    rw [FX0_shared_L4, q1, if_pos (Int32.le_refl _)]
    refine ⟨x, rfl, ?_⟩
    rcases hx with ⟨h1, h2⟩ | ⟨y, h1, h2, ⟨a, h3, h4⟩, h5⟩
    · exact Or.inl ⟨h1, fun a h => h2 a h.1 h⟩
    · exact Or.inr ⟨y, h1, h2, ⟨a, h4⟩, fun b => (h5 b).trans ⟨fun g a ha => g a ha.1 ha, fun g a _ ha => g a ha⟩⟩
  | succ j ih =>
    intro i f x hi hf hx
    obtain ⟨f, rfl⟩ : ∃ g, f = g + 1 := ⟨f - 1, by omega⟩
    have hil : i < Q.length := by omega
    have hm8 := p13 hN (hlt _ (getD_mem hil))
    obtain ⟨b, g1, g2, -⟩ := x_ringA hT he hQ hil
    rw [FX0_shared_L4, q1, if_neg (nI_ge hil (by omega)), z_gi (by omega) (by decide), z_ix (by omega), q3 i hil, g1, z_ob, z_gi (by omega) (by decide)]
    simp only [z_lt]
    rw [nI_1]
    cases b with
    | false =>
      have hno : ¬ rga T e Q i := fun z => by
        have := g2.mpr z
        cases this
      rw [if_pos (by decide)]
      refine ih (i + 1) f x (by omega) (by omega) ?_
      rcases hx with ⟨h1, h2⟩ | ⟨y, h1, h2, ⟨a, h3, h4⟩, h5⟩
      · refine Or.inl ⟨h1, fun a ha h => ?_⟩
        rcases (show a < i ∨ a = i by omega) with g | g
        · exact h2 a g h
        · subst g; exact hno h
      · refine Or.inr ⟨y, h1, h2, ⟨a, by omega, h4⟩, fun b => (h5 b).trans ⟨fun g a ha h => ?_, fun g a ha h => g a (by omega) h⟩⟩
        rcases (show a < i ∨ a = i by omega) with g' | g'
        · exact g a g' h
        · subst g'; exact absurd h hno
    | true =>
      have hrg := g2.mp rfl
      rw [if_neg (by decide)]
      refine ih (i + 1) f _ (by omega) (by omega) (Or.inr ?_)
      rcases hx with ⟨h1, h2⟩ | ⟨y, h1, h2, ⟨a, h3, h4⟩, h5⟩
      · refine ⟨Q.getD i 0, hm8, ?_, ⟨i, by omega, hrg⟩, fun b => ⟨fun g a ha h => ?_, fun g => g i (by omega) hrg⟩⟩
        · rw [h1]
          refine b_ext fun i hi => ?_
          rw [b_and, b_m1 i hi, Bool.true_and]
        · rcases (show a < i ∨ a = i by omega) with g' | g'
          · exact absurd h (h2 a g')
          · subst g'; exact g
      · refine ⟨y &&& Q.getD i 0, Nat.lt_of_le_of_lt Nat.and_le_left h1, ?_, ⟨i, by omega, hrg⟩, fun b => ?_⟩
        · rw [h2, z_and]
        · rw [Nat.testBit_and, Bool.and_eq_true, h5 b]
          constructor
          · rintro ⟨g, g'⟩ a ha h
            rcases (show a < i ∨ a = i by omega) with g3 | g3
            · exact g a g3 h
            · subst g3; exact g'
          · exact fun g => ⟨fun a ha h => g a (by omega) h, g i (by omega) hrg⟩
theorem x_shared {T : Twn} (hT : Twf T) {k d e : Nat} (he : e < 1024) {Kf : Prop} {Q : List Nat} {κ : Nat → Nat} {M : Mem} (hQ : QS T k d Kf Q κ M) (hex : ∃ a, rga T e Q a) : ∃ y, y < 8192 ∧ FX0_shared (nI e) M = some (nI y) ∧ ∀ b, y.testBit b = true ↔ ∀ a, rga T e Q a → (Q.getD a 0).testBit b = true := by
  have hQl := nodup_le 8192 Q hQ.2.2.1 (fun x hx => p13 hT.1.2.1 (QS_lt hT hQ x hx))
  obtain ⟨x, x1, x2⟩ := x_sdL hT he hQ Q.length 0 FU (-1) (by omega) (by rw [z_FU]; omega) (Or.inl ⟨rfl, fun a h => absurd h (Nat.not_lt_zero a)⟩)
  unfold FX0_shared
  rw [show nI 0 = 0 from rfl] at x1
  rw [x1, z_ob]
  rcases x2 with ⟨h1, h2⟩ | ⟨y, h1, h2, h3, h4⟩
  · obtain ⟨a, ha⟩ := hex
    exact absurd ha (h2 a)
  · exact ⟨y, h1, by rw [h2], h4⟩
theorem y_baL {T : Twn} (hT : Twf T) {M : Mem} (hY : YTw T M) (hF : FWD T M) {n c : Nat} (hn : n ≤ 12) (hc : c < 9) (h3 : M.1 0 3 = nI n) : ∀ (k i f r : Nat), i + k = n → k < f → r < 2 ^ i → (∀ b, r.testBit b = true ↔ b < i ∧ ¬ RGD T (2 ^ b) c) →
    ∃ y, y < 2 ^ n ∧ FX9_bars_L29 f (nI c) (nI r) (nI i) M = some (nI y) ∧ ∀ b, y.testBit b = true ↔ b < n ∧ ¬ RGD T (2 ^ b) c := by
  intro k
  induction k with
  | zero =>
    intro i f r hi hf hr hx
    obtain ⟨f, rfl⟩ : ∃ g, f = g + 1 := ⟨f - 1, by omega⟩
    have : i = n := by omega
    subst this
    rw [FX9_bars_L29, h3, if_pos (Int32.le_refl _)]
    exact ⟨r, hr, rfl, hx⟩
  | succ k ih =>
    intro i f r hi hf hr hx
    obtain ⟨f, rfl⟩ : ∃ g, f = g + 1 := ⟨f - 1, by omega⟩
    have h2i : 2 ^ i < 2 ^ 13 := Nat.pow_lt_pow_right (by decide) (by omega)
    obtain ⟨y, y1, y2, y3⟩ := y_ringed hT hY hF (A := 2 ^ i) h2i
    have hpp : 2 ^ (i + 1) = 2 ^ i * 2 := Nat.pow_succ 2 i
    rw [FX9_bars_L29, h3, if_neg (nI_ge (by omega) (by omega)), z_shl1 (by omega), y2, z_ob, if_congr_prop (z_b0 (show y < 2147483648 by omega) (show c < 32 by omega))]
    simp only [z_lt]
    rw [nI_1]
    by_cases hb : RGD T (2 ^ i) c
    · have hy : y.testBit c = true := (y3 c).mpr hb
      rw [if_neg (by rw [hy]; decide), Int32.or_zero]
      refine ih (i + 1) f r (by omega) (by omega) (by omega) (fun b => (hx b).trans ?_)
      constructor
      · rintro ⟨a, b⟩; exact ⟨by omega, b⟩
      · rintro ⟨a1, a2⟩
        refine ⟨?_, a2⟩
        rcases (show b < i ∨ b = i by omega) with h | h
        · exact h
        · rw [h] at a2; exact absurd hb a2
    · have hy : y.testBit c = false := by
        rw [← Bool.not_eq_true]
        exact fun z => hb ((y3 c).mp z)
      rw [if_pos hy, z_or]
      refine ih (i + 1) f _ (by omega) (by omega) (Nat.or_lt_two_pow (n := i + 1) (by omega) (by omega)) (fun b => ?_)
      rw [or_bit1, hx b]
      constructor
      · rintro (⟨a, b⟩ | h)
        · exact ⟨by omega, b⟩
        · rw [h]; exact ⟨by omega, hb⟩
      · rintro ⟨a1, a2⟩
        rcases (show b < i ∨ b = i by omega) with h | h
        · exact Or.inl ⟨h, a2⟩
        · exact Or.inr h
theorem bit_pas {P c : Nat} : P.testBit c = true ↔ P &&& 2 ^ c = 2 ^ c := by
  constructor
  · intro h
    apply Nat.eq_of_testBit_eq
    intro i
    rw [Nat.testBit_and, Nat.testBit_two_pow]
    by_cases hi : c = i
    · subst hi; rw [h]; simp
    · simp [hi]
  · intro h
    have := congrArg (fun x => x.testBit c) h
    simp only [Nat.testBit_and, Nat.testBit_two_pow_self, Bool.and_true] at this
    exact this
theorem and_2p {m s : Nat} : m &&& 2 ^ s = 0 ↔ m.testBit s = false := by
  constructor
  · intro h
    have := congrArg (fun x => x.testBit s) h
    simp only [Nat.testBit_and, Nat.testBit_two_pow_self, Bool.and_true, Nat.zero_testBit] at this
    exact this
  · intro h
    apply Nat.eq_of_testBit_eq
    intro i
    rw [Nat.testBit_and, Nat.testBit_two_pow, Nat.zero_testBit]
    by_cases hi : s = i
    · subst hi; rw [h]; rfl
    · simp [hi]
theorem eq_bars {MX MY : Mem} (h : Sim MX MY) (a : Int32) : ∃ r MX' MY', FX8_bars a MX = some (r, MX') ∧ FX9_bars a MY = some (r, MY') ∧ Sim MX' MY' := by
  obtain ⟨v, u, tx, hR⟩ := id h
  obtain ⟨hA, hB, hK, hS, hTt, hTx, hH, hZ⟩ := id hR
  obtain ⟨⟨x0, x1, x2, x3, x4, x5, x6, x7⟩, ⟨y0, y1, y2, y3, y4, y5, y6, y7⟩⟩ := id hA
  obtain ⟨b0, b1, b2, b3, b4, b5, b6, b7, b8, b9⟩ := hB
  unfold FX8_bars FX9_bars
  rw [x_isAway x0, y_isOther y0, z_ob]
  by_cases h1 : (0 ≤ a ∧ a < 9) ∧ a ≠ nI (v 0)
  rotate_left
  · rw [if_neg h1, if_pos rfl, if_pos rfl]
    exact ⟨-5, MX, MY, rfl, rfl, h⟩
  obtain ⟨c, hc, rfl⟩ := corner_nI h1.1
  have hcp := p2_lt hc
  rw [if_pos h1, if_neg n10, if_neg n10, z_shl1 (show c < 32 by omega)]
  have hT := TS_wf (x := tx (v 6)) (hr := v 1) hS b3 b0 b4 b2
  obtain ⟨Q, κ, MX', e1, e2, e3, e4, e5⟩ := x_look hR.TW x0 x4 x2 x3 hT hZ (d := 2 ^ c) (k := 0) (by decide) (by omega)
  obtain ⟨MY1, MY', f1, f2, f3, f4, f5, f6⟩ := y_fwd hR.YW y0 y4 y2 hT
  have hR' : RR v u tx MX' MY' := hR.fr (fun c hc => e5 c (by omega)) e4 ⟨fun c h1 h2 s _ => by rw [f5 c (by omega) (by omega) (by omega) (by omega) (by omega) (by omega)], fun c h1 h2 => f5 c (by omega) (by omega) (by omega) (by omega) (by omega) (by omega), fun j hj => f6 j (by omega)⟩
  obtain ⟨T, hTe⟩ : ∃ T, T = TS u (tx (v 6)) (v 1) (v 3) (v 0) (v 4) (v 2) := ⟨_, rfl⟩
  rw [← hTe] at hT e2 e3 f3 f4
  have h0 : T.1 0 = v 0 := by rw [hTe]; rfl
  have hn1 : T.1 1 = v 3 := by rw [hTe]; rfl
  have hch : c ≠ T.1 0 := by
    rw [h0]
    intro z
    exact h1.2 (by rw [z])
  obtain ⟨r, r1, r2, r3⟩ := y_ringedNow hT f1 f2 f3 f4
  rw [show nI 0 = 0 from rfl] at e1
  rw [e1, z_ob, r2, z_ob, if_congr_prop (z_b0 (show r < 2147483648 by omega) (show c < 32 by omega))]
  rcases x_least hT (by omega) e2 with ⟨g1, g2⟩ | ⟨w, g1, g2, g3, g4, g5⟩
  · have hno : r.testBit c = false := by
      rw [← Bool.not_eq_true]
      intro z
      obtain ⟨q, m, k1, k2⟩ := (RGD_FWS hch).mp ((r3 c).mp z)
      obtain ⟨w, w1, -⟩ := WS_cut k1 k2
      exact g2 w w1
    rw [g1, z_ob, if_neg (by decide), if_pos hno]
    exact ⟨-3, MX', MY', rfl, rfl, v, u, tx, hR'⟩
  · have hyes : ¬ r.testBit c = false := by
      rw [Bool.not_eq_false]
      obtain ⟨k1, k2⟩ := Cpl_WS hT g2
      exact (r3 c).mpr ((RGD_FWS hch).mpr ⟨_, _, k1, k2⟩)
    have rg_of : ∀ w, Cpl T 0 (2 ^ c) 0 (T.1 0) w → ∃ a, rga T (2 ^ c) Q a ∧ Q.getD a 0 = mE 0 w := by
      intro w hw
      obtain ⟨a, a1, a2⟩ := mem_getD (e2.2 w hw.1).1
      have hc0 := (rng_iff.mp hw.2).2.1
      have hwk := Pre_wk hT (wk_0 hT) hw.1
      have hr := hw.2
      rw [hc0] at hwk hr
      exact ⟨a, ⟨a1, by rw [a2]; exact hwk, by rw [a2]; exact hr⟩, a2⟩
    have of_rg : ∀ a, rga T (2 ^ c) Q a → ∃ w, Cpl T 0 (2 ^ c) 0 (T.1 0) w ∧ mE 0 w = Q.getD a 0 := by
      rintro a ⟨a1, a2, a3⟩
      obtain ⟨w, w1, w2, -⟩ := e2.1.2.2.2.1 _ (getD_mem a1)
      have hwk := Pre_wk hT (wk_0 hT) w1
      rw [w2] at hwk
      have ec := par_inj hwk.2.2.2 a2.2.2.2
      exact ⟨w, ⟨w1, by rw [w2, ec]; exact a3⟩, w2⟩
    obtain ⟨a0, a1, -⟩ := rg_of w g2
    obtain ⟨y, s1, s2, s3⟩ := x_shared hT (show 2 ^ c < 1024 by omega) e2.1 ⟨a0, a1⟩
    obtain ⟨y', t1, t2, t3⟩ := y_baL hT f3 f4 b3 hc hR'.1.2.2.2.2.1 (v 3) 0 FU 0 (by omega) (by rw [z_FU]; omega) (by decide) (fun b => by
      rw [Nat.zero_testBit]
      constructor
      · intro z; cases z
      · rintro ⟨z, -⟩; omega)
    have hyy : y = y' := by
      refine bits_eq s3 fun b => (t3 b).trans ?_
      constructor
      · rintro ⟨k1, k2⟩ a ha
        obtain ⟨w, w1, w2⟩ := of_rg a ha
        obtain ⟨k3, k4⟩ := Cpl_WS hT w1
        rw [← w2, ← Bool.not_eq_false]
        intro z
        obtain ⟨m1, -, m3⟩ := rng_iff.mp k3
        exact k2 ⟨hch, _, _, m1, and_2p.mpr z, k4, bit_pas.mpr m3⟩
      · intro k1
        have hb : b < v 3 := by
          have hbit := k1 a0 a1
          have hlt := QS_lt hT e2.1 _ (getD_mem a1.1)
          rw [hn1] at hlt
          rcases Nat.lt_or_ge b (v 3) with h | h
          · exact h
          · rw [Nat.testBit_lt_two_pow (Nat.lt_of_lt_of_le hlt (Nat.pow_le_pow_right (by decide) h))] at hbit
            cases hbit
        refine ⟨hb, ?_⟩
        rintro ⟨-, m, q, m1, m2, m3, m4⟩
        obtain ⟨w, w1, -, w3⟩ := WS_cut (d := 2 ^ c) (rng_iff.mpr ⟨m1, rfl, bit_pas.mp m4⟩) m3
        obtain ⟨a, ha, ha2⟩ := rg_of w w1
        have := w3 b (by rw [← ha2]; exact k1 a ha)
        rw [and_2p.mp m2] at this
        cases this
    rw [show nI 0 = 0 from rfl] at t2
    rw [g1, z_ob, if_pos (z_pos (by omega)), if_neg hyes, s2, z_ob, t2, z_ob, hyy]
    exact ⟨_, MX', MY', rfl, rfl, v, u, tx, hR'⟩
