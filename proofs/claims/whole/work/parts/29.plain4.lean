/-! taken, feed -/
theorem z_bit2 {c a b : Nat} (hc : c < 2147483648) (ha : a < 32) (hb : b < 32) : ((nI c >>> (nI a &&& 31)) ||| (nI c >>> (nI b &&& 31))) &&& 1 = 0 ↔ (c.testBit a = false ∧ c.testBit b = false) := by
  rw [z_shr hc ha, z_shr hc hb, z_or, show (1 : Int32) = nI 1 from rfl, z_and, show (0 : Int32) = nI 0 from rfl]
  have h1 : (c / 2 ^ a ||| c / 2 ^ b) &&& 1 = bt1 (c / 2 ^ a ||| c / 2 ^ b) 0 := by
    unfold bt1
    rw [Nat.and_one_is_mod, Nat.testBit_zero]
    have := Nat.mod_lt (c / 2 ^ a ||| c / 2 ^ b) (show 0 < 2 by decide)
    by_cases h : (c / 2 ^ a ||| c / 2 ^ b) % 2 = 1
    · simp [h]
    · simp [h]; omega
  rw [h1]
  have h2 := bt1_lt (c / 2 ^ a ||| c / 2 ^ b) 0
  rw [z_eq (by omega) (by decide), bt1_0, Nat.testBit_or, Nat.testBit_div_two_pow, Nat.testBit_div_two_pow, Bool.or_eq_false_iff, Nat.zero_add, Nat.zero_add]
/-- how many of some streets end at some corners -/
def endC (u : Nat → Nat → Nat) (c : Nat) (q : Nat → Bool) (s : Nat) : Bool := (c.testBit (u 1 s) || c.testBit (u 2 s)) && q s
theorem x_endL {n : Nat} {u : Nat → Nat → Nat} {MX MY : Mem} (h : RS n u MX MY) (hn : n ≤ 12) {c : Nat} (hc : c < 512) {S : Int32} {q : Nat → Bool} (hq : ∀ s, s < 12 → ((S >>> (nI s &&& 31)) &&& 1 = 0 ↔ q s = false)) : ∀ (k i f : Nat), i + k = n → k < f →
    FX3_ending_L6 f (nI c) S (nI n) (nI (fb_ct (endC u c q) i)) (nI i) MX = some (nI (fb_ct (endC u c q) n)) := by
  intro k
  induction k with
  | zero =>
    intro i f hi hf
    obtain ⟨f, rfl⟩ : ∃ g, f = g + 1 := ⟨f - 1, by omega⟩
    have : i = n := by omega
    subst this
    rw [FX3_ending_L6, if_pos (Int32.le_refl _)]
  | succ k ih =>
    intro i f hi hf
    obtain ⟨f, rfl⟩ : ∃ g, f = g + 1 := ⟨f - 1, by omega⟩
    obtain ⟨⟨y0, y1, y2, y3, y4⟩, -, ⟨b0, b1, b2, b3, b4, b5, b6⟩⟩ := h i (by omega)
    have ihh := ih (i + 1) f (by omega) (by omega)
    have hle := fb_ct_le (endC u c q) i
    rw [fb_ct_succ] at ihh
    have g1 : ¬ nI n ≤ nI i := nI_ge (by omega) (by omega)
    rw [FX3_ending_L6]
    simp (disch := omega) only [g1, if_false, z_lt, z_gi, z_ix, y1, y2, z_bit2, hq i (by omega), nI_1]
    cases e1 : c.testBit (u 1 i) <;> cases e2 : c.testBit (u 2 i) <;> cases e3 : q i <;> simp [endC, e1, e2, e3] at ihh ⊢ <;> exact ihh
theorem x_ending {n : Nat} {u : Nat → Nat → Nat} {MX MY : Mem} (h : RS n u MX MY) (hn : n ≤ 12) {c : Nat} (hc : c < 512) {S : Int32} {q : Nat → Bool} (hq : ∀ s, s < 12 → ((S >>> (nI s &&& 31)) &&& 1 = 0 ↔ q s = false)) : FX3_ending (nI c) S (nI n) MX = some (nI (fb_ct (endC u c q) n)) := by
  unfold FX3_ending
  have := x_endL h hn hc hq n 0 FU (by omega) (by rw [z_FU]; omega)
  rw [show (0 : Int32) = nI 0 from rfl]
  rw [show fb_ct (endC u c q) 0 = 0 from rfl] at this
  rw [this, z_ob]
theorem m1_bits : ∀ s, s < 12 → (((-1 : Int32) >>> (nI s &&& 31)) &&& 1 = 0 ↔ (fun _ => true) s = false) := by
  intro s hs
  have : ((-1 : Int32) >>> (nI s &&& 31)) &&& 1 = 1 := (by decide +kernel : ∀ s, s < 12 → ((-1 : Int32) >>> (nI s &&& 31)) &&& 1 = 1) s hs
  rw [this]
  simp
theorem y_takL {n : Nat} {u : Nat → Nat → Nat} {MX MY : Mem} (h : RS n u MX MY) (hn : n ≤ 12) (hy : MY.1 0 3 = nI n) {c : Nat} (hc : c < 9) : ∀ (k i f : Nat), i + k = n → k < f →
    FX9_taken_L37 f (nI c) (nI (fb_ct (endC u (2 ^ c) (fun _ => true)) i)) (nI i) MY = some (nI (fb_ct (endC u (2 ^ c) (fun _ => true)) n)) := by
  intro k
  induction k with
  | zero =>
    intro i f hi hf
    obtain ⟨f, rfl⟩ : ∃ g, f = g + 1 := ⟨f - 1, by omega⟩
    have : i = n := by omega
    subst this
    rw [FX9_taken_L37, hy, if_pos (Int32.le_refl _)]
  | succ k ih =>
    intro i f hi hf
    obtain ⟨f, rfl⟩ : ∃ g, f = g + 1 := ⟨f - 1, by omega⟩
    obtain ⟨-, ⟨y0, y1, y2, y3, y4⟩, ⟨b0, b1, b2, b3, b4, b5, b6⟩⟩ := h i (by omega)
    have ihh := ih (i + 1) f (by omega) (by omega)
    rw [fb_ct_succ] at ihh
    have g1 : ¬ nI n ≤ nI i := nI_ge (by omega) (by omega)
    rw [FX9_taken_L37, hy]
    simp (disch := omega) only [g1, if_false, z_lt, z_gi, z_ix, y1, y2, z_eq, nI_1]
    have t1 : (2 ^ c).testBit (u 1 i) = decide (u 1 i = c) := by rw [Nat.testBit_two_pow]; simp [eq_comm]
    have t2 : (2 ^ c).testBit (u 2 i) = decide (u 2 i = c) := by rw [Nat.testBit_two_pow]; simp [eq_comm]
    by_cases e1 : u 1 i = c
    · simp [endC, t1, t2, e1, z_ob, show (1 : Int32) = nI 1 from rfl, nI_add] at ihh ⊢
      exact ihh
    · by_cases e2 : u 2 i = c
      · simp [endC, t1, t2, e1, e2, z_ob, show (1 : Int32) = nI 1 from rfl, nI_add] at ihh ⊢
        exact ihh
      · simp [endC, t1, t2, e1, e2, z_ob] at ihh ⊢
        exact ihh
theorem under_eq (k a : Int32) : FX9_isUnder k a = if a = 0 ∨ k = a ∨ (a = 3 ∧ k = 5) then 1 else 0 := by
  unfold FX9_isUnder
  by_cases h0 : a = 0
  · simp [z_lt, h0]
  · by_cases h1 : k = a
    · simp [z_lt, h0, h1]
    · by_cases h3 : a = 3
      · by_cases h5 : k = 5
        · simp [z_lt, h3, h5]
        · subst h3; simp [z_lt, h1, h5]
      · simp [z_lt, h0, h1, h3]
theorem eq_taken {MX MY : Mem} (h : Sim MX MY) (a b : Int32) : ∃ r, FX8_taken a b MX = some r ∧ FX9_taken a b MY = some r := by
  obtain ⟨v, u, tx, hA, hB, hK, hS, -⟩ := h
  obtain ⟨⟨x0, x1, x2, x3, x4, x5, x6, x7⟩, ⟨y0, y1, y2, y3, y4, y5, y6, y7⟩⟩ := id hA
  have hn : v 3 ≤ 12 := hB.2.2.2.1
  by_cases hb : 0 ≤ b ∧ b ≤ 6
  rotate_left
  · refine ⟨-2, ?_, ?_⟩
    · unfold FX8_taken
      simp only [z_lt, zrb]
      simp [hb]
    · unfold FX9_taken
      simp only [z_in, zi0]
      simp [hb]
  have e := zlt_iff a (n := 20) (by decide)
  rw [show nI (20 + 1) = 21 from rfl, show nI 20 = 20 from rfl] at e
  by_cases ha : 0 ≤ a ∧ a ≤ 20
  rotate_left
  · have ha' : ¬ (0 ≤ a ∧ a < 21) := fun z => ha (e.mp z)
    refine ⟨-12, ?_, ?_⟩
    · unfold FX8_taken
      simp only [z_lt, zrb, zrs]
      simp [hb, ha']
    · unfold FX9_taken
      simp only [z_in, zi0]
      simp [hb, ha]
  have ha' := e.mpr ha
  obtain ⟨i, hi, rfl⟩ := zrange (n := 20) (by decide) ha
  obtain ⟨j, hj, rfl⟩ := zrange (n := 6) (by decide) hb
  have q9 : (9 : Int32) = nI 9 := rfl
  have q6 : (6 : Int32) = nI 6 := rfl
  by_cases h9 : 9 ≤ i
  · have es : nI i - 9 = nI (i - 9) := z_sub (b := 9) h9
    have p0 : (0 : Int32) ≤ nI (i - 9) := z_pos (by omega)
    have p9 : (9 : Int32) ≤ nI i := (z_le (a := 9) (by decide) (by omega)).mpr h9
    by_cases hs : i - 9 < v 3
    · have ps : nI (i - 9) < nI (v 3) := (z_lts (by omega) (by omega)).mpr hs
      obtain ⟨⟨c0, -⟩, ⟨d0, -⟩, ⟨b0, -⟩⟩ := hS (i - 9) hs
      refine ⟨if j = 0 ∨ u 0 (i - 9) = j ∨ (j = 3 ∧ u 0 (i - 9) = 5) then nI (i - 9) else -13, ?_, ?_⟩
      · unfold FX8_taken
        simp only [z_lt, zrb, zrs, es, x3]
        simp only [hb, ha', and_self, decide_true, Bool.not_true, Bool.false_eq_true, if_false, p0, if_true, ps]
        rw [x_isA hS hn hs (by omega), z_ob]
        by_cases hc : j = 0 ∨ u 0 (i - 9) = j ∨ (j = 3 ∧ u 0 (i - 9) = 5)
        · simp only [if_pos hc]
          rfl
        · simp only [if_neg hc]
          rfl
      · unfold FX9_taken
        simp only [z_in, zi0, hb, ha, and_self, not_true, if_false, p9, if_true, es, y3, ps]
        by_cases h6 : 6 ≤ nI j
        · have : j = 6 := by
            have := (z_le (a := 6) (b := j) (by decide) (by omega)).mp h6
            omega
          subst this
          have hc : ¬ ((6 : Nat) = 0 ∨ u 0 (i - 9) = 6 ∨ ((6 : Nat) = 3 ∧ u 0 (i - 9) = 5)) := by omega
          simp only [if_pos h6, z_ob, if_neg hc]
          rfl
        · rw [if_neg h6, z_gi (by omega) (by decide), z_ix (by omega), d0, under_eq, show (3 : Int32) = nI 3 from rfl, show (5 : Int32) = nI 5 from rfl, show (0 : Int32) = nI 0 from rfl]
          simp only [z_eq (show j < 2147483648 by omega) (show 0 < 2147483648 by decide), z_eq (show u 0 (i - 9) < 2147483648 by omega) (show j < 2147483648 by omega), z_eq (show j < 2147483648 by omega) (show 3 < 2147483648 by decide), z_eq (show u 0 (i - 9) < 2147483648 by omega) (show 5 < 2147483648 by decide)]
          by_cases hc : j = 0 ∨ u 0 (i - 9) = j ∨ (j = 3 ∧ u 0 (i - 9) = 5)
          · simp only [if_pos hc]
            rfl
          · simp only [if_neg hc]
            rfl
    · have ps : ¬ nI (i - 9) < nI (v 3) := fun z => hs ((z_lts (by omega) (by omega)).mp z)
      refine ⟨-11, ?_, ?_⟩
      · unfold FX8_taken
        simp only [z_lt, zrb, zrs, es, x3]
        simp [hb, ha', p0, ps]
      · unfold FX9_taken
        simp only [z_in, zi0, es, y3]
        simp [hb, ha, p9, ps]
  · have p9 : ¬ (9 : Int32) ≤ nI i := fun z => h9 ((z_le (a := 9) (by decide) (by omega)).mp z)
    have p0 : ¬ (0 : Int32) ≤ nI i - 9 := by
      have := pk_sneg (a := i) (b := 9) (by decide) (by omega)
      exact Int32.not_le.mpr this
    have hc9 : 2 ^ i < 512 := Nat.pow_lt_pow_right (by decide) (show i < 9 by omega)
    have hX := x_ending hS hn hc9 m1_bits
    have hY := y_takL hS hn y3 (c := i) (by omega) (v 3) 0 FU (by omega) (by rw [z_FU]; omega)
    rw [show fb_ct (endC u (2 ^ i) fun _ => true) 0 = 0 from rfl] at hY
    by_cases h6 : nI j = 6
    · refine ⟨nI (fb_ct (endC u (2 ^ i) fun _ => true) (v 3)), ?_, ?_⟩
      · unfold FX8_taken
        simp only [z_lt, zrb, zrs, x3, z_shl1 (show i < 32 by omega)]
        simp only [hb, ha', and_self, decide_true, Bool.not_true, Bool.false_eq_true, if_false, p0, h6, if_true]
        rw [hX, z_ob]
        exact if_neg (by decide)
      · unfold FX9_taken
        simp only [z_in, zi0, hb, ha, and_self, not_true, if_false, p9]
        rw [show (0 : Int32) = nI 0 from rfl, hY, z_ob, if_pos h6]
    · refine ⟨-13, ?_, ?_⟩
      · unfold FX8_taken
        simp only [z_lt, zrb, zrs, x3]
        simp [hb, ha', p0, h6]
      · unfold FX9_taken
        simp only [z_in, zi0, hb, ha, and_self, not_true, if_false, p9]
        rw [show (0 : Int32) = nI 0 from rfl, hY, z_ob, if_neg h6]

-- feed
theorem x_isByte (a : Int32) : FX8_isByte a = if 0 ≤ a ∧ a ≤ 255 then 1 else 0 := by
  unfold FX8_isByte
  simp only [z_lt, zrg]
  by_cases h : 0 ≤ a ∧ a ≤ 255 <;> simp [h]
theorem y_isByte (a : Int32) : FX9_isByte a = some (if 0 ≤ a ∧ a ≤ 255 then 1 else 0) := by
  unfold FX9_isByte
  simp only [z_in]
  rw [z_gd]
  by_cases h : 0 ≤ a ∧ a ≤ 255 <;> simp [h]
theorem x_put {MX : Mem} {k : Nat} (h : MX.1 10 1 = nI k) (hk : k < 160) (b : Int32) : FX5_put b MX = some (wr (wr MX 10 1 (nI (k + 1))) 11 k b) := by
  unfold FX5_put
  have g : ¬ (160 : Int32) ≤ nI k := nI_ge (b := 160) (by omega) (by decide)
  simp (disch := omega) only [h, g, if_false, z_lt, z_gi, z_ix, nI_1]
/-- a byte more on the tape -/
theorem RR.put {v : Nat → Nat} {u : Nat → Nat → Nat} {tx : Nat → Txt} {MX MY : Mem} (h : RR v u tx MX MY) {b : Nat} (hb : b < 256) (hk : v 7 < 160) : RR (va_up v 7 (v 7 + 1)) (fun j i => if j = 5 ∧ i = v 7 then b else u j i) tx (wr (wr MX 10 1 (nI (v 7 + 1))) 11 (v 7) (nI b)) (wr (wr MY 6 (v 7) (nI b)) 0 11 (nI (v 7 + 1))) := by
  obtain ⟨hA, hB, hK, hS, hT, hTx, hH, hZ⟩ := h
  refine ⟨?_, ?_, ?_, ?_, ?_, ?_, ?_, ?_⟩
  · unfold RA at hA ⊢
    simp [wr_at, va_up, hA]
  · unfold RB at hB ⊢
    simp [va_up, hB]
    omega
  · unfold RK at hK ⊢
    simpa [wr_at, va_up] using hK
  · intro s hs
    simpa [wr_at, va_up] using hS s (by simpa [va_up] using hs)
  · intro i hi
    have hi' : i < v 7 + 1 := by simpa [va_up] using hi
    by_cases hin : i = v 7
    · subst hin
      simp [wr_at, hb]
    · simpa [wr_at, hin] using hT i (by omega)
  · have e5 : va_up v 7 (v 7 + 1) 5 = v 5 := by simp [va_up]
    rw [e5]
    exact hTx.fr hB.2.2.2.2.2.2.1 (fun c h1 h2 => by simp only [wr_cell _ _ (show c ≠ 10 by omega), wr_cell _ _ (show c ≠ 11 by omega)]) (by funext i; simp [wr_at]) (by funext i; simp [wr_at]) (by funext i; simp [wr_at])
  · intro s hs
    have q1 : 44 + s ≠ 10 ∧ 44 + s ≠ 11 ∧ 48 + s ≠ 10 ∧ 48 + s ≠ 11 := by omega
    have := hH s hs
    simp only [wr_at, q1]
    simpa using this
  · exact hZ.fr (fun c h1 h2 => by simp only [wr_cell _ _ (show c ≠ 10 by omega), wr_cell _ _ (show c ≠ 11 by omega)])
/-- some bytes more: the class's memory and the reference's -/
def putX (g : Nat → Nat) : Nat → Nat → Mem → Mem
  | 0, _, M => M
  | n + 1, k, M => wr (wr (putX g n k M) 10 1 (nI (k + n + 1))) 11 (k + n) (nI (g n))
def putY (g : Nat → Nat) : Nat → Nat → Mem → Mem
  | 0, _, M => M
  | n + 1, k, M => wr (wr (putY g n k M) 6 (k + n) (nI (g n))) 0 11 (nI (k + n + 1))
theorem RR.puts {g : Nat → Nat} {tx : Nat → Txt} : ∀ (n : Nat) {v : Nat → Nat} {u : Nat → Nat → Nat} {MX MY : Mem}, RR v u tx MX MY → (∀ i, i < n → g i < 256) → v 7 + n ≤ 160 → ∃ v' u', RR v' u' tx (putX g n (v 7) MX) (putY g n (v 7) MY) ∧ v' 7 = v 7 + n
  | 0, v, u, MX, MY, h, _, _ => ⟨v, u, h, rfl⟩
  | n + 1, v, u, MX, MY, h, hg, hn => by
    obtain ⟨v', u', h1, h2⟩ := RR.puts n h (fun i hi => hg i (by omega)) (by omega)
    have h3 := h1.put (b := g n) (hg n (by omega)) (by omega)
    rw [h2] at h3
    exact ⟨_, _, h3, by simp [va_up]; omega⟩
theorem putY_11 (g : Nat → Nat) : ∀ (n k : Nat) (M : Mem), M.1 0 11 = nI k → (putY g n k M).1 0 11 = nI (k + n)
  | 0, _, _, h => h
  | n + 1, k, M, _ => by simp [putY, wr_at]; rfl
theorem putX_1 (g : Nat → Nat) : ∀ (n k : Nat) (M : Mem), M.1 10 1 = nI k → (putX g n k M).1 10 1 = nI (k + n)
  | 0, _, _, h => h
  | n + 1, k, M, _ => by simp [putX, wr_at]; rfl
theorem y_feedL {p2 p3 p4 p5 p6 : Int32} {g : Nat → Nat} (h0 : p2 = nI (g 0)) (h1 : p3 = nI (g 1)) (h2 : p4 = nI (g 2)) (h3 : p5 = nI (g 3)) (h4 : p6 = nI (g 4)) {n k0 : Nat} (hn : n ≤ 5) {M : Mem} (hM : M.1 0 11 = nI k0) (hk0 : k0 + n ≤ 160) : ∀ (k i f : Nat), i + k = n → k < f →
    FX9_feed_L68 f (nI n) p2 p3 p4 p5 p6 (nI i) (putY g i k0 M) = some (putY g n k0 M) := by
  intro k
  induction k with
  | zero =>
    intro i f hi hf
    obtain ⟨f, rfl⟩ : ∃ g, f = g + 1 := ⟨f - 1, by omega⟩
    have : i = n := by omega
    subst this
    rw [FX9_feed_L68, if_pos (Int32.le_refl _)]
  | succ k ih =>
    intro i f hi hf
    obtain ⟨f, rfl⟩ : ∃ g, f = g + 1 := ⟨f - 1, by omega⟩
    have ihh := ih (i + 1) f (by omega) (by omega)
    have g1 : ¬ nI n ≤ nI i := nI_ge (by omega) (by omega)
    rw [FX9_feed_L68, putY_11 g i k0 M hM]
    have hv : (if nI i = 0 then p2 else if nI i = 1 then p3 else if nI i = 2 then p4 else if nI i = 3 then p5 else p6) = nI (g i) := by
      rcases (show i = 0 ∨ i = 1 ∨ i = 2 ∨ i = 3 ∨ i = 4 by omega) with rfl | rfl | rfl | rfl | rfl
      · exact h0
      · exact h1
      · exact h2
      · exact h3
      · exact h4
    simp (disch := omega) only [g1, if_false, z_lt, hv, z_gi, z_ix, nI_1]
    rw [wr_cell _ _ (show (0 : Nat) ≠ 6 by decide), putY_11 g i k0 M hM, nI_1]
    exact ihh
theorem eq_feed {MX MY : Mem} (h : Sim MX MY) (n a b c d e : Int32) : ∃ r MX' MY', FX8_feed n a b c d e MX = some (r, MX') ∧ FX9_feed n a b c d e MY = some (r, MY') ∧ Sim MX' MY' := by
  obtain ⟨v, u, tx, h⟩ := h
  have h00 := h
  obtain ⟨hA, hB, -⟩ := h
  obtain ⟨⟨x0, x1, x2, x3, x4, x5, x6, x7⟩, ⟨y0, y1, y2, y3, y4, y5, y6, y7⟩⟩ := id hA
  have h7 : v 7 ≤ 160 := hB.2.2.2.2.2.2.2.2.1
  by_cases hn : 1 ≤ n ∧ n ≤ 5
  rotate_left
  · refine ⟨-2, MX, MY, ?_, ?_, v, u, tx, h00⟩
    · unfold FX8_feed
      simp only [z_lt, zrb]
      simp [hn]
    · unfold FX9_feed
      simp only [z_in, zi0]
      simp [hn, z_ob]
  by_cases hbs : (0 ≤ a ∧ a ≤ 255) ∧ (0 ≤ b ∧ b ≤ 255) ∧ (0 ≤ c ∧ c ≤ 255) ∧ (0 ≤ d ∧ d ≤ 255) ∧ (0 ≤ e ∧ e ≤ 255)
  rotate_left
  · refine ⟨-2, MX, MY, ?_, ?_, v, u, tx, h00⟩
    · unfold FX8_feed
      simp only [z_lt, zrb, x_isByte, zi0]
      have : (if ¬ (0 ≤ a ∧ a ≤ 255) then true else if ¬ (0 ≤ b ∧ b ≤ 255) then true else if ¬ (0 ≤ c ∧ c ≤ 255) then true else if ¬ (0 ≤ d ∧ d ≤ 255) then true else if ¬ (0 ≤ e ∧ e ≤ 255) then true else false) = true := by
        by_cases g1 : 0 ≤ a ∧ a ≤ 255 <;> by_cases g2 : 0 ≤ b ∧ b ≤ 255 <;> by_cases g3 : 0 ≤ c ∧ c ≤ 255 <;> by_cases g4 : 0 ≤ d ∧ d ≤ 255 <;> by_cases g5 : 0 ≤ e ∧ e ≤ 255 <;> simp only [g1, g2, g3, g4, g5, and_self, not_true, not_false_eq_true, if_true, if_false]
        exact absurd ⟨g1, g2, g3, g4, g5⟩ hbs
      rw [this]
      simp [hn]
    · unfold FX9_feed
      simp only [z_in, zi0, y_isByte, z_ob]
      have : (if ¬ (1 ≤ n ∧ n ≤ 5) then some true else if ¬ (0 ≤ a ∧ a ≤ 255) then some true else if ¬ (0 ≤ b ∧ b ≤ 255) then some true else if ¬ (0 ≤ c ∧ c ≤ 255) then some true else if ¬ (0 ≤ d ∧ d ≤ 255) then some true else if ¬ (0 ≤ e ∧ e ≤ 255) then some true else some false) = some true := by
        rw [if_neg (not_not_intro hn)]
        by_cases g1 : 0 ≤ a ∧ a ≤ 255 <;> by_cases g2 : 0 ≤ b ∧ b ≤ 255 <;> by_cases g3 : 0 ≤ c ∧ c ≤ 255 <;> by_cases g4 : 0 ≤ d ∧ d ≤ 255 <;> by_cases g5 : 0 ≤ e ∧ e ≤ 255 <;> simp only [g1, g2, g3, g4, g5, and_self, not_true, not_false_eq_true, if_true, if_false]
        exact absurd ⟨g1, g2, g3, g4, g5⟩ hbs
      rw [this, z_ob]
      rfl
  obtain ⟨ga, gb, gc, gd', ge⟩ := id hbs
  obtain ⟨n, hn5, rfl⟩ := zrange (n := 5) (a := n) (by decide) ⟨Int32.le_trans (by decide) hn.1, hn.2⟩
  have hn1 : 1 ≤ n := (z_le (a := 1) (by decide) (by omega)).mp hn.1
  obtain ⟨a, ha, rfl⟩ := zrange (n := 255) (by decide) ga
  obtain ⟨b, hb, rfl⟩ := zrange (n := 255) (by decide) gb
  obtain ⟨c, hc, rfl⟩ := zrange (n := 255) (by decide) gc
  obtain ⟨d, hd, rfl⟩ := zrange (n := 255) (by decide) gd'
  obtain ⟨e, he, rfl⟩ := zrange (n := 255) (by decide) ge
  have hX0 : FX8_feed (nI n) (nI a) (nI b) (nI c) (nI d) (nI e) MX = if (nI (v 7) + nI n) ≤ 160 then
        ob (FX5_put (nI a) MX) fun q9 =>
        ob (α := Mem) (if nI n ≤ 1 then some q9 else ob (FX5_put (nI b) q9) fun q29 => some q29) fun q11 =>
        ob (α := Mem) (if nI n ≤ 2 then some q11 else ob (FX5_put (nI c) q11) fun q27 => some q27) fun q14 =>
        ob (α := Mem) (if nI n ≤ 3 then some q14 else ob (FX5_put (nI d) q14) fun q25 => some q25) fun q17 =>
        ob (α := Mem) (if nI n ≤ 4 then some q17 else ob (FX5_put (nI e) q17) fun q23 => some q23) fun q20 =>
        some (q20.1 10 1, q20)
      else some ((-4), MX) := by
    unfold FX8_feed
    simp only [z_lt, zrb, x_isByte, zi0, x7]
    simp only [hn, ga, gb, gc, gd', ge, and_self, decide_true, Bool.not_true, Bool.false_eq_true, if_false, not_true]
  have hY0 : FX9_feed (nI n) (nI a) (nI b) (nI c) (nI d) (nI e) MY = if (nI (v 7) + nI n) ≤ 160 then
      ob (FX9_feed_L68 FU (nI n) (nI a) (nI b) (nI c) (nI d) (nI e) 0 MY) fun q5 => some (q5.1 0 11, q5) else some ((-4), MY) := by
    unfold FX9_feed
    simp only [z_in, zi0, y_isByte, z_ob, y7]
    simp only [hn, ga, gb, gc, gd', ge, and_self, not_true, if_false, z_ob, Bool.false_eq_true]
  rw [hX0, hY0, nI_add, show (160 : Int32) = nI 160 from rfl]
  simp only [z_le (show v 7 + n < 2147483648 by omega) (show 160 < 2147483648 by decide)]
  by_cases h160 : v 7 + n ≤ 160
  rotate_left
  · rw [if_neg h160, if_neg h160]
    exact ⟨-4, MX, MY, rfl, rfl, v, u, tx, h00⟩
  rw [if_pos h160, if_pos h160]
  let g : Nat → Nat := fun i => if i = 0 then a else if i = 1 then b else if i = 2 then c else if i = 3 then d else e
  have hg : ∀ i, i < n → g i < 256 := by
    intro i _
    show (if i = 0 then a else if i = 1 then b else if i = 2 then c else if i = 3 then d else e) < 256
    repeat' split
    all_goals omega
  obtain ⟨v', u', hR, h7'⟩ := h00.puts (g := g) n hg h160
  have hYL := y_feedL (g := g) (p2 := nI a) (p3 := nI b) (p4 := nI c) (p5 := nI d) (p6 := nI e) rfl rfl rfl rfl rfl hn5 y7 h160 n 0 FU (by omega) (by rw [z_FU]; omega)
  rw [show putY g 0 (v 7) MY = MY from rfl, show nI 0 = 0 from rfl] at hYL
  refine ⟨nI (v 7 + n), putX g n (v 7) MX, putY g n (v 7) MY, ?_, ?_, v', u', tx, hR⟩
  · have q : ∀ m, m < 5 → FX5_put (nI (g m)) (putX g m (v 7) MX) = (if v 7 + m < 160 then some (putX g (m + 1) (v 7) MX) else FX5_put (nI (g m)) (putX g m (v 7) MX)) := by
      intro m _
      by_cases h : v 7 + m < 160
      · rw [if_pos h, x_put (putX_1 g m (v 7) MX x7) h]
        rfl
      · rw [if_neg h]
    have q0 := q 0 (by decide)
    have q1 := q 1 (by decide)
    have q2 := q 2 (by decide)
    have q3 := q 3 (by decide)
    have q4 := q 4 (by decide)
    rw [show nI (g 0) = nI a from rfl, show putX g 0 (v 7) MX = MX from rfl] at q0
    rw [show nI (g 1) = nI b from rfl] at q1
    rw [show nI (g 2) = nI c from rfl] at q2
    rw [show nI (g 3) = nI d from rfl] at q3
    rw [show nI (g 4) = nI e from rfl] at q4
    have e1 := putX_1 g n (v 7) MX x7
    rcases (show n = 1 ∨ n = 2 ∨ n = 3 ∨ n = 4 ∨ n = 5 by omega) with rfl | rfl | rfl | rfl | rfl
    · rw [if_pos (by omega)] at q0
      simp only [q0, z_ob]
      rw [if_pos (by decide), z_ob, if_pos (by decide), z_ob, if_pos (by decide), z_ob, if_pos (by decide), z_ob, e1]
    · rw [if_pos (by omega)] at q0 q1
      simp only [q0, q1, z_ob]
      rw [if_neg (by decide), z_ob, if_pos (by decide), z_ob, if_pos (by decide), z_ob, if_pos (by decide), z_ob, e1]
    · rw [if_pos (by omega)] at q0 q1 q2
      simp only [q0, q1, q2, z_ob]
      rw [if_neg (by decide), z_ob]
      simp only [q2, z_ob]
      rw [if_neg (by decide), z_ob, if_pos (by decide), z_ob, if_pos (by decide), z_ob, e1]
    · rw [if_pos (by omega)] at q0 q1 q2 q3
      simp only [q0, q1, z_ob]
      rw [if_neg (by decide), z_ob]
      simp only [q2, z_ob]
      rw [if_neg (by decide), z_ob]
      simp only [q3, z_ob]
      rw [if_neg (by decide), z_ob, if_pos (by decide), z_ob, e1]
    · rw [if_pos (by omega)] at q0 q1 q2 q3 q4
      simp only [q0, q1, z_ob]
      rw [if_neg (by decide), z_ob]
      simp only [q2, z_ob]
      rw [if_neg (by decide), z_ob]
      simp only [q3, z_ob]
      rw [if_neg (by decide), z_ob]
      simp only [q4, z_ob]
      rw [if_neg (by decide), z_ob, e1]
  · rw [hYL, z_ob, putY_11 g n (v 7) MY y7]
