/-! the class's ringedSince, shared; its looks; the reference's forward -/
/-- place a of the row is a ring that passes e -/
def rga (T : Twn) (e : Nat) (Q : List Nat) (a : Nat) : Prop := a < Q.length ∧ wk T (Q.getD a 0) (T.1 0) ∧ rng T e (Q.getD a 0) (T.1 0) = true
theorem x_ringA {T : Twn} (hT : Twf T) {k d e : Nat} (he : e < 1024) {Kf : Prop} {Q : List Nat} {κ : Nat → Nat} {M : Mem} (hQ : QS T k d Kf Q κ M) {a : Nat} (ha : a < Q.length) : ∃ b : Bool, FX0_isRing (nI (Q.getD a 0)) (nI e) M = some (if b = true then 1 else 0) ∧ (b = true ↔ rga T e Q a) ∧ (b = true → FX7_passed (M.1 39 (Q.getD a 0)) = nI (pas T (Q.getD a 0))) := by
  have hN := hT.1.2.1
  obtain ⟨⟨q1, q2⟩, q3, q4, q5, q6, q7⟩ := id hQ
  obtain ⟨w, w1, w2, w3, -⟩ := q5 _ (getD_mem ha)
  have hw := Pre_wk hT (wk_0 hT) w1
  rw [w2] at hw
  generalize cE T (T.1 0) w = c at w3 hw
  have hm8 := p13 hN hw.1
  refine ⟨rng T e (Q.getD a 0) c, x_isRing hT hm8 he hw.2.1 q2 (fun _ => w3), ?_, fun _ => ?_⟩
  · constructor
    · intro h
      have hc := (rng_iff.mp h).2.1
      rw [hc] at hw h
      exact ⟨ha, hw, h⟩
    · rintro ⟨-, h1, h2⟩
      rw [par_inj hw.2.2.2 h1.2.2.2]
      exact h2
  · rw [w3]
    exact x_passed (by have := hw.2.1; omega) (pas_lt hT _) (p13 hN (spt_lt hT _))
theorem x_rsL {T : Twn} (hT : Twf T) {k d : Nat} {Kf : Prop} {Q : List Nat} {κ : Nat → Nat} {M : Mem} (hQ : QS T k d Kf Q κ M) {A : Nat} : ∀ (j i f r : Nat), i + j = Q.length → j < f → r < 512 →
    ∃ y, y < 512 ∧ FX0_ringedSince_L5 f (nI A) (nI r) (nI i) M = some (nI y) ∧ ∀ b, y.testBit b = true ↔ r.testBit b = true ∨ ∃ a, i ≤ a ∧ rga T 0 Q a ∧ Q.getD a 0 &&& A = 0 ∧ (pas T (Q.getD a 0)).testBit b = true := by
  have hN := hT.1.2.1
  have hlt := QS_lt hT hQ
  obtain ⟨⟨q1, q2⟩, q3, q4, q5, q6, q7⟩ := id hQ
  have hQl := nodup_le 8192 Q q4 (fun x hx => p13 hN (hlt x hx))
  intro j
  induction j with
  | zero =>
    intro i f r hi hf hr
    obtain ⟨f, rfl⟩ : ∃ g, f = g + 1 := ⟨f - 1, by omega⟩
    have : i = Q.length := by omega
    subst this
    rw [FX0_ringedSince_L5, q1, if_pos (Int32.le_refl _)]
    refine ⟨r, hr, rfl, fun b => ⟨Or.inl, ?_⟩⟩
    rintro (h | ⟨a, h1, h2, -⟩)
    · exact h
    · have := h2.1
      omega
  | succ j ih =>
    intro i f r hi hf hr
    obtain ⟨f, rfl⟩ : ∃ g, f = g + 1 := ⟨f - 1, by omega⟩
    have hil : i < Q.length := by omega
    have hm8 := p13 hN (hlt _ (getD_mem hil))
    have hand : Q.getD i 0 &&& A < 2147483648 := Nat.lt_of_le_of_lt Nat.and_le_left (by omega)
    have e0 : (nI (Q.getD i 0 &&& A) = 0) ↔ Q.getD i 0 &&& A = 0 := z_eq (b := 0) hand (by decide)
    obtain ⟨b, g1, g2, g3⟩ := x_ringA hT (e := 0) (by decide) hQ hil
    rw [show nI 0 = 0 from rfl] at g1
    rw [FX0_ringedSince_L5, q1, if_neg (nI_ge hil (by omega)), z_gi (by omega) (by decide), z_lt, z_ix (by omega), q3 i hil, z_and, if_congr_prop e0, g1, z_ob]
    have skip : ¬ (rga T 0 Q i ∧ Q.getD i 0 &&& A = 0) → ∃ y, y < 512 ∧ FX0_ringedSince_L5 f (nI A) (nI r) (nI i + 1) M = some (nI y) ∧ ∀ b, y.testBit b = true ↔ r.testBit b = true ∨ ∃ a, i ≤ a ∧ rga T 0 Q a ∧ Q.getD a 0 &&& A = 0 ∧ (pas T (Q.getD a 0)).testBit b = true := by
      intro hno
      rw [nI_1]
      obtain ⟨y, y1, y2, y3⟩ := ih (i + 1) f r (by omega) (by omega) hr
      refine ⟨y, y1, y2, fun b => (y3 b).trans ⟨?_, ?_⟩⟩
      · rintro (h | ⟨a, h1, h2⟩)
        · exact Or.inl h
        · exact Or.inr ⟨a, by omega, h2⟩
      · rintro (h | ⟨a, h1, h2, h3, h4⟩)
        · exact Or.inl h
        · rcases (show a = i ∨ i + 1 ≤ a by omega) with h5 | h5
          · subst h5; exact absurd ⟨h2, h3⟩ hno
          · exact Or.inr ⟨a, h5, h2, h3, h4⟩
    by_cases ha : Q.getD i 0 &&& A = 0
    · rw [if_pos ha]
      cases b with
      | false =>
        have hno : ¬ (rga T 0 Q i ∧ Q.getD i 0 &&& A = 0) := fun z => by
          have := g2.mpr z.1
          cases this
        simp only [Bool.false_eq_true, if_false, if_true, z_ob, z_lt]
        exact skip hno
      | true =>
        have hrg := g2.mp rfl
        simp only [if_true, if_neg (show ¬ (1 : Int32) = 0 by decide), z_ob, z_lt]
        rw [z_gi hm8 (by decide), z_ix (by omega), g3 rfl, z_or, nI_1]
        obtain ⟨y, y1, y2, y3⟩ := ih (i + 1) f (r ||| pas T (Q.getD i 0)) (by omega) (by omega) (Nat.or_lt_two_pow (n := 9) hr (pas_lt hT _))
        refine ⟨y, y1, y2, fun b => (y3 b).trans ⟨?_, ?_⟩⟩
        · rintro (h | ⟨a, h1, h2⟩)
          · rw [Nat.testBit_or, Bool.or_eq_true] at h
            rcases h with h | h
            · exact Or.inl h
            · exact Or.inr ⟨i, Nat.le_refl _, hrg, ha, h⟩
          · exact Or.inr ⟨a, by omega, h2⟩
        · rw [Nat.testBit_or, Bool.or_eq_true]
          rintro (h | ⟨a, h1, h2, h3, h4⟩)
          · exact Or.inl (Or.inl h)
          · rcases (show a = i ∨ i + 1 ≤ a by omega) with h5 | h5
            · subst h5; exact Or.inl (Or.inr h4)
            · exact Or.inr ⟨a, h5, h2, h3, h4⟩
    · rw [if_neg ha]
      simp only [Bool.false_eq_true, if_false, z_ob, z_lt]
      exact skip fun z => ha z.2
theorem x_ringedSince {T : Twn} (hT : Twf T) {k d : Nat} {Kf : Prop} {Q : List Nat} {κ : Nat → Nat} {M : Mem} (hQ : QS T k d Kf Q κ M) {A i : Nat} (hi : i ≤ Q.length) : ∃ y, y < 512 ∧ FX0_ringedSince (nI i) (nI A) M = some (nI y) ∧ ∀ b, y.testBit b = true ↔ b ≠ T.1 0 ∧ ∃ a, i ≤ a ∧ rga T 0 Q a ∧ Q.getD a 0 &&& A = 0 ∧ (pas T (Q.getD a 0)).testBit b = true := by
  have hN := hT.1.2.1
  have hd9 := hT.1.1
  have hQl := nodup_le 8192 Q hQ.2.2.1 (fun x hx => p13 hN (QS_lt hT hQ x hx))
  obtain ⟨y, y1, y2, y3⟩ := x_rsL hT hQ (A := A) (Q.length - i) i FU 0 (by omega) (by rw [z_FU]; omega) (by decide)
  unfold FX0_ringedSince
  rw [show nI 0 = 0 from rfl] at y2
  rw [y2, z_ob, hQ.1.2, z_shl1 (by omega), z_not]
  refine ⟨_, Nat.lt_of_le_of_lt (ndf_le _ _) y1, rfl, fun b => ?_⟩
  rw [ndf_bit, Bool.and_eq_true, y3 b, Nat.testBit_two_pow, Nat.zero_testBit]
  simp only [Bool.false_eq_true, false_or, Bool.not_eq_true', decide_eq_false_iff_not]
  constructor
  · rintro ⟨h1, h2⟩
    exact ⟨fun z => h2 z.symm, h1⟩
  · rintro ⟨h1, h2⟩
    exact ⟨h2, fun z => h1 z.symm⟩
/-- all rings, without the streets A -/
theorem x_ringedA {T : Twn} (hT : Twf T) {Q : List Nat} {κ : Nat → Nat} {M : Mem} (hS : SK T 0 512 Q κ M) {A : Nat} : ∃ y, y < 512 ∧ FX0_ringedSince 0 (nI A) M = some (nI y) ∧ ∀ b, y.testBit b = true ↔ RGD T A b := by
  obtain ⟨y, y1, y2, y3⟩ := x_ringedSince hT hS.1 (A := A) (i := 0) (Nat.zero_le _)
  refine ⟨y, y1, y2, fun b => (y3 b).trans ?_⟩
  unfold RGD
  constructor
  · rintro ⟨h1, a, -, ⟨h2, h3, h4⟩, h5, h6⟩
    obtain ⟨q, hq⟩ := (SK_mem hT hS).mp ⟨getD_mem h2, h3⟩
    exact ⟨h1, _, q, (rng_iff.mp h4).1, h5, hq, h6⟩
  · rintro ⟨h1, m, q, h2, h3, h4, h5⟩
    obtain ⟨g1, g2⟩ := (SK_mem hT hS).mpr ⟨q, h4⟩
    obtain ⟨a, a1, rfl⟩ := mem_getD g1
    exact ⟨h1, a, Nat.zero_le _, ⟨a1, g2, rng_iff.mpr ⟨h2, rfl, by rw [Nat.and_zero]⟩⟩, h3, h5⟩
theorem x_ringedWithout {T : Twn} (hT : Twf T) {Q : List Nat} {κ : Nat → Nat} {M : Mem} (hS : SK T 0 512 Q κ M) {s : Nat} (hs : s < 31) : ∃ y, y < 512 ∧ FX0_ringedWithout (nI s) M = some (nI y) ∧ ∀ b, y.testBit b = true ↔ RGD T (2 ^ s) b := by
  obtain ⟨y, y1, y2, y3⟩ := x_ringedA hT hS (A := 2 ^ s)
  unfold FX0_ringedWithout
  rw [if_pos (z_pos (by omega)), z_lt, z_shl1 (by omega), y2, z_ob]
  exact ⟨y, y1, rfl, y3⟩
theorem x_ringedAll {T : Twn} (hT : Twf T) {Q : List Nat} {κ : Nat → Nat} {M : Mem} (hS : SK T 0 512 Q κ M) : ∃ y, y < 512 ∧ FX0_ringedWithout (-1) M = some (nI y) ∧ ∀ b, y.testBit b = true ↔ RGD T 0 b := by
  obtain ⟨y, y1, y2, y3⟩ := x_ringedA hT hS (A := 0)
  unfold FX0_ringedWithout
  rw [show nI 0 = 0 from rfl] at y2
  rw [if_neg (by decide), z_lt, y2, z_ob]
  exact ⟨y, y1, rfl, y3⟩
/-- the class lays out a town and searches it -/
theorem x_look {tc n hr law N hd been once : Nat} {u : Nat → Nat → Nat} {x : Txt} {M MY : Mem} (hW : TW tc n hr law N u x M MY) (h0 : M.1 tc 0 = nI hd) (h3 : M.1 tc 3 = nI been) (h2 : M.1 tc 2 = nI once) (h4 : M.1 tc 4 = nI n) (hT : Twf (TS u x hr n hd been once)) (hZ : RZ M) {d k : Nat} (hk : k < 512) (hd1 : d < 1024) :
    ∃ Q κ M', FX8_look tc (nI d) (nI k) M = some M' ∧ SK (TS u x hr n hd been once) k d Q κ M' ∧ XTw (TS u x hr n hd been once) M' ∧ RZ M' ∧ ∀ c, (c < 29 ∨ 42 ≤ c) → M'.1 c = M.1 c := by
  obtain ⟨M1, l1, l2, l3, l4⟩ := x_lay hW h0 h3 h2 h4
  have hX : XTw (TS u x hr n hd been once) M1 := l3
  have hZ1 : RZ M1 := hZ.fr fun c h1 h2 => l2 c (by omega)
  obtain ⟨Q, κ, M2, e1, e2, e3⟩ := x_seek (k := k) (d := d) hT hW.1.2.1 hk hd1 hX hZ1
  unfold FX8_look
  rw [l1, z_ob, e1, z_ob]
  refine ⟨Q, κ, M2, rfl, e2, hX.ks e3, QS_RZ hT e2.1, fun c hc => ?_⟩
  rw [e3 c (by omega) (by omega) (by omega)]
  exact l2 c (by omega)
/-- the reference looks and goes forward -/
theorem y_fwd {n hr law hd been once : Nat} {u : Nat → Nat → Nat} {x : Txt} {MX M : Mem} (h : YW n hr law u x MX M) (h0 : M.1 0 0 = nI hd) (h9 : M.1 0 9 = nI been) (h2 : M.1 0 2 = nI once) (hT : Twf (TS u x hr n hd been once)) :
    ∃ M1 M', FX9_looks 0 M = some M1 ∧ FX9_forward M1 = some M' ∧ YTw (TS u x hr n hd been once) M' ∧ FWD (TS u x hr n hd been once) M' ∧ (∀ k, k ≠ 0 → k ≠ 15 → k ≠ 16 → k ≠ 17 → k ≠ 18 → k ≠ 19 → M'.1 k = M.1 k) ∧ ∀ j, j ≠ 40 → M'.1 0 j = M.1 0 j := by
  obtain ⟨M1, m1, m2, m3, m4⟩ := y_looks h h0 h9 h2
  have hY : YTw (TS u x hr n hd been once) M1 := m4
  obtain ⟨M2, f1, f2, f3⟩ := y_forward hT hY
  refine ⟨M1, M2, m1, f1, hY.kp f2 (by omega), f3, fun k a b c d e g => ?_, fun j hj => ?_⟩
  · rw [f2 k g, m2 k a b c d e]
  · rw [f2 0 (by decide), m3 j hj]
theorem bits_eq {a b : Nat} {P : Nat → Prop} (h : ∀ i, a.testBit i = true ↔ P i) (h' : ∀ i, b.testBit i = true ↔ P i) : a = b :=
  Nat.eq_of_testBit_eq fun i => by rw [Bool.eq_iff_iff, h i, h' i]
/-- both sides' town as it is, and where a ring goes -/
theorem both {v : Nat → Nat} {u : Nat → Nat → Nat} {tx : Nat → Txt} {MX MY : Mem} (hR : RR v u tx MX MY) : ∃ T Q κ MX' MY1 MY', T = TS u (tx (v 6)) (v 1) (v 3) (v 0) (v 4) (v 2) ∧ Twf T ∧ FX8_look 1 512 0 MX = some MX' ∧ SK T 0 512 Q κ MX' ∧ XTw T MX' ∧ FX9_looks 0 MY = some MY1 ∧ FX9_forward MY1 = some MY' ∧ YTw T MY' ∧ FWD T MY' ∧ RR v u tx MX' MY' := by
  obtain ⟨hA, hB, hK, hS, hT, hTx, hH, hZ⟩ := id hR
  obtain ⟨⟨x0, x1, x2, x3, x4, x5, x6, x7⟩, ⟨y0, y1, y2, y3, y4, y5, y6, y7⟩⟩ := id hA
  obtain ⟨b0, b1, b2, b3, b4, b5, b6, b7, b8, b9⟩ := hB
  have hT := TS_wf (x := tx (v 6)) (hr := v 1) hS b3 b0 b4 b2
  obtain ⟨Q, κ, MX', e1, e2, e3, e4, e5⟩ := x_look hR.TW x0 x4 x2 x3 hT hZ (d := 512) (k := 0) (by decide) (by decide)
  obtain ⟨MY1, MY', f1, f2, f3, f4, f5, f6⟩ := y_fwd hR.YW y0 y4 y2 hT
  refine ⟨_, Q, κ, MX', MY1, MY', rfl, hT, e1, e2, e3, f1, f2, f3, f4, hR.fr (fun c hc => e5 c (by omega)) e4 ⟨fun c h1 h2 s _ => ?_, fun c h1 h2 => ?_, fun j hj => f6 j (by omega)⟩⟩
  · rw [f5 c (by omega) (by omega) (by omega) (by omega) (by omega) (by omega)]
  · exact f5 c (by omega) (by omega) (by omega) (by omega) (by omega) (by omega)
