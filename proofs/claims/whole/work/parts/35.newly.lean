/-! newly -/
def blt (u : Nat → Nat → Nat) (n : Nat) : Nat := orB n (fun _ => true) (fun s => 2 ^ u 1 s ||| 2 ^ u 2 s)
theorem blt_lt {u : Nat → Nat → Nat} {n : Nat} (hu : ∀ s, s < n → u 1 s < 9 ∧ u 2 s < 9) : ∀ {i}, i ≤ n → orB i (fun _ => true) (fun s => 2 ^ u 1 s ||| 2 ^ u 2 s) < 512 := by
  intro i hi
  exact orB_lt (b := 9) fun k hk _ => Nat.or_lt_two_pow (Nat.pow_lt_pow_right (by decide) (hu k (by omega)).1) (Nat.pow_lt_pow_right (by decide) (hu k (by omega)).2)
theorem x_buL {n : Nat} {u : Nat → Nat → Nat} {MX MY : Mem} (h : RS n u MX MY) (hn : n ≤ 12) : ∀ (k i f : Nat), i + k = n → k < f →
    FX3_built_L4 f (nI n) (nI (orB i (fun _ => true) (fun s => 2 ^ u 1 s ||| 2 ^ u 2 s))) (nI i) MX = some (nI (blt u n)) := by
  intro k
  induction k with
  | zero =>
    intro i f hi hf
    obtain ⟨f, rfl⟩ : ∃ g, f = g + 1 := ⟨f - 1, by omega⟩
    have : i = n := by omega
    subst this
    rw [FX3_built_L4, if_pos (Int32.le_refl _)]
    rfl
  | succ k ih =>
    intro i f hi hf
    obtain ⟨f, rfl⟩ : ∃ g, f = g + 1 := ⟨f - 1, by omega⟩
    obtain ⟨⟨y0, y1, y2, y3, y4⟩, -, ⟨b0, b1, b2, b3, b4, b5, b6⟩⟩ := h i (by omega)
    have ihh := ih (i + 1) f (by omega) (by omega)
    rw [orB, if_pos rfl] at ihh
    have g1 : ¬ nI n ≤ nI i := nI_ge (by omega) (by omega)
    rw [FX3_built_L4]
    simp (disch := omega) only [g1, if_false, z_lt, z_gi, z_ix, y1, y2, z_shl1, z_or, nI_1]
    exact ihh
theorem y_buL {n : Nat} {u : Nat → Nat → Nat} {MX MY : Mem} (h : RS n u MX MY) (hn : n ≤ 12) (hy : MY.1 0 3 = nI n) : ∀ (k i f : Nat), i + k = n → k < f →
    FX9_built_L4 f (nI (orB i (fun _ => true) (fun s => 2 ^ u 1 s ||| 2 ^ u 2 s))) (nI i) MY = some (nI (blt u n)) := by
  intro k
  induction k with
  | zero =>
    intro i f hi hf
    obtain ⟨f, rfl⟩ : ∃ g, f = g + 1 := ⟨f - 1, by omega⟩
    have : i = n := by omega
    subst this
    rw [FX9_built_L4, hy, if_pos (Int32.le_refl _)]
    rfl
  | succ k ih =>
    intro i f hi hf
    obtain ⟨f, rfl⟩ : ∃ g, f = g + 1 := ⟨f - 1, by omega⟩
    obtain ⟨-, ⟨y0, y1, y2, y3, y4⟩, ⟨b0, b1, b2, b3, b4, b5, b6⟩⟩ := h i (by omega)
    have ihh := ih (i + 1) f (by omega) (by omega)
    rw [orB, if_pos rfl] at ihh
    have g1 : ¬ nI n ≤ nI i := nI_ge (by omega) (by omega)
    rw [FX9_built_L4, hy]
    simp (disch := omega) only [g1, if_false, z_lt, z_gi, z_ix, y1, y2, z_shl1, z_or, nI_1]
    exact ihh
theorem x_built {n : Nat} {u : Nat → Nat → Nat} {MX MY : Mem} (h : RS n u MX MY) (hn : n ≤ 12) : FX3_built (nI n) MX = some (nI (blt u n)) := by
  unfold FX3_built
  have := x_buL h hn n 0 FU (by omega) (by rw [z_FU]; omega)
  rw [orB, show nI 0 = 0 from rfl] at this
  rw [this, z_ob]
theorem y_built {n : Nat} {u : Nat → Nat → Nat} {MX MY : Mem} (h : RS n u MX MY) (hn : n ≤ 12) (hy : MY.1 0 3 = nI n) : FX9_built MY = some (nI (blt u n)) := by
  unfold FX9_built
  have := y_buL h hn hy n 0 FU (by omega) (by rw [z_FU]; omega)
  rw [orB, show nI 0 = 0 from rfl] at this
  rw [this, z_ob]
theorem i01 : ((0 : Int32) = 1) = False := by decide
theorem i01' : ((1 : Int32) = 0) = False := by decide
theorem bt1_if (m s : Nat) : bt1 m s = if m.testBit s = true then 1 else 0 := by
  unfold bt1
  cases h : m.testBit s <;> simp
theorem y_bAL {n : Nat} {u : Nat → Nat → Nat} {MX MY : Mem} (h : RS n u MX MY) (hn : n ≤ 12) (hy : MY.1 0 3 = nI n) {c B : Nat} (hc : c < 512) (hB : B < 4096) (hno : ∀ s, s < n → B.testBit s = true → ¬ (c.testBit (u 1 s) = true ∧ c.testBit (u 2 s) = true)) : ∀ (k i f : Nat), i + k = n → k < f →
    FX9_bondsAt_L5 f (nI c) (nI B) (nI (fb_ct (endC u c (fun s => B.testBit s)) i)) (nI i) MY = some (nI (fb_ct (endC u c (fun s => B.testBit s)) n)) := by
  intro k
  induction k with
  | zero =>
    intro i f hi hf
    obtain ⟨f, rfl⟩ : ∃ g, f = g + 1 := ⟨f - 1, by omega⟩
    have : i = n := by omega
    subst this
    rw [FX9_bondsAt_L5, hy, if_pos (Int32.le_refl _)]
  | succ k ih =>
    intro i f hi hf
    obtain ⟨f, rfl⟩ : ∃ g, f = g + 1 := ⟨f - 1, by omega⟩
    obtain ⟨-, ⟨y0, y1, y2, y3, y4⟩, ⟨b0, b1, b2, b3, b4, b5, b6⟩⟩ := h i (by omega)
    have ihh := ih (i + 1) f (by omega) (by omega)
    have hni := hno i (by omega)
    rw [fb_ct_succ] at ihh
    have g1 : ¬ nI n ≤ nI i := nI_ge (by omega) (by omega)
    rw [FX9_bondsAt_L5, hy]
    simp (disch := omega) only [g1, if_false, z_gi, z_ix, y1, y2, z_b1, z_lt, nI_1, z_bit, bt1_if]
    cases e3 : B.testBit i
    · simp [endC, e3] at ihh ⊢
      simp only [show nI 0 = 0 from rfl, i01, if_false, z_ob, Int32.add_zero]
      exact ihh
    · rw [e3] at hni
      cases e1 : c.testBit (u 1 i) <;> cases e2 : c.testBit (u 2 i)
      · simp [endC, e1, e2, e3, nI_add] at ihh ⊢
        simp only [show nI 0 = 0 from rfl, show nI 1 = 1 from rfl, i01, if_true, z_ob, Int32.add_zero, nI_1]
        exact ihh
      · simp [endC, e1, e2, e3, nI_add] at ihh ⊢
        simp only [show nI 0 = 0 from rfl, show nI 1 = 1 from rfl, i01, if_true, z_ob, Int32.add_zero, nI_1]
        exact ihh
      · simp [endC, e1, e2, e3, nI_add] at ihh ⊢
        simp only [show nI 0 = 0 from rfl, show nI 1 = 1 from rfl, i01, if_true, z_ob, Int32.add_zero, nI_1]
        exact ihh
      · exact absurd ⟨e1, e2⟩ (hni rfl)
theorem y_bondsAt {n : Nat} {u : Nat → Nat → Nat} {MX MY : Mem} (h : RS n u MX MY) (hn : n ≤ 12) (hy : MY.1 0 3 = nI n) {c B : Nat} (hc : c < 512) (hB : B < 4096) (hno : ∀ s, s < n → B.testBit s = true → ¬ (c.testBit (u 1 s) = true ∧ c.testBit (u 2 s) = true)) : FX9_bondsAt (nI c) (nI B) MY = some (nI (fb_ct (endC u c (fun s => B.testBit s)) n)) := by
  unfold FX9_bondsAt
  have := y_bAL h hn hy hc hB hno n 0 FU (by omega) (by rw [z_FU]; omega)
  rw [show fb_ct (endC u c (fun s => B.testBit s)) 0 = 0 from rfl, show nI 0 = 0 from rfl] at this
  rw [this, z_ob]
theorem nwL {n : Nat} {u : Nat → Nat → Nat} {MX MY : Mem} (h : RS n u MX MY) (hn : n ≤ 12) (hy : MY.1 0 3 = nI n) {K : Nat} (hK : K < 512) : ∀ (k i f L S : Nat) (a b c : Int32), i + k = 9 → k < f → L < 512 → S < 512 → (∀ j, L.testBit j = (K.testBit j && !S.testBit j)) →
    ∃ r, FX8_newly_L38 f (nI n) (nI (bnd u n)) (nI L) a b c (nI i) MX = some r ∧ FX9_newly_L24 f (nI (bnd u n)) (nI K) a b c (nI S) (nI i) MY = some r := by
  intro k
  induction k with
  | zero =>
    intro i f L S a b c hi hf hL hS hr
    obtain ⟨f, rfl⟩ : ∃ g, f = g + 1 := ⟨f - 1, by omega⟩
    have : i = 9 := by omega
    subst this
    rw [FX8_newly_L38, FX9_newly_L24, if_pos (by decide), if_pos (by decide)]
    exact ⟨_, rfl, rfl⟩
  | succ k ih =>
    intro i f L S a b c hi hf hL hS hr
    obtain ⟨f, rfl⟩ : ∃ g, f = g + 1 := ⟨f - 1, by omega⟩
    have g1 : ¬ 9 ≤ nI i := nI_ge (b := 9) (by omega) (by decide)
    rw [FX8_newly_L38, FX9_newly_L24]
    have hb := hr i
    have i9 : i < 9 := by omega
    have e5 := x_part h hn (B := bnd u n) i9
    have e6 := y_part h hn hy (bnd_lt u hn) i9
    have e7 : ∀ s, s < n → (bnd u n).testBit s = true → ¬ ((jcl u n (fun t => !(bnd u n).testBit t) (2 ^ i)).testBit (u 1 s) = true ∧ (jcl u n (fun t => !(bnd u n).testBit t) (2 ^ i)).testBit (u 2 s) = true) := fun s hs hbs => bond_apart (jin h) i9 hbs
    have hP := jcl_lt (jin h) (fun t => !(bnd u n).testBit t) (p2_lt i9)
    have e8 := y_bondsAt h hn hy hP (bnd_lt u hn) e7
    have e9 := x_ending h hn hP (S := nI (bnd u n)) (q := fun s => (bnd u n).testBit s) (fun s hs => by
      have := bnd_lt u hn
      rw [z_b0 (by omega) (by omega)])
    generalize jcl u n (fun t => !(bnd u n).testBit t) (2 ^ i) = P at e5 e6 e8 e9 hP
    generalize fb_ct (endC u P (fun s => (bnd u n).testBit s)) n = Q at e8 e9
    simp (disch := omega) only [g1, if_false, z_lt, z_b0, z_b1, nI_1, z_shl1, e5, e6, z_ob, e8, e9, z_or]
    cases eK : K.testBit i <;> cases eS : S.testBit i <;> rw [eK, eS] at hb <;> simp only [hb, Bool.and_true, Bool.and_false, Bool.true_and, Bool.false_and, Bool.not_true, Bool.not_false, if_true, if_false, Bool.false_eq_true, z_lt]
    · exact ih (i + 1) f L S _ _ _ (by omega) (by omega) hL hS hr
    · exact ih (i + 1) f L S _ _ _ (by omega) (by omega) hL hS hr
    · obtain ⟨r, r1, r2⟩ := ih (i + 1) f (ndf L P) (S ||| P) (a + 1) (if nI Q = 0 then b + 1 else b) (if nI Q = 1 then c + 1 else c) (by omega) (by omega) (Nat.lt_of_le_of_lt (Nat.le_of_testBit fun j hj => by rw [ndf_bit] at hj; cases eL : L.testBit j <;> simp [eL] at hj ⊢) hL) (Nat.or_lt_two_pow (n := 9) hS hP) (by
        intro j
        rw [ndf_bit, hr j, Nat.testBit_or]
        cases K.testBit j <;> cases S.testBit j <;> cases P.testBit j <;> rfl)
      refine ⟨r, ?_, ?_⟩
      · rw [z_not, ← r1]
        by_cases q0 : nI Q = 0 <;> by_cases q1 : nI Q = 1 <;> simp only [q0, q1, i01, i01', Bool.true_eq_false, if_true, if_false]
      · rw [← r2]
        have z : ∀ x : Int32, x + 0 = x := fun x => Int32.add_zero x
        by_cases q0 : nI Q = 0 <;> by_cases q1 : nI Q = 1 <;> simp only [q0, q1, i01, i01', Bool.true_eq_false, if_true, if_false, z]
    · exact ih (i + 1) f L S _ _ _ (by omega) (by omega) hL hS hr
theorem le2 (x : Int32) : 2 ≤ x ↔ 1 < x := by
  rw [Int32.le_iff_toInt_le, Int32.lt_iff_toInt_lt]
  show (2 : Int) ≤ _ ↔ (1 : Int) < _
  omega
theorem eq_newly {MX MY : Mem} (h : Sim MX MY) : ∃ r, FX8_newly MX = some r ∧ FX9_newly MY = some r := by
  obtain ⟨v, u, tx, hA, hB, hK, hS, -⟩ := h
  obtain ⟨⟨x0, x1, x2, x3, x4, x5, x6, x7⟩, ⟨y0, y1, y2, y3, y4, y5, y6, y7⟩⟩ := id hA
  have hn : v 3 ≤ 12 := hB.2.2.2.1
  obtain ⟨r, r1, r2⟩ := nwL hS hn y3 (K := blt u (v 3)) (blt_lt (jin hS) (Nat.le_refl _)) 9 0 FU (blt u (v 3)) 0 0 0 0 rfl (by rw [z_FU]; omega) (blt_lt (jin hS) (Nat.le_refl _)) (by decide) (fun j => by rw [Nat.zero_testBit]; simp)
  unfold FX8_newly FX9_newly
  simp only [z_lt, x3, x_bonds hS hn, y_bonds hS hn y3, z_ob, x_built hS hn, y_built hS hn y3]
  rw [show nI 0 = 0 from rfl] at r1 r2
  rw [r1, r2, z_ob, z_ob]
  simp only [le2]
  split <;> exact ⟨_, rfl, rfl⟩
