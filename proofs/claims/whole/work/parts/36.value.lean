/-! a text's worth -/
def b1v (c : Nat) (a : Int32) : Int32 := if c = 13 then (if a = 0 then 1 else 0) else -a
/-- the worth of a postfix row on a stack of d numbers -/
def ev (nm : Nat → Int32) : List Nat → Nat → (Nat → Int32) → Int32
  | [], _, s => s 0
  | c :: r, d, s => if 100000 ≤ c then ev nm r (d + 1) (upd s d (nI (c - 100000))) else if c < 6 then ev nm r (d + 1) (upd s d (nm c)) else if c = 13 ∨ c = 19 then ev nm r d (upd s (d - 1) (b1v c (s (d - 1)))) else ev nm r (d - 1) (upd s (d - 2) (FX9_bothOf (nI c) (s (d - 2)) (s (d - 1))))
theorem dep_p {d c : Nat} {r : List Nat} (h : 100000 ≤ c ∨ c < 6) : dep d (c :: r) = dep (d + 1) r := by rw [dep, if_pos h]
theorem dep_1 {d c : Nat} {r : List Nat} (h : ¬ (100000 ≤ c ∨ c < 6)) (h2 : c = 13 ∨ c = 19) {q : Nat} (hd : dep d (c :: r) = some q) : 1 ≤ d ∧ dep d r = some q := by
  rw [dep, if_neg h, if_pos h2] at hd
  by_cases h3 : 1 ≤ d
  · rw [if_pos h3] at hd; exact ⟨h3, hd⟩
  · rw [if_neg h3] at hd; cases hd
theorem dep_2 {d c : Nat} {r : List Nat} (h : ¬ (100000 ≤ c ∨ c < 6)) (h2 : ¬ (c = 13 ∨ c = 19)) {q : Nat} (hd : dep d (c :: r) = some q) : 2 ≤ d ∧ dep (d - 1) r = some q := by
  rw [dep, if_neg h, if_neg h2] at hd
  by_cases h3 : 2 ≤ d
  · rw [if_pos h3] at hd; exact ⟨h3, hd⟩
  · rw [if_neg h3] at hd; cases hd
theorem ev_cong {nm nm' : Nat → Int32} (hm : ∀ j, j < 6 → nm j = nm' j) : ∀ (cs : List Nat) (d : Nat) (s s' : Nat → Int32), dep d cs = some 1 → (∀ i, i < d → s i = s' i) → ev nm cs d s = ev nm' cs d s'
  | [], d, s, s', hd, h => by
    have : d = 1 := Option.some.inj hd
    exact h 0 (by omega)
  | c :: r, d, s, s', hd, h => by
    rw [ev, ev]
    by_cases h1 : 100000 ≤ c
    · rw [dep_p (Or.inl h1)] at hd
      rw [if_pos h1, if_pos h1]
      refine ev_cong hm r _ _ _ hd fun i hi => ?_
      unfold upd
      by_cases e : i = d
      · rw [if_pos e, if_pos e]
      · rw [if_neg e, if_neg e]; exact h i (by omega)
    · by_cases h2 : c < 6
      · rw [dep_p (Or.inr h2)] at hd
        rw [if_neg h1, if_neg h1, if_pos h2, if_pos h2]
        refine ev_cong hm r _ _ _ hd fun i hi => ?_
        unfold upd
        by_cases e : i = d
        · rw [if_pos e, if_pos e, hm c h2]
        · rw [if_neg e, if_neg e]; exact h i (by omega)
      · rw [if_neg h1, if_neg h1, if_neg h2, if_neg h2]
        by_cases h3 : c = 13 ∨ c = 19
        · obtain ⟨g1, g2⟩ := dep_1 (by omega) h3 hd
          rw [if_pos h3, if_pos h3]
          refine ev_cong hm r _ _ _ g2 fun i hi => ?_
          unfold upd
          rw [h (d - 1) (by omega)]
          by_cases e : i = d - 1
          · rw [if_pos e, if_pos e]
          · rw [if_neg e, if_neg e]; exact h i hi
        · obtain ⟨g1, g2⟩ := dep_2 (by omega) h3 hd
          rw [if_neg h3, if_neg h3]
          refine ev_cong hm r _ _ _ g2 fun i hi => ?_
          unfold upd
          rw [h (d - 1) (by omega), h (d - 2) (by omega)]
          by_cases e : i = d - 2
          · rw [if_pos e, if_pos e]
          · rw [if_neg e, if_neg e]; exact h i (by omega)
def wv (nm : Nat → Int32) (cs : List Nat) : Int32 := ev nm cs 0 (fun _ => 0)
theorem wv_of {nm nm' : Nat → Int32} (hm : ∀ j, j < 6 → nm j = nm' j) {cs : List Nat} (hd : dep 0 cs = some 1) (s : Nat → Int32) : ev nm cs 0 s = wv nm' cs := ev_cong hm cs 0 s _ hd (fun i hi => absurd hi (Nat.not_lt_zero i))
theorem sec_cons {x : List Nat} {i e : Nat} (h : i < e) (he : e ≤ x.length) : (x.take e).drop i = x.getD i 0 :: (x.take e).drop (i + 1) := by
  have hl : i < (x.take e).length := by rw [List.length_take]; omega
  rw [List.drop_eq_getElem_cons hl, List.getElem_take, List.getD_eq_getElem?_getD, List.getElem?_eq_getElem (by omega)]
  rfl
theorem sec_nil {x : List Nat} {i e : Nat} (h : e ≤ i) : (x.take e).drop i = [] := by
  apply List.drop_eq_nil_of_le
  rw [List.length_take]
  omega
-- the signs
theorem op2 {c : Nat} (h : codeOk c) (h1 : ¬ (100000 ≤ c ∨ c < 6)) (h2 : ¬ (c = 13 ∨ c = 19)) : FX6_operands (-(encX c)) = 2 ∧ 0 < -(encX c) ∧ ∀ a b, FX6_applied (-(encX c)) a b = FX9_bothOf (nI c) a b := by
  have : c = 11 ∨ c = 12 ∨ c = 14 ∨ c = 15 ∨ c = 16 ∨ c = 17 ∨ c = 18 := by unfold codeOk at h; omega
  rcases this with rfl | rfl | rfl | rfl | rfl | rfl | rfl <;> exact ⟨by decide +kernel, by decide +kernel, fun _ _ => rfl⟩
theorem op1 {c : Nat} (h2 : c = 13 ∨ c = 19) : FX6_operands (-(encX c)) = 1 ∧ 0 < -(encX c) ∧ ∀ a b, FX6_applied (-(encX c)) a b = b1v c a := by
  rcases h2 with rfl | rfl <;> exact ⟨by decide +kernel, by decide +kernel, fun _ _ => rfl⟩
theorem op0 {c : Nat} (h2 : c < 6) : FX6_operands (-(encX c)) = 0 ∧ 0 < -(encX c) ∧ -(encX c) - 262 = nI c := by
  have : c = 0 ∨ c = 1 ∨ c = 2 ∨ c = 3 ∨ c = 4 ∨ c = 5 := by omega
  rcases this with rfl | rfl | rfl | rfl | rfl | rfl <;> exact ⟨by decide +kernel, by decide +kernel, by decide +kernel⟩
theorem oneg {c : Nat} (h : 100000 ≤ c) (h2 : c < 110000) : FX6_operands (-(encX c)) = 0 ∧ ¬ 0 < -(encX c) ∧ -(-(encX c)) = nI (c - 100000) := by
  have e : encX c = nI (c - 100000) := if_pos h
  have hle : ¬ 0 < -(encX c) := by
    rw [e, Int32.lt_iff_toInt_lt, Int32.toInt_neg, nI_toInt (by omega), Int.bmod_def]
    show ¬ (0 : Int) < _
    split <;> omega
  refine ⟨?_, hle, ?_⟩
  · unfold FX6_operands
    rw [if_pos (Int32.not_lt.mp hle)]
  · rw [Int32.neg_neg, e]
theorem nneg {d : Nat} (h : d < 160) : (if nI d < 0 then true else if nI d < 160 then false else true) = false := by
  rw [if_neg (z_neg (by omega)), if_pos (by rw [show (160 : Int32) = nI 160 from rfl, z_lts (by omega) (by decide)]; exact h)]
/-- all but one cell is as before -/
def kp (c : Nat) (M M' : Mem) : Prop := ∀ k, k ≠ c → M'.1 k = M.1 k
theorem kp.rf (c : Nat) (M : Mem) : kp c M M := fun _ _ => rfl
theorem kp.tr {c : Nat} {A B C : Mem} (h : kp c A B) (h2 : kp c B C) : kp c A C := fun k hk => (h2 k hk).trans (h k hk)
theorem kp.wr (c : Nat) (M : Mem) (j : Nat) (v : Int32) : kp c M (wr M c j v) := fun _ hk => wr_cell M v hk
theorem x_vaL {x : List Nat} {t p e : Nat} {nm : Nat → Int32} (ht : t < 6) (hp : p < 3) (hl : x.length ≤ 160) (he : e ≤ x.length) (hc : ∀ c ∈ x, codeOk c) : ∀ (k i f d : Nat) (M : Mem), i + k = e → k < f → d ≤ i → dep d ((x.take e).drop i) = some 1 → (∀ j, j < x.length → M.1 (16 + t) j = encX (x.getD j 0)) → M.1 (23 + t) p = nI e → (∀ j, j < 6 → M.1 30 j = nm j) →
    ∃ M', FX6_value_L45 f (nI t) (nI p) (nI d) (nI i) M = some (.inr M') ∧ kp 29 M M' ∧ M'.1 29 0 = ev nm ((x.take e).drop i) d (M.1 29) := by
  intro k
  induction k with
  | zero =>
    intro i f d M hi hf hdi hd h1 h2 h3
    obtain ⟨f, rfl⟩ : ∃ g, f = g + 1 := ⟨f - 1, by omega⟩
    have : i = e := by omega
    subst this
    rw [FX6_value_L45]
    simp (disch := omega) only [z_gi, z_ix, h2, Int32.le_refl, if_true]
    exact ⟨M, rfl, kp.rf _ _, by rw [sec_nil (Nat.le_refl _)]; rfl⟩
  | succ k ih =>
    intro i f d M hi hf hdi hd h1 h2 h3
    obtain ⟨f, rfl⟩ : ∃ g, f = g + 1 := ⟨f - 1, by omega⟩
    have hie : i < e := by omega
    rw [sec_cons hie he] at hd ⊢
    have hcc : codeOk (x.getD i 0) := by
      apply hc
      rw [List.getD_eq_getElem?_getD, List.getElem?_eq_getElem (by omega)]
      exact List.getElem_mem _
    have hci := h1 i (by omega)
    generalize x.getD i 0 = c at hd hcc hci ⊢
    have g1 : ¬ nI e ≤ nI i := nI_ge (by omega) (by omega)
    rw [FX6_value_L45]
    simp (disch := omega) only [z_gi, z_ix, h2, g1, if_false, hci, z_lt]
    -- the frame of a step
    have go : ∀ (d' j : Nat) (v : Int32), d' ≤ i + 1 → dep d' ((x.take e).drop (i + 1)) = some 1 → ∃ M', FX6_value_L45 f (nI t) (nI p) (nI d') (nI (i + 1)) (wr M 29 j v) = some (.inr M') ∧ kp 29 M M' ∧ M'.1 29 0 = ev nm ((x.take e).drop (i + 1)) d' (upd (M.1 29) j v) := by
      intro d' j v hd' hdd
      obtain ⟨M', e1, e2, e3⟩ := ih (i + 1) f d' (wr M 29 j v) (by omega) (by omega) hd' hdd (fun q hq => by rw [wr_cell _ _ (by omega)]; exact h1 q hq) (by rw [wr_cell _ _ (by omega)]; exact h2) (fun q hq => by rw [wr_cell _ _ (by omega)]; exact h3 q hq)
      exact ⟨M', e1, (kp.wr 29 M j v).tr e2, by rw [e3, wr_own]⟩
    rw [ev]
    by_cases c1 : 100000 ≤ c
    · have c2 : c < 110000 := by unfold codeOk at hcc; omega
      obtain ⟨q1, q2, q3⟩ := oneg c1 c2
      rw [dep_p (Or.inl c1)] at hd
      rw [if_pos c1]
      simp (disch := omega) only [q1, Int32.sub_zero, nneg (show d < 160 by omega), Bool.false_eq_true, if_false, q2, q3, z_gi, z_ix, z_ob, nI_1]
      exact go _ _ _ (by omega) hd
    · by_cases c2 : c < 6
      · obtain ⟨q1, q2, q3⟩ := op0 c2
        rw [dep_p (Or.inr c2)] at hd
        rw [if_neg c1, if_pos c2]
        simp (disch := omega) only [q1, Int32.sub_zero, nneg (show d < 160 by omega), Bool.false_eq_true, if_false, q2, q3, if_true, z_gi, z_ix, z_ob, nI_1]
        rw [h3 c c2]
        exact go _ _ _ (by omega) hd
      · rw [if_neg c1, if_neg c2]
        by_cases c3 : c = 13 ∨ c = 19
        · obtain ⟨q1, q2, q3⟩ := op1 c3
          obtain ⟨g2, g3⟩ := dep_1 (by omega) c3 hd
          have e1 : nI d - 1 = nI (d - 1) := z_sub (b := 1) (by omega)
          rw [if_pos c3]
          simp (disch := omega) only [q1, e1, nneg (show d - 1 < 160 by omega), Bool.false_eq_true, if_false, q2, q3, if_true, z_gi, z_ix, z_ob, nI_1, i01']
          have e2 : d - 1 + 1 = d := by omega
          rw [e2]
          exact go _ _ _ (by omega) g3
        · obtain ⟨q1, q2, q3⟩ := op2 hcc (by omega) c3
          obtain ⟨g2, g3⟩ := dep_2 (by omega) c3 hd
          have e1 : nI d - 1 = nI (d - 1) := z_sub (b := 1) (by omega)
          have e0 : nI d - 2 = nI (d - 2) := z_sub (b := 2) (by omega)
          rw [if_neg c3]
          simp (disch := omega) only [q1, e1, e0, nneg (show d - 2 < 160 by omega), Bool.false_eq_true, if_false, q2, q3, if_true, z_gi, z_ix, z_ob, nI_1, show ((2 : Int32) = 0) = False from by decide]
          have e2 : d - 2 + 1 = d - 1 := by omega
          rw [e2]
          exact go _ _ _ (by omega) g3
theorem x_value {x : Txt} {t p n : Nat} {M MY : Mem} (h : TXR x t M MY) (ht : t < n) (hn : n ≤ 6) (hp : p < 3) (h14 : M.1 14 4 = nI n) {nm : Nat → Int32} (hm : ∀ j, j < 6 → M.1 30 j = nm j) : ∃ M', FX6_value (nI t) (nI p) M = some (wv nm (sec x p), M') ∧ kp 29 M M' := by
  obtain ⟨⟨s1, s2, s3, s4⟩, hc, hd, hcell, hend, -⟩ := h
  have b1 : (if nI t < 0 then true else if nI n ≤ nI t then true else if nI p < 0 then true else if nI p ≤ 2 then false else true) = false := by
    rw [if_neg (z_neg (by omega)), if_neg (nI_ge ht (by omega)), if_neg (z_neg (by omega)), if_pos (by rw [show (2 : Int32) = nI 2 from rfl, z_le (by omega) (by decide)]; omega)]
  unfold FX6_value
  simp only [h14, b1, z_lt, Bool.false_eq_true, if_false]
  obtain ⟨b, hb, hbe⟩ : ∃ b, b = (if p = 0 then 0 else x.2 (p - 1)) ∧ b ≤ x.2 p := ⟨_, rfl, by
    rcases (show p = 0 ∨ p = 1 ∨ p = 2 by omega) with rfl | rfl | rfl
    · exact Nat.zero_le _
    · exact s1
    · exact s2⟩
  have hpe : x.2 p ≤ x.1.length := by
    rcases (show p = 0 ∨ p = 1 ∨ p = 2 by omega) with rfl | rfl | rfl <;> omega
  have hst : (if nI p = 0 then some 0 else gi (nI t) 6 (gi (nI p - 1) 3 (some (M.1 (23 + (nI t).toNatClampNeg) (nI p - 1).toNatClampNeg)))) = some (nI b) := by
    by_cases p0 : p = 0
    · subst p0
      rw [hb, if_pos rfl]
      exact if_pos (show nI 0 = 0 from rfl)
    · have e1 : nI p - 1 = nI (p - 1) := z_sub (b := 1) (by omega)
      rw [if_neg (nI_ne0 (by omega) (by omega)), e1]
      simp (disch := omega) only [z_gi, z_ix]
      rw [(hend (p - 1) (by omega)).1, hb, if_neg p0]
  have hdp := hd p hp
  have hsec : sec x p = (x.1.take (x.2 p)).drop b := by rw [hb]; rfl
  rw [hsec] at hdp ⊢
  obtain ⟨M', e1, e2, e3⟩ := x_vaL (t := t) (p := p) (nm := nm) (by omega) hp s4 hpe hc (x.2 p - b) b FU 0 M (by omega) (by rw [z_FU]; omega) (by omega) hdp (fun j hj => (hcell j hj).1) (hend p hp).1 hm
  rw [hst, z_ob]
  rw [show nI 0 = 0 from rfl] at e1
  rw [e1, z_ob]
  refine ⟨M', ?_, e2⟩
  show gi 0 160 (some (M'.1 29 (Int32.toNatClampNeg 0), M')) = _
  rw [show (0 : Int32) = nI 0 from rfl, z_gi (by decide) (by decide), z_ix (by decide), e3, wv_of (fun _ _ => rfl) hdp]
theorem z_ltp {α β : Type} (x : α) (f : α → β) : lt x f = f x := id (Eq.refl (f x))
theorem z_obp {α β : Type} (x : α) (f : α → Option β) : ob (some x) f = f x := id (Eq.refl (f x))
theorem kk1 : (100000 : Int32) = nI 100000 := rfl
theorem kk2 : (11 : Int32) = nI 11 := rfl
theorem kk3 : (13 : Int32) = nI 13 := rfl
theorem kk4 : (19 : Int32) = nI 19 := rfl
theorem y_woL {x : List Nat} {t p e : Nat} {nm : Nat → Int32} (ht : t < 6) (hp : p < 3) (hl : x.length ≤ 160) (he : e ≤ x.length) (hc : ∀ c ∈ x, codeOk c) : ∀ (k i f d : Nat) (M : Mem), i + k = e → k < f → d ≤ i → dep d ((x.take e).drop i) = some 1 → (∀ j, j < x.length → M.1 7 (200 * t + j) = nI (x.getD j 0)) → M.1 8 (4 * t + p + 1) = nI e → (∀ j, j < 6 → M.1 16 j = nm j) → M.1 0 15 = nI t →
    ∃ M', FX9_worth_L16 f (nI p) (nI d) (nI i) M = some M' ∧ kp 15 M M' ∧ M'.1 15 0 = ev nm ((x.take e).drop i) d (M.1 15) := by
  have f4 : (4 : Int32) = nI 4 := rfl
  have f2 : (200 : Int32) = nI 200 := rfl
  intro k
  induction k with
  | zero =>
    intro i f d M hi hf hdi hd h1 h2 h3 h4
    obtain ⟨f, rfl⟩ : ∃ g, f = g + 1 := ⟨f - 1, by omega⟩
    have : i = e := by omega
    subst this
    rw [FX9_worth_L16, h4, f4, pk_mul, nI_add, nI_1]
    simp (disch := omega) only [z_gi, z_ix, h2, Int32.le_refl, if_true]
    exact ⟨M, rfl, kp.rf _ _, by rw [sec_nil (Nat.le_refl _)]; rfl⟩
  | succ k ih =>
    intro i f d M hi hf hdi hd h1 h2 h3 h4
    obtain ⟨f, rfl⟩ : ∃ g, f = g + 1 := ⟨f - 1, by omega⟩
    have hie : i < e := by omega
    rw [sec_cons hie he] at hd ⊢
    have hcc : codeOk (x.getD i 0) := by
      apply hc
      rw [List.getD_eq_getElem?_getD, List.getElem?_eq_getElem (by omega)]
      exact List.getElem_mem _
    have hci := h1 i (by omega)
    generalize x.getD i 0 = c at hd hcc hci ⊢
    have g1 : ¬ nI e ≤ nI i := nI_ge (by omega) (by omega)
    rw [FX9_worth_L16, h4, f4, pk_mul, nI_add, nI_1, f2, pk_mul, nI_add]
    rw [z_gi (show 4 * t + p + 1 < 24 by omega) (by decide), z_ix (show 4 * t + p + 1 < 2147483648 by omega), h2, if_neg g1, z_gi (show 200 * t + i < 1200 by omega) (by decide), z_lt, z_ix (show 200 * t + i < 2147483648 by omega), hci, z_lt]
    have go : ∀ (d' j : Nat) (v : Int32), d' ≤ i + 1 → dep d' ((x.take e).drop (i + 1)) = some 1 → ∃ M', FX9_worth_L16 f (nI p) (nI d') (nI (i + 1)) (wr M 15 j v) = some M' ∧ kp 15 M M' ∧ M'.1 15 0 = ev nm ((x.take e).drop (i + 1)) d' (upd (M.1 15) j v) := by
      intro d' j v hd' hdd
      obtain ⟨M', e1, e2, e3⟩ := ih (i + 1) f d' (wr M 15 j v) (by omega) (by omega) hd' hdd (fun q hq => by rw [wr_cell _ _ (by omega)]; exact h1 q hq) (by rw [wr_cell _ _ (by omega)]; exact h2) (fun q hq => by rw [wr_cell _ _ (by omega)]; exact h3 q hq) (by rw [wr_cell _ _ (by omega)]; exact h4)
      exact ⟨M', e1, (kp.wr 15 M j v).tr e2, by rw [e3, wr_own]⟩
    have ccs : c < 110000 := by unfold codeOk at hcc; omega
    rw [ev]
    by_cases c1 : 100000 ≤ c
    · rw [dep_p (Or.inl c1)] at hd
      rw [if_pos c1]
      have e1 : nI c - nI 100000 = nI (c - 100000) := z_sub c1
      have l1 : nI 100000 ≤ nI c := nI_le c1 (by omega)
      have l2 : nI 11 ≤ nI c := nI_le (by omega) (by omega)
      simp (disch := omega) only [z_ltp, kk1, kk2, l1, l2, if_true, z_obp, e1, z_gi, z_ix, nI_1]
      exact go _ _ _ (by omega) hd
    · have l1 : ¬ nI 100000 ≤ nI c := nI_ge (by omega) (by omega)
      by_cases c2 : c < 6
      · rw [dep_p (Or.inr c2)] at hd
        rw [if_neg c1, if_pos c2]
        have l2 : ¬ nI 11 ≤ nI c := nI_ge (by omega) (by omega)
        simp (disch := omega) only [z_ltp, kk1, kk2, l1, l2, if_true, if_false, z_obp, z_gi, z_ix, nI_1]
        rw [h3 c c2]
        exact go _ _ _ (by omega) hd
      · rw [if_neg c1, if_neg c2]
        have l2 : nI 11 ≤ nI c := nI_le (by unfold codeOk at hcc; omega) (by omega)
        by_cases c3 : c = 13 ∨ c = 19
        · obtain ⟨g2, g3⟩ := dep_1 (by omega) c3 hd
          have e1 : nI d - 1 = nI (d - 1) := z_sub (b := 1) (by omega)
          rw [if_pos c3]
          rcases c3 with rfl | rfl
          · simp (disch := omega) only [z_ltp, kk1, kk2, l1, l2, kk3, if_true, if_false, Bool.false_eq_true, z_obp, e1, z_gi, z_ix, nI_1]
            exact go _ _ _ (by omega) g3
          · simp (disch := omega) only [z_ltp, kk1, kk2, l1, l2, kk3, kk4, z_eq, if_true, if_false, Bool.false_eq_true, z_obp, e1, z_gi, z_ix, nI_1, show ((19 : Nat) = 13) = False from by decide]
            exact go _ _ _ (by omega) g3
        · obtain ⟨g2, g3⟩ := dep_2 (by omega) c3 hd
          have e1 : nI d + (-1) = nI (d - 1) := by
            have := pk_m1 (d - 1)
            rw [show d - 1 + 1 = d by omega] at this
            exact this
          have e0 : nI (d - 1) - 1 = nI (d - 2) := z_sub (b := 1) (by omega)
          rw [if_neg c3]
          have n1 : ¬ nI c = nI 13 := by rw [z_eq (by omega) (by omega)]; omega
          have n2 : ¬ nI c = nI 19 := by rw [z_eq (by omega) (by omega)]; omega
          simp (disch := omega) only [z_ltp, kk1, kk2, l1, l2, kk3, kk4, n1, n2, if_true, if_false, Bool.false_eq_true, z_obp, e1, e0, z_gi, z_ix, nI_1]
          exact go _ _ _ (by omega) g3
theorem y_worth {x : Txt} {t p : Nat} {MX M : Mem} (h : TXR x t MX M) (ht : t < 6) (hp : p < 3) (h15 : M.1 0 15 = nI t) {nm : Nat → Int32} (hm : ∀ j, j < 6 → M.1 16 j = nm j) : ∃ M', FX9_worth (nI p) M = some (wv nm (sec x p), M') ∧ kp 15 M M' := by
  obtain ⟨⟨s1, s2, s3, s4⟩, hc, hd, hcell, hend, h0⟩ := h
  unfold FX9_worth
  obtain ⟨b, hb, hbe⟩ : ∃ b, b = (if p = 0 then 0 else x.2 (p - 1)) ∧ b ≤ x.2 p := ⟨_, rfl, by
    rcases (show p = 0 ∨ p = 1 ∨ p = 2 by omega) with rfl | rfl | rfl
    · exact Nat.zero_le _
    · exact s1
    · exact s2⟩
  have hpe : x.2 p ≤ x.1.length := by
    rcases (show p = 0 ∨ p = 1 ∨ p = 2 by omega) with rfl | rfl | rfl <;> omega
  have hst : M.1 8 (4 * t + p) = nI b := by
    by_cases p0 : p = 0
    · subst p0
      rw [hb, if_pos rfl]
      exact h0
    · have := (hend (p - 1) (by omega)).2
      rw [show 4 * t + (p - 1) + 1 = 4 * t + p by omega] at this
      rw [this, hb, if_neg p0]
  have hdp := hd p hp
  have hsec : sec x p = (x.1.take (x.2 p)).drop b := by rw [hb]; rfl
  rw [hsec] at hdp ⊢
  obtain ⟨M', e1, e2, e3⟩ := y_woL (t := t) (p := p) (nm := nm) (by omega) hp s4 hpe hc (x.2 p - b) b FU 0 M (by omega) (by rw [z_FU]; omega) (by omega) hdp (fun j hj => (hcell j hj).2) (hend p hp).2 hm h15
  rw [h15, show (4 : Int32) = nI 4 from rfl, pk_mul, nI_add]
  simp (disch := omega) only [z_gi, z_ix, z_lt, hst]
  rw [show nI 0 = 0 from rfl] at e1
  rw [e1, z_ob]
  refine ⟨M', ?_, e2⟩
  rw [show (0 : Int32) = nI 0 from rfl, z_gi (by decide) (by decide), z_ix (by decide), e3, wv_of (fun _ _ => rfl) hdp]
