/-! the levels one by one -/
theorem lt160 {i : Nat} (h : i < 160) : ¬ (160 : Int32) ≤ nI i := nI_ge (b := 160) h (by decide)
theorem tk_eq {t a : Nat} (ht : t < 268) (ha : a < 268) : nI t = nI a ↔ t = a := z_eq (by omega) (by omega)
theorem P_product {tp : Nat → Nat} {n N o : Nat} {G : Int32 → Mem → Option Mem} (hn : n ≤ 160) (hG : SPEC tp n N 7 8 mnA EX7 G o) : SPEC tp n N 6 6 mnA EX6 (FX5_product G) o := by
  have h := P_bin (K := fun t => t = 42) (LP := FX5_product_L7 G) (F := FX5_product G) hn (l := 6) (by decide) (by decide) (by decide) (by decide) (by decide) (fun t h => by subst h; exact ⟨by decide, rfl, rfl, by decide⟩) (fun t t' h => by subst h; exact fun _ => rfl) (fun f a i M t hi ht hk => by
    rw [FX5_product_L7, if_neg (lt160 hi), ht, hk, if_pos (show nI 42 = 42 from rfl), z_lt, if_pos rfl]
    simp only [z_lt, nI_1]
    rfl) (fun f a i M t hi ht h7 hk => by
    have e : ¬ (if 160 ≤ nI i then false else if nI t = 42 then true else false) = true := by
      by_cases h1 : (160 : Int32) ≤ nI i
      · rw [if_pos h1]; exact nft
      · rw [if_neg h1, if_neg (show ¬ nI t = 42 from fun z => hk ((tk_eq (a := 42) ht (by decide)).mp z))]; exact nft
    rw [FX5_product_L7, h7, z_lt, if_neg e]) (by decide) hG (fun a M => by
    unfold FX5_product
    cases G a M with
    | none => rfl
    | some q =>
      rw [z_ob, z_ob, show nI 0 = 0 from rfl]
      cases FX5_product_L7 G FU a 0 q with
      | none => rfl
      | some q => rw [z_ob])
  exact h
theorem P_sum {tp : Nat → Nat} {n N o : Nat} {G : Int32 → Mem → Option Mem} (hn : n ≤ 160) (hG : SPEC tp n N 6 6 mnA EX6 G o) : SPEC tp n N 5 5 mnA EX5 (FX5_sum G) o := by
  have h := P_bin (K := fun t => t = 43 ∨ t = 45) (LP := FX5_sum_L7 G) (F := FX5_sum G) hn (l := 5) (by decide) (by decide) (by decide) (by decide) (by decide) (fun t h => by rcases h with rfl | rfl <;> exact ⟨by decide, rfl, rfl, by decide⟩) (fun t t' h => by rcases h with rfl | rfl <;> exact fun _ => rfl) (fun f a i M t hi ht hk => by
    have e : (if nI t = 43 then true else if nI t = 45 then true else false) = true := by
      rcases hk with rfl | rfl <;> rfl
    rw [FX5_sum_L7, if_neg (lt160 hi), ht, e, z_lt, if_pos rfl]
    simp only [z_lt, nI_1]) (fun f a i M t hi ht h7 hk => by
    have e : ¬ (if nI t = 43 then true else if nI t = 45 then true else false) = true := by
      rw [if_neg (show ¬ nI t = 43 from fun z => hk (Or.inl ((tk_eq (a := 43) ht (by decide)).mp z))), if_neg (show ¬ nI t = 45 from fun z => hk (Or.inr ((tk_eq (a := 45) ht (by decide)).mp z)))]; exact nft
    by_cases h1 : (160 : Int32) ≤ nI i
    · rw [FX5_sum_L7, if_pos h1]
    · rw [FX5_sum_L7, if_neg h1, h7, z_lt, if_neg e]) (by decide) hG (fun a M => by
    unfold FX5_sum
    cases G a M with
    | none => rfl
    | some q =>
      rw [z_ob, z_ob, show nI 0 = 0 from rfl]
      cases FX5_sum_L7 G FU a 0 q with
      | none => rfl
      | some q => rw [z_ob])
  intro MX0 MX MY0 MY b p H C mn a1 a2 a3 a4 a5 a6
  rcases h MX0 MX MY0 MY b p H C mn a1 a2 a3 a4 a5 a6 with ⟨p', D2, MX2, MY2, b2, mn2, H2, C2, j, r1, r2, r3, r4, r5, r6, r7, r8, r9, r10⟩ | r
  · exact Or.inl ⟨p', D2, MX2, MY2, b2, mn2, H2, C2, j, r1, r2, r3, r4, r5, r6, r7, r8, ⟨r9.1, fun z => r9.2 (Or.inl z), fun z => r9.2 (Or.inr z)⟩, r10⟩
  · exact Or.inr r
theorem P_both {tp : Nat → Nat} {n N o : Nat} {G : Int32 → Mem → Option Mem} (hn : n ≤ 160) (hG : SPEC tp n N 3 4 mnB EX4 G o) : SPEC tp n N 2 2 mnB EX2 (FX5_both G) o := by
  have h := P_bin (K := fun t => t = 260) (LP := FX5_both_L7 G) (F := FX5_both G) hn (l := 2) (by decide) (by decide) (by decide) (by decide) (by decide) (fun t h => by subst h; exact ⟨by decide, rfl, rfl, by decide⟩) (fun t t' h => by subst h; rfl) (fun f a i M t hi ht hk => by
    rw [FX5_both_L7, if_neg (lt160 hi), ht, hk, if_pos (show nI 260 = 260 from rfl), z_lt, if_pos rfl]
    simp only [z_lt, nI_1]
    rfl) (fun f a i M t hi ht h7 hk => by
    have e : ¬ (if 160 ≤ nI i then false else if nI t = 260 then true else false) = true := by
      by_cases h1 : (160 : Int32) ≤ nI i
      · rw [if_pos h1]; exact nft
      · rw [if_neg h1, if_neg (show ¬ nI t = 260 from fun z => hk ((tk_eq (a := 260) ht (by decide)).mp z))]; exact nft
    rw [FX5_both_L7, h7, z_lt, if_neg e]) (by decide) hG (fun a M => by
    unfold FX5_both
    cases G a M with
    | none => rfl
    | some q =>
      rw [z_ob, z_ob, show nI 0 = 0 from rfl]
      cases FX5_both_L7 G FU a 0 q with
      | none => rfl
      | some q => rw [z_ob])
  exact h
theorem P_either {tp : Nat → Nat} {n N o : Nat} {G : Int32 → Mem → Option Mem} (hn : n ≤ 160) (hG : SPEC tp n N 2 2 mnB EX2 G o) : SPEC tp n N 1 1 mnB EX1 (FX5_either G) o := by
  have h := P_bin (K := fun t => t = 259) (LP := FX5_either_L7 G) (F := FX5_either G) hn (l := 1) (by decide) (by decide) (by decide) (by decide) (by decide) (fun t h => by subst h; exact ⟨by decide, rfl, rfl, by decide⟩) (fun t t' h => by subst h; rfl) (fun f a i M t hi ht hk => by
    rw [FX5_either_L7, if_neg (lt160 hi), ht, hk, if_pos (show nI 259 = 259 from rfl), z_lt, if_pos rfl]
    simp only [z_lt, nI_1]
    rfl) (fun f a i M t hi ht h7 hk => by
    have e : ¬ (if 160 ≤ nI i then false else if nI t = 259 then true else false) = true := by
      by_cases h1 : (160 : Int32) ≤ nI i
      · rw [if_pos h1]; exact nft
      · rw [if_neg h1, if_neg (show ¬ nI t = 259 from fun z => hk ((tk_eq (a := 259) ht (by decide)).mp z))]; exact nft
    rw [FX5_either_L7, h7, z_lt, if_neg e]) (by decide) hG (fun a M => by
    unfold FX5_either
    cases G a M with
    | none => rfl
    | some q =>
      rw [z_ob, z_ob, show nI 0 = 0 from rfl]
      cases FX5_either_L7 G FU a 0 q with
      | none => rfl
      | some q => rw [z_ob])
  exact h
theorem sg_cmp {t : Nat} (h : t = 60 ∨ t = 61) : sgT t ≠ 0 ∧ rkN (sgT t) = 4 ∧ encX (sgT t) = -(nI t) ∧ 14 ≤ sgT t ∧ sgT t ≤ 15 := by
  rcases h with rfl | rfl <;> exact ⟨by decide, rfl, rfl, by decide, by decide⟩
theorem P_compared {tp : Nat → Nat} {n N o : Nat} {G : Int32 → Mem → Option Mem} (hn : n ≤ 160) (hG : SPEC tp n N 5 5 mnA EX5 G o) : SPEC tp n N 4 4 mnA EX4 (FX5_compared G) o := by
  intro MX0 MX MY0 MY b p H C mn hX hY hlen ho hH hm
  unfold FX5_compared
  rcases hG MX0 MX MY0 MY b p H C mn hX hY hlen ho (fun s T h => by have := hH s T h; omega) hm with ⟨p1, D1, MX1, MY1, b1, mn1, H1, C1, j1, r1, r2, r3, r4, r5, r6, r7, r8, r9, -⟩ | ⟨b1, MX1, j1, r1, r2, r3, r4⟩
  rotate_left
  · rw [r1, z_ob, r2.2.2.1, if_neg (show ¬ (1 : Int32) = 60 by decide), if_neg (show ¬ (1 : Int32) = 61 by decide), z_lt, if_pos rfl]
    exact Or.inr ⟨b1, MX1, j1, rfl, r2, r3, r4⟩
  rw [r1, z_ob]
  have hlt := TR_lt (lxT_rng tp n p1)
  rw [r2.2.2.1.2.2.1, if_congr_prop (show nI (lxT tp n p1) = 60 ↔ lxT tp n p1 = 60 from tk_eq (a := 60) hlt (by decide)), if_congr_prop (show nI (lxT tp n p1) = 61 ↔ lxT tp n p1 = 61 from tk_eq (a := 61) hlt (by decide))]
  simp only [z_lt]
  by_cases hc : lxT tp n p1 = 60 ∨ lxT tp n p1 = 61
  rotate_left
  · have e : (if lxT tp n p1 = 60 then false else if lxT tp n p1 = 61 then false else true) = true := by
      rw [if_neg (fun z => hc (Or.inl z)), if_neg (fun z => hc (Or.inr z))]
    rw [if_pos e]
    exact Or.inl ⟨p1, D1, MX1, MY1, b1, mn1, H1, C1, j1, rfl, r2, r3, r4, fun q h1 h2 => r5 q h1 (by omega), r6, r7, r8, ⟨r9, fun z => absurd z hc⟩, Nat.zero_le _⟩
  have e : ¬ (if lxT tp n p1 = 60 then false else if lxT tp n p1 = 61 then false else true) = true := by
    rcases hc with h | h
    · rw [if_pos h]; exact nft
    · rw [if_neg (by omega), if_pos h]; exact nft
  obtain ⟨k1, k2, k3, k4, k5⟩ := sg_cmp hc
  have hp1 := r2.2.1.2.2
  obtain ⟨q1, q2, q3⟩ := p_lt hp1 (show lxT tp n p1 ≠ 0 by omega)
  obtain ⟨x, hx⟩ : ∃ x, x = sgT (lxT tp n p1) := ⟨_, rfl⟩
  rw [← hx] at k1 k2 k3 k4 k5
  rw [if_neg e]
  obtain ⟨MX2, a1, a2⟩ := x_advS r2
  rw [a1, z_ob]
  have hlen1 := unw_len 5 H1 C1
  rw [r5 5 (by decide) (Nat.le_refl 5), unw_top (fun s T h => by have := hH s T h; omega)] at hlen1
  simp only at hlen1
  obtain ⟨-, s2⟩ := s_sign r4 (by omega) hx.symm k1 (q := 5) (by rw [k2, if_pos rfl]) mn1
  have hnd : ¬ (rkN x = 4 ∧ ∃ s T, (unw 5 H1 C1).1 = s :: T ∧ rkN s = 4) := by
    rintro ⟨-, s, T, z1, z2⟩
    rw [r5 5 (by decide) (Nat.le_refl 5), unw_top (fun s T h => by have := hH s T h; omega)] at z1
    have := hH s T z1
    omega
  obtain ⟨MY2, s3, s4⟩ := s2 hnd
  rw [r5 5 (by decide) (Nat.le_refl 5), unw_top (fun s T h => by have := hH s T h; omega)] at s4
  rw [if_neg (show ¬ x ≤ 12 by omega)] at s3
  have hocx : oc (x :: H) = o := by rw [oc, if_neg (by omega), Nat.add_zero]; exact ho
  rcases hG MX0 MX2 MY0 MY2 (lxB tp n p1) (lxE tp n p1) (x :: H) (C ++ D1) 0 a2 s4 (by rw [List.length_cons]; omega) hocx (fun s T h => by
    injection h with h1 h2
    rw [← h1, k2]; decide) (fun _ => rfl) with ⟨p2, D2, MX3, MY3, b2, mn2, H2, C2, j2, t1, t2, t3, t4, t5, t6, t7, t8, t9, -⟩ | ⟨b2, MX3, j2, t1, t2, t3, t4⟩
  · have hp2 := t2.2.1.2.2
    rw [List.length_cons] at t6
    obtain ⟨MX4, e1, e2⟩ := x_emitS t2 (by omega) (c := x) (x := -(nI (lxT tp n p1))) k3.symm
    rw [t1, z_ob, e1, z_ob]
    have eD : (C ++ D1) ++ D2 ++ [x] = C ++ (D1 ++ (D2 ++ [x])) := by simp only [List.append_assoc]
    rw [eD] at e2
    have hlen3 : (C ++ (D1 ++ (D2 ++ [x]))).length + H.length ≤ p2 := by
      rw [← eD, List.length_append, List.length_singleton]
      omega
    refine Or.inl ⟨p2, D1 ++ (D2 ++ [x]), MX4, MY3, b2, mn2, H2, C2, j1 + (1 + j2), rfl, e2, r3.tr (s3.tr t3), t4, fun q h1 h2 => ?_, hlen3, by omega, DPO_b r8 t8 (by omega) (by omega), ⟨t9, fun _ => ?_⟩, Nat.zero_le _⟩
    · rw [t5 q h1 (by omega), unw_cons (by omega), eD]
    · rw [t5 5 (by decide) (Nat.le_refl 5), unw, if_neg (by omega)]
      exact ⟨x, H, rfl, k2⟩
  · obtain ⟨MX4, e1, e2⟩ := x_emitF t2 (-(nI (lxT tp n p1)))
    rw [t1, z_ob, e1, z_ob]
    exact Or.inr ⟨b2, MX4, j1 + (1 + j2), rfl, e2, r3.f (s3.f t3), by omega⟩
/-- so many 'not's, then what stands behind them -/
theorem P_nots {tp : Nat → Nat} {n N o : Nat} {G : Int32 → Mem → Option Mem} (hn : n ≤ 160) (hG : ∀ o', o ≤ o' → o' ≤ 5 → SPEC tp n N 4 4 mnA EX4 G o') (hR : RPR tp n G) :
    ∀ (k m f : Nat) (MX0 MX MY0 MY : Mem) (b p : Nat) (H C : List Nat) (mn : Int32), o + m + k = 5 → k < f → XS tp n MX0 MX p C → YS tp n N MY0 MY b p H C → C.length + H.length ≤ p → oc H = o + m → (∀ s T, H = s :: T → rkN s < 4) → mn = 1 →
      ∃ j M1, m + j ≤ 5 ∧ FX5_openers_L2 f 261 (nI o) (nI m) MX = some (nI (m + j), M1) ∧ OUT tp n N MX0 MY0 3 EX4 1 mn p H C [] MY (ob (G (nI (o + m + j)) M1) fun q => EM (-261) j q) := by
  intro k
  induction k with
  | zero =>
    intro m f MX0 MX MY0 MY b p H C mn hk hf hX hY hlen ho hH hm
    obtain ⟨f, rfl⟩ : ∃ g, f = g + 1 := ⟨f - 1, by omega⟩
    have hlt := TR_lt (lxT_rng tp n p)
    have hp := hX.2.1.2.2
    refine ⟨0, MX, by omega, op_stop (Or.inr (by rw [nI_add, show o + m = 5 by omega]; decide)), ?_⟩
    show OUT tp n N MX0 MY0 3 EX4 1 mn p H C [] MY (ob (G (nI (o + m + 0)) MX) fun q => some q)
    rw [ob_id, Nat.add_zero]
    by_cases ht : lxT tp n p = 261
    · obtain ⟨q1, q2, q3⟩ := p_lt hp (show lxT tp n p ≠ 0 by omega)
      obtain ⟨s1, -⟩ := s_opens hY hlen (x := 13) (mn := mn) (mn' := mn) (Or.inl ⟨ht, by rw [hm]; decide, rfl, rfl⟩)
      obtain ⟨MX1, a1, a2⟩ := hR (nI (o + m)) MX0 MX p C hX ht
      rw [a1]
      exact Or.inr ⟨_, MX1, 1, rfl, a2, s1 (by omega), by omega⟩
    · rcases hG (o + m) (by omega) (by omega) MX0 MX MY0 MY b p H C mn hX hY hlen ho hH (fun z => absurd z ht) with ⟨p1, D1, MX1, MY1, b1, mn1, H1, C1, j1, r1, r2, r3, r4, r5, r6, r7, r8, r9, -⟩ | r
      · exact Or.inl ⟨p1, D1, MX1, MY1, b1, mn1, H1, C1, j1, r1, r2, r3, r4, fun q h1 h2 => r5 q h1 (by omega), r6, r7, r8, r9, Nat.zero_le _⟩
      · exact Or.inr r
  | succ k ih =>
    intro m f MX0 MX MY0 MY b p H C mn hk hf hX hY hlen ho hH hm
    obtain ⟨f, rfl⟩ : ∃ g, f = g + 1 := ⟨f - 1, by omega⟩
    have hlt := TR_lt (lxT_rng tp n p)
    have hp := hX.2.1.2.2
    by_cases ht : lxT tp n p = 261
    rotate_left
    · refine ⟨0, MX, by omega, op_stop (Or.inl (by rw [hX.2.2.1.2.2.1]; exact fun z => ht ((tk_eq (a := 261) hlt (by decide)).mp z))), ?_⟩
      show OUT tp n N MX0 MY0 3 EX4 1 mn p H C [] MY (ob (G (nI (o + m + 0)) MX) fun q => some q)
      rw [ob_id, Nat.add_zero]
      rcases hG (o + m) (by omega) (by omega) MX0 MX MY0 MY b p H C mn hX hY hlen ho hH (fun z => absurd z ht) with ⟨p1, D1, MX1, MY1, b1, mn1, H1, C1, j1, r1, r2, r3, r4, r5, r6, r7, r8, r9, -⟩ | r
      · exact Or.inl ⟨p1, D1, MX1, MY1, b1, mn1, H1, C1, j1, r1, r2, r3, r4, fun q h1 h2 => r5 q h1 (by omega), r6, r7, r8, r9, Nat.zero_le _⟩
      · exact Or.inr r
    obtain ⟨q1, q2, q3⟩ := p_lt hp (show lxT tp n p ≠ 0 by omega)
    obtain ⟨-, s2⟩ := s_opens hY hlen (x := 13) (mn := mn) (mn' := mn) (Or.inl ⟨ht, by rw [hm]; decide, rfl, rfl⟩)
    obtain ⟨MX1, a1, a2⟩ := x_advS hX
    obtain ⟨MY1, s3, s4⟩ := s2 (by omega)
    obtain ⟨j, M1, g1, g2, g3⟩ := ih (m + 1) f MX0 MX1 MY0 MY1 (lxB tp n p) (lxE tp n p) (13 :: H) C mn (by omega) (by omega) a2 s4 (by rw [List.length_cons]; omega) (by rw [oc, if_pos (Or.inr (Or.inl rfl)), ho]; omega) (fun s T h => by
      injection h with h1 h2
      rw [← h1]; decide) hm
    have h5 : ¬ 5 ≤ nI o + nI m := by rw [nI_add]; exact nI_ge (b := 5) (by omega) (by decide)
    have hgo := op_go (f := f) (a := 261) (o := nI o) (m := nI m) (M := MX) (by rw [hX.2.2.1.2.2.1, ht]; rfl) h5
    rw [a1, z_ob, nI_1, g2, show m + 1 + j = m + (j + 1) by omega] at hgo
    refine ⟨j + 1, M1, by omega, hgo, ?_⟩
    rw [EM_ob, show o + m + (j + 1) = o + (m + 1) + j by omega]
    rcases g3 with ⟨p2, D2, MX3, MY3, b2, mn2, H2, C2, j2, t1, t2, t3, t4, t5, t6, t7, t8, t9, -⟩ | ⟨b2, MX3, j2, t1, t2, t3, t4⟩
    · have hp2 := t2.2.1.2.2
      rw [List.length_cons] at t6
      obtain ⟨MX4, e1, e2⟩ := x_emitS t2 (by omega) (c := 13) (x := -261) rfl
      rw [t1, z_ob, e1]
      rw [List.append_assoc] at e2
      refine Or.inl ⟨p2, D2 ++ [13], MX4, MY3, b2, mn2, H2, C2, 1 + j2, rfl, e2, s3.tr t3, t4, fun q h1 h2 => ?_, ?_, by omega, DPO_u t8 (Or.inl rfl), t9, Nat.zero_le _⟩
      · have h3 : rkN 13 = 3 := rfl
        rw [t5 q h1 h2, unw_cons (by omega), List.append_assoc]
      · rw [← List.append_assoc, List.length_append, List.length_singleton]
        omega
    · obtain ⟨MX4, e1, e2⟩ := x_emitF t2 (-261)
      rw [t1, z_ob, e1]
      exact Or.inr ⟨b2, MX4, 1 + j2, rfl, e2, s3.f t3, by omega⟩
theorem P_denied {tp : Nat → Nat} {n N o : Nat} {G : Int32 → Mem → Option Mem} (hn : n ≤ 160) (ho5 : o ≤ 5) (hG : ∀ o', o ≤ o' → o' ≤ 5 → SPEC tp n N 4 4 mnA EX4 G o') (hR : RPR tp n G) : SPEC tp n N 3 4 mnB EX4 (FX5_denied G) o := by
  intro MX0 MX MY0 MY b p H C mn hX hY hlen ho hH hm
  obtain ⟨j, M1, g1, g2, g3⟩ := P_nots hn hG hR (5 - o) 0 FU MX0 MX MY0 MY b p H C mn (by omega) (by rw [z_FU]; omega) hX hY hlen ho hH hm
  rw [Nat.zero_add] at g1 g2
  rw [d_denied g2 g1]
  exact g3
/-- so many minuses, then what stands behind them -/
def mnS (o : Nat) (mn : Int32) (t : Nat) : Prop := mnA mn t ∧ (t = 45 → 5 ≤ o)
theorem P_minuses {tp : Nat → Nat} {n N o : Nat} {S : Int32 → Mem → Option Mem} (hn : n ≤ 160) (hS : ∀ o', o ≤ o' → o' ≤ 5 → SPEC tp n N 7 8 (mnS o') EX7 S o') :
    ∀ (k m f : Nat) (MX0 MX MY0 MY : Mem) (b p : Nat) (H C : List Nat) (mn : Int32), o + m + k = 5 → k < f → XS tp n MX0 MX p C → YS tp n N MY0 MY b p H C → C.length + H.length ≤ p → oc H = o + m → (∀ s T, H = s :: T → rkN s < 8) → mnA mn (lxT tp n p) →
      ∃ j M1, m + j ≤ 5 ∧ FX5_openers_L2 f 45 (nI o) (nI m) MX = some (nI (m + j), M1) ∧ OUT tp n N MX0 MY0 7 EX7 1 mn p H C [] MY (ob (S (nI (o + m + j)) M1) fun q => EM (-3) j q) := by
  intro k
  induction k with
  | zero =>
    intro m f MX0 MX MY0 MY b p H C mn hk hf hX hY hlen ho hH hm
    obtain ⟨f, rfl⟩ : ∃ g, f = g + 1 := ⟨f - 1, by omega⟩
    refine ⟨0, MX, by omega, op_stop (Or.inr (by rw [nI_add, show o + m = 5 by omega]; decide)), ?_⟩
    show OUT tp n N MX0 MY0 7 EX7 1 mn p H C [] MY (ob (S (nI (o + m + 0)) MX) fun q => some q)
    rw [ob_id, Nat.add_zero]
    exact hS (o + m) (by omega) (by omega) MX0 MX MY0 MY b p H C mn hX hY hlen ho hH ⟨hm, fun _ => by omega⟩
  | succ k ih =>
    intro m f MX0 MX MY0 MY b p H C mn hk hf hX hY hlen ho hH hm
    obtain ⟨f, rfl⟩ : ∃ g, f = g + 1 := ⟨f - 1, by omega⟩
    have hlt := TR_lt (lxT_rng tp n p)
    have hp := hX.2.1.2.2
    by_cases ht : lxT tp n p = 45
    rotate_left
    · refine ⟨0, MX, by omega, op_stop (Or.inl (by rw [hX.2.2.1.2.2.1]; exact fun z => ht ((tk_eq (a := 45) hlt (by decide)).mp z))), ?_⟩
      show OUT tp n N MX0 MY0 7 EX7 1 mn p H C [] MY (ob (S (nI (o + m + 0)) MX) fun q => some q)
      rw [ob_id, Nat.add_zero]
      exact hS (o + m) (by omega) (by omega) MX0 MX MY0 MY b p H C mn hX hY hlen ho hH ⟨hm, fun z => absurd z ht⟩
    obtain ⟨q1, q2, q3⟩ := p_lt hp (show lxT tp n p ≠ 0 by omega)
    obtain ⟨-, s2⟩ := s_opens hY hlen (x := 19) (mn := mn) (mn' := 0) (Or.inr (Or.inl ⟨ht, rfl, rfl⟩))
    obtain ⟨MX1, a1, a2⟩ := x_advS hX
    obtain ⟨MY1, s3, s4⟩ := s2 (by omega)
    obtain ⟨j, M1, g1, g2, g3⟩ := ih (m + 1) f MX0 MX1 MY0 MY1 (lxB tp n p) (lxE tp n p) (19 :: H) C 0 (by omega) (by omega) a2 s4 (by rw [List.length_cons]; omega) (by rw [oc, if_pos (Or.inr (Or.inr rfl)), ho]; omega) (fun s T h => rk_lt s) (fun _ => rfl)
    have h5 : ¬ 5 ≤ nI o + nI m := by rw [nI_add]; exact nI_ge (b := 5) (by omega) (by decide)
    have hgo := op_go (f := f) (a := 45) (o := nI o) (m := nI m) (M := MX) (by rw [hX.2.2.1.2.2.1, ht]; rfl) h5
    rw [a1, z_ob, nI_1, g2, show m + 1 + j = m + (j + 1) by omega] at hgo
    refine ⟨j + 1, M1, by omega, hgo, ?_⟩
    rw [EM_ob, show o + m + (j + 1) = o + (m + 1) + j by omega]
    rcases g3 with ⟨p2, D2, MX3, MY3, b2, mn2, H2, C2, j2, t1, t2, t3, t4, t5, t6, t7, t8, t9, -⟩ | ⟨b2, MX3, j2, t1, t2, t3, t4⟩
    · have hp2 := t2.2.1.2.2
      rw [List.length_cons] at t6
      obtain ⟨MX4, e1, e2⟩ := x_emitS t2 (by omega) (c := 19) (x := -3) rfl
      rw [t1, z_ob, e1]
      rw [List.append_assoc] at e2
      refine Or.inl ⟨p2, D2 ++ [19], MX4, MY3, b2, mn2, H2, C2, 1 + j2, rfl, e2, s3.tr t3, t4, fun q h1 h2 => ?_, ?_, by omega, DPO_u t8 (Or.inr rfl), t9, Nat.zero_le _⟩
      · have h3 : rkN 19 = 7 := rfl
        rw [t5 q h1 h2, unw_cons (by omega), List.append_assoc]
      · rw [← List.append_assoc, List.length_append, List.length_singleton]
        omega
    · obtain ⟨MX4, e1, e2⟩ := x_emitF t2 (-3)
      rw [t1, z_ob, e1]
      exact Or.inr ⟨b2, MX4, 1 + j2, rfl, e2, s3.f t3, by omega⟩
theorem P_signed {tp : Nat → Nat} {n N o : Nat} {S : Int32 → Mem → Option Mem} (hn : n ≤ 160) (ho5 : o ≤ 5) (hS : ∀ o', o ≤ o' → o' ≤ 5 → SPEC tp n N 7 8 (mnS o') EX7 S o') : SPEC tp n N 7 8 mnA EX7 (FX5_signed S) o := by
  intro MX0 MX MY0 MY b p H C mn hX hY hlen ho hH hm
  obtain ⟨j, M1, g1, g2, g3⟩ := P_minuses hn hS (5 - o) 0 FU MX0 MX MY0 MY b p H C mn (by omega) (by rw [z_FU]; omega) hX hY hlen ho hH hm
  rw [Nat.zero_add] at g1 g2
  rw [d_signed g2 g1]
  exact g3
/-- behind an expression nothing of it goes on -/
theorem s_stop {tp : Nat → Nat} {n N : Nat} {M0 M : Mem} {b p : Nat} {H C : List Nat} (h : YS tp n N M0 M b p H C) (hl : C.length + H.length ≤ p) (hex : EX1 (lxT tp n p) H C) (h59 : lxT tp n p ≠ 59) (h41 : lxT tp n p ≠ 41) (mn : Int32) : YF N M0 1 0 mn M (lxB tp n p) := by
  obtain ⟨⟨⟨⟨⟨-, e1⟩, e2, e3⟩, e4⟩, e5⟩, e6⟩ := hex
  by_cases hs : sgT (lxT tp n p) = 0
  · exact s_nosign h hs h59 h41 mn
  · have hc : lxT tp n p = 60 ∨ lxT tp n p = 61 := by
      unfold sgT at hs
      by_cases k1 : lxT tp n p = 60
      · exact Or.inl k1
      · by_cases k2 : lxT tp n p = 61
        · exact Or.inr k2
        · rw [if_neg e6, if_neg e5, if_neg k1, if_neg k2, if_neg e2, if_neg e3, if_neg e1] at hs
          exact absurd rfl hs
    obtain ⟨k1, k2, -⟩ := sg_cmp hc
    exact (s_sign h hl rfl k1 (q := 5) (by rw [k2, if_pos rfl]) mn).1 ⟨k2, e4 hc⟩
