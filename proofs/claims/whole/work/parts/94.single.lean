/-! single, and the whole -/
theorem P_single {tp : Nat → Nat} {n N o : Nat} {E : Int32 → Mem → Option Mem} (hn : n ≤ 160) (ho5 : o ≤ 5) (hE : o + 1 ≤ 5 → SPEC tp n N 1 1 mnB EX1 E (o + 1)) : SPEC tp n N 7 8 (mnS o) EX7 (FX5_single E) o := by
  intro MX0 MX MY0 MY b p H C mn hX hY hlen ho hH hm
  have hR := lxT_rng tp n p
  have hlt := TR_lt hR
  have hp := hX.2.1.2.2
  have hv2 := fun z => lxV_lt (tp := tp) (n := n) (p := p) z
  have i2 : nI (lxT tp n p) = 2 ↔ lxT tp n p = 2 := tk_eq (a := 2) hlt (by decide)
  have i40 : nI (lxT tp n p) = 40 ↔ lxT tp n p = 40 := tk_eq (a := 40) hlt (by decide)
  have j262 : nI (lxT tp n p) < 262 ↔ lxT tp n p < 262 := z_lts (b := 262) (by omega) (by decide)
  have j267 : 267 < nI (lxT tp n p) ↔ 267 < lxT tp n p := z_lts (a := 267) (by decide) (by omega)
  have j5 : 5 ≤ nI o ↔ 5 ≤ o := z_le (a := 5) (by decide) (by omega)
  unfold FX5_single
  rw [hX.2.2.1.2.2.1, if_congr_prop i2, if_congr_prop i40, if_congr_prop j262, if_congr_prop j267, if_congr_prop j5]
  simp only [z_lt]
  have operand : ∀ (c : Nat) (x : Int32), ((lxT tp n p = 2 ∧ c = 100000 + lxV tp n p) ∨ (262 ≤ lxT tp n p ∧ c = lxT tp n p - 262)) → x = encX c → DPO [c] → OUT tp n N MX0 MY0 7 EX7 1 mn p H C [] MY (ob (FX5_emit x MX) fun q => ob (FX5_advance q) fun q => some q) := by
    intro c x hc hx hD
    obtain ⟨q1, q2, q3⟩ := p_lt hp (show lxT tp n p ≠ 0 by omega)
    obtain ⟨MX1, e1, e2⟩ := x_emitS hX (by omega) hx
    obtain ⟨MX2, a1, a2⟩ := x_advS e2
    obtain ⟨MY1, s1, s2⟩ := s_operand hY hlen hc mn
    rw [e1, z_ob, a1, z_ob]
    refine Or.inl ⟨lxE tp n p, [c], MX2, MY1, _, mn, _, _, 1, rfl, a2, s1, s2, fun q h1 h2 => unw_unw (by omega) H (C ++ [c]), ?_, by omega, hD, trivial, Nat.zero_le _⟩
    rw [List.length_append, List.length_singleton]
    omega
  by_cases h2 : lxT tp n p = 2
  · rw [if_pos h2]
    have hv := hv2 h2
    refine operand (100000 + lxV tp n p) _ (Or.inl ⟨h2, rfl⟩) ?_ (DPO_1 (by omega))
    rw [hX.2.2.1.2.2.2.1 h2]
    unfold encX
    rw [if_pos (by omega), Nat.add_sub_cancel_left]
  rw [if_neg h2]
  by_cases h262 : 262 ≤ lxT tp n p
  · have eb : (if lxT tp n p < 262 then false else if 267 < lxT tp n p then false else true) = true := by
      rw [if_neg (by omega), if_neg (by omega)]
    rw [if_pos eb]
    refine operand (lxT tp n p - 262) _ (Or.inr ⟨h262, rfl⟩) ?_ (DPO_1 (by omega))
    unfold encX
    rw [if_neg (by omega), if_pos (by omega), show 262 + (lxT tp n p - 262) = lxT tp n p by omega]
  have eb : ¬ (if lxT tp n p < 262 then false else if 267 < lxT tp n p then false else true) = true := by
    rw [if_pos (by omega)]; exact nft
  rw [if_neg eb]
  by_cases h40 : lxT tp n p = 40
  · obtain ⟨q1, q2, q3⟩ := p_lt hp (show lxT tp n p ≠ 0 by omega)
    obtain ⟨s1, s2⟩ := s_opens hY hlen (x := 0) (mn := mn) (mn' := 1) (Or.inr (Or.inr ⟨h40, rfl, rfl⟩))
    by_cases ho1 : 5 ≤ o
    · have e2 : ¬ (if lxT tp n p = 40 then (if 5 ≤ o then false else true) else false) = true := by
        rw [if_pos h40, if_pos ho1]; exact nft
      rw [if_neg e2]
      obtain ⟨MX1, a1, a2⟩ := x_refS hX
      rw [a1, z_ob]
      exact Or.inr ⟨_, MX1, 1, rfl, a2, s1 (by omega), by omega⟩
    · have e2 : (if lxT tp n p = 40 then (if 5 ≤ o then false else true) else false) = true := by
        rw [if_pos h40, if_neg ho1]
      rw [if_pos e2]
      obtain ⟨MX1, a1, a2⟩ := x_advS hX
      obtain ⟨MY1, s3, s4⟩ := s2 (by omega)
      rw [a1, z_ob, nI_1]
      have r0 : rkN 0 = 0 := rfl
      rcases hE (by omega) MX0 MX1 MY0 MY1 (lxB tp n p) (lxE tp n p) (0 :: H) C 1 a2 s4 (by rw [List.length_cons]; omega) (by rw [oc, if_pos (Or.inl rfl), ho]) (fun s T h => by
        injection h with h1 h2
        rw [← h1, r0]; decide) rfl with ⟨p2, D2, MX3, MY3, b2, mn2, H2, C2, j2, t1, t2, t3, t4, t5, t6, t7, t8, t9, -⟩ | ⟨b2, MX3, j2, t1, t2, t3, t4⟩
      · have hp2 := t2.2.1.2.2
        rw [List.length_cons] at t6
        have hu : unw 1 H2 C2 = (0 :: H, C ++ D2) := by
          rw [t5 1 (Nat.le_refl 1) (Nat.le_refl 1), unw, if_neg (by rw [r0]; decide)]
        have hlen2 := unw_len 1 H2 C2
        rw [hu] at hlen2
        simp only [List.length_cons] at hlen2
        rw [t1, z_ob]
        obtain ⟨x1, x2⟩ := x_expS t2 (a := 41) (by decide)
        by_cases h41 : lxT tp n p2 = 41
        · obtain ⟨MX4, f1, f2⟩ := x1 h41
          obtain ⟨r1, r2, r3⟩ := p_lt hp2 (show lxT tp n p2 ≠ 0 by omega)
          obtain ⟨MY4, g1, g2⟩ := (s_close t4 h41 mn2).2 0 H (by rw [hu])
          rw [hu] at g2
          rw [show (41 : Int32) = nI 41 from rfl, f1, z_ob]
          exact Or.inl ⟨lxE tp n p2, D2, MX4, MY4, _, mn2, _, _, 1 + (j2 + 1), rfl, f2, s3.tr (t3.tr g1), g2, fun q h1 h2 => unw_unw (by omega) H (C ++ D2), by omega, by omega, t8, trivial, Nat.zero_le _⟩
        · obtain ⟨MX4, f1, f2⟩ := x2 h41
          rw [show (41 : Int32) = nI 41 from rfl, f1, z_ob]
          have hyf : YF N MY0 1 0 mn2 MY3 (lxB tp n p2) := by
            by_cases h59 : lxT tp n p2 = 59
            · exact (s_semi t4 h59 mn2).1 (by rw [hu]; exact List.cons_ne_nil _ _)
            · exact s_stop t4 (by omega) t9 h59 h41 mn2
          exact Or.inr ⟨_, MX4, 1 + (j2 + 1), rfl, f2, s3.f (t3.f hyf), by have := t2.2.1.2.2; omega⟩
      · obtain ⟨MX4, f1, f2⟩ := x_expF t2 (a := 41) (by decide) (by decide)
        rw [t1, z_ob, show (41 : Int32) = nI 41 from rfl, f1, z_ob]
        exact Or.inr ⟨b2, MX4, 1 + j2, rfl, f2, s3.f t3, by omega⟩
  · have e2 : ¬ (if lxT tp n p = 40 then (if 5 ≤ o then false else true) else false) = true := by
      rw [if_neg h40]; exact nft
    rw [if_neg e2]
    obtain ⟨MX1, a1, a2⟩ := x_refS hX
    rw [a1, z_ob]
    by_cases h45 : lxT tp n p = 45
    · obtain ⟨q1, q2, q3⟩ := p_lt hp (show lxT tp n p ≠ 0 by omega)
      obtain ⟨s1, -⟩ := s_opens hY hlen (x := 19) (mn := mn) (mn' := 0) (Or.inr (Or.inl ⟨h45, rfl, rfl⟩))
      have := hm.2 h45
      exact Or.inr ⟨_, MX1, 1, rfl, a2, s1 (by omega), by omega⟩
    · exact Or.inr ⟨_, MX1, 1, rfl, a2, s_nooper hY (by omega) hm.1 h45 h40, by omega⟩
theorem P_tie {tp : Nat → Nat} {n N : Nat} (hn : n ≤ 160) : ∀ (k o : Nat), o ≤ 5 → 6 ≤ k + o → SPEC tp n N 1 1 mnB EX1 (ZX5 k) o
  | 0, o, h1, h2 => by omega
  | k + 1, o, h1, h2 => by
    have ih := fun (o' : Nat) (h0 : o ≤ o') (h : o' + 1 ≤ 5) => P_tie (tp := tp) (n := n) (N := N) hn k (o' + 1) h (by omega)
    have hs : ∀ o', o ≤ o' → o' ≤ 5 → SPEC tp n N 7 8 (mnS o') EX7 (FX5_single (ZX5 k)) o' := fun o' g1 g2 => P_single hn g2 (ih o' g1)
    have hg : ∀ o', o ≤ o' → o' ≤ 5 → SPEC tp n N 7 8 mnA EX7 (FX5_signed (FX5_single (ZX5 k))) o' := fun o' g1 g2 => P_signed hn g2 (fun o2 k1 k2 => hs o2 (by omega) k2)
    have hc : ∀ o', o ≤ o' → o' ≤ 5 → SPEC tp n N 4 4 mnA EX4 (FX5_compared (FX5_sum (FX5_product (FX5_signed (FX5_single (ZX5 k)))))) o' := fun o' g1 g2 => P_compared hn (P_sum hn (P_product hn (hg o' g1 g2)))
    have hd : SPEC tp n N 3 4 mnB EX4 (FX5_denied (FX5_compared (FX5_sum (FX5_product (FX5_signed (FX5_single (ZX5 k))))))) o := P_denied hn h1 hc (R_compared (R_sum (R_product (R_signed (R_single _)))))
    exact P_either hn (P_both hn hd)
theorem P_eitherT {tp : Nat → Nat} {n N : Nat} (hn : n ≤ 160) : SPEC tp n N 1 1 mnB EX1 FX5_eitherT 0 := P_tie hn 16 0 (by decide) (by decide)
