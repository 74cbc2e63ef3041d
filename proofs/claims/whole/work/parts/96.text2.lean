/-! text: a section, and all three -/
theorem YS.o {tp : Nat → Nat} {n N : Nat} {M0 M : Mem} {b p : Nat} {C : List Nat} (h : YS tp n N M0 M b p [] C) : YO tp n N M p C := by
  obtain ⟨k, ⟨t1, t2, t3, t4, t5⟩, ⟨a1, a2, a3⟩, -, c, d⟩ := h
  refine ⟨⟨t1.c (k.1 6 (by decide) (by decide) (by decide)), fun j hj => by rw [k.1 13 (by decide) (by decide) (by decide)]; exact t2 j hj, ?_, ?_, t5⟩, ⟨a1, a2⟩, c⟩
  · rw [k.2.1 11 (by omega)]; exact t3
  · rw [k.2.1 14 (by omega)]; exact t4
theorem sec_step {tp : Nat → Nat} {n N : Nat} (hn : n ≤ 160) {MX MY : Mem} {p i : Nat} {C : List Nat} (hX : XS tp n MX MX p C) (hY : YO tp n N MY p C) (hl : C.length ≤ p) (hi : i < 3) :
    (∃ p' D MX' MY', (ob (FX5_expect (nI (256 + i)) MX) fun q => ob (FX5_eitherT 0 q) fun q => FX5_expect 59 q) = some MX' ∧ XS tp n MX' MX' p' (C ++ D) ∧ kxU MX MX' ∧ MX'.1 13 = MX.1 13 ∧ bodyY i MY = some (1, MY') ∧ YO tp n N MY' p' (C ++ D) ∧ kyU N MY MY' ∧ MY'.1 8 = (wr MY 8 (4 * N + i) (nI C.length)).1 8 ∧ (C ++ D).length ≤ p' ∧ DPO D) ∨
    (∃ b MX' MY', (ob (FX5_expect (nI (256 + i)) MX) fun q => ob (FX5_eitherT 0 q) fun q => FX5_expect 59 q) = some MX' ∧ XF MX' MX' b ∧ kxU MX MX' ∧ bodyY i MY = some (0, MY') ∧ MY'.1 0 28 = nI b ∧ kyU N MY MY') := by
  obtain ⟨⟨t1, t2, t3, t4, t5⟩, ⟨a1, a2⟩, c1, c2⟩ := id hY
  obtain ⟨M1, e1, e2, e3⟩ := y_next t1 t2 t3 a1 a2
  obtain ⟨n28, n27, n29, -, n30, -⟩ := e3
  have hR := lxT_rng tp n p
  have hlt := TR_lt hR
  have hY1 : YO tp n N M1 (lxE tp n p) C := hY.kz (e2.mono (fun i hi => by omega)) n27 (lxE_b a2).2.1
  have k1 : kyU N MY M1 := ⟨fun k a _ _ _ => e2.1 k a, fun j hj => e2.2 j (by omega), fun i _ => by rw [e2.1 7 (by decide)], fun i _ => by rw [e2.1 8 (by decide)]⟩
  obtain ⟨Mw, hMw⟩ : ∃ Mw, Mw = wr M1 8 (4 * N + i) (nI C.length) := ⟨_, rfl⟩
  have k2 : kyU N MY Mw := by rw [hMw]; exact k1.tr (kyU_8 (by omega) _ _)
  have e8 : Mw.1 8 = (wr MY 8 (4 * N + i) (nI C.length)).1 8 := by
    funext j
    rw [hMw, wr_at, wr_at, e2.1 8 (by decide)]
  have hYw : YO tp n N Mw (lxE tp n p) C := by rw [hMw]; exact hY1.w8
  have c35 : M1.1 0 35 = nI C.length := hY1.2.2.1
  have c14 : M1.1 0 14 = nI N := hY1.1.2.2.2.1
  have ei : 4 * M1.1 0 14 + nI i = nI (4 * N + i) := by rw [c14, show (4 : Int32) = nI 4 from rfl, pk_mul, nI_add]
  have hcond : (if M1.1 0 29 = 3 then (if M1.1 0 30 = nI i then true else false) else false) = decide (lxT tp n p = 256 + i) := by
    rw [n29, if_congr_prop (yk3 _ hlt hR)]
    by_cases h3 : 256 ≤ lxT tp n p ∧ lxT tp n p < 259
    · rw [if_pos h3, n30 h3.1 h3.2, if_congr_prop (show nI (lxT tp n p - 256) = nI i ↔ lxT tp n p - 256 = i from z_eq (by omega) (by omega))]
      by_cases h4 : lxT tp n p - 256 = i
      · rw [if_pos h4, decide_eq_true (by omega)]
      · rw [if_neg h4, decide_eq_false (by omega)]
    · rw [if_neg h3, decide_eq_false (by omega)]
  have hbody : bodyY i MY = ob (α := Int32 × Mem) (if (if decide (lxT tp n p = 256 + i) = true then (1 : Int32) else 0) = 0 then some (0, Mw) else ob (FX9_eRead Mw) fun q => if q.1 = 0 then some (0, q.2) else some (1, q.2)) fun q => some q := by
    unfold bodyY
    rw [e1, z_ob, hcond, ei, z_gi (by omega) (by decide), z_ix (by omega), c35, hMw]
  rw [hbody]
  obtain ⟨x1, x2⟩ := x_expS hX (a := 256 + i) (by omega)
  by_cases ht : lxT tp n p = 256 + i
  rotate_left
  · obtain ⟨MX1, f1, f2⟩ := x2 ht
    obtain ⟨MX2, g1, g2⟩ := F_eitherT 0 MX MX1 _ f2
    obtain ⟨MX3, h1, h2⟩ := x_expF g2 (a := 59) (by decide) (by decide)
    rw [f1, z_ob, g1, z_ob, show (59 : Int32) = nI 59 from rfl, h1, decide_eq_false ht, if_neg nft, if_pos rfl, z_ob]
    refine Or.inr ⟨lxB tp n p, MX3, Mw, rfl, h2.rb, h2.1.u, rfl, ?_, k2⟩
    rw [hMw, wr_cell _ _ (by decide)]
    exact n28
  obtain ⟨MX1, f1, f2⟩ := x1 ht
  obtain ⟨q1, q2, q3⟩ := p_lt a2 (show lxT tp n p ≠ 0 by omega)
  obtain ⟨Ms, hMs⟩ : ∃ Ms, Ms = wr (wr Mw 0 33 0) 0 34 0 := ⟨_, rfl⟩
  have ks : kyT N Mw Ms := by rw [hMs]; exact (kyT_0 (by decide) _ _).tr (kyT_0 (by decide) _ _)
  have hYs : YS tp n N Ms Ms (lxB tp n p) (lxE tp n p) [] C := by
    obtain ⟨⟨u1, u2, u3, u4, u5⟩, ⟨v1, v2⟩, w1, w2⟩ := hYw
    refine ⟨kyT.rf N Ms, ⟨u1.c (ks.1 6 (by decide) (by decide) (by decide)), fun j hj => by rw [ks.1 13 (by decide) (by decide) (by decide)]; exact u2 j hj, by rw [ks.2.1 11 (by omega)]; exact u3, by rw [ks.2.1 14 (by omega)]; exact u4, u5⟩, ⟨?_, v2, ?_⟩, ⟨?_, fun i hi => (by cases hi), ?_, fun h hh => (by cases hh)⟩, ⟨?_, fun i hi => ?_⟩, ?_⟩
    · rw [hMs, wr_at, if_neg (by omega), wr_at, if_neg (by omega)]; exact v1
    · rw [hMs, wr_at, if_neg (by omega), wr_at, if_neg (by omega), hMw, wr_cell _ _ (by decide)]; exact n28
    · rw [hMs, wr_at, if_neg (by omega), wr_at, if_pos ⟨rfl, rfl⟩]; rfl
    · rw [hMs, wr_at, if_pos ⟨rfl, rfl⟩]; rfl
    · rw [hMs, wr_at, if_neg (by omega), wr_at, if_neg (by omega)]; exact w1
    · rw [hMs, wr_cell _ _ (by decide), wr_cell _ _ (by decide)]; exact w2 i hi
    · show C.length + 0 ≤ 160
      omega
  have hRead : FX9_eRead Mw = FX9_eRead_L14 FU 1 1 Ms := by
    unfold FX9_eRead
    rw [hMs]
    simp only [z_lt]
    cases FX9_eRead_L14 FU 1 1 (wr (wr Mw 0 33 0) 0 34 0) with
    | none => rfl
    | some q => rfl
  rw [f1, z_ob, decide_eq_true ht, if_pos rfl, if_neg n10, hRead]
  have kk : kyU N MY Ms := k2.tr ks.u
  have ks8 : Ms.1 8 = Mw.1 8 := ks.1 8 (by decide) (by decide) (by decide)
  have hflt : ∀ (k b : Nat), YF N Ms k 1 1 Ms b → k ≤ 1000 → ∃ MY', (ob (α := Int32 × Mem) (ob (FX9_eRead_L14 FU 1 1 Ms) fun q => if q.1 = 0 then some (0, q.2) else some (1, q.2)) fun q => some q) = some (0, MY') ∧ MY'.1 0 28 = nI b ∧ kyU N MY MY' := by
    intro k b hF hk
    obtain ⟨M', m1, m2, m3⟩ := hF (FU - k)
    rw [show FU - k + k = FU by rw [z_FU]; omega] at m1
    rw [m1, z_ob, if_pos rfl, z_ob]
    exact ⟨M', rfl, m2, kk.tr m3.u⟩
  rcases P_eitherT hn MX MX1 Ms Ms (lxB tp n p) (lxE tp n p) [] C 1 f2 hYs (by show C.length + 0 ≤ _; omega) rfl (fun s T h => by cases h) rfl with ⟨p2, D, MX2, MY2, b2, mn2, H2, C2, j2, r1, r2, r3, r4, r5, r6, r7, r8, r9, -⟩ | ⟨b2, MX2, j2, r1, r2, r3, r4⟩
  · rw [show nI 0 = 0 from rfl] at r1
    have hp2 := r2.2.1.2.2
    have r6 : (C ++ D).length ≤ p2 := r6
    have hu : unw 1 H2 C2 = ([], C ++ D) := r5 1 (Nat.le_refl 1) (Nat.le_refl 1)
    have hlen2 := unw_len 1 H2 C2
    rw [hu] at hlen2
    have hlen3 : C2.length + H2.length ≤ p2 := by
      have : (C ++ D).length = C2.length + H2.length := by
        have h0 : ([] : List Nat).length = 0 := rfl
        simp only at hlen2
        omega
      omega
    rw [r1, z_ob]
    obtain ⟨x3, x4⟩ := x_expS r2 (a := 59) (by decide)
    by_cases h59 : lxT tp n p2 = 59
    · obtain ⟨MX3, g1, g2⟩ := x3 h59
      obtain ⟨w1, w2, w3⟩ := p_lt hp2 (show lxT tp n p2 ≠ 0 by omega)
      obtain ⟨MY3, s1, s2⟩ := (s_semi r4 h59 mn2).2 (by rw [hu])
      rw [hu] at s2
      have hfin : FX9_eRead_L14 FU 1 1 Ms = some (1, MY3) := by
        have m1 := r3 (FU - j2)
        have m2 := s1 (FU - j2 - 1)
        rw [show FU - j2 + j2 = FU by rw [z_FU]; omega] at m1
        rw [show FU - j2 - 1 + 1 = FU - j2 by rw [z_FU]; omega] at m2
        rw [m1, m2]
      rw [show (59 : Int32) = nI 59 from rfl, g1, hfin, z_ob, if_neg n10, z_ob]
      refine Or.inl ⟨lxE tp n p2, D, MX3, MY3, rfl, g2.rb, g2.1.u, g2.1.1 13 (by decide) (by decide), rfl, s2.o, kk.tr s2.1.u, ?_, by omega, r8⟩
      rw [s2.1.1 8 (by decide) (by decide) (by decide), ks8, e8]
    · obtain ⟨MX3, g1, g2⟩ := x4 h59
      rw [show (59 : Int32) = nI 59 from rfl, g1]
      have hyf : YF N Ms 1 0 mn2 MY2 (lxB tp n p2) := by
        by_cases h41 : lxT tp n p2 = 41
        · exact (s_close r4 h41 mn2).1 (by rw [hu])
        · exact s_stop r4 hlen3 r9 h59 h41 mn2
      obtain ⟨MY', m1, m2, m3⟩ := hflt (j2 + 1) (lxB tp n p2) (YG2.f r3 hyf) (by omega)
      rw [m1]
      exact Or.inr ⟨lxB tp n p2, MX3, MY', rfl, g2.rb, g2.1.u, rfl, m2, m3⟩
  · rw [show nI 0 = 0 from rfl] at r1
    obtain ⟨MX3, g1, g2⟩ := x_expF r2 (a := 59) (by decide) (by decide)
    obtain ⟨MY', m1, m2, m3⟩ := hflt j2 b2 r3 (by omega)
    rw [r1, z_ob, show (59 : Int32) = nI 59 from rfl, g1, m1]
    exact Or.inr ⟨b2, MX3, MY', rfl, g2.rb, g2.1.u, rfl, m2, m3⟩
/-- where the sections below i end -/
def SE (N i : Nat) (en : Nat → Nat) (C : List Nat) (MX MY : Mem) : Prop :=
  (∀ q, q < i → MX.1 13 q = nI (en q)) ∧ (∀ q, q < i → MY.1 8 (4 * N + q) = nI (if q = 0 then 0 else en (q - 1))) ∧ (∀ q, q < i → (if q = 0 then 0 else en (q - 1)) ≤ en q ∧ en q ≤ C.length ∧ DPO ((C.take (en q)).drop (if q = 0 then 0 else en (q - 1)))) ∧ (C.length = if i = 0 then 0 else en (i - 1)) ∧ ∀ c ∈ C, codeOk c
theorem txt_loop {tp : Nat → Nat} {n N : Nat} (hn : n ≤ 160) : ∀ (k i f f' : Nat) (MX MY : Mem) (p : Nat) (C : List Nat) (en : Nat → Nat), i + k = 3 → k < f → k + 1 < f' → XS tp n MX MX p C → YO tp n N MY p C → C.length ≤ p → SE N i en C MX MY →
    (∃ MX' MY' p' C' en', FX5_read_L21 f (nI i) MX = some MX' ∧ FX9_text_L26 f' 1 (nI i) MY = some (1, MY') ∧ XS tp n MX' MX' p' C' ∧ YO tp n N MY' p' C' ∧ C'.length ≤ p' ∧ SE N 3 en' C' MX' MY' ∧ kxU MX MX' ∧ kyU N MY MY') ∨
    (∃ MX' MY' b, FX5_read_L21 f (nI i) MX = some MX' ∧ FX9_text_L26 f' 1 (nI i) MY = some (0, MY') ∧ XF MX' MX' b ∧ MY'.1 0 28 = nI b ∧ kxU MX MX' ∧ kyU N MY MY') := by
  intro k
  induction k with
  | zero =>
    intro i f f' MX MY p C en hi hf hf' hX hY hl hS
    obtain ⟨f, rfl⟩ : ∃ g, f = g + 1 := ⟨f - 1, by omega⟩
    obtain ⟨f', rfl⟩ : ∃ g, f' = g + 1 := ⟨f' - 1, by omega⟩
    have : i = 3 := by omega
    subst this
    rw [FX5_read_L21, if_pos (by decide), L26_3]
    exact Or.inl ⟨MX, MY, p, C, en, rfl, rfl, hX, hY, hl, hS, kxU.rf MX, kyU.rf N MY⟩
  | succ k ih =>
    intro i f f' MX MY p C en hi hf hf' hX hY hl hS
    obtain ⟨f, rfl⟩ : ∃ g, f = g + 1 := ⟨f - 1, by omega⟩
    obtain ⟨f', rfl⟩ : ∃ g, f' = g + 1 := ⟨f' - 1, by omega⟩
    have hi3 : i < 3 := by omega
    have h2 : ¬ 2 < nI i := by
      rw [show (2 : Int32) = nI 2 from rfl, z_lts (by decide) (by omega)]
      omega
    have hstep : FX5_read_L21 (f + 1) (nI i) MX = ob (ob (FX5_expect (nI (256 + i)) MX) fun q => ob (FX5_eitherT 0 q) fun q => FX5_expect 59 q) fun q => FX5_read_L21 f (nI (i + 1)) (wr q 13 i (q.1 10 4)) := by
      rw [FX5_read_L21, if_neg h2, show (256 : Int32) = nI 256 from rfl, nI_add]
      cases FX5_expect (nI (256 + i)) MX with
      | none => rfl
      | some q =>
        rw [z_ob, z_ob]
        cases FX5_eitherT 0 q with
        | none => rfl
        | some q =>
          rw [z_ob, z_ob]
          cases FX5_expect 59 q with
          | none => rfl
          | some q => rw [z_ob, z_ob, z_gi (by omega) (by decide), z_ix (by omega), z_lt, nI_1, z_lt]
    rw [hstep, L26_body f' i hi3]
    rcases sec_step hn hX hY hl hi3 with ⟨p', D, MX', MY', a1, a2, a3, a4, a5, a6, a7, a8, a9, a10⟩ | ⟨b, MX', MY', a1, a2, a3, a4, a5, a6⟩
    · rw [a1, z_ob, a5, z_ob]
      have hlenX : MX'.1 10 4 = nI (C ++ D).length := a2.2.2.2.1
      rw [hlenX]
      obtain ⟨s1, s2, s3, s4, s5⟩ := hS
      have hen : ∀ q, q < i → (fun q => if q = i then (C ++ D).length else en q) q = en q := fun q hq => if_neg (by omega)
      have hprev : ∀ q, q ≤ i → (if q = 0 then 0 else (fun q => if q = i then (C ++ D).length else en q) (q - 1)) = (if q = 0 then 0 else en (q - 1)) := by
        intro q hq
        by_cases h0 : q = 0
        · rw [if_pos h0, if_pos h0]
        · rw [if_neg h0, if_neg h0]
          exact if_neg (by omega)
      have hS' : SE N (i + 1) (fun q => if q = i then (C ++ D).length else en q) (C ++ D) (wr MX' 13 i (nI (C ++ D).length)) MY' := by
        refine ⟨fun q hq => ?_, fun q hq => ?_, fun q hq => ?_, ?_, fun c hc => ?_⟩
        · show _ = nI (if q = i then (C ++ D).length else en q)
          rw [wr_at]
          by_cases h : q = i
          · rw [if_pos ⟨rfl, h⟩, if_pos h]
          · rw [if_neg (fun z => h z.2), if_neg h, a4]
            exact s1 q (by omega)
        · rw [hprev q (by omega), a8, wr_at]
          by_cases h : q = i
          · rw [if_pos ⟨rfl, by omega⟩, h, s4]
          · rw [if_neg (by omega)]
            exact s2 q (by omega)
        · rw [hprev q (by omega)]
          by_cases h : q = i
          · subst h
            show _ ≤ (if q = q then _ else _) ∧ (if q = q then _ else _) ≤ _ ∧ DPO (((C ++ D).take (if q = q then _ else _)).drop _)
            rw [if_pos rfl, ← s4, List.take_length, List.drop_left]
            exact ⟨by rw [List.length_append]; omega, Nat.le_refl _, a10⟩
          · show _ ≤ (if q = i then _ else _) ∧ (if q = i then _ else _) ≤ _ ∧ DPO (((C ++ D).take (if q = i then _ else _)).drop _)
            rw [if_neg h]
            obtain ⟨g1, g2, g3⟩ := s3 q (by omega)
            refine ⟨g1, by rw [List.length_append]; omega, ?_⟩
            rw [List.take_append_of_le_length g2]
            exact g3
        · rw [if_neg (by omega), Nat.add_sub_cancel]
          show _ = if i = i then _ else _
          rw [if_pos rfl]
        · rcases List.mem_append.mp hc with h | h
          · exact s5 c h
          · exact a10.2 c h
      rcases ih (i + 1) f f' (wr MX' 13 i (nI (C ++ D).length)) MY' p' (C ++ D) _ (by omega) (by omega) (by omega) a2.w13 a6 a9 hS' with ⟨MX2, MY2, p2, C2, en2, b1, b2, b3, b4, b5, b6, b7, b8⟩ | ⟨MX2, MY2, b0, b1, b2, b3, b4, b5, b6⟩
      · exact Or.inl ⟨MX2, MY2, p2, C2, en2, b1, b2, b3, b4, b5, b6, (a3.tr (kxU_13 _ _)).tr b7, a7.tr b8⟩
      · exact Or.inr ⟨MX2, MY2, b0, b1, b2, b3, b4, (a3.tr (kxU_13 _ _)).tr b5, a7.tr b6⟩
    · rw [a1, z_ob, a4, z_ob]
      obtain ⟨MX2, b1, b2, b3⟩ := x_rdF k (i + 1) f (wr MX' 13 i (MX'.1 10 4)) b (by omega) (by omega) a2.w13
      obtain ⟨f', rfl⟩ : ∃ g, f' = g + 1 := ⟨f' - 1, by omega⟩
      rw [b1, L26_0]
      exact Or.inr ⟨MX2, MY', b, rfl, rfl, b2, a5, (a3.tr (kxU_13 _ _)).tr b3, a6⟩
