/-! THE START: both sides read the first text; they stand alike -/
theorem start_text {MX MY : Mem} {tp : Nat → Nat} {n : Nat} (TX : TP tp n 11 MX) (TY : TP tp n 6 MY) (x7 : MX.1 10 1 = nI n) (y7 : MY.1 0 11 = nI n) (x5 : MX.1 14 4 = nI 0) (y5 : MY.1 0 14 = nI 0) (hW : ∀ j, j < 96 → MY.1 13 j = nI (wdN j)) (hrd : (FX5_read MX).map (fun q => q.1) = some (-1)) :
    ∃ (M1 M2 B : Mem) (x : Txt), FX5_read MX = some (-1, M1) ∧ FX6_add M1 = some (nI 0, M2) ∧ FX9_text MY = some (nI 0, B) ∧ TXR x 0 (wr M2 10 1 0) B ∧
      (∀ k, k ≠ 10 → k ≠ 12 → k ≠ 13 → k ≠ 14 → k ≠ 16 → k ≠ 23 → (wr M2 10 1 0).1 k = MX.1 k) ∧ (wr M2 10 1 0).1 14 4 = nI 1 ∧ (wr M2 10 1 0).1 10 1 = nI 0 ∧
      (∀ k, k ≠ 0 → k ≠ 7 → k ≠ 8 → k ≠ 14 → B.1 k = MY.1 k) ∧ (∀ j, j < 27 → j ≠ 11 → j ≠ 14 → B.1 0 j = MY.1 0 j) ∧ B.1 0 14 = nI 1 ∧ B.1 0 11 = nI 0 := by
  have hn : n ≤ 160 := TX.1
  obtain ⟨M5, hM5⟩ : ∃ M5, M5 = wr (wr (wr MX 10 4 0) 10 6 0) 10 9 (-1) := ⟨_, rfl⟩
  have k5 : ∀ k, k ≠ 10 → M5.1 k = MX.1 k := fun k hk => by rw [hM5, wr_cell _ _ hk, wr_cell _ _ hk, wr_cell _ _ hk]
  have f5 : ∀ j, j < 4 → M5.1 10 j = MX.1 10 j := fun j hj => by rw [hM5, wr_at, if_neg (by omega), wr_at, if_neg (by omega), wr_at, if_neg (by omega)]
  obtain ⟨MX1, e1, e2, e3, e4, e5, e6, e7⟩ := x_advance (p := 0) (TX.c (k5 11 (by decide))) (by rw [f5 1 (by decide)]; exact x7) (by rw [hM5, wr_at, if_neg (by omega), wr_at, if_pos ⟨rfl, rfl⟩]; rfl) (Nat.zero_le _) (by rw [hM5, wr_at, if_pos ⟨rfl, rfl⟩])
  have hX1 : XS tp n MX1 MX1 0 [] := by
    refine ⟨kxT.rf _, ⟨TX.c (by rw [e2 11 (by decide), k5 11 (by decide)]), ?_, Nat.zero_le _⟩, ⟨e4, e5, e6, e7, ?_⟩, ⟨?_, Nat.zero_le _, fun i hi => (by cases hi)⟩⟩
    · rw [e3 1 (by omega), f5 1 (by decide)]; exact x7
    · rw [e3 9 (by omega), hM5, wr_at, if_pos ⟨rfl, rfl⟩]
    · rw [e3 4 (by omega), hM5, wr_at, if_neg (by omega), wr_at, if_neg (by omega), wr_at, if_pos ⟨rfl, rfl⟩]; rfl
  have kx1 : kxU MX MX1 := ⟨fun k a _ _ => by rw [e2 k a, k5 k a], fun j hj => by rw [e3 j (by omega), f5 j hj]⟩
  obtain ⟨MY1, hMY1⟩ : ∃ MY1, MY1 = wr (wr MY 0 27 0) 0 35 0 := ⟨_, rfl⟩
  have ky1 : kyU 0 MY MY1 := by rw [hMY1]; exact (kyU_0 (by decide) _ _).tr (kyU_0 (by decide) _ _)
  have hY1 : YO tp n 0 MY1 0 [] := by
    refine ⟨⟨TY.c (ky1.1 6 (by decide) (by decide) (by decide) (by decide)), fun j hj => by rw [ky1.1 13 (by decide) (by decide) (by decide) (by decide)]; exact hW j hj, ?_, ?_, (by decide)⟩, ⟨?_, Nat.zero_le _⟩, ?_, fun i hi => (by cases hi)⟩
    · rw [ky1.2.1 11 (by omega)]; exact y7
    · rw [ky1.2.1 14 (by omega)]; exact y5
    · rw [hMY1, wr_at, if_neg (by omega), wr_at, if_pos ⟨rfl, rfl⟩]; rfl
    · rw [hMY1, wr_at, if_pos ⟨rfl, rfl⟩]; rfl
  have hS0 : SE 0 0 (fun _ => 0) [] MX1 MY1 := ⟨fun q hq => absurd hq (Nat.not_lt_zero q), fun q hq => absurd hq (Nat.not_lt_zero q), fun q hq => absurd hq (Nat.not_lt_zero q), rfl, fun c hc => (by cases hc)⟩
  rcases txt_loop hn 3 0 FU FU MX1 MY1 0 [] (fun _ => 0) (by omega) (by rw [z_FU]; omega) (by rw [z_FU]; omega) hX1 hY1 (Nat.zero_le _) hS0 with ⟨MX2, MY2, p, C, en, b1, b2, b3, b4, b5, b6, b7, b8⟩ | ⟨MX2, MY2, b, b1, b2, b3, b4, b5, b6⟩
  · rw [show nI 0 = 0 from rfl] at b1 b2
    have kx2 := kx1.tr b7
    have ky2 := ky1.tr b8
    have hlt := TR_lt (lxT_rng tp n p)
    obtain ⟨⟨t1, t2, t3, t4, t5⟩, ⟨a1, a2⟩, q1, q2⟩ := id b4
    obtain ⟨MY3, n1, n2, n3⟩ := y_next t1 t2 t3 a1 a2
    have ky3 : kyU 0 MY MY3 := ky2.tr ⟨fun k a _ _ _ => n2.1 k a, fun j hj => n2.2 j (by omega), fun i _ => by rw [n2.1 7 (by decide)], fun i _ => by rw [n2.1 8 (by decide)]⟩
    have hread : ∀ (r : Int32) (M' : Mem), (ob (if MX2.1 10 7 = 0 then some MX2 else ob (FX5_refuse MX2) fun q14 => some q14) fun q11 => some (q11.1 10 9, q11)) = some (r, M') → FX5_read MX = some (r, M') := by
      intro r M' hr
      unfold FX5_read
      simp only [z_lt]
      rw [← hM5, e1, z_ob, b1, z_ob]
      exact hr
    have e7t : MX2.1 10 7 = 0 ↔ lxT tp n p = 0 := by
      rw [b3.2.2.1.2.2.1]
      exact tk_eq (a := 0) hlt (by decide)
    by_cases ht : lxT tp n p = 0
    · have hr := hread (-1) MX2 (by rw [if_pos (e7t.mpr ht), z_ob, b3.2.2.1.2.2.2.2])
      obtain ⟨s1, s2, s3, s4, s5⟩ := b6
      have q35 : MY3.1 0 35 = nI C.length := by rw [n2.2 35 (by omega)]; exact q1
      have g24 : (4 * MY3.1 0 14 + 3 = nI 3) := by
        rw [ky3.2.1 14 (by omega), y5, show (4 : Int32) = nI 4 from rfl, pk_mul, show (3 : Int32) = nI 3 from rfl, nI_add]
      have eC : C.length = en 2 := s4
      have hC160 : C.length ≤ 160 := b3.2.2.2.2.1
      -- the class keeps it
      have e14 : MX2.1 14 4 = nI 0 := by rw [kx2.1 14 (by decide) (by decide) (by decide)]; exact x5
      obtain ⟨A4, hA4⟩ : ∃ A4, A4 = setC MX2 16 (va_cpy (MX2.1 12) (MX2.1 16) (Int32.toNatClampNeg 0) (Int32.toNatClampNeg 0) (Int32.toNatClampNeg 160)) := ⟨_, rfl⟩
      have e14b : A4.1 14 4 = nI 0 := by rw [hA4, setC_ne _ _ (by decide)]; exact e14
      obtain ⟨A5, hA5⟩ : ∃ A5, A5 = setC A4 23 (va_cpy (A4.1 13) (A4.1 23) (Int32.toNatClampNeg 0) (Int32.toNatClampNeg 0) (Int32.toNatClampNeg 3)) := ⟨_, rfl⟩
      have e14c : A5.1 14 4 = nI 0 := by rw [hA5, setC_ne _ _ (by decide)]; exact e14b
      have hadd : FX6_add MX2 = some (nI 0, wr A5 14 4 (nI 1)) := by
        unfold FX6_add
        rw [e14, if_pos (by decide), z_gi (show 0 < 6 by decide) (by decide), z_gd (by decide), z_ix (by decide), z_lt]
        show (gi (Prod.fst (setC MX2 16 _) 14 4) 6 _) = _
        rw [← hA4, e14b, z_gi (show 0 < 6 by decide) (by decide), z_gd (by decide), z_ix (by decide), z_lt]
        show (lt (wr (setC A4 23 _) 14 4 _) _) = _
        rw [← hA5, e14c, z_lt]
        rfl
      have kA : ∀ k, k ≠ 10 → k ≠ 12 → k ≠ 13 → k ≠ 14 → k ≠ 16 → k ≠ 23 → (wr (wr A5 14 4 (nI 1)) 10 1 0).1 k = MX.1 k := fun k g1 g2 g3 g4 g5 g6 => by
        rw [wr_cell _ _ g1, wr_cell _ _ g4, hA5, setC_ne _ _ g6, hA4, setC_ne _ _ g5]
        exact kx2.1 k g1 g2 g3
      have row16 : ∀ i, i < 160 → (wr (wr A5 14 4 (nI 1)) 10 1 0).1 16 i = MX2.1 12 i := fun i hi => by
        rw [wr_cell _ _ (by decide), wr_cell _ _ (by decide), hA5, setC_ne _ _ (by decide), hA4, setC_eq]
        show (if 0 ≤ i ∧ i < 0 + 160 then MX2.1 12 (0 + (i - 0)) else _) = _
        rw [if_pos (by omega), show 0 + (i - 0) = i by omega]
      have row23 : ∀ i, i < 3 → (wr (wr A5 14 4 (nI 1)) 10 1 0).1 23 i = MX2.1 13 i := fun i hi => by
        rw [wr_cell _ _ (by decide), wr_cell _ _ (by decide), hA5, setC_eq, hA4, setC_ne _ _ (by decide)]
        show (if 0 ≤ i ∧ i < 0 + 3 then MX2.1 13 (0 + (i - 0)) else _) = _
        rw [if_pos (by omega), show 0 + (i - 0) = i by omega]
      -- the reference keeps it
      have hy : FX9_text MY = some (nI 0, wr (wr (wr MY3 8 3 (nI C.length)) 0 11 0) 0 14 (nI 1)) := by
        unfold FX9_text
        rw [y5, if_neg (by decide)]
        simp only [z_lt]
        rw [← hMY1, b2, z_ob]
        simp only []
        rw [if_neg n10, n1, z_ob, n3.2.2.1, if_congr_prop (yk0 _ hlt (lxT_rng tp n p)), if_pos ht, z_ob]
        simp only []
        rw [g24, z_gi (by decide) (by decide), z_ix (by decide), if_neg n10]
        have q14 : ∀ z, (wr (wr MY3 8 3 z) 0 11 0).1 0 14 = nI 0 := fun z => by rw [wr_at, if_neg (by omega), wr_cell _ _ (by decide), ky3.2.1 14 (by omega)]; exact y5
        rw [q35, q14, nI_1, wr_at, if_pos ⟨rfl, rfl⟩, z_sub1 (by omega)]
      refine ⟨MX2, wr A5 14 4 (nI 1), _, (C, en), hr, hadd, hy, ?_, kA, ?_, ?_, fun k g1 g2 g3 g4 => ?_, fun j g1 g2 g3 => ?_, ?_, ?_⟩
      · have o1 := s3 0 (by decide)
        have o2 := s3 1 (by decide)
        have o3 := s3 2 (by decide)
        refine ⟨⟨o2.1, o3.1, eC.symm, hC160⟩, s5, fun q hq => ?_, fun i hi => ⟨?_, ?_⟩, fun q hq => ⟨?_, ?_⟩, ?_⟩
        · have o := (s3 q hq).2.2.1 0 []
          rw [List.append_nil] at o
          exact o
        · have hi : i < C.length := hi
          rw [row16 i (by omega)]; exact b3.2.2.2.2.2 i hi
        · rw [wr_cell _ _ (by decide), wr_cell _ _ (by decide), wr_cell _ _ (by decide), n2.1 7 (by decide)]; exact q2 i hi
        · rw [row23 q hq]; exact s1 q hq
        · rw [wr_cell _ _ (by decide), wr_cell _ _ (by decide), wr_at]
          by_cases h2 : q = 2
          · rw [if_pos ⟨rfl, by omega⟩, h2, eC]
          · rw [if_neg (by omega), n2.1 8 (by decide)]
            have := s2 (q + 1) (by omega)
            rw [if_neg (by omega), Nat.add_sub_cancel] at this
            exact this
        · rw [wr_cell _ _ (by decide), wr_cell _ _ (by decide), wr_at, if_neg (by omega), n2.1 8 (by decide)]
          have := s2 0 (by decide)
          rw [if_pos rfl] at this
          exact this
      · rw [wr_cell _ _ (by decide), wr_at, if_pos ⟨rfl, rfl⟩]
      · rw [wr_at, if_pos ⟨rfl, rfl⟩]; rfl
      · rw [wr_cell _ _ g1, wr_cell _ _ g1, wr_cell _ _ g3]; exact ky3.1 k g1 g2 g3 g4
      · rw [wr_at, if_neg (fun z => g3 z.2), wr_at, if_neg (fun z => g2 z.2), wr_cell _ _ (by decide)]; exact ky3.2.1 j (by omega)
      · rw [wr_at, if_pos ⟨rfl, rfl⟩]
      · rw [wr_at, if_neg (by omega), wr_at, if_pos ⟨rfl, rfl⟩]; rfl
    · exfalso
      obtain ⟨MX3, r1, r2⟩ := x_refS b3
      have hr := hread (nI (lxB tp n p)) MX3 (by rw [if_neg (fun z => ht (e7t.mp z)), r1, z_ob, z_ob, r2.2.1.1])
      rw [hr] at hrd
      have e9 : nI (lxB tp n p) = -1 := Option.some.inj hrd
      have := z_neg r2.2.1.2
      rw [e9] at this
      exact this (by decide)
  · exfalso
    rw [show nI 0 = 0 from rfl] at b1 b2
    obtain ⟨MX3, r1, r2⟩ := x_refF b3
    have hr : FX5_read MX = some (nI b, MX3) := by
      unfold FX5_read
      simp only [z_lt]
      rw [← hM5, e1, z_ob, b1, z_ob, b3.2.2.1, if_neg n10, r1, z_ob, z_ob, r2.2.1.1]
    rw [hr] at hrd
    have e9 : nI b = -1 := Option.some.inj hrd
    have := z_neg r2.2.1.2
    rw [e9] at this
    exact this (by decide)
