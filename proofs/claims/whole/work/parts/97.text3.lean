/-! text -/
theorem TXR.pt {x : Txt} {t : Nat} {MX MY MX' MY' : Mem} (h : TXR x t MX MY) (h1 : MX'.1 (16 + t) = MX.1 (16 + t)) (h2 : MX'.1 (23 + t) = MX.1 (23 + t)) (h3 : ∀ i, i < 200 → MY'.1 7 (200 * t + i) = MY.1 7 (200 * t + i)) (h4 : ∀ i, i < 4 → MY'.1 8 (4 * t + i) = MY.1 8 (4 * t + i)) : TXR x t MX' MY' := by
  obtain ⟨⟨a1, a2, a3, a4⟩, b, c, d, e, f⟩ := h
  refine ⟨⟨a1, a2, a3, a4⟩, b, c, fun i hi => ?_, fun q hq => ?_, ?_⟩
  · rw [h1, h3 i (by omega)]; exact d i hi
  · rw [h2, show 4 * t + q + 1 = 4 * t + (q + 1) by omega, h4 (q + 1) (by omega)]; exact e q hq
  · have := h4 0 (by decide)
    rw [Nat.add_zero] at this
    rw [this]; exact f
def upT (v : Nat → Nat) (N : Nat) : Nat → Nat := fun j => if j = 5 then N else if j = 7 then 0 else v j
theorem RR_txt {v : Nat → Nat} {u : Nat → Nat → Nat} {tx tx' : Nat → Txt} {MX MY A B : Mem} (hR : RR v u tx MX MY) {N' : Nat} (hN' : v 5 ≤ N' ∧ N' ≤ 6) (htx : ∀ t, t < v 5 → tx' t = tx t) (hnew : ∀ t, v 5 ≤ t → t < N' → TXR (tx' t) t A B)
    (a1 : ∀ k, k ≠ 10 → k ≠ 12 → k ≠ 13 → k ≠ 14 → k ≠ 16 + v 5 → k ≠ 23 + v 5 → A.1 k = MX.1 k) (a16 : ∀ t, t < v 5 → A.1 (16 + t) = MX.1 (16 + t)) (a23 : ∀ t, t < v 5 → A.1 (23 + t) = MX.1 (23 + t)) (a2 : A.1 14 4 = nI N') (a3 : A.1 10 1 = nI 0)
    (b1 : ∀ k, k ≠ 0 → k ≠ 7 → k ≠ 8 → k ≠ 14 → B.1 k = MY.1 k) (b2 : ∀ j, j < 27 → j ≠ 11 → j ≠ 14 → B.1 0 j = MY.1 0 j) (b3 : B.1 0 14 = nI N') (b4 : B.1 0 11 = nI 0) (b5 : ∀ i, i < 200 * v 5 → B.1 7 i = MY.1 7 i) (b6 : ∀ i, i < 4 * v 5 → B.1 8 i = MY.1 8 i) : RR (upT v N') u tx' A B := by
  obtain ⟨hA, hB, hK, hS, hT, hTx, hH, hZ⟩ := hR
  obtain ⟨⟨x0, x1, x2, x3, x4, x5, x6, x7⟩, ⟨y0, y1, y2, y3, y4, y5, y6, y7⟩⟩ := hA
  obtain ⟨c0, c1, c2, c3, c4, c5, c6, c7, c8, c9⟩ := hB
  have k1 : A.1 1 = MX.1 1 := a1 1 (by omega) (by omega) (by omega) (by omega) (by omega) (by omega)
  have u5 : upT v N' 5 = N' := rfl
  have u7 : upT v N' 7 = 0 := rfl
  have uo : ∀ j, j ≠ 5 → j ≠ 7 → upT v N' j = v j := fun j h5 h7 => by unfold upT; rw [if_neg h5, if_neg h7]
  refine ⟨⟨⟨?_, ?_, ?_, ?_, ?_, ?_, ?_, ?_⟩, ⟨?_, ?_, ?_, ?_, ?_, ?_, ?_, ?_⟩⟩, ?_, ?_, ?_, ?_, ⟨fun t ht => ?_, fun j hj => ?_⟩, ?_, ?_⟩
  · rw [k1]; exact x0
  · rw [k1]; exact x1
  · rw [k1]; exact x2
  · rw [k1]; exact x3
  · rw [k1]; exact x4
  · exact a2
  · rw [k1]; exact x6
  · exact a3
  · rw [b2 0 (by omega) (by omega) (by omega)]; exact y0
  · rw [b2 1 (by omega) (by omega) (by omega)]; exact y1
  · rw [b2 2 (by omega) (by omega) (by omega)]; exact y2
  · rw [b2 3 (by omega) (by omega) (by omega)]; exact y3
  · rw [b2 9 (by omega) (by omega) (by omega)]; exact y4
  · exact b3
  · rw [b2 15 (by omega) (by omega) (by omega)]; exact y6
  · exact b4
  · refine ⟨c0, c1, c2, c3, c4, ?_, ?_, ?_, ?_, c9⟩
    · rw [u5]; omega
    · rw [u5]; omega
    · rw [u5]
      show v 6 < N'
      omega
    · rw [u7]; omega
  · obtain ⟨g1, g2, g3⟩ := hK
    refine ⟨?_, ?_, fun h8 => ?_⟩
    · rw [a1 0 (by omega) (by omega) (by omega) (by omega) (by omega) (by omega)]; exact g1
    · rw [b2 16 (by omega) (by omega) (by omega)]; exact g2
    · obtain ⟨p1, p2, p3⟩ := g3 h8
      rw [a1 2 (by omega) (by omega) (by omega) (by omega) (by omega) (by omega), b2 17 (by omega) (by omega) (by omega), b2 18 (by omega) (by omega) (by omega), b2 19 (by omega) (by omega) (by omega), b2 20 (by omega) (by omega) (by omega), b2 21 (by omega) (by omega) (by omega), b2 22 (by omega) (by omega) (by omega)]
      refine ⟨p1, p2, p3.1, p3.2.1, p3.2.2.1, p3.2.2.2.1, p3.2.2.2.2.1, ?_⟩
      have := p3.2.2.2.2.2
      rw [u5]
      show v 16 < N'
      omega
  · exact hS.fr (fun k h1 h2 s _ => by rw [a1 k (by omega) (by omega) (by omega) (by omega) (by omega) (by omega)]) (fun k h1 h2 s _ => by rw [b1 k (by omega) (by omega) (by omega) (by omega)])
  · intro i hi
    rw [u7] at hi
    exact absurd hi (Nat.not_lt_zero i)
  · rw [u5] at ht
    rcases Nat.lt_or_ge t (v 5) with h | h
    · rw [htx t h]
      exact (hTx.1 t h).pt (a16 t h) (a23 t h) (fun i hi => b5 _ (by omega)) (fun i hi => b6 _ (by omega))
    · exact hnew t h ht
  · rw [b1 13 (by omega) (by omega) (by omega) (by omega)]; exact hTx.2 j hj
  · exact hH.fr (fun c h1 h2 => a1 c (by omega) (by omega) (by omega) (by omega) (by omega) (by omega)) (b1 9 (by omega) (by omega) (by omega) (by omega)) (b1 10 (by omega) (by omega) (by omega) (by omega)) (b1 11 (by omega) (by omega) (by omega) (by omega))
  · exact hZ.fr (fun c h1 h2 => a1 c (by omega) (by omega) (by omega) (by omega) (by omega) (by omega))
theorem eq_text {MX MY : Mem} (h : Sim MX MY) : ∃ r MX' MY', FX8_text MX = some (r, MX') ∧ FX9_text MY = some (r, MY') ∧ Sim MX' MY' := by
  obtain ⟨v, u, tx, hR⟩ := id h
  obtain ⟨hA, hB, hK, hS, hT, hTx, hH, hZ⟩ := id hR
  obtain ⟨⟨x0, x1, x2, x3, x4, x5, x6, x7⟩, ⟨y0, y1, y2, y3, y4, y5, y6, y7⟩⟩ := hA
  obtain ⟨c0, c1, c2, c3, c4, c5, c6, c7, c8, c9⟩ := hB
  unfold FX8_text FX9_text
  rw [x5, y5, if_congr_prop (show nI (v 5) < 6 ↔ v 5 < 6 from z_lts (b := 6) (by omega) (by decide)), if_congr_prop (show nI (v 5) = 6 ↔ v 5 = 6 from z_eq (b := 6) (by omega) (by decide))]
  by_cases hN : v 5 < 6
  rotate_left
  · rw [if_neg hN, if_pos (by omega)]
    exact ⟨-4, MX, MY, rfl, rfl, h⟩
  rw [if_pos hN, if_neg (by omega)]
  simp only [z_lt]
  -- the class begins
  obtain ⟨M5, hM5⟩ : ∃ M5, M5 = wr (wr (wr MX 10 4 0) 10 6 0) 10 9 (-1) := ⟨_, rfl⟩
  have TX : TP (u 5) (v 7) 11 MX := ⟨c8, fun i hi => ⟨(hT i hi).1, (hT i hi).2.2⟩⟩
  have TY : TP (u 5) (v 7) 6 MY := ⟨c8, fun i hi => ⟨(hT i hi).2.1, (hT i hi).2.2⟩⟩
  have k5 : ∀ k, k ≠ 10 → M5.1 k = MX.1 k := fun k hk => by rw [hM5, wr_cell _ _ hk, wr_cell _ _ hk, wr_cell _ _ hk]
  have f5 : ∀ j, j < 4 → M5.1 10 j = MX.1 10 j := fun j hj => by rw [hM5, wr_at, if_neg (by omega), wr_at, if_neg (by omega), wr_at, if_neg (by omega)]
  obtain ⟨MX1, e1, e2, e3, e4, e5, e6, e7⟩ := x_advance (p := 0) (TX.c (k5 11 (by decide))) (by rw [f5 1 (by decide)]; exact x7) (by rw [hM5, wr_at, if_neg (by omega), wr_at, if_pos ⟨rfl, rfl⟩]; rfl) (Nat.zero_le _) (by rw [hM5, wr_at, if_pos ⟨rfl, rfl⟩])
  have hX1 : XS (u 5) (v 7) MX1 MX1 0 [] := by
    refine ⟨kxT.rf _, ⟨TX.c (by rw [e2 11 (by decide), k5 11 (by decide)]), ?_, Nat.zero_le _⟩, ⟨e4, e5, e6, e7, ?_⟩, ⟨?_, Nat.zero_le _, fun i hi => (by cases hi)⟩⟩
    · rw [e3 1 (by omega), f5 1 (by decide)]; exact x7
    · rw [e3 9 (by omega), hM5, wr_at, if_pos ⟨rfl, rfl⟩]
    · rw [e3 4 (by omega), hM5, wr_at, if_neg (by omega), wr_at, if_neg (by omega), wr_at, if_pos ⟨rfl, rfl⟩]; rfl
  have kx1 : kxU MX MX1 := ⟨fun k a _ _ => by rw [e2 k a, k5 k a], fun j hj => by rw [e3 j (by omega), f5 j hj]⟩
  -- the reference begins
  obtain ⟨MY1, hMY1⟩ : ∃ MY1, MY1 = wr (wr MY 0 27 0) 0 35 0 := ⟨_, rfl⟩
  have ky1 : kyU (v 5) MY MY1 := by rw [hMY1]; exact (kyU_0 (by decide) _ _).tr (kyU_0 (by decide) _ _)
  have hY1 : YO (u 5) (v 7) (v 5) MY1 0 [] := by
    refine ⟨⟨TY.c (ky1.1 6 (by decide) (by decide) (by decide) (by decide)), fun j hj => by rw [ky1.1 13 (by decide) (by decide) (by decide) (by decide)]; exact hTx.2 j hj, ?_, ?_, hN⟩, ⟨?_, Nat.zero_le _⟩, ?_, fun i hi => (by cases hi)⟩
    · rw [ky1.2.1 11 (by omega)]; exact y7
    · rw [ky1.2.1 14 (by omega)]; exact y5
    · rw [hMY1, wr_at, if_neg (by omega), wr_at, if_pos ⟨rfl, rfl⟩]; rfl
    · rw [hMY1, wr_at, if_pos ⟨rfl, rfl⟩]; rfl
  have hS0 : SE (v 5) 0 (fun _ => 0) [] MX1 MY1 := ⟨fun q hq => absurd hq (Nat.not_lt_zero q), fun q hq => absurd hq (Nat.not_lt_zero q), fun q hq => absurd hq (Nat.not_lt_zero q), rfl, fun c hc => (by cases hc)⟩
  rw [← hMY1]
  -- what a fault comes to
  have bad : ∀ (A B : Mem) (b : Nat) (z : Int32), kxU MX A → kyU (v 5) MY B → B.1 0 28 = nI b → ∃ r MX' MY', some ((-100) - nI b, wr A 10 1 0) = some (r, MX') ∧ some ((-100) - (wr (wr B 8 (4 * v 5 + 3) z) 0 11 0).1 0 28, wr (wr B 8 (4 * v 5 + 3) z) 0 11 0) = some (r, MY') ∧ Sim MX' MY' := by
    intro A B b z hA hB hb
    have e28 : (wr (wr B 8 (4 * v 5 + 3) z) 0 11 0).1 0 28 = nI b := by rw [wr_at, if_neg (by omega), wr_cell _ _ (by decide)]; exact hb
    rw [e28]
    refine ⟨_, _, _, rfl, rfl, upT v (v 5), u, tx, RR_txt hR ⟨Nat.le_refl _, by omega⟩ (fun _ _ => rfl) (fun t h1 h2 => by omega) (fun k g1 g2 g3 g4 g5 g6 => ?_) (fun t ht => ?_) (fun t ht => ?_) ?_ ?_ (fun k g1 g2 g3 g4 => ?_) (fun j g1 g2 g3 => ?_) ?_ ?_ (fun i hi => ?_) (fun i hi => ?_)⟩
    · rw [wr_cell _ _ g1]; exact hA.1 k g1 g2 g3
    · rw [wr_cell _ _ (by omega)]; exact hA.1 _ (by omega) (by omega) (by omega)
    · rw [wr_cell _ _ (by omega)]; exact hA.1 _ (by omega) (by omega) (by omega)
    · rw [wr_cell _ _ (by decide), hA.1 14 (by decide) (by decide) (by decide)]; exact x5
    · rw [wr_at, if_pos ⟨rfl, rfl⟩]; rfl
    · rw [wr_cell _ _ g1, wr_cell _ _ g3]; exact hB.1 k g1 g2 g3 g4
    · rw [wr_at, if_neg (fun z => g2 z.2), wr_cell _ _ (by decide)]; exact hB.2.1 j (by omega)
    · rw [wr_at, if_neg (by omega), wr_cell _ _ (by decide), hB.2.1 14 (by omega)]; exact y5
    · rw [wr_at, if_pos ⟨rfl, rfl⟩]; rfl
    · rw [wr_cell _ _ (by decide), wr_cell _ _ (by decide)]; exact hB.2.2.1 i (by omega)
    · rw [wr_cell _ _ (by decide), wr_at, if_neg (by omega)]; exact hB.2.2.2 i (by omega)
  have g24 : ∀ B : Mem, kyU (v 5) MY B → (4 * B.1 0 14 + 3 = nI (4 * v 5 + 3)) := fun B hB => by
    rw [hB.2.1 14 (by omega), y5, show (4 : Int32) = nI 4 from rfl, pk_mul, show (3 : Int32) = nI 3 from rfl, nI_add]
  rcases txt_loop c8 3 0 FU FU MX1 MY1 0 [] (fun _ => 0) (by omega) (by rw [z_FU]; omega) (by rw [z_FU]; omega) hX1 hY1 (Nat.zero_le _) hS0 with ⟨MX2, MY2, p, C, en, b1, b2, b3, b4, b5, b6, b7, b8⟩ | ⟨MX2, MY2, b, b1, b2, b3, b4, b5, b6⟩
  · rw [show nI 0 = 0 from rfl] at b1 b2
    have kx2 := kx1.tr b7
    have ky2 := ky1.tr b8
    have hlt := TR_lt (lxT_rng (u 5) (v 7) p)
    obtain ⟨⟨t1, t2, t3, t4, t5⟩, ⟨a1, a2⟩, q1, q2⟩ := id b4
    obtain ⟨MY3, n1, n2, n3⟩ := y_next t1 t2 t3 a1 a2
    have ky3 : kyU (v 5) MY MY3 := ky2.tr ⟨fun k a _ _ _ => n2.1 k a, fun j hj => n2.2 j (by omega), fun i _ => by rw [n2.1 7 (by decide)], fun i _ => by rw [n2.1 8 (by decide)]⟩
    have hread : ∀ (r : Int32) (M' : Mem), (ob (if MX2.1 10 7 = 0 then some MX2 else ob (FX5_refuse MX2) fun q14 => some q14) fun q11 => some (q11.1 10 9, q11)) = some (r, M') → FX5_read MX = some (r, M') := by
      intro r M' hr
      unfold FX5_read
      simp only [z_lt]
      rw [← hM5, e1, z_ob, b1, z_ob]
      exact hr
    rw [b2, z_ob]
    simp only []
    rw [if_neg n10, n1, z_ob, n3.2.2.1, if_congr_prop (yk0 _ hlt (lxT_rng (u 5) (v 7) p))]
    have e7t : MX2.1 10 7 = 0 ↔ lxT (u 5) (v 7) p = 0 := by
      rw [b3.2.2.1.2.2.1]
      exact tk_eq (a := 0) hlt (by decide)
    by_cases ht : lxT (u 5) (v 7) p = 0
    · -- a text
      have hr := hread (-1) MX2 (by rw [if_pos (e7t.mpr ht), z_ob, b3.2.2.1.2.2.2.2])
      rw [hr, z_ob, if_pos ht, z_ob]
      simp only []
      rw [if_pos (show (-1 : Int32) < 0 by decide), g24 MY3 ky3, z_gi (by omega) (by decide), z_ix (by omega), if_neg n10]
      obtain ⟨s1, s2, s3, s4, s5⟩ := b6
      have q35 : MY3.1 0 35 = nI C.length := by rw [n2.2 35 (by omega)]; exact q1
      have q14 : ∀ z, (wr (wr MY3 8 (4 * v 5 + 3) z) 0 11 0).1 0 14 = nI (v 5) := fun z => by rw [wr_at, if_neg (by omega), wr_cell _ _ (by decide), ky3.2.1 14 (by omega)]; exact y5
      rw [q35, q14, nI_1, wr_at, if_pos ⟨rfl, rfl⟩]
      -- add
      unfold FX6_add
      have e14 : (wr MX2 10 1 0).1 14 4 = nI (v 5) := by rw [wr_cell _ _ (by decide), kx2.1 14 (by decide) (by decide) (by decide)]; exact x5
      rw [e14, if_congr_prop (show nI (v 5) < 6 ↔ v 5 < 6 from z_lts (b := 6) (by omega) (by decide)), if_pos hN, z_gi hN (by decide), z_gd (by decide), z_ix (by omega), z_lt]
      obtain ⟨A4, hA4⟩ : ∃ A4, A4 = setC (wr MX2 10 1 0) (16 + v 5) (va_cpy ((wr MX2 10 1 0).1 12) ((wr MX2 10 1 0).1 (16 + v 5)) (Int32.toNatClampNeg 0) (Int32.toNatClampNeg 0) (Int32.toNatClampNeg 160)) := ⟨_, rfl⟩
      have e14b : A4.1 14 4 = nI (v 5) := by rw [hA4, setC_ne _ _ (by omega)]; exact e14
      rw [← hA4, e14b, z_gi hN (by decide), z_gd (by decide), z_ix (by omega), z_lt]
      obtain ⟨A5, hA5⟩ : ∃ A5, A5 = setC A4 (23 + v 5) (va_cpy (A4.1 13) (A4.1 (23 + v 5)) (Int32.toNatClampNeg 0) (Int32.toNatClampNeg 0) (Int32.toNatClampNeg 3)) := ⟨_, rfl⟩
      have e14c : A5.1 14 4 = nI (v 5) := by rw [hA5, setC_ne _ _ (by omega)]; exact e14b
      rw [← hA5, e14c, nI_1, z_lt, z_ob]
      have kA : ∀ k, k ≠ 10 → k ≠ 12 → k ≠ 13 → k ≠ 14 → k ≠ 16 + v 5 → k ≠ 23 + v 5 → (wr A5 14 4 (nI (v 5 + 1))).1 k = MX.1 k := fun k g1 g2 g3 g4 g5 g6 => by
        rw [wr_cell _ _ g4, hA5, setC_ne _ _ g6, hA4, setC_ne _ _ g5, wr_cell _ _ g1]
        exact kx2.1 k g1 g2 g3
      have row16 : ∀ i, i < 160 → (wr A5 14 4 (nI (v 5 + 1))).1 (16 + v 5) i = MX2.1 12 i := fun i hi => by
        rw [wr_cell _ _ (by omega), hA5, setC_ne _ _ (by omega), hA4, setC_eq, wr_cell _ _ (by decide)]
        show (if 0 ≤ i ∧ i < 0 + 160 then MX2.1 12 (0 + (i - 0)) else _) = _
        rw [if_pos (by omega), show 0 + (i - 0) = i by omega]
      have row23 : ∀ i, i < 3 → (wr A5 14 4 (nI (v 5 + 1))).1 (23 + v 5) i = MX2.1 13 i := fun i hi => by
        rw [wr_cell _ _ (by omega), hA5, setC_eq, hA4, setC_ne _ _ (by omega), wr_cell _ _ (by decide)]
        show (if 0 ≤ i ∧ i < 0 + 3 then MX2.1 13 (0 + (i - 0)) else _) = _
        rw [if_pos (by omega), show 0 + (i - 0) = i by omega]
      have eC : C.length = en 2 := s4
      have hC160 : C.length ≤ 160 := b3.2.2.2.2.1
      refine ⟨nI (v 5), _, wr (wr (wr MY3 8 (4 * v 5 + 3) (nI C.length)) 0 11 0) 0 14 (nI (v 5 + 1)), rfl, ?_, upT v (v 5 + 1), u, fun t => if t = v 5 then (C, en) else tx t, RR_txt hR ⟨by omega, by omega⟩ (fun t ht => if_neg (by omega)) (fun t h1 h2 => ?_) kA (fun t ht => ?_) (fun t ht => ?_) ?_ ?_ (fun k g1 g2 g3 g4 => ?_) (fun j g1 g2 g3 => ?_) ?_ ?_ (fun i hi => ?_) (fun i hi => ?_)⟩
      · rw [z_sub1 (by omega)]; rfl
      · have : t = v 5 := by omega
        subst this
        show TXR (if v 5 = v 5 then _ else _) _ _ _
        rw [if_pos rfl]
        have o1 := s3 0 (by decide)
        have o2 := s3 1 (by decide)
        have o3 := s3 2 (by decide)
        refine ⟨⟨o2.1, o3.1, eC.symm, hC160⟩, s5, fun q hq => ?_, fun i hi => ⟨?_, ?_⟩, fun q hq => ⟨?_, ?_⟩, ?_⟩
        · have o := (s3 q hq).2.2.1 0 []
          rw [List.append_nil] at o
          exact o
        · have hi : i < C.length := hi
          rw [row16 i (by omega)]; exact b3.2.2.2.2.2 i hi
        · rw [wr_cell _ _ (by decide), wr_cell _ _ (by decide), wr_cell _ _ (by decide), n2.1 7 (by decide)]; exact q2 i hi
        · rw [row23 q hq]; exact s1 q hq
        · rw [wr_cell _ _ (by decide), wr_cell _ _ (by decide), wr_at]
          by_cases h2 : q = 2
          · rw [if_pos ⟨rfl, by omega⟩, h2, eC]
          · rw [if_neg (by omega), n2.1 8 (by decide)]
            have := s2 (q + 1) (by omega)
            rw [if_neg (by omega), Nat.add_sub_cancel] at this
            exact this
        · rw [wr_cell _ _ (by decide), wr_cell _ _ (by decide), wr_at, if_neg (by omega), n2.1 8 (by decide)]
          have := s2 0 (by decide)
          rw [if_pos rfl] at this
          exact this
      · rw [wr_cell _ _ (by omega), hA5, setC_ne _ _ (by omega), hA4, setC_ne _ _ (by omega), wr_cell _ _ (by omega)]
        exact kx2.1 _ (by omega) (by omega) (by omega)
      · rw [wr_cell _ _ (by omega), hA5, setC_ne _ _ (by omega), hA4, setC_ne _ _ (by omega), wr_cell _ _ (by omega)]
        exact kx2.1 _ (by omega) (by omega) (by omega)
      · rw [wr_at, if_pos ⟨rfl, rfl⟩]
      · rw [wr_cell _ _ (by omega), hA5, setC_ne _ _ (by omega), hA4, setC_ne _ _ (by omega), wr_at, if_pos ⟨rfl, rfl⟩]; rfl
      · rw [wr_cell _ _ g1, wr_cell _ _ g1, wr_cell _ _ g3]; exact ky3.1 k g1 g2 g3 g4
      · rw [wr_at, if_neg (fun z => g3 z.2), wr_at, if_neg (fun z => g2 z.2), wr_cell _ _ (by decide)]; exact ky3.2.1 j (by omega)
      · rw [wr_at, if_pos ⟨rfl, rfl⟩]
      · rw [wr_at, if_neg (by omega), wr_at, if_pos ⟨rfl, rfl⟩]; rfl
      · rw [wr_cell _ _ (by decide), wr_cell _ _ (by decide), wr_cell _ _ (by decide)]; exact ky3.2.2.1 i (by omega)
      · rw [wr_cell _ _ (by decide), wr_cell _ _ (by decide), wr_at, if_neg (by omega)]; exact ky3.2.2.2 i (by omega)
    · -- something behind it
      obtain ⟨MX3, r1, r2⟩ := x_refS b3
      have hr := hread (nI (lxB (u 5) (v 7) p)) MX3 (by rw [if_neg (fun z => ht (e7t.mp z)), r1, z_ob, z_ob, r2.2.1.1])
      rw [hr, z_ob, if_neg ht, z_ob]
      simp only []
      rw [if_neg (z_neg r2.2.1.2), g24 MY3 ky3, z_gi (by omega) (by decide), z_ix (by omega), if_pos trivial]
      exact bad MX3 MY3 _ _ (kx2.tr r2.1.u) ky3 n3.1
  · rw [show nI 0 = 0 from rfl] at b1 b2
    have kx2 := kx1.tr b5
    have ky2 := ky1.tr b6
    obtain ⟨MX3, r1, r2⟩ := x_refF b3
    have hr : FX5_read MX = some (nI b, MX3) := by
      unfold FX5_read
      simp only [z_lt]
      rw [← hM5, e1, z_ob, b1, z_ob, b3.2.2.1, if_neg n10, r1, z_ob, z_ob, r2.2.1.1]
    rw [hr, z_ob, b2, z_ob]
    simp only []
    rw [if_neg (z_neg r2.2.1.2), if_pos trivial, z_ob]
    simp only []
    rw [g24 MY2 ky2, z_gi (by omega) (by decide), z_ix (by omega), if_pos trivial]
    exact bad MX3 MY2 b _ (kx2.tr r2.1.u) ky2 b4
