/-! PRINTED by wip/gen: pure functions of the methods, and that the machine does what they say -/
def FJ6_bitCount_0f7a4 (a0 : Int32) : Int32 :=
  lt (α := Int32) (a0 - ((ushr a0 1) &&& 1431655765)) fun x1 =>
  lt (α := Int32) ((x1 &&& 858993459) + ((ushr x1 2) &&& 858993459)) fun x3 =>
  lt (α := Int32) ((x3 + (ushr x3 4)) &&& 252645135) fun x5 =>
  lt (α := Int32) (x5 + (ushr x5 8)) fun x7 =>
  lt (α := Int32) (x7 + (ushr x7 16)) fun x9 =>
  x9 &&& 63
set_option maxHeartbeats 4000000 in
set_option maxRecDepth 100000 in
theorem ctJ6_bitCount_0f7a4 (l : Launch) (g : CtxG) (a0 : Int32) (M : Mem) : Ct l (WX g) yJ6_bitCount_0f7a4 cJ6_bitCount_0f7a4 1 (some .int) 1 [.int a0] M (some (.int (FJ6_bitCount_0f7a4 a0)), M) := by
  obtain ⟨r0, h⟩ : ∃ r0, FJ6_bitCount_0f7a4 a0 = r0 := ⟨_, rfl⟩
  rw [h]
  refine Ct.of (by decide) (Nat.le_of_ble_eq_true rfl) (fun Y hY E => ?_)
  have E : EV Y (WX g) cJ6_bitCount_0f7a4 1 (some .int) RJ6 := E
  --generalize hr : ((some (Value.int r0), M) : Option Value × Mem) = r
  have h : FJ6_bitCount_0f7a4 a0 = r0 := h
  unfold FJ6_bitCount_0f7a4 at h
  show AW Y (WX g) _ 1 1 0 [(0, .int a0)] [] M
  obtain ⟨r, hr⟩ : ∃ r : Option Value × Mem, r = (some (.int r0), M) := ⟨_, rfl⟩
  rw [← hr]
  refine aw_iload_n E dJ6_bitCount_0f7a4_0 0 rfl ?_
  refine aw_iload_n E dJ6_bitCount_0f7a4_1 0 rfl ?_
  refine aw_iconst (v := 1) E dJ6_bitCount_0f7a4_2 (by decide) ?_
  refine aw_iushr (v := ushr a0 1) E dJ6_bitCount_0f7a4_3 rfl ?_
  refine aw_ldcw (v := 1431655765) E kcJ6_265 dJ6_bitCount_0f7a4_4 ?_
  refine aw_iand E dJ6_bitCount_0f7a4_7 ?_
  refine aw_isub E dJ6_bitCount_0f7a4_8 ?_
  obtain ⟨x1, e2, h⟩ := lt_e h
  refine aw_nmI e2 ?_
  refine aw_istore_n (L1 := [(0, .int x1)]) E dJ6_bitCount_0f7a4_9 (Nat.le_of_ble_eq_true rfl) rfl ?_
  refine aw_iload_n E dJ6_bitCount_0f7a4_10 0 rfl ?_
  refine aw_ldcw (v := 858993459) E kcJ6_266 dJ6_bitCount_0f7a4_11 ?_
  refine aw_iand E dJ6_bitCount_0f7a4_14 ?_
  refine aw_iload_n E dJ6_bitCount_0f7a4_15 0 rfl ?_
  refine aw_iconst (v := 2) E dJ6_bitCount_0f7a4_16 (by decide) ?_
  refine aw_iushr (v := ushr x1 2) E dJ6_bitCount_0f7a4_17 rfl ?_
  refine aw_ldcw (v := 858993459) E kcJ6_266 dJ6_bitCount_0f7a4_18 ?_
  refine aw_iand E dJ6_bitCount_0f7a4_21 ?_
  refine aw_iadd E dJ6_bitCount_0f7a4_22 ?_
  obtain ⟨x3, e4, h⟩ := lt_e h
  refine aw_nmI e4 ?_
  refine aw_istore_n (L1 := [(0, .int x3)]) E dJ6_bitCount_0f7a4_23 (Nat.le_of_ble_eq_true rfl) rfl ?_
  refine aw_iload_n E dJ6_bitCount_0f7a4_24 0 rfl ?_
  refine aw_iload_n E dJ6_bitCount_0f7a4_25 0 rfl ?_
  refine aw_iconst (v := 4) E dJ6_bitCount_0f7a4_26 (by decide) ?_
  refine aw_iushr (v := ushr x3 4) E dJ6_bitCount_0f7a4_27 rfl ?_
  refine aw_iadd E dJ6_bitCount_0f7a4_28 ?_
  refine aw_ldcw (v := 252645135) E kcJ6_267 dJ6_bitCount_0f7a4_29 ?_
  refine aw_iand E dJ6_bitCount_0f7a4_32 ?_
  obtain ⟨x5, e6, h⟩ := lt_e h
  refine aw_nmI e6 ?_
  refine aw_istore_n (L1 := [(0, .int x5)]) E dJ6_bitCount_0f7a4_33 (Nat.le_of_ble_eq_true rfl) rfl ?_
  refine aw_iload_n E dJ6_bitCount_0f7a4_34 0 rfl ?_
  refine aw_iload_n E dJ6_bitCount_0f7a4_35 0 rfl ?_
  refine aw_bipush (v := 8) E dJ6_bitCount_0f7a4_36 (by decide) ?_
  refine aw_iushr (v := ushr x5 8) E dJ6_bitCount_0f7a4_38 rfl ?_
  refine aw_iadd E dJ6_bitCount_0f7a4_39 ?_
  obtain ⟨x7, e8, h⟩ := lt_e h
  refine aw_nmI e8 ?_
  refine aw_istore_n (L1 := [(0, .int x7)]) E dJ6_bitCount_0f7a4_40 (Nat.le_of_ble_eq_true rfl) rfl ?_
  refine aw_iload_n E dJ6_bitCount_0f7a4_41 0 rfl ?_
  refine aw_iload_n E dJ6_bitCount_0f7a4_42 0 rfl ?_
  refine aw_bipush (v := 16) E dJ6_bitCount_0f7a4_43 (by decide) ?_
  refine aw_iushr (v := ushr x7 16) E dJ6_bitCount_0f7a4_45 rfl ?_
  refine aw_iadd E dJ6_bitCount_0f7a4_46 ?_
  obtain ⟨x9, e10, h⟩ := lt_e h
  refine aw_nmI e10 ?_
  refine aw_istore_n (L1 := [(0, .int x9)]) E dJ6_bitCount_0f7a4_47 (Nat.le_of_ble_eq_true rfl) rfl ?_
  refine aw_iload_n E dJ6_bitCount_0f7a4_48 0 rfl ?_
  refine aw_bipush (v := 63) E dJ6_bitCount_0f7a4_49 (by decide) ?_
  refine aw_iand E dJ6_bitCount_0f7a4_51 ?_
  subst h
  exact aw_iret E dJ6_bitCount_0f7a4_52 hr
def FJ7_fill_53178_L5 : Nat → Nat → Nat → Int32 → Int32 → Int32 → Mem → Option (Mem)
  | 0, _, _, _, _, _, _ => none
  | f + 1, p0, n0, p1, p3, p2, M =>
    if p3 ≤ p2 then
      some M
    else
      gi p2 n0 <|
      lt (wr M p0 (Int32.toNatClampNeg p2) p1) fun M102 =>
      lt (α := Int32) (p2 + 1) fun x104 =>
      FJ7_fill_53178_L5 f p0 n0 p1 p3 x104 M102
def FJ7_fill_53178 (a0 n0 : Nat) (a1 : Int32) (M : Mem) : Option (Mem) :=
  lt (α := Int32) ((Int32.ofNat n0)) fun x1 =>
  ob (FJ7_fill_53178_L5 FU a0 n0 a1 x1 0 M) fun q3 =>
  some q3
set_option maxHeartbeats 4000000 in
set_option maxRecDepth 100000 in
theorem lpJ7_fill_53178_5 {Y : CtxM} {g : CtxG} {r : Option Value × Mem} (E : EV Y (WX g) cJ7_fill_53178 4 none RJ7) (p0 : Nat) (n0 : Nat) (hk0 : p0 < wN (WX g)) (hs0 : wsh (WX g) p0 = (1, n0, 0, [])) (p1 : Int32) (p3 : Int32) : ∀ (f : Nat) (p2 : Int32) (M : Mem) (q : Mem), FJ7_fill_53178_L5 f p0 n0 p1 p3 p2 M = some q → AW Y (WX g) r 4 1 20 [] [] q → AW Y (WX g) r 4 1 5 [(0, .ref (wad (WX g) p0)), (1, .int p1), (2, .int p2), (3, .int p3)] [] M := by
  intro f
  induction f with
  | zero => intro p2 M q hh; exact absurd hh (fun z => nomatch (show (none : Option (Mem)) = some q from z))
  | succ f ih =>
    intro p2 M q hh kx
    rw [FJ7_fill_53178_L5] at hh
    refine aw_iload_n E dJ7_fill_53178_5 2 rfl ?_
    refine aw_iload_n E dJ7_fill_53178_6 3 rfl ?_
    refine aw_icmp_ge (tgt := 20) E dJ7_fill_53178_7 rfl (fun c7 => ?_) (fun c7 => ?_)
    ·
      replace hh := ip c7 hh
      refine aw_sub (L1 := []) [] rfl ?_
      replace hh := Option.some.inj hh
      subst hh
      exact kx
    ·
      replace hh := iq c7 hh
      refine aw_aload_n E dJ7_fill_53178_10 0 rfl ?_
      refine aw_iload_n E dJ7_fill_53178_11 2 rfl ?_
      refine aw_iload_n E dJ7_fill_53178_12 1 rfl ?_
      obtain ⟨g101, hh⟩ := gi_e hh
      obtain ⟨M102, e103, hh⟩ := lt_e hh
      refine aw_iast1 e103 E hk0 hs0 g101 dJ7_fill_53178_13 ?_
      obtain ⟨x104, e105, hh⟩ := lt_e hh
      refine aw_iinc (v := x104) (L1 := [(2, .int x104), (0, .ref (wad (WX g) p0)), (1, .int p1), (3, .int p3)]) E dJ7_fill_53178_14 2 rfl e105 (Nat.le_of_ble_eq_true rfl) rfl ?_
      refine aw_goto (tgt := 5) E dJ7_fill_53178_17 rfl ?_
      refine aw_sub (L1 := [(0, .ref (wad (WX g) p0)), (1, .int p1), (2, .int x104), (3, .int p3)]) [1, 2, 0, 3] rfl ?_
      exact ih x104 M102 _ hh kx
set_option maxHeartbeats 4000000 in
set_option maxRecDepth 100000 in
theorem ctJ7_fill_53178 (l : Launch) (g : CtxG) (a0 n0 : Nat) (a1 : Int32) (hk0 : a0 < wN (WX g)) (hs0 : wsh (WX g) a0 = (1, n0, 0, [])) (M : Mem) (r0 : Mem) (h : FJ7_fill_53178 a0 n0 a1 M = some r0) : Ct l (WX g) yJ7_fill_53178 cJ7_fill_53178 4 none 1 [.ref (wad (WX g) a0), .int a1] M (none, r0) := by
  refine Ct.of (by decide) (Nat.le_of_ble_eq_true rfl) (fun Y hY E => ?_)
  have E : EV Y (WX g) cJ7_fill_53178 4 none RJ7 := E
  have h : FJ7_fill_53178 a0 n0 a1 M = some r0 := h
  unfold FJ7_fill_53178 at h
  show AW Y (WX g) _ 4 1 0 [(0, .ref (wad (WX g) a0)), (1, .int a1)] [] M
  obtain ⟨r, hr⟩ : ∃ r : Option Value × Mem, r = (none, r0) := ⟨_, rfl⟩
  rw [← hr]
  refine aw_iconst (v := 0) E dJ7_fill_53178_0 (by decide) ?_
  refine aw_istore_n (L1 := [(2, .int 0), (0, .ref (wad (WX g) a0)), (1, .int a1)]) E dJ7_fill_53178_1 (Nat.le_of_ble_eq_true rfl) rfl ?_
  refine aw_aload_n E dJ7_fill_53178_2 1 rfl ?_
  refine aw_alen (v := (Int32.ofNat n0)) E hk0 hs0 rfl dJ7_fill_53178_3 ?_
  obtain ⟨x1, e2, h⟩ := lt_e h
  refine aw_nmI e2 ?_
  refine aw_istore_n (L1 := [(3, .int x1), (2, .int 0), (0, .ref (wad (WX g) a0)), (1, .int a1)]) E dJ7_fill_53178_4 (Nat.le_of_ble_eq_true rfl) rfl ?_
  obtain ⟨q3, e4, h⟩ := bd_e h
  refine aw_sub (L1 := [(0, .ref (wad (WX g) a0)), (1, .int a1), (2, .int 0), (3, .int x1)]) [2, 3, 1, 0] rfl ?_
  refine lpJ7_fill_53178_5 E a0 n0 hk0 hs0 a1 x1 FU 0 M q3 e4 ?_
  replace h := Option.some.inj h
  subst h
  exact aw_vret E dJ7_fill_53178_20 hr
def FX1_take (a0 : Nat) (a1 : Nat) (M : Mem) : Option (Mem) :=
  lt (wr M a0 0 (M.1 a1 0)) fun M1 =>
  lt (wr M1 a0 1 (M1.1 a1 1)) fun M3 =>
  lt (wr M3 a0 2 (M3.1 a1 2)) fun M5 =>
  lt (wr M5 a0 3 (M5.1 a1 3)) fun M7 =>
  lt (wr M7 a0 4 (M7.1 a1 4)) fun M9 =>
  lt (wr M9 a0 5 (M9.1 a1 5)) fun M11 =>
  some M11
set_option maxHeartbeats 4000000 in
set_option maxRecDepth 100000 in
theorem ctX1_take (l : Launch) (g : CtxG) (a0 : Nat) (a1 : Nat) (hd0 : isSet a0) (hd1 : isSet a1) (M : Mem) (r0 : Mem) (h : FX1_take a0 a1 M = some r0) : Ct l (WX g) yX1_take cX1_take 2 none 1 [.ref (wad (WX g) a0), .ref (wad (WX g) a1)] M (none, r0) := by
  refine Ct.of (by decide) (Nat.le_of_ble_eq_true rfl) (fun Y hY E => ?_)
  have E : EV Y (WX g) cX1_take 2 none RX1 := E
  have h : FX1_take a0 a1 M = some r0 := h
  unfold FX1_take at h
  show AW Y (WX g) _ 2 1 0 [(0, .ref (wad (WX g) a0)), (1, .ref (wad (WX g) a1))] [] M
  obtain ⟨r, hr⟩ : ∃ r : Option Value × Mem, r = (none, r0) := ⟨_, rfl⟩
  rw [← hr]
  refine aw_aload_n E dX1_take_0 0 rfl ?_
  refine aw_aload_n E dX1_take_1 1 rfl ?_
  refine aw_getI E flX1_7 hd1.1 hd1.2 rfl dX1_take_2 ?_
  obtain ⟨M1, e2, h⟩ := lt_e h
  refine aw_putI1 e2 E flX1_7 hd0.1 hd0.2 rfl nr_int dX1_take_5 ?_
  refine aw_aload_n E dX1_take_8 0 rfl ?_
  refine aw_aload_n E dX1_take_9 1 rfl ?_
  refine aw_getI E flX1_13 hd1.1 hd1.2 rfl dX1_take_10 ?_
  obtain ⟨M3, e4, h⟩ := lt_e h
  refine aw_putI1 e4 E flX1_13 hd0.1 hd0.2 rfl nr_int dX1_take_13 ?_
  refine aw_aload_n E dX1_take_16 0 rfl ?_
  refine aw_aload_n E dX1_take_17 1 rfl ?_
  refine aw_getI E flX1_16 hd1.1 hd1.2 rfl dX1_take_18 ?_
  obtain ⟨M5, e6, h⟩ := lt_e h
  refine aw_putI1 e6 E flX1_16 hd0.1 hd0.2 rfl nr_int dX1_take_21 ?_
  refine aw_aload_n E dX1_take_24 0 rfl ?_
  refine aw_aload_n E dX1_take_25 1 rfl ?_
  refine aw_getI E flX1_19 hd1.1 hd1.2 rfl dX1_take_26 ?_
  obtain ⟨M7, e8, h⟩ := lt_e h
  refine aw_putI1 e8 E flX1_19 hd0.1 hd0.2 rfl nr_int dX1_take_29 ?_
  refine aw_aload_n E dX1_take_32 0 rfl ?_
  refine aw_aload_n E dX1_take_33 1 rfl ?_
  refine aw_getI E flX1_22 hd1.1 hd1.2 rfl dX1_take_34 ?_
  obtain ⟨M9, e10, h⟩ := lt_e h
  refine aw_putI1 e10 E flX1_22 hd0.1 hd0.2 rfl nr_int dX1_take_37 ?_
  refine aw_aload_n E dX1_take_40 0 rfl ?_
  refine aw_aload_n E dX1_take_41 1 rfl ?_
  refine aw_getI E flX1_25 hd1.1 hd1.2 rfl dX1_take_42 ?_
  obtain ⟨M11, e12, h⟩ := lt_e h
  refine aw_putI1 e12 E flX1_25 hd0.1 hd0.2 rfl nr_int dX1_take_45 ?_
  replace h := Option.some.inj h
  subst h
  exact aw_vret E dX1_take_48 hr
def FX2_become (a0 : Nat) (a1 : Int32) (a2 : Int32) (M : Mem) : Option (Mem) :=
  lt (wr M a0 1 a1) fun M1 =>
  lt (wr M1 a0 2 (if 0 < (if a2 < 40 then a2 else 40) then (if a2 < 40 then a2 else 40) else 0)) fun M3 =>
  ob (FJ7_fill_53178 (a0 + 4) 40 0 M3) fun q5 =>
  some q5
set_option maxHeartbeats 4000000 in
set_option maxRecDepth 100000 in
theorem ctX2_become (l : Launch) (g : CtxG) (a0 : Nat) (a1 : Int32) (a2 : Int32) (hd0 : isSheet a0) (M : Mem) (r0 : Mem) (h : FX2_become a0 a1 a2 M = some r0) : Ct l (WX g) yX2_become cX2_become 3 none 2 [.ref (wad (WX g) a0), .int a1, .int a2] M (none, r0) := by
  refine Ct.of (by decide) (Nat.le_of_ble_eq_true rfl) (fun Y hY E => ?_)
  have E : EV Y (WX g) cX2_become 3 none RX2 := E
  have h : FX2_become a0 a1 a2 M = some r0 := h
  unfold FX2_become at h
  show AW Y (WX g) _ 3 2 0 [(0, .ref (wad (WX g) a0)), (1, .int a1), (2, .int a2)] [] M
  obtain ⟨r, hr⟩ : ∃ r : Option Value × Mem, r = (none, r0) := ⟨_, rfl⟩
  rw [← hr]
  refine aw_aload_n E dX2_become_0 0 rfl ?_
  refine aw_iload_n E dX2_become_1 1 rfl ?_
  obtain ⟨M1, e2, h⟩ := lt_e h
  refine aw_putI1 e2 E flX2_15 hd0.1 hd0.2.1 rfl nr_int dX2_become_2 ?_
  refine aw_aload_n E dX2_become_5 0 rfl ?_
  refine aw_iconst (v := 0) E dX2_become_6 (by decide) ?_
  refine aw_bipush (v := 40) E dX2_become_7 (by decide) ?_
  refine aw_iload_n E dX2_become_9 2 rfl ?_
  refine aw_mmin E mlX2_19 (Nat.le_of_ble_eq_true rfl) (Nat.le_of_ble_eq_true rfl) dX2_become_10 ?_
  refine aw_mmax E mlX2_25 (Nat.le_of_ble_eq_true rfl) (Nat.le_of_ble_eq_true rfl) dX2_become_13 ?_
  obtain ⟨M3, e4, h⟩ := lt_e h
  refine aw_putI1 e4 E flX2_28 hd0.1 hd0.2.1 rfl nr_int dX2_become_16 ?_
  refine aw_aload_n E dX2_become_19 0 rfl ?_
  refine aw_getR (q := (a0 + 4)) E flX2_9 hd0.1 hd0.2.1 rfl dX2_become_20 ?_
  refine aw_iconst (v := 0) E dX2_become_23 (by decide) ?_
  obtain ⟨q5, e6, h⟩ := bd_e h
  refine aw_callSv (S := []) E msJ7_fill_53178 mlX2_31 rfl (ctJ7_fill_53178 (yl Y) g (a0 + 4) 40 0 hd0.2.2.1 hd0.2.2.2 M3 q5 e6) rfl (Nat.le_of_ble_eq_true rfl) (Nat.le_of_ble_eq_true rfl) dX2_become_24 ?_
  replace h := Option.some.inj h
  subst h
  exact aw_vret E dX2_become_27 hr
def FX2_holds (a0 : Nat) (a1 : Int32) (a2 : Int32) (M : Mem) : Int32 :=
  lt (α := Bool) (if a1 < 0 then false else if a2 < 0 then false else if ((M.1 a0 2) - a2) < a1 then false else true) fun b1 =>
  if b1 = true then
    1
  else
    0
set_option maxHeartbeats 4000000 in
set_option maxRecDepth 100000 in
theorem ctX2_holds (l : Launch) (g : CtxG) (a0 : Nat) (a1 : Int32) (a2 : Int32) (hd0 : isSheet a0) (M : Mem) : Ct l (WX g) yX2_holds cX2_holds 3 (some .boolean) 1 [.ref (wad (WX g) a0), .int a1, .int a2] M (some (.int (FX2_holds a0 a1 a2 M)), M) := by
  obtain ⟨r0, h⟩ : ∃ r0, FX2_holds a0 a1 a2 M = r0 := ⟨_, rfl⟩
  rw [h]
  refine Ct.of (by decide) (Nat.le_of_ble_eq_true rfl) (fun Y hY E => ?_)
  have E : EV Y (WX g) cX2_holds 3 (some .boolean) RX2 := E
  --generalize hr : ((some (Value.int r0), M) : Option Value × Mem) = r
  have h : FX2_holds a0 a1 a2 M = r0 := h
  unfold FX2_holds at h
  show AW Y (WX g) _ 3 1 0 [(0, .ref (wad (WX g) a0)), (1, .int a1), (2, .int a2)] [] M
  obtain ⟨r, hr⟩ : ∃ r : Option Value × Mem, r = (some (.int r0), M) := ⟨_, rfl⟩
  rw [← hr]
  refine aw_iload_n E dX2_holds_0 1 rfl ?_
  obtain ⟨b1, e2, h⟩ := lt_e h
  have J3 : b1 = true → AW Y (WX g) r 3 1 18 [(0, .ref (wad (WX g) a0)), (1, .int a1), (2, .int a2)] [] M := fun hb => by
    replace h := ip hb h
    refine aw_iconst (v := 1) E dX2_holds_18 (by decide) ?_
    refine aw_goto (tgt := 23) E dX2_holds_19 rfl ?_
    subst h
    exact aw_zret E (by decide) dX2_holds_23 hr
  have J4 : b1 = false → AW Y (WX g) r 3 1 22 [(0, .ref (wad (WX g) a0)), (1, .int a1), (2, .int a2)] [] M := fun hb => by
    replace h := iq (bf hb) h
    refine aw_iconst (v := 0) E dX2_holds_22 (by decide) ?_
    subst h
    exact aw_zret E (by decide) dX2_holds_23 hr
  refine aw_if_lt (tgt := 22) E dX2_holds_1 rfl (fun c1 => ?_) (fun c1 => ?_)
  ·
    replace e2 := ip c1 e2
    subst e2
    exact J4 rfl
  ·
    replace e2 := iq c1 e2
    refine aw_iload_n E dX2_holds_4 2 rfl ?_
    refine aw_if_lt (tgt := 22) E dX2_holds_5 rfl (fun c5 => ?_) (fun c5 => ?_)
    ·
      replace e2 := ip c5 e2
      subst e2
      exact J4 rfl
    ·
      replace e2 := iq c5 e2
      refine aw_iload_n E dX2_holds_8 1 rfl ?_
      refine aw_aload_n E dX2_holds_9 0 rfl ?_
      refine aw_getI E flX2_28 hd0.1 hd0.2.1 rfl dX2_holds_10 ?_
      refine aw_iload_n E dX2_holds_13 2 rfl ?_
      refine aw_isub E dX2_holds_14 ?_
      refine aw_icmp_gt (tgt := 22) E dX2_holds_15 rfl (fun c15 => ?_) (fun c15 => ?_)
      ·
        replace e2 := ip c15 e2
        subst e2
        exact J4 rfl
      ·
        replace e2 := iq c15 e2
        subst e2
        exact J3 rfl
def FX2_isMissing (a0 : Nat) (M : Mem) : Int32 :=
  if 0 ≤ (M.1 a0 1) then
    0
  else
    1
set_option maxHeartbeats 4000000 in
set_option maxRecDepth 100000 in
theorem ctX2_isMissing (l : Launch) (g : CtxG) (a0 : Nat) (hd0 : isSheet a0) (M : Mem) : Ct l (WX g) yX2_isMissing cX2_isMissing 1 (some .boolean) 1 [.ref (wad (WX g) a0)] M (some (.int (FX2_isMissing a0 M)), M) := by
  obtain ⟨r0, h⟩ : ∃ r0, FX2_isMissing a0 M = r0 := ⟨_, rfl⟩
  rw [h]
  refine Ct.of (by decide) (Nat.le_of_ble_eq_true rfl) (fun Y hY E => ?_)
  have E : EV Y (WX g) cX2_isMissing 1 (some .boolean) RX2 := E
  --generalize hr : ((some (Value.int r0), M) : Option Value × Mem) = r
  have h : FX2_isMissing a0 M = r0 := h
  unfold FX2_isMissing at h
  show AW Y (WX g) _ 1 1 0 [(0, .ref (wad (WX g) a0))] [] M
  obtain ⟨r, hr⟩ : ∃ r : Option Value × Mem, r = (some (.int r0), M) := ⟨_, rfl⟩
  rw [← hr]
  refine aw_aload_n E dX2_isMissing_0 0 rfl ?_
  refine aw_getI E flX2_15 hd0.1 hd0.2.1 rfl dX2_isMissing_1 ?_
  refine aw_if_ge (tgt := 11) E dX2_isMissing_4 rfl (fun c4 => ?_) (fun c4 => ?_)
  ·
    replace h := ip c4 h
    refine aw_iconst (v := 0) E dX2_isMissing_11 (by decide) ?_
    subst h
    exact aw_zret E (by decide) dX2_isMissing_12 hr
  ·
    replace h := iq c4 h
    refine aw_iconst (v := 1) E dX2_isMissing_7 (by decide) ?_
    refine aw_goto (tgt := 12) E dX2_isMissing_8 rfl ?_
    subst h
    exact aw_zret E (by decide) dX2_isMissing_12 hr
def FX2_put (a0 : Nat) (a1 : Int32) (a2 : Int32) (M : Mem) : Option (Mem) :=
  lt (α := Bool) (if a1 < 0 then true else if a1 < (M.1 a0 2) then false else true) fun b1 =>
  if b1 = true then
    some M
  else
    if (M.1 a0 1) = 0 then
      gi a1 40 <|
      lt (wr M (a0 + 4) (Int32.toNatClampNeg a1) (a2.toInt8.toInt32)) fun M12 =>
      some M12
    else
      if (M.1 a0 1) = 1 then
        gi a1 40 <|
        lt (wr M (a0 + 4) (Int32.toNatClampNeg a1) (a2.toInt16.toInt32)) fun M9 =>
        some M9
      else
        gi a1 40 <|
        lt (wr M (a0 + 4) (Int32.toNatClampNeg a1) a2) fun M6 =>
        some M6
set_option maxHeartbeats 4000000 in
set_option maxRecDepth 100000 in
theorem ctX2_put (l : Launch) (g : CtxG) (a0 : Nat) (a1 : Int32) (a2 : Int32) (hd0 : isSheet a0) (M : Mem) (r0 : Mem) (h : FX2_put a0 a1 a2 M = some r0) : Ct l (WX g) yX2_put cX2_put 3 none 1 [.ref (wad (WX g) a0), .int a1, .int a2] M (none, r0) := by
  refine Ct.of (by decide) (Nat.le_of_ble_eq_true rfl) (fun Y hY E => ?_)
  have E : EV Y (WX g) cX2_put 3 none RX2 := E
  have h : FX2_put a0 a1 a2 M = some r0 := h
  unfold FX2_put at h
  show AW Y (WX g) _ 3 1 0 [(0, .ref (wad (WX g) a0)), (1, .int a1), (2, .int a2)] [] M
  obtain ⟨r, hr⟩ : ∃ r : Option Value × Mem, r = (none, r0) := ⟨_, rfl⟩
  rw [← hr]
  refine aw_iload_n E dX2_put_0 1 rfl ?_
  obtain ⟨b1, e2, h⟩ := lt_e h
  have J3 : b1 = true → AW Y (WX g) r 3 1 12 [(0, .ref (wad (WX g) a0)), (1, .int a1), (2, .int a2)] [] M := fun hb => by
    replace h := ip hb h
    replace h := Option.some.inj h
    subst h
    exact aw_vret E dX2_put_12 hr
  have J4 : b1 = false → AW Y (WX g) r 3 1 13 [(0, .ref (wad (WX g) a0)), (1, .int a1), (2, .int a2)] [] M := fun hb => by
    replace h := iq (bf hb) h
    refine aw_aload_n E dX2_put_13 0 rfl ?_
    refine aw_getR (q := (a0 + 4)) E flX2_9 hd0.1 hd0.2.1 rfl dX2_put_14 ?_
    refine aw_iload_n E dX2_put_17 1 rfl ?_
    refine aw_aload_n E dX2_put_18 0 rfl ?_
    refine aw_getI E flX2_15 hd0.1 hd0.2.1 rfl dX2_put_19 ?_
    refine aw_if_ne (tgt := 30) E dX2_put_22 rfl (fun c22 => ?_) (fun c22 => ?_)
    ·
      replace h := iq c22 h
      refine aw_aload_n E dX2_put_30 0 rfl ?_
      refine aw_getI E flX2_15 hd0.1 hd0.2.1 rfl dX2_put_31 ?_
      refine aw_iconst (v := 1) E dX2_put_34 (by decide) ?_
      refine aw_icmp_ne (tgt := 43) E dX2_put_35 rfl (fun c35 => ?_) (fun c35 => ?_)
      ·
        replace h := iq c35 h
        refine aw_iload_n E dX2_put_43 2 rfl ?_
        obtain ⟨g5, h⟩ := gi_e h
        obtain ⟨M6, e7, h⟩ := lt_e h
        refine aw_iast1 e7 E hd0.2.2.1 hd0.2.2.2 g5 dX2_put_44 ?_
        replace h := Option.some.inj h
        subst h
        exact aw_vret E dX2_put_45 hr
      ·
        replace h := ip c35 h
        refine aw_iload_n E dX2_put_38 2 rfl ?_
        refine aw_i2s E dX2_put_39 ?_
        refine aw_goto (tgt := 44) E dX2_put_40 rfl ?_
        obtain ⟨g8, h⟩ := gi_e h
        obtain ⟨M9, e10, h⟩ := lt_e h
        refine aw_iast1 e10 E hd0.2.2.1 hd0.2.2.2 g8 dX2_put_44 ?_
        replace h := Option.some.inj h
        subst h
        exact aw_vret E dX2_put_45 hr
    ·
      replace h := ip c22 h
      refine aw_iload_n E dX2_put_25 2 rfl ?_
      refine aw_i2b E dX2_put_26 ?_
      refine aw_goto (tgt := 44) E dX2_put_27 rfl ?_
      obtain ⟨g11, h⟩ := gi_e h
      obtain ⟨M12, e13, h⟩ := lt_e h
      refine aw_iast1 e13 E hd0.2.2.1 hd0.2.2.2 g11 dX2_put_44 ?_
      replace h := Option.some.inj h
      subst h
      exact aw_vret E dX2_put_45 hr
  refine aw_if_lt (tgt := 12) E dX2_put_1 rfl (fun c1 => ?_) (fun c1 => ?_)
  ·
    replace e2 := ip c1 e2
    subst e2
    exact J3 rfl
  ·
    replace e2 := iq c1 e2
    refine aw_iload_n E dX2_put_4 1 rfl ?_
    refine aw_aload_n E dX2_put_5 0 rfl ?_
    refine aw_getI E flX2_28 hd0.1 hd0.2.1 rfl dX2_put_6 ?_
    refine aw_icmp_lt (tgt := 13) E dX2_put_9 rfl (fun c9 => ?_) (fun c9 => ?_)
    ·
      replace e2 := ip c9 e2
      subst e2
      exact J4 rfl
    ·
      replace e2 := iq c9 e2
      subst e2
      exact J3 rfl
