/-! PRINTED by wip/gen: pure functions of the methods, and that the machine does what they say -/
def FX7_at (a0 : Int32) : Int32 :=
  a0 &&& 15
set_option maxHeartbeats 4000000 in
set_option maxRecDepth 100000 in
theorem ctX7_at (l : Launch) (g : CtxG) (a0 : Int32) (M : Mem) : Ct l (WX g) yX7_at cX7_at 1 (some .int) 1 [.int a0] M (some (.int (FX7_at a0)), M) := by
  obtain ⟨r0, h⟩ : ∃ r0, FX7_at a0 = r0 := ⟨_, rfl⟩
  rw [h]
  refine Ct.of (by decide) (Nat.le_of_ble_eq_true rfl) (fun Y hY E => ?_)
  have E : EV Y (WX g) cX7_at 1 (some .int) RX7 := E
  --generalize hr : ((some (Value.int r0), M) : Option Value × Mem) = r
  have h : FX7_at a0 = r0 := h
  unfold FX7_at at h
  show AW Y (WX g) _ 1 1 0 [(0, .int a0)] [] M
  obtain ⟨r, hr⟩ : ∃ r : Option Value × Mem, r = (some (.int r0), M) := ⟨_, rfl⟩
  rw [← hr]
  refine aw_iload_n E dX7_at_0 0 rfl ?_
  refine aw_bipush (v := 15) E dX7_at_1 (by decide) ?_
  refine aw_iand E dX7_at_3 ?_
  subst h
  exact aw_iret E dX7_at_4 hr
def FX7_passed (a0 : Int32) : Int32 :=
  (a0 >>> ((4 : Int32) &&& 31)) &&& 511
set_option maxHeartbeats 4000000 in
set_option maxRecDepth 100000 in
theorem ctX7_passed (l : Launch) (g : CtxG) (a0 : Int32) (M : Mem) : Ct l (WX g) yX7_passed cX7_passed 1 (some .int) 1 [.int a0] M (some (.int (FX7_passed a0)), M) := by
  obtain ⟨r0, h⟩ : ∃ r0, FX7_passed a0 = r0 := ⟨_, rfl⟩
  rw [h]
  refine Ct.of (by decide) (Nat.le_of_ble_eq_true rfl) (fun Y hY E => ?_)
  have E : EV Y (WX g) cX7_passed 1 (some .int) RX7 := E
  --generalize hr : ((some (Value.int r0), M) : Option Value × Mem) = r
  have h : FX7_passed a0 = r0 := h
  unfold FX7_passed at h
  show AW Y (WX g) _ 1 1 0 [(0, .int a0)] [] M
  obtain ⟨r, hr⟩ : ∃ r : Option Value × Mem, r = (some (.int r0), M) := ⟨_, rfl⟩
  rw [← hr]
  refine aw_iload_n E dX7_passed_0 0 rfl ?_
  refine aw_iconst (v := 4) E dX7_passed_1 (by decide) ?_
  refine aw_ishr E dX7_passed_2 ?_
  refine aw_sipush (v := 511) E dX7_passed_3 (by decide) ?_
  refine aw_iand E dX7_passed_6 ?_
  subst h
  exact aw_iret E dX7_passed_7 hr
def FX7_spent (a0 : Int32) : Int32 :=
  a0 >>> ((13 : Int32) &&& 31)
set_option maxHeartbeats 4000000 in
set_option maxRecDepth 100000 in
theorem ctX7_spent (l : Launch) (g : CtxG) (a0 : Int32) (M : Mem) : Ct l (WX g) yX7_spent cX7_spent 1 (some .int) 1 [.int a0] M (some (.int (FX7_spent a0)), M) := by
  obtain ⟨r0, h⟩ : ∃ r0, FX7_spent a0 = r0 := ⟨_, rfl⟩
  rw [h]
  refine Ct.of (by decide) (Nat.le_of_ble_eq_true rfl) (fun Y hY E => ?_)
  have E : EV Y (WX g) cX7_spent 1 (some .int) RX7 := E
  --generalize hr : ((some (Value.int r0), M) : Option Value × Mem) = r
  have h : FX7_spent a0 = r0 := h
  unfold FX7_spent at h
  show AW Y (WX g) _ 1 1 0 [(0, .int a0)] [] M
  obtain ⟨r, hr⟩ : ∃ r : Option Value × Mem, r = (some (.int r0), M) := ⟨_, rfl⟩
  rw [← hr]
  refine aw_iload_n E dX7_spent_0 0 rfl ?_
  refine aw_bipush (v := 13) E dX7_spent_1 (by decide) ?_
  refine aw_ishr E dX7_spent_3 ?_
  subst h
  exact aw_iret E dX7_spent_4 hr
def FX7_openLane (a1 : Int32) (a2 : Int32) (M : Mem) : Option (Mem) :=
  gi (M.1 31 1) 13 <|
  lt (wr M 32 (Int32.toNatClampNeg (M.1 31 1)) a1) fun M2 =>
  gi (M2.1 31 1) 13 <|
  lt (wr M2 33 (Int32.toNatClampNeg (M2.1 31 1)) a2) fun M5 =>
  gi (M5.1 31 1) 13 <|
  lt (wr M5 34 (Int32.toNatClampNeg (M5.1 31 1)) ((1 : Int32) <<< ((M5.1 31 1) &&& 31))) fun M8 =>
  gi (a1 &&& 15) 32 <|
  gi (a1 &&& 15) 32 <|
  lt (wr M8 35 (Int32.toNatClampNeg (a1 &&& 15)) ((M8.1 35 (Int32.toNatClampNeg (a1 &&& 15))) ||| ((1 : Int32) <<< ((M8.1 31 1) &&& 31)))) fun M12 =>
  gi (a2 &&& 15) 32 <|
  gi (a2 &&& 15) 32 <|
  lt (wr M12 35 (Int32.toNatClampNeg (a2 &&& 15)) ((M12.1 35 (Int32.toNatClampNeg (a2 &&& 15))) ||| ((1 : Int32) <<< ((M12.1 31 1) &&& 31)))) fun M16 =>
  some M16
set_option maxHeartbeats 4000000 in
set_option maxRecDepth 100000 in
theorem ctX7_openLane (l : Launch) (g : CtxG) (a1 : Int32) (a2 : Int32) (M : Mem) (r0 : Mem) (h : FX7_openLane a1 a2 M = some r0) : Ct l (WX g) yX7_openLane cX7_openLane 3 none 1 [.ref (wad (WX g) 31), .int a1, .int a2] M (none, r0) := by
  refine Ct.of (by decide) (Nat.le_of_ble_eq_true rfl) (fun Y hY E => ?_)
  have E : EV Y (WX g) cX7_openLane 3 none RX7 := E
  have h : FX7_openLane a1 a2 M = some r0 := h
  unfold FX7_openLane at h
  show AW Y (WX g) _ 3 1 0 [(0, .ref (wad (WX g) 31)), (1, .int a1), (2, .int a2)] [] M
  obtain ⟨r, hr⟩ : ∃ r : Option Value × Mem, r = (none, r0) := ⟨_, rfl⟩
  rw [← hr]
  refine aw_aload_n E dX7_openLane_0 0 rfl ?_
  refine aw_getR (q := 32) E flX7_9 (Nat.le_of_ble_eq_true rfl) rfl rfl dX7_openLane_1 ?_
  refine aw_aload_n E dX7_openLane_4 0 rfl ?_
  refine aw_getI E flX7_51 (Nat.le_of_ble_eq_true rfl) rfl rfl dX7_openLane_5 ?_
  refine aw_iload_n E dX7_openLane_8 1 rfl ?_
  obtain ⟨g1, h⟩ := gi_e h
  obtain ⟨M2, e3, h⟩ := lt_e h
  refine aw_iast1 e3 E (Nat.le_of_ble_eq_true rfl) rfl g1 dX7_openLane_9 ?_
  refine aw_aload_n E dX7_openLane_10 0 rfl ?_
  refine aw_getR (q := 33) E flX7_15 (Nat.le_of_ble_eq_true rfl) rfl rfl dX7_openLane_11 ?_
  refine aw_aload_n E dX7_openLane_14 0 rfl ?_
  refine aw_getI E flX7_51 (Nat.le_of_ble_eq_true rfl) rfl rfl dX7_openLane_15 ?_
  refine aw_iload_n E dX7_openLane_18 2 rfl ?_
  obtain ⟨g4, h⟩ := gi_e h
  obtain ⟨M5, e6, h⟩ := lt_e h
  refine aw_iast1 e6 E (Nat.le_of_ble_eq_true rfl) rfl g4 dX7_openLane_19 ?_
  refine aw_aload_n E dX7_openLane_20 0 rfl ?_
  refine aw_getR (q := 34) E flX7_18 (Nat.le_of_ble_eq_true rfl) rfl rfl dX7_openLane_21 ?_
  refine aw_aload_n E dX7_openLane_24 0 rfl ?_
  refine aw_getI E flX7_51 (Nat.le_of_ble_eq_true rfl) rfl rfl dX7_openLane_25 ?_
  refine aw_iconst (v := 1) E dX7_openLane_28 (by decide) ?_
  refine aw_aload_n E dX7_openLane_29 0 rfl ?_
  refine aw_getI E flX7_51 (Nat.le_of_ble_eq_true rfl) rfl rfl dX7_openLane_30 ?_
  refine aw_ishl E dX7_openLane_33 ?_
  obtain ⟨g7, h⟩ := gi_e h
  obtain ⟨M8, e9, h⟩ := lt_e h
  refine aw_iast1 e9 E (Nat.le_of_ble_eq_true rfl) rfl g7 dX7_openLane_34 ?_
  refine aw_aload_n E dX7_openLane_35 0 rfl ?_
  refine aw_getR (q := 35) E flX7_21 (Nat.le_of_ble_eq_true rfl) rfl rfl dX7_openLane_36 ?_
  refine aw_iload_n E dX7_openLane_39 1 rfl ?_
  refine aw_bipush (v := 15) E dX7_openLane_40 (by decide) ?_
  refine aw_iand E dX7_openLane_42 ?_
  refine aw_dup2 E dX7_openLane_43 rfl rfl ?_
  obtain ⟨g10, h⟩ := gi_e h
  refine aw_iald E (Nat.le_of_ble_eq_true rfl) rfl g10 dX7_openLane_44 ?_
  refine aw_iconst (v := 1) E dX7_openLane_45 (by decide) ?_
  refine aw_aload_n E dX7_openLane_46 0 rfl ?_
  refine aw_getI E flX7_51 (Nat.le_of_ble_eq_true rfl) rfl rfl dX7_openLane_47 ?_
  refine aw_ishl E dX7_openLane_50 ?_
  refine aw_ior E dX7_openLane_51 ?_
  obtain ⟨g11, h⟩ := gi_e h
  obtain ⟨M12, e13, h⟩ := lt_e h
  refine aw_iast1 e13 E (Nat.le_of_ble_eq_true rfl) rfl g11 dX7_openLane_52 ?_
  refine aw_aload_n E dX7_openLane_53 0 rfl ?_
  refine aw_getR (q := 35) E flX7_21 (Nat.le_of_ble_eq_true rfl) rfl rfl dX7_openLane_54 ?_
  refine aw_iload_n E dX7_openLane_57 2 rfl ?_
  refine aw_bipush (v := 15) E dX7_openLane_58 (by decide) ?_
  refine aw_iand E dX7_openLane_60 ?_
  refine aw_dup2 E dX7_openLane_61 rfl rfl ?_
  obtain ⟨g14, h⟩ := gi_e h
  refine aw_iald E (Nat.le_of_ble_eq_true rfl) rfl g14 dX7_openLane_62 ?_
  refine aw_iconst (v := 1) E dX7_openLane_63 (by decide) ?_
  refine aw_aload_n E dX7_openLane_64 0 rfl ?_
  refine aw_getI E flX7_51 (Nat.le_of_ble_eq_true rfl) rfl rfl dX7_openLane_65 ?_
  refine aw_ishl E dX7_openLane_68 ?_
  refine aw_ior E dX7_openLane_69 ?_
  obtain ⟨g15, h⟩ := gi_e h
  obtain ⟨M16, e17, h⟩ := lt_e h
  refine aw_iast1 e17 E (Nat.le_of_ble_eq_true rfl) rfl g15 dX7_openLane_70 ?_
  replace h := Option.some.inj h
  subst h
  exact aw_vret E dX7_openLane_71 hr
def FX7_open (a1 : Int32) (a2 : Int32) (M : Mem) : Option (Int32) :=
  gi ((a2 <<< ((4 : Int32) &&& 31)) ||| (a1 &&& 15)) 32 <|
  some (M.1 35 (Int32.toNatClampNeg ((a2 <<< ((4 : Int32) &&& 31)) ||| (a1 &&& 15))))
set_option maxHeartbeats 4000000 in
set_option maxRecDepth 100000 in
theorem ctX7_open (l : Launch) (g : CtxG) (a1 : Int32) (a2 : Int32) (M : Mem) (r0 : Int32) (h : FX7_open a1 a2 M = some r0) : Ct l (WX g) yX7_open cX7_open 3 (some .int) 1 [.ref (wad (WX g) 31), .int a1, .int a2] M (some (.int r0), M) := by
  refine Ct.of (by decide) (Nat.le_of_ble_eq_true rfl) (fun Y hY E => ?_)
  have E : EV Y (WX g) cX7_open 3 (some .int) RX7 := E
  have h : FX7_open a1 a2 M = some r0 := h
  unfold FX7_open at h
  show AW Y (WX g) _ 3 1 0 [(0, .ref (wad (WX g) 31)), (1, .int a1), (2, .int a2)] [] M
  obtain ⟨r, hr⟩ : ∃ r : Option Value × Mem, r = (some (.int r0), M) := ⟨_, rfl⟩
  rw [← hr]
  refine aw_aload_n E dX7_open_0 0 rfl ?_
  refine aw_getR (q := 35) E flX7_21 (Nat.le_of_ble_eq_true rfl) rfl rfl dX7_open_1 ?_
  refine aw_iload_n E dX7_open_4 2 rfl ?_
  refine aw_iconst (v := 4) E dX7_open_5 (by decide) ?_
  refine aw_ishl E dX7_open_6 ?_
  refine aw_iload_n E dX7_open_7 1 rfl ?_
  refine aw_bipush (v := 15) E dX7_open_8 (by decide) ?_
  refine aw_iand E dX7_open_10 ?_
  refine aw_ior E dX7_open_11 ?_
  obtain ⟨g1, h⟩ := gi_e h
  refine aw_iald E (Nat.le_of_ble_eq_true rfl) rfl g1 dX7_open_12 ?_
  replace h := Option.some.inj h
  subst h
  exact aw_iret E dX7_open_13 hr
def FX7_across (a1 : Int32) (a2 : Int32) (M : Mem) : Option (Int32) :=
  gi a1 13 <|
  if a2 = (M.1 32 (Int32.toNatClampNeg a1)) then
    gi a1 13 <|
    some (M.1 33 (Int32.toNatClampNeg a1))
  else
    gi a1 13 <|
    some (M.1 32 (Int32.toNatClampNeg a1))
set_option maxHeartbeats 4000000 in
set_option maxRecDepth 100000 in
theorem ctX7_across (l : Launch) (g : CtxG) (a1 : Int32) (a2 : Int32) (M : Mem) (r0 : Int32) (h : FX7_across a1 a2 M = some r0) : Ct l (WX g) yX7_across cX7_across 3 (some .int) 1 [.ref (wad (WX g) 31), .int a1, .int a2] M (some (.int r0), M) := by
  refine Ct.of (by decide) (Nat.le_of_ble_eq_true rfl) (fun Y hY E => ?_)
  have E : EV Y (WX g) cX7_across 3 (some .int) RX7 := E
  have h : FX7_across a1 a2 M = some r0 := h
  unfold FX7_across at h
  show AW Y (WX g) _ 3 1 0 [(0, .ref (wad (WX g) 31)), (1, .int a1), (2, .int a2)] [] M
  obtain ⟨r, hr⟩ : ∃ r : Option Value × Mem, r = (some (.int r0), M) := ⟨_, rfl⟩
  rw [← hr]
  refine aw_iload_n E dX7_across_0 2 rfl ?_
  refine aw_aload_n E dX7_across_1 0 rfl ?_
  refine aw_getR (q := 32) E flX7_9 (Nat.le_of_ble_eq_true rfl) rfl rfl dX7_across_2 ?_
  refine aw_iload_n E dX7_across_5 1 rfl ?_
  obtain ⟨g1, h⟩ := gi_e h
  refine aw_iald E (Nat.le_of_ble_eq_true rfl) rfl g1 dX7_across_6 ?_
  refine aw_icmp_ne (tgt := 19) E dX7_across_7 rfl (fun c7 => ?_) (fun c7 => ?_)
  ·
    replace h := iq c7 h
    refine aw_aload_n E dX7_across_19 0 rfl ?_
    refine aw_getR (q := 32) E flX7_9 (Nat.le_of_ble_eq_true rfl) rfl rfl dX7_across_20 ?_
    refine aw_iload_n E dX7_across_23 1 rfl ?_
    obtain ⟨g2, h⟩ := gi_e h
    refine aw_iald E (Nat.le_of_ble_eq_true rfl) rfl g2 dX7_across_24 ?_
    replace h := Option.some.inj h
    subst h
    exact aw_iret E dX7_across_25 hr
  ·
    replace h := ip c7 h
    refine aw_aload_n E dX7_across_10 0 rfl ?_
    refine aw_getR (q := 33) E flX7_15 (Nat.le_of_ble_eq_true rfl) rfl rfl dX7_across_11 ?_
    refine aw_iload_n E dX7_across_14 1 rfl ?_
    obtain ⟨g3, h⟩ := gi_e h
    refine aw_iald E (Nat.le_of_ble_eq_true rfl) rfl g3 dX7_across_15 ?_
    refine aw_goto (tgt := 25) E dX7_across_16 rfl ?_
    replace h := Option.some.inj h
    subst h
    exact aw_iret E dX7_across_25 hr
def FX7_next_L60 : Nat → Int32 → Int32 → Int32 → Int32 → Mem → Option (Int32)
  | 0, _, _, _, _, _ => none
  | f + 1, p3, p4, p5, p6, M =>
    if (M.1 31 1) < p6 then
      some p5
    else
      ob (FX7_across p6 p3 M) fun q101 =>
      lt (α := Bool) (if q101 = (M.1 31 0) then false else if ((p4 >>> (q101 &&& 31)) &&& 1) = 0 then false else true) fun b103 =>
      if b103 = true then
        lt (α := Int32) (p5 &&& (((1 : Int32) <<< (p6 &&& 31)) ^^^ (-1))) fun x107 =>
        lt (α := Int32) (p6 + 1) fun x109 =>
        FX7_next_L60 f p3 p4 x107 x109 M
      else
        lt (α := Int32) (p6 + 1) fun x111 =>
        FX7_next_L60 f p3 p4 p5 x111 M
def FX7_next (a1 : Int32) (a2 : Int32) (M : Mem) : Option (Int32) :=
  lt (α := Int32) (FX7_at a1) fun x1 =>
  lt (α := Int32) (FX7_passed a1) fun x3 =>
  ob (FX7_open x1 a2 M) fun q5 =>
  lt (α := Int32) (q5 &&& ((FX7_spent a1) ^^^ (-1))) fun x7 =>
  if (M.1 31 3) = 0 then
    some x7
  else
    lt (α := Bool) (if x1 = (M.1 31 0) then if x3 = ((1 : Int32) <<< ((M.1 31 0) &&& 31)) then false else true else false) fun b9 =>
    if b9 = true then
      some 0
    else
      ob (FX7_next_L60 FU x1 x3 x7 0 M) fun q13 =>
      some q13
set_option maxHeartbeats 4000000 in
set_option maxRecDepth 100000 in
theorem lpX7_next_60 {Y : CtxM} {g : CtxG} {r : Option Value × Mem} (E : EV Y (WX g) cX7_next 8 (some .int) RX7) (p3 : Int32) (p4 : Int32) : ∀ (f : Nat) (p5 : Int32) (p6 : Int32) (M : Mem) (q : Int32), FX7_next_L60 f p3 p4 p5 p6 M = some q → AW Y (WX g) r 8 2 114 [(5, .int q)] [] M → AW Y (WX g) r 8 2 60 [(0, .ref (wad (WX g) 31)), (3, .int p3), (4, .int p4), (5, .int p5), (6, .int p6)] [] M := by
  intro f
  induction f with
  | zero => intro p5 p6 M q hh; exact absurd hh (fun z => nomatch (show (none : Option (Int32)) = some q from z))
  | succ f ih =>
    intro p5 p6 M q hh kx
    rw [FX7_next_L60] at hh
    refine aw_iload E dX7_next_60 4 rfl ?_
    refine aw_aload_n E dX7_next_62 0 rfl ?_
    refine aw_getI E flX7_51 (Nat.le_of_ble_eq_true rfl) rfl rfl dX7_next_63 ?_
    refine aw_icmp_gt (tgt := 114) E dX7_next_66 rfl (fun c66 => ?_) (fun c66 => ?_)
    ·
      replace hh := ip c66 hh
      refine aw_sub (L1 := [(5, .int p5)]) [3] rfl ?_
      replace hh := Option.some.inj hh
      subst hh
      exact kx
    ·
      replace hh := iq c66 hh
      refine aw_aload_n E dX7_next_69 0 rfl ?_
      refine aw_iload E dX7_next_70 4 rfl ?_
      refine aw_iload_n E dX7_next_72 1 rfl ?_
      obtain ⟨q101, e102, hh⟩ := bd_e hh
      refine aw_callVi (S := []) E mvX7_across mlX7_80 (Nat.le_of_ble_eq_true rfl) rfl rfl rfl (ctX7_across (yl Y) g p6 p3  M q101 e102) rfl (Nat.le_of_ble_eq_true rfl) (Nat.le_of_ble_eq_true rfl) dX7_next_73 ?_
      refine aw_istore (L1 := [(7, .int q101), (0, .ref (wad (WX g) 31)), (3, .int p3), (4, .int p4), (5, .int p5), (6, .int p6)]) E dX7_next_76 (Nat.le_of_ble_eq_true rfl) rfl ?_
      refine aw_iload E dX7_next_78 0 rfl ?_
      refine aw_aload_n E dX7_next_80 1 rfl ?_
      refine aw_getI E flX7_33 (Nat.le_of_ble_eq_true rfl) rfl rfl dX7_next_81 ?_
      obtain ⟨b103, e104, hh⟩ := lt_e hh
      have J105 : b103 = true → AW Y (WX g) r 8 2 97 [(7, .int q101), (0, .ref (wad (WX g) 31)), (3, .int p3), (4, .int p4), (5, .int p5), (6, .int p6)] [] M := fun hb => by
        replace hh := ip hb hh
        refine aw_iload E dX7_next_97 4 rfl ?_
        refine aw_iconst (v := 1) E dX7_next_99 (by decide) ?_
        refine aw_iload E dX7_next_100 5 rfl ?_
        refine aw_ishl E dX7_next_102 ?_
        refine aw_iconst (v := (-1)) E dX7_next_103 (by decide) ?_
        refine aw_ixor E dX7_next_104 ?_
        refine aw_iand E dX7_next_105 ?_
        obtain ⟨x107, e108, hh⟩ := lt_e hh
        refine aw_nmI e108 ?_
        refine aw_istore (L1 := [(5, .int x107), (7, .int q101), (0, .ref (wad (WX g) 31)), (3, .int p3), (4, .int p4), (6, .int p6)]) E dX7_next_106 (Nat.le_of_ble_eq_true rfl) rfl ?_
        obtain ⟨x109, e110, hh⟩ := lt_e hh
        refine aw_iinc (v := x109) (L1 := [(6, .int x109), (5, .int x107), (7, .int q101), (0, .ref (wad (WX g) 31)), (3, .int p3), (4, .int p4)]) E dX7_next_108 5 rfl e110 (Nat.le_of_ble_eq_true rfl) rfl ?_
        refine aw_goto (tgt := 60) E dX7_next_111 rfl ?_
        refine aw_sub (L1 := [(0, .ref (wad (WX g) 31)), (3, .int p3), (4, .int p4), (5, .int x107), (6, .int x109)]) [3, 4, 5, 1, 0] rfl ?_
        exact ih x107 x109 M _ hh kx
      have J106 : b103 = false → AW Y (WX g) r 8 2 108 [(7, .int q101), (0, .ref (wad (WX g) 31)), (3, .int p3), (4, .int p4), (5, .int p5), (6, .int p6)] [] M := fun hb => by
        replace hh := iq (bf hb) hh
        obtain ⟨x111, e112, hh⟩ := lt_e hh
        refine aw_iinc (v := x111) (L1 := [(6, .int x111), (7, .int q101), (0, .ref (wad (WX g) 31)), (3, .int p3), (4, .int p4), (5, .int p5)]) E dX7_next_108 5 rfl e112 (Nat.le_of_ble_eq_true rfl) rfl ?_
        refine aw_goto (tgt := 60) E dX7_next_111 rfl ?_
        refine aw_sub (L1 := [(0, .ref (wad (WX g) 31)), (3, .int p3), (4, .int p4), (5, .int p5), (6, .int x111)]) [2, 3, 4, 5, 0] rfl ?_
        exact ih p5 x111 M _ hh kx
      refine aw_icmp_eq (tgt := 108) E dX7_next_84 rfl (fun c84 => ?_) (fun c84 => ?_)
      ·
        replace e104 := ip c84 e104
        subst e104
        exact J106 rfl
      ·
        replace e104 := iq c84 e104
        refine aw_iload E dX7_next_87 3 rfl ?_
        refine aw_iload E dX7_next_89 0 rfl ?_
        refine aw_ishr E dX7_next_91 ?_
        refine aw_iconst (v := 1) E dX7_next_92 (by decide) ?_
        refine aw_iand E dX7_next_93 ?_
        refine aw_if_eq (tgt := 108) E dX7_next_94 rfl (fun c94 => ?_) (fun c94 => ?_)
        ·
          replace e104 := ip c94 e104
          subst e104
          exact J106 rfl
        ·
          replace e104 := iq c94 e104
          subst e104
          exact J105 rfl
set_option maxHeartbeats 4000000 in
set_option maxRecDepth 100000 in
theorem ctX7_next (l : Launch) (g : CtxG) (a1 : Int32) (a2 : Int32) (M : Mem) (r0 : Int32) (h : FX7_next a1 a2 M = some r0) : Ct l (WX g) yX7_next cX7_next 8 (some .int) 2 [.ref (wad (WX g) 31), .int a1, .int a2] M (some (.int r0), M) := by
  refine Ct.of (by decide) (Nat.le_of_ble_eq_true rfl) (fun Y hY E => ?_)
  have E : EV Y (WX g) cX7_next 8 (some .int) RX7 := E
  have h : FX7_next a1 a2 M = some r0 := h
  unfold FX7_next at h
  show AW Y (WX g) _ 8 2 0 [(0, .ref (wad (WX g) 31)), (1, .int a1), (2, .int a2)] [] M
  obtain ⟨r, hr⟩ : ∃ r : Option Value × Mem, r = (some (.int r0), M) := ⟨_, rfl⟩
  rw [← hr]
  refine aw_iload_n E dX7_next_0 1 rfl ?_
  refine aw_callSi (S := []) E msX7_at mlX7_103 rfl (ctX7_at (yl Y) g a1  M ) rfl (Nat.le_of_ble_eq_true rfl) (Nat.le_of_ble_eq_true rfl) dX7_next_1 ?_
  obtain ⟨x1, e2, h⟩ := lt_e h
  refine aw_nmI e2 ?_
  refine aw_istore_n (L1 := [(3, .int x1), (0, .ref (wad (WX g) 31)), (1, .int a1), (2, .int a2)]) E dX7_next_4 (Nat.le_of_ble_eq_true rfl) rfl ?_
  refine aw_iload_n E dX7_next_5 2 rfl ?_
  refine aw_callSi (S := []) E msX7_passed mlX7_107 rfl (ctX7_passed (yl Y) g a1  M ) rfl (Nat.le_of_ble_eq_true rfl) (Nat.le_of_ble_eq_true rfl) dX7_next_6 ?_
  obtain ⟨x3, e4, h⟩ := lt_e h
  refine aw_nmI e4 ?_
  refine aw_istore (L1 := [(4, .int x3), (3, .int x1), (0, .ref (wad (WX g) 31)), (1, .int a1), (2, .int a2)]) E dX7_next_9 (Nat.le_of_ble_eq_true rfl) rfl ?_
  refine aw_aload_n E dX7_next_11 2 rfl ?_
  refine aw_iload_n E dX7_next_12 1 rfl ?_
  refine aw_iload_n E dX7_next_13 4 rfl ?_
  obtain ⟨q5, e6, h⟩ := bd_e h
  refine aw_callVi (S := []) E mvX7_open mlX7_110 (Nat.le_of_ble_eq_true rfl) rfl rfl rfl (ctX7_open (yl Y) g x1 a2  M q5 e6) rfl (Nat.le_of_ble_eq_true rfl) (Nat.le_of_ble_eq_true rfl) dX7_next_14 ?_
  refine aw_iload_n E dX7_next_17 3 rfl ?_
  refine aw_callSi (S := [.int q5]) E msX7_spent mlX7_113 rfl (ctX7_spent (yl Y) g a1  M ) rfl (Nat.le_of_ble_eq_true rfl) (Nat.le_of_ble_eq_true rfl) dX7_next_18 ?_
  refine aw_iconst (v := (-1)) E dX7_next_21 (by decide) ?_
  refine aw_ixor E dX7_next_22 ?_
  refine aw_iand E dX7_next_23 ?_
  obtain ⟨x7, e8, h⟩ := lt_e h
  refine aw_nmI e8 ?_
  refine aw_istore (L1 := [(5, .int x7), (4, .int x3), (3, .int x1), (0, .ref (wad (WX g) 31)), (1, .int a1), (2, .int a2)]) E dX7_next_24 (Nat.le_of_ble_eq_true rfl) rfl ?_
  refine aw_aload_n E dX7_next_26 3 rfl ?_
  refine aw_getI E flX7_41 (Nat.le_of_ble_eq_true rfl) rfl rfl dX7_next_27 ?_
  refine aw_if_ne (tgt := 36) E dX7_next_30 rfl (fun c30 => ?_) (fun c30 => ?_)
  ·
    replace h := iq c30 h
    refine aw_iload_n E dX7_next_36 2 rfl ?_
    refine aw_aload_n E dX7_next_37 3 rfl ?_
    refine aw_getI E flX7_33 (Nat.le_of_ble_eq_true rfl) rfl rfl dX7_next_38 ?_
    obtain ⟨b9, e10, h⟩ := lt_e h
    have J11 : b9 = true → AW Y (WX g) r 8 2 55 [(5, .int x7), (4, .int x3), (3, .int x1), (0, .ref (wad (WX g) 31)), (1, .int a1), (2, .int a2)] [] M := fun hb => by
      replace h := ip hb h
      refine aw_iconst (v := 0) E dX7_next_55 (by decide) ?_
      replace h := Option.some.inj h
      subst h
      exact aw_iret E dX7_next_56 hr
    have J12 : b9 = false → AW Y (WX g) r 8 2 57 [(5, .int x7), (4, .int x3), (3, .int x1), (0, .ref (wad (WX g) 31)), (1, .int a1), (2, .int a2)] [] M := fun hb => by
      replace h := iq (bf hb) h
      refine aw_iconst (v := 0) E dX7_next_57 (by decide) ?_
      refine aw_istore (L1 := [(6, .int 0), (5, .int x7), (4, .int x3), (3, .int x1), (0, .ref (wad (WX g) 31)), (1, .int a1), (2, .int a2)]) E dX7_next_58 (Nat.le_of_ble_eq_true rfl) rfl ?_
      obtain ⟨q13, e14, h⟩ := bd_e h
      refine aw_sub (L1 := [(0, .ref (wad (WX g) 31)), (3, .int x1), (4, .int x3), (5, .int x7), (6, .int 0)]) [4, 3, 2, 1, 0] rfl ?_
      refine lpX7_next_60 E   x1 x3 FU x7 0 M q13 e14 ?_
      refine aw_iload E dX7_next_114 0 rfl ?_
      replace h := Option.some.inj h
      subst h
      exact aw_iret E dX7_next_116 hr
    refine aw_icmp_ne (tgt := 57) E dX7_next_41 rfl (fun c41 => ?_) (fun c41 => ?_)
    ·
      replace e10 := iq c41 e10
      subst e10
      exact J12 rfl
    ·
      replace e10 := ip c41 e10
      refine aw_iload E dX7_next_44 1 rfl ?_
      refine aw_iconst (v := 1) E dX7_next_46 (by decide) ?_
      refine aw_aload_n E dX7_next_47 3 rfl ?_
      refine aw_getI E flX7_33 (Nat.le_of_ble_eq_true rfl) rfl rfl dX7_next_48 ?_
      refine aw_ishl E dX7_next_51 ?_
      refine aw_icmp_eq (tgt := 57) E dX7_next_52 rfl (fun c52 => ?_) (fun c52 => ?_)
      ·
        replace e10 := ip c52 e10
        subst e10
        exact J12 rfl
      ·
        replace e10 := iq c52 e10
        subst e10
        exact J11 rfl
  ·
    replace h := ip c30 h
    refine aw_iload E dX7_next_33 0 rfl ?_
    replace h := Option.some.inj h
    subst h
    exact aw_iret E dX7_next_35 hr
def FX7_minutes (a1 : Int32) (a2 : Int32) (a3 : Int32) (M : Mem) : Option (Int32) :=
  gi (((a1 <<< ((5 : Int32) &&& 31)) ||| (a3 <<< ((4 : Int32) &&& 31))) ||| (a2 &&& 15)) 416 <|
  some (M.1 36 (Int32.toNatClampNeg (((a1 <<< ((5 : Int32) &&& 31)) ||| (a3 <<< ((4 : Int32) &&& 31))) ||| (a2 &&& 15))))
set_option maxHeartbeats 4000000 in
set_option maxRecDepth 100000 in
theorem ctX7_minutes (l : Launch) (g : CtxG) (a1 : Int32) (a2 : Int32) (a3 : Int32) (M : Mem) (r0 : Int32) (h : FX7_minutes a1 a2 a3 M = some r0) : Ct l (WX g) yX7_minutes cX7_minutes 4 (some .int) 1 [.ref (wad (WX g) 31), .int a1, .int a2, .int a3] M (some (.int r0), M) := by
  refine Ct.of (by decide) (Nat.le_of_ble_eq_true rfl) (fun Y hY E => ?_)
  have E : EV Y (WX g) cX7_minutes 4 (some .int) RX7 := E
  have h : FX7_minutes a1 a2 a3 M = some r0 := h
  unfold FX7_minutes at h
  show AW Y (WX g) _ 4 1 0 [(0, .ref (wad (WX g) 31)), (1, .int a1), (2, .int a2), (3, .int a3)] [] M
  obtain ⟨r, hr⟩ : ∃ r : Option Value × Mem, r = (some (.int r0), M) := ⟨_, rfl⟩
  rw [← hr]
  refine aw_aload_n E dX7_minutes_0 0 rfl ?_
  refine aw_getR (q := 36) E flX7_24 (Nat.le_of_ble_eq_true rfl) rfl rfl dX7_minutes_1 ?_
  refine aw_iload_n E dX7_minutes_4 1 rfl ?_
  refine aw_iconst (v := 5) E dX7_minutes_5 (by decide) ?_
  refine aw_ishl E dX7_minutes_6 ?_
  refine aw_iload_n E dX7_minutes_7 3 rfl ?_
  refine aw_iconst (v := 4) E dX7_minutes_8 (by decide) ?_
  refine aw_ishl E dX7_minutes_9 ?_
  refine aw_ior E dX7_minutes_10 ?_
  refine aw_iload_n E dX7_minutes_11 2 rfl ?_
  refine aw_bipush (v := 15) E dX7_minutes_12 (by decide) ?_
  refine aw_iand E dX7_minutes_14 ?_
  refine aw_ior E dX7_minutes_15 ?_
  obtain ⟨g1, h⟩ := gi_e h
  refine aw_iald E (Nat.le_of_ble_eq_true rfl) rfl g1 dX7_minutes_16 ?_
  replace h := Option.some.inj h
  subst h
  exact aw_iret E dX7_minutes_17 hr
def FX7_after (a1 : Int32) (a2 : Int32) (M : Mem) : Option (Int32) :=
  gi a2 13 <|
  gi a2 13 <|
  lt (α := Int32) (((M.1 32 (Int32.toNatClampNeg a2)) + (M.1 33 (Int32.toNatClampNeg a2))) - (a1 &&& 15)) fun x3 =>
  gi a2 13 <|
  some ((((a1 &&& (-16)) ||| x3) ||| ((1 : Int32) <<< ((x3 + 4) &&& 31))) ||| ((M.1 34 (Int32.toNatClampNeg a2)) <<< ((13 : Int32) &&& 31)))
set_option maxHeartbeats 4000000 in
set_option maxRecDepth 100000 in
theorem ctX7_after (l : Launch) (g : CtxG) (a1 : Int32) (a2 : Int32) (M : Mem) (r0 : Int32) (h : FX7_after a1 a2 M = some r0) : Ct l (WX g) yX7_after cX7_after 4 (some .int) 1 [.ref (wad (WX g) 31), .int a1, .int a2] M (some (.int r0), M) := by
  refine Ct.of (by decide) (Nat.le_of_ble_eq_true rfl) (fun Y hY E => ?_)
  have E : EV Y (WX g) cX7_after 4 (some .int) RX7 := E
  have h : FX7_after a1 a2 M = some r0 := h
  unfold FX7_after at h
  show AW Y (WX g) _ 4 1 0 [(0, .ref (wad (WX g) 31)), (1, .int a1), (2, .int a2)] [] M
  obtain ⟨r, hr⟩ : ∃ r : Option Value × Mem, r = (some (.int r0), M) := ⟨_, rfl⟩
  rw [← hr]
  refine aw_aload_n E dX7_after_0 0 rfl ?_
  refine aw_getR (q := 32) E flX7_9 (Nat.le_of_ble_eq_true rfl) rfl rfl dX7_after_1 ?_
  refine aw_iload_n E dX7_after_4 2 rfl ?_
  obtain ⟨g1, h⟩ := gi_e h
  refine aw_iald E (Nat.le_of_ble_eq_true rfl) rfl g1 dX7_after_5 ?_
  refine aw_aload_n E dX7_after_6 0 rfl ?_
  refine aw_getR (q := 33) E flX7_15 (Nat.le_of_ble_eq_true rfl) rfl rfl dX7_after_7 ?_
  refine aw_iload_n E dX7_after_10 2 rfl ?_
  obtain ⟨g2, h⟩ := gi_e h
  refine aw_iald E (Nat.le_of_ble_eq_true rfl) rfl g2 dX7_after_11 ?_
  refine aw_iadd E dX7_after_12 ?_
  refine aw_iload_n E dX7_after_13 1 rfl ?_
  refine aw_bipush (v := 15) E dX7_after_14 (by decide) ?_
  refine aw_iand E dX7_after_16 ?_
  refine aw_isub E dX7_after_17 ?_
  obtain ⟨x3, e4, h⟩ := lt_e h
  refine aw_nmI e4 ?_
  refine aw_istore_n (L1 := [(3, .int x3), (0, .ref (wad (WX g) 31)), (1, .int a1), (2, .int a2)]) E dX7_after_18 (Nat.le_of_ble_eq_true rfl) rfl ?_
  refine aw_iload_n E dX7_after_19 2 rfl ?_
  refine aw_bipush (v := (-16)) E dX7_after_20 (by decide) ?_
  refine aw_iand E dX7_after_22 ?_
  refine aw_iload_n E dX7_after_23 0 rfl ?_
  refine aw_ior E dX7_after_24 ?_
  refine aw_iconst (v := 1) E dX7_after_25 (by decide) ?_
  refine aw_iload_n E dX7_after_26 0 rfl ?_
  refine aw_iconst (v := 4) E dX7_after_27 (by decide) ?_
  refine aw_iadd E dX7_after_28 ?_
  refine aw_ishl E dX7_after_29 ?_
  refine aw_ior E dX7_after_30 ?_
  refine aw_aload_n E dX7_after_31 1 rfl ?_
  refine aw_getR (q := 34) E flX7_18 (Nat.le_of_ble_eq_true rfl) rfl rfl dX7_after_32 ?_
  refine aw_iload_n E dX7_after_35 3 rfl ?_
  obtain ⟨g5, h⟩ := gi_e h
  refine aw_iald E (Nat.le_of_ble_eq_true rfl) rfl g5 dX7_after_36 ?_
  refine aw_bipush (v := 13) E dX7_after_37 (by decide) ?_
  refine aw_ishl E dX7_after_39 ?_
  refine aw_ior E dX7_after_40 ?_
  replace h := Option.some.inj h
  subst h
  exact aw_iret E dX7_after_41 hr
def FX7_closeLane (a1 : Int32) (a2 : Int32) (M : Mem) : Option (Mem) :=
  gi (a1 &&& 15) 32 <|
  gi (a1 &&& 15) 32 <|
  lt (wr M 35 (Int32.toNatClampNeg (a1 &&& 15)) ((M.1 35 (Int32.toNatClampNeg (a1 &&& 15))) &&& (((1 : Int32) <<< ((M.1 31 1) &&& 31)) ^^^ (-1)))) fun M3 =>
  gi (a2 &&& 15) 32 <|
  gi (a2 &&& 15) 32 <|
  lt (wr M3 35 (Int32.toNatClampNeg (a2 &&& 15)) ((M3.1 35 (Int32.toNatClampNeg (a2 &&& 15))) &&& (((1 : Int32) <<< ((M3.1 31 1) &&& 31)) ^^^ (-1)))) fun M7 =>
  some M7
set_option maxHeartbeats 4000000 in
set_option maxRecDepth 100000 in
theorem ctX7_closeLane (l : Launch) (g : CtxG) (a1 : Int32) (a2 : Int32) (M : Mem) (r0 : Mem) (h : FX7_closeLane a1 a2 M = some r0) : Ct l (WX g) yX7_closeLane cX7_closeLane 3 none 1 [.ref (wad (WX g) 31), .int a1, .int a2] M (none, r0) := by
  refine Ct.of (by decide) (Nat.le_of_ble_eq_true rfl) (fun Y hY E => ?_)
  have E : EV Y (WX g) cX7_closeLane 3 none RX7 := E
  have h : FX7_closeLane a1 a2 M = some r0 := h
  unfold FX7_closeLane at h
  show AW Y (WX g) _ 3 1 0 [(0, .ref (wad (WX g) 31)), (1, .int a1), (2, .int a2)] [] M
  obtain ⟨r, hr⟩ : ∃ r : Option Value × Mem, r = (none, r0) := ⟨_, rfl⟩
  rw [← hr]
  refine aw_aload_n E dX7_closeLane_0 0 rfl ?_
  refine aw_getR (q := 35) E flX7_21 (Nat.le_of_ble_eq_true rfl) rfl rfl dX7_closeLane_1 ?_
  refine aw_iload_n E dX7_closeLane_4 1 rfl ?_
  refine aw_bipush (v := 15) E dX7_closeLane_5 (by decide) ?_
  refine aw_iand E dX7_closeLane_7 ?_
  refine aw_dup2 E dX7_closeLane_8 rfl rfl ?_
  obtain ⟨g1, h⟩ := gi_e h
  refine aw_iald E (Nat.le_of_ble_eq_true rfl) rfl g1 dX7_closeLane_9 ?_
  refine aw_iconst (v := 1) E dX7_closeLane_10 (by decide) ?_
  refine aw_aload_n E dX7_closeLane_11 0 rfl ?_
  refine aw_getI E flX7_51 (Nat.le_of_ble_eq_true rfl) rfl rfl dX7_closeLane_12 ?_
  refine aw_ishl E dX7_closeLane_15 ?_
  refine aw_iconst (v := (-1)) E dX7_closeLane_16 (by decide) ?_
  refine aw_ixor E dX7_closeLane_17 ?_
  refine aw_iand E dX7_closeLane_18 ?_
  obtain ⟨g2, h⟩ := gi_e h
  obtain ⟨M3, e4, h⟩ := lt_e h
  refine aw_iast1 e4 E (Nat.le_of_ble_eq_true rfl) rfl g2 dX7_closeLane_19 ?_
  refine aw_aload_n E dX7_closeLane_20 0 rfl ?_
  refine aw_getR (q := 35) E flX7_21 (Nat.le_of_ble_eq_true rfl) rfl rfl dX7_closeLane_21 ?_
  refine aw_iload_n E dX7_closeLane_24 2 rfl ?_
  refine aw_bipush (v := 15) E dX7_closeLane_25 (by decide) ?_
  refine aw_iand E dX7_closeLane_27 ?_
  refine aw_dup2 E dX7_closeLane_28 rfl rfl ?_
  obtain ⟨g5, h⟩ := gi_e h
  refine aw_iald E (Nat.le_of_ble_eq_true rfl) rfl g5 dX7_closeLane_29 ?_
  refine aw_iconst (v := 1) E dX7_closeLane_30 (by decide) ?_
  refine aw_aload_n E dX7_closeLane_31 0 rfl ?_
  refine aw_getI E flX7_51 (Nat.le_of_ble_eq_true rfl) rfl rfl dX7_closeLane_32 ?_
  refine aw_ishl E dX7_closeLane_35 ?_
  refine aw_iconst (v := (-1)) E dX7_closeLane_36 (by decide) ?_
  refine aw_ixor E dX7_closeLane_37 ?_
  refine aw_iand E dX7_closeLane_38 ?_
  obtain ⟨g6, h⟩ := gi_e h
  obtain ⟨M7, e8, h⟩ := lt_e h
  refine aw_iast1 e8 E (Nat.le_of_ble_eq_true rfl) rfl g6 dX7_closeLane_39 ?_
  replace h := Option.some.inj h
  subst h
  exact aw_vret E dX7_closeLane_40 hr
def FX7_start  (M : Mem) : Int32 :=
  ((M.1 31 0) ||| ((1 : Int32) <<< (((M.1 31 0) + 4) &&& 31))) ||| ((M.1 31 2) <<< ((13 : Int32) &&& 31))
set_option maxHeartbeats 4000000 in
set_option maxRecDepth 100000 in
theorem ctX7_start (l : Launch) (g : CtxG)  (M : Mem) : Ct l (WX g) yX7_start cX7_start 1 (some .int) 1 [.ref (wad (WX g) 31)] M (some (.int (FX7_start M)), M) := by
  obtain ⟨r0, h⟩ : ∃ r0, FX7_start M = r0 := ⟨_, rfl⟩
  rw [h]
  refine Ct.of (by decide) (Nat.le_of_ble_eq_true rfl) (fun Y hY E => ?_)
  have E : EV Y (WX g) cX7_start 1 (some .int) RX7 := E
  --generalize hr : ((some (Value.int r0), M) : Option Value × Mem) = r
  have h : FX7_start  M = r0 := h
  unfold FX7_start at h
  show AW Y (WX g) _ 1 1 0 [(0, .ref (wad (WX g) 31))] [] M
  obtain ⟨r, hr⟩ : ∃ r : Option Value × Mem, r = (some (.int r0), M) := ⟨_, rfl⟩
  rw [← hr]
  refine aw_aload_n E dX7_start_0 0 rfl ?_
  refine aw_getI E flX7_33 (Nat.le_of_ble_eq_true rfl) rfl rfl dX7_start_1 ?_
  refine aw_iconst (v := 1) E dX7_start_4 (by decide) ?_
  refine aw_aload_n E dX7_start_5 0 rfl ?_
  refine aw_getI E flX7_33 (Nat.le_of_ble_eq_true rfl) rfl rfl dX7_start_6 ?_
  refine aw_iconst (v := 4) E dX7_start_9 (by decide) ?_
  refine aw_iadd E dX7_start_10 ?_
  refine aw_ishl E dX7_start_11 ?_
  refine aw_ior E dX7_start_12 ?_
  refine aw_aload_n E dX7_start_13 0 rfl ?_
  refine aw_getI E flX7_37 (Nat.le_of_ble_eq_true rfl) rfl rfl dX7_start_14 ?_
  refine aw_bipush (v := 13) E dX7_start_17 (by decide) ?_
  refine aw_ishl E dX7_start_19 ?_
  refine aw_ior E dX7_start_20 ?_
  subst h
  exact aw_iret E dX7_start_21 hr
def FX7_ends (a1 : Int32) (a2 : Int32) (M : Mem) : Option (Int32) :=
  ob (α := Bool) (if (M.1 31 3) = 0 then
    some false
  else
    ob (FX7_across a2 (FX7_at a1) M) fun q5 =>
    if q5 = (M.1 31 0) then some true else some false) fun b1 =>
  if b1 = true then
    some 1
  else
    some 0
set_option maxHeartbeats 4000000 in
set_option maxRecDepth 100000 in
theorem ctX7_ends (l : Launch) (g : CtxG) (a1 : Int32) (a2 : Int32) (M : Mem) (r0 : Int32) (h : FX7_ends a1 a2 M = some r0) : Ct l (WX g) yX7_ends cX7_ends 3 (some .boolean) 2 [.ref (wad (WX g) 31), .int a1, .int a2] M (some (.int r0), M) := by
  refine Ct.of (by decide) (Nat.le_of_ble_eq_true rfl) (fun Y hY E => ?_)
  have E : EV Y (WX g) cX7_ends 3 (some .boolean) RX7 := E
  have h : FX7_ends a1 a2 M = some r0 := h
  unfold FX7_ends at h
  show AW Y (WX g) _ 3 2 0 [(0, .ref (wad (WX g) 31)), (1, .int a1), (2, .int a2)] [] M
  obtain ⟨r, hr⟩ : ∃ r : Option Value × Mem, r = (some (.int r0), M) := ⟨_, rfl⟩
  rw [← hr]
  refine aw_aload_n E dX7_ends_0 0 rfl ?_
  refine aw_getI E flX7_41 (Nat.le_of_ble_eq_true rfl) rfl rfl dX7_ends_1 ?_
  obtain ⟨b1, e2, h⟩ := bd_e h
  have J3 : b1 = true → AW Y (WX g) r 3 2 23 [(0, .ref (wad (WX g) 31)), (1, .int a1), (2, .int a2)] [] M := fun hb => by
    replace h := ip hb h
    refine aw_iconst (v := 1) E dX7_ends_23 (by decide) ?_
    refine aw_goto (tgt := 28) E dX7_ends_24 rfl ?_
    replace h := Option.some.inj h
    subst h
    exact aw_zret E (by decide) dX7_ends_28 hr
  have J4 : b1 = false → AW Y (WX g) r 3 2 27 [(0, .ref (wad (WX g) 31)), (1, .int a1), (2, .int a2)] [] M := fun hb => by
    replace h := iq (bf hb) h
    refine aw_iconst (v := 0) E dX7_ends_27 (by decide) ?_
    replace h := Option.some.inj h
    subst h
    exact aw_zret E (by decide) dX7_ends_28 hr
  refine aw_if_eq (tgt := 27) E dX7_ends_4 rfl (fun c4 => ?_) (fun c4 => ?_)
  ·
    replace e2 := ip c4 e2
    replace e2 := Option.some.inj e2
    subst e2
    exact J4 rfl
  ·
    replace e2 := iq c4 e2
    refine aw_aload_n E dX7_ends_7 0 rfl ?_
    refine aw_iload_n E dX7_ends_8 2 rfl ?_
    refine aw_iload_n E dX7_ends_9 1 rfl ?_
    refine aw_callSi (S := [.int a2, .ref (wad (WX g) 31)]) E msX7_at mlX7_103 rfl (ctX7_at (yl Y) g a1  M ) rfl (Nat.le_of_ble_eq_true rfl) (Nat.le_of_ble_eq_true rfl) dX7_ends_10 ?_
    obtain ⟨q5, e6, e2⟩ := bd_e e2
    refine aw_callVi (S := []) E mvX7_across mlX7_80 (Nat.le_of_ble_eq_true rfl) rfl rfl rfl (ctX7_across (yl Y) g a2 (FX7_at a1)  M q5 e6) rfl (Nat.le_of_ble_eq_true rfl) (Nat.le_of_ble_eq_true rfl) dX7_ends_13 ?_
    refine aw_aload_n E dX7_ends_16 0 rfl ?_
    refine aw_getI E flX7_33 (Nat.le_of_ble_eq_true rfl) rfl rfl dX7_ends_17 ?_
    refine aw_icmp_ne (tgt := 27) E dX7_ends_20 rfl (fun c20 => ?_) (fun c20 => ?_)
    ·
      replace e2 := iq c20 e2
      replace e2 := Option.some.inj e2
      subst e2
      exact J4 rfl
    ·
      replace e2 := ip c20 e2
      replace e2 := Option.some.inj e2
      subst e2
      exact J3 rfl
def FX7_price_L54 : Nat → Nat → Int32 → Int32 → Int32 → Int32 → Mem → Option (Mem)
  | 0, _, _, _, _, _, _ => none
  | f + 1, p3, p1, p2, p6, p7, M =>
    if 2 ≤ p7 then
      some M
    else
      lt (α := Int32) ((p7 <<< ((4 : Int32) &&& 31)) ||| (p2 &&& 15)) fun x101 =>
      ob (α := Bool) (if p6 = 0 then
        some false
      else
        ob (FX3_lets p1 p2 p7 (M.1 p3 1) M) fun q126 =>
        if q126 = 0 then some false else some true) fun b103 =>
      ob (α := Mem) (if b103 = true then
        gi x101 32 <|
        gi x101 32 <|
        lt (wr M 35 (Int32.toNatClampNeg x101) ((M.1 35 (Int32.toNatClampNeg x101)) ||| ((1 : Int32) <<< (p1 &&& 31)))) fun M124 =>
        some M124
      else
        some M) fun q105 =>
      lt (α := Int32) (if p7 = 0 then
        0
      else
        1) fun q108 =>
      ob (FX6_value (q105.1 p3 5) q108 q105) fun q111 =>
      ob (FX3_lasts p1 p2 q111.1 (q111.2.1 p3 1) q111.2) fun q113 =>
      gi ((p1 <<< ((5 : Int32) &&& 31)) ||| x101) 416 <|
      lt (wr q111.2 36 (Int32.toNatClampNeg ((p1 <<< ((5 : Int32) &&& 31)) ||| x101)) q113) fun M116 =>
      lt (α := Int32) (p7 + 1) fun x118 =>
      FX7_price_L54 f p3 p1 p2 p6 x118 M116
def FX7_price (a1 : Int32) (a2 : Int32) (a3 : Nat) (M : Mem) : Option (Mem) :=
  gi a1 12 <|
  gi a1 12 <|
  ob (FX7_across a1 a2 M) fun q3 =>
  ob (FX6_name (M.1 8 (Int32.toNatClampNeg a1)) (M.1 9 (Int32.toNatClampNeg a1)) (M.1 a3 1) a2 q3 a1 M) fun q5 =>
  ob (FX6_value (q5.1 a3 5) 2 q5) fun q7 =>
  lt (α := Int32) (if q7.1 = 0 then
    0
  else
    1) fun q9 =>
  ob (FX7_price_L54 FU a3 a1 a2 q9 0 q7.2) fun q12 =>
  some q12
set_option maxHeartbeats 4000000 in
set_option maxRecDepth 100000 in
theorem lpX7_price_54 {Y : CtxM} {g : CtxG} {r : Option Value × Mem} (E : EV Y (WX g) cX7_price 10 none RX7) (p3 : Nat) (hd3 : isSet p3) (p1 : Int32) (p2 : Int32) (p6 : Int32) : ∀ (f : Nat) (p7 : Int32) (M : Mem) (q : Mem), FX7_price_L54 f p3 p1 p2 p6 p7 M = some q → AW Y (WX g) r 10 3 156 [] [] q → AW Y (WX g) r 10 3 54 [(0, .ref (wad (WX g) 31)), (1, .int p1), (2, .int p2), (3, .ref (wad (WX g) p3)), (4, .ref (wad (WX g) 4)), (5, .ref (wad (WX g) 14)), (6, .int p6), (7, .int p7)] [] M := by
  intro f
  induction f with
  | zero => intro p7 M q hh; exact absurd hh (fun z => nomatch (show (none : Option (Mem)) = some q from z))
  | succ f ih =>
    intro p7 M q hh kx
    rw [FX7_price_L54] at hh
    refine aw_iload E dX7_price_54 7 rfl ?_
    refine aw_iconst (v := 2) E dX7_price_56 (by decide) ?_
    refine aw_icmp_ge (tgt := 156) E dX7_price_57 rfl (fun c57 => ?_) (fun c57 => ?_)
    ·
      replace hh := ip c57 hh
      refine aw_sub (L1 := []) [] rfl ?_
      replace hh := Option.some.inj hh
      subst hh
      exact kx
    ·
      replace hh := iq c57 hh
      refine aw_iload E dX7_price_60 7 rfl ?_
      refine aw_iconst (v := 4) E dX7_price_62 (by decide) ?_
      refine aw_ishl E dX7_price_63 ?_
      refine aw_iload_n E dX7_price_64 2 rfl ?_
      refine aw_bipush (v := 15) E dX7_price_65 (by decide) ?_
      refine aw_iand E dX7_price_67 ?_
      refine aw_ior E dX7_price_68 ?_
      obtain ⟨x101, e102, hh⟩ := lt_e hh
      refine aw_nmI e102 ?_
      refine aw_istore (L1 := [(8, .int x101), (0, .ref (wad (WX g) 31)), (1, .int p1), (2, .int p2), (3, .ref (wad (WX g) p3)), (4, .ref (wad (WX g) 4)), (5, .ref (wad (WX g) 14)), (6, .int p6), (7, .int p7)]) E dX7_price_69 (Nat.le_of_ble_eq_true rfl) rfl ?_
      refine aw_iload E dX7_price_71 7 rfl ?_
      obtain ⟨b103, e104, hh⟩ := bd_e hh
      obtain ⟨q105, e106, hh⟩ := bd_e hh
      have J107 : AW Y (WX g) r 10 3 105 [(0, .ref (wad (WX g) 31)), (1, .int p1), (2, .int p2), (3, .ref (wad (WX g) p3)), (4, .ref (wad (WX g) 4)), (5, .ref (wad (WX g) 14)), (6, .int p6), (7, .int p7), (8, .int x101)] [] q105 := by
        refine aw_aload E dX7_price_105 5 rfl ?_
        refine aw_aload_n E dX7_price_107 3 rfl ?_
        refine aw_getI E flX7_89 hd3.1 hd3.2 rfl dX7_price_108 ?_
        refine aw_iload E dX7_price_111 7 rfl ?_
        obtain ⟨q108, e109, hh⟩ := lt_e hh
        have J110 : AW Y (WX g) r 10 3 121 [(0, .ref (wad (WX g) 31)), (1, .int p1), (2, .int p2), (3, .ref (wad (WX g) p3)), (4, .ref (wad (WX g) 4)), (5, .ref (wad (WX g) 14)), (6, .int p6), (7, .int p7), (8, .int x101)] [.int q108, .int (q105.1 p3 5), .ref (wad (WX g) 14)] q105 := by
          obtain ⟨q111, e112, hh⟩ := bd_e hh
          refine aw_callVi (S := []) E mvX6_value mlX7_92 (Nat.le_of_ble_eq_true rfl) rfl rfl rfl (ctX6_value (yl Y) g (q105.1 p3 5) q108  q105 q111 e112) rfl (Nat.le_of_ble_eq_true rfl) (Nat.le_of_ble_eq_true rfl) dX7_price_121 ?_
          refine aw_istore (L1 := [(9, .int q111.1), (0, .ref (wad (WX g) 31)), (1, .int p1), (2, .int p2), (3, .ref (wad (WX g) p3)), (4, .ref (wad (WX g) 4)), (5, .ref (wad (WX g) 14)), (6, .int p6), (7, .int p7), (8, .int x101)]) E dX7_price_124 (Nat.le_of_ble_eq_true rfl) rfl ?_
          refine aw_aload_n E dX7_price_126 1 rfl ?_
          refine aw_getR (q := 36) E flX7_24 (Nat.le_of_ble_eq_true rfl) rfl rfl dX7_price_127 ?_
          refine aw_iload_n E dX7_price_130 2 rfl ?_
          refine aw_iconst (v := 5) E dX7_price_131 (by decide) ?_
          refine aw_ishl E dX7_price_132 ?_
          refine aw_iload E dX7_price_133 9 rfl ?_
          refine aw_ior E dX7_price_135 ?_
          refine aw_aload E dX7_price_136 5 rfl ?_
          refine aw_iload_n E dX7_price_138 2 rfl ?_
          refine aw_iload_n E dX7_price_139 3 rfl ?_
          refine aw_iload E dX7_price_140 0 rfl ?_
          refine aw_aload_n E dX7_price_142 4 rfl ?_
          refine aw_getI E flX7_77 hd3.1 hd3.2 rfl dX7_price_143 ?_
          obtain ⟨q113, e114, hh⟩ := bd_e hh
          refine aw_callVi (S := [.int ((p1 <<< ((5 : Int32) &&& 31)) ||| x101), .ref (wad (WX g) 36)]) E mvX3_lasts mlX7_99 (Nat.le_of_ble_eq_true rfl) rfl rfl rfl (ctX3_lasts (yl Y) g p1 p2 q111.1 (q111.2.1 p3 1)  q111.2 q113 e114) rfl (Nat.le_of_ble_eq_true rfl) (Nat.le_of_ble_eq_true rfl) dX7_price_146 ?_
          obtain ⟨g115, hh⟩ := gi_e hh
          obtain ⟨M116, e117, hh⟩ := lt_e hh
          refine aw_iast1 e117 E (Nat.le_of_ble_eq_true rfl) rfl g115 dX7_price_149 ?_
          obtain ⟨x118, e119, hh⟩ := lt_e hh
          refine aw_iinc (v := x118) (L1 := [(7, .int x118), (9, .int q111.1), (0, .ref (wad (WX g) 31)), (1, .int p1), (2, .int p2), (3, .ref (wad (WX g) p3)), (4, .ref (wad (WX g) 4)), (5, .ref (wad (WX g) 14)), (6, .int p6), (8, .int x101)]) E dX7_price_150 8 rfl e119 (Nat.le_of_ble_eq_true rfl) rfl ?_
          refine aw_goto (tgt := 54) E dX7_price_153 rfl ?_
          refine aw_sub (L1 := [(0, .ref (wad (WX g) 31)), (1, .int p1), (2, .int p2), (3, .ref (wad (WX g) p3)), (4, .ref (wad (WX g) 4)), (5, .ref (wad (WX g) 14)), (6, .int p6), (7, .int x118)]) [2, 3, 4, 5, 6, 7, 8, 0] rfl ?_
          exact ih x118 M116 _ hh kx
        refine aw_if_ne (tgt := 120) E dX7_price_113 rfl (fun c113 => ?_) (fun c113 => ?_)
        ·
          replace e109 := iq c113 e109
          refine aw_iconst (v := 1) E dX7_price_120 (by decide) ?_
          refine aw_sub (L1 := [(0, .ref (wad (WX g) 31)), (1, .int p1), (2, .int p2), (3, .ref (wad (WX g) p3)), (4, .ref (wad (WX g) 4)), (5, .ref (wad (WX g) 14)), (6, .int p6), (7, .int p7), (8, .int x101)]) [0, 1, 2, 3, 4, 5, 6, 7, 8] rfl ?_
          subst e109
          exact J110
        ·
          replace e109 := ip c113 e109
          refine aw_iconst (v := 0) E dX7_price_116 (by decide) ?_
          refine aw_goto (tgt := 121) E dX7_price_117 rfl ?_
          refine aw_sub (L1 := [(0, .ref (wad (WX g) 31)), (1, .int p1), (2, .int p2), (3, .ref (wad (WX g) p3)), (4, .ref (wad (WX g) 4)), (5, .ref (wad (WX g) 14)), (6, .int p6), (7, .int p7), (8, .int x101)]) [0, 1, 2, 3, 4, 5, 6, 7, 8] rfl ?_
          subst e109
          exact J110
      have J120 : b103 = true → AW Y (WX g) r 10 3 92 [(8, .int x101), (0, .ref (wad (WX g) 31)), (1, .int p1), (2, .int p2), (3, .ref (wad (WX g) p3)), (4, .ref (wad (WX g) 4)), (5, .ref (wad (WX g) 14)), (6, .int p6), (7, .int p7)] [] M := fun hb => by
        replace e106 := ip hb e106
        refine aw_aload_n E dX7_price_92 1 rfl ?_
        refine aw_getR (q := 35) E flX7_21 (Nat.le_of_ble_eq_true rfl) rfl rfl dX7_price_93 ?_
        refine aw_iload E dX7_price_96 0 rfl ?_
        refine aw_dup2 E dX7_price_98 rfl rfl ?_
        obtain ⟨g122, e106⟩ := gi_e e106
        refine aw_iald E (Nat.le_of_ble_eq_true rfl) rfl g122 dX7_price_99 ?_
        refine aw_iconst (v := 1) E dX7_price_100 (by decide) ?_
        refine aw_iload_n E dX7_price_101 2 rfl ?_
        refine aw_ishl E dX7_price_102 ?_
        refine aw_ior E dX7_price_103 ?_
        obtain ⟨g123, e106⟩ := gi_e e106
        obtain ⟨M124, e125, e106⟩ := lt_e e106
        refine aw_iast1 e125 E (Nat.le_of_ble_eq_true rfl) rfl g123 dX7_price_104 ?_
        refine aw_sub (L1 := [(0, .ref (wad (WX g) 31)), (1, .int p1), (2, .int p2), (3, .ref (wad (WX g) p3)), (4, .ref (wad (WX g) 4)), (5, .ref (wad (WX g) 14)), (6, .int p6), (7, .int p7), (8, .int x101)]) [1, 2, 3, 4, 5, 6, 7, 8, 0] rfl ?_
        replace e106 := Option.some.inj e106
        subst e106
        exact J107
      have J121 : b103 = false → AW Y (WX g) r 10 3 105 [(8, .int x101), (0, .ref (wad (WX g) 31)), (1, .int p1), (2, .int p2), (3, .ref (wad (WX g) p3)), (4, .ref (wad (WX g) 4)), (5, .ref (wad (WX g) 14)), (6, .int p6), (7, .int p7)] [] M := fun hb => by
        replace e106 := iq (bf hb) e106
        refine aw_sub (L1 := [(0, .ref (wad (WX g) 31)), (1, .int p1), (2, .int p2), (3, .ref (wad (WX g) p3)), (4, .ref (wad (WX g) 4)), (5, .ref (wad (WX g) 14)), (6, .int p6), (7, .int p7), (8, .int x101)]) [1, 2, 3, 4, 5, 6, 7, 8, 0] rfl ?_
        replace e106 := Option.some.inj e106
        subst e106
        exact J107
      refine aw_if_eq (tgt := 105) E dX7_price_73 rfl (fun c73 => ?_) (fun c73 => ?_)
      ·
        replace e104 := ip c73 e104
        replace e104 := Option.some.inj e104
        subst e104
        exact J121 rfl
      ·
        replace e104 := iq c73 e104
        refine aw_aload E dX7_price_76 5 rfl ?_
        refine aw_iload_n E dX7_price_78 2 rfl ?_
        refine aw_iload_n E dX7_price_79 3 rfl ?_
        refine aw_iload E dX7_price_80 8 rfl ?_
        refine aw_aload_n E dX7_price_82 4 rfl ?_
        refine aw_getI E flX7_77 hd3.1 hd3.2 rfl dX7_price_83 ?_
        obtain ⟨q126, e127, e104⟩ := bd_e e104
        refine aw_callVi (S := []) E mvX3_lets mlX7_95 (Nat.le_of_ble_eq_true rfl) rfl rfl rfl (ctX3_lets (yl Y) g p1 p2 p7 (M.1 p3 1)  M q126 e127) rfl (Nat.le_of_ble_eq_true rfl) (Nat.le_of_ble_eq_true rfl) dX7_price_86 ?_
        refine aw_if_eq (tgt := 105) E dX7_price_89 rfl (fun c89 => ?_) (fun c89 => ?_)
        ·
          replace e104 := ip c89 e104
          replace e104 := Option.some.inj e104
          subst e104
          exact J121 rfl
        ·
          replace e104 := iq c89 e104
          replace e104 := Option.some.inj e104
          subst e104
          exact J120 rfl
set_option maxHeartbeats 4000000 in
set_option maxRecDepth 100000 in
theorem ctX7_price (l : Launch) (g : CtxG) (a1 : Int32) (a2 : Int32) (a3 : Nat) (hd3 : isSet a3) (M : Mem) (r0 : Mem) (h : FX7_price a1 a2 a3 M = some r0) : Ct l (WX g) yX7_price cX7_price 10 none 3 [.ref (wad (WX g) 31), .int a1, .int a2, .ref (wad (WX g) a3), .ref (wad (WX g) 4), .ref (wad (WX g) 14)] M (none, r0) := by
  refine Ct.of (by decide) (Nat.le_of_ble_eq_true rfl) (fun Y hY E => ?_)
  have E : EV Y (WX g) cX7_price 10 none RX7 := E
  have h : FX7_price a1 a2 a3 M = some r0 := h
  unfold FX7_price at h
  show AW Y (WX g) _ 10 3 0 [(0, .ref (wad (WX g) 31)), (1, .int a1), (2, .int a2), (3, .ref (wad (WX g) a3)), (4, .ref (wad (WX g) 4)), (5, .ref (wad (WX g) 14))] [] M
  obtain ⟨r, hr⟩ : ∃ r : Option Value × Mem, r = (none, r0) := ⟨_, rfl⟩
  rw [← hr]
  refine aw_aload E dX7_price_0 5 rfl ?_
  refine aw_aload E dX7_price_2 4 rfl ?_
  refine aw_getR (q := 8) E flX7_71 (Nat.le_of_ble_eq_true rfl) rfl rfl dX7_price_4 ?_
  refine aw_iload_n E dX7_price_7 1 rfl ?_
  obtain ⟨g1, h⟩ := gi_e h
  refine aw_iald E (Nat.le_of_ble_eq_true rfl) rfl g1 dX7_price_8 ?_
  refine aw_aload E dX7_price_9 4 rfl ?_
  refine aw_getR (q := 9) E flX7_74 (Nat.le_of_ble_eq_true rfl) rfl rfl dX7_price_11 ?_
  refine aw_iload_n E dX7_price_14 1 rfl ?_
  obtain ⟨g2, h⟩ := gi_e h
  refine aw_iald E (Nat.le_of_ble_eq_true rfl) rfl g2 dX7_price_15 ?_
  refine aw_aload_n E dX7_price_16 3 rfl ?_
  refine aw_getI E flX7_77 hd3.1 hd3.2 rfl dX7_price_17 ?_
  refine aw_iload_n E dX7_price_20 2 rfl ?_
  refine aw_aload_n E dX7_price_21 0 rfl ?_
  refine aw_iload_n E dX7_price_22 1 rfl ?_
  refine aw_iload_n E dX7_price_23 2 rfl ?_
  obtain ⟨q3, e4, h⟩ := bd_e h
  refine aw_callVi (S := [.int a2, .int (M.1 a3 1), .int (M.1 9 (Int32.toNatClampNeg a1)), .int (M.1 8 (Int32.toNatClampNeg a1)), .ref (wad (WX g) 14)]) E mvX7_across mlX7_80 (Nat.le_of_ble_eq_true rfl) rfl rfl rfl (ctX7_across (yl Y) g a1 a2  M q3 e4) rfl (Nat.le_of_ble_eq_true rfl) (Nat.le_of_ble_eq_true rfl) dX7_price_24 ?_
  refine aw_iload_n E dX7_price_27 1 rfl ?_
  obtain ⟨q5, e6, h⟩ := bd_e h
  refine aw_callVv (S := []) E mvX6_name mlX7_83 (Nat.le_of_ble_eq_true rfl) rfl rfl rfl (ctX6_name (yl Y) g (M.1 8 (Int32.toNatClampNeg a1)) (M.1 9 (Int32.toNatClampNeg a1)) (M.1 a3 1) a2 q3 a1  M q5 e6) rfl (Nat.le_of_ble_eq_true rfl) (Nat.le_of_ble_eq_true rfl) dX7_price_28 ?_
  refine aw_aload E dX7_price_31 5 rfl ?_
  refine aw_aload_n E dX7_price_33 3 rfl ?_
  refine aw_getI E flX7_89 hd3.1 hd3.2 rfl dX7_price_34 ?_
  refine aw_iconst (v := 2) E dX7_price_37 (by decide) ?_
  obtain ⟨q7, e8, h⟩ := bd_e h
  refine aw_callVi (S := []) E mvX6_value mlX7_92 (Nat.le_of_ble_eq_true rfl) rfl rfl rfl (ctX6_value (yl Y) g (q5.1 a3 5) 2  q5 q7 e8) rfl (Nat.le_of_ble_eq_true rfl) (Nat.le_of_ble_eq_true rfl) dX7_price_38 ?_
  obtain ⟨q9, e10, h⟩ := lt_e h
  have J11 : AW Y (WX g) r 10 3 49 [(0, .ref (wad (WX g) 31)), (1, .int a1), (2, .int a2), (3, .ref (wad (WX g) a3)), (4, .ref (wad (WX g) 4)), (5, .ref (wad (WX g) 14))] [.int q9] q7.2 := by
    refine aw_istore (L1 := [(6, .int q9), (0, .ref (wad (WX g) 31)), (1, .int a1), (2, .int a2), (3, .ref (wad (WX g) a3)), (4, .ref (wad (WX g) 4)), (5, .ref (wad (WX g) 14))]) E dX7_price_49 (Nat.le_of_ble_eq_true rfl) rfl ?_
    refine aw_iconst (v := 0) E dX7_price_51 (by decide) ?_
    refine aw_istore (L1 := [(7, .int 0), (6, .int q9), (0, .ref (wad (WX g) 31)), (1, .int a1), (2, .int a2), (3, .ref (wad (WX g) a3)), (4, .ref (wad (WX g) 4)), (5, .ref (wad (WX g) 14))]) E dX7_price_52 (Nat.le_of_ble_eq_true rfl) rfl ?_
    obtain ⟨q12, e13, h⟩ := bd_e h
    refine aw_sub (L1 := [(0, .ref (wad (WX g) 31)), (1, .int a1), (2, .int a2), (3, .ref (wad (WX g) a3)), (4, .ref (wad (WX g) 4)), (5, .ref (wad (WX g) 14)), (6, .int q9), (7, .int 0)]) [2, 3, 4, 5, 6, 7, 1, 0] rfl ?_
    refine lpX7_price_54 E a3 hd3 a1 a2 q9 FU 0 q7.2 q12 e13 ?_
    replace h := Option.some.inj h
    subst h
    exact aw_vret E dX7_price_156 hr
  refine aw_if_eq (tgt := 48) E dX7_price_41 rfl (fun c41 => ?_) (fun c41 => ?_)
  ·
    replace e10 := ip c41 e10
    refine aw_iconst (v := 0) E dX7_price_48 (by decide) ?_
    refine aw_sub (L1 := [(0, .ref (wad (WX g) 31)), (1, .int a1), (2, .int a2), (3, .ref (wad (WX g) a3)), (4, .ref (wad (WX g) 4)), (5, .ref (wad (WX g) 14))]) [0, 1, 2, 3, 4, 5] rfl ?_
    subst e10
    exact J11
  ·
    replace e10 := iq c41 e10
    refine aw_iconst (v := 1) E dX7_price_44 (by decide) ?_
    refine aw_goto (tgt := 49) E dX7_price_45 rfl ?_
    refine aw_sub (L1 := [(0, .ref (wad (WX g) 31)), (1, .int a1), (2, .int a2), (3, .ref (wad (WX g) a3)), (4, .ref (wad (WX g) 4)), (5, .ref (wad (WX g) 14))]) [0, 1, 2, 3, 4, 5] rfl ?_
    subst e10
    exact J11
def FX7_lay_L48 : Nat → Nat → Int32 → Mem → Option (Mem)
  | 0, _, _, _ => none
  | f + 1, p1, p4, M =>
    if (M.1 31 1) ≤ p4 then
      some M
    else
      gi p4 12 <|
      gi p4 13 <|
      lt (wr M 32 (Int32.toNatClampNeg p4) (M.1 6 (Int32.toNatClampNeg p4))) fun M103 =>
      gi p4 12 <|
      gi p4 13 <|
      lt (wr M103 33 (Int32.toNatClampNeg p4) (M103.1 7 (Int32.toNatClampNeg p4))) fun M107 =>
      ob (FX3_spentBy p4 (M107.1 31 1) M107) fun q109 =>
      gi p4 13 <|
      lt (wr M107 34 (Int32.toNatClampNeg p4) q109) fun M112 =>
      gi p4 13 <|
      ob (FX7_price p4 (M112.1 32 (Int32.toNatClampNeg p4)) p1 M112) fun q115 =>
      gi p4 13 <|
      ob (FX7_price p4 (q115.1 33 (Int32.toNatClampNeg p4)) p1 q115) fun q118 =>
      lt (α := Int32) (p4 + 1) fun x120 =>
      FX7_lay_L48 f p1 x120 q118
def FX7_lay (a1 : Nat) (M : Mem) : Option (Mem) :=
  lt (wr M 31 0 (M.1 a1 0)) fun M1 =>
  lt (wr M1 31 2 (M1.1 a1 3)) fun M3 =>
  lt (wr M3 31 3 (M3.1 a1 2)) fun M5 =>
  lt (wr M5 31 1 (if 12 < (M5.1 a1 4) then 12 else (M5.1 a1 4))) fun M7 =>
  ob (FJ7_fill_53178 35 32 0 M7) fun q9 =>
  ob (FX7_lay_L48 FU a1 0 q9) fun q11 =>
  some q11
set_option maxHeartbeats 4000000 in
set_option maxRecDepth 100000 in
theorem lpX7_lay_48 {Y : CtxM} {g : CtxG} {r : Option Value × Mem} (E : EV Y (WX g) cX7_lay 5 none RX7) (p1 : Nat) (hd1 : isSet p1) : ∀ (f : Nat) (p4 : Int32) (M : Mem) (q : Mem), FX7_lay_L48 f p1 p4 M = some q → AW Y (WX g) r 5 4 140 [] [] q → AW Y (WX g) r 5 4 48 [(0, .ref (wad (WX g) 31)), (1, .ref (wad (WX g) p1)), (2, .ref (wad (WX g) 4)), (3, .ref (wad (WX g) 14)), (4, .int p4)] [] M := by
  intro f
  induction f with
  | zero => intro p4 M q hh; exact absurd hh (fun z => nomatch (show (none : Option (Mem)) = some q from z))
  | succ f ih =>
    intro p4 M q hh kx
    rw [FX7_lay_L48] at hh
    refine aw_iload E dX7_lay_48 4 rfl ?_
    refine aw_aload_n E dX7_lay_50 0 rfl ?_
    refine aw_getI E flX7_51 (Nat.le_of_ble_eq_true rfl) rfl rfl dX7_lay_51 ?_
    refine aw_icmp_ge (tgt := 140) E dX7_lay_54 rfl (fun c54 => ?_) (fun c54 => ?_)
    ·
      replace hh := ip c54 hh
      refine aw_sub (L1 := []) [] rfl ?_
      replace hh := Option.some.inj hh
      subst hh
      exact kx
    ·
      replace hh := iq c54 hh
      refine aw_aload_n E dX7_lay_57 0 rfl ?_
      refine aw_getR (q := 32) E flX7_9 (Nat.le_of_ble_eq_true rfl) rfl rfl dX7_lay_58 ?_
      refine aw_iload E dX7_lay_61 4 rfl ?_
      refine aw_aload_n E dX7_lay_63 2 rfl ?_
      refine aw_getR (q := 6) E flX7_60 (Nat.le_of_ble_eq_true rfl) rfl rfl dX7_lay_64 ?_
      refine aw_iload E dX7_lay_67 4 rfl ?_
      obtain ⟨g101, hh⟩ := gi_e hh
      refine aw_iald E (Nat.le_of_ble_eq_true rfl) rfl g101 dX7_lay_69 ?_
      obtain ⟨g102, hh⟩ := gi_e hh
      obtain ⟨M103, e104, hh⟩ := lt_e hh
      refine aw_iast1 e104 E (Nat.le_of_ble_eq_true rfl) rfl g102 dX7_lay_70 ?_
      refine aw_aload_n E dX7_lay_71 0 rfl ?_
      refine aw_getR (q := 33) E flX7_15 (Nat.le_of_ble_eq_true rfl) rfl rfl dX7_lay_72 ?_
      refine aw_iload E dX7_lay_75 4 rfl ?_
      refine aw_aload_n E dX7_lay_77 2 rfl ?_
      refine aw_getR (q := 7) E flX7_63 (Nat.le_of_ble_eq_true rfl) rfl rfl dX7_lay_78 ?_
      refine aw_iload E dX7_lay_81 4 rfl ?_
      obtain ⟨g105, hh⟩ := gi_e hh
      refine aw_iald E (Nat.le_of_ble_eq_true rfl) rfl g105 dX7_lay_83 ?_
      obtain ⟨g106, hh⟩ := gi_e hh
      obtain ⟨M107, e108, hh⟩ := lt_e hh
      refine aw_iast1 e108 E (Nat.le_of_ble_eq_true rfl) rfl g106 dX7_lay_84 ?_
      refine aw_aload_n E dX7_lay_85 0 rfl ?_
      refine aw_getR (q := 34) E flX7_18 (Nat.le_of_ble_eq_true rfl) rfl rfl dX7_lay_86 ?_
      refine aw_iload E dX7_lay_89 4 rfl ?_
      refine aw_aload_n E dX7_lay_91 2 rfl ?_
      refine aw_iload E dX7_lay_92 4 rfl ?_
      refine aw_aload_n E dX7_lay_94 0 rfl ?_
      refine aw_getI E flX7_51 (Nat.le_of_ble_eq_true rfl) rfl rfl dX7_lay_95 ?_
      obtain ⟨q109, e110, hh⟩ := bd_e hh
      refine aw_callVi (S := [.int p4, .ref (wad (WX g) 34)]) E mvX3_spentBy mlX7_64 (Nat.le_of_ble_eq_true rfl) rfl rfl rfl (ctX3_spentBy (yl Y) g p4 (M107.1 31 1)  M107 q109 e110) rfl (Nat.le_of_ble_eq_true rfl) (Nat.le_of_ble_eq_true rfl) dX7_lay_98 ?_
      obtain ⟨g111, hh⟩ := gi_e hh
      obtain ⟨M112, e113, hh⟩ := lt_e hh
      refine aw_iast1 e113 E (Nat.le_of_ble_eq_true rfl) rfl g111 dX7_lay_101 ?_
      refine aw_aload_n E dX7_lay_102 0 rfl ?_
      refine aw_iload E dX7_lay_103 4 rfl ?_
      refine aw_aload_n E dX7_lay_105 0 rfl ?_
      refine aw_getR (q := 32) E flX7_9 (Nat.le_of_ble_eq_true rfl) rfl rfl dX7_lay_106 ?_
      refine aw_iload E dX7_lay_109 4 rfl ?_
      obtain ⟨g114, hh⟩ := gi_e hh
      refine aw_iald E (Nat.le_of_ble_eq_true rfl) rfl g114 dX7_lay_111 ?_
      refine aw_aload_n E dX7_lay_112 1 rfl ?_
      refine aw_aload_n E dX7_lay_113 2 rfl ?_
      refine aw_aload_n E dX7_lay_114 3 rfl ?_
      obtain ⟨q115, e116, hh⟩ := bd_e hh
      refine aw_callVv (S := []) E mvX7_price mlX7_67 (Nat.le_of_ble_eq_true rfl) rfl rfl rfl (ctX7_price (yl Y) g p4 (M112.1 32 (Int32.toNatClampNeg p4)) p1 hd1 M112 q115 e116) rfl (Nat.le_of_ble_eq_true rfl) (Nat.le_of_ble_eq_true rfl) dX7_lay_115 ?_
      refine aw_aload_n E dX7_lay_118 0 rfl ?_
      refine aw_iload E dX7_lay_119 4 rfl ?_
      refine aw_aload_n E dX7_lay_121 0 rfl ?_
      refine aw_getR (q := 33) E flX7_15 (Nat.le_of_ble_eq_true rfl) rfl rfl dX7_lay_122 ?_
      refine aw_iload E dX7_lay_125 4 rfl ?_
      obtain ⟨g117, hh⟩ := gi_e hh
      refine aw_iald E (Nat.le_of_ble_eq_true rfl) rfl g117 dX7_lay_127 ?_
      refine aw_aload_n E dX7_lay_128 1 rfl ?_
      refine aw_aload_n E dX7_lay_129 2 rfl ?_
      refine aw_aload_n E dX7_lay_130 3 rfl ?_
      obtain ⟨q118, e119, hh⟩ := bd_e hh
      refine aw_callVv (S := []) E mvX7_price mlX7_67 (Nat.le_of_ble_eq_true rfl) rfl rfl rfl (ctX7_price (yl Y) g p4 (q115.1 33 (Int32.toNatClampNeg p4)) p1 hd1 q115 q118 e119) rfl (Nat.le_of_ble_eq_true rfl) (Nat.le_of_ble_eq_true rfl) dX7_lay_131 ?_
      obtain ⟨x120, e121, hh⟩ := lt_e hh
      refine aw_iinc (v := x120) (L1 := [(4, .int x120), (0, .ref (wad (WX g) 31)), (1, .ref (wad (WX g) p1)), (2, .ref (wad (WX g) 4)), (3, .ref (wad (WX g) 14))]) E dX7_lay_134 4 rfl e121 (Nat.le_of_ble_eq_true rfl) rfl ?_
      refine aw_goto (tgt := 48) E dX7_lay_137 rfl ?_
      refine aw_sub (L1 := [(0, .ref (wad (WX g) 31)), (1, .ref (wad (WX g) p1)), (2, .ref (wad (WX g) 4)), (3, .ref (wad (WX g) 14)), (4, .int x120)]) [1, 2, 3, 4, 0] rfl ?_
      exact ih x120 q118 _ hh kx
set_option maxHeartbeats 4000000 in
set_option maxRecDepth 100000 in
theorem ctX7_lay (l : Launch) (g : CtxG) (a1 : Nat) (hd1 : isSet a1) (M : Mem) (r0 : Mem) (h : FX7_lay a1 M = some r0) : Ct l (WX g) yX7_lay cX7_lay 5 none 4 [.ref (wad (WX g) 31), .ref (wad (WX g) a1), .ref (wad (WX g) 4), .ref (wad (WX g) 14)] M (none, r0) := by
  refine Ct.of (by decide) (Nat.le_of_ble_eq_true rfl) (fun Y hY E => ?_)
  have E : EV Y (WX g) cX7_lay 5 none RX7 := E
  have h : FX7_lay a1 M = some r0 := h
  unfold FX7_lay at h
  show AW Y (WX g) _ 5 4 0 [(0, .ref (wad (WX g) 31)), (1, .ref (wad (WX g) a1)), (2, .ref (wad (WX g) 4)), (3, .ref (wad (WX g) 14))] [] M
  obtain ⟨r, hr⟩ : ∃ r : Option Value × Mem, r = (none, r0) := ⟨_, rfl⟩
  rw [← hr]
  refine aw_aload_n E dX7_lay_0 0 rfl ?_
  refine aw_aload_n E dX7_lay_1 1 rfl ?_
  refine aw_getI E flX7_27 hd1.1 hd1.2 rfl dX7_lay_2 ?_
  obtain ⟨M1, e2, h⟩ := lt_e h
  refine aw_putI1 e2 E flX7_33 (Nat.le_of_ble_eq_true rfl) rfl rfl nr_int dX7_lay_5 ?_
  refine aw_aload_n E dX7_lay_8 0 rfl ?_
  refine aw_aload_n E dX7_lay_9 1 rfl ?_
  refine aw_getI E flX7_34 hd1.1 hd1.2 rfl dX7_lay_10 ?_
  obtain ⟨M3, e4, h⟩ := lt_e h
  refine aw_putI1 e4 E flX7_37 (Nat.le_of_ble_eq_true rfl) rfl rfl nr_int dX7_lay_13 ?_
  refine aw_aload_n E dX7_lay_16 0 rfl ?_
  refine aw_aload_n E dX7_lay_17 1 rfl ?_
  refine aw_getI E flX7_38 hd1.1 hd1.2 rfl dX7_lay_18 ?_
  obtain ⟨M5, e6, h⟩ := lt_e h
  refine aw_putI1 e6 E flX7_41 (Nat.le_of_ble_eq_true rfl) rfl rfl nr_int dX7_lay_21 ?_
  refine aw_aload_n E dX7_lay_24 0 rfl ?_
  refine aw_aload_n E dX7_lay_25 1 rfl ?_
  refine aw_getI E flX7_42 hd1.1 hd1.2 rfl dX7_lay_26 ?_
  refine aw_bipush (v := 12) E dX7_lay_29 (by decide) ?_
  refine aw_mmin E mlX7_45 (Nat.le_of_ble_eq_true rfl) (Nat.le_of_ble_eq_true rfl) dX7_lay_31 ?_
  obtain ⟨M7, e8, h⟩ := lt_e h
  refine aw_putI1 e8 E flX7_51 (Nat.le_of_ble_eq_true rfl) rfl rfl nr_int dX7_lay_34 ?_
  refine aw_aload_n E dX7_lay_37 0 rfl ?_
  refine aw_getR (q := 35) E flX7_21 (Nat.le_of_ble_eq_true rfl) rfl rfl dX7_lay_38 ?_
  refine aw_iconst (v := 0) E dX7_lay_41 (by decide) ?_
  obtain ⟨q9, e10, h⟩ := bd_e h
  refine aw_callSv (S := []) E msJ7_fill_53178 mlX7_54 rfl (ctJ7_fill_53178 (yl Y) g 35 32 0 (Nat.le_of_ble_eq_true rfl) rfl M7 q9 e10) rfl (Nat.le_of_ble_eq_true rfl) (Nat.le_of_ble_eq_true rfl) dX7_lay_42 ?_
  refine aw_iconst (v := 0) E dX7_lay_45 (by decide) ?_
  refine aw_istore (L1 := [(4, .int 0), (0, .ref (wad (WX g) 31)), (1, .ref (wad (WX g) a1)), (2, .ref (wad (WX g) 4)), (3, .ref (wad (WX g) 14))]) E dX7_lay_46 (Nat.le_of_ble_eq_true rfl) rfl ?_
  obtain ⟨q11, e12, h⟩ := bd_e h
  refine aw_sub (L1 := [(0, .ref (wad (WX g) 31)), (1, .ref (wad (WX g) a1)), (2, .ref (wad (WX g) 4)), (3, .ref (wad (WX g) 14)), (4, .int 0)]) [1, 2, 3, 4, 0] rfl ?_
  refine lpX7_lay_48 E a1 hd1  FU 0 q9 q11 e12 ?_
  replace h := Option.some.inj h
  subst h
  exact aw_vret E dX7_lay_140 hr
def FX7_over (a1 : Int32) (a2 : Int32) (a3 : Int32) (M : Mem) : Option (Int32) :=
  ob (α := Bool) (if ((a3 >>> (a2 &&& 31)) &&& 1) = 0 then
    some false
  else
    ob (FX7_open a2 0 M) fun q10 =>
    if ((q10 >>> (a1 &&& 31)) &&& 1) = 0 then some false else some true) fun b1 =>
  lt (α := Int32) (if b1 = true then
    1
  else
    0) fun q3 =>
  if q3 = 0 then
    some 0
  else
    ob (FX7_across a1 a2 M) fun q6 =>
    some ((1 : Int32) <<< (q6 &&& 31))
set_option maxHeartbeats 4000000 in
set_option maxRecDepth 100000 in
theorem ctX7_over (l : Launch) (g : CtxG) (a1 : Int32) (a2 : Int32) (a3 : Int32) (M : Mem) (r0 : Int32) (h : FX7_over a1 a2 a3 M = some r0) : Ct l (WX g) yX7_over cX7_over 5 (some .int) 2 [.ref (wad (WX g) 31), .int a1, .int a2, .int a3] M (some (.int r0), M) := by
  refine Ct.of (by decide) (Nat.le_of_ble_eq_true rfl) (fun Y hY E => ?_)
  have E : EV Y (WX g) cX7_over 5 (some .int) RX7 := E
  have h : FX7_over a1 a2 a3 M = some r0 := h
  unfold FX7_over at h
  show AW Y (WX g) _ 5 2 0 [(0, .ref (wad (WX g) 31)), (1, .int a1), (2, .int a2), (3, .int a3)] [] M
  obtain ⟨r, hr⟩ : ∃ r : Option Value × Mem, r = (some (.int r0), M) := ⟨_, rfl⟩
  rw [← hr]
  refine aw_iload_n E dX7_over_0 3 rfl ?_
  refine aw_iload_n E dX7_over_1 2 rfl ?_
  refine aw_ishr E dX7_over_2 ?_
  refine aw_iconst (v := 1) E dX7_over_3 (by decide) ?_
  refine aw_iand E dX7_over_4 ?_
  obtain ⟨b1, e2, h⟩ := bd_e h
  obtain ⟨q3, e4, h⟩ := lt_e h
  have J5 : AW Y (WX g) r 5 2 26 [(0, .ref (wad (WX g) 31)), (1, .int a1), (2, .int a2)] [.int q3] M := by
    refine aw_istore (L1 := [(4, .int q3), (0, .ref (wad (WX g) 31)), (1, .int a1), (2, .int a2)]) E dX7_over_26 (Nat.le_of_ble_eq_true rfl) rfl ?_
    refine aw_iload E dX7_over_28 0 rfl ?_
    refine aw_if_eq (tgt := 44) E dX7_over_30 rfl (fun c30 => ?_) (fun c30 => ?_)
    ·
      replace h := ip c30 h
      refine aw_iconst (v := 0) E dX7_over_44 (by decide) ?_
      replace h := Option.some.inj h
      subst h
      exact aw_iret E dX7_over_45 hr
    ·
      replace h := iq c30 h
      refine aw_iconst (v := 1) E dX7_over_33 (by decide) ?_
      refine aw_aload_n E dX7_over_34 1 rfl ?_
      refine aw_iload_n E dX7_over_35 2 rfl ?_
      refine aw_iload_n E dX7_over_36 3 rfl ?_
      obtain ⟨q6, e7, h⟩ := bd_e h
      refine aw_callVi (S := [.int 1]) E mvX7_across mlX7_80 (Nat.le_of_ble_eq_true rfl) rfl rfl rfl (ctX7_across (yl Y) g a1 a2  M q6 e7) rfl (Nat.le_of_ble_eq_true rfl) (Nat.le_of_ble_eq_true rfl) dX7_over_37 ?_
      refine aw_ishl E dX7_over_40 ?_
      refine aw_goto (tgt := 45) E dX7_over_41 rfl ?_
      replace h := Option.some.inj h
      subst h
      exact aw_iret E dX7_over_45 hr
  have J8 : b1 = true → AW Y (WX g) r 5 2 21 [(0, .ref (wad (WX g) 31)), (1, .int a1), (2, .int a2), (3, .int a3)] [] M := fun hb => by
    replace e4 := ip hb e4
    refine aw_iconst (v := 1) E dX7_over_21 (by decide) ?_
    refine aw_goto (tgt := 26) E dX7_over_22 rfl ?_
    refine aw_sub (L1 := [(0, .ref (wad (WX g) 31)), (1, .int a1), (2, .int a2)]) [0, 1, 2] rfl ?_
    subst e4
    exact J5
  have J9 : b1 = false → AW Y (WX g) r 5 2 25 [(0, .ref (wad (WX g) 31)), (1, .int a1), (2, .int a2), (3, .int a3)] [] M := fun hb => by
    replace e4 := iq (bf hb) e4
    refine aw_iconst (v := 0) E dX7_over_25 (by decide) ?_
    refine aw_sub (L1 := [(0, .ref (wad (WX g) 31)), (1, .int a1), (2, .int a2)]) [0, 1, 2] rfl ?_
    subst e4
    exact J5
  refine aw_if_eq (tgt := 25) E dX7_over_5 rfl (fun c5 => ?_) (fun c5 => ?_)
  ·
    replace e2 := ip c5 e2
    replace e2 := Option.some.inj e2
    subst e2
    exact J9 rfl
  ·
    replace e2 := iq c5 e2
    refine aw_aload_n E dX7_over_8 0 rfl ?_
    refine aw_iload_n E dX7_over_9 2 rfl ?_
    refine aw_iconst (v := 0) E dX7_over_10 (by decide) ?_
    obtain ⟨q10, e11, e2⟩ := bd_e e2
    refine aw_callVi (S := []) E mvX7_open mlX7_110 (Nat.le_of_ble_eq_true rfl) rfl rfl rfl (ctX7_open (yl Y) g a2 0  M q10 e11) rfl (Nat.le_of_ble_eq_true rfl) (Nat.le_of_ble_eq_true rfl) dX7_over_11 ?_
    refine aw_iload_n E dX7_over_14 1 rfl ?_
    refine aw_ishr E dX7_over_15 ?_
    refine aw_iconst (v := 1) E dX7_over_16 (by decide) ?_
    refine aw_iand E dX7_over_17 ?_
    refine aw_if_eq (tgt := 25) E dX7_over_18 rfl (fun c18 => ?_) (fun c18 => ?_)
    ·
      replace e2 := ip c18 e2
      replace e2 := Option.some.inj e2
      subst e2
      exact J9 rfl
    ·
      replace e2 := iq c18 e2
      replace e2 := Option.some.inj e2
      subst e2
      exact J8 rfl
def FX7_reached_L17 : Nat → Int32 → Int32 → Mem → Option (Int32)
  | 0, _, _, _ => none
  | f + 1, p1, p3, M =>
    if (M.1 31 1) ≤ p3 then
      some p1
    else
      if (((M.1 31 2) >>> (p3 &&& 31)) &&& 1) = 0 then
        gi p3 13 <|
        ob (FX7_over p3 (M.1 32 (Int32.toNatClampNeg p3)) p1 M) fun q102 =>
        gi p3 13 <|
        ob (FX7_over p3 (M.1 33 (Int32.toNatClampNeg p3)) p1 M) fun q105 =>
        lt (α := Int32) (p1 ||| (q102 ||| q105)) fun x107 =>
        lt (α := Int32) (p3 + 1) fun x109 =>
        FX7_reached_L17 f  x107 x109 M
      else
        lt (α := Int32) (p3 + 1) fun x111 =>
        FX7_reached_L17 f  p1 x111 M
def FX7_reached_L9 : Nat → Int32 → Int32 → Mem → Option (Int32)
  | 0, _, _, _ => none
  | f + 1, p1, p2, M =>
    if 9 ≤ p2 then
      some p1
    else
      ob (FX7_reached_L17 FU p1 0 M) fun q101 =>
      lt (α := Int32) (p2 + 1) fun x103 =>
      FX7_reached_L9 f  q101 x103 M
def FX7_reached  (M : Mem) : Option (Int32) :=
  lt (α := Int32) ((1 : Int32) <<< ((M.1 31 0) &&& 31)) fun x1 =>
  ob (FX7_reached_L9 FU x1 1 M) fun q3 =>
  some q3
set_option maxHeartbeats 4000000 in
set_option maxRecDepth 100000 in
theorem lpX7_reached_17 {Y : CtxM} {g : CtxG} {r : Option Value × Mem} (E : EV Y (WX g) cX7_reached 4 (some .int) RX7) (p2 : Int32) : ∀ (f : Nat) (p1 : Int32) (p3 : Int32) (M : Mem) (q : Int32), FX7_reached_L17 f  p1 p3 M = some q → AW Y (WX g) r 4 3 73 [(0, .ref (wad (WX g) 31)), (1, .int q), (2, .int p2)] [] M → AW Y (WX g) r 4 3 17 [(0, .ref (wad (WX g) 31)), (1, .int p1), (2, .int p2), (3, .int p3)] [] M := by
  intro f
  induction f with
  | zero => intro p1 p3 M q hh; exact absurd hh (fun z => nomatch (show (none : Option (Int32)) = some q from z))
  | succ f ih =>
    intro p1 p3 M q hh kx
    rw [FX7_reached_L17] at hh
    refine aw_iload_n E dX7_reached_17 3 rfl ?_
    refine aw_aload_n E dX7_reached_18 0 rfl ?_
    refine aw_getI E flX7_51 (Nat.le_of_ble_eq_true rfl) rfl rfl dX7_reached_19 ?_
    refine aw_icmp_ge (tgt := 73) E dX7_reached_22 rfl (fun c22 => ?_) (fun c22 => ?_)
    ·
      replace hh := ip c22 hh
      refine aw_sub (L1 := [(0, .ref (wad (WX g) 31)), (1, .int p1), (2, .int p2)]) [0, 1, 2] rfl ?_
      replace hh := Option.some.inj hh
      subst hh
      exact kx
    ·
      replace hh := iq c22 hh
      refine aw_aload_n E dX7_reached_25 0 rfl ?_
      refine aw_getI E flX7_37 (Nat.le_of_ble_eq_true rfl) rfl rfl dX7_reached_26 ?_
      refine aw_iload_n E dX7_reached_29 3 rfl ?_
      refine aw_ishr E dX7_reached_30 ?_
      refine aw_iconst (v := 1) E dX7_reached_31 (by decide) ?_
      refine aw_iand E dX7_reached_32 ?_
      refine aw_if_eq (tgt := 39) E dX7_reached_33 rfl (fun c33 => ?_) (fun c33 => ?_)
      ·
        replace hh := ip c33 hh
        refine aw_iload_n E dX7_reached_39 1 rfl ?_
        refine aw_aload_n E dX7_reached_40 0 rfl ?_
        refine aw_iload_n E dX7_reached_41 3 rfl ?_
        refine aw_aload_n E dX7_reached_42 0 rfl ?_
        refine aw_getR (q := 32) E flX7_9 (Nat.le_of_ble_eq_true rfl) rfl rfl dX7_reached_43 ?_
        refine aw_iload_n E dX7_reached_46 3 rfl ?_
        obtain ⟨g101, hh⟩ := gi_e hh
        refine aw_iald E (Nat.le_of_ble_eq_true rfl) rfl g101 dX7_reached_47 ?_
        refine aw_iload_n E dX7_reached_48 1 rfl ?_
        obtain ⟨q102, e103, hh⟩ := bd_e hh
        refine aw_callVi (S := [.int p1]) E mvX7_over mlX7_116 (Nat.le_of_ble_eq_true rfl) rfl rfl rfl (ctX7_over (yl Y) g p3 (M.1 32 (Int32.toNatClampNeg p3)) p1  M q102 e103) rfl (Nat.le_of_ble_eq_true rfl) (Nat.le_of_ble_eq_true rfl) dX7_reached_49 ?_
        refine aw_aload_n E dX7_reached_52 0 rfl ?_
        refine aw_iload_n E dX7_reached_53 3 rfl ?_
        refine aw_aload_n E dX7_reached_54 0 rfl ?_
        refine aw_getR (q := 33) E flX7_15 (Nat.le_of_ble_eq_true rfl) rfl rfl dX7_reached_55 ?_
        refine aw_iload_n E dX7_reached_58 3 rfl ?_
        obtain ⟨g104, hh⟩ := gi_e hh
        refine aw_iald E (Nat.le_of_ble_eq_true rfl) rfl g104 dX7_reached_59 ?_
        refine aw_iload_n E dX7_reached_60 1 rfl ?_
        obtain ⟨q105, e106, hh⟩ := bd_e hh
        refine aw_callVi (S := [.int q102, .int p1]) E mvX7_over mlX7_116 (Nat.le_of_ble_eq_true rfl) rfl rfl rfl (ctX7_over (yl Y) g p3 (M.1 33 (Int32.toNatClampNeg p3)) p1  M q105 e106) rfl (Nat.le_of_ble_eq_true rfl) (Nat.le_of_ble_eq_true rfl) dX7_reached_61 ?_
        refine aw_ior E dX7_reached_64 ?_
        refine aw_ior E dX7_reached_65 ?_
        obtain ⟨x107, e108, hh⟩ := lt_e hh
        refine aw_nmI e108 ?_
        refine aw_istore_n (L1 := [(1, .int x107), (0, .ref (wad (WX g) 31)), (2, .int p2), (3, .int p3)]) E dX7_reached_66 (Nat.le_of_ble_eq_true rfl) rfl ?_
        obtain ⟨x109, e110, hh⟩ := lt_e hh
        refine aw_iinc (v := x109) (L1 := [(3, .int x109), (1, .int x107), (0, .ref (wad (WX g) 31)), (2, .int p2)]) E dX7_reached_67 3 rfl e110 (Nat.le_of_ble_eq_true rfl) rfl ?_
        refine aw_goto (tgt := 17) E dX7_reached_70 rfl ?_
        refine aw_sub (L1 := [(0, .ref (wad (WX g) 31)), (1, .int x107), (2, .int p2), (3, .int x109)]) [2, 1, 3, 0] rfl ?_
        exact ih x107 x109 M _ hh kx
      ·
        replace hh := iq c33 hh
        refine aw_goto (tgt := 67) E dX7_reached_36 rfl ?_
        obtain ⟨x111, e112, hh⟩ := lt_e hh
        refine aw_iinc (v := x111) (L1 := [(3, .int x111), (0, .ref (wad (WX g) 31)), (1, .int p1), (2, .int p2)]) E dX7_reached_67 3 rfl e112 (Nat.le_of_ble_eq_true rfl) rfl ?_
        refine aw_goto (tgt := 17) E dX7_reached_70 rfl ?_
        refine aw_sub (L1 := [(0, .ref (wad (WX g) 31)), (1, .int p1), (2, .int p2), (3, .int x111)]) [1, 2, 3, 0] rfl ?_
        exact ih p1 x111 M _ hh kx
set_option maxHeartbeats 4000000 in
set_option maxRecDepth 100000 in
theorem lpX7_reached_9 {Y : CtxM} {g : CtxG} {r : Option Value × Mem} (E : EV Y (WX g) cX7_reached 4 (some .int) RX7) : ∀ (f : Nat) (p1 : Int32) (p2 : Int32) (M : Mem) (q : Int32), FX7_reached_L9 f  p1 p2 M = some q → AW Y (WX g) r 4 3 79 [(1, .int q)] [] M → AW Y (WX g) r 4 3 9 [(0, .ref (wad (WX g) 31)), (1, .int p1), (2, .int p2)] [] M := by
  intro f
  induction f with
  | zero => intro p1 p2 M q hh; exact absurd hh (fun z => nomatch (show (none : Option (Int32)) = some q from z))
  | succ f ih =>
    intro p1 p2 M q hh kx
    rw [FX7_reached_L9] at hh
    refine aw_iload_n E dX7_reached_9 2 rfl ?_
    refine aw_bipush (v := 9) E dX7_reached_10 (by decide) ?_
    refine aw_icmp_ge (tgt := 79) E dX7_reached_12 rfl (fun c12 => ?_) (fun c12 => ?_)
    ·
      replace hh := ip c12 hh
      refine aw_sub (L1 := [(1, .int p1)]) [1] rfl ?_
      replace hh := Option.some.inj hh
      subst hh
      exact kx
    ·
      replace hh := iq c12 hh
      refine aw_iconst (v := 0) E dX7_reached_15 (by decide) ?_
      refine aw_istore_n (L1 := [(3, .int 0), (0, .ref (wad (WX g) 31)), (1, .int p1), (2, .int p2)]) E dX7_reached_16 (Nat.le_of_ble_eq_true rfl) rfl ?_
      obtain ⟨q101, e102, hh⟩ := bd_e hh
      refine aw_sub (L1 := [(0, .ref (wad (WX g) 31)), (1, .int p1), (2, .int p2), (3, .int 0)]) [1, 2, 3, 0] rfl ?_
      refine lpX7_reached_17 E   p2 FU p1 0 M q101 e102 ?_
      obtain ⟨x103, e104, hh⟩ := lt_e hh
      refine aw_iinc (v := x103) (L1 := [(2, .int x103), (0, .ref (wad (WX g) 31)), (1, .int q101)]) E dX7_reached_73 2 rfl e104 (Nat.le_of_ble_eq_true rfl) rfl ?_
      refine aw_goto (tgt := 9) E dX7_reached_76 rfl ?_
      refine aw_sub (L1 := [(0, .ref (wad (WX g) 31)), (1, .int q101), (2, .int x103)]) [1, 2, 0] rfl ?_
      exact ih q101 x103 M _ hh kx
set_option maxHeartbeats 4000000 in
set_option maxRecDepth 100000 in
theorem ctX7_reached (l : Launch) (g : CtxG)  (M : Mem) (r0 : Int32) (h : FX7_reached M = some r0) : Ct l (WX g) yX7_reached cX7_reached 4 (some .int) 3 [.ref (wad (WX g) 31)] M (some (.int r0), M) := by
  refine Ct.of (by decide) (Nat.le_of_ble_eq_true rfl) (fun Y hY E => ?_)
  have E : EV Y (WX g) cX7_reached 4 (some .int) RX7 := E
  have h : FX7_reached  M = some r0 := h
  unfold FX7_reached at h
  show AW Y (WX g) _ 4 3 0 [(0, .ref (wad (WX g) 31))] [] M
  obtain ⟨r, hr⟩ : ∃ r : Option Value × Mem, r = (some (.int r0), M) := ⟨_, rfl⟩
  rw [← hr]
  refine aw_iconst (v := 1) E dX7_reached_0 (by decide) ?_
  refine aw_aload_n E dX7_reached_1 0 rfl ?_
  refine aw_getI E flX7_33 (Nat.le_of_ble_eq_true rfl) rfl rfl dX7_reached_2 ?_
  refine aw_ishl E dX7_reached_5 ?_
  obtain ⟨x1, e2, h⟩ := lt_e h
  refine aw_nmI e2 ?_
  refine aw_istore_n (L1 := [(1, .int x1), (0, .ref (wad (WX g) 31))]) E dX7_reached_6 (Nat.le_of_ble_eq_true rfl) rfl ?_
  refine aw_iconst (v := 1) E dX7_reached_7 (by decide) ?_
  refine aw_istore_n (L1 := [(2, .int 1), (1, .int x1), (0, .ref (wad (WX g) 31))]) E dX7_reached_8 (Nat.le_of_ble_eq_true rfl) rfl ?_
  obtain ⟨q3, e4, h⟩ := bd_e h
  refine aw_sub (L1 := [(0, .ref (wad (WX g) 31)), (1, .int x1), (2, .int 1)]) [2, 1, 0] rfl ?_
  refine lpX7_reached_9 E    FU x1 1 M q3 e4 ?_
  refine aw_iload_n E dX7_reached_79 0 rfl ?_
  replace h := Option.some.inj h
  subst h
  exact aw_iret E dX7_reached_80 hr
