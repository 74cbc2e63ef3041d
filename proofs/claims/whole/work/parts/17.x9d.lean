/-! PRINTED by wip/gen: pure functions of the methods, and that the machine does what they say -/
def FX9_lowest_L16 : Nat → Int64 → Int64 → Option (Int64)
  | 0, _, _ => none
  | f + 1, p5, p7 =>
    if (lg_cmp p7 0) = 0 then
      some p5
    else
      gd (¬ p7 = 0) <|
      lt (α := Int64) (p5 - p5 / p7 * p7) fun x102 =>
      FX9_lowest_L16 f  p7 x102
def FX9_lowest (a0 : Int64) (a2 : Int64) (a4 : Int32) : Option (Int64) :=
  if (lg_cmp a0 0) = 0 then
    some (a4.toInt64)
  else
    ob (FX9_lowest_L16 FU a0 a2) fun q1 =>
    lt (α := Int64) (if a4 = 0 then
      a0
    else
      a2) fun q3 =>
    gd (¬ q1 = 0) <|
    some (q3 / q1)
set_option maxHeartbeats 4000000 in
set_option maxRecDepth 100000 in
theorem lpX9_lowest_16 {Y : CtxM} {g : CtxG} {r : Option Value × Mem} (E : EV Y (WY g) cX9_lowest 11 (some .long) RX9) (p0 : Int64) (p2 : Int64) (p4 : Int32) : ∀ (f : Nat) (p5 : Int64) (p7 : Int64) (M : Mem) (q : Int64), FX9_lowest_L16 f  p5 p7 = some q → AW Y (WY g) r 11 1 41 [(0, .long p0), (2, .long p2), (4, .int p4), (5, .long q)] [] M → AW Y (WY g) r 11 1 16 [(0, .long p0), (2, .long p2), (4, .int p4), (5, .long p5), (7, .long p7)] [] M := by
  intro f
  induction f with
  | zero => intro p5 p7 M q hh; exact absurd hh (fun z => nomatch (show (none : Option (Int64)) = some q from z))
  | succ f ih =>
    intro p5 p7 M q hh kx
    rw [FX9_lowest_L16] at hh
    refine aw_lload E dX9_lowest_16 4 rfl ?_
    refine aw_lconst (v := 0) E dX9_lowest_18 (by decide) ?_
    refine aw_lcmp E dX9_lowest_19 ?_
    refine aw_if_eq (tgt := 41) E dX9_lowest_20 rfl (fun c20 => ?_) (fun c20 => ?_)
    ·
      replace hh := ip c20 hh
      refine aw_sub (L1 := [(0, .long p0), (2, .long p2), (4, .int p4), (5, .long p5)]) [0, 1, 2, 3] rfl ?_
      replace hh := Option.some.inj hh
      subst hh
      exact kx
    ·
      replace hh := iq c20 hh
      refine aw_lload E dX9_lowest_23 3 rfl ?_
      refine aw_lload E dX9_lowest_25 4 rfl ?_
      obtain ⟨g101, hh⟩ := gd_e hh
      refine aw_lrem E dX9_lowest_27 g101 ?_
      obtain ⟨x102, e103, hh⟩ := lt_e hh
      refine aw_nmJ e103 ?_
      refine aw_lstore (L1 := [(9, .long x102), (0, .long p0), (2, .long p2), (4, .int p4), (5, .long p5), (7, .long p7)]) E dX9_lowest_28 (Nat.le_of_ble_eq_true rfl) rfl ?_
      refine aw_lload E dX9_lowest_30 5 rfl ?_
      refine aw_lstore (L1 := [(5, .long p7), (9, .long x102), (0, .long p0), (2, .long p2), (4, .int p4), (7, .long p7)]) E dX9_lowest_32 (Nat.le_of_ble_eq_true rfl) rfl ?_
      refine aw_lload E dX9_lowest_34 1 rfl ?_
      refine aw_lstore (L1 := [(7, .long x102), (5, .long p7), (9, .long x102), (0, .long p0), (2, .long p2), (4, .int p4)]) E dX9_lowest_36 (Nat.le_of_ble_eq_true rfl) rfl ?_
      refine aw_goto (tgt := 16) E dX9_lowest_38 rfl ?_
      refine aw_sub (L1 := [(0, .long p0), (2, .long p2), (4, .int p4), (5, .long p7), (7, .long x102)]) [3, 4, 5, 1, 0] rfl ?_
      exact ih p7 x102 M _ hh kx
set_option maxHeartbeats 4000000 in
set_option maxRecDepth 100000 in
theorem ctX9_lowest (l : Launch) (g : CtxG) (a0 : Int64) (a2 : Int64) (a4 : Int32) (M : Mem) (r0 : Int64) (h : FX9_lowest a0 a2 a4 = some r0) : Ct l (WY g) yX9_lowest cX9_lowest 11 (some .long) 1 [.long a0, .long a2, .int a4] M (some (.long r0), M) := by
  refine Ct.of (by decide) (Nat.le_of_ble_eq_true rfl) (fun Y hY E => ?_)
  have E : EV Y (WY g) cX9_lowest 11 (some .long) RX9 := E
  have h : FX9_lowest a0 a2 a4 = some r0 := h
  unfold FX9_lowest at h
  show AW Y (WY g) _ 11 1 0 [(0, .long a0), (2, .long a2), (4, .int a4)] [] M
  obtain ⟨r, hr⟩ : ∃ r : Option Value × Mem, r = (some (.long r0), M) := ⟨_, rfl⟩
  rw [← hr]
  refine aw_lload_n E dX9_lowest_0 0 rfl ?_
  refine aw_lconst (v := 0) E dX9_lowest_1 (by decide) ?_
  refine aw_lcmp E dX9_lowest_2 ?_
  refine aw_if_ne (tgt := 10) E dX9_lowest_3 rfl (fun c3 => ?_) (fun c3 => ?_)
  ·
    replace h := iq c3 h
    refine aw_lload_n E dX9_lowest_10 0 rfl ?_
    refine aw_lstore (L1 := [(5, .long a0), (0, .long a0), (2, .long a2), (4, .int a4)]) E dX9_lowest_11 (Nat.le_of_ble_eq_true rfl) rfl ?_
    refine aw_lload_n E dX9_lowest_13 2 rfl ?_
    refine aw_lstore (L1 := [(7, .long a2), (5, .long a0), (0, .long a0), (2, .long a2), (4, .int a4)]) E dX9_lowest_14 (Nat.le_of_ble_eq_true rfl) rfl ?_
    obtain ⟨q1, e2, h⟩ := bd_e h
    refine aw_sub (L1 := [(0, .long a0), (2, .long a2), (4, .int a4), (5, .long a0), (7, .long a2)]) [2, 3, 4, 1, 0] rfl ?_
    refine lpX9_lowest_16 E   a0 a2 a4 FU a0 a2 M q1 e2 ?_
    refine aw_iload E dX9_lowest_41 2 rfl ?_
    obtain ⟨q3, e4, h⟩ := lt_e h
    have J5 : AW Y (WY g) r 11 1 51 [(5, .long q1)] [.long q3] M := by
      refine aw_lload E dX9_lowest_51 0 rfl ?_
      obtain ⟨g6, h⟩ := gd_e h
      refine aw_ldiv E dX9_lowest_53 g6 ?_
      replace h := Option.some.inj h
      subst h
      exact aw_lret E dX9_lowest_54 hr
    refine aw_if_ne (tgt := 50) E dX9_lowest_43 rfl (fun c43 => ?_) (fun c43 => ?_)
    ·
      replace e4 := iq c43 e4
      refine aw_lload_n E dX9_lowest_50 1 rfl ?_
      refine aw_sub (L1 := [(5, .long q1)]) [3] rfl ?_
      subst e4
      exact J5
    ·
      replace e4 := ip c43 e4
      refine aw_lload_n E dX9_lowest_46 0 rfl ?_
      refine aw_goto (tgt := 51) E dX9_lowest_47 rfl ?_
      refine aw_sub (L1 := [(5, .long q1)]) [3] rfl ?_
      subst e4
      exact J5
  ·
    replace h := ip c3 h
    refine aw_iload E dX9_lowest_6 2 rfl ?_
    refine aw_i2l E dX9_lowest_8 ?_
    replace h := Option.some.inj h
    subst h
    exact aw_lret E dX9_lowest_9 hr
def FX9_never (a1 : Int32) (M : Mem) : Option (Int32 × Mem) :=
  if (FX9_in a1 0 2) = 0 then
    some ((-2), M)
  else
    ob (FX9_ringedNow M) fun q1 =>
    ob (FX9_joined q1.2) fun q3 =>
    if a1 = 0 then
      some (q1.1, q1.2)
    else
      if a1 = 1 then
        some (q3 &&& (q1.1 ^^^ (-1)), q1.2)
      else
        some ((511 &&& (((1 : Int32) <<< ((q1.2.1 0 0) &&& 31)) ^^^ (-1))) &&& (q3 ^^^ (-1)), q1.2)
set_option maxHeartbeats 4000000 in
set_option maxRecDepth 100000 in
theorem ctX9_never (l : Launch) (g : CtxG) (a1 : Int32) (M : Mem) (r0 : Int32 × Mem) (h : FX9_never a1 M = some r0) : Ct l (WY g) yX9_never cX9_never 4 (some .int) 6 [.ref (wad (WY g) 0), .int a1] M (some (.int r0.1), r0.2) := by
  refine Ct.of (by decide) (Nat.le_of_ble_eq_true rfl) (fun Y hY E => ?_)
  have E : EV Y (WY g) cX9_never 4 (some .int) RX9 := E
  have h : FX9_never a1 M = some r0 := h
  unfold FX9_never at h
  show AW Y (WY g) _ 4 6 0 [(0, .ref (wad (WY g) 0)), (1, .int a1)] [] M
  obtain ⟨r, hr⟩ : ∃ r : Option Value × Mem, r = (some (.int r0.1), r0.2) := ⟨_, rfl⟩
  rw [← hr]
  refine aw_iload_n E dX9_never_0 1 rfl ?_
  refine aw_iconst (v := 0) E dX9_never_1 (by decide) ?_
  refine aw_iconst (v := 2) E dX9_never_2 (by decide) ?_
  refine aw_callSi (S := []) E msX9_in mlX9_88 rfl (ctX9_in (yl Y) g a1 0 2  M ) rfl (Nat.le_of_ble_eq_true rfl) (Nat.le_of_ble_eq_true rfl) dX9_never_3 ?_
  refine aw_if_ne (tgt := 12) E dX9_never_6 rfl (fun c6 => ?_) (fun c6 => ?_)
  ·
    replace h := iq c6 h
    refine aw_aload_n E dX9_never_12 0 rfl ?_
    obtain ⟨q1, e2, h⟩ := bd_e h
    refine aw_callVi (S := []) E mvX9_ringedNow mlX9_279 (Nat.le_of_ble_eq_true rfl) rfl rfl rfl (ctX9_ringedNow (yl Y) g   M q1 e2) rfl (Nat.le_of_ble_eq_true rfl) (Nat.le_of_ble_eq_true rfl) dX9_never_13 ?_
    refine aw_istore_n (L1 := [(2, .int q1.1), (0, .ref (wad (WY g) 0)), (1, .int a1)]) E dX9_never_16 (Nat.le_of_ble_eq_true rfl) rfl ?_
    refine aw_aload_n E dX9_never_17 1 rfl ?_
    obtain ⟨q3, e4, h⟩ := bd_e h
    refine aw_callVi (S := []) E mvX9_joined mlX9_282 (Nat.le_of_ble_eq_true rfl) rfl rfl rfl (ctX9_joined (yl Y) g   q1.2 q3 e4) rfl (Nat.le_of_ble_eq_true rfl) (Nat.le_of_ble_eq_true rfl) dX9_never_18 ?_
    refine aw_istore_n (L1 := [(3, .int q3), (2, .int q1.1), (0, .ref (wad (WY g) 0)), (1, .int a1)]) E dX9_never_21 (Nat.le_of_ble_eq_true rfl) rfl ?_
    refine aw_iload_n E dX9_never_22 3 rfl ?_
    refine aw_if_ne (tgt := 30) E dX9_never_23 rfl (fun c23 => ?_) (fun c23 => ?_)
    ·
      replace h := iq c23 h
      refine aw_iload_n E dX9_never_30 3 rfl ?_
      refine aw_iconst (v := 1) E dX9_never_31 (by decide) ?_
      refine aw_icmp_ne (tgt := 43) E dX9_never_32 rfl (fun c32 => ?_) (fun c32 => ?_)
      ·
        replace h := iq c32 h
        refine aw_sipush (v := 511) E dX9_never_43 (by decide) ?_
        refine aw_iconst (v := 1) E dX9_never_46 (by decide) ?_
        refine aw_aload_n E dX9_never_47 2 rfl ?_
        refine aw_getI E flX9_99 (Nat.le_of_ble_eq_true rfl) rfl rfl dX9_never_48 ?_
        refine aw_ishl E dX9_never_51 ?_
        refine aw_iconst (v := (-1)) E dX9_never_52 (by decide) ?_
        refine aw_ixor E dX9_never_53 ?_
        refine aw_iand E dX9_never_54 ?_
        refine aw_iload_n E dX9_never_55 0 rfl ?_
        refine aw_iconst (v := (-1)) E dX9_never_56 (by decide) ?_
        refine aw_ixor E dX9_never_57 ?_
        refine aw_iand E dX9_never_58 ?_
        replace h := Option.some.inj h
        subst h
        exact aw_iret E dX9_never_59 hr
      ·
        replace h := ip c32 h
        refine aw_iload_n E dX9_never_35 0 rfl ?_
        refine aw_iload_n E dX9_never_36 1 rfl ?_
        refine aw_iconst (v := (-1)) E dX9_never_37 (by decide) ?_
        refine aw_ixor E dX9_never_38 ?_
        refine aw_iand E dX9_never_39 ?_
        refine aw_goto (tgt := 59) E dX9_never_40 rfl ?_
        replace h := Option.some.inj h
        subst h
        exact aw_iret E dX9_never_59 hr
    ·
      replace h := ip c23 h
      refine aw_iload_n E dX9_never_26 1 rfl ?_
      refine aw_goto (tgt := 59) E dX9_never_27 rfl ?_
      replace h := Option.some.inj h
      subst h
      exact aw_iret E dX9_never_59 hr
  ·
    replace h := ip c6 h
    refine aw_bipush (v := (-2)) E dX9_never_9 (by decide) ?_
    replace h := Option.some.inj h
    subst h
    exact aw_iret E dX9_never_11 hr
def FX9_newly_L24 : Nat → Int32 → Int32 → Int32 → Int32 → Int32 → Int32 → Int32 → Mem → Option (Int32 × Int32 × Int32)
  | 0, _, _, _, _, _, _, _, _ => none
  | f + 1, p1, p2, p3, p4, p5, p6, p7, M =>
    if 9 ≤ p7 then
      some (p3, p4, p5)
    else
      lt (α := Bool) (if ((p2 >>> (p7 &&& 31)) &&& 1) = 1 then if ((p6 >>> (p7 &&& 31)) &&& 1) = 0 then true else false else false) fun b101 =>
      if b101 = true then
        ob (FX9_joinedTo p7 p1 M) fun q105 =>
        lt (α := Int32) (p6 ||| q105) fun x107 =>
        lt (α := Int32) (p3 + 1) fun x109 =>
        ob (FX9_bondsAt q105 p1 M) fun q111 =>
        lt (α := Int32) (if q111 = 0 then
          1
        else
          0) fun q113 =>
        lt (α := Int32) (p4 + q113) fun x116 =>
        ob (FX9_bondsAt q105 p1 M) fun q118 =>
        lt (α := Int32) (if q118 = 1 then
          1
        else
          0) fun q120 =>
        lt (α := Int32) (p5 + q120) fun x123 =>
        lt (α := Int32) (p7 + 1) fun x125 =>
        FX9_newly_L24 f p1 p2 x109 x116 x123 x107 x125 M
      else
        lt (α := Int32) (p7 + 1) fun x127 =>
        FX9_newly_L24 f p1 p2 p3 p4 p5 p6 x127 M
def FX9_newly  (M : Mem) : Option (Int32) :=
  ob (FX9_bonds M) fun q1 =>
  ob (FX9_built M) fun q3 =>
  ob (FX9_newly_L24 FU q1 q3 0 0 0 0 0 M) fun q5 =>
  if 1 < q5.1 then
    some (q5.2.1 + ((q5.2.2 + 1) / 2))
  else
    some 0
set_option maxHeartbeats 4000000 in
set_option maxRecDepth 100000 in
theorem lpX9_newly_24 {Y : CtxM} {g : CtxG} {r : Option Value × Mem} (E : EV Y (WY g) cX9_newly 9 (some .int) RX9) (p1 : Int32) (p2 : Int32) : ∀ (f : Nat) (p3 : Int32) (p4 : Int32) (p5 : Int32) (p6 : Int32) (p7 : Int32) (M : Mem) (q : Int32 × Int32 × Int32), FX9_newly_L24 f p1 p2 p3 p4 p5 p6 p7 M = some q → AW Y (WY g) r 9 3 117 [(3, .int q.1), (4, .int q.2.1), (5, .int q.2.2)] [] M → AW Y (WY g) r 9 3 24 [(0, .ref (wad (WY g) 0)), (1, .int p1), (2, .int p2), (3, .int p3), (4, .int p4), (5, .int p5), (6, .int p6), (7, .int p7)] [] M := by
  intro f
  induction f with
  | zero => intro p3 p4 p5 p6 p7 M q hh; exact absurd hh (fun z => nomatch (show (none : Option (Int32 × Int32 × Int32)) = some q from z))
  | succ f ih =>
    intro p3 p4 p5 p6 p7 M q hh kx
    rw [FX9_newly_L24] at hh
    refine aw_iload E dX9_newly_24 7 rfl ?_
    refine aw_bipush (v := 9) E dX9_newly_26 (by decide) ?_
    refine aw_icmp_ge (tgt := 117) E dX9_newly_28 rfl (fun c28 => ?_) (fun c28 => ?_)
    ·
      replace hh := ip c28 hh
      refine aw_sub (L1 := [(3, .int p3), (4, .int p4), (5, .int p5)]) [3, 4, 5] rfl ?_
      replace hh := Option.some.inj hh
      subst hh
      exact kx
    ·
      replace hh := iq c28 hh
      refine aw_iload_n E dX9_newly_31 2 rfl ?_
      refine aw_iload E dX9_newly_32 7 rfl ?_
      refine aw_ishr E dX9_newly_34 ?_
      refine aw_iconst (v := 1) E dX9_newly_35 (by decide) ?_
      refine aw_iand E dX9_newly_36 ?_
      refine aw_iconst (v := 1) E dX9_newly_37 (by decide) ?_
      obtain ⟨b101, e102, hh⟩ := lt_e hh
      have J103 : b101 = true → AW Y (WY g) r 9 3 51 [(0, .ref (wad (WY g) 0)), (1, .int p1), (2, .int p2), (3, .int p3), (4, .int p4), (5, .int p5), (6, .int p6), (7, .int p7)] [] M := fun hb => by
        replace hh := ip hb hh
        refine aw_aload_n E dX9_newly_51 0 rfl ?_
        refine aw_iload E dX9_newly_52 7 rfl ?_
        refine aw_iload_n E dX9_newly_54 1 rfl ?_
        obtain ⟨q105, e106, hh⟩ := bd_e hh
        refine aw_callVi (S := []) E mvX9_joinedTo mlX9_291 (Nat.le_of_ble_eq_true rfl) rfl rfl rfl (ctX9_joinedTo (yl Y) g p7 p1  M q105 e106) rfl (Nat.le_of_ble_eq_true rfl) (Nat.le_of_ble_eq_true rfl) dX9_newly_55 ?_
        refine aw_istore (L1 := [(8, .int q105), (0, .ref (wad (WY g) 0)), (1, .int p1), (2, .int p2), (3, .int p3), (4, .int p4), (5, .int p5), (6, .int p6), (7, .int p7)]) E dX9_newly_58 (Nat.le_of_ble_eq_true rfl) rfl ?_
        refine aw_iload E dX9_newly_60 7 rfl ?_
        refine aw_iload E dX9_newly_62 0 rfl ?_
        refine aw_ior E dX9_newly_64 ?_
        obtain ⟨x107, e108, hh⟩ := lt_e hh
        refine aw_nmI e108 ?_
        refine aw_istore (L1 := [(6, .int x107), (8, .int q105), (0, .ref (wad (WY g) 0)), (1, .int p1), (2, .int p2), (3, .int p3), (4, .int p4), (5, .int p5), (7, .int p7)]) E dX9_newly_65 (Nat.le_of_ble_eq_true rfl) rfl ?_
        obtain ⟨x109, e110, hh⟩ := lt_e hh
        refine aw_iinc (v := x109) (L1 := [(3, .int x109), (6, .int x107), (8, .int q105), (0, .ref (wad (WY g) 0)), (1, .int p1), (2, .int p2), (4, .int p4), (5, .int p5), (7, .int p7)]) E dX9_newly_67 5 rfl e110 (Nat.le_of_ble_eq_true rfl) rfl ?_
        refine aw_iload E dX9_newly_70 6 rfl ?_
        refine aw_aload_n E dX9_newly_72 3 rfl ?_
        refine aw_iload E dX9_newly_73 2 rfl ?_
        refine aw_iload_n E dX9_newly_75 4 rfl ?_
        obtain ⟨q111, e112, hh⟩ := bd_e hh
        refine aw_callVi (S := [.int p4]) E mvX9_bondsAt mlX9_300 (Nat.le_of_ble_eq_true rfl) rfl rfl rfl (ctX9_bondsAt (yl Y) g q105 p1  M q111 e112) rfl (Nat.le_of_ble_eq_true rfl) (Nat.le_of_ble_eq_true rfl) dX9_newly_76 ?_
        obtain ⟨q113, e114, hh⟩ := lt_e hh
        have J115 : AW Y (WY g) r 9 3 87 [(0, .ref (wad (WY g) 0)), (1, .int p1), (2, .int p2), (3, .int x109), (5, .int p5), (6, .int x107), (7, .int p7), (8, .int q105)] [.int q113, .int p4] M := by
          refine aw_iadd E dX9_newly_87 ?_
          obtain ⟨x116, e117, hh⟩ := lt_e hh
          refine aw_nmI e117 ?_
          refine aw_istore (L1 := [(4, .int x116), (0, .ref (wad (WY g) 0)), (1, .int p1), (2, .int p2), (3, .int x109), (5, .int p5), (6, .int x107), (7, .int p7), (8, .int q105)]) E dX9_newly_88 (Nat.le_of_ble_eq_true rfl) rfl ?_
          refine aw_iload E dX9_newly_90 5 rfl ?_
          refine aw_aload_n E dX9_newly_92 1 rfl ?_
          refine aw_iload E dX9_newly_93 8 rfl ?_
          refine aw_iload_n E dX9_newly_95 2 rfl ?_
          obtain ⟨q118, e119, hh⟩ := bd_e hh
          refine aw_callVi (S := [.int p5]) E mvX9_bondsAt mlX9_300 (Nat.le_of_ble_eq_true rfl) rfl rfl rfl (ctX9_bondsAt (yl Y) g q105 p1  M q118 e119) rfl (Nat.le_of_ble_eq_true rfl) (Nat.le_of_ble_eq_true rfl) dX9_newly_96 ?_
          refine aw_iconst (v := 1) E dX9_newly_99 (by decide) ?_
          obtain ⟨q120, e121, hh⟩ := lt_e hh
          have J122 : AW Y (WY g) r 9 3 108 [(0, .ref (wad (WY g) 0)), (1, .int p1), (2, .int p2), (3, .int x109), (4, .int x116), (6, .int x107), (7, .int p7)] [.int q120, .int p5] M := by
            refine aw_iadd E dX9_newly_108 ?_
            obtain ⟨x123, e124, hh⟩ := lt_e hh
            refine aw_nmI e124 ?_
            refine aw_istore (L1 := [(5, .int x123), (0, .ref (wad (WY g) 0)), (1, .int p1), (2, .int p2), (3, .int x109), (4, .int x116), (6, .int x107), (7, .int p7)]) E dX9_newly_109 (Nat.le_of_ble_eq_true rfl) rfl ?_
            obtain ⟨x125, e126, hh⟩ := lt_e hh
            refine aw_iinc (v := x125) (L1 := [(7, .int x125), (5, .int x123), (0, .ref (wad (WY g) 0)), (1, .int p1), (2, .int p2), (3, .int x109), (4, .int x116), (6, .int x107)]) E dX9_newly_111 7 rfl e126 (Nat.le_of_ble_eq_true rfl) rfl ?_
            refine aw_goto (tgt := 24) E dX9_newly_114 rfl ?_
            refine aw_sub (L1 := [(0, .ref (wad (WY g) 0)), (1, .int p1), (2, .int p2), (3, .int x109), (4, .int x116), (5, .int x123), (6, .int x107), (7, .int x125)]) [2, 3, 4, 5, 6, 1, 7, 0] rfl ?_
            exact ih x109 x116 x123 x107 x125 M _ hh kx
          refine aw_icmp_ne (tgt := 107) E dX9_newly_100 rfl (fun c100 => ?_) (fun c100 => ?_)
          ·
            replace e121 := iq c100 e121
            refine aw_iconst (v := 0) E dX9_newly_107 (by decide) ?_
            refine aw_sub (L1 := [(0, .ref (wad (WY g) 0)), (1, .int p1), (2, .int p2), (3, .int x109), (4, .int x116), (6, .int x107), (7, .int p7)]) [1, 2, 3, 4, 0, 6, 7] rfl ?_
            subst e121
            exact J122
          ·
            replace e121 := ip c100 e121
            refine aw_iconst (v := 1) E dX9_newly_103 (by decide) ?_
            refine aw_goto (tgt := 108) E dX9_newly_104 rfl ?_
            refine aw_sub (L1 := [(0, .ref (wad (WY g) 0)), (1, .int p1), (2, .int p2), (3, .int x109), (4, .int x116), (6, .int x107), (7, .int p7)]) [1, 2, 3, 4, 0, 6, 7] rfl ?_
            subst e121
            exact J122
        refine aw_if_ne (tgt := 86) E dX9_newly_79 rfl (fun c79 => ?_) (fun c79 => ?_)
        ·
          replace e114 := iq c79 e114
          refine aw_iconst (v := 0) E dX9_newly_86 (by decide) ?_
          refine aw_sub (L1 := [(0, .ref (wad (WY g) 0)), (1, .int p1), (2, .int p2), (3, .int x109), (5, .int p5), (6, .int x107), (7, .int p7), (8, .int q105)]) [3, 4, 5, 0, 7, 1, 8, 2] rfl ?_
          subst e114
          exact J115
        ·
          replace e114 := ip c79 e114
          refine aw_iconst (v := 1) E dX9_newly_82 (by decide) ?_
          refine aw_goto (tgt := 87) E dX9_newly_83 rfl ?_
          refine aw_sub (L1 := [(0, .ref (wad (WY g) 0)), (1, .int p1), (2, .int p2), (3, .int x109), (5, .int p5), (6, .int x107), (7, .int p7), (8, .int q105)]) [3, 4, 5, 0, 7, 1, 8, 2] rfl ?_
          subst e114
          exact J115
      have J104 : b101 = false → AW Y (WY g) r 9 3 111 [(0, .ref (wad (WY g) 0)), (1, .int p1), (2, .int p2), (3, .int p3), (4, .int p4), (5, .int p5), (6, .int p6), (7, .int p7)] [] M := fun hb => by
        replace hh := iq (bf hb) hh
        obtain ⟨x127, e128, hh⟩ := lt_e hh
        refine aw_iinc (v := x127) (L1 := [(7, .int x127), (0, .ref (wad (WY g) 0)), (1, .int p1), (2, .int p2), (3, .int p3), (4, .int p4), (5, .int p5), (6, .int p6)]) E dX9_newly_111 7 rfl e128 (Nat.le_of_ble_eq_true rfl) rfl ?_
        refine aw_goto (tgt := 24) E dX9_newly_114 rfl ?_
        refine aw_sub (L1 := [(0, .ref (wad (WY g) 0)), (1, .int p1), (2, .int p2), (3, .int p3), (4, .int p4), (5, .int p5), (6, .int p6), (7, .int x127)]) [1, 2, 3, 4, 5, 6, 7, 0] rfl ?_
        exact ih p3 p4 p5 p6 x127 M _ hh kx
      refine aw_icmp_ne (tgt := 111) E dX9_newly_38 rfl (fun c38 => ?_) (fun c38 => ?_)
      ·
        replace e102 := iq c38 e102
        subst e102
        exact J104 rfl
      ·
        replace e102 := ip c38 e102
        refine aw_iload E dX9_newly_41 6 rfl ?_
        refine aw_iload E dX9_newly_43 7 rfl ?_
        refine aw_ishr E dX9_newly_45 ?_
        refine aw_iconst (v := 1) E dX9_newly_46 (by decide) ?_
        refine aw_iand E dX9_newly_47 ?_
        refine aw_if_ne (tgt := 111) E dX9_newly_48 rfl (fun c48 => ?_) (fun c48 => ?_)
        ·
          replace e102 := iq c48 e102
          subst e102
          exact J104 rfl
        ·
          replace e102 := ip c48 e102
          subst e102
          exact J103 rfl
set_option maxHeartbeats 4000000 in
set_option maxRecDepth 100000 in
theorem ctX9_newly (l : Launch) (g : CtxG)  (M : Mem) (r0 : Int32) (h : FX9_newly M = some r0) : Ct l (WY g) yX9_newly cX9_newly 9 (some .int) 3 [.ref (wad (WY g) 0)] M (some (.int r0), M) := by
  refine Ct.of (by decide) (Nat.le_of_ble_eq_true rfl) (fun Y hY E => ?_)
  have E : EV Y (WY g) cX9_newly 9 (some .int) RX9 := E
  have h : FX9_newly  M = some r0 := h
  unfold FX9_newly at h
  show AW Y (WY g) _ 9 3 0 [(0, .ref (wad (WY g) 0))] [] M
  obtain ⟨r, hr⟩ : ∃ r : Option Value × Mem, r = (some (.int r0), M) := ⟨_, rfl⟩
  rw [← hr]
  refine aw_aload_n E dX9_newly_0 0 rfl ?_
  obtain ⟨q1, e2, h⟩ := bd_e h
  refine aw_callVi (S := []) E mvX9_bonds mlX9_294 (Nat.le_of_ble_eq_true rfl) rfl rfl rfl (ctX9_bonds (yl Y) g   M q1 e2) rfl (Nat.le_of_ble_eq_true rfl) (Nat.le_of_ble_eq_true rfl) dX9_newly_1 ?_
  refine aw_istore_n (L1 := [(1, .int q1), (0, .ref (wad (WY g) 0))]) E dX9_newly_4 (Nat.le_of_ble_eq_true rfl) rfl ?_
  refine aw_aload_n E dX9_newly_5 1 rfl ?_
  obtain ⟨q3, e4, h⟩ := bd_e h
  refine aw_callVi (S := []) E mvX9_built mlX9_297 (Nat.le_of_ble_eq_true rfl) rfl rfl rfl (ctX9_built (yl Y) g   M q3 e4) rfl (Nat.le_of_ble_eq_true rfl) (Nat.le_of_ble_eq_true rfl) dX9_newly_6 ?_
  refine aw_istore_n (L1 := [(2, .int q3), (1, .int q1), (0, .ref (wad (WY g) 0))]) E dX9_newly_9 (Nat.le_of_ble_eq_true rfl) rfl ?_
  refine aw_iconst (v := 0) E dX9_newly_10 (by decide) ?_
  refine aw_istore_n (L1 := [(3, .int 0), (2, .int q3), (1, .int q1), (0, .ref (wad (WY g) 0))]) E dX9_newly_11 (Nat.le_of_ble_eq_true rfl) rfl ?_
  refine aw_iconst (v := 0) E dX9_newly_12 (by decide) ?_
  refine aw_istore (L1 := [(4, .int 0), (3, .int 0), (2, .int q3), (1, .int q1), (0, .ref (wad (WY g) 0))]) E dX9_newly_13 (Nat.le_of_ble_eq_true rfl) rfl ?_
  refine aw_iconst (v := 0) E dX9_newly_15 (by decide) ?_
  refine aw_istore (L1 := [(5, .int 0), (4, .int 0), (3, .int 0), (2, .int q3), (1, .int q1), (0, .ref (wad (WY g) 0))]) E dX9_newly_16 (Nat.le_of_ble_eq_true rfl) rfl ?_
  refine aw_iconst (v := 0) E dX9_newly_18 (by decide) ?_
  refine aw_istore (L1 := [(6, .int 0), (5, .int 0), (4, .int 0), (3, .int 0), (2, .int q3), (1, .int q1), (0, .ref (wad (WY g) 0))]) E dX9_newly_19 (Nat.le_of_ble_eq_true rfl) rfl ?_
  refine aw_iconst (v := 0) E dX9_newly_21 (by decide) ?_
  refine aw_istore (L1 := [(7, .int 0), (6, .int 0), (5, .int 0), (4, .int 0), (3, .int 0), (2, .int q3), (1, .int q1), (0, .ref (wad (WY g) 0))]) E dX9_newly_22 (Nat.le_of_ble_eq_true rfl) rfl ?_
  obtain ⟨q5, e6, h⟩ := bd_e h
  refine aw_sub (L1 := [(0, .ref (wad (WY g) 0)), (1, .int q1), (2, .int q3), (3, .int 0), (4, .int 0), (5, .int 0), (6, .int 0), (7, .int 0)]) [7, 6, 5, 4, 3, 2, 1, 0] rfl ?_
  refine lpX9_newly_24 E   q1 q3 FU 0 0 0 0 0 M q5 e6 ?_
  refine aw_iload_n E dX9_newly_117 0 rfl ?_
  refine aw_iconst (v := 1) E dX9_newly_118 (by decide) ?_
  refine aw_icmp_gt (tgt := 126) E dX9_newly_119 rfl (fun c119 => ?_) (fun c119 => ?_)
  ·
    replace h := ip c119 h
    refine aw_iload E dX9_newly_126 1 rfl ?_
    refine aw_iload E dX9_newly_128 2 rfl ?_
    refine aw_iconst (v := 1) E dX9_newly_130 (by decide) ?_
    refine aw_iadd E dX9_newly_131 ?_
    refine aw_iconst (v := 2) E dX9_newly_132 (by decide) ?_
    refine aw_idiv E dX9_newly_133 (by decide) ?_
    refine aw_iadd E dX9_newly_134 ?_
    replace h := Option.some.inj h
    subst h
    exact aw_iret E dX9_newly_135 hr
  ·
    replace h := iq c119 h
    refine aw_iconst (v := 0) E dX9_newly_122 (by decide) ?_
    refine aw_goto (tgt := 135) E dX9_newly_123 rfl ?_
    replace h := Option.some.inj h
    subst h
    exact aw_iret E dX9_newly_135 hr
def FX9_odds_L50 : Nat → Int32 → Int32 → Int32 → Int64 → Int32 → Mem → Option (Int64 × Mem)
  | 0, _, _, _, _, _, _ => none
  | f + 1, p1, p2, p3, p5, p7, M =>
    if p2 ≤ p7 then
      some (p5, M)
    else
      ob (FX9_draws (p1 + p7) M) fun q101 =>
      ob (α := Int64) (if p3 = 1 then
        ob (FX9_ones (q101.1 0 48)) fun q114 =>
        some (q114.toInt64)
      else
        lt (α := Bool) (if (q101.1 0 48) = 0 then false else if (q101.1 0 47) = (q101.1 0 0) then true else false) fun b110 =>
        if b110 = true then
          some 1
        else
          some 0) fun q103 =>
      lt (α := Int64) (p5 + q103) fun x106 =>
      lt (α := Int32) (p7 + 1) fun x108 =>
      FX9_odds_L50 f p1 p2 p3 x106 x108 q101
def FX9_odds (a1 : Int32) (a2 : Int32) (a3 : Int32) (a4 : Int32) (M : Mem) : Option (Int64 × Mem) :=
  lt (α := Bool) (if (FX9_in a1 0 99999) = 0 then true else if (FX9_in a2 1 50) = 0 then true else if (FX9_in a3 0 1) = 0 then true else if (FX9_in a4 0 1) = 0 then true else false) fun b1 =>
  if b1 = true then
    some ((-4611686018427387904), M)
  else
    ob (FX9_odds_L50 FU a1 a2 a3 0 0 M) fun q5 =>
    ob (FX9_lowest q5.1 (a2.toInt64) a4) fun q7 =>
    some (q7, q5.2)
set_option maxHeartbeats 4000000 in
set_option maxRecDepth 100000 in
theorem lpX9_odds_50 {Y : CtxM} {g : CtxG} {r : Option Value × Mem} (E : EV Y (WY g) cX9_odds 8 (some .long) RX9) (p1 : Int32) (p2 : Int32) (p3 : Int32) (p4 : Int32) : ∀ (f : Nat) (p5 : Int64) (p7 : Int32) (M : Mem) (q : Int64 × Mem), FX9_odds_L50 f p1 p2 p3 p5 p7 M = some q → AW Y (WY g) r 8 7 114 [(2, .int p2), (4, .int p4), (5, .long q.1)] [] q.2 → AW Y (WY g) r 8 7 50 [(0, .ref (wad (WY g) 0)), (1, .int p1), (2, .int p2), (3, .int p3), (4, .int p4), (5, .long p5), (7, .int p7)] [] M := by
  intro f
  induction f with
  | zero => intro p5 p7 M q hh; exact absurd hh (fun z => nomatch (show (none : Option (Int64 × Mem)) = some q from z))
  | succ f ih =>
    intro p5 p7 M q hh kx
    rw [FX9_odds_L50] at hh
    refine aw_iload E dX9_odds_50 6 rfl ?_
    refine aw_iload_n E dX9_odds_52 2 rfl ?_
    refine aw_icmp_ge (tgt := 114) E dX9_odds_53 rfl (fun c53 => ?_) (fun c53 => ?_)
    ·
      replace hh := ip c53 hh
      refine aw_sub (L1 := [(2, .int p2), (4, .int p4), (5, .long p5)]) [2, 4, 5] rfl ?_
      replace hh := Option.some.inj hh
      subst hh
      exact kx
    ·
      replace hh := iq c53 hh
      refine aw_aload_n E dX9_odds_56 0 rfl ?_
      refine aw_iload_n E dX9_odds_57 1 rfl ?_
      refine aw_iload E dX9_odds_58 6 rfl ?_
      refine aw_iadd E dX9_odds_60 ?_
      obtain ⟨q101, e102, hh⟩ := bd_e hh
      refine aw_callVv (S := []) E mvX9_draws mlX9_335 (Nat.le_of_ble_eq_true rfl) rfl rfl rfl (ctX9_draws (yl Y) g (p1 + p7)  M q101 e102) rfl (Nat.le_of_ble_eq_true rfl) (Nat.le_of_ble_eq_true rfl) dX9_odds_61 ?_
      refine aw_lload E dX9_odds_64 5 rfl ?_
      refine aw_iload_n E dX9_odds_66 3 rfl ?_
      refine aw_iconst (v := 1) E dX9_odds_67 (by decide) ?_
      obtain ⟨q103, e104, hh⟩ := bd_e hh
      have J105 : AW Y (WY g) r 8 7 105 [(0, .ref (wad (WY g) 0)), (1, .int p1), (2, .int p2), (3, .int p3), (4, .int p4), (7, .int p7)] [.long q103, .long p5] q101 := by
        refine aw_ladd E dX9_odds_105 ?_
        obtain ⟨x106, e107, hh⟩ := lt_e hh
        refine aw_nmJ e107 ?_
        refine aw_lstore (L1 := [(5, .long x106), (0, .ref (wad (WY g) 0)), (1, .int p1), (2, .int p2), (3, .int p3), (4, .int p4), (7, .int p7)]) E dX9_odds_106 (Nat.le_of_ble_eq_true rfl) rfl ?_
        obtain ⟨x108, e109, hh⟩ := lt_e hh
        refine aw_iinc (v := x108) (L1 := [(7, .int x108), (5, .long x106), (0, .ref (wad (WY g) 0)), (1, .int p1), (2, .int p2), (3, .int p3), (4, .int p4)]) E dX9_odds_108 6 rfl e109 (Nat.le_of_ble_eq_true rfl) rfl ?_
        refine aw_goto (tgt := 50) E dX9_odds_111 rfl ?_
        refine aw_sub (L1 := [(0, .ref (wad (WY g) 0)), (1, .int p1), (2, .int p2), (3, .int p3), (4, .int p4), (5, .long x106), (7, .int x108)]) [2, 3, 4, 5, 6, 1, 0] rfl ?_
        exact ih x106 x108 q101 _ hh kx
      refine aw_icmp_ne (tgt := 82) E dX9_odds_68 rfl (fun c68 => ?_) (fun c68 => ?_)
      ·
        replace e104 := iq c68 e104
        refine aw_aload_n E dX9_odds_82 0 rfl ?_
        refine aw_getI E flX9_306 (Nat.le_of_ble_eq_true rfl) rfl rfl dX9_odds_83 ?_
        obtain ⟨b110, e111, e104⟩ := lt_e e104
        have J112 : b110 = true → AW Y (WY g) r 8 7 100 [(0, .ref (wad (WY g) 0)), (1, .int p1), (2, .int p2), (3, .int p3), (4, .int p4), (5, .long p5), (7, .int p7)] [.long p5] q101 := fun hb => by
          replace e104 := ip hb e104
          refine aw_lconst (v := 1) E dX9_odds_100 (by decide) ?_
          refine aw_goto (tgt := 105) E dX9_odds_101 rfl ?_
          refine aw_sub (L1 := [(0, .ref (wad (WY g) 0)), (1, .int p1), (2, .int p2), (3, .int p3), (4, .int p4), (7, .int p7)]) [0, 1, 2, 3, 4, 6] rfl ?_
          replace e104 := Option.some.inj e104
          subst e104
          exact J105
        have J113 : b110 = false → AW Y (WY g) r 8 7 104 [(0, .ref (wad (WY g) 0)), (1, .int p1), (2, .int p2), (3, .int p3), (4, .int p4), (5, .long p5), (7, .int p7)] [.long p5] q101 := fun hb => by
          replace e104 := iq (bf hb) e104
          refine aw_lconst (v := 0) E dX9_odds_104 (by decide) ?_
          refine aw_sub (L1 := [(0, .ref (wad (WY g) 0)), (1, .int p1), (2, .int p2), (3, .int p3), (4, .int p4), (7, .int p7)]) [0, 1, 2, 3, 4, 6] rfl ?_
          replace e104 := Option.some.inj e104
          subst e104
          exact J105
        refine aw_if_eq (tgt := 104) E dX9_odds_86 rfl (fun c86 => ?_) (fun c86 => ?_)
        ·
          replace e111 := ip c86 e111
          subst e111
          exact J113 rfl
        ·
          replace e111 := iq c86 e111
          refine aw_aload_n E dX9_odds_89 0 rfl ?_
          refine aw_getI E flX9_303 (Nat.le_of_ble_eq_true rfl) rfl rfl dX9_odds_90 ?_
          refine aw_aload_n E dX9_odds_93 0 rfl ?_
          refine aw_getI E flX9_99 (Nat.le_of_ble_eq_true rfl) rfl rfl dX9_odds_94 ?_
          refine aw_icmp_ne (tgt := 104) E dX9_odds_97 rfl (fun c97 => ?_) (fun c97 => ?_)
          ·
            replace e111 := iq c97 e111
            subst e111
            exact J113 rfl
          ·
            replace e111 := ip c97 e111
            subst e111
            exact J112 rfl
      ·
        replace e104 := ip c68 e104
        refine aw_aload_n E dX9_odds_71 0 rfl ?_
        refine aw_getI E flX9_306 (Nat.le_of_ble_eq_true rfl) rfl rfl dX9_odds_72 ?_
        obtain ⟨q114, e115, e104⟩ := bd_e e104
        refine aw_callSi (S := [.long p5]) E msX9_ones mlX9_288 rfl (ctX9_ones (yl Y) g (q101.1 0 48)  q101 q114 e115) rfl (Nat.le_of_ble_eq_true rfl) (Nat.le_of_ble_eq_true rfl) dX9_odds_75 ?_
        refine aw_i2l E dX9_odds_78 ?_
        refine aw_goto (tgt := 105) E dX9_odds_79 rfl ?_
        refine aw_sub (L1 := [(0, .ref (wad (WY g) 0)), (1, .int p1), (2, .int p2), (3, .int p3), (4, .int p4), (7, .int p7)]) [0, 1, 2, 3, 4, 6] rfl ?_
        replace e104 := Option.some.inj e104
        subst e104
        exact J105
set_option maxHeartbeats 4000000 in
set_option maxRecDepth 100000 in
theorem ctX9_odds (l : Launch) (g : CtxG) (a1 : Int32) (a2 : Int32) (a3 : Int32) (a4 : Int32) (M : Mem) (r0 : Int64 × Mem) (h : FX9_odds a1 a2 a3 a4 M = some r0) : Ct l (WY g) yX9_odds cX9_odds 8 (some .long) 7 [.ref (wad (WY g) 0), .int a1, .int a2, .int a3, .int a4] M (some (.long r0.1), r0.2) := by
  refine Ct.of (by decide) (Nat.le_of_ble_eq_true rfl) (fun Y hY E => ?_)
  have E : EV Y (WY g) cX9_odds 8 (some .long) RX9 := E
  have h : FX9_odds a1 a2 a3 a4 M = some r0 := h
  unfold FX9_odds at h
  show AW Y (WY g) _ 8 7 0 [(0, .ref (wad (WY g) 0)), (1, .int a1), (2, .int a2), (3, .int a3), (4, .int a4)] [] M
  obtain ⟨r, hr⟩ : ∃ r : Option Value × Mem, r = (some (.long r0.1), r0.2) := ⟨_, rfl⟩
  rw [← hr]
  refine aw_iload_n E dX9_odds_0 1 rfl ?_
  refine aw_iconst (v := 0) E dX9_odds_1 (by decide) ?_
  refine aw_ldcw (v := 99999) E kcX9_334 dX9_odds_2 ?_
  refine aw_callSi (S := []) E msX9_in mlX9_88 rfl (ctX9_in (yl Y) g a1 0 99999  M ) rfl (Nat.le_of_ble_eq_true rfl) (Nat.le_of_ble_eq_true rfl) dX9_odds_5 ?_
  obtain ⟨b1, e2, h⟩ := lt_e h
  have J3 : b1 = true → AW Y (WY g) r 8 7 40 [(0, .ref (wad (WY g) 0)), (1, .int a1), (2, .int a2), (3, .int a3), (4, .int a4)] [] M := fun hb => by
    replace h := ip hb h
    refine aw_ldc2 (v := (-4611686018427387904)) E kcX9_338 dX9_odds_40 ?_
    replace h := Option.some.inj h
    subst h
    exact aw_lret E dX9_odds_43 hr
  have J4 : b1 = false → AW Y (WY g) r 8 7 44 [(0, .ref (wad (WY g) 0)), (1, .int a1), (2, .int a2), (3, .int a3), (4, .int a4)] [] M := fun hb => by
    replace h := iq (bf hb) h
    refine aw_lconst (v := 0) E dX9_odds_44 (by decide) ?_
    refine aw_lstore (L1 := [(5, .long 0), (0, .ref (wad (WY g) 0)), (1, .int a1), (2, .int a2), (3, .int a3), (4, .int a4)]) E dX9_odds_45 (Nat.le_of_ble_eq_true rfl) rfl ?_
    refine aw_iconst (v := 0) E dX9_odds_47 (by decide) ?_
    refine aw_istore (L1 := [(7, .int 0), (5, .long 0), (0, .ref (wad (WY g) 0)), (1, .int a1), (2, .int a2), (3, .int a3), (4, .int a4)]) E dX9_odds_48 (Nat.le_of_ble_eq_true rfl) rfl ?_
    obtain ⟨q5, e6, h⟩ := bd_e h
    refine aw_sub (L1 := [(0, .ref (wad (WY g) 0)), (1, .int a1), (2, .int a2), (3, .int a3), (4, .int a4), (5, .long 0), (7, .int 0)]) [2, 3, 4, 5, 6, 1, 0] rfl ?_
    refine lpX9_odds_50 E   a1 a2 a3 a4 FU 0 0 M q5 e6 ?_
    refine aw_lload E dX9_odds_114 2 rfl ?_
    refine aw_iload_n E dX9_odds_116 0 rfl ?_
    refine aw_i2l E dX9_odds_117 ?_
    refine aw_iload E dX9_odds_118 1 rfl ?_
    obtain ⟨q7, e8, h⟩ := bd_e h
    refine aw_callSl (S := []) E msX9_lowest mlX9_340 rfl (ctX9_lowest (yl Y) g q5.1 (a2.toInt64) a4  q5.2 q7 e8) rfl (Nat.le_of_ble_eq_true rfl) (Nat.le_of_ble_eq_true rfl) dX9_odds_120 ?_
    replace h := Option.some.inj h
    subst h
    exact aw_lret E dX9_odds_123 hr
  refine aw_if_eq (tgt := 40) E dX9_odds_8 rfl (fun c8 => ?_) (fun c8 => ?_)
  ·
    replace e2 := ip c8 e2
    subst e2
    exact J3 rfl
  ·
    replace e2 := iq c8 e2
    refine aw_iload_n E dX9_odds_11 2 rfl ?_
    refine aw_iconst (v := 1) E dX9_odds_12 (by decide) ?_
    refine aw_bipush (v := 50) E dX9_odds_13 (by decide) ?_
    refine aw_callSi (S := []) E msX9_in mlX9_88 rfl (ctX9_in (yl Y) g a2 1 50  M ) rfl (Nat.le_of_ble_eq_true rfl) (Nat.le_of_ble_eq_true rfl) dX9_odds_15 ?_
    refine aw_if_eq (tgt := 40) E dX9_odds_18 rfl (fun c18 => ?_) (fun c18 => ?_)
    ·
      replace e2 := ip c18 e2
      subst e2
      exact J3 rfl
    ·
      replace e2 := iq c18 e2
      refine aw_iload_n E dX9_odds_21 3 rfl ?_
      refine aw_iconst (v := 0) E dX9_odds_22 (by decide) ?_
      refine aw_iconst (v := 1) E dX9_odds_23 (by decide) ?_
      refine aw_callSi (S := []) E msX9_in mlX9_88 rfl (ctX9_in (yl Y) g a3 0 1  M ) rfl (Nat.le_of_ble_eq_true rfl) (Nat.le_of_ble_eq_true rfl) dX9_odds_24 ?_
      refine aw_if_eq (tgt := 40) E dX9_odds_27 rfl (fun c27 => ?_) (fun c27 => ?_)
      ·
        replace e2 := ip c27 e2
        subst e2
        exact J3 rfl
      ·
        replace e2 := iq c27 e2
        refine aw_iload E dX9_odds_30 4 rfl ?_
        refine aw_iconst (v := 0) E dX9_odds_32 (by decide) ?_
        refine aw_iconst (v := 1) E dX9_odds_33 (by decide) ?_
        refine aw_callSi (S := []) E msX9_in mlX9_88 rfl (ctX9_in (yl Y) g a4 0 1  M ) rfl (Nat.le_of_ble_eq_true rfl) (Nat.le_of_ble_eq_true rfl) dX9_odds_34 ?_
        refine aw_if_ne (tgt := 44) E dX9_odds_37 rfl (fun c37 => ?_) (fun c37 => ?_)
        ·
          replace e2 := iq c37 e2
          subst e2
          exact J4 rfl
        ·
          replace e2 := ip c37 e2
          subst e2
          exact J3 rfl
def FX9_part (a1 : Int32) (M : Mem) : Option (Int32 × Mem) :=
  ob (FX9_isCorner a1) fun q1 =>
  if q1 = 0 then
    some ((-5), M)
  else
    lt (α := Int32) (M.1 0 0) fun x3 =>
    lt (wr M 0 0 a1) fun M5 =>
    ob (FX9_ringedNow M5) fun q7 =>
    lt (wr q7.2 0 0 x3) fun M9 =>
    some (q7.1, M9)
set_option maxHeartbeats 4000000 in
set_option maxRecDepth 100000 in
theorem ctX9_part (l : Launch) (g : CtxG) (a1 : Int32) (M : Mem) (r0 : Int32 × Mem) (h : FX9_part a1 M = some r0) : Ct l (WY g) yX9_part cX9_part 4 (some .int) 6 [.ref (wad (WY g) 0), .int a1] M (some (.int r0.1), r0.2) := by
  refine Ct.of (by decide) (Nat.le_of_ble_eq_true rfl) (fun Y hY E => ?_)
  have E : EV Y (WY g) cX9_part 4 (some .int) RX9 := E
  have h : FX9_part a1 M = some r0 := h
  unfold FX9_part at h
  show AW Y (WY g) _ 4 6 0 [(0, .ref (wad (WY g) 0)), (1, .int a1)] [] M
  obtain ⟨r, hr⟩ : ∃ r : Option Value × Mem, r = (some (.int r0.1), r0.2) := ⟨_, rfl⟩
  rw [← hr]
  refine aw_iload_n E dX9_part_0 1 rfl ?_
  obtain ⟨q1, e2, h⟩ := bd_e h
  refine aw_callSi (S := []) E msX9_isCorner mlX9_254 rfl (ctX9_isCorner (yl Y) g a1  M q1 e2) rfl (Nat.le_of_ble_eq_true rfl) (Nat.le_of_ble_eq_true rfl) dX9_part_1 ?_
  refine aw_if_ne (tgt := 10) E dX9_part_4 rfl (fun c4 => ?_) (fun c4 => ?_)
  ·
    replace h := iq c4 h
    refine aw_aload_n E dX9_part_10 0 rfl ?_
    refine aw_getI E flX9_99 (Nat.le_of_ble_eq_true rfl) rfl rfl dX9_part_11 ?_
    obtain ⟨x3, e4, h⟩ := lt_e h
    refine aw_nmI e4 ?_
    refine aw_istore_n (L1 := [(2, .int x3), (0, .ref (wad (WY g) 0)), (1, .int a1)]) E dX9_part_14 (Nat.le_of_ble_eq_true rfl) rfl ?_
    refine aw_aload_n E dX9_part_15 1 rfl ?_
    refine aw_iload_n E dX9_part_16 2 rfl ?_
    obtain ⟨M5, e6, h⟩ := lt_e h
    refine aw_putI1 e6 E flX9_99 (Nat.le_of_ble_eq_true rfl) rfl rfl nr_int dX9_part_17 ?_
    refine aw_aload_n E dX9_part_20 1 rfl ?_
    obtain ⟨q7, e8, h⟩ := bd_e h
    refine aw_callVi (S := []) E mvX9_ringedNow mlX9_279 (Nat.le_of_ble_eq_true rfl) rfl rfl rfl (ctX9_ringedNow (yl Y) g   M5 q7 e8) rfl (Nat.le_of_ble_eq_true rfl) (Nat.le_of_ble_eq_true rfl) dX9_part_21 ?_
    refine aw_istore_n (L1 := [(3, .int q7.1), (2, .int x3), (0, .ref (wad (WY g) 0)), (1, .int a1)]) E dX9_part_24 (Nat.le_of_ble_eq_true rfl) rfl ?_
    refine aw_aload_n E dX9_part_25 2 rfl ?_
    refine aw_iload_n E dX9_part_26 1 rfl ?_
    obtain ⟨M9, e10, h⟩ := lt_e h
    refine aw_putI1 e10 E flX9_99 (Nat.le_of_ble_eq_true rfl) rfl rfl nr_int dX9_part_27 ?_
    refine aw_iload_n E dX9_part_30 0 rfl ?_
    replace h := Option.some.inj h
    subst h
    exact aw_iret E dX9_part_31 hr
  ·
    replace h := ip c4 h
    refine aw_bipush (v := (-5)) E dX9_part_7 (by decide) ?_
    replace h := Option.some.inj h
    subst h
    exact aw_iret E dX9_part_9 hr
def FX9_ring (a1 : Int32) (a2 : Int32) (M : Mem) : Option (Int32 × Mem) :=
  ob (FX9_isOther a1 M) fun q1 =>
  if q1 = 0 then
    some ((-5), M)
  else
    if (FX9_in a2 0 3) = 0 then
      some ((-7), M)
    else
      ob (FX9_finds ((1 : Int32) <<< (a1 &&& 31)) (-1) M) fun q3 =>
      ob (FX9_told4 q3.1 a2 q3.2) fun q5 =>
      some (q5, q3.2)
set_option maxHeartbeats 4000000 in
set_option maxRecDepth 100000 in
theorem ctX9_ring (l : Launch) (g : CtxG) (a1 : Int32) (a2 : Int32) (M : Mem) (r0 : Int32 × Mem) (h : FX9_ring a1 a2 M = some r0) : Ct l (WY g) yX9_ring cX9_ring 3 (some .int) 6 [.ref (wad (WY g) 0), .int a1, .int a2] M (some (.int r0.1), r0.2) := by
  refine Ct.of (by decide) (Nat.le_of_ble_eq_true rfl) (fun Y hY E => ?_)
  have E : EV Y (WY g) cX9_ring 3 (some .int) RX9 := E
  have h : FX9_ring a1 a2 M = some r0 := h
  unfold FX9_ring at h
  show AW Y (WY g) _ 3 6 0 [(0, .ref (wad (WY g) 0)), (1, .int a1), (2, .int a2)] [] M
  obtain ⟨r, hr⟩ : ∃ r : Option Value × Mem, r = (some (.int r0.1), r0.2) := ⟨_, rfl⟩
  rw [← hr]
  refine aw_aload_n E dX9_ring_0 0 rfl ?_
  refine aw_iload_n E dX9_ring_1 1 rfl ?_
  obtain ⟨q1, e2, h⟩ := bd_e h
  refine aw_callVi (S := []) E mvX9_isOther mlX9_257 (Nat.le_of_ble_eq_true rfl) rfl rfl rfl (ctX9_isOther (yl Y) g a1  M q1 e2) rfl (Nat.le_of_ble_eq_true rfl) (Nat.le_of_ble_eq_true rfl) dX9_ring_2 ?_
  refine aw_if_ne (tgt := 11) E dX9_ring_5 rfl (fun c5 => ?_) (fun c5 => ?_)
  ·
    replace h := iq c5 h
    refine aw_iload_n E dX9_ring_11 2 rfl ?_
    refine aw_iconst (v := 0) E dX9_ring_12 (by decide) ?_
    refine aw_iconst (v := 3) E dX9_ring_13 (by decide) ?_
    refine aw_callSi (S := []) E msX9_in mlX9_88 rfl (ctX9_in (yl Y) g a2 0 3  M ) rfl (Nat.le_of_ble_eq_true rfl) (Nat.le_of_ble_eq_true rfl) dX9_ring_14 ?_
    refine aw_if_eq (tgt := 36) E dX9_ring_17 rfl (fun c17 => ?_) (fun c17 => ?_)
    ·
      replace h := ip c17 h
      refine aw_bipush (v := (-7)) E dX9_ring_36 (by decide) ?_
      replace h := Option.some.inj h
      subst h
      exact aw_iret E dX9_ring_38 hr
    ·
      replace h := iq c17 h
      refine aw_aload_n E dX9_ring_20 0 rfl ?_
      refine aw_aload_n E dX9_ring_21 0 rfl ?_
      refine aw_iconst (v := 1) E dX9_ring_22 (by decide) ?_
      refine aw_iload_n E dX9_ring_23 1 rfl ?_
      refine aw_ishl E dX9_ring_24 ?_
      refine aw_iconst (v := (-1)) E dX9_ring_25 (by decide) ?_
      obtain ⟨q3, e4, h⟩ := bd_e h
      refine aw_callVi (S := [.ref (wad (WY g) 0)]) E mvX9_finds mlX9_260 (Nat.le_of_ble_eq_true rfl) rfl rfl rfl (ctX9_finds (yl Y) g ((1 : Int32) <<< (a1 &&& 31)) (-1)  M q3 e4) rfl (Nat.le_of_ble_eq_true rfl) (Nat.le_of_ble_eq_true rfl) dX9_ring_26 ?_
      refine aw_iload_n E dX9_ring_29 2 rfl ?_
      obtain ⟨q5, e6, h⟩ := bd_e h
      refine aw_callVi (S := []) E mvX9_told4 mlX9_263 (Nat.le_of_ble_eq_true rfl) rfl rfl rfl (ctX9_told4 (yl Y) g q3.1 a2  q3.2 q5 e6) rfl (Nat.le_of_ble_eq_true rfl) (Nat.le_of_ble_eq_true rfl) dX9_ring_30 ?_
      refine aw_goto (tgt := 38) E dX9_ring_33 rfl ?_
      replace h := Option.some.inj h
      subst h
      exact aw_iret E dX9_ring_38 hr
  ·
    replace h := ip c5 h
    refine aw_bipush (v := (-5)) E dX9_ring_8 (by decide) ?_
    replace h := Option.some.inj h
    subst h
    exact aw_iret E dX9_ring_10 hr
def FX9_ringsWithin_L65 : Nat → Int32 → Int32 → Mem → Option (Mem)
  | 0, _, _, _ => none
  | f + 1, p2, p4, M =>
    if (M.1 0 40) ≤ p4 then
      some M
    else
      ob (α := Int32) (if ((p2 >>> (p4 &&& 31)) &&& 1) = 1 then
        gi (p2 &&& (((1 : Int32) <<< (p4 &&& 31)) ^^^ (-1))) 4096 <|
        some (M.1 22 (Int32.toNatClampNeg (p2 &&& (((1 : Int32) <<< (p4 &&& 31)) ^^^ (-1)))))
      else
        some (-1)) fun q101 =>
      ob (α := Int32) (if q101 = (-1) then
        gi p2 4096 <|
        some (M.1 22 (Int32.toNatClampNeg p2))
      else
        gi p2 4096 <|
        ob (α := Bool) (if (M.1 22 (Int32.toNatClampNeg p2)) = (-1) then
          some true
        else
          gi p2 4096 <|
          if (M.1 22 (Int32.toNatClampNeg p2)) ≤ q101 then some false else some true) fun b114 =>
        if b114 = true then
          some q101
        else
          gi p2 4096 <|
          some (M.1 22 (Int32.toNatClampNeg p2))) fun q104 =>
      gi p2 4096 <|
      lt (wr M 22 (Int32.toNatClampNeg p2) q104) fun M108 =>
      lt (α := Int32) (p4 + 1) fun x110 =>
      FX9_ringsWithin_L65 f p2 x110 M108
def FX9_ringsWithin_L2 : Nat → Int32 → Int32 → Mem → Option (Mem)
  | 0, _, _, _ => none
  | f + 1, p1, p2, M =>
    if ((1 : Int32) <<< ((M.1 0 40) &&& 31)) ≤ p2 then
      some M
    else
      ob (α := Int32) (if p2 = 0 then
        some (-1)
      else
        gi ((9 * p2) + (M.1 0 0)) 73728 <|
        some (M.1 19 (Int32.toNatClampNeg ((9 * p2) + (M.1 0 0))))) fun q101 =>
      ob (α := Bool) (if q101 = (-1) then
        some false
      else
        ob (FX9_passedBy p2 M) fun q118 =>
        if (q118 &&& p1) = p1 then some true else some false) fun b104 =>
      lt (α := Int32) (if b104 = true then
        q101
      else
        (-1)) fun q106 =>
      gi p2 4096 <|
      lt (wr M 22 (Int32.toNatClampNeg p2) q106) fun M110 =>
      ob (FX9_ringsWithin_L65 FU p2 0 M110) fun q112 =>
      lt (α := Int32) (p2 + 1) fun x114 =>
      FX9_ringsWithin_L2 f p1 x114 q112
def FX9_ringsWithin (a1 : Int32) (M : Mem) : Option (Mem) :=
  ob (FX9_ringsWithin_L2 FU a1 0 M) fun q1 =>
  some q1
set_option maxHeartbeats 4000000 in
set_option maxRecDepth 100000 in
theorem lpX9_ringsWithin_65 {Y : CtxM} {g : CtxG} {r : Option Value × Mem} (E : EV Y (WY g) cX9_ringsWithin 6 none RX9) (p1 : Int32) (p2 : Int32) : ∀ (f : Nat) (p4 : Int32) (M : Mem) (q : Mem), FX9_ringsWithin_L65 f p2 p4 M = some q → AW Y (WY g) r 6 2 153 [(0, .ref (wad (WY g) 0)), (1, .int p1), (2, .int p2)] [] q → AW Y (WY g) r 6 2 65 [(0, .ref (wad (WY g) 0)), (1, .int p1), (2, .int p2), (4, .int p4)] [] M := by
  intro f
  induction f with
  | zero => intro p4 M q hh; exact absurd hh (fun z => nomatch (show (none : Option (Mem)) = some q from z))
  | succ f ih =>
    intro p4 M q hh kx
    rw [FX9_ringsWithin_L65] at hh
    refine aw_iload E dX9_ringsWithin_65 3 rfl ?_
    refine aw_aload_n E dX9_ringsWithin_67 0 rfl ?_
    refine aw_getI E flX9_211 (Nat.le_of_ble_eq_true rfl) rfl rfl dX9_ringsWithin_68 ?_
    refine aw_icmp_ge (tgt := 153) E dX9_ringsWithin_71 rfl (fun c71 => ?_) (fun c71 => ?_)
    ·
      replace hh := ip c71 hh
      refine aw_sub (L1 := [(0, .ref (wad (WY g) 0)), (1, .int p1), (2, .int p2)]) [0, 1, 2] rfl ?_
      replace hh := Option.some.inj hh
      subst hh
      exact kx
    ·
      replace hh := iq c71 hh
      refine aw_iload_n E dX9_ringsWithin_74 2 rfl ?_
      refine aw_iload E dX9_ringsWithin_75 3 rfl ?_
      refine aw_ishr E dX9_ringsWithin_77 ?_
      refine aw_iconst (v := 1) E dX9_ringsWithin_78 (by decide) ?_
      refine aw_iand E dX9_ringsWithin_79 ?_
      refine aw_iconst (v := 1) E dX9_ringsWithin_80 (by decide) ?_
      obtain ⟨q101, e102, hh⟩ := bd_e hh
      have J103 : AW Y (WY g) r 6 2 101 [(0, .ref (wad (WY g) 0)), (1, .int p1), (2, .int p2), (4, .int p4)] [.int q101] M := by
        refine aw_istore (L1 := [(5, .int q101), (0, .ref (wad (WY g) 0)), (1, .int p1), (2, .int p2), (4, .int p4)]) E dX9_ringsWithin_101 (Nat.le_of_ble_eq_true rfl) rfl ?_
        refine aw_aload_n E dX9_ringsWithin_103 1 rfl ?_
        refine aw_getR (q := 22) E flX9_78 (Nat.le_of_ble_eq_true rfl) rfl rfl dX9_ringsWithin_104 ?_
        refine aw_iload_n E dX9_ringsWithin_107 3 rfl ?_
        refine aw_iload E dX9_ringsWithin_108 0 rfl ?_
        refine aw_iconst (v := (-1)) E dX9_ringsWithin_110 (by decide) ?_
        obtain ⟨q104, e105, hh⟩ := bd_e hh
        have J106 : AW Y (WY g) r 6 2 146 [(0, .ref (wad (WY g) 0)), (1, .int p1), (2, .int p2), (4, .int p4)] [.int q104, .int p2, .ref (wad (WY g) 22)] M := by
          obtain ⟨g107, hh⟩ := gi_e hh
          obtain ⟨M108, e109, hh⟩ := lt_e hh
          refine aw_iast1 e109 E (Nat.le_of_ble_eq_true rfl) rfl g107 dX9_ringsWithin_146 ?_
          obtain ⟨x110, e111, hh⟩ := lt_e hh
          refine aw_iinc (v := x110) (L1 := [(4, .int x110), (0, .ref (wad (WY g) 0)), (1, .int p1), (2, .int p2)]) E dX9_ringsWithin_147 3 rfl e111 (Nat.le_of_ble_eq_true rfl) rfl ?_
          refine aw_goto (tgt := 65) E dX9_ringsWithin_150 rfl ?_
          refine aw_sub (L1 := [(0, .ref (wad (WY g) 0)), (1, .int p1), (2, .int p2), (4, .int x110)]) [1, 2, 3, 0] rfl ?_
          exact ih x110 M108 _ hh kx
        refine aw_icmp_eq (tgt := 140) E dX9_ringsWithin_111 rfl (fun c111 => ?_) (fun c111 => ?_)
        ·
          replace e105 := ip c111 e105
          refine aw_aload_n E dX9_ringsWithin_140 1 rfl ?_
          refine aw_getR (q := 22) E flX9_78 (Nat.le_of_ble_eq_true rfl) rfl rfl dX9_ringsWithin_141 ?_
          refine aw_iload_n E dX9_ringsWithin_144 3 rfl ?_
          obtain ⟨g112, e105⟩ := gi_e e105
          refine aw_iald E (Nat.le_of_ble_eq_true rfl) rfl g112 dX9_ringsWithin_145 ?_
          refine aw_sub (L1 := [(0, .ref (wad (WY g) 0)), (1, .int p1), (2, .int p2), (4, .int p4)]) [1, 2, 3, 4] rfl ?_
          replace e105 := Option.some.inj e105
          subst e105
          exact J106
        ·
          replace e105 := iq c111 e105
          refine aw_aload_n E dX9_ringsWithin_114 1 rfl ?_
          refine aw_getR (q := 22) E flX9_78 (Nat.le_of_ble_eq_true rfl) rfl rfl dX9_ringsWithin_115 ?_
          refine aw_iload_n E dX9_ringsWithin_118 3 rfl ?_
          obtain ⟨g113, e105⟩ := gi_e e105
          refine aw_iald E (Nat.le_of_ble_eq_true rfl) rfl g113 dX9_ringsWithin_119 ?_
          refine aw_iconst (v := (-1)) E dX9_ringsWithin_120 (by decide) ?_
          obtain ⟨b114, e115, e105⟩ := bd_e e105
          have J116 : b114 = true → AW Y (WY g) r 6 2 135 [(5, .int q101), (0, .ref (wad (WY g) 0)), (1, .int p1), (2, .int p2), (4, .int p4)] [.int p2, .ref (wad (WY g) 22)] M := fun hb => by
            replace e105 := ip hb e105
            refine aw_iload E dX9_ringsWithin_135 0 rfl ?_
            refine aw_goto (tgt := 146) E dX9_ringsWithin_137 rfl ?_
            refine aw_sub (L1 := [(0, .ref (wad (WY g) 0)), (1, .int p1), (2, .int p2), (4, .int p4)]) [1, 2, 3, 4] rfl ?_
            replace e105 := Option.some.inj e105
            subst e105
            exact J106
          have J117 : b114 = false → AW Y (WY g) r 6 2 140 [(5, .int q101), (0, .ref (wad (WY g) 0)), (1, .int p1), (2, .int p2), (4, .int p4)] [.int p2, .ref (wad (WY g) 22)] M := fun hb => by
            replace e105 := iq (bf hb) e105
            refine aw_aload_n E dX9_ringsWithin_140 1 rfl ?_
            refine aw_getR (q := 22) E flX9_78 (Nat.le_of_ble_eq_true rfl) rfl rfl dX9_ringsWithin_141 ?_
            refine aw_iload_n E dX9_ringsWithin_144 3 rfl ?_
            obtain ⟨g118, e105⟩ := gi_e e105
            refine aw_iald E (Nat.le_of_ble_eq_true rfl) rfl g118 dX9_ringsWithin_145 ?_
            refine aw_sub (L1 := [(0, .ref (wad (WY g) 0)), (1, .int p1), (2, .int p2), (4, .int p4)]) [1, 2, 3, 4] rfl ?_
            replace e105 := Option.some.inj e105
            subst e105
            exact J106
          refine aw_icmp_eq (tgt := 135) E dX9_ringsWithin_121 rfl (fun c121 => ?_) (fun c121 => ?_)
          ·
            replace e115 := ip c121 e115
            replace e115 := Option.some.inj e115
            subst e115
            exact J116 rfl
          ·
            replace e115 := iq c121 e115
            refine aw_iload E dX9_ringsWithin_124 0 rfl ?_
            refine aw_aload_n E dX9_ringsWithin_126 1 rfl ?_
            refine aw_getR (q := 22) E flX9_78 (Nat.le_of_ble_eq_true rfl) rfl rfl dX9_ringsWithin_127 ?_
            refine aw_iload_n E dX9_ringsWithin_130 3 rfl ?_
            obtain ⟨g119, e115⟩ := gi_e e115
            refine aw_iald E (Nat.le_of_ble_eq_true rfl) rfl g119 dX9_ringsWithin_131 ?_
            refine aw_icmp_ge (tgt := 140) E dX9_ringsWithin_132 rfl (fun c132 => ?_) (fun c132 => ?_)
            ·
              replace e115 := ip c132 e115
              replace e115 := Option.some.inj e115
              subst e115
              exact J117 rfl
            ·
              replace e115 := iq c132 e115
              replace e115 := Option.some.inj e115
              subst e115
              exact J116 rfl
      refine aw_icmp_ne (tgt := 100) E dX9_ringsWithin_81 rfl (fun c81 => ?_) (fun c81 => ?_)
      ·
        replace e102 := iq c81 e102
        refine aw_iconst (v := (-1)) E dX9_ringsWithin_100 (by decide) ?_
        refine aw_sub (L1 := [(0, .ref (wad (WY g) 0)), (1, .int p1), (2, .int p2), (4, .int p4)]) [0, 1, 2, 3] rfl ?_
        replace e102 := Option.some.inj e102
        subst e102
        exact J103
      ·
        replace e102 := ip c81 e102
        refine aw_aload_n E dX9_ringsWithin_84 0 rfl ?_
        refine aw_getR (q := 22) E flX9_78 (Nat.le_of_ble_eq_true rfl) rfl rfl dX9_ringsWithin_85 ?_
        refine aw_iload_n E dX9_ringsWithin_88 2 rfl ?_
        refine aw_iconst (v := 1) E dX9_ringsWithin_89 (by decide) ?_
        refine aw_iload E dX9_ringsWithin_90 3 rfl ?_
        refine aw_ishl E dX9_ringsWithin_92 ?_
        refine aw_iconst (v := (-1)) E dX9_ringsWithin_93 (by decide) ?_
        refine aw_ixor E dX9_ringsWithin_94 ?_
        refine aw_iand E dX9_ringsWithin_95 ?_
        obtain ⟨g120, e102⟩ := gi_e e102
        refine aw_iald E (Nat.le_of_ble_eq_true rfl) rfl g120 dX9_ringsWithin_96 ?_
        refine aw_goto (tgt := 101) E dX9_ringsWithin_97 rfl ?_
        refine aw_sub (L1 := [(0, .ref (wad (WY g) 0)), (1, .int p1), (2, .int p2), (4, .int p4)]) [0, 1, 2, 3] rfl ?_
        replace e102 := Option.some.inj e102
        subst e102
        exact J103
set_option maxHeartbeats 4000000 in
set_option maxRecDepth 100000 in
theorem lpX9_ringsWithin_2 {Y : CtxM} {g : CtxG} {r : Option Value × Mem} (E : EV Y (WY g) cX9_ringsWithin 6 none RX9) (p1 : Int32) : ∀ (f : Nat) (p2 : Int32) (M : Mem) (q : Mem), FX9_ringsWithin_L2 f p1 p2 M = some q → AW Y (WY g) r 6 2 159 [] [] q → AW Y (WY g) r 6 2 2 [(0, .ref (wad (WY g) 0)), (1, .int p1), (2, .int p2)] [] M := by
  intro f
  induction f with
  | zero => intro p2 M q hh; exact absurd hh (fun z => nomatch (show (none : Option (Mem)) = some q from z))
  | succ f ih =>
    intro p2 M q hh kx
    rw [FX9_ringsWithin_L2] at hh
    refine aw_iload_n E dX9_ringsWithin_2 2 rfl ?_
    refine aw_iconst (v := 1) E dX9_ringsWithin_3 (by decide) ?_
    refine aw_aload_n E dX9_ringsWithin_4 0 rfl ?_
    refine aw_getI E flX9_211 (Nat.le_of_ble_eq_true rfl) rfl rfl dX9_ringsWithin_5 ?_
    refine aw_ishl E dX9_ringsWithin_8 ?_
    refine aw_icmp_ge (tgt := 159) E dX9_ringsWithin_9 rfl (fun c9 => ?_) (fun c9 => ?_)
    ·
      replace hh := ip c9 hh
      refine aw_sub (L1 := []) [] rfl ?_
      replace hh := Option.some.inj hh
      subst hh
      exact kx
    ·
      replace hh := iq c9 hh
      refine aw_iload_n E dX9_ringsWithin_12 2 rfl ?_
      obtain ⟨q101, e102, hh⟩ := bd_e hh
      have J103 : AW Y (WY g) r 6 2 34 [(0, .ref (wad (WY g) 0)), (1, .int p1), (2, .int p2)] [.int q101] M := by
        refine aw_istore_n (L1 := [(3, .int q101), (0, .ref (wad (WY g) 0)), (1, .int p1), (2, .int p2)]) E dX9_ringsWithin_34 (Nat.le_of_ble_eq_true rfl) rfl ?_
        refine aw_aload_n E dX9_ringsWithin_35 1 rfl ?_
        refine aw_getR (q := 22) E flX9_78 (Nat.le_of_ble_eq_true rfl) rfl rfl dX9_ringsWithin_36 ?_
        refine aw_iload_n E dX9_ringsWithin_39 3 rfl ?_
        refine aw_iload_n E dX9_ringsWithin_40 0 rfl ?_
        refine aw_iconst (v := (-1)) E dX9_ringsWithin_41 (by decide) ?_
        obtain ⟨b104, e105, hh⟩ := bd_e hh
        obtain ⟨q106, e107, hh⟩ := lt_e hh
        have J108 : AW Y (WY g) r 6 2 61 [(0, .ref (wad (WY g) 0)), (1, .int p1), (2, .int p2)] [.int q106, .int p2, .ref (wad (WY g) 22)] M := by
          obtain ⟨g109, hh⟩ := gi_e hh
          obtain ⟨M110, e111, hh⟩ := lt_e hh
          refine aw_iast1 e111 E (Nat.le_of_ble_eq_true rfl) rfl g109 dX9_ringsWithin_61 ?_
          refine aw_iconst (v := 0) E dX9_ringsWithin_62 (by decide) ?_
          refine aw_istore (L1 := [(4, .int 0), (0, .ref (wad (WY g) 0)), (1, .int p1), (2, .int p2)]) E dX9_ringsWithin_63 (Nat.le_of_ble_eq_true rfl) rfl ?_
          obtain ⟨q112, e113, hh⟩ := bd_e hh
          refine aw_sub (L1 := [(0, .ref (wad (WY g) 0)), (1, .int p1), (2, .int p2), (4, .int 0)]) [1, 2, 3, 0] rfl ?_
          refine lpX9_ringsWithin_65 E   p1 p2 FU 0 M110 q112 e113 ?_
          obtain ⟨x114, e115, hh⟩ := lt_e hh
          refine aw_iinc (v := x114) (L1 := [(2, .int x114), (0, .ref (wad (WY g) 0)), (1, .int p1)]) E dX9_ringsWithin_153 2 rfl e115 (Nat.le_of_ble_eq_true rfl) rfl ?_
          refine aw_goto (tgt := 2) E dX9_ringsWithin_156 rfl ?_
          refine aw_sub (L1 := [(0, .ref (wad (WY g) 0)), (1, .int p1), (2, .int x114)]) [1, 2, 0] rfl ?_
          exact ih x114 q112 _ hh kx
        have J116 : b104 = true → AW Y (WY g) r 6 2 56 [(3, .int q101), (0, .ref (wad (WY g) 0)), (1, .int p1), (2, .int p2)] [.int p2, .ref (wad (WY g) 22)] M := fun hb => by
          replace e107 := ip hb e107
          refine aw_iload_n E dX9_ringsWithin_56 0 rfl ?_
          refine aw_goto (tgt := 61) E dX9_ringsWithin_57 rfl ?_
          refine aw_sub (L1 := [(0, .ref (wad (WY g) 0)), (1, .int p1), (2, .int p2)]) [1, 2, 3] rfl ?_
          subst e107
          exact J108
        have J117 : b104 = false → AW Y (WY g) r 6 2 60 [(3, .int q101), (0, .ref (wad (WY g) 0)), (1, .int p1), (2, .int p2)] [.int p2, .ref (wad (WY g) 22)] M := fun hb => by
          replace e107 := iq (bf hb) e107
          refine aw_iconst (v := (-1)) E dX9_ringsWithin_60 (by decide) ?_
          refine aw_sub (L1 := [(0, .ref (wad (WY g) 0)), (1, .int p1), (2, .int p2)]) [1, 2, 3] rfl ?_
          subst e107
          exact J108
        refine aw_icmp_eq (tgt := 60) E dX9_ringsWithin_42 rfl (fun c42 => ?_) (fun c42 => ?_)
        ·
          replace e105 := ip c42 e105
          replace e105 := Option.some.inj e105
          subst e105
          exact J117 rfl
        ·
          replace e105 := iq c42 e105
          refine aw_aload_n E dX9_ringsWithin_45 1 rfl ?_
          refine aw_iload_n E dX9_ringsWithin_46 3 rfl ?_
          obtain ⟨q118, e119, e105⟩ := bd_e e105
          refine aw_callVi (S := [.int p2, .ref (wad (WY g) 22)]) E mvX9_passedBy mlX9_227 (Nat.le_of_ble_eq_true rfl) rfl rfl rfl (ctX9_passedBy (yl Y) g p2  M q118 e119) rfl (Nat.le_of_ble_eq_true rfl) (Nat.le_of_ble_eq_true rfl) dX9_ringsWithin_47 ?_
          refine aw_iload_n E dX9_ringsWithin_50 2 rfl ?_
          refine aw_iand E dX9_ringsWithin_51 ?_
          refine aw_iload_n E dX9_ringsWithin_52 2 rfl ?_
          refine aw_icmp_ne (tgt := 60) E dX9_ringsWithin_53 rfl (fun c53 => ?_) (fun c53 => ?_)
          ·
            replace e105 := iq c53 e105
            replace e105 := Option.some.inj e105
            subst e105
            exact J117 rfl
          ·
            replace e105 := ip c53 e105
            replace e105 := Option.some.inj e105
            subst e105
            exact J116 rfl
      refine aw_if_ne (tgt := 20) E dX9_ringsWithin_13 rfl (fun c13 => ?_) (fun c13 => ?_)
      ·
        replace e102 := iq c13 e102
        refine aw_aload_n E dX9_ringsWithin_20 0 rfl ?_
        refine aw_getR (q := 19) E flX9_69 (Nat.le_of_ble_eq_true rfl) rfl rfl dX9_ringsWithin_21 ?_
        refine aw_bipush (v := 9) E dX9_ringsWithin_24 (by decide) ?_
        refine aw_iload_n E dX9_ringsWithin_26 2 rfl ?_
        refine aw_imul E dX9_ringsWithin_27 ?_
        refine aw_aload_n E dX9_ringsWithin_28 0 rfl ?_
        refine aw_getI E flX9_99 (Nat.le_of_ble_eq_true rfl) rfl rfl dX9_ringsWithin_29 ?_
        refine aw_iadd E dX9_ringsWithin_32 ?_
        obtain ⟨g120, e102⟩ := gi_e e102
        refine aw_iald E (Nat.le_of_ble_eq_true rfl) rfl g120 dX9_ringsWithin_33 ?_
        refine aw_sub (L1 := [(0, .ref (wad (WY g) 0)), (1, .int p1), (2, .int p2)]) [0, 1, 2] rfl ?_
        replace e102 := Option.some.inj e102
        subst e102
        exact J103
      ·
        replace e102 := ip c13 e102
        refine aw_iconst (v := (-1)) E dX9_ringsWithin_16 (by decide) ?_
        refine aw_goto (tgt := 34) E dX9_ringsWithin_17 rfl ?_
        refine aw_sub (L1 := [(0, .ref (wad (WY g) 0)), (1, .int p1), (2, .int p2)]) [0, 1, 2] rfl ?_
        replace e102 := Option.some.inj e102
        subst e102
        exact J103
set_option maxHeartbeats 4000000 in
set_option maxRecDepth 100000 in
theorem ctX9_ringsWithin (l : Launch) (g : CtxG) (a1 : Int32) (M : Mem) (r0 : Mem) (h : FX9_ringsWithin a1 M = some r0) : Ct l (WY g) yX9_ringsWithin cX9_ringsWithin 6 none 2 [.ref (wad (WY g) 0), .int a1] M (none, r0) := by
  refine Ct.of (by decide) (Nat.le_of_ble_eq_true rfl) (fun Y hY E => ?_)
  have E : EV Y (WY g) cX9_ringsWithin 6 none RX9 := E
  have h : FX9_ringsWithin a1 M = some r0 := h
  unfold FX9_ringsWithin at h
  show AW Y (WY g) _ 6 2 0 [(0, .ref (wad (WY g) 0)), (1, .int a1)] [] M
  obtain ⟨r, hr⟩ : ∃ r : Option Value × Mem, r = (none, r0) := ⟨_, rfl⟩
  rw [← hr]
  refine aw_iconst (v := 0) E dX9_ringsWithin_0 (by decide) ?_
  refine aw_istore_n (L1 := [(2, .int 0), (0, .ref (wad (WY g) 0)), (1, .int a1)]) E dX9_ringsWithin_1 (Nat.le_of_ble_eq_true rfl) rfl ?_
  obtain ⟨q1, e2, h⟩ := bd_e h
  refine aw_sub (L1 := [(0, .ref (wad (WY g) 0)), (1, .int a1), (2, .int 0)]) [1, 2, 0] rfl ?_
  refine lpX9_ringsWithin_2 E   a1 FU 0 M q1 e2 ?_
  replace h := Option.some.inj h
  subst h
  exact aw_vret E dX9_ringsWithin_159 hr
def FX9_round (a1 : Int32) (M : Mem) : Option (Int32 × Mem) :=
  if (FX9_in a1 0 3) = 0 then
    some ((-2), M)
  else
    ob (FX9_finds 0 (-1) M) fun q1 =>
    ob (FX9_told4 q1.1 a1 q1.2) fun q3 =>
    some (q3, q1.2)
set_option maxHeartbeats 4000000 in
set_option maxRecDepth 100000 in
theorem ctX9_round (l : Launch) (g : CtxG) (a1 : Int32) (M : Mem) (r0 : Int32 × Mem) (h : FX9_round a1 M = some r0) : Ct l (WY g) yX9_round cX9_round 2 (some .int) 6 [.ref (wad (WY g) 0), .int a1] M (some (.int r0.1), r0.2) := by
  refine Ct.of (by decide) (Nat.le_of_ble_eq_true rfl) (fun Y hY E => ?_)
  have E : EV Y (WY g) cX9_round 2 (some .int) RX9 := E
  have h : FX9_round a1 M = some r0 := h
  unfold FX9_round at h
  show AW Y (WY g) _ 2 6 0 [(0, .ref (wad (WY g) 0)), (1, .int a1)] [] M
  obtain ⟨r, hr⟩ : ∃ r : Option Value × Mem, r = (some (.int r0.1), r0.2) := ⟨_, rfl⟩
  rw [← hr]
  refine aw_iload_n E dX9_round_0 1 rfl ?_
  refine aw_iconst (v := 0) E dX9_round_1 (by decide) ?_
  refine aw_iconst (v := 3) E dX9_round_2 (by decide) ?_
  refine aw_callSi (S := []) E msX9_in mlX9_88 rfl (ctX9_in (yl Y) g a1 0 3  M ) rfl (Nat.le_of_ble_eq_true rfl) (Nat.le_of_ble_eq_true rfl) dX9_round_3 ?_
  refine aw_if_eq (tgt := 23) E dX9_round_6 rfl (fun c6 => ?_) (fun c6 => ?_)
  ·
    replace h := ip c6 h
    refine aw_bipush (v := (-2)) E dX9_round_23 (by decide) ?_
    replace h := Option.some.inj h
    subst h
    exact aw_iret E dX9_round_25 hr
  ·
    replace h := iq c6 h
    refine aw_aload_n E dX9_round_9 0 rfl ?_
    refine aw_aload_n E dX9_round_10 0 rfl ?_
    refine aw_iconst (v := 0) E dX9_round_11 (by decide) ?_
    refine aw_iconst (v := (-1)) E dX9_round_12 (by decide) ?_
    obtain ⟨q1, e2, h⟩ := bd_e h
    refine aw_callVi (S := [.ref (wad (WY g) 0)]) E mvX9_finds mlX9_260 (Nat.le_of_ble_eq_true rfl) rfl rfl rfl (ctX9_finds (yl Y) g 0 (-1)  M q1 e2) rfl (Nat.le_of_ble_eq_true rfl) (Nat.le_of_ble_eq_true rfl) dX9_round_13 ?_
    refine aw_iload_n E dX9_round_16 1 rfl ?_
    obtain ⟨q3, e4, h⟩ := bd_e h
    refine aw_callVi (S := []) E mvX9_told4 mlX9_263 (Nat.le_of_ble_eq_true rfl) rfl rfl rfl (ctX9_told4 (yl Y) g q1.1 a1  q1.2 q3 e4) rfl (Nat.le_of_ble_eq_true rfl) (Nat.le_of_ble_eq_true rfl) dX9_round_17 ?_
    refine aw_goto (tgt := 25) E dX9_round_20 rfl ?_
    replace h := Option.some.inj h
    subst h
    exact aw_iret E dX9_round_25 hr
def FX9_set (a1 : Int32) (a2 : Int32) (M : Mem) : Option (Int32 × Mem) :=
  if (FX9_in a1 0 2) = 0 then
    some ((-1), M)
  else
    lt (α := Int32) (if a1 = 0 then
      8
    else
      if a1 = 1 then
        23
      else
        1) fun q1 =>
    if (FX9_in a2 0 q1) = 0 then
      some ((-2), M)
    else
      lt (α := Int32) (FX9_count a1 M) fun x4 =>
      lt (α := Int32) (if a1 = 0 then
        a2
      else
        M.1 0 0) fun q6 =>
      lt (wr M 0 0 q6) fun M9 =>
      lt (α := Int32) (if a1 = 1 then
        a2
      else
        M9.1 0 1) fun q11 =>
      lt (wr M9 0 1 q11) fun M14 =>
      lt (α := Int32) (if a1 = 2 then
        a2
      else
        M14.1 0 2) fun q16 =>
      lt (wr M14 0 2 q16) fun M19 =>
      some (x4, M19)
set_option maxHeartbeats 4000000 in
set_option maxRecDepth 100000 in
theorem ctX9_set (l : Launch) (g : CtxG) (a1 : Int32) (a2 : Int32) (M : Mem) (r0 : Int32 × Mem) (h : FX9_set a1 a2 M = some r0) : Ct l (WY g) yX9_set cX9_set 4 (some .int) 2 [.ref (wad (WY g) 0), .int a1, .int a2] M (some (.int r0.1), r0.2) := by
  refine Ct.of (by decide) (Nat.le_of_ble_eq_true rfl) (fun Y hY E => ?_)
  have E : EV Y (WY g) cX9_set 4 (some .int) RX9 := E
  have h : FX9_set a1 a2 M = some r0 := h
  unfold FX9_set at h
  show AW Y (WY g) _ 4 2 0 [(0, .ref (wad (WY g) 0)), (1, .int a1), (2, .int a2)] [] M
  obtain ⟨r, hr⟩ : ∃ r : Option Value × Mem, r = (some (.int r0.1), r0.2) := ⟨_, rfl⟩
  rw [← hr]
  refine aw_iload_n E dX9_set_0 1 rfl ?_
  refine aw_iconst (v := 0) E dX9_set_1 (by decide) ?_
  refine aw_iconst (v := 2) E dX9_set_2 (by decide) ?_
  refine aw_callSi (S := []) E msX9_in mlX9_88 rfl (ctX9_in (yl Y) g a1 0 2  M ) rfl (Nat.le_of_ble_eq_true rfl) (Nat.le_of_ble_eq_true rfl) dX9_set_3 ?_
  refine aw_if_ne (tgt := 11) E dX9_set_6 rfl (fun c6 => ?_) (fun c6 => ?_)
  ·
    replace h := iq c6 h
    refine aw_iload_n E dX9_set_11 2 rfl ?_
    refine aw_iconst (v := 0) E dX9_set_12 (by decide) ?_
    refine aw_iload_n E dX9_set_13 1 rfl ?_
    obtain ⟨q1, e2, h⟩ := lt_e h
    have J3 : AW Y (WY g) r 4 2 33 [(0, .ref (wad (WY g) 0)), (1, .int a1), (2, .int a2)] [.int q1, .int 0, .int a2] M := by
      refine aw_callSi (S := []) E msX9_in mlX9_88 rfl (ctX9_in (yl Y) g a2 0 q1  M ) rfl (Nat.le_of_ble_eq_true rfl) (Nat.le_of_ble_eq_true rfl) dX9_set_33 ?_
      refine aw_if_ne (tgt := 42) E dX9_set_36 rfl (fun c36 => ?_) (fun c36 => ?_)
      ·
        replace h := iq c36 h
        refine aw_aload_n E dX9_set_42 0 rfl ?_
        refine aw_iload_n E dX9_set_43 1 rfl ?_
        refine aw_callVi (S := []) E mvX9_count mlX9_95 (Nat.le_of_ble_eq_true rfl) rfl rfl rfl (ctX9_count (yl Y) g a1  M ) rfl (Nat.le_of_ble_eq_true rfl) (Nat.le_of_ble_eq_true rfl) dX9_set_44 ?_
        obtain ⟨x4, e5, h⟩ := lt_e h
        refine aw_nmI e5 ?_
        refine aw_istore_n (L1 := [(3, .int x4), (0, .ref (wad (WY g) 0)), (1, .int a1), (2, .int a2)]) E dX9_set_47 (Nat.le_of_ble_eq_true rfl) rfl ?_
        refine aw_aload_n E dX9_set_48 1 rfl ?_
        refine aw_iload_n E dX9_set_49 2 rfl ?_
        obtain ⟨q6, e7, h⟩ := lt_e h
        have J8 : AW Y (WY g) r 4 2 61 [(0, .ref (wad (WY g) 0)), (1, .int a1), (2, .int a2), (3, .int x4)] [.int q6, .ref (wad (WY g) 0)] M := by
          obtain ⟨M9, e10, h⟩ := lt_e h
          refine aw_putI1 e10 E flX9_99 (Nat.le_of_ble_eq_true rfl) rfl rfl nr_int dX9_set_61 ?_
          refine aw_aload_n E dX9_set_64 0 rfl ?_
          refine aw_iload_n E dX9_set_65 1 rfl ?_
          refine aw_iconst (v := 1) E dX9_set_66 (by decide) ?_
          obtain ⟨q11, e12, h⟩ := lt_e h
          have J13 : AW Y (WY g) r 4 2 78 [(0, .ref (wad (WY g) 0)), (1, .int a1), (2, .int a2), (3, .int x4)] [.int q11, .ref (wad (WY g) 0)] M9 := by
            obtain ⟨M14, e15, h⟩ := lt_e h
            refine aw_putI1 e15 E flX9_7 (Nat.le_of_ble_eq_true rfl) rfl rfl nr_int dX9_set_78 ?_
            refine aw_aload_n E dX9_set_81 0 rfl ?_
            refine aw_iload_n E dX9_set_82 1 rfl ?_
            refine aw_iconst (v := 2) E dX9_set_83 (by decide) ?_
            obtain ⟨q16, e17, h⟩ := lt_e h
            have J18 : AW Y (WY g) r 4 2 95 [(3, .int x4)] [.int q16, .ref (wad (WY g) 0)] M14 := by
              obtain ⟨M19, e20, h⟩ := lt_e h
              refine aw_putI1 e20 E flX9_102 (Nat.le_of_ble_eq_true rfl) rfl rfl nr_int dX9_set_95 ?_
              refine aw_iload_n E dX9_set_98 0 rfl ?_
              replace h := Option.some.inj h
              subst h
              exact aw_iret E dX9_set_99 hr
            refine aw_icmp_ne (tgt := 91) E dX9_set_84 rfl (fun c84 => ?_) (fun c84 => ?_)
            ·
              replace e17 := iq c84 e17
              refine aw_aload_n E dX9_set_91 0 rfl ?_
              refine aw_getI E flX9_102 (Nat.le_of_ble_eq_true rfl) rfl rfl dX9_set_92 ?_
              refine aw_sub (L1 := [(3, .int x4)]) [3] rfl ?_
              subst e17
              exact J18
            ·
              replace e17 := ip c84 e17
              refine aw_iload_n E dX9_set_87 2 rfl ?_
              refine aw_goto (tgt := 95) E dX9_set_88 rfl ?_
              refine aw_sub (L1 := [(3, .int x4)]) [3] rfl ?_
              subst e17
              exact J18
          refine aw_icmp_ne (tgt := 74) E dX9_set_67 rfl (fun c67 => ?_) (fun c67 => ?_)
          ·
            replace e12 := iq c67 e12
            refine aw_aload_n E dX9_set_74 0 rfl ?_
            refine aw_getI E flX9_7 (Nat.le_of_ble_eq_true rfl) rfl rfl dX9_set_75 ?_
            refine aw_sub (L1 := [(0, .ref (wad (WY g) 0)), (1, .int a1), (2, .int a2), (3, .int x4)]) [0, 1, 2, 3] rfl ?_
            subst e12
            exact J13
          ·
            replace e12 := ip c67 e12
            refine aw_iload_n E dX9_set_70 2 rfl ?_
            refine aw_goto (tgt := 78) E dX9_set_71 rfl ?_
            refine aw_sub (L1 := [(0, .ref (wad (WY g) 0)), (1, .int a1), (2, .int a2), (3, .int x4)]) [0, 1, 2, 3] rfl ?_
            subst e12
            exact J13
        refine aw_if_ne (tgt := 57) E dX9_set_50 rfl (fun c50 => ?_) (fun c50 => ?_)
        ·
          replace e7 := iq c50 e7
          refine aw_aload_n E dX9_set_57 1 rfl ?_
          refine aw_getI E flX9_99 (Nat.le_of_ble_eq_true rfl) rfl rfl dX9_set_58 ?_
          refine aw_sub (L1 := [(0, .ref (wad (WY g) 0)), (1, .int a1), (2, .int a2), (3, .int x4)]) [1, 2, 3, 0] rfl ?_
          subst e7
          exact J8
        ·
          replace e7 := ip c50 e7
          refine aw_iload_n E dX9_set_53 3 rfl ?_
          refine aw_goto (tgt := 61) E dX9_set_54 rfl ?_
          refine aw_sub (L1 := [(0, .ref (wad (WY g) 0)), (1, .int a1), (2, .int a2), (3, .int x4)]) [1, 2, 3, 0] rfl ?_
          subst e7
          exact J8
      ·
        replace h := ip c36 h
        refine aw_bipush (v := (-2)) E dX9_set_39 (by decide) ?_
        replace h := Option.some.inj h
        subst h
        exact aw_iret E dX9_set_41 hr
    refine aw_if_ne (tgt := 22) E dX9_set_14 rfl (fun c14 => ?_) (fun c14 => ?_)
    ·
      replace e2 := iq c14 e2
      refine aw_iload_n E dX9_set_22 1 rfl ?_
      refine aw_iconst (v := 1) E dX9_set_23 (by decide) ?_
      refine aw_icmp_ne (tgt := 32) E dX9_set_24 rfl (fun c24 => ?_) (fun c24 => ?_)
      ·
        replace e2 := iq c24 e2
        refine aw_iconst (v := 1) E dX9_set_32 (by decide) ?_
        refine aw_sub (L1 := [(0, .ref (wad (WY g) 0)), (1, .int a1), (2, .int a2)]) [0, 1, 2] rfl ?_
        subst e2
        exact J3
      ·
        replace e2 := ip c24 e2
        refine aw_bipush (v := 23) E dX9_set_27 (by decide) ?_
        refine aw_goto (tgt := 33) E dX9_set_29 rfl ?_
        refine aw_sub (L1 := [(0, .ref (wad (WY g) 0)), (1, .int a1), (2, .int a2)]) [0, 1, 2] rfl ?_
        subst e2
        exact J3
    ·
      replace e2 := ip c14 e2
      refine aw_bipush (v := 8) E dX9_set_17 (by decide) ?_
      refine aw_goto (tgt := 33) E dX9_set_19 rfl ?_
      refine aw_sub (L1 := [(0, .ref (wad (WY g) 0)), (1, .int a1), (2, .int a2)]) [0, 1, 2] rfl ?_
      subst e2
      exact J3
  ·
    replace h := ip c6 h
    refine aw_iconst (v := (-1)) E dX9_set_9 (by decide) ?_
    replace h := Option.some.inj h
    subst h
    exact aw_iret E dX9_set_10 hr
def FX9_sheet_L70 : Nat → Int32 → Int32 → Mem → Option (Mem)
  | 0, _, _, _ => none
  | f + 1, p1, p4, M =>
    if 40 ≤ p4 then
      some M
    else
      gi ((40 * p1) + p4) 160 <|
      lt (wr M 11 (Int32.toNatClampNeg ((40 * p1) + p4)) 0) fun M102 =>
      lt (α := Int32) (p4 + 1) fun x104 =>
      FX9_sheet_L70 f p1 x104 M102
def FX9_sheet (a1 : Int32) (a2 : Int32) (a3 : Int32) (M : Mem) : Option (Int32 × Mem) :=
  lt (α := Bool) (if (FX9_in a1 0 3) = 0 then false else if (FX9_in a2 (-1) 2) = 0 then false else true) fun b1 =>
  if b1 = true then
    lt (α := Bool) (if a2 = (-1) then false else if a3 ≤ 40 then false else true) fun b5 =>
    if b5 = true then
      some ((-2), M)
    else
      lt (α := Bool) (if a2 = (-1) then false else if 0 ≤ a3 then false else true) fun b9 =>
      if b9 = true then
        some ((-14), M)
      else
        gi a1 4 <|
        lt (wr M 9 (Int32.toNatClampNeg a1) a2) fun M14 =>
        lt (α := Int32) (if a2 = (-1) then
          0
        else
          a3) fun q16 =>
        gi a1 4 <|
        lt (wr M14 10 (Int32.toNatClampNeg a1) q16) fun M20 =>
        ob (FX9_sheet_L70 FU a1 0 M20) fun q22 =>
        some (1, q22)
  else
    some ((-2), M)
set_option maxHeartbeats 4000000 in
set_option maxRecDepth 100000 in
theorem lpX9_sheet_70 {Y : CtxM} {g : CtxG} {r : Option Value × Mem} (E : EV Y (WY g) cX9_sheet 5 (some .int) RX9) (p1 : Int32) : ∀ (f : Nat) (p4 : Int32) (M : Mem) (q : Mem), FX9_sheet_L70 f p1 p4 M = some q → AW Y (WY g) r 5 2 96 [] [] q → AW Y (WY g) r 5 2 70 [(0, .ref (wad (WY g) 0)), (1, .int p1), (4, .int p4)] [] M := by
  intro f
  induction f with
  | zero => intro p4 M q hh; exact absurd hh (fun z => nomatch (show (none : Option (Mem)) = some q from z))
  | succ f ih =>
    intro p4 M q hh kx
    rw [FX9_sheet_L70] at hh
    refine aw_iload E dX9_sheet_70 2 rfl ?_
    refine aw_bipush (v := 40) E dX9_sheet_72 (by decide) ?_
    refine aw_icmp_ge (tgt := 96) E dX9_sheet_74 rfl (fun c74 => ?_) (fun c74 => ?_)
    ·
      replace hh := ip c74 hh
      refine aw_sub (L1 := []) [] rfl ?_
      replace hh := Option.some.inj hh
      subst hh
      exact kx
    ·
      replace hh := iq c74 hh
      refine aw_aload_n E dX9_sheet_77 0 rfl ?_
      refine aw_getR (q := 11) E flX9_44 (Nat.le_of_ble_eq_true rfl) rfl rfl dX9_sheet_78 ?_
      refine aw_bipush (v := 40) E dX9_sheet_81 (by decide) ?_
      refine aw_iload_n E dX9_sheet_83 1 rfl ?_
      refine aw_imul E dX9_sheet_84 ?_
      refine aw_iload E dX9_sheet_85 2 rfl ?_
      refine aw_iadd E dX9_sheet_87 ?_
      refine aw_iconst (v := 0) E dX9_sheet_88 (by decide) ?_
      obtain ⟨g101, hh⟩ := gi_e hh
      obtain ⟨M102, e103, hh⟩ := lt_e hh
      refine aw_iast1 e103 E (Nat.le_of_ble_eq_true rfl) rfl g101 dX9_sheet_89 ?_
      obtain ⟨x104, e105, hh⟩ := lt_e hh
      refine aw_iinc (v := x104) (L1 := [(4, .int x104), (0, .ref (wad (WY g) 0)), (1, .int p1)]) E dX9_sheet_90 2 rfl e105 (Nat.le_of_ble_eq_true rfl) rfl ?_
      refine aw_goto (tgt := 70) E dX9_sheet_93 rfl ?_
      refine aw_sub (L1 := [(0, .ref (wad (WY g) 0)), (1, .int p1), (4, .int x104)]) [1, 2, 0] rfl ?_
      exact ih x104 M102 _ hh kx
set_option maxHeartbeats 4000000 in
set_option maxRecDepth 100000 in
theorem ctX9_sheet (l : Launch) (g : CtxG) (a1 : Int32) (a2 : Int32) (a3 : Int32) (M : Mem) (r0 : Int32 × Mem) (h : FX9_sheet a1 a2 a3 M = some r0) : Ct l (WY g) yX9_sheet cX9_sheet 5 (some .int) 2 [.ref (wad (WY g) 0), .int a1, .int a2, .int a3] M (some (.int r0.1), r0.2) := by
  refine Ct.of (by decide) (Nat.le_of_ble_eq_true rfl) (fun Y hY E => ?_)
  have E : EV Y (WY g) cX9_sheet 5 (some .int) RX9 := E
  have h : FX9_sheet a1 a2 a3 M = some r0 := h
  unfold FX9_sheet at h
  show AW Y (WY g) _ 5 2 0 [(0, .ref (wad (WY g) 0)), (1, .int a1), (2, .int a2), (3, .int a3)] [] M
  obtain ⟨r, hr⟩ : ∃ r : Option Value × Mem, r = (some (.int r0.1), r0.2) := ⟨_, rfl⟩
  rw [← hr]
  refine aw_iload_n E dX9_sheet_0 1 rfl ?_
  refine aw_iconst (v := 0) E dX9_sheet_1 (by decide) ?_
  refine aw_iconst (v := 3) E dX9_sheet_2 (by decide) ?_
  refine aw_callSi (S := []) E msX9_in mlX9_88 rfl (ctX9_in (yl Y) g a1 0 3  M ) rfl (Nat.le_of_ble_eq_true rfl) (Nat.le_of_ble_eq_true rfl) dX9_sheet_3 ?_
  obtain ⟨b1, e2, h⟩ := lt_e h
  have J3 : b1 = true → AW Y (WY g) r 5 2 18 [(0, .ref (wad (WY g) 0)), (1, .int a1), (2, .int a2), (3, .int a3)] [] M := fun hb => by
    replace h := ip hb h
    refine aw_iload_n E dX9_sheet_18 2 rfl ?_
    refine aw_iconst (v := (-1)) E dX9_sheet_19 (by decide) ?_
    obtain ⟨b5, e6, h⟩ := lt_e h
    have J7 : b5 = true → AW Y (WY g) r 5 2 29 [(0, .ref (wad (WY g) 0)), (1, .int a1), (2, .int a2), (3, .int a3)] [] M := fun hb => by
      replace h := ip hb h
      refine aw_bipush (v := (-2)) E dX9_sheet_29 (by decide) ?_
      replace h := Option.some.inj h
      subst h
      exact aw_iret E dX9_sheet_31 hr
    have J8 : b5 = false → AW Y (WY g) r 5 2 32 [(0, .ref (wad (WY g) 0)), (1, .int a1), (2, .int a2), (3, .int a3)] [] M := fun hb => by
      replace h := iq (bf hb) h
      refine aw_iload_n E dX9_sheet_32 2 rfl ?_
      refine aw_iconst (v := (-1)) E dX9_sheet_33 (by decide) ?_
      obtain ⟨b9, e10, h⟩ := lt_e h
      have J11 : b9 = true → AW Y (WY g) r 5 2 41 [(0, .ref (wad (WY g) 0)), (1, .int a1), (2, .int a2), (3, .int a3)] [] M := fun hb => by
        replace h := ip hb h
        refine aw_bipush (v := (-14)) E dX9_sheet_41 (by decide) ?_
        replace h := Option.some.inj h
        subst h
        exact aw_iret E dX9_sheet_43 hr
      have J12 : b9 = false → AW Y (WY g) r 5 2 44 [(0, .ref (wad (WY g) 0)), (1, .int a1), (2, .int a2), (3, .int a3)] [] M := fun hb => by
        replace h := iq (bf hb) h
        refine aw_aload_n E dX9_sheet_44 0 rfl ?_
        refine aw_getR (q := 9) E flX9_38 (Nat.le_of_ble_eq_true rfl) rfl rfl dX9_sheet_45 ?_
        refine aw_iload_n E dX9_sheet_48 1 rfl ?_
        refine aw_iload_n E dX9_sheet_49 2 rfl ?_
        obtain ⟨g13, h⟩ := gi_e h
        obtain ⟨M14, e15, h⟩ := lt_e h
        refine aw_iast1 e15 E (Nat.le_of_ble_eq_true rfl) rfl g13 dX9_sheet_50 ?_
        refine aw_aload_n E dX9_sheet_51 0 rfl ?_
        refine aw_getR (q := 10) E flX9_41 (Nat.le_of_ble_eq_true rfl) rfl rfl dX9_sheet_52 ?_
        refine aw_iload_n E dX9_sheet_55 1 rfl ?_
        refine aw_iload_n E dX9_sheet_56 2 rfl ?_
        refine aw_iconst (v := (-1)) E dX9_sheet_57 (by decide) ?_
        obtain ⟨q16, e17, h⟩ := lt_e h
        have J18 : AW Y (WY g) r 5 2 66 [(0, .ref (wad (WY g) 0)), (1, .int a1)] [.int q16, .int a1, .ref (wad (WY g) 10)] M14 := by
          obtain ⟨g19, h⟩ := gi_e h
          obtain ⟨M20, e21, h⟩ := lt_e h
          refine aw_iast1 e21 E (Nat.le_of_ble_eq_true rfl) rfl g19 dX9_sheet_66 ?_
          refine aw_iconst (v := 0) E dX9_sheet_67 (by decide) ?_
          refine aw_istore (L1 := [(4, .int 0), (0, .ref (wad (WY g) 0)), (1, .int a1)]) E dX9_sheet_68 (Nat.le_of_ble_eq_true rfl) rfl ?_
          obtain ⟨q22, e23, h⟩ := bd_e h
          refine aw_sub (L1 := [(0, .ref (wad (WY g) 0)), (1, .int a1), (4, .int 0)]) [1, 2, 0] rfl ?_
          refine lpX9_sheet_70 E   a1 FU 0 M20 q22 e23 ?_
          refine aw_iconst (v := 1) E dX9_sheet_96 (by decide) ?_
          replace h := Option.some.inj h
          subst h
          exact aw_iret E dX9_sheet_97 hr
        refine aw_icmp_ne (tgt := 65) E dX9_sheet_58 rfl (fun c58 => ?_) (fun c58 => ?_)
        ·
          replace e17 := iq c58 e17
          refine aw_iload_n E dX9_sheet_65 3 rfl ?_
          refine aw_sub (L1 := [(0, .ref (wad (WY g) 0)), (1, .int a1)]) [0, 1] rfl ?_
          subst e17
          exact J18
        ·
          replace e17 := ip c58 e17
          refine aw_iconst (v := 0) E dX9_sheet_61 (by decide) ?_
          refine aw_goto (tgt := 66) E dX9_sheet_62 rfl ?_
          refine aw_sub (L1 := [(0, .ref (wad (WY g) 0)), (1, .int a1)]) [0, 1] rfl ?_
          subst e17
          exact J18
      refine aw_icmp_eq (tgt := 44) E dX9_sheet_34 rfl (fun c34 => ?_) (fun c34 => ?_)
      ·
        replace e10 := ip c34 e10
        subst e10
        exact J12 rfl
      ·
        replace e10 := iq c34 e10
        refine aw_iload_n E dX9_sheet_37 3 rfl ?_
        refine aw_if_ge (tgt := 44) E dX9_sheet_38 rfl (fun c38 => ?_) (fun c38 => ?_)
        ·
          replace e10 := ip c38 e10
          subst e10
          exact J12 rfl
        ·
          replace e10 := iq c38 e10
          subst e10
          exact J11 rfl
    refine aw_icmp_eq (tgt := 32) E dX9_sheet_20 rfl (fun c20 => ?_) (fun c20 => ?_)
    ·
      replace e6 := ip c20 e6
      subst e6
      exact J8 rfl
    ·
      replace e6 := iq c20 e6
      refine aw_iload_n E dX9_sheet_23 3 rfl ?_
      refine aw_bipush (v := 40) E dX9_sheet_24 (by decide) ?_
      refine aw_icmp_le (tgt := 32) E dX9_sheet_26 rfl (fun c26 => ?_) (fun c26 => ?_)
      ·
        replace e6 := ip c26 e6
        subst e6
        exact J8 rfl
      ·
        replace e6 := iq c26 e6
        subst e6
        exact J7 rfl
  have J4 : b1 = false → AW Y (WY g) r 5 2 29 [(0, .ref (wad (WY g) 0)), (1, .int a1), (2, .int a2), (3, .int a3)] [] M := fun hb => by
    replace h := iq (bf hb) h
    refine aw_bipush (v := (-2)) E dX9_sheet_29 (by decide) ?_
    replace h := Option.some.inj h
    subst h
    exact aw_iret E dX9_sheet_31 hr
  refine aw_if_eq (tgt := 29) E dX9_sheet_6 rfl (fun c6 => ?_) (fun c6 => ?_)
  ·
    replace e2 := ip c6 e2
    subst e2
    exact J4 rfl
  ·
    replace e2 := iq c6 e2
    refine aw_iload_n E dX9_sheet_9 2 rfl ?_
    refine aw_iconst (v := (-1)) E dX9_sheet_10 (by decide) ?_
    refine aw_iconst (v := 2) E dX9_sheet_11 (by decide) ?_
    refine aw_callSi (S := []) E msX9_in mlX9_88 rfl (ctX9_in (yl Y) g a2 (-1) 2  M ) rfl (Nat.le_of_ble_eq_true rfl) (Nat.le_of_ble_eq_true rfl) dX9_sheet_12 ?_
    refine aw_if_eq (tgt := 29) E dX9_sheet_15 rfl (fun c15 => ?_) (fun c15 => ?_)
    ·
      replace e2 := ip c15 e2
      subst e2
      exact J4 rfl
    ·
      replace e2 := iq c15 e2
      subst e2
      exact J3 rfl
def FX9_show_L55 : Nat → Int32 → Int32 → Mem → Option (Mem)
  | 0, _, _, _ => none
  | f + 1, p2, p3, M =>
    if 40 ≤ p3 then
      some M
    else
      ob (α := Int32) (if (M.1 0 44) ≤ p3 then
        some 0
      else
        gi p3 12 <|
        some (M.1 21 (Int32.toNatClampNeg p3))) fun q101 =>
      gi ((40 * p2) + p3) 160 <|
      lt (wr M 11 (Int32.toNatClampNeg ((40 * p2) + p3)) q101) fun M105 =>
      lt (α := Int32) (p3 + 1) fun x107 =>
      FX9_show_L55 f p2 x107 M105
def FX9_show (a1 : Int32) (a2 : Int32) (M : Mem) : Option (Int32 × Mem) :=
  ob (FX9_isOther a1 M) fun q1 =>
  if q1 = 0 then
    some ((-5), M)
  else
    if (FX9_in a2 0 3) = 0 then
      some ((-2), M)
    else
      ob (FX9_finds ((1 : Int32) <<< (a1 &&& 31)) (-1) M) fun q3 =>
      if q3.1 = 0 then
        some ((-1), q3.2)
      else
        gi a2 4 <|
        lt (wr q3.2 9 (Int32.toNatClampNeg a2) 2) fun M6 =>
        gi a2 4 <|
        lt (wr M6 10 (Int32.toNatClampNeg a2) (M6.1 0 44)) fun M9 =>
        ob (FX9_show_L55 FU a2 0 M9) fun q11 =>
        some (q11.1 0 44, q11)
set_option maxHeartbeats 4000000 in
set_option maxRecDepth 100000 in
theorem lpX9_show_55 {Y : CtxM} {g : CtxG} {r : Option Value × Mem} (E : EV Y (WY g) cX9_show 4 (some .int) RX9) (p2 : Int32) : ∀ (f : Nat) (p3 : Int32) (M : Mem) (q : Mem), FX9_show_L55 f p2 p3 M = some q → AW Y (WY g) r 4 6 96 [(0, .ref (wad (WY g) 0))] [] q → AW Y (WY g) r 4 6 55 [(0, .ref (wad (WY g) 0)), (2, .int p2), (3, .int p3)] [] M := by
  intro f
  induction f with
  | zero => intro p3 M q hh; exact absurd hh (fun z => nomatch (show (none : Option (Mem)) = some q from z))
  | succ f ih =>
    intro p3 M q hh kx
    rw [FX9_show_L55] at hh
    refine aw_iload_n E dX9_show_55 2 rfl ?_
    refine aw_bipush (v := 40) E dX9_show_56 (by decide) ?_
    refine aw_icmp_ge (tgt := 96) E dX9_show_58 rfl (fun c58 => ?_) (fun c58 => ?_)
    ·
      replace hh := ip c58 hh
      refine aw_sub (L1 := [(0, .ref (wad (WY g) 0))]) [0] rfl ?_
      replace hh := Option.some.inj hh
      subst hh
      exact kx
    ·
      replace hh := iq c58 hh
      refine aw_aload_n E dX9_show_61 0 rfl ?_
      refine aw_getR (q := 11) E flX9_44 (Nat.le_of_ble_eq_true rfl) rfl rfl dX9_show_62 ?_
      refine aw_bipush (v := 40) E dX9_show_65 (by decide) ?_
      refine aw_iload_n E dX9_show_67 1 rfl ?_
      refine aw_imul E dX9_show_68 ?_
      refine aw_iload_n E dX9_show_69 2 rfl ?_
      refine aw_iadd E dX9_show_70 ?_
      refine aw_iload_n E dX9_show_71 2 rfl ?_
      refine aw_aload_n E dX9_show_72 0 rfl ?_
      refine aw_getI E flX9_248 (Nat.le_of_ble_eq_true rfl) rfl rfl dX9_show_73 ?_
      obtain ⟨q101, e102, hh⟩ := bd_e hh
      have J103 : AW Y (WY g) r 4 6 89 [(0, .ref (wad (WY g) 0)), (2, .int p2), (3, .int p3)] [.int q101, .int ((40 * p2) + p3), .ref (wad (WY g) 11)] M := by
        obtain ⟨g104, hh⟩ := gi_e hh
        obtain ⟨M105, e106, hh⟩ := lt_e hh
        refine aw_iast1 e106 E (Nat.le_of_ble_eq_true rfl) rfl g104 dX9_show_89 ?_
        obtain ⟨x107, e108, hh⟩ := lt_e hh
        refine aw_iinc (v := x107) (L1 := [(3, .int x107), (0, .ref (wad (WY g) 0)), (2, .int p2)]) E dX9_show_90 2 rfl e108 (Nat.le_of_ble_eq_true rfl) rfl ?_
        refine aw_goto (tgt := 55) E dX9_show_93 rfl ?_
        refine aw_sub (L1 := [(0, .ref (wad (WY g) 0)), (2, .int p2), (3, .int x107)]) [1, 2, 0] rfl ?_
        exact ih x107 M105 _ hh kx
      refine aw_icmp_ge (tgt := 88) E dX9_show_76 rfl (fun c76 => ?_) (fun c76 => ?_)
      ·
        replace e102 := ip c76 e102
        refine aw_iconst (v := 0) E dX9_show_88 (by decide) ?_
        refine aw_sub (L1 := [(0, .ref (wad (WY g) 0)), (2, .int p2), (3, .int p3)]) [0, 1, 2] rfl ?_
        replace e102 := Option.some.inj e102
        subst e102
        exact J103
      ·
        replace e102 := iq c76 e102
        refine aw_aload_n E dX9_show_79 0 rfl ?_
        refine aw_getR (q := 21) E flX9_75 (Nat.le_of_ble_eq_true rfl) rfl rfl dX9_show_80 ?_
        refine aw_iload_n E dX9_show_83 2 rfl ?_
        obtain ⟨g109, e102⟩ := gi_e e102
        refine aw_iald E (Nat.le_of_ble_eq_true rfl) rfl g109 dX9_show_84 ?_
        refine aw_goto (tgt := 89) E dX9_show_85 rfl ?_
        refine aw_sub (L1 := [(0, .ref (wad (WY g) 0)), (2, .int p2), (3, .int p3)]) [0, 1, 2] rfl ?_
        replace e102 := Option.some.inj e102
        subst e102
        exact J103
set_option maxHeartbeats 4000000 in
set_option maxRecDepth 100000 in
theorem ctX9_show (l : Launch) (g : CtxG) (a1 : Int32) (a2 : Int32) (M : Mem) (r0 : Int32 × Mem) (h : FX9_show a1 a2 M = some r0) : Ct l (WY g) yX9_show cX9_show 4 (some .int) 6 [.ref (wad (WY g) 0), .int a1, .int a2] M (some (.int r0.1), r0.2) := by
  refine Ct.of (by decide) (Nat.le_of_ble_eq_true rfl) (fun Y hY E => ?_)
  have E : EV Y (WY g) cX9_show 4 (some .int) RX9 := E
  have h : FX9_show a1 a2 M = some r0 := h
  unfold FX9_show at h
  show AW Y (WY g) _ 4 6 0 [(0, .ref (wad (WY g) 0)), (1, .int a1), (2, .int a2)] [] M
  obtain ⟨r, hr⟩ : ∃ r : Option Value × Mem, r = (some (.int r0.1), r0.2) := ⟨_, rfl⟩
  rw [← hr]
  refine aw_aload_n E dX9_show_0 0 rfl ?_
  refine aw_iload_n E dX9_show_1 1 rfl ?_
  obtain ⟨q1, e2, h⟩ := bd_e h
  refine aw_callVi (S := []) E mvX9_isOther mlX9_257 (Nat.le_of_ble_eq_true rfl) rfl rfl rfl (ctX9_isOther (yl Y) g a1  M q1 e2) rfl (Nat.le_of_ble_eq_true rfl) (Nat.le_of_ble_eq_true rfl) dX9_show_2 ?_
  refine aw_if_ne (tgt := 11) E dX9_show_5 rfl (fun c5 => ?_) (fun c5 => ?_)
  ·
    replace h := iq c5 h
    refine aw_iload_n E dX9_show_11 2 rfl ?_
    refine aw_iconst (v := 0) E dX9_show_12 (by decide) ?_
    refine aw_iconst (v := 3) E dX9_show_13 (by decide) ?_
    refine aw_callSi (S := []) E msX9_in mlX9_88 rfl (ctX9_in (yl Y) g a2 0 3  M ) rfl (Nat.le_of_ble_eq_true rfl) (Nat.le_of_ble_eq_true rfl) dX9_show_14 ?_
    refine aw_if_ne (tgt := 23) E dX9_show_17 rfl (fun c17 => ?_) (fun c17 => ?_)
    ·
      replace h := iq c17 h
      refine aw_aload_n E dX9_show_23 0 rfl ?_
      refine aw_iconst (v := 1) E dX9_show_24 (by decide) ?_
      refine aw_iload_n E dX9_show_25 1 rfl ?_
      refine aw_ishl E dX9_show_26 ?_
      refine aw_iconst (v := (-1)) E dX9_show_27 (by decide) ?_
      obtain ⟨q3, e4, h⟩ := bd_e h
      refine aw_callVi (S := []) E mvX9_finds mlX9_260 (Nat.le_of_ble_eq_true rfl) rfl rfl rfl (ctX9_finds (yl Y) g ((1 : Int32) <<< (a1 &&& 31)) (-1)  M q3 e4) rfl (Nat.le_of_ble_eq_true rfl) (Nat.le_of_ble_eq_true rfl) dX9_show_28 ?_
      refine aw_if_ne (tgt := 36) E dX9_show_31 rfl (fun c31 => ?_) (fun c31 => ?_)
      ·
        replace h := iq c31 h
        refine aw_aload_n E dX9_show_36 0 rfl ?_
        refine aw_getR (q := 9) E flX9_38 (Nat.le_of_ble_eq_true rfl) rfl rfl dX9_show_37 ?_
        refine aw_iload_n E dX9_show_40 2 rfl ?_
        refine aw_iconst (v := 2) E dX9_show_41 (by decide) ?_
        obtain ⟨g5, h⟩ := gi_e h
        obtain ⟨M6, e7, h⟩ := lt_e h
        refine aw_iast1 e7 E (Nat.le_of_ble_eq_true rfl) rfl g5 dX9_show_42 ?_
        refine aw_aload_n E dX9_show_43 0 rfl ?_
        refine aw_getR (q := 10) E flX9_41 (Nat.le_of_ble_eq_true rfl) rfl rfl dX9_show_44 ?_
        refine aw_iload_n E dX9_show_47 2 rfl ?_
        refine aw_aload_n E dX9_show_48 0 rfl ?_
        refine aw_getI E flX9_248 (Nat.le_of_ble_eq_true rfl) rfl rfl dX9_show_49 ?_
        obtain ⟨g8, h⟩ := gi_e h
        obtain ⟨M9, e10, h⟩ := lt_e h
        refine aw_iast1 e10 E (Nat.le_of_ble_eq_true rfl) rfl g8 dX9_show_52 ?_
        refine aw_iconst (v := 0) E dX9_show_53 (by decide) ?_
        refine aw_istore_n (L1 := [(3, .int 0), (0, .ref (wad (WY g) 0)), (1, .int a1), (2, .int a2)]) E dX9_show_54 (Nat.le_of_ble_eq_true rfl) rfl ?_
        obtain ⟨q11, e12, h⟩ := bd_e h
        refine aw_sub (L1 := [(0, .ref (wad (WY g) 0)), (2, .int a2), (3, .int 0)]) [1, 3, 0] rfl ?_
        refine lpX9_show_55 E   a2 FU 0 M9 q11 e12 ?_
        refine aw_aload_n E dX9_show_96 0 rfl ?_
        refine aw_getI E flX9_248 (Nat.le_of_ble_eq_true rfl) rfl rfl dX9_show_97 ?_
        replace h := Option.some.inj h
        subst h
        exact aw_iret E dX9_show_100 hr
      ·
        replace h := ip c31 h
        refine aw_iconst (v := (-1)) E dX9_show_34 (by decide) ?_
        replace h := Option.some.inj h
        subst h
        exact aw_iret E dX9_show_35 hr
    ·
      replace h := ip c17 h
      refine aw_bipush (v := (-2)) E dX9_show_20 (by decide) ?_
      replace h := Option.some.inj h
      subst h
      exact aw_iret E dX9_show_22 hr
  ·
    replace h := ip c5 h
    refine aw_bipush (v := (-5)) E dX9_show_8 (by decide) ?_
    replace h := Option.some.inj h
    subst h
    exact aw_iret E dX9_show_10 hr
def FX9_street (a1 : Int32) (a2 : Int32) (a3 : Int32) (a4 : Int32) (M : Mem) : Option (Int32 × Mem) :=
  ob (α := Bool) (if (FX9_in a2 0 88) = 0 then some false else if 8 < (a2 - a2 / 10 * 10) then some false else if (a2 / 10) = (a2 - a2 / 10 * 10) then some false else some true) fun b1 =>
  lt (α := Int32) (if b1 = true then
    1
  else
    0) fun q3 =>
  lt (α := Bool) (if (FX9_in a1 0 5) = 0 then true else if q3 = 0 then true else if (FX9_in a3 1 99) = 0 then true else if (FX9_in a4 0 99) = 0 then true else false) fun b6 =>
  if b6 = true then
    some ((-2), M)
  else
    if (M.1 0 3) = 12 then
      some ((-4), M)
    else
      gi (M.1 0 3) 13 <|
      lt (wr M 1 (Int32.toNatClampNeg (M.1 0 3)) a1) fun M11 =>
      gi (M11.1 0 3) 13 <|
      lt (wr M11 2 (Int32.toNatClampNeg (M11.1 0 3)) (a2 / 10)) fun M14 =>
      gi (M14.1 0 3) 13 <|
      lt (wr M14 3 (Int32.toNatClampNeg (M14.1 0 3)) (a2 - a2 / 10 * 10)) fun M17 =>
      gi (M17.1 0 3) 13 <|
      lt (wr M17 4 (Int32.toNatClampNeg (M17.1 0 3)) a3) fun M20 =>
      gi (M20.1 0 3) 13 <|
      lt (wr M20 5 (Int32.toNatClampNeg (M20.1 0 3)) a4) fun M23 =>
      lt (wr M23 0 3 ((M23.1 0 3) + 1)) fun M25 =>
      some ((M25.1 0 3) - 1, M25)
set_option maxHeartbeats 4000000 in
set_option maxRecDepth 100000 in
theorem ctX9_street (l : Launch) (g : CtxG) (a1 : Int32) (a2 : Int32) (a3 : Int32) (a4 : Int32) (M : Mem) (r0 : Int32 × Mem) (h : FX9_street a1 a2 a3 a4 M = some r0) : Ct l (WY g) yX9_street cX9_street 6 (some .int) 2 [.ref (wad (WY g) 0), .int a1, .int a2, .int a3, .int a4] M (some (.int r0.1), r0.2) := by
  refine Ct.of (by decide) (Nat.le_of_ble_eq_true rfl) (fun Y hY E => ?_)
  have E : EV Y (WY g) cX9_street 6 (some .int) RX9 := E
  have h : FX9_street a1 a2 a3 a4 M = some r0 := h
  unfold FX9_street at h
  show AW Y (WY g) _ 6 2 0 [(0, .ref (wad (WY g) 0)), (1, .int a1), (2, .int a2), (3, .int a3), (4, .int a4)] [] M
  obtain ⟨r, hr⟩ : ∃ r : Option Value × Mem, r = (some (.int r0.1), r0.2) := ⟨_, rfl⟩
  rw [← hr]
  refine aw_iload_n E dX9_street_0 2 rfl ?_
  refine aw_iconst (v := 0) E dX9_street_1 (by decide) ?_
  refine aw_bipush (v := 88) E dX9_street_2 (by decide) ?_
  refine aw_callSi (S := []) E msX9_in mlX9_88 rfl (ctX9_in (yl Y) g a2 0 88  M ) rfl (Nat.le_of_ble_eq_true rfl) (Nat.le_of_ble_eq_true rfl) dX9_street_4 ?_
  obtain ⟨b1, e2, h⟩ := bd_e h
  obtain ⟨q3, e4, h⟩ := lt_e h
  have J5 : AW Y (WY g) r 6 2 35 [(0, .ref (wad (WY g) 0)), (1, .int a1), (2, .int a2), (3, .int a3), (4, .int a4)] [.int q3] M := by
    refine aw_istore (L1 := [(5, .int q3), (0, .ref (wad (WY g) 0)), (1, .int a1), (2, .int a2), (3, .int a3), (4, .int a4)]) E dX9_street_35 (Nat.le_of_ble_eq_true rfl) rfl ?_
    refine aw_iload_n E dX9_street_37 2 rfl ?_
    refine aw_iconst (v := 0) E dX9_street_38 (by decide) ?_
    refine aw_iconst (v := 5) E dX9_street_39 (by decide) ?_
    refine aw_callSi (S := []) E msX9_in mlX9_88 rfl (ctX9_in (yl Y) g a1 0 5  M ) rfl (Nat.le_of_ble_eq_true rfl) (Nat.le_of_ble_eq_true rfl) dX9_street_40 ?_
    obtain ⟨b6, e7, h⟩ := lt_e h
    have J8 : b6 = true → AW Y (WY g) r 6 2 72 [(5, .int q3), (0, .ref (wad (WY g) 0)), (1, .int a1), (2, .int a2), (3, .int a3), (4, .int a4)] [] M := fun hb => by
      replace h := ip hb h
      refine aw_bipush (v := (-2)) E dX9_street_72 (by decide) ?_
      replace h := Option.some.inj h
      subst h
      exact aw_iret E dX9_street_74 hr
    have J9 : b6 = false → AW Y (WY g) r 6 2 75 [(5, .int q3), (0, .ref (wad (WY g) 0)), (1, .int a1), (2, .int a2), (3, .int a3), (4, .int a4)] [] M := fun hb => by
      replace h := iq (bf hb) h
      refine aw_aload_n E dX9_street_75 1 rfl ?_
      refine aw_getI E flX9_92 (Nat.le_of_ble_eq_true rfl) rfl rfl dX9_street_76 ?_
      refine aw_bipush (v := 12) E dX9_street_79 (by decide) ?_
      refine aw_icmp_ne (tgt := 87) E dX9_street_81 rfl (fun c81 => ?_) (fun c81 => ?_)
      ·
        replace h := iq c81 h
        refine aw_aload_n E dX9_street_87 1 rfl ?_
        refine aw_getR (q := 1) E flX9_13 (Nat.le_of_ble_eq_true rfl) rfl rfl dX9_street_88 ?_
        refine aw_aload_n E dX9_street_91 1 rfl ?_
        refine aw_getI E flX9_92 (Nat.le_of_ble_eq_true rfl) rfl rfl dX9_street_92 ?_
        refine aw_iload_n E dX9_street_95 2 rfl ?_
        obtain ⟨g10, h⟩ := gi_e h
        obtain ⟨M11, e12, h⟩ := lt_e h
        refine aw_iast1 e12 E (Nat.le_of_ble_eq_true rfl) rfl g10 dX9_street_96 ?_
        refine aw_aload_n E dX9_street_97 1 rfl ?_
        refine aw_getR (q := 2) E flX9_17 (Nat.le_of_ble_eq_true rfl) rfl rfl dX9_street_98 ?_
        refine aw_aload_n E dX9_street_101 1 rfl ?_
        refine aw_getI E flX9_92 (Nat.le_of_ble_eq_true rfl) rfl rfl dX9_street_102 ?_
        refine aw_iload_n E dX9_street_105 3 rfl ?_
        refine aw_bipush (v := 10) E dX9_street_106 (by decide) ?_
        refine aw_idiv E dX9_street_108 (by decide) ?_
        obtain ⟨g13, h⟩ := gi_e h
        obtain ⟨M14, e15, h⟩ := lt_e h
        refine aw_iast1 e15 E (Nat.le_of_ble_eq_true rfl) rfl g13 dX9_street_109 ?_
        refine aw_aload_n E dX9_street_110 1 rfl ?_
        refine aw_getR (q := 3) E flX9_20 (Nat.le_of_ble_eq_true rfl) rfl rfl dX9_street_111 ?_
        refine aw_aload_n E dX9_street_114 1 rfl ?_
        refine aw_getI E flX9_92 (Nat.le_of_ble_eq_true rfl) rfl rfl dX9_street_115 ?_
        refine aw_iload_n E dX9_street_118 3 rfl ?_
        refine aw_bipush (v := 10) E dX9_street_119 (by decide) ?_
        refine aw_irem E dX9_street_121 (by decide) ?_
        obtain ⟨g16, h⟩ := gi_e h
        obtain ⟨M17, e18, h⟩ := lt_e h
        refine aw_iast1 e18 E (Nat.le_of_ble_eq_true rfl) rfl g16 dX9_street_122 ?_
        refine aw_aload_n E dX9_street_123 1 rfl ?_
        refine aw_getR (q := 4) E flX9_23 (Nat.le_of_ble_eq_true rfl) rfl rfl dX9_street_124 ?_
        refine aw_aload_n E dX9_street_127 1 rfl ?_
        refine aw_getI E flX9_92 (Nat.le_of_ble_eq_true rfl) rfl rfl dX9_street_128 ?_
        refine aw_iload_n E dX9_street_131 4 rfl ?_
        obtain ⟨g19, h⟩ := gi_e h
        obtain ⟨M20, e21, h⟩ := lt_e h
        refine aw_iast1 e21 E (Nat.le_of_ble_eq_true rfl) rfl g19 dX9_street_132 ?_
        refine aw_aload_n E dX9_street_133 1 rfl ?_
        refine aw_getR (q := 5) E flX9_26 (Nat.le_of_ble_eq_true rfl) rfl rfl dX9_street_134 ?_
        refine aw_aload_n E dX9_street_137 1 rfl ?_
        refine aw_getI E flX9_92 (Nat.le_of_ble_eq_true rfl) rfl rfl dX9_street_138 ?_
        refine aw_iload E dX9_street_141 5 rfl ?_
        obtain ⟨g22, h⟩ := gi_e h
        obtain ⟨M23, e24, h⟩ := lt_e h
        refine aw_iast1 e24 E (Nat.le_of_ble_eq_true rfl) rfl g22 dX9_street_143 ?_
        refine aw_aload_n E dX9_street_144 1 rfl ?_
        refine aw_dup E dX9_street_145 rfl ?_
        refine aw_getI E flX9_92 (Nat.le_of_ble_eq_true rfl) rfl rfl dX9_street_146 ?_
        refine aw_iconst (v := 1) E dX9_street_149 (by decide) ?_
        refine aw_iadd E dX9_street_150 ?_
        obtain ⟨M25, e26, h⟩ := lt_e h
        refine aw_putI1 e26 E flX9_92 (Nat.le_of_ble_eq_true rfl) rfl rfl nr_int dX9_street_151 ?_
        refine aw_aload_n E dX9_street_154 1 rfl ?_
        refine aw_getI E flX9_92 (Nat.le_of_ble_eq_true rfl) rfl rfl dX9_street_155 ?_
        refine aw_iconst (v := 1) E dX9_street_158 (by decide) ?_
        refine aw_isub E dX9_street_159 ?_
        replace h := Option.some.inj h
        subst h
        exact aw_iret E dX9_street_160 hr
      ·
        replace h := ip c81 h
        refine aw_bipush (v := (-4)) E dX9_street_84 (by decide) ?_
        replace h := Option.some.inj h
        subst h
        exact aw_iret E dX9_street_86 hr
    refine aw_if_eq (tgt := 72) E dX9_street_43 rfl (fun c43 => ?_) (fun c43 => ?_)
    ·
      replace e7 := ip c43 e7
      subst e7
      exact J8 rfl
    ·
      replace e7 := iq c43 e7
      refine aw_iload E dX9_street_46 0 rfl ?_
      refine aw_if_eq (tgt := 72) E dX9_street_48 rfl (fun c48 => ?_) (fun c48 => ?_)
      ·
        replace e7 := ip c48 e7
        subst e7
        exact J8 rfl
      ·
        replace e7 := iq c48 e7
        refine aw_iload_n E dX9_street_51 4 rfl ?_
        refine aw_iconst (v := 1) E dX9_street_52 (by decide) ?_
        refine aw_bipush (v := 99) E dX9_street_53 (by decide) ?_
        refine aw_callSi (S := []) E msX9_in mlX9_88 rfl (ctX9_in (yl Y) g a3 1 99  M ) rfl (Nat.le_of_ble_eq_true rfl) (Nat.le_of_ble_eq_true rfl) dX9_street_55 ?_
        refine aw_if_eq (tgt := 72) E dX9_street_58 rfl (fun c58 => ?_) (fun c58 => ?_)
        ·
          replace e7 := ip c58 e7
          subst e7
          exact J8 rfl
        ·
          replace e7 := iq c58 e7
          refine aw_iload E dX9_street_61 5 rfl ?_
          refine aw_iconst (v := 0) E dX9_street_63 (by decide) ?_
          refine aw_bipush (v := 99) E dX9_street_64 (by decide) ?_
          refine aw_callSi (S := []) E msX9_in mlX9_88 rfl (ctX9_in (yl Y) g a4 0 99  M ) rfl (Nat.le_of_ble_eq_true rfl) (Nat.le_of_ble_eq_true rfl) dX9_street_66 ?_
          refine aw_if_ne (tgt := 75) E dX9_street_69 rfl (fun c69 => ?_) (fun c69 => ?_)
          ·
            replace e7 := iq c69 e7
            subst e7
            exact J9 rfl
          ·
            replace e7 := ip c69 e7
            subst e7
            exact J8 rfl
  have J27 : b1 = true → AW Y (WY g) r 6 2 30 [(0, .ref (wad (WY g) 0)), (1, .int a1), (2, .int a2), (3, .int a3), (4, .int a4)] [] M := fun hb => by
    replace e4 := ip hb e4
    refine aw_iconst (v := 1) E dX9_street_30 (by decide) ?_
    refine aw_goto (tgt := 35) E dX9_street_31 rfl ?_
    refine aw_sub (L1 := [(0, .ref (wad (WY g) 0)), (1, .int a1), (2, .int a2), (3, .int a3), (4, .int a4)]) [0, 1, 2, 3, 4] rfl ?_
    subst e4
    exact J5
  have J28 : b1 = false → AW Y (WY g) r 6 2 34 [(0, .ref (wad (WY g) 0)), (1, .int a1), (2, .int a2), (3, .int a3), (4, .int a4)] [] M := fun hb => by
    replace e4 := iq (bf hb) e4
    refine aw_iconst (v := 0) E dX9_street_34 (by decide) ?_
    refine aw_sub (L1 := [(0, .ref (wad (WY g) 0)), (1, .int a1), (2, .int a2), (3, .int a3), (4, .int a4)]) [0, 1, 2, 3, 4] rfl ?_
    subst e4
    exact J5
  refine aw_if_eq (tgt := 34) E dX9_street_7 rfl (fun c7 => ?_) (fun c7 => ?_)
  ·
    replace e2 := ip c7 e2
    replace e2 := Option.some.inj e2
    subst e2
    exact J28 rfl
  ·
    replace e2 := iq c7 e2
    refine aw_iload_n E dX9_street_10 2 rfl ?_
    refine aw_bipush (v := 10) E dX9_street_11 (by decide) ?_
    refine aw_irem E dX9_street_13 (by decide) ?_
    refine aw_bipush (v := 8) E dX9_street_14 (by decide) ?_
    refine aw_icmp_gt (tgt := 34) E dX9_street_16 rfl (fun c16 => ?_) (fun c16 => ?_)
    ·
      replace e2 := ip c16 e2
      replace e2 := Option.some.inj e2
      subst e2
      exact J28 rfl
    ·
      replace e2 := iq c16 e2
      refine aw_iload_n E dX9_street_19 2 rfl ?_
      refine aw_bipush (v := 10) E dX9_street_20 (by decide) ?_
      refine aw_idiv E dX9_street_22 (by decide) ?_
      refine aw_iload_n E dX9_street_23 2 rfl ?_
      refine aw_bipush (v := 10) E dX9_street_24 (by decide) ?_
      refine aw_irem E dX9_street_26 (by decide) ?_
      refine aw_icmp_eq (tgt := 34) E dX9_street_27 rfl (fun c27 => ?_) (fun c27 => ?_)
      ·
        replace e2 := ip c27 e2
        replace e2 := Option.some.inj e2
        subst e2
        exact J28 rfl
      ·
        replace e2 := iq c27 e2
        replace e2 := Option.some.inj e2
        subst e2
        exact J27 rfl
def FX9_streetsBy_L64 : Nat → Int32 → Int32 → Int32 → Int32 → Int32 → Mem → Option (Int32 × Mem ⊕ (Int32 × Mem))
  | 0, _, _, _, _, _, _ => none
  | f + 1, p1, p3, p4, p5, p6, M =>
    if p4 ≤ p6 then
      some (.inr (p5, M))
    else
      lt (α := Int32) (p3 + (4 * p6)) fun x101 =>
      ob (α := Bool) (if p3 < 0 then
        some true
      else
        if x101 < p3 then
          some true
        else
          gi p1 4 <|
          if x101 ≤ ((M.1 10 (Int32.toNatClampNeg p1)) - 4) then some false else some true) fun b103 =>
      if b103 = true then
        some (.inl ((-12), M))
      else
        lt (α := Int32) ((40 * p1) + x101) fun x107 =>
        gi x107 160 <|
        gi (x107 + 1) 160 <|
        gi (x107 + 2) 160 <|
        gi (x107 + 3) 160 <|
        ob (FX9_street (M.1 11 (Int32.toNatClampNeg x107)) (M.1 11 (Int32.toNatClampNeg (x107 + 1))) (M.1 11 (Int32.toNatClampNeg (x107 + 2))) (M.1 11 (Int32.toNatClampNeg (x107 + 3))) M) fun q113 =>
        lt (α := Int32) (if q113.1 < 0 then
          0
        else
          1) fun q115 =>
        lt (α := Int32) (p5 + q115) fun x118 =>
        lt (α := Int32) (p6 + 1) fun x120 =>
        FX9_streetsBy_L64 f p1 p3 p4 x118 x120 q113.2
def FX9_streetsBy (a1 : Int32) (a2 : Int32) (a3 : Int32) (a4 : Int32) (M : Mem) : Option (Int32 × Mem) :=
  lt (α := Bool) (if (FX9_in a1 0 3) = 0 then true else if (FX9_in a2 0 2) = 0 then true else if (FX9_in a4 0 10) = 0 then true else false) fun b1 =>
  if b1 = true then
    some ((-2), M)
  else
    gi a1 4 <|
    if (M.1 9 (Int32.toNatClampNeg a1)) = (-1) then
      some ((-11), M)
    else
      gi a1 4 <|
      if (M.1 9 (Int32.toNatClampNeg a1)) = a2 then
        ob (FX9_streetsBy_L64 FU a1 a3 a4 0 0 M) fun q7 => Sum.elim (fun v9 => some v9) (fun q11 =>
          some (q11.1, q11.2)) q7
      else
        some ((-13), M)
set_option maxHeartbeats 4000000 in
set_option maxRecDepth 100000 in
theorem lpX9_streetsBy_64 {Y : CtxM} {g : CtxG} {r : Option Value × Mem} (E : EV Y (WY g) cX9_streetsBy 9 (some .int) RX9) (p1 : Int32) (p3 : Int32) (p4 : Int32) : ∀ (f : Nat) (p5 : Int32) (p6 : Int32) (M : Mem) (q : Int32 × Mem ⊕ (Int32 × Mem)), FX9_streetsBy_L64 f p1 p3 p4 p5 p6 M = some q → (∀ v, q = .inl v → r = (some (.int v.1), v.2)) → (∀ t, q = .inr t → AW Y (WY g) r 9 3 171 [(5, .int t.1)] [] t.2) → AW Y (WY g) r 9 3 64 [(0, .ref (wad (WY g) 0)), (1, .int p1), (3, .int p3), (4, .int p4), (5, .int p5), (6, .int p6)] [] M := by
  intro f
  induction f with
  | zero => intro p5 p6 M q hh; exact absurd hh (fun z => nomatch (show (none : Option (Int32 × Mem ⊕ (Int32 × Mem))) = some q from z))
  | succ f ih =>
    intro p5 p6 M q hh kr kx
    rw [FX9_streetsBy_L64] at hh
    refine aw_iload E dX9_streetsBy_64 5 rfl ?_
    refine aw_iload E dX9_streetsBy_66 3 rfl ?_
    refine aw_icmp_ge (tgt := 171) E dX9_streetsBy_68 rfl (fun c68 => ?_) (fun c68 => ?_)
    ·
      replace hh := ip c68 hh
      refine aw_sub (L1 := [(5, .int p5)]) [4] rfl ?_
      replace hh := Option.some.inj hh
      subst hh
      exact kx _ rfl
    ·
      replace hh := iq c68 hh
      refine aw_iload_n E dX9_streetsBy_71 2 rfl ?_
      refine aw_iconst (v := 4) E dX9_streetsBy_72 (by decide) ?_
      refine aw_iload E dX9_streetsBy_73 5 rfl ?_
      refine aw_imul E dX9_streetsBy_75 ?_
      refine aw_iadd E dX9_streetsBy_76 ?_
      obtain ⟨x101, e102, hh⟩ := lt_e hh
      refine aw_nmI e102 ?_
      refine aw_istore (L1 := [(7, .int x101), (0, .ref (wad (WY g) 0)), (1, .int p1), (3, .int p3), (4, .int p4), (5, .int p5), (6, .int p6)]) E dX9_streetsBy_77 (Nat.le_of_ble_eq_true rfl) rfl ?_
      refine aw_iload_n E dX9_streetsBy_79 3 rfl ?_
      obtain ⟨b103, e104, hh⟩ := bd_e hh
      have J105 : b103 = true → AW Y (WY g) r 9 3 102 [(7, .int x101), (0, .ref (wad (WY g) 0)), (1, .int p1), (3, .int p3), (4, .int p4), (5, .int p5), (6, .int p6)] [] M := fun hb => by
        replace hh := ip hb hh
        refine aw_bipush (v := (-12)) E dX9_streetsBy_102 (by decide) ?_
        replace hh := Option.some.inj hh
        subst hh
        exact aw_iret E dX9_streetsBy_104 (kr _ rfl)
      have J106 : b103 = false → AW Y (WY g) r 9 3 105 [(7, .int x101), (0, .ref (wad (WY g) 0)), (1, .int p1), (3, .int p3), (4, .int p4), (5, .int p5), (6, .int p6)] [] M := fun hb => by
        replace hh := iq (bf hb) hh
        refine aw_bipush (v := 40) E dX9_streetsBy_105 (by decide) ?_
        refine aw_iload_n E dX9_streetsBy_107 2 rfl ?_
        refine aw_imul E dX9_streetsBy_108 ?_
        refine aw_iload E dX9_streetsBy_109 0 rfl ?_
        refine aw_iadd E dX9_streetsBy_111 ?_
        obtain ⟨x107, e108, hh⟩ := lt_e hh
        refine aw_nmI e108 ?_
        refine aw_istore (L1 := [(8, .int x107), (7, .int x101), (0, .ref (wad (WY g) 0)), (1, .int p1), (3, .int p3), (4, .int p4), (5, .int p5), (6, .int p6)]) E dX9_streetsBy_112 (Nat.le_of_ble_eq_true rfl) rfl ?_
        refine aw_iload E dX9_streetsBy_114 6 rfl ?_
        refine aw_aload_n E dX9_streetsBy_116 2 rfl ?_
        refine aw_aload_n E dX9_streetsBy_117 2 rfl ?_
        refine aw_getR (q := 11) E flX9_44 (Nat.le_of_ble_eq_true rfl) rfl rfl dX9_streetsBy_118 ?_
        refine aw_iload E dX9_streetsBy_121 0 rfl ?_
        obtain ⟨g109, hh⟩ := gi_e hh
        refine aw_iald E (Nat.le_of_ble_eq_true rfl) rfl g109 dX9_streetsBy_123 ?_
        refine aw_aload_n E dX9_streetsBy_124 2 rfl ?_
        refine aw_getR (q := 11) E flX9_44 (Nat.le_of_ble_eq_true rfl) rfl rfl dX9_streetsBy_125 ?_
        refine aw_iload E dX9_streetsBy_128 0 rfl ?_
        refine aw_iconst (v := 1) E dX9_streetsBy_130 (by decide) ?_
        refine aw_iadd E dX9_streetsBy_131 ?_
        obtain ⟨g110, hh⟩ := gi_e hh
        refine aw_iald E (Nat.le_of_ble_eq_true rfl) rfl g110 dX9_streetsBy_132 ?_
        refine aw_aload_n E dX9_streetsBy_133 2 rfl ?_
        refine aw_getR (q := 11) E flX9_44 (Nat.le_of_ble_eq_true rfl) rfl rfl dX9_streetsBy_134 ?_
        refine aw_iload E dX9_streetsBy_137 0 rfl ?_
        refine aw_iconst (v := 2) E dX9_streetsBy_139 (by decide) ?_
        refine aw_iadd E dX9_streetsBy_140 ?_
        obtain ⟨g111, hh⟩ := gi_e hh
        refine aw_iald E (Nat.le_of_ble_eq_true rfl) rfl g111 dX9_streetsBy_141 ?_
        refine aw_aload_n E dX9_streetsBy_142 2 rfl ?_
        refine aw_getR (q := 11) E flX9_44 (Nat.le_of_ble_eq_true rfl) rfl rfl dX9_streetsBy_143 ?_
        refine aw_iload E dX9_streetsBy_146 0 rfl ?_
        refine aw_iconst (v := 3) E dX9_streetsBy_148 (by decide) ?_
        refine aw_iadd E dX9_streetsBy_149 ?_
        obtain ⟨g112, hh⟩ := gi_e hh
        refine aw_iald E (Nat.le_of_ble_eq_true rfl) rfl g112 dX9_streetsBy_150 ?_
        obtain ⟨q113, e114, hh⟩ := bd_e hh
        refine aw_callVi (S := [.int p5]) E mvX9_street mlX9_359 (Nat.le_of_ble_eq_true rfl) rfl rfl rfl (ctX9_street (yl Y) g (M.1 11 (Int32.toNatClampNeg x107)) (M.1 11 (Int32.toNatClampNeg (x107 + 1))) (M.1 11 (Int32.toNatClampNeg (x107 + 2))) (M.1 11 (Int32.toNatClampNeg (x107 + 3)))  M q113 e114) rfl (Nat.le_of_ble_eq_true rfl) (Nat.le_of_ble_eq_true rfl) dX9_streetsBy_151 ?_
        obtain ⟨q115, e116, hh⟩ := lt_e hh
        have J117 : AW Y (WY g) r 9 3 162 [(0, .ref (wad (WY g) 0)), (1, .int p1), (3, .int p3), (4, .int p4), (6, .int p6)] [.int q115, .int p5] q113.2 := by
          refine aw_iadd E dX9_streetsBy_162 ?_
          obtain ⟨x118, e119, hh⟩ := lt_e hh
          refine aw_nmI e119 ?_
          refine aw_istore (L1 := [(5, .int x118), (0, .ref (wad (WY g) 0)), (1, .int p1), (3, .int p3), (4, .int p4), (6, .int p6)]) E dX9_streetsBy_163 (Nat.le_of_ble_eq_true rfl) rfl ?_
          obtain ⟨x120, e121, hh⟩ := lt_e hh
          refine aw_iinc (v := x120) (L1 := [(6, .int x120), (5, .int x118), (0, .ref (wad (WY g) 0)), (1, .int p1), (3, .int p3), (4, .int p4)]) E dX9_streetsBy_165 5 rfl e121 (Nat.le_of_ble_eq_true rfl) rfl ?_
          refine aw_goto (tgt := 64) E dX9_streetsBy_168 rfl ?_
          refine aw_sub (L1 := [(0, .ref (wad (WY g) 0)), (1, .int p1), (3, .int p3), (4, .int p4), (5, .int x118), (6, .int x120)]) [2, 3, 4, 5, 1, 0] rfl ?_
          exact ih x118 x120 q113.2 _ hh kr kx
        refine aw_if_lt (tgt := 161) E dX9_streetsBy_154 rfl (fun c154 => ?_) (fun c154 => ?_)
        ·
          replace e116 := ip c154 e116
          refine aw_iconst (v := 0) E dX9_streetsBy_161 (by decide) ?_
          refine aw_sub (L1 := [(0, .ref (wad (WY g) 0)), (1, .int p1), (3, .int p3), (4, .int p4), (6, .int p6)]) [2, 3, 4, 5, 7] rfl ?_
          subst e116
          exact J117
        ·
          replace e116 := iq c154 e116
          refine aw_iconst (v := 1) E dX9_streetsBy_157 (by decide) ?_
          refine aw_goto (tgt := 162) E dX9_streetsBy_158 rfl ?_
          refine aw_sub (L1 := [(0, .ref (wad (WY g) 0)), (1, .int p1), (3, .int p3), (4, .int p4), (6, .int p6)]) [2, 3, 4, 5, 7] rfl ?_
          subst e116
          exact J117
      refine aw_if_lt (tgt := 102) E dX9_streetsBy_80 rfl (fun c80 => ?_) (fun c80 => ?_)
      ·
        replace e104 := ip c80 e104
        replace e104 := Option.some.inj e104
        subst e104
        exact J105 rfl
      ·
        replace e104 := iq c80 e104
        refine aw_iload E dX9_streetsBy_83 0 rfl ?_
        refine aw_iload_n E dX9_streetsBy_85 3 rfl ?_
        refine aw_icmp_lt (tgt := 102) E dX9_streetsBy_86 rfl (fun c86 => ?_) (fun c86 => ?_)
        ·
          replace e104 := ip c86 e104
          replace e104 := Option.some.inj e104
          subst e104
          exact J105 rfl
        ·
          replace e104 := iq c86 e104
          refine aw_iload E dX9_streetsBy_89 0 rfl ?_
          refine aw_aload_n E dX9_streetsBy_91 1 rfl ?_
          refine aw_getR (q := 10) E flX9_41 (Nat.le_of_ble_eq_true rfl) rfl rfl dX9_streetsBy_92 ?_
          refine aw_iload_n E dX9_streetsBy_95 2 rfl ?_
          obtain ⟨g122, e104⟩ := gi_e e104
          refine aw_iald E (Nat.le_of_ble_eq_true rfl) rfl g122 dX9_streetsBy_96 ?_
          refine aw_iconst (v := 4) E dX9_streetsBy_97 (by decide) ?_
          refine aw_isub E dX9_streetsBy_98 ?_
          refine aw_icmp_le (tgt := 105) E dX9_streetsBy_99 rfl (fun c99 => ?_) (fun c99 => ?_)
          ·
            replace e104 := ip c99 e104
            replace e104 := Option.some.inj e104
            subst e104
            exact J106 rfl
          ·
            replace e104 := iq c99 e104
            replace e104 := Option.some.inj e104
            subst e104
            exact J105 rfl
set_option maxHeartbeats 4000000 in
set_option maxRecDepth 100000 in
theorem ctX9_streetsBy (l : Launch) (g : CtxG) (a1 : Int32) (a2 : Int32) (a3 : Int32) (a4 : Int32) (M : Mem) (r0 : Int32 × Mem) (h : FX9_streetsBy a1 a2 a3 a4 M = some r0) : Ct l (WY g) yX9_streetsBy cX9_streetsBy 9 (some .int) 3 [.ref (wad (WY g) 0), .int a1, .int a2, .int a3, .int a4] M (some (.int r0.1), r0.2) := by
  refine Ct.of (by decide) (Nat.le_of_ble_eq_true rfl) (fun Y hY E => ?_)
  have E : EV Y (WY g) cX9_streetsBy 9 (some .int) RX9 := E
  have h : FX9_streetsBy a1 a2 a3 a4 M = some r0 := h
  unfold FX9_streetsBy at h
  show AW Y (WY g) _ 9 3 0 [(0, .ref (wad (WY g) 0)), (1, .int a1), (2, .int a2), (3, .int a3), (4, .int a4)] [] M
  obtain ⟨r, hr⟩ : ∃ r : Option Value × Mem, r = (some (.int r0.1), r0.2) := ⟨_, rfl⟩
  rw [← hr]
  refine aw_iload_n E dX9_streetsBy_0 1 rfl ?_
  refine aw_iconst (v := 0) E dX9_streetsBy_1 (by decide) ?_
  refine aw_iconst (v := 3) E dX9_streetsBy_2 (by decide) ?_
  refine aw_callSi (S := []) E msX9_in mlX9_88 rfl (ctX9_in (yl Y) g a1 0 3  M ) rfl (Nat.le_of_ble_eq_true rfl) (Nat.le_of_ble_eq_true rfl) dX9_streetsBy_3 ?_
  obtain ⟨b1, e2, h⟩ := lt_e h
  have J3 : b1 = true → AW Y (WY g) r 9 3 29 [(0, .ref (wad (WY g) 0)), (1, .int a1), (2, .int a2), (3, .int a3), (4, .int a4)] [] M := fun hb => by
    replace h := ip hb h
    refine aw_bipush (v := (-2)) E dX9_streetsBy_29 (by decide) ?_
    replace h := Option.some.inj h
    subst h
    exact aw_iret E dX9_streetsBy_31 hr
  have J4 : b1 = false → AW Y (WY g) r 9 3 32 [(0, .ref (wad (WY g) 0)), (1, .int a1), (2, .int a2), (3, .int a3), (4, .int a4)] [] M := fun hb => by
    replace h := iq (bf hb) h
    refine aw_aload_n E dX9_streetsBy_32 0 rfl ?_
    refine aw_getR (q := 9) E flX9_38 (Nat.le_of_ble_eq_true rfl) rfl rfl dX9_streetsBy_33 ?_
    refine aw_iload_n E dX9_streetsBy_36 1 rfl ?_
    obtain ⟨g5, h⟩ := gi_e h
    refine aw_iald E (Nat.le_of_ble_eq_true rfl) rfl g5 dX9_streetsBy_37 ?_
    refine aw_iconst (v := (-1)) E dX9_streetsBy_38 (by decide) ?_
    refine aw_icmp_ne (tgt := 45) E dX9_streetsBy_39 rfl (fun c39 => ?_) (fun c39 => ?_)
    ·
      replace h := iq c39 h
      refine aw_aload_n E dX9_streetsBy_45 0 rfl ?_
      refine aw_getR (q := 9) E flX9_38 (Nat.le_of_ble_eq_true rfl) rfl rfl dX9_streetsBy_46 ?_
      refine aw_iload_n E dX9_streetsBy_49 1 rfl ?_
      obtain ⟨g6, h⟩ := gi_e h
      refine aw_iald E (Nat.le_of_ble_eq_true rfl) rfl g6 dX9_streetsBy_50 ?_
      refine aw_iload_n E dX9_streetsBy_51 2 rfl ?_
      refine aw_icmp_eq (tgt := 58) E dX9_streetsBy_52 rfl (fun c52 => ?_) (fun c52 => ?_)
      ·
        replace h := ip c52 h
        refine aw_iconst (v := 0) E dX9_streetsBy_58 (by decide) ?_
        refine aw_istore (L1 := [(5, .int 0), (0, .ref (wad (WY g) 0)), (1, .int a1), (2, .int a2), (3, .int a3), (4, .int a4)]) E dX9_streetsBy_59 (Nat.le_of_ble_eq_true rfl) rfl ?_
        refine aw_iconst (v := 0) E dX9_streetsBy_61 (by decide) ?_
        refine aw_istore (L1 := [(6, .int 0), (5, .int 0), (0, .ref (wad (WY g) 0)), (1, .int a1), (2, .int a2), (3, .int a3), (4, .int a4)]) E dX9_streetsBy_62 (Nat.le_of_ble_eq_true rfl) rfl ?_
        obtain ⟨q7, e8, h⟩ := bd_e h
        refine aw_sub (L1 := [(0, .ref (wad (WY g) 0)), (1, .int a1), (3, .int a3), (4, .int a4), (5, .int 0), (6, .int 0)]) [2, 3, 5, 6, 1, 0] rfl ?_
        refine lpX9_streetsBy_64 E   a1 a3 a4 FU 0 0 M q7 e8 (fun v9 e10 => ?_) (fun q11 e12 => ?_)
        ·
          subst e10
          replace h := Option.some.inj h
          subst h
          exact hr
        ·
          subst e12
          refine aw_iload E dX9_streetsBy_171 0 rfl ?_
          replace h := Option.some.inj h
          subst h
          exact aw_iret E dX9_streetsBy_173 hr
      ·
        replace h := iq c52 h
        refine aw_bipush (v := (-13)) E dX9_streetsBy_55 (by decide) ?_
        replace h := Option.some.inj h
        subst h
        exact aw_iret E dX9_streetsBy_57 hr
    ·
      replace h := ip c39 h
      refine aw_bipush (v := (-11)) E dX9_streetsBy_42 (by decide) ?_
      replace h := Option.some.inj h
      subst h
      exact aw_iret E dX9_streetsBy_44 hr
  refine aw_if_eq (tgt := 29) E dX9_streetsBy_6 rfl (fun c6 => ?_) (fun c6 => ?_)
  ·
    replace e2 := ip c6 e2
    subst e2
    exact J3 rfl
  ·
    replace e2 := iq c6 e2
    refine aw_iload_n E dX9_streetsBy_9 2 rfl ?_
    refine aw_iconst (v := 0) E dX9_streetsBy_10 (by decide) ?_
    refine aw_iconst (v := 2) E dX9_streetsBy_11 (by decide) ?_
    refine aw_callSi (S := []) E msX9_in mlX9_88 rfl (ctX9_in (yl Y) g a2 0 2  M ) rfl (Nat.le_of_ble_eq_true rfl) (Nat.le_of_ble_eq_true rfl) dX9_streetsBy_12 ?_
    refine aw_if_eq (tgt := 29) E dX9_streetsBy_15 rfl (fun c15 => ?_) (fun c15 => ?_)
    ·
      replace e2 := ip c15 e2
      subst e2
      exact J3 rfl
    ·
      replace e2 := iq c15 e2
      refine aw_iload E dX9_streetsBy_18 4 rfl ?_
      refine aw_iconst (v := 0) E dX9_streetsBy_20 (by decide) ?_
      refine aw_bipush (v := 10) E dX9_streetsBy_21 (by decide) ?_
      refine aw_callSi (S := []) E msX9_in mlX9_88 rfl (ctX9_in (yl Y) g a4 0 10  M ) rfl (Nat.le_of_ble_eq_true rfl) (Nat.le_of_ble_eq_true rfl) dX9_streetsBy_23 ?_
      refine aw_if_ne (tgt := 32) E dX9_streetsBy_26 rfl (fun c26 => ?_) (fun c26 => ?_)
      ·
        replace e2 := iq c26 e2
        subst e2
        exact J4 rfl
      ·
        replace e2 := ip c26 e2
        subst e2
        exact J3 rfl
def FX9_taken_L37 : Nat → Int32 → Int32 → Int32 → Mem → Option (Int32)
  | 0, _, _, _, _ => none
  | f + 1, p1, p3, p4, M =>
    if (M.1 0 3) ≤ p4 then
      some p3
    else
      gi p4 13 <|
      ob (α := Bool) (if (M.1 2 (Int32.toNatClampNeg p4)) = p1 then
        some true
      else
        gi p4 13 <|
        if (M.1 3 (Int32.toNatClampNeg p4)) = p1 then some true else some false) fun b102 =>
      lt (α := Int32) (if b102 = true then
        1
      else
        0) fun q104 =>
      lt (α := Int32) (p3 + q104) fun x107 =>
      lt (α := Int32) (p4 + 1) fun x109 =>
      FX9_taken_L37 f p1 x107 x109 M
def FX9_taken (a1 : Int32) (a2 : Int32) (M : Mem) : Option (Int32) :=
  if (FX9_in a2 0 6) = 0 then
    some (-2)
  else
    if (FX9_in a1 0 20) = 0 then
      some (-12)
    else
      if 9 ≤ a1 then
        if (a1 - 9) < (M.1 0 3) then
          ob (α := Bool) (if 6 ≤ a2 then
            some false
          else
            gi (a1 - 9) 13 <|
            if (FX9_isUnder (M.1 1 (Int32.toNatClampNeg (a1 - 9))) a2) = 0 then some false else some true) fun b1 =>
          if b1 = true then
            some (a1 - 9)
          else
            some (-13)
        else
          some (-11)
      else
        ob (FX9_taken_L37 FU a1 0 0 M) fun q6 =>
        if a2 = 6 then
          some q6
        else
          some (-13)
set_option maxHeartbeats 4000000 in
set_option maxRecDepth 100000 in
theorem lpX9_taken_37 {Y : CtxM} {g : CtxG} {r : Option Value × Mem} (E : EV Y (WY g) cX9_taken 5 (some .int) RX9) (p1 : Int32) (p2 : Int32) : ∀ (f : Nat) (p3 : Int32) (p4 : Int32) (M : Mem) (q : Int32), FX9_taken_L37 f p1 p3 p4 M = some q → AW Y (WY g) r 5 2 82 [(2, .int p2), (3, .int q)] [] M → AW Y (WY g) r 5 2 37 [(0, .ref (wad (WY g) 0)), (1, .int p1), (2, .int p2), (3, .int p3), (4, .int p4)] [] M := by
  intro f
  induction f with
  | zero => intro p3 p4 M q hh; exact absurd hh (fun z => nomatch (show (none : Option (Int32)) = some q from z))
  | succ f ih =>
    intro p3 p4 M q hh kx
    rw [FX9_taken_L37] at hh
    refine aw_iload E dX9_taken_37 4 rfl ?_
    refine aw_aload_n E dX9_taken_39 0 rfl ?_
    refine aw_getI E flX9_92 (Nat.le_of_ble_eq_true rfl) rfl rfl dX9_taken_40 ?_
    refine aw_icmp_ge (tgt := 82) E dX9_taken_43 rfl (fun c43 => ?_) (fun c43 => ?_)
    ·
      replace hh := ip c43 hh
      refine aw_sub (L1 := [(2, .int p2), (3, .int p3)]) [2, 3] rfl ?_
      replace hh := Option.some.inj hh
      subst hh
      exact kx
    ·
      replace hh := iq c43 hh
      refine aw_iload_n E dX9_taken_46 3 rfl ?_
      refine aw_aload_n E dX9_taken_47 0 rfl ?_
      refine aw_getR (q := 2) E flX9_17 (Nat.le_of_ble_eq_true rfl) rfl rfl dX9_taken_48 ?_
      refine aw_iload E dX9_taken_51 4 rfl ?_
      obtain ⟨g101, hh⟩ := gi_e hh
      refine aw_iald E (Nat.le_of_ble_eq_true rfl) rfl g101 dX9_taken_53 ?_
      refine aw_iload_n E dX9_taken_54 1 rfl ?_
      obtain ⟨b102, e103, hh⟩ := bd_e hh
      obtain ⟨q104, e105, hh⟩ := lt_e hh
      have J106 : AW Y (WY g) r 5 2 74 [(0, .ref (wad (WY g) 0)), (1, .int p1), (2, .int p2), (4, .int p4)] [.int q104, .int p3] M := by
        refine aw_iadd E dX9_taken_74 ?_
        obtain ⟨x107, e108, hh⟩ := lt_e hh
        refine aw_nmI e108 ?_
        refine aw_istore_n (L1 := [(3, .int x107), (0, .ref (wad (WY g) 0)), (1, .int p1), (2, .int p2), (4, .int p4)]) E dX9_taken_75 (Nat.le_of_ble_eq_true rfl) rfl ?_
        obtain ⟨x109, e110, hh⟩ := lt_e hh
        refine aw_iinc (v := x109) (L1 := [(4, .int x109), (3, .int x107), (0, .ref (wad (WY g) 0)), (1, .int p1), (2, .int p2)]) E dX9_taken_76 4 rfl e110 (Nat.le_of_ble_eq_true rfl) rfl ?_
        refine aw_goto (tgt := 37) E dX9_taken_79 rfl ?_
        refine aw_sub (L1 := [(0, .ref (wad (WY g) 0)), (1, .int p1), (2, .int p2), (3, .int x107), (4, .int x109)]) [2, 3, 4, 1, 0] rfl ?_
        exact ih x107 x109 M _ hh kx
      have J111 : b102 = true → AW Y (WY g) r 5 2 69 [(0, .ref (wad (WY g) 0)), (1, .int p1), (2, .int p2), (3, .int p3), (4, .int p4)] [.int p3] M := fun hb => by
        replace e105 := ip hb e105
        refine aw_iconst (v := 1) E dX9_taken_69 (by decide) ?_
        refine aw_goto (tgt := 74) E dX9_taken_70 rfl ?_
        refine aw_sub (L1 := [(0, .ref (wad (WY g) 0)), (1, .int p1), (2, .int p2), (4, .int p4)]) [0, 1, 2, 4] rfl ?_
        subst e105
        exact J106
      have J112 : b102 = false → AW Y (WY g) r 5 2 73 [(0, .ref (wad (WY g) 0)), (1, .int p1), (2, .int p2), (3, .int p3), (4, .int p4)] [.int p3] M := fun hb => by
        replace e105 := iq (bf hb) e105
        refine aw_iconst (v := 0) E dX9_taken_73 (by decide) ?_
        refine aw_sub (L1 := [(0, .ref (wad (WY g) 0)), (1, .int p1), (2, .int p2), (4, .int p4)]) [0, 1, 2, 4] rfl ?_
        subst e105
        exact J106
      refine aw_icmp_eq (tgt := 69) E dX9_taken_55 rfl (fun c55 => ?_) (fun c55 => ?_)
      ·
        replace e103 := ip c55 e103
        replace e103 := Option.some.inj e103
        subst e103
        exact J111 rfl
      ·
        replace e103 := iq c55 e103
        refine aw_aload_n E dX9_taken_58 0 rfl ?_
        refine aw_getR (q := 3) E flX9_20 (Nat.le_of_ble_eq_true rfl) rfl rfl dX9_taken_59 ?_
        refine aw_iload E dX9_taken_62 4 rfl ?_
        obtain ⟨g113, e103⟩ := gi_e e103
        refine aw_iald E (Nat.le_of_ble_eq_true rfl) rfl g113 dX9_taken_64 ?_
        refine aw_iload_n E dX9_taken_65 1 rfl ?_
        refine aw_icmp_ne (tgt := 73) E dX9_taken_66 rfl (fun c66 => ?_) (fun c66 => ?_)
        ·
          replace e103 := iq c66 e103
          replace e103 := Option.some.inj e103
          subst e103
          exact J112 rfl
        ·
          replace e103 := ip c66 e103
          replace e103 := Option.some.inj e103
          subst e103
          exact J111 rfl
set_option maxHeartbeats 4000000 in
set_option maxRecDepth 100000 in
theorem ctX9_taken (l : Launch) (g : CtxG) (a1 : Int32) (a2 : Int32) (M : Mem) (r0 : Int32) (h : FX9_taken a1 a2 M = some r0) : Ct l (WY g) yX9_taken cX9_taken 5 (some .int) 2 [.ref (wad (WY g) 0), .int a1, .int a2] M (some (.int r0), M) := by
  refine Ct.of (by decide) (Nat.le_of_ble_eq_true rfl) (fun Y hY E => ?_)
  have E : EV Y (WY g) cX9_taken 5 (some .int) RX9 := E
  have h : FX9_taken a1 a2 M = some r0 := h
  unfold FX9_taken at h
  show AW Y (WY g) _ 5 2 0 [(0, .ref (wad (WY g) 0)), (1, .int a1), (2, .int a2)] [] M
  obtain ⟨r, hr⟩ : ∃ r : Option Value × Mem, r = (some (.int r0), M) := ⟨_, rfl⟩
  rw [← hr]
  refine aw_iload_n E dX9_taken_0 2 rfl ?_
  refine aw_iconst (v := 0) E dX9_taken_1 (by decide) ?_
  refine aw_bipush (v := 6) E dX9_taken_2 (by decide) ?_
  refine aw_callSi (S := []) E msX9_in mlX9_88 rfl (ctX9_in (yl Y) g a2 0 6  M ) rfl (Nat.le_of_ble_eq_true rfl) (Nat.le_of_ble_eq_true rfl) dX9_taken_4 ?_
  refine aw_if_ne (tgt := 13) E dX9_taken_7 rfl (fun c7 => ?_) (fun c7 => ?_)
  ·
    replace h := iq c7 h
    refine aw_iload_n E dX9_taken_13 1 rfl ?_
    refine aw_iconst (v := 0) E dX9_taken_14 (by decide) ?_
    refine aw_bipush (v := 20) E dX9_taken_15 (by decide) ?_
    refine aw_callSi (S := []) E msX9_in mlX9_88 rfl (ctX9_in (yl Y) g a1 0 20  M ) rfl (Nat.le_of_ble_eq_true rfl) (Nat.le_of_ble_eq_true rfl) dX9_taken_17 ?_
    refine aw_if_ne (tgt := 26) E dX9_taken_20 rfl (fun c20 => ?_) (fun c20 => ?_)
    ·
      replace h := iq c20 h
      refine aw_iload_n E dX9_taken_26 1 rfl ?_
      refine aw_bipush (v := 9) E dX9_taken_27 (by decide) ?_
      refine aw_icmp_ge (tgt := 95) E dX9_taken_29 rfl (fun c29 => ?_) (fun c29 => ?_)
      ·
        replace h := ip c29 h
        refine aw_iload_n E dX9_taken_95 1 rfl ?_
        refine aw_bipush (v := 9) E dX9_taken_96 (by decide) ?_
        refine aw_isub E dX9_taken_98 ?_
        refine aw_aload_n E dX9_taken_99 0 rfl ?_
        refine aw_getI E flX9_92 (Nat.le_of_ble_eq_true rfl) rfl rfl dX9_taken_100 ?_
        refine aw_icmp_lt (tgt := 111) E dX9_taken_103 rfl (fun c103 => ?_) (fun c103 => ?_)
        ·
          replace h := ip c103 h
          refine aw_iload_n E dX9_taken_111 2 rfl ?_
          refine aw_bipush (v := 6) E dX9_taken_112 (by decide) ?_
          obtain ⟨b1, e2, h⟩ := bd_e h
          have J3 : b1 = true → AW Y (WY g) r 5 2 133 [(0, .ref (wad (WY g) 0)), (1, .int a1), (2, .int a2)] [] M := fun hb => by
            replace h := ip hb h
            refine aw_iload_n E dX9_taken_133 1 rfl ?_
            refine aw_bipush (v := 9) E dX9_taken_134 (by decide) ?_
            refine aw_isub E dX9_taken_136 ?_
            refine aw_goto (tgt := 142) E dX9_taken_137 rfl ?_
            replace h := Option.some.inj h
            subst h
            exact aw_iret E dX9_taken_142 hr
          have J4 : b1 = false → AW Y (WY g) r 5 2 140 [(0, .ref (wad (WY g) 0)), (1, .int a1), (2, .int a2)] [] M := fun hb => by
            replace h := iq (bf hb) h
            refine aw_bipush (v := (-13)) E dX9_taken_140 (by decide) ?_
            replace h := Option.some.inj h
            subst h
            exact aw_iret E dX9_taken_142 hr
          refine aw_icmp_ge (tgt := 140) E dX9_taken_114 rfl (fun c114 => ?_) (fun c114 => ?_)
          ·
            replace e2 := ip c114 e2
            replace e2 := Option.some.inj e2
            subst e2
            exact J4 rfl
          ·
            replace e2 := iq c114 e2
            refine aw_aload_n E dX9_taken_117 0 rfl ?_
            refine aw_getR (q := 1) E flX9_13 (Nat.le_of_ble_eq_true rfl) rfl rfl dX9_taken_118 ?_
            refine aw_iload_n E dX9_taken_121 1 rfl ?_
            refine aw_bipush (v := 9) E dX9_taken_122 (by decide) ?_
            refine aw_isub E dX9_taken_124 ?_
            obtain ⟨g5, e2⟩ := gi_e e2
            refine aw_iald E (Nat.le_of_ble_eq_true rfl) rfl g5 dX9_taken_125 ?_
            refine aw_iload_n E dX9_taken_126 2 rfl ?_
            refine aw_callSi (S := []) E msX9_isUnder mlX9_363 rfl (ctX9_isUnder (yl Y) g (M.1 1 (Int32.toNatClampNeg (a1 - 9))) a2  M ) rfl (Nat.le_of_ble_eq_true rfl) (Nat.le_of_ble_eq_true rfl) dX9_taken_127 ?_
            refine aw_if_eq (tgt := 140) E dX9_taken_130 rfl (fun c130 => ?_) (fun c130 => ?_)
            ·
              replace e2 := ip c130 e2
              replace e2 := Option.some.inj e2
              subst e2
              exact J4 rfl
            ·
              replace e2 := iq c130 e2
              replace e2 := Option.some.inj e2
              subst e2
              exact J3 rfl
        ·
          replace h := iq c103 h
          refine aw_bipush (v := (-11)) E dX9_taken_106 (by decide) ?_
          refine aw_goto (tgt := 142) E dX9_taken_108 rfl ?_
          replace h := Option.some.inj h
          subst h
          exact aw_iret E dX9_taken_142 hr
      ·
        replace h := iq c29 h
        refine aw_iconst (v := 0) E dX9_taken_32 (by decide) ?_
        refine aw_istore_n (L1 := [(3, .int 0), (0, .ref (wad (WY g) 0)), (1, .int a1), (2, .int a2)]) E dX9_taken_33 (Nat.le_of_ble_eq_true rfl) rfl ?_
        refine aw_iconst (v := 0) E dX9_taken_34 (by decide) ?_
        refine aw_istore (L1 := [(4, .int 0), (3, .int 0), (0, .ref (wad (WY g) 0)), (1, .int a1), (2, .int a2)]) E dX9_taken_35 (Nat.le_of_ble_eq_true rfl) rfl ?_
        obtain ⟨q6, e7, h⟩ := bd_e h
        refine aw_sub (L1 := [(0, .ref (wad (WY g) 0)), (1, .int a1), (2, .int a2), (3, .int 0), (4, .int 0)]) [2, 3, 4, 1, 0] rfl ?_
        refine lpX9_taken_37 E   a1 a2 FU 0 0 M q6 e7 ?_
        refine aw_iload_n E dX9_taken_82 0 rfl ?_
        refine aw_bipush (v := 6) E dX9_taken_83 (by decide) ?_
        refine aw_icmp_ne (tgt := 92) E dX9_taken_85 rfl (fun c85 => ?_) (fun c85 => ?_)
        ·
          replace h := iq c85 h
          refine aw_bipush (v := (-13)) E dX9_taken_92 (by decide) ?_
          replace h := Option.some.inj h
          subst h
          exact aw_iret E dX9_taken_94 hr
        ·
          replace h := ip c85 h
          refine aw_iload_n E dX9_taken_88 1 rfl ?_
          refine aw_goto (tgt := 94) E dX9_taken_89 rfl ?_
          replace h := Option.some.inj h
          subst h
          exact aw_iret E dX9_taken_94 hr
    ·
      replace h := ip c20 h
      refine aw_bipush (v := (-12)) E dX9_taken_23 (by decide) ?_
      replace h := Option.some.inj h
      subst h
      exact aw_iret E dX9_taken_25 hr
  ·
    replace h := ip c7 h
    refine aw_bipush (v := (-2)) E dX9_taken_10 (by decide) ?_
    replace h := Option.some.inj h
    subst h
    exact aw_iret E dX9_taken_12 hr
def FX9_text_L26 : Nat → Int32 → Int32 → Mem → Option (Int32 × Mem)
  | 0, _, _, _ => none
  | f + 1, p1, p2, M =>
    lt (α := Bool) (if 3 ≤ p2 then false else if p1 = 0 then false else true) fun b101 =>
    if b101 = true then
      ob (FX9_next M) fun q105 =>
      lt (α := Bool) (if (q105.1 0 29) = 3 then if (q105.1 0 30) = p2 then true else false else false) fun b107 =>
      lt (α := Int32) (if b107 = true then
        1
      else
        0) fun q109 =>
      gi ((4 * (q105.1 0 14)) + p2) 24 <|
      lt (wr q105 8 (Int32.toNatClampNeg ((4 * (q105.1 0 14)) + p2)) (q105.1 0 35)) fun M113 =>
      ob (α := Int32 × Mem) (if q109 = 0 then
        some (0, M113)
      else
        ob (FX9_eRead M113) fun q120 =>
        if q120.1 = 0 then
          some (0, q120.2)
        else
          some (1, q120.2)) fun q115 =>
      lt (α := Int32) (p2 + 1) fun x118 =>
      FX9_text_L26 f  q115.1 x118 q115.2
    else
      some (p1, M)
def FX9_text  (M : Mem) : Option (Int32 × Mem) :=
  if (M.1 0 14) = 6 then
    some ((-4), M)
  else
    lt (wr M 0 27 0) fun M1 =>
    lt (wr M1 0 35 0) fun M3 =>
    ob (FX9_text_L26 FU 1 0 M3) fun q5 =>
    ob (α := Int32 × Mem) (if q5.1 = 0 then
      some (q5.1, q5.2)
    else
      ob (FX9_next q5.2) fun q17 =>
      if (q17.1 0 29) = 0 then
        some (1, q17)
      else
        some (0, q17)) fun q7 =>
    gi ((4 * (q7.2.1 0 14)) + 3) 24 <|
    lt (wr q7.2 8 (Int32.toNatClampNeg ((4 * (q7.2.1 0 14)) + 3)) (q7.2.1 0 35)) fun M11 =>
    lt (wr M11 0 11 0) fun M13 =>
    if q7.1 = 0 then
      some ((-100) - (M13.1 0 28), M13)
    else
      lt (wr M13 0 14 ((M13.1 0 14) + 1)) fun M15 =>
      some ((M15.1 0 14) - 1, M15)
set_option maxHeartbeats 4000000 in
set_option maxRecDepth 100000 in
theorem lpX9_text_26 {Y : CtxM} {g : CtxG} {r : Option Value × Mem} (E : EV Y (WY g) cX9_text 3 (some .int) RX9) : ∀ (f : Nat) (p1 : Int32) (p2 : Int32) (M : Mem) (q : Int32 × Mem), FX9_text_L26 f  p1 p2 M = some q → AW Y (WY g) r 3 5 101 [(0, .ref (wad (WY g) 0)), (1, .int q.1)] [] q.2 → AW Y (WY g) r 3 5 26 [(0, .ref (wad (WY g) 0)), (1, .int p1), (2, .int p2)] [] M := by
  intro f
  induction f with
  | zero => intro p1 p2 M q hh; exact absurd hh (fun z => nomatch (show (none : Option (Int32 × Mem)) = some q from z))
  | succ f ih =>
    intro p1 p2 M q hh kx
    rw [FX9_text_L26] at hh
    refine aw_iload_n E dX9_text_26 2 rfl ?_
    refine aw_iconst (v := 3) E dX9_text_27 (by decide) ?_
    obtain ⟨b101, e102, hh⟩ := lt_e hh
    have J103 : b101 = true → AW Y (WY g) r 3 5 35 [(0, .ref (wad (WY g) 0)), (1, .int p1), (2, .int p2)] [] M := fun hb => by
      replace hh := ip hb hh
      refine aw_aload_n E dX9_text_35 0 rfl ?_
      obtain ⟨q105, e106, hh⟩ := bd_e hh
      refine aw_callVv (S := []) E mvX9_next mlX9_156 (Nat.le_of_ble_eq_true rfl) rfl rfl rfl (ctX9_next (yl Y) g   M q105 e106) rfl (Nat.le_of_ble_eq_true rfl) (Nat.le_of_ble_eq_true rfl) dX9_text_36 ?_
      refine aw_aload_n E dX9_text_39 0 rfl ?_
      refine aw_getI E flX9_124 (Nat.le_of_ble_eq_true rfl) rfl rfl dX9_text_40 ?_
      refine aw_iconst (v := 3) E dX9_text_43 (by decide) ?_
      obtain ⟨b107, e108, hh⟩ := lt_e hh
      obtain ⟨q109, e110, hh⟩ := lt_e hh
      have J111 : AW Y (WY g) r 3 5 60 [(0, .ref (wad (WY g) 0)), (2, .int p2)] [.int q109] q105 := by
        refine aw_istore_n (L1 := [(1, .int q109), (0, .ref (wad (WY g) 0)), (2, .int p2)]) E dX9_text_60 (Nat.le_of_ble_eq_true rfl) rfl ?_
        refine aw_aload_n E dX9_text_61 1 rfl ?_
        refine aw_getR (q := 8) E flX9_35 (Nat.le_of_ble_eq_true rfl) rfl rfl dX9_text_62 ?_
        refine aw_iconst (v := 4) E dX9_text_65 (by decide) ?_
        refine aw_aload_n E dX9_text_66 1 rfl ?_
        refine aw_getI E flX9_108 (Nat.le_of_ble_eq_true rfl) rfl rfl dX9_text_67 ?_
        refine aw_imul E dX9_text_70 ?_
        refine aw_iload_n E dX9_text_71 2 rfl ?_
        refine aw_iadd E dX9_text_72 ?_
        refine aw_aload_n E dX9_text_73 1 rfl ?_
        refine aw_getI E flX9_134 (Nat.le_of_ble_eq_true rfl) rfl rfl dX9_text_74 ?_
        obtain ⟨g112, hh⟩ := gi_e hh
        obtain ⟨M113, e114, hh⟩ := lt_e hh
        refine aw_iast1 e114 E (Nat.le_of_ble_eq_true rfl) rfl g112 dX9_text_77 ?_
        refine aw_iload_n E dX9_text_78 0 rfl ?_
        obtain ⟨q115, e116, hh⟩ := bd_e hh
        have J117 : AW Y (WY g) r 3 5 94 [(0, .ref (wad (WY g) 0)), (2, .int p2)] [.int q115.1] q115.2 := by
          refine aw_istore_n (L1 := [(1, .int q115.1), (0, .ref (wad (WY g) 0)), (2, .int p2)]) E dX9_text_94 (Nat.le_of_ble_eq_true rfl) rfl ?_
          obtain ⟨x118, e119, hh⟩ := lt_e hh
          refine aw_iinc (v := x118) (L1 := [(2, .int x118), (1, .int q115.1), (0, .ref (wad (WY g) 0))]) E dX9_text_95 2 rfl e119 (Nat.le_of_ble_eq_true rfl) rfl ?_
          refine aw_goto (tgt := 26) E dX9_text_98 rfl ?_
          refine aw_sub (L1 := [(0, .ref (wad (WY g) 0)), (1, .int q115.1), (2, .int x118)]) [2, 1, 0] rfl ?_
          exact ih q115.1 x118 q115.2 _ hh kx
        refine aw_if_eq (tgt := 93) E dX9_text_79 rfl (fun c79 => ?_) (fun c79 => ?_)
        ·
          replace e116 := ip c79 e116
          refine aw_iconst (v := 0) E dX9_text_93 (by decide) ?_
          refine aw_sub (L1 := [(0, .ref (wad (WY g) 0)), (2, .int p2)]) [1, 2] rfl ?_
          replace e116 := Option.some.inj e116
          subst e116
          exact J117
        ·
          replace e116 := iq c79 e116
          refine aw_aload_n E dX9_text_82 1 rfl ?_
          obtain ⟨q120, e121, e116⟩ := bd_e e116
          refine aw_callVi (S := []) E mvX9_eRead mlX9_169 (Nat.le_of_ble_eq_true rfl) rfl rfl rfl (ctX9_eRead (yl Y) g   M113 q120 e121) rfl (Nat.le_of_ble_eq_true rfl) (Nat.le_of_ble_eq_true rfl) dX9_text_83 ?_
          refine aw_if_eq (tgt := 93) E dX9_text_86 rfl (fun c86 => ?_) (fun c86 => ?_)
          ·
            replace e116 := ip c86 e116
            refine aw_iconst (v := 0) E dX9_text_93 (by decide) ?_
            refine aw_sub (L1 := [(0, .ref (wad (WY g) 0)), (2, .int p2)]) [1, 2] rfl ?_
            replace e116 := Option.some.inj e116
            subst e116
            exact J117
          ·
            replace e116 := iq c86 e116
            refine aw_iconst (v := 1) E dX9_text_89 (by decide) ?_
            refine aw_goto (tgt := 94) E dX9_text_90 rfl ?_
            refine aw_sub (L1 := [(0, .ref (wad (WY g) 0)), (2, .int p2)]) [1, 2] rfl ?_
            replace e116 := Option.some.inj e116
            subst e116
            exact J117
      have J122 : b107 = true → AW Y (WY g) r 3 5 55 [(0, .ref (wad (WY g) 0)), (1, .int p1), (2, .int p2)] [] q105 := fun hb => by
        replace e110 := ip hb e110
        refine aw_iconst (v := 1) E dX9_text_55 (by decide) ?_
        refine aw_goto (tgt := 60) E dX9_text_56 rfl ?_
        refine aw_sub (L1 := [(0, .ref (wad (WY g) 0)), (2, .int p2)]) [0, 2] rfl ?_
        subst e110
        exact J111
      have J123 : b107 = false → AW Y (WY g) r 3 5 59 [(0, .ref (wad (WY g) 0)), (1, .int p1), (2, .int p2)] [] q105 := fun hb => by
        replace e110 := iq (bf hb) e110
        refine aw_iconst (v := 0) E dX9_text_59 (by decide) ?_
        refine aw_sub (L1 := [(0, .ref (wad (WY g) 0)), (2, .int p2)]) [0, 2] rfl ?_
        subst e110
        exact J111
      refine aw_icmp_ne (tgt := 59) E dX9_text_44 rfl (fun c44 => ?_) (fun c44 => ?_)
      ·
        replace e108 := iq c44 e108
        subst e108
        exact J123 rfl
      ·
        replace e108 := ip c44 e108
        refine aw_aload_n E dX9_text_47 0 rfl ?_
        refine aw_getI E flX9_127 (Nat.le_of_ble_eq_true rfl) rfl rfl dX9_text_48 ?_
        refine aw_iload_n E dX9_text_51 2 rfl ?_
        refine aw_icmp_ne (tgt := 59) E dX9_text_52 rfl (fun c52 => ?_) (fun c52 => ?_)
        ·
          replace e108 := iq c52 e108
          subst e108
          exact J123 rfl
        ·
          replace e108 := ip c52 e108
          subst e108
          exact J122 rfl
    have J104 : b101 = false → AW Y (WY g) r 3 5 101 [(0, .ref (wad (WY g) 0)), (1, .int p1), (2, .int p2)] [] M := fun hb => by
      replace hh := iq (bf hb) hh
      refine aw_sub (L1 := [(0, .ref (wad (WY g) 0)), (1, .int p1)]) [0, 1] rfl ?_
      replace hh := Option.some.inj hh
      subst hh
      exact kx
    refine aw_icmp_ge (tgt := 101) E dX9_text_28 rfl (fun c28 => ?_) (fun c28 => ?_)
    ·
      replace e102 := ip c28 e102
      subst e102
      exact J104 rfl
    ·
      replace e102 := iq c28 e102
      refine aw_iload_n E dX9_text_31 1 rfl ?_
      refine aw_if_eq (tgt := 101) E dX9_text_32 rfl (fun c32 => ?_) (fun c32 => ?_)
      ·
        replace e102 := ip c32 e102
        subst e102
        exact J104 rfl
      ·
        replace e102 := iq c32 e102
        subst e102
        exact J103 rfl
set_option maxHeartbeats 4000000 in
set_option maxRecDepth 100000 in
theorem ctX9_text (l : Launch) (g : CtxG)  (M : Mem) (r0 : Int32 × Mem) (h : FX9_text M = some r0) : Ct l (WY g) yX9_text cX9_text 3 (some .int) 5 [.ref (wad (WY g) 0)] M (some (.int r0.1), r0.2) := by
  refine Ct.of (by decide) (Nat.le_of_ble_eq_true rfl) (fun Y hY E => ?_)
  have E : EV Y (WY g) cX9_text 3 (some .int) RX9 := E
  have h : FX9_text  M = some r0 := h
  unfold FX9_text at h
  show AW Y (WY g) _ 3 5 0 [(0, .ref (wad (WY g) 0))] [] M
  obtain ⟨r, hr⟩ : ∃ r : Option Value × Mem, r = (some (.int r0.1), r0.2) := ⟨_, rfl⟩
  rw [← hr]
  refine aw_aload_n E dX9_text_0 0 rfl ?_
  refine aw_getI E flX9_108 (Nat.le_of_ble_eq_true rfl) rfl rfl dX9_text_1 ?_
  refine aw_bipush (v := 6) E dX9_text_4 (by decide) ?_
  refine aw_icmp_ne (tgt := 12) E dX9_text_6 rfl (fun c6 => ?_) (fun c6 => ?_)
  ·
    replace h := iq c6 h
    refine aw_aload_n E dX9_text_12 0 rfl ?_
    refine aw_iconst (v := 0) E dX9_text_13 (by decide) ?_
    obtain ⟨M1, e2, h⟩ := lt_e h
    refine aw_putI1 e2 E flX9_118 (Nat.le_of_ble_eq_true rfl) rfl rfl nr_int dX9_text_14 ?_
    refine aw_aload_n E dX9_text_17 0 rfl ?_
    refine aw_iconst (v := 0) E dX9_text_18 (by decide) ?_
    obtain ⟨M3, e4, h⟩ := lt_e h
    refine aw_putI1 e4 E flX9_134 (Nat.le_of_ble_eq_true rfl) rfl rfl nr_int dX9_text_19 ?_
    refine aw_iconst (v := 1) E dX9_text_22 (by decide) ?_
    refine aw_istore_n (L1 := [(1, .int 1), (0, .ref (wad (WY g) 0))]) E dX9_text_23 (Nat.le_of_ble_eq_true rfl) rfl ?_
    refine aw_iconst (v := 0) E dX9_text_24 (by decide) ?_
    refine aw_istore_n (L1 := [(2, .int 0), (1, .int 1), (0, .ref (wad (WY g) 0))]) E dX9_text_25 (Nat.le_of_ble_eq_true rfl) rfl ?_
    obtain ⟨q5, e6, h⟩ := bd_e h
    refine aw_sub (L1 := [(0, .ref (wad (WY g) 0)), (1, .int 1), (2, .int 0)]) [2, 1, 0] rfl ?_
    refine lpX9_text_26 E    FU 1 0 M3 q5 e6 ?_
    refine aw_iload_n E dX9_text_101 1 rfl ?_
    obtain ⟨q7, e8, h⟩ := bd_e h
    have J9 : AW Y (WY g) r 3 5 122 [(0, .ref (wad (WY g) 0)), (1, .int q7.1)] [] q7.2 := by
      refine aw_aload_n E dX9_text_122 0 rfl ?_
      refine aw_getR (q := 8) E flX9_35 (Nat.le_of_ble_eq_true rfl) rfl rfl dX9_text_123 ?_
      refine aw_iconst (v := 4) E dX9_text_126 (by decide) ?_
      refine aw_aload_n E dX9_text_127 0 rfl ?_
      refine aw_getI E flX9_108 (Nat.le_of_ble_eq_true rfl) rfl rfl dX9_text_128 ?_
      refine aw_imul E dX9_text_131 ?_
      refine aw_iconst (v := 3) E dX9_text_132 (by decide) ?_
      refine aw_iadd E dX9_text_133 ?_
      refine aw_aload_n E dX9_text_134 0 rfl ?_
      refine aw_getI E flX9_134 (Nat.le_of_ble_eq_true rfl) rfl rfl dX9_text_135 ?_
      obtain ⟨g10, h⟩ := gi_e h
      obtain ⟨M11, e12, h⟩ := lt_e h
      refine aw_iast1 e12 E (Nat.le_of_ble_eq_true rfl) rfl g10 dX9_text_138 ?_
      refine aw_aload_n E dX9_text_139 0 rfl ?_
      refine aw_iconst (v := 0) E dX9_text_140 (by decide) ?_
      obtain ⟨M13, e14, h⟩ := lt_e h
      refine aw_putI1 e14 E flX9_81 (Nat.le_of_ble_eq_true rfl) rfl rfl nr_int dX9_text_141 ?_
      refine aw_iload_n E dX9_text_144 1 rfl ?_
      refine aw_if_ne (tgt := 156) E dX9_text_145 rfl (fun c145 => ?_) (fun c145 => ?_)
      ·
        replace h := iq c145 h
        refine aw_aload_n E dX9_text_156 0 rfl ?_
        refine aw_dup E dX9_text_157 rfl ?_
        refine aw_getI E flX9_108 (Nat.le_of_ble_eq_true rfl) rfl rfl dX9_text_158 ?_
        refine aw_iconst (v := 1) E dX9_text_161 (by decide) ?_
        refine aw_iadd E dX9_text_162 ?_
        obtain ⟨M15, e16, h⟩ := lt_e h
        refine aw_putI1 e16 E flX9_108 (Nat.le_of_ble_eq_true rfl) rfl rfl nr_int dX9_text_163 ?_
        refine aw_aload_n E dX9_text_166 0 rfl ?_
        refine aw_getI E flX9_108 (Nat.le_of_ble_eq_true rfl) rfl rfl dX9_text_167 ?_
        refine aw_iconst (v := 1) E dX9_text_170 (by decide) ?_
        refine aw_isub E dX9_text_171 ?_
        replace h := Option.some.inj h
        subst h
        exact aw_iret E dX9_text_172 hr
      ·
        replace h := ip c145 h
        refine aw_bipush (v := (-100)) E dX9_text_148 (by decide) ?_
        refine aw_aload_n E dX9_text_150 0 rfl ?_
        refine aw_getI E flX9_121 (Nat.le_of_ble_eq_true rfl) rfl rfl dX9_text_151 ?_
        refine aw_isub E dX9_text_154 ?_
        replace h := Option.some.inj h
        subst h
        exact aw_iret E dX9_text_155 hr
    refine aw_if_eq (tgt := 122) E dX9_text_102 rfl (fun c102 => ?_) (fun c102 => ?_)
    ·
      replace e8 := ip c102 e8
      refine aw_sub (L1 := [(0, .ref (wad (WY g) 0)), (1, .int q5.1)]) [0, 1] rfl ?_
      replace e8 := Option.some.inj e8
      subst e8
      exact J9
    ·
      replace e8 := iq c102 e8
      refine aw_aload_n E dX9_text_105 0 rfl ?_
      obtain ⟨q17, e18, e8⟩ := bd_e e8
      refine aw_callVv (S := []) E mvX9_next mlX9_156 (Nat.le_of_ble_eq_true rfl) rfl rfl rfl (ctX9_next (yl Y) g   q5.2 q17 e18) rfl (Nat.le_of_ble_eq_true rfl) (Nat.le_of_ble_eq_true rfl) dX9_text_106 ?_
      refine aw_aload_n E dX9_text_109 0 rfl ?_
      refine aw_getI E flX9_124 (Nat.le_of_ble_eq_true rfl) rfl rfl dX9_text_110 ?_
      refine aw_if_ne (tgt := 120) E dX9_text_113 rfl (fun c113 => ?_) (fun c113 => ?_)
      ·
        replace e8 := iq c113 e8
        refine aw_iconst (v := 0) E dX9_text_120 (by decide) ?_
        refine aw_istore_n (L1 := [(1, .int 0), (0, .ref (wad (WY g) 0))]) E dX9_text_121 (Nat.le_of_ble_eq_true rfl) rfl ?_
        refine aw_sub (L1 := [(0, .ref (wad (WY g) 0)), (1, .int 0)]) [1, 0] rfl ?_
        replace e8 := Option.some.inj e8
        subst e8
        exact J9
      ·
        replace e8 := ip c113 e8
        refine aw_iconst (v := 1) E dX9_text_116 (by decide) ?_
        refine aw_goto (tgt := 121) E dX9_text_117 rfl ?_
        refine aw_istore_n (L1 := [(1, .int 1), (0, .ref (wad (WY g) 0))]) E dX9_text_121 (Nat.le_of_ble_eq_true rfl) rfl ?_
        refine aw_sub (L1 := [(0, .ref (wad (WY g) 0)), (1, .int 1)]) [1, 0] rfl ?_
        replace e8 := Option.some.inj e8
        subst e8
        exact J9
  ·
    replace h := ip c6 h
    refine aw_bipush (v := (-4)) E dX9_text_9 (by decide) ?_
    replace h := Option.some.inj h
    subst h
    exact aw_iret E dX9_text_11 hr
def FX9_told (a1 : Int32) (a2 : Int32) (M : Mem) : Option (Int32) :=
  ob (FX9_isStreet a1 M) fun q1 =>
  if q1 = 0 then
    some (-5)
  else
    if a2 = 0 then
      gi a1 13 <|
      some (M.1 1 (Int32.toNatClampNeg a1))
    else if a2 = 1 then
      gi a1 13 <|
      some (M.1 2 (Int32.toNatClampNeg a1))
    else if a2 = 2 then
      gi a1 13 <|
      some (M.1 3 (Int32.toNatClampNeg a1))
    else if a2 = 3 then
      gi a1 13 <|
      some (M.1 4 (Int32.toNatClampNeg a1))
    else if a2 = 4 then
      gi a1 13 <|
      some (M.1 5 (Int32.toNatClampNeg a1))
    else if a2 = 5 then
      ob (FX9_spendsOf a1 M) fun q8 =>
      some q8
    else 
      some (-7)
set_option maxHeartbeats 4000000 in
set_option maxRecDepth 100000 in
theorem ctX9_told (l : Launch) (g : CtxG) (a1 : Int32) (a2 : Int32) (M : Mem) (r0 : Int32) (h : FX9_told a1 a2 M = some r0) : Ct l (WY g) yX9_told cX9_told 3 (some .int) 3 [.ref (wad (WY g) 0), .int a1, .int a2] M (some (.int r0), M) := by
  refine Ct.of (by decide) (Nat.le_of_ble_eq_true rfl) (fun Y hY E => ?_)
  have E : EV Y (WY g) cX9_told 3 (some .int) RX9 := E
  have h : FX9_told a1 a2 M = some r0 := h
  unfold FX9_told at h
  show AW Y (WY g) _ 3 3 0 [(0, .ref (wad (WY g) 0)), (1, .int a1), (2, .int a2)] [] M
  obtain ⟨r, hr⟩ : ∃ r : Option Value × Mem, r = (some (.int r0), M) := ⟨_, rfl⟩
  rw [← hr]
  refine aw_aload_n E dX9_told_0 0 rfl ?_
  refine aw_iload_n E dX9_told_1 1 rfl ?_
  obtain ⟨q1, e2, h⟩ := bd_e h
  refine aw_callVi (S := []) E mvX9_isStreet mlX9_187 (Nat.le_of_ble_eq_true rfl) rfl rfl rfl (ctX9_isStreet (yl Y) g a1  M q1 e2) rfl (Nat.le_of_ble_eq_true rfl) (Nat.le_of_ble_eq_true rfl) dX9_told_2 ?_
  refine aw_if_ne (tgt := 11) E dX9_told_5 rfl (fun c5 => ?_) (fun c5 => ?_)
  ·
    replace h := iq c5 h
    refine aw_iload_n E dX9_told_11 2 rfl ?_
    by_cases c12_0 : a2 = 0
    ·
      replace h := ip c12_0 h
      refine aw_tin (tgt := 52) (off := 40) E dX9_told_12 (by rw [c12_0]; decide) (by rw [c12_0]; decide) (by rw [c12_0]; decide) (by decide) ?_
      refine aw_aload_n E dX9_told_52 0 rfl ?_
      refine aw_getR (q := 1) E flX9_13 (Nat.le_of_ble_eq_true rfl) rfl rfl dX9_told_53 ?_
      refine aw_iload_n E dX9_told_56 1 rfl ?_
      obtain ⟨g3, h⟩ := gi_e h
      refine aw_iald E (Nat.le_of_ble_eq_true rfl) rfl g3 dX9_told_57 ?_
      replace h := Option.some.inj h
      subst h
      exact aw_iret E dX9_told_58 hr
    replace h := iq c12_0 h
    by_cases c12_1 : a2 = 1
    ·
      replace h := ip c12_1 h
      refine aw_tin (tgt := 59) (off := 47) E dX9_told_12 (by rw [c12_1]; decide) (by rw [c12_1]; decide) (by rw [c12_1]; decide) (by decide) ?_
      refine aw_aload_n E dX9_told_59 0 rfl ?_
      refine aw_getR (q := 2) E flX9_17 (Nat.le_of_ble_eq_true rfl) rfl rfl dX9_told_60 ?_
      refine aw_iload_n E dX9_told_63 1 rfl ?_
      obtain ⟨g4, h⟩ := gi_e h
      refine aw_iald E (Nat.le_of_ble_eq_true rfl) rfl g4 dX9_told_64 ?_
      replace h := Option.some.inj h
      subst h
      exact aw_iret E dX9_told_65 hr
    replace h := iq c12_1 h
    by_cases c12_2 : a2 = 2
    ·
      replace h := ip c12_2 h
      refine aw_tin (tgt := 66) (off := 54) E dX9_told_12 (by rw [c12_2]; decide) (by rw [c12_2]; decide) (by rw [c12_2]; decide) (by decide) ?_
      refine aw_aload_n E dX9_told_66 0 rfl ?_
      refine aw_getR (q := 3) E flX9_20 (Nat.le_of_ble_eq_true rfl) rfl rfl dX9_told_67 ?_
      refine aw_iload_n E dX9_told_70 1 rfl ?_
      obtain ⟨g5, h⟩ := gi_e h
      refine aw_iald E (Nat.le_of_ble_eq_true rfl) rfl g5 dX9_told_71 ?_
      replace h := Option.some.inj h
      subst h
      exact aw_iret E dX9_told_72 hr
    replace h := iq c12_2 h
    by_cases c12_3 : a2 = 3
    ·
      replace h := ip c12_3 h
      refine aw_tin (tgt := 73) (off := 61) E dX9_told_12 (by rw [c12_3]; decide) (by rw [c12_3]; decide) (by rw [c12_3]; decide) (by decide) ?_
      refine aw_aload_n E dX9_told_73 0 rfl ?_
      refine aw_getR (q := 4) E flX9_23 (Nat.le_of_ble_eq_true rfl) rfl rfl dX9_told_74 ?_
      refine aw_iload_n E dX9_told_77 1 rfl ?_
      obtain ⟨g6, h⟩ := gi_e h
      refine aw_iald E (Nat.le_of_ble_eq_true rfl) rfl g6 dX9_told_78 ?_
      replace h := Option.some.inj h
      subst h
      exact aw_iret E dX9_told_79 hr
    replace h := iq c12_3 h
    by_cases c12_4 : a2 = 4
    ·
      replace h := ip c12_4 h
      refine aw_tin (tgt := 80) (off := 68) E dX9_told_12 (by rw [c12_4]; decide) (by rw [c12_4]; decide) (by rw [c12_4]; decide) (by decide) ?_
      refine aw_aload_n E dX9_told_80 0 rfl ?_
      refine aw_getR (q := 5) E flX9_26 (Nat.le_of_ble_eq_true rfl) rfl rfl dX9_told_81 ?_
      refine aw_iload_n E dX9_told_84 1 rfl ?_
      obtain ⟨g7, h⟩ := gi_e h
      refine aw_iald E (Nat.le_of_ble_eq_true rfl) rfl g7 dX9_told_85 ?_
      replace h := Option.some.inj h
      subst h
      exact aw_iret E dX9_told_86 hr
    replace h := iq c12_4 h
    by_cases c12_5 : a2 = 5
    ·
      replace h := ip c12_5 h
      refine aw_tin (tgt := 87) (off := 75) E dX9_told_12 (by rw [c12_5]; decide) (by rw [c12_5]; decide) (by rw [c12_5]; decide) (by decide) ?_
      refine aw_aload_n E dX9_told_87 0 rfl ?_
      refine aw_iload_n E dX9_told_88 1 rfl ?_
      obtain ⟨q8, e9, h⟩ := bd_e h
      refine aw_callVi (S := []) E mvX9_spendsOf mlX9_190 (Nat.le_of_ble_eq_true rfl) rfl rfl rfl (ctX9_spendsOf (yl Y) g a1  M q8 e9) rfl (Nat.le_of_ble_eq_true rfl) (Nat.le_of_ble_eq_true rfl) dX9_told_89 ?_
      replace h := Option.some.inj h
      subst h
      exact aw_iret E dX9_told_92 hr
    replace h := iq c12_5 h
    have nc12_0 := lv_neT (k := 0) (a := 0) c12_0 (by decide)
    have nc12_1 := lv_neT (k := 1) (a := 1) c12_1 (by decide)
    have nc12_2 := lv_neT (k := 2) (a := 2) c12_2 (by decide)
    have nc12_3 := lv_neT (k := 3) (a := 3) c12_3 (by decide)
    have nc12_4 := lv_neT (k := 4) (a := 4) c12_4 (by decide)
    have nc12_5 := lv_neT (k := 5) (a := 5) c12_5 (by decide)
    refine aw_tout (tgt := 93) E dX9_told_12 (by omega) (by decide) ?_
    refine aw_bipush (v := (-7)) E dX9_told_93 (by decide) ?_
    replace h := Option.some.inj h
    subst h
    exact aw_iret E dX9_told_95 hr
  ·
    replace h := ip c5 h
    refine aw_bipush (v := (-5)) E dX9_told_8 (by decide) ?_
    replace h := Option.some.inj h
    subst h
    exact aw_iret E dX9_told_10 hr
def FX9_two_L95 : Nat → Int32 → Int32 → Int32 → Mem → Option (Int32)
  | 0, _, _, _, _ => none
  | f + 1, p4, p6, p7, M =>
    if ((1 : Int32) <<< ((M.1 0 40) &&& 31)) ≤ p7 then
      some p6
    else
      gi ((9 * p7) + (M.1 0 0)) 73728 <|
      lt (α := Int32) (M.1 19 (Int32.toNatClampNeg ((9 * p7) + (M.1 0 0)))) fun x102 =>
      ob (α := Bool) (if x102 = (-1) then
        some false
      else
        ob (FX9_passedBy p7 M) fun q124 =>
        if (q124 &&& p4) = p4 then some true else some false) fun b104 =>
      if b104 = true then
        ob (FX9_spentBy p7 M) fun q108 =>
        gi ((((1 : Int32) <<< ((M.1 0 40) &&& 31)) - 1) &&& (q108 ^^^ (-1))) 4096 <|
        lt (α := Int32) (M.1 22 (Int32.toNatClampNeg ((((1 : Int32) <<< ((M.1 0 40) &&& 31)) - 1) &&& (q108 ^^^ (-1))))) fun x111 =>
        lt (α := Int32) (if x111 = (-1) then
          p6
        else
          lt (α := Bool) (if p6 = (-1) then true else if p6 ≤ (x102 + x111) then false else true) fun b118 =>
          if b118 = true then
            x102 + x111
          else
            p6) fun q113 =>
        lt (α := Int32) (p7 + 1) fun x116 =>
        FX9_two_L95 f p4 q113 x116 M
      else
        lt (α := Int32) (p7 + 1) fun x122 =>
        FX9_two_L95 f p4 p6 x122 M
def FX9_two (a1 : Int32) (a2 : Int32) (a3 : Int32) (M : Mem) : Option (Int32 × Mem) :=
  lt (α := Bool) (if (FX9_in a1 0 511) = 0 then true else if (FX9_in a2 0 511) = 0 then true else false) fun b1 =>
  if b1 = true then
    some ((-2), M)
  else
    lt (α := Int32) (a1 &&& (((1 : Int32) <<< ((M.1 0 0) &&& 31)) ^^^ (-1))) fun x5 =>
    lt (α := Int32) (a2 &&& (((1 : Int32) <<< ((M.1 0 0) &&& 31)) ^^^ (-1))) fun x7 =>
    lt (α := Bool) (if x5 = 0 then true else if x7 = 0 then true else false) fun b9 =>
    if b9 = true then
      some ((-2), M)
    else
      if (FX9_in a3 0 1) = 0 then
        some ((-7), M)
      else
        ob (FX9_looks 0 M) fun q13 =>
        ob (FX9_forward q13) fun q15 =>
        ob (FX9_ringsWithin x7 q15) fun q17 =>
        ob (FX9_two_L95 FU x5 (-1) 1 q17) fun q19 =>
        ob (FX9_fewest (x5 ||| x7) q17) fun q21 =>
        lt (α := Bool) (if a3 = 0 then true else if q19 = (-1) then true else false) fun b23 =>
        if b23 = true then
          some (q19, q17)
        else
          if q21 = (-1) then
            some ((-1), q17)
          else
            some (q19 - q21, q17)
set_option maxHeartbeats 4000000 in
set_option maxRecDepth 100000 in
theorem lpX9_two_95 {Y : CtxM} {g : CtxG} {r : Option Value × Mem} (E : EV Y (WY g) cX9_two 10 (some .int) RX9) (p3 : Int32) (p4 : Int32) (p5 : Int32) : ∀ (f : Nat) (p6 : Int32) (p7 : Int32) (M : Mem) (q : Int32), FX9_two_L95 f p4 p6 p7 M = some q → AW Y (WY g) r 10 5 207 [(0, .ref (wad (WY g) 0)), (3, .int p3), (4, .int p4), (5, .int p5), (6, .int q)] [] M → AW Y (WY g) r 10 5 95 [(0, .ref (wad (WY g) 0)), (3, .int p3), (4, .int p4), (5, .int p5), (6, .int p6), (7, .int p7)] [] M := by
  intro f
  induction f with
  | zero => intro p6 p7 M q hh; exact absurd hh (fun z => nomatch (show (none : Option (Int32)) = some q from z))
  | succ f ih =>
    intro p6 p7 M q hh kx
    rw [FX9_two_L95] at hh
    refine aw_iload E dX9_two_95 5 rfl ?_
    refine aw_iconst (v := 1) E dX9_two_97 (by decide) ?_
    refine aw_aload_n E dX9_two_98 0 rfl ?_
    refine aw_getI E flX9_211 (Nat.le_of_ble_eq_true rfl) rfl rfl dX9_two_99 ?_
    refine aw_ishl E dX9_two_102 ?_
    refine aw_icmp_ge (tgt := 207) E dX9_two_103 rfl (fun c103 => ?_) (fun c103 => ?_)
    ·
      replace hh := ip c103 hh
      refine aw_sub (L1 := [(0, .ref (wad (WY g) 0)), (3, .int p3), (4, .int p4), (5, .int p5), (6, .int p6)]) [0, 1, 2, 3, 4] rfl ?_
      replace hh := Option.some.inj hh
      subst hh
      exact kx
    ·
      replace hh := iq c103 hh
      refine aw_aload_n E dX9_two_106 0 rfl ?_
      refine aw_getR (q := 19) E flX9_69 (Nat.le_of_ble_eq_true rfl) rfl rfl dX9_two_107 ?_
      refine aw_bipush (v := 9) E dX9_two_110 (by decide) ?_
      refine aw_iload E dX9_two_112 5 rfl ?_
      refine aw_imul E dX9_two_114 ?_
      refine aw_aload_n E dX9_two_115 0 rfl ?_
      refine aw_getI E flX9_99 (Nat.le_of_ble_eq_true rfl) rfl rfl dX9_two_116 ?_
      refine aw_iadd E dX9_two_119 ?_
      obtain ⟨g101, hh⟩ := gi_e hh
      refine aw_iald E (Nat.le_of_ble_eq_true rfl) rfl g101 dX9_two_120 ?_
      obtain ⟨x102, e103, hh⟩ := lt_e hh
      refine aw_nmI e103 ?_
      refine aw_istore (L1 := [(8, .int x102), (0, .ref (wad (WY g) 0)), (3, .int p3), (4, .int p4), (5, .int p5), (6, .int p6), (7, .int p7)]) E dX9_two_121 (Nat.le_of_ble_eq_true rfl) rfl ?_
      refine aw_iload E dX9_two_123 0 rfl ?_
      refine aw_iconst (v := (-1)) E dX9_two_125 (by decide) ?_
      obtain ⟨b104, e105, hh⟩ := bd_e hh
      have J106 : b104 = true → AW Y (WY g) r 10 5 143 [(8, .int x102), (0, .ref (wad (WY g) 0)), (3, .int p3), (4, .int p4), (5, .int p5), (6, .int p6), (7, .int p7)] [] M := fun hb => by
        replace hh := ip hb hh
        refine aw_aload_n E dX9_two_143 1 rfl ?_
        refine aw_getR (q := 22) E flX9_78 (Nat.le_of_ble_eq_true rfl) rfl rfl dX9_two_144 ?_
        refine aw_iconst (v := 1) E dX9_two_147 (by decide) ?_
        refine aw_aload_n E dX9_two_148 1 rfl ?_
        refine aw_getI E flX9_211 (Nat.le_of_ble_eq_true rfl) rfl rfl dX9_two_149 ?_
        refine aw_ishl E dX9_two_152 ?_
        refine aw_iconst (v := 1) E dX9_two_153 (by decide) ?_
        refine aw_isub E dX9_two_154 ?_
        refine aw_aload_n E dX9_two_155 1 rfl ?_
        refine aw_iload E dX9_two_156 6 rfl ?_
        obtain ⟨q108, e109, hh⟩ := bd_e hh
        refine aw_callVi (S := [.int (((1 : Int32) <<< ((M.1 0 40) &&& 31)) - 1), .ref (wad (WY g) 22)]) E mvX9_spentBy mlX9_224 (Nat.le_of_ble_eq_true rfl) rfl rfl rfl (ctX9_spentBy (yl Y) g p7  M q108 e109) rfl (Nat.le_of_ble_eq_true rfl) (Nat.le_of_ble_eq_true rfl) dX9_two_158 ?_
        refine aw_iconst (v := (-1)) E dX9_two_161 (by decide) ?_
        refine aw_ixor E dX9_two_162 ?_
        refine aw_iand E dX9_two_163 ?_
        obtain ⟨g110, hh⟩ := gi_e hh
        refine aw_iald E (Nat.le_of_ble_eq_true rfl) rfl g110 dX9_two_164 ?_
        obtain ⟨x111, e112, hh⟩ := lt_e hh
        refine aw_nmI e112 ?_
        refine aw_istore (L1 := [(9, .int x111), (8, .int x102), (0, .ref (wad (WY g) 0)), (3, .int p3), (4, .int p4), (5, .int p5), (6, .int p6), (7, .int p7)]) E dX9_two_165 (Nat.le_of_ble_eq_true rfl) rfl ?_
        refine aw_iload E dX9_two_167 0 rfl ?_
        refine aw_iconst (v := (-1)) E dX9_two_169 (by decide) ?_
        obtain ⟨q113, e114, hh⟩ := lt_e hh
        have J115 : AW Y (WY g) r 10 5 199 [(0, .ref (wad (WY g) 0)), (3, .int p3), (4, .int p4), (5, .int p5), (7, .int p7)] [.int q113] M := by
          refine aw_istore (L1 := [(6, .int q113), (0, .ref (wad (WY g) 0)), (3, .int p3), (4, .int p4), (5, .int p5), (7, .int p7)]) E dX9_two_199 (Nat.le_of_ble_eq_true rfl) rfl ?_
          obtain ⟨x116, e117, hh⟩ := lt_e hh
          refine aw_iinc (v := x116) (L1 := [(7, .int x116), (6, .int q113), (0, .ref (wad (WY g) 0)), (3, .int p3), (4, .int p4), (5, .int p5)]) E dX9_two_201 5 rfl e117 (Nat.le_of_ble_eq_true rfl) rfl ?_
          refine aw_goto (tgt := 95) E dX9_two_204 rfl ?_
          refine aw_sub (L1 := [(0, .ref (wad (WY g) 0)), (3, .int p3), (4, .int p4), (5, .int p5), (6, .int q113), (7, .int x116)]) [2, 3, 4, 5, 1, 0] rfl ?_
          exact ih q113 x116 M _ hh kx
        refine aw_icmp_eq (tgt := 197) E dX9_two_170 rfl (fun c170 => ?_) (fun c170 => ?_)
        ·
          replace e114 := ip c170 e114
          refine aw_iload E dX9_two_197 6 rfl ?_
          refine aw_sub (L1 := [(0, .ref (wad (WY g) 0)), (3, .int p3), (4, .int p4), (5, .int p5), (7, .int p7)]) [2, 3, 4, 5, 7] rfl ?_
          subst e114
          exact J115
        ·
          replace e114 := iq c170 e114
          refine aw_iload E dX9_two_173 6 rfl ?_
          refine aw_iconst (v := (-1)) E dX9_two_175 (by decide) ?_
          obtain ⟨b118, e119, e114⟩ := lt_e e114
          have J120 : b118 = true → AW Y (WY g) r 10 5 189 [(9, .int x111), (8, .int x102), (0, .ref (wad (WY g) 0)), (3, .int p3), (4, .int p4), (5, .int p5), (6, .int p6), (7, .int p7)] [] M := fun hb => by
            replace e114 := ip hb e114
            refine aw_iload E dX9_two_189 1 rfl ?_
            refine aw_iload E dX9_two_191 0 rfl ?_
            refine aw_iadd E dX9_two_193 ?_
            refine aw_goto (tgt := 199) E dX9_two_194 rfl ?_
            refine aw_sub (L1 := [(0, .ref (wad (WY g) 0)), (3, .int p3), (4, .int p4), (5, .int p5), (7, .int p7)]) [2, 3, 4, 5, 7] rfl ?_
            subst e114
            exact J115
          have J121 : b118 = false → AW Y (WY g) r 10 5 197 [(9, .int x111), (8, .int x102), (0, .ref (wad (WY g) 0)), (3, .int p3), (4, .int p4), (5, .int p5), (6, .int p6), (7, .int p7)] [] M := fun hb => by
            replace e114 := iq (bf hb) e114
            refine aw_iload E dX9_two_197 6 rfl ?_
            refine aw_sub (L1 := [(0, .ref (wad (WY g) 0)), (3, .int p3), (4, .int p4), (5, .int p5), (7, .int p7)]) [2, 3, 4, 5, 7] rfl ?_
            subst e114
            exact J115
          refine aw_icmp_eq (tgt := 189) E dX9_two_176 rfl (fun c176 => ?_) (fun c176 => ?_)
          ·
            replace e119 := ip c176 e119
            subst e119
            exact J120 rfl
          ·
            replace e119 := iq c176 e119
            refine aw_iload E dX9_two_179 1 rfl ?_
            refine aw_iload E dX9_two_181 0 rfl ?_
            refine aw_iadd E dX9_two_183 ?_
            refine aw_iload E dX9_two_184 6 rfl ?_
            refine aw_icmp_ge (tgt := 197) E dX9_two_186 rfl (fun c186 => ?_) (fun c186 => ?_)
            ·
              replace e119 := ip c186 e119
              subst e119
              exact J121 rfl
            ·
              replace e119 := iq c186 e119
              subst e119
              exact J120 rfl
      have J107 : b104 = false → AW Y (WY g) r 10 5 201 [(8, .int x102), (0, .ref (wad (WY g) 0)), (3, .int p3), (4, .int p4), (5, .int p5), (6, .int p6), (7, .int p7)] [] M := fun hb => by
        replace hh := iq (bf hb) hh
        obtain ⟨x122, e123, hh⟩ := lt_e hh
        refine aw_iinc (v := x122) (L1 := [(7, .int x122), (8, .int x102), (0, .ref (wad (WY g) 0)), (3, .int p3), (4, .int p4), (5, .int p5), (6, .int p6)]) E dX9_two_201 6 rfl e123 (Nat.le_of_ble_eq_true rfl) rfl ?_
        refine aw_goto (tgt := 95) E dX9_two_204 rfl ?_
        refine aw_sub (L1 := [(0, .ref (wad (WY g) 0)), (3, .int p3), (4, .int p4), (5, .int p5), (6, .int p6), (7, .int x122)]) [2, 3, 4, 5, 6, 0] rfl ?_
        exact ih p6 x122 M _ hh kx
      refine aw_icmp_eq (tgt := 201) E dX9_two_126 rfl (fun c126 => ?_) (fun c126 => ?_)
      ·
        replace e105 := ip c126 e105
        replace e105 := Option.some.inj e105
        subst e105
        exact J107 rfl
      ·
        replace e105 := iq c126 e105
        refine aw_aload_n E dX9_two_129 1 rfl ?_
        refine aw_iload E dX9_two_130 6 rfl ?_
        obtain ⟨q124, e125, e105⟩ := bd_e e105
        refine aw_callVi (S := []) E mvX9_passedBy mlX9_227 (Nat.le_of_ble_eq_true rfl) rfl rfl rfl (ctX9_passedBy (yl Y) g p7  M q124 e125) rfl (Nat.le_of_ble_eq_true rfl) (Nat.le_of_ble_eq_true rfl) dX9_two_132 ?_
        refine aw_iload E dX9_two_135 3 rfl ?_
        refine aw_iand E dX9_two_137 ?_
        refine aw_iload E dX9_two_138 3 rfl ?_
        refine aw_icmp_ne (tgt := 201) E dX9_two_140 rfl (fun c140 => ?_) (fun c140 => ?_)
        ·
          replace e105 := iq c140 e105
          replace e105 := Option.some.inj e105
          subst e105
          exact J107 rfl
        ·
          replace e105 := ip c140 e105
          replace e105 := Option.some.inj e105
          subst e105
          exact J106 rfl
set_option maxHeartbeats 4000000 in
set_option maxRecDepth 100000 in
theorem ctX9_two (l : Launch) (g : CtxG) (a1 : Int32) (a2 : Int32) (a3 : Int32) (M : Mem) (r0 : Int32 × Mem) (h : FX9_two a1 a2 a3 M = some r0) : Ct l (WY g) yX9_two cX9_two 10 (some .int) 5 [.ref (wad (WY g) 0), .int a1, .int a2, .int a3] M (some (.int r0.1), r0.2) := by
  refine Ct.of (by decide) (Nat.le_of_ble_eq_true rfl) (fun Y hY E => ?_)
  have E : EV Y (WY g) cX9_two 10 (some .int) RX9 := E
  have h : FX9_two a1 a2 a3 M = some r0 := h
  unfold FX9_two at h
  show AW Y (WY g) _ 10 5 0 [(0, .ref (wad (WY g) 0)), (1, .int a1), (2, .int a2), (3, .int a3)] [] M
  obtain ⟨r, hr⟩ : ∃ r : Option Value × Mem, r = (some (.int r0.1), r0.2) := ⟨_, rfl⟩
  rw [← hr]
  refine aw_iload_n E dX9_two_0 1 rfl ?_
  refine aw_iconst (v := 0) E dX9_two_1 (by decide) ?_
  refine aw_sipush (v := 511) E dX9_two_2 (by decide) ?_
  refine aw_callSi (S := []) E msX9_in mlX9_88 rfl (ctX9_in (yl Y) g a1 0 511  M ) rfl (Nat.le_of_ble_eq_true rfl) (Nat.le_of_ble_eq_true rfl) dX9_two_5 ?_
  obtain ⟨b1, e2, h⟩ := lt_e h
  have J3 : b1 = true → AW Y (WY g) r 10 5 22 [(0, .ref (wad (WY g) 0)), (1, .int a1), (2, .int a2), (3, .int a3)] [] M := fun hb => by
    replace h := ip hb h
    refine aw_bipush (v := (-2)) E dX9_two_22 (by decide) ?_
    replace h := Option.some.inj h
    subst h
    exact aw_iret E dX9_two_24 hr
  have J4 : b1 = false → AW Y (WY g) r 10 5 25 [(0, .ref (wad (WY g) 0)), (1, .int a1), (2, .int a2), (3, .int a3)] [] M := fun hb => by
    replace h := iq (bf hb) h
    refine aw_iload_n E dX9_two_25 1 rfl ?_
    refine aw_iconst (v := 1) E dX9_two_26 (by decide) ?_
    refine aw_aload_n E dX9_two_27 0 rfl ?_
    refine aw_getI E flX9_99 (Nat.le_of_ble_eq_true rfl) rfl rfl dX9_two_28 ?_
    refine aw_ishl E dX9_two_31 ?_
    refine aw_iconst (v := (-1)) E dX9_two_32 (by decide) ?_
    refine aw_ixor E dX9_two_33 ?_
    refine aw_iand E dX9_two_34 ?_
    obtain ⟨x5, e6, h⟩ := lt_e h
    refine aw_nmI e6 ?_
    refine aw_istore (L1 := [(4, .int x5), (0, .ref (wad (WY g) 0)), (1, .int a1), (2, .int a2), (3, .int a3)]) E dX9_two_35 (Nat.le_of_ble_eq_true rfl) rfl ?_
    refine aw_iload_n E dX9_two_37 3 rfl ?_
    refine aw_iconst (v := 1) E dX9_two_38 (by decide) ?_
    refine aw_aload_n E dX9_two_39 1 rfl ?_
    refine aw_getI E flX9_99 (Nat.le_of_ble_eq_true rfl) rfl rfl dX9_two_40 ?_
    refine aw_ishl E dX9_two_43 ?_
    refine aw_iconst (v := (-1)) E dX9_two_44 (by decide) ?_
    refine aw_ixor E dX9_two_45 ?_
    refine aw_iand E dX9_two_46 ?_
    obtain ⟨x7, e8, h⟩ := lt_e h
    refine aw_nmI e8 ?_
    refine aw_istore (L1 := [(5, .int x7), (4, .int x5), (0, .ref (wad (WY g) 0)), (1, .int a1), (2, .int a2), (3, .int a3)]) E dX9_two_47 (Nat.le_of_ble_eq_true rfl) rfl ?_
    refine aw_iload E dX9_two_49 1 rfl ?_
    obtain ⟨b9, e10, h⟩ := lt_e h
    have J11 : b9 = true → AW Y (WY g) r 10 5 59 [(5, .int x7), (4, .int x5), (0, .ref (wad (WY g) 0)), (1, .int a1), (2, .int a2), (3, .int a3)] [] M := fun hb => by
      replace h := ip hb h
      refine aw_bipush (v := (-2)) E dX9_two_59 (by decide) ?_
      replace h := Option.some.inj h
      subst h
      exact aw_iret E dX9_two_61 hr
    have J12 : b9 = false → AW Y (WY g) r 10 5 62 [(5, .int x7), (4, .int x5), (0, .ref (wad (WY g) 0)), (1, .int a1), (2, .int a2), (3, .int a3)] [] M := fun hb => by
      replace h := iq (bf hb) h
      refine aw_iload_n E dX9_two_62 5 rfl ?_
      refine aw_iconst (v := 0) E dX9_two_63 (by decide) ?_
      refine aw_iconst (v := 1) E dX9_two_64 (by decide) ?_
      refine aw_callSi (S := []) E msX9_in mlX9_88 rfl (ctX9_in (yl Y) g a3 0 1  M ) rfl (Nat.le_of_ble_eq_true rfl) (Nat.le_of_ble_eq_true rfl) dX9_two_65 ?_
      refine aw_if_ne (tgt := 74) E dX9_two_68 rfl (fun c68 => ?_) (fun c68 => ?_)
      ·
        replace h := iq c68 h
        refine aw_aload_n E dX9_two_74 2 rfl ?_
        refine aw_iconst (v := 0) E dX9_two_75 (by decide) ?_
        obtain ⟨q13, e14, h⟩ := bd_e h
        refine aw_callVv (S := []) E mvX9_looks mlX9_241 (Nat.le_of_ble_eq_true rfl) rfl rfl rfl (ctX9_looks (yl Y) g 0  M q13 e14) rfl (Nat.le_of_ble_eq_true rfl) (Nat.le_of_ble_eq_true rfl) dX9_two_76 ?_
        refine aw_aload_n E dX9_two_79 2 rfl ?_
        obtain ⟨q15, e16, h⟩ := bd_e h
        refine aw_callVv (S := []) E mvX9_forward mlX9_267 (Nat.le_of_ble_eq_true rfl) rfl rfl rfl (ctX9_forward (yl Y) g   q13 q15 e16) rfl (Nat.le_of_ble_eq_true rfl) (Nat.le_of_ble_eq_true rfl) dX9_two_80 ?_
        refine aw_aload_n E dX9_two_83 2 rfl ?_
        refine aw_iload E dX9_two_84 0 rfl ?_
        obtain ⟨q17, e18, h⟩ := bd_e h
        refine aw_callVv (S := []) E mvX9_ringsWithin mlX9_270 (Nat.le_of_ble_eq_true rfl) rfl rfl rfl (ctX9_ringsWithin (yl Y) g x7  q15 q17 e18) rfl (Nat.le_of_ble_eq_true rfl) (Nat.le_of_ble_eq_true rfl) dX9_two_86 ?_
        refine aw_iconst (v := (-1)) E dX9_two_89 (by decide) ?_
        refine aw_istore (L1 := [(6, .int (-1)), (5, .int x7), (4, .int x5), (0, .ref (wad (WY g) 0)), (1, .int a1), (2, .int a2), (3, .int a3)]) E dX9_two_90 (Nat.le_of_ble_eq_true rfl) rfl ?_
        refine aw_iconst (v := 1) E dX9_two_92 (by decide) ?_
        refine aw_istore (L1 := [(7, .int 1), (6, .int (-1)), (5, .int x7), (4, .int x5), (0, .ref (wad (WY g) 0)), (1, .int a1), (2, .int a2), (3, .int a3)]) E dX9_two_93 (Nat.le_of_ble_eq_true rfl) rfl ?_
        obtain ⟨q19, e20, h⟩ := bd_e h
        refine aw_sub (L1 := [(0, .ref (wad (WY g) 0)), (3, .int a3), (4, .int x5), (5, .int x7), (6, .int (-1)), (7, .int 1)]) [4, 7, 3, 2, 1, 0] rfl ?_
        refine lpX9_two_95 E   a3 x5 x7 FU (-1) 1 q17 q19 e20 ?_
        refine aw_aload_n E dX9_two_207 0 rfl ?_
        refine aw_iload E dX9_two_208 2 rfl ?_
        refine aw_iload E dX9_two_210 3 rfl ?_
        refine aw_ior E dX9_two_212 ?_
        obtain ⟨q21, e22, h⟩ := bd_e h
        refine aw_callVi (S := []) E mvX9_fewest mlX9_273 (Nat.le_of_ble_eq_true rfl) rfl rfl rfl (ctX9_fewest (yl Y) g (x5 ||| x7)  q17 q21 e22) rfl (Nat.le_of_ble_eq_true rfl) (Nat.le_of_ble_eq_true rfl) dX9_two_213 ?_
        refine aw_istore (L1 := [(7, .int q21), (0, .ref (wad (WY g) 0)), (3, .int a3), (4, .int x5), (5, .int x7), (6, .int q19)]) E dX9_two_216 (Nat.le_of_ble_eq_true rfl) rfl ?_
        refine aw_iload_n E dX9_two_218 2 rfl ?_
        obtain ⟨b23, e24, h⟩ := lt_e h
        have J25 : b23 = true → AW Y (WY g) r 10 5 228 [(7, .int q21), (0, .ref (wad (WY g) 0)), (3, .int a3), (4, .int x5), (5, .int x7), (6, .int q19)] [] q17 := fun hb => by
          replace h := ip hb h
          refine aw_iload E dX9_two_228 5 rfl ?_
          refine aw_goto (tgt := 248) E dX9_two_230 rfl ?_
          replace h := Option.some.inj h
          subst h
          exact aw_iret E dX9_two_248 hr
        have J26 : b23 = false → AW Y (WY g) r 10 5 233 [(7, .int q21), (0, .ref (wad (WY g) 0)), (3, .int a3), (4, .int x5), (5, .int x7), (6, .int q19)] [] q17 := fun hb => by
          replace h := iq (bf hb) h
          refine aw_iload E dX9_two_233 0 rfl ?_
          refine aw_iconst (v := (-1)) E dX9_two_235 (by decide) ?_
          refine aw_icmp_ne (tgt := 243) E dX9_two_236 rfl (fun c236 => ?_) (fun c236 => ?_)
          ·
            replace h := iq c236 h
            refine aw_iload E dX9_two_243 5 rfl ?_
            refine aw_iload E dX9_two_245 0 rfl ?_
            refine aw_isub E dX9_two_247 ?_
            replace h := Option.some.inj h
            subst h
            exact aw_iret E dX9_two_248 hr
          ·
            replace h := ip c236 h
            refine aw_iconst (v := (-1)) E dX9_two_239 (by decide) ?_
            refine aw_goto (tgt := 248) E dX9_two_240 rfl ?_
            replace h := Option.some.inj h
            subst h
            exact aw_iret E dX9_two_248 hr
        refine aw_if_eq (tgt := 228) E dX9_two_219 rfl (fun c219 => ?_) (fun c219 => ?_)
        ·
          replace e24 := ip c219 e24
          subst e24
          exact J25 rfl
        ·
          replace e24 := iq c219 e24
          refine aw_iload E dX9_two_222 5 rfl ?_
          refine aw_iconst (v := (-1)) E dX9_two_224 (by decide) ?_
          refine aw_icmp_ne (tgt := 233) E dX9_two_225 rfl (fun c225 => ?_) (fun c225 => ?_)
          ·
            replace e24 := iq c225 e24
            subst e24
            exact J26 rfl
          ·
            replace e24 := ip c225 e24
            subst e24
            exact J25 rfl
      ·
        replace h := ip c68 h
        refine aw_bipush (v := (-7)) E dX9_two_71 (by decide) ?_
        replace h := Option.some.inj h
        subst h
        exact aw_iret E dX9_two_73 hr
    refine aw_if_eq (tgt := 59) E dX9_two_51 rfl (fun c51 => ?_) (fun c51 => ?_)
    ·
      replace e10 := ip c51 e10
      subst e10
      exact J11 rfl
    ·
      replace e10 := iq c51 e10
      refine aw_iload E dX9_two_54 0 rfl ?_
      refine aw_if_ne (tgt := 62) E dX9_two_56 rfl (fun c56 => ?_) (fun c56 => ?_)
      ·
        replace e10 := iq c56 e10
        subst e10
        exact J12 rfl
      ·
        replace e10 := ip c56 e10
        subst e10
        exact J11 rfl
  refine aw_if_eq (tgt := 22) E dX9_two_8 rfl (fun c8 => ?_) (fun c8 => ?_)
  ·
    replace e2 := ip c8 e2
    subst e2
    exact J3 rfl
  ·
    replace e2 := iq c8 e2
    refine aw_iload_n E dX9_two_11 2 rfl ?_
    refine aw_iconst (v := 0) E dX9_two_12 (by decide) ?_
    refine aw_sipush (v := 511) E dX9_two_13 (by decide) ?_
    refine aw_callSi (S := []) E msX9_in mlX9_88 rfl (ctX9_in (yl Y) g a2 0 511  M ) rfl (Nat.le_of_ble_eq_true rfl) (Nat.le_of_ble_eq_true rfl) dX9_two_16 ?_
    refine aw_if_ne (tgt := 25) E dX9_two_19 rfl (fun c19 => ?_) (fun c19 => ?_)
    ·
      replace e2 := iq c19 e2
      subst e2
      exact J4 rfl
    ·
      replace e2 := ip c19 e2
      subst e2
      exact J3 rfl
def FX9_walk (a1 : Int32) (a2 : Int32) (M : Mem) : Option (Int32 × Mem) :=
  if (FX9_in a1 0 3) = 0 then
    some ((-2), M)
  else
    gi a1 4 <|
    if (M.1 9 (Int32.toNatClampNeg a1)) = (-1) then
      some ((-11), M)
    else
      if (FX9_in a2 0 1) = 0 then
        some ((-7), M)
      else
        ob (FX9_follows a1 M) fun q2 =>
        if a2 = 0 then
          some (q2.2.1 0 49, q2.2)
        else
          some (q2.2.1 0 47, q2.2)
set_option maxHeartbeats 4000000 in
set_option maxRecDepth 100000 in
theorem ctX9_walk (l : Launch) (g : CtxG) (a1 : Int32) (a2 : Int32) (M : Mem) (r0 : Int32 × Mem) (h : FX9_walk a1 a2 M = some r0) : Ct l (WY g) yX9_walk cX9_walk 3 (some .int) 7 [.ref (wad (WY g) 0), .int a1, .int a2] M (some (.int r0.1), r0.2) := by
  refine Ct.of (by decide) (Nat.le_of_ble_eq_true rfl) (fun Y hY E => ?_)
  have E : EV Y (WY g) cX9_walk 3 (some .int) RX9 := E
  have h : FX9_walk a1 a2 M = some r0 := h
  unfold FX9_walk at h
  show AW Y (WY g) _ 3 7 0 [(0, .ref (wad (WY g) 0)), (1, .int a1), (2, .int a2)] [] M
  obtain ⟨r, hr⟩ : ∃ r : Option Value × Mem, r = (some (.int r0.1), r0.2) := ⟨_, rfl⟩
  rw [← hr]
  refine aw_iload_n E dX9_walk_0 1 rfl ?_
  refine aw_iconst (v := 0) E dX9_walk_1 (by decide) ?_
  refine aw_iconst (v := 3) E dX9_walk_2 (by decide) ?_
  refine aw_callSi (S := []) E msX9_in mlX9_88 rfl (ctX9_in (yl Y) g a1 0 3  M ) rfl (Nat.le_of_ble_eq_true rfl) (Nat.le_of_ble_eq_true rfl) dX9_walk_3 ?_
  refine aw_if_ne (tgt := 12) E dX9_walk_6 rfl (fun c6 => ?_) (fun c6 => ?_)
  ·
    replace h := iq c6 h
    refine aw_aload_n E dX9_walk_12 0 rfl ?_
    refine aw_getR (q := 9) E flX9_38 (Nat.le_of_ble_eq_true rfl) rfl rfl dX9_walk_13 ?_
    refine aw_iload_n E dX9_walk_16 1 rfl ?_
    obtain ⟨g1, h⟩ := gi_e h
    refine aw_iald E (Nat.le_of_ble_eq_true rfl) rfl g1 dX9_walk_17 ?_
    refine aw_iconst (v := (-1)) E dX9_walk_18 (by decide) ?_
    refine aw_icmp_ne (tgt := 25) E dX9_walk_19 rfl (fun c19 => ?_) (fun c19 => ?_)
    ·
      replace h := iq c19 h
      refine aw_iload_n E dX9_walk_25 2 rfl ?_
      refine aw_iconst (v := 0) E dX9_walk_26 (by decide) ?_
      refine aw_iconst (v := 1) E dX9_walk_27 (by decide) ?_
      refine aw_callSi (S := []) E msX9_in mlX9_88 rfl (ctX9_in (yl Y) g a2 0 1  M ) rfl (Nat.le_of_ble_eq_true rfl) (Nat.le_of_ble_eq_true rfl) dX9_walk_28 ?_
      refine aw_if_ne (tgt := 37) E dX9_walk_31 rfl (fun c31 => ?_) (fun c31 => ?_)
      ·
        replace h := iq c31 h
        refine aw_aload_n E dX9_walk_37 0 rfl ?_
        refine aw_iload_n E dX9_walk_38 1 rfl ?_
        obtain ⟨q2, e3, h⟩ := bd_e h
        refine aw_callVi (S := []) E mvX9_follows mlX9_321 (Nat.le_of_ble_eq_true rfl) rfl rfl rfl (ctX9_follows (yl Y) g a1  M q2 e3) rfl (Nat.le_of_ble_eq_true rfl) (Nat.le_of_ble_eq_true rfl) dX9_walk_39 ?_
        refine aw_pop E dX9_walk_42 rfl ?_
        refine aw_iload_n E dX9_walk_43 2 rfl ?_
        refine aw_if_ne (tgt := 54) E dX9_walk_44 rfl (fun c44 => ?_) (fun c44 => ?_)
        ·
          replace h := iq c44 h
          refine aw_aload_n E dX9_walk_54 0 rfl ?_
          refine aw_getI E flX9_303 (Nat.le_of_ble_eq_true rfl) rfl rfl dX9_walk_55 ?_
          replace h := Option.some.inj h
          subst h
          exact aw_iret E dX9_walk_58 hr
        ·
          replace h := ip c44 h
          refine aw_aload_n E dX9_walk_47 0 rfl ?_
          refine aw_getI E flX9_309 (Nat.le_of_ble_eq_true rfl) rfl rfl dX9_walk_48 ?_
          refine aw_goto (tgt := 58) E dX9_walk_51 rfl ?_
          replace h := Option.some.inj h
          subst h
          exact aw_iret E dX9_walk_58 hr
      ·
        replace h := ip c31 h
        refine aw_bipush (v := (-7)) E dX9_walk_34 (by decide) ?_
        replace h := Option.some.inj h
        subst h
        exact aw_iret E dX9_walk_36 hr
    ·
      replace h := ip c19 h
      refine aw_bipush (v := (-11)) E dX9_walk_22 (by decide) ?_
      replace h := Option.some.inj h
      subst h
      exact aw_iret E dX9_walk_24 hr
  ·
    replace h := ip c6 h
    refine aw_bipush (v := (-2)) E dX9_walk_9 (by decide) ?_
    replace h := Option.some.inj h
    subst h
    exact aw_iret E dX9_walk_11 hr
