/-! PRINTED by wip/gen: pure functions of the methods, and that the machine does what they say -/
def FX8_laws_L26 : Nat → Int32 → Int32 → Int32 → Mem → Option (Int32 × Mem)
  | 0, _, _, _, _ => none
  | f + 1, p1, p2, p3, M =>
    if (M.1 14 4) ≤ p3 then
      some (p2, M)
    else
      lt (wr M 3 5 p3) fun M101 =>
      ob (FX8_leastRing 3 ((1 : Int32) <<< (p1 &&& 31)) 0 0 M101) fun q103 =>
      if q103.1 < 0 then
        lt (α := Int32) (p3 + 1) fun x105 =>
        FX8_laws_L26 f p1 p2 x105 q103.2
      else
        lt (α := Int32) (p2 ||| ((1 : Int32) <<< (p3 &&& 31))) fun x107 =>
        lt (α := Int32) (p3 + 1) fun x109 =>
        FX8_laws_L26 f p1 x107 x109 q103.2
def FX8_laws (a1 : Int32) (M : Mem) : Option (Int32 × Mem) :=
  if (FX8_isAway a1 M) = 0 then
    some ((-5), M)
  else
    ob (FX1_take 3 1 M) fun q1 =>
    ob (FX8_laws_L26 FU a1 0 0 q1) fun q3 =>
    some (q3.1, q3.2)
set_option maxHeartbeats 4000000 in
set_option maxRecDepth 100000 in
theorem lpX8_laws_26 {Y : CtxM} {g : CtxG} {r : Option Value × Mem} (E : EV Y (WX g) cX8_laws 4 (some .int) RX8) (p1 : Int32) : ∀ (f : Nat) (p2 : Int32) (p3 : Int32) (M : Mem) (q : Int32 × Mem), FX8_laws_L26 f p1 p2 p3 M = some q → AW Y (WX g) r 4 6 73 [(2, .int q.1)] [] q.2 → AW Y (WX g) r 4 6 26 [(0, .ref (wad (WX g) 0)), (1, .int p1), (2, .int p2), (3, .int p3)] [] M := by
  intro f
  induction f with
  | zero => intro p2 p3 M q hh; exact absurd hh (fun z => nomatch (show (none : Option (Int32 × Mem)) = some q from z))
  | succ f ih =>
    intro p2 p3 M q hh kx
    rw [FX8_laws_L26] at hh
    refine aw_iload_n E dX8_laws_26 3 rfl ?_
    refine aw_aload_n E dX8_laws_27 0 rfl ?_
    refine aw_getR (q := 14) E flX8_39 (Nat.le_of_ble_eq_true rfl) rfl rfl dX8_laws_28 ?_
    refine aw_getI E flX8_116 (Nat.le_of_ble_eq_true rfl) rfl rfl dX8_laws_31 ?_
    refine aw_icmp_ge (tgt := 73) E dX8_laws_34 rfl (fun c34 => ?_) (fun c34 => ?_)
    ·
      replace hh := ip c34 hh
      refine aw_sub (L1 := [(2, .int p2)]) [2] rfl ?_
      replace hh := Option.some.inj hh
      subst hh
      exact kx
    ·
      replace hh := iq c34 hh
      refine aw_aload_n E dX8_laws_37 0 rfl ?_
      refine aw_getR (q := 3) E flX8_19 (Nat.le_of_ble_eq_true rfl) rfl rfl dX8_laws_38 ?_
      refine aw_iload_n E dX8_laws_41 3 rfl ?_
      obtain ⟨M101, e102, hh⟩ := lt_e hh
      refine aw_putI1 e102 E flX8_119 (Nat.le_of_ble_eq_true rfl) rfl rfl nr_int dX8_laws_42 ?_
      refine aw_aload_n E dX8_laws_45 0 rfl ?_
      refine aw_aload_n E dX8_laws_46 0 rfl ?_
      refine aw_getR (q := 3) E flX8_19 (Nat.le_of_ble_eq_true rfl) rfl rfl dX8_laws_47 ?_
      refine aw_iconst (v := 1) E dX8_laws_50 (by decide) ?_
      refine aw_iload_n E dX8_laws_51 1 rfl ?_
      refine aw_ishl E dX8_laws_52 ?_
      refine aw_iconst (v := 0) E dX8_laws_53 (by decide) ?_
      refine aw_iconst (v := 0) E dX8_laws_54 (by decide) ?_
      obtain ⟨q103, e104, hh⟩ := bd_e hh
      refine aw_callVi (S := []) E mvX8_leastRing mlX8_177 (Nat.le_of_ble_eq_true rfl) rfl rfl rfl (ctX8_leastRing (yl Y) g 3 ((1 : Int32) <<< (p1 &&& 31)) 0 0 set3 M101 q103 e104) rfl (Nat.le_of_ble_eq_true rfl) (Nat.le_of_ble_eq_true rfl) dX8_laws_55 ?_
      refine aw_if_lt (tgt := 67) E dX8_laws_58 rfl (fun c58 => ?_) (fun c58 => ?_)
      ·
        replace hh := ip c58 hh
        obtain ⟨x105, e106, hh⟩ := lt_e hh
        refine aw_iinc (v := x105) (L1 := [(3, .int x105), (0, .ref (wad (WX g) 0)), (1, .int p1), (2, .int p2)]) E dX8_laws_67 3 rfl e106 (Nat.le_of_ble_eq_true rfl) rfl ?_
        refine aw_goto (tgt := 26) E dX8_laws_70 rfl ?_
        refine aw_sub (L1 := [(0, .ref (wad (WX g) 0)), (1, .int p1), (2, .int p2), (3, .int x105)]) [1, 2, 3, 0] rfl ?_
        exact ih p2 x105 q103.2 _ hh kx
      ·
        replace hh := iq c58 hh
        refine aw_iload_n E dX8_laws_61 2 rfl ?_
        refine aw_iconst (v := 1) E dX8_laws_62 (by decide) ?_
        refine aw_iload_n E dX8_laws_63 3 rfl ?_
        refine aw_ishl E dX8_laws_64 ?_
        refine aw_ior E dX8_laws_65 ?_
        obtain ⟨x107, e108, hh⟩ := lt_e hh
        refine aw_nmI e108 ?_
        refine aw_istore_n (L1 := [(2, .int x107), (0, .ref (wad (WX g) 0)), (1, .int p1), (3, .int p3)]) E dX8_laws_66 (Nat.le_of_ble_eq_true rfl) rfl ?_
        obtain ⟨x109, e110, hh⟩ := lt_e hh
        refine aw_iinc (v := x109) (L1 := [(3, .int x109), (2, .int x107), (0, .ref (wad (WX g) 0)), (1, .int p1)]) E dX8_laws_67 3 rfl e110 (Nat.le_of_ble_eq_true rfl) rfl ?_
        refine aw_goto (tgt := 26) E dX8_laws_70 rfl ?_
        refine aw_sub (L1 := [(0, .ref (wad (WX g) 0)), (1, .int p1), (2, .int x107), (3, .int x109)]) [2, 3, 1, 0] rfl ?_
        exact ih x107 x109 q103.2 _ hh kx
set_option maxHeartbeats 4000000 in
set_option maxRecDepth 100000 in
theorem ctX8_laws (l : Launch) (g : CtxG) (a1 : Int32) (M : Mem) (r0 : Int32 × Mem) (h : FX8_laws a1 M = some r0) : Ct l (WX g) yX8_laws cX8_laws 4 (some .int) 6 [.ref (wad (WX g) 0), .int a1] M (some (.int r0.1), r0.2) := by
  refine Ct.of (by decide) (Nat.le_of_ble_eq_true rfl) (fun Y hY E => ?_)
  have E : EV Y (WX g) cX8_laws 4 (some .int) RX8 := E
  have h : FX8_laws a1 M = some r0 := h
  unfold FX8_laws at h
  show AW Y (WX g) _ 4 6 0 [(0, .ref (wad (WX g) 0)), (1, .int a1)] [] M
  obtain ⟨r, hr⟩ : ∃ r : Option Value × Mem, r = (some (.int r0.1), r0.2) := ⟨_, rfl⟩
  rw [← hr]
  refine aw_aload_n E dX8_laws_0 0 rfl ?_
  refine aw_iload_n E dX8_laws_1 1 rfl ?_
  refine aw_callVi (S := []) E mvX8_isAway mlX8_181 (Nat.le_of_ble_eq_true rfl) rfl rfl rfl (ctX8_isAway (yl Y) g a1  M ) rfl (Nat.le_of_ble_eq_true rfl) (Nat.le_of_ble_eq_true rfl) dX8_laws_2 ?_
  refine aw_if_ne (tgt := 11) E dX8_laws_5 rfl (fun c5 => ?_) (fun c5 => ?_)
  ·
    replace h := iq c5 h
    refine aw_iconst (v := 0) E dX8_laws_11 (by decide) ?_
    refine aw_istore_n (L1 := [(2, .int 0), (0, .ref (wad (WX g) 0)), (1, .int a1)]) E dX8_laws_12 (Nat.le_of_ble_eq_true rfl) rfl ?_
    refine aw_aload_n E dX8_laws_13 1 rfl ?_
    refine aw_getR (q := 3) E flX8_19 (Nat.le_of_ble_eq_true rfl) rfl rfl dX8_laws_14 ?_
    refine aw_aload_n E dX8_laws_17 1 rfl ?_
    refine aw_getR (q := 1) E flX8_12 (Nat.le_of_ble_eq_true rfl) rfl rfl dX8_laws_18 ?_
    obtain ⟨q1, e2, h⟩ := bd_e h
    refine aw_callVv (S := []) E mvX1_take mlX8_212 (Nat.le_of_ble_eq_true rfl) rfl rfl rfl (ctX1_take (yl Y) g 3 1 set3 set1 M q1 e2) rfl (Nat.le_of_ble_eq_true rfl) (Nat.le_of_ble_eq_true rfl) dX8_laws_21 ?_
    refine aw_iconst (v := 0) E dX8_laws_24 (by decide) ?_
    refine aw_istore_n (L1 := [(3, .int 0), (2, .int 0), (0, .ref (wad (WX g) 0)), (1, .int a1)]) E dX8_laws_25 (Nat.le_of_ble_eq_true rfl) rfl ?_
    obtain ⟨q3, e4, h⟩ := bd_e h
    refine aw_sub (L1 := [(0, .ref (wad (WX g) 0)), (1, .int a1), (2, .int 0), (3, .int 0)]) [2, 3, 1, 0] rfl ?_
    refine lpX8_laws_26 E   a1 FU 0 0 q1 q3 e4 ?_
    refine aw_iload_n E dX8_laws_73 0 rfl ?_
    replace h := Option.some.inj h
    subst h
    exact aw_iret E dX8_laws_74 hr
  ·
    replace h := ip c5 h
    refine aw_bipush (v := (-5)) E dX8_laws_8 (by decide) ?_
    replace h := Option.some.inj h
    subst h
    exact aw_iret E dX8_laws_10 hr
def FX8_never (a1 : Int32) (M : Mem) : Option (Int32 × Mem) :=
  lt (α := Bool) (if a1 < 0 then true else if a1 ≤ 2 then false else true) fun b1 =>
  if b1 = true then
    some ((-2), M)
  else
    ob (FX8_ringed 1 M) fun q5 =>
    if a1 = 0 then
      some (q5.1, q5.2)
    else
      ob (FX7_reached q5.2) fun q7 =>
      if a1 = 1 then
        some ((q7 &&& (q5.1 ^^^ (-1))) &&& (((1 : Int32) <<< ((q5.2.1 1 0) &&& 31)) ^^^ (-1)), q5.2)
      else
        some (511 &&& (q7 ^^^ (-1)), q5.2)
set_option maxHeartbeats 4000000 in
set_option maxRecDepth 100000 in
theorem ctX8_never (l : Launch) (g : CtxG) (a1 : Int32) (M : Mem) (r0 : Int32 × Mem) (h : FX8_never a1 M = some r0) : Ct l (WX g) yX8_never cX8_never 4 (some .int) 7 [.ref (wad (WX g) 0), .int a1] M (some (.int r0.1), r0.2) := by
  refine Ct.of (by decide) (Nat.le_of_ble_eq_true rfl) (fun Y hY E => ?_)
  have E : EV Y (WX g) cX8_never 4 (some .int) RX8 := E
  have h : FX8_never a1 M = some r0 := h
  unfold FX8_never at h
  show AW Y (WX g) _ 4 7 0 [(0, .ref (wad (WX g) 0)), (1, .int a1)] [] M
  obtain ⟨r, hr⟩ : ∃ r : Option Value × Mem, r = (some (.int r0.1), r0.2) := ⟨_, rfl⟩
  rw [← hr]
  refine aw_iload_n E dX8_never_0 1 rfl ?_
  obtain ⟨b1, e2, h⟩ := lt_e h
  have J3 : b1 = true → AW Y (WX g) r 4 7 9 [(0, .ref (wad (WX g) 0)), (1, .int a1)] [] M := fun hb => by
    replace h := ip hb h
    refine aw_bipush (v := (-2)) E dX8_never_9 (by decide) ?_
    replace h := Option.some.inj h
    subst h
    exact aw_iret E dX8_never_11 hr
  have J4 : b1 = false → AW Y (WX g) r 4 7 12 [(0, .ref (wad (WX g) 0)), (1, .int a1)] [] M := fun hb => by
    replace h := iq (bf hb) h
    refine aw_aload_n E dX8_never_12 0 rfl ?_
    refine aw_aload_n E dX8_never_13 0 rfl ?_
    refine aw_getR (q := 1) E flX8_12 (Nat.le_of_ble_eq_true rfl) rfl rfl dX8_never_14 ?_
    obtain ⟨q5, e6, h⟩ := bd_e h
    refine aw_callVi (S := []) E mvX8_ringed mlX8_199 (Nat.le_of_ble_eq_true rfl) rfl rfl rfl (ctX8_ringed (yl Y) g 1 set1 M q5 e6) rfl (Nat.le_of_ble_eq_true rfl) (Nat.le_of_ble_eq_true rfl) dX8_never_17 ?_
    refine aw_istore_n (L1 := [(2, .int q5.1), (0, .ref (wad (WX g) 0)), (1, .int a1)]) E dX8_never_20 (Nat.le_of_ble_eq_true rfl) rfl ?_
    refine aw_iload_n E dX8_never_21 2 rfl ?_
    refine aw_if_ne (tgt := 27) E dX8_never_22 rfl (fun c22 => ?_) (fun c22 => ?_)
    ·
      replace h := iq c22 h
      refine aw_aload_n E dX8_never_27 1 rfl ?_
      refine aw_getR (q := 31) E flX8_46 (Nat.le_of_ble_eq_true rfl) rfl rfl dX8_never_28 ?_
      obtain ⟨q7, e8, h⟩ := bd_e h
      refine aw_callVi (S := []) E mvX7_reached mlX8_203 (Nat.le_of_ble_eq_true rfl) rfl rfl rfl (ctX7_reached (yl Y) g   q5.2 q7 e8) rfl (Nat.le_of_ble_eq_true rfl) (Nat.le_of_ble_eq_true rfl) dX8_never_31 ?_
      refine aw_istore_n (L1 := [(3, .int q7), (2, .int q5.1), (0, .ref (wad (WX g) 0)), (1, .int a1)]) E dX8_never_34 (Nat.le_of_ble_eq_true rfl) rfl ?_
      refine aw_iload_n E dX8_never_35 3 rfl ?_
      refine aw_iconst (v := 1) E dX8_never_36 (by decide) ?_
      refine aw_icmp_ne (tgt := 60) E dX8_never_37 rfl (fun c37 => ?_) (fun c37 => ?_)
      ·
        replace h := iq c37 h
        refine aw_sipush (v := 511) E dX8_never_60 (by decide) ?_
        refine aw_iload_n E dX8_never_63 0 rfl ?_
        refine aw_iconst (v := (-1)) E dX8_never_64 (by decide) ?_
        refine aw_ixor E dX8_never_65 ?_
        refine aw_iand E dX8_never_66 ?_
        replace h := Option.some.inj h
        subst h
        exact aw_iret E dX8_never_67 hr
      ·
        replace h := ip c37 h
        refine aw_iload_n E dX8_never_40 0 rfl ?_
        refine aw_iload_n E dX8_never_41 1 rfl ?_
        refine aw_iconst (v := (-1)) E dX8_never_42 (by decide) ?_
        refine aw_ixor E dX8_never_43 ?_
        refine aw_iand E dX8_never_44 ?_
        refine aw_iconst (v := 1) E dX8_never_45 (by decide) ?_
        refine aw_aload_n E dX8_never_46 2 rfl ?_
        refine aw_getR (q := 1) E flX8_12 (Nat.le_of_ble_eq_true rfl) rfl rfl dX8_never_47 ?_
        refine aw_getI E flX8_105 (Nat.le_of_ble_eq_true rfl) rfl rfl dX8_never_50 ?_
        refine aw_ishl E dX8_never_53 ?_
        refine aw_iconst (v := (-1)) E dX8_never_54 (by decide) ?_
        refine aw_ixor E dX8_never_55 ?_
        refine aw_iand E dX8_never_56 ?_
        refine aw_goto (tgt := 67) E dX8_never_57 rfl ?_
        replace h := Option.some.inj h
        subst h
        exact aw_iret E dX8_never_67 hr
    ·
      replace h := ip c22 h
      refine aw_iload_n E dX8_never_25 0 rfl ?_
      replace h := Option.some.inj h
      subst h
      exact aw_iret E dX8_never_26 hr
  refine aw_if_lt (tgt := 9) E dX8_never_1 rfl (fun c1 => ?_) (fun c1 => ?_)
  ·
    replace e2 := ip c1 e2
    subst e2
    exact J3 rfl
  ·
    replace e2 := iq c1 e2
    refine aw_iload_n E dX8_never_4 1 rfl ?_
    refine aw_iconst (v := 2) E dX8_never_5 (by decide) ?_
    refine aw_icmp_le (tgt := 12) E dX8_never_6 rfl (fun c6 => ?_) (fun c6 => ?_)
    ·
      replace e2 := ip c6 e2
      subst e2
      exact J4 rfl
    ·
      replace e2 := iq c6 e2
      subst e2
      exact J3 rfl
def FX8_newly_L38 : Nat → Int32 → Int32 → Int32 → Int32 → Int32 → Int32 → Int32 → Mem → Option (Int32 × Int32 × Int32)
  | 0, _, _, _, _, _, _, _, _ => none
  | f + 1, p1, p2, p3, p4, p5, p6, p7, M =>
    if 9 ≤ p7 then
      some (p4, p5, p6)
    else
      if ((p3 >>> (p7 &&& 31)) &&& 1) = 0 then
        lt (α := Int32) (p7 + 1) fun x120 =>
        FX8_newly_L38 f p1 p2 p3 p4 p5 p6 x120 M
      else
        ob (FX3_joined ((1 : Int32) <<< (p7 &&& 31)) (p2 ^^^ (-1)) p1 M) fun q101 =>
        ob (FX3_ending q101 p2 p1 M) fun q103 =>
        lt (α := Int32) (p3 &&& (q101 ^^^ (-1))) fun x105 =>
        lt (α := Int32) (p4 + 1) fun x107 =>
        lt (α := Int32) (if q103 = 0 then
          lt (α := Int32) (p5 + 1) fun x118 =>
          x118
        else
          p5) fun q109 =>
        if q103 = 1 then
          lt (α := Int32) (p6 + 1) fun x114 =>
          lt (α := Int32) (p7 + 1) fun x116 =>
          FX8_newly_L38 f p1 p2 x105 x107 q109 x114 x116 M
        else
          lt (α := Int32) (p7 + 1) fun x112 =>
          FX8_newly_L38 f p1 p2 x105 x107 q109 p6 x112 M
def FX8_newly  (M : Mem) : Option (Int32) :=
  lt (α := Int32) (M.1 1 4) fun x1 =>
  ob (FX3_bonds x1 M) fun q3 =>
  ob (FX3_built x1 M) fun q5 =>
  ob (FX8_newly_L38 FU x1 q3 q5 0 0 0 0 M) fun q7 =>
  if 2 ≤ q7.1 then
    some (q7.2.1 + ((q7.2.2 + 1) / 2))
  else
    some 0
set_option maxHeartbeats 4000000 in
set_option maxRecDepth 100000 in
theorem lpX8_newly_38 {Y : CtxM} {g : CtxG} {r : Option Value × Mem} (E : EV Y (WX g) cX8_newly 10 (some .int) RX8) (p1 : Int32) (p2 : Int32) : ∀ (f : Nat) (p3 : Int32) (p4 : Int32) (p5 : Int32) (p6 : Int32) (p7 : Int32) (M : Mem) (q : Int32 × Int32 × Int32), FX8_newly_L38 f p1 p2 p3 p4 p5 p6 p7 M = some q → AW Y (WX g) r 10 3 120 [(4, .int q.1), (5, .int q.2.1), (6, .int q.2.2)] [] M → AW Y (WX g) r 10 3 38 [(0, .ref (wad (WX g) 0)), (1, .int p1), (2, .int p2), (3, .int p3), (4, .int p4), (5, .int p5), (6, .int p6), (7, .int p7)] [] M := by
  intro f
  induction f with
  | zero => intro p3 p4 p5 p6 p7 M q hh; exact absurd hh (fun z => nomatch (show (none : Option (Int32 × Int32 × Int32)) = some q from z))
  | succ f ih =>
    intro p3 p4 p5 p6 p7 M q hh kx
    rw [FX8_newly_L38] at hh
    refine aw_iload E dX8_newly_38 7 rfl ?_
    refine aw_bipush (v := 9) E dX8_newly_40 (by decide) ?_
    refine aw_icmp_ge (tgt := 120) E dX8_newly_42 rfl (fun c42 => ?_) (fun c42 => ?_)
    ·
      replace hh := ip c42 hh
      refine aw_sub (L1 := [(4, .int p4), (5, .int p5), (6, .int p6)]) [4, 5, 6] rfl ?_
      replace hh := Option.some.inj hh
      subst hh
      exact kx
    ·
      replace hh := iq c42 hh
      refine aw_iload_n E dX8_newly_45 3 rfl ?_
      refine aw_iload E dX8_newly_46 7 rfl ?_
      refine aw_ishr E dX8_newly_48 ?_
      refine aw_iconst (v := 1) E dX8_newly_49 (by decide) ?_
      refine aw_iand E dX8_newly_50 ?_
      refine aw_if_ne (tgt := 57) E dX8_newly_51 rfl (fun c51 => ?_) (fun c51 => ?_)
      ·
        replace hh := iq c51 hh
        refine aw_aload_n E dX8_newly_57 0 rfl ?_
        refine aw_getR (q := 4) E flX8_25 (Nat.le_of_ble_eq_true rfl) rfl rfl dX8_newly_58 ?_
        refine aw_iconst (v := 1) E dX8_newly_61 (by decide) ?_
        refine aw_iload E dX8_newly_62 7 rfl ?_
        refine aw_ishl E dX8_newly_64 ?_
        refine aw_iload_n E dX8_newly_65 2 rfl ?_
        refine aw_iconst (v := (-1)) E dX8_newly_66 (by decide) ?_
        refine aw_ixor E dX8_newly_67 ?_
        refine aw_iload_n E dX8_newly_68 1 rfl ?_
        obtain ⟨q101, e102, hh⟩ := bd_e hh
        refine aw_callVi (S := []) E mvX3_joined mlX8_234 (Nat.le_of_ble_eq_true rfl) rfl rfl rfl (ctX3_joined (yl Y) g ((1 : Int32) <<< (p7 &&& 31)) (p2 ^^^ (-1)) p1  M q101 e102) rfl (Nat.le_of_ble_eq_true rfl) (Nat.le_of_ble_eq_true rfl) dX8_newly_69 ?_
        refine aw_istore (L1 := [(8, .int q101), (0, .ref (wad (WX g) 0)), (1, .int p1), (2, .int p2), (3, .int p3), (4, .int p4), (5, .int p5), (6, .int p6), (7, .int p7)]) E dX8_newly_72 (Nat.le_of_ble_eq_true rfl) rfl ?_
        refine aw_aload_n E dX8_newly_74 1 rfl ?_
        refine aw_getR (q := 4) E flX8_25 (Nat.le_of_ble_eq_true rfl) rfl rfl dX8_newly_75 ?_
        refine aw_iload E dX8_newly_78 0 rfl ?_
        refine aw_iload_n E dX8_newly_80 3 rfl ?_
        refine aw_iload_n E dX8_newly_81 2 rfl ?_
        obtain ⟨q103, e104, hh⟩ := bd_e hh
        refine aw_callVi (S := []) E mvX3_ending mlX8_237 (Nat.le_of_ble_eq_true rfl) rfl rfl rfl (ctX3_ending (yl Y) g q101 p2 p1  M q103 e104) rfl (Nat.le_of_ble_eq_true rfl) (Nat.le_of_ble_eq_true rfl) dX8_newly_82 ?_
        refine aw_istore (L1 := [(9, .int q103), (8, .int q101), (0, .ref (wad (WX g) 0)), (1, .int p1), (2, .int p2), (3, .int p3), (4, .int p4), (5, .int p5), (6, .int p6), (7, .int p7)]) E dX8_newly_85 (Nat.le_of_ble_eq_true rfl) rfl ?_
        refine aw_iload_n E dX8_newly_87 5 rfl ?_
        refine aw_iload E dX8_newly_88 1 rfl ?_
        refine aw_iconst (v := (-1)) E dX8_newly_90 (by decide) ?_
        refine aw_ixor E dX8_newly_91 ?_
        refine aw_iand E dX8_newly_92 ?_
        obtain ⟨x105, e106, hh⟩ := lt_e hh
        refine aw_nmI e106 ?_
        refine aw_istore_n (L1 := [(3, .int x105), (9, .int q103), (8, .int q101), (0, .ref (wad (WX g) 0)), (1, .int p1), (2, .int p2), (4, .int p4), (5, .int p5), (6, .int p6), (7, .int p7)]) E dX8_newly_93 (Nat.le_of_ble_eq_true rfl) rfl ?_
        obtain ⟨x107, e108, hh⟩ := lt_e hh
        refine aw_iinc (v := x107) (L1 := [(4, .int x107), (3, .int x105), (9, .int q103), (8, .int q101), (0, .ref (wad (WX g) 0)), (1, .int p1), (2, .int p2), (5, .int p5), (6, .int p6), (7, .int p7)]) E dX8_newly_94 6 rfl e108 (Nat.le_of_ble_eq_true rfl) rfl ?_
        refine aw_iload E dX8_newly_97 2 rfl ?_
        obtain ⟨q109, e110, hh⟩ := lt_e hh
        have J111 : AW Y (WX g) r 10 3 105 [(0, .ref (wad (WX g) 0)), (1, .int p1), (2, .int p2), (3, .int x105), (4, .int x107), (5, .int q109), (6, .int p6), (7, .int p7), (9, .int q103)] [] M := by
          refine aw_iload E dX8_newly_105 8 rfl ?_
          refine aw_iconst (v := 1) E dX8_newly_107 (by decide) ?_
          refine aw_icmp_ne (tgt := 114) E dX8_newly_108 rfl (fun c108 => ?_) (fun c108 => ?_)
          ·
            replace hh := iq c108 hh
            obtain ⟨x112, e113, hh⟩ := lt_e hh
            refine aw_iinc (v := x112) (L1 := [(7, .int x112), (0, .ref (wad (WX g) 0)), (1, .int p1), (2, .int p2), (3, .int x105), (4, .int x107), (5, .int q109), (6, .int p6), (9, .int q103)]) E dX8_newly_114 7 rfl e113 (Nat.le_of_ble_eq_true rfl) rfl ?_
            refine aw_goto (tgt := 38) E dX8_newly_117 rfl ?_
            refine aw_sub (L1 := [(0, .ref (wad (WX g) 0)), (1, .int p1), (2, .int p2), (3, .int x105), (4, .int x107), (5, .int q109), (6, .int p6), (7, .int x112)]) [1, 2, 3, 4, 5, 6, 7, 0] rfl ?_
            exact ih x105 x107 q109 p6 x112 M _ hh kx
          ·
            replace hh := ip c108 hh
            obtain ⟨x114, e115, hh⟩ := lt_e hh
            refine aw_iinc (v := x114) (L1 := [(6, .int x114), (0, .ref (wad (WX g) 0)), (1, .int p1), (2, .int p2), (3, .int x105), (4, .int x107), (5, .int q109), (7, .int p7), (9, .int q103)]) E dX8_newly_111 6 rfl e115 (Nat.le_of_ble_eq_true rfl) rfl ?_
            obtain ⟨x116, e117, hh⟩ := lt_e hh
            refine aw_iinc (v := x116) (L1 := [(7, .int x116), (6, .int x114), (0, .ref (wad (WX g) 0)), (1, .int p1), (2, .int p2), (3, .int x105), (4, .int x107), (5, .int q109), (9, .int q103)]) E dX8_newly_114 7 rfl e117 (Nat.le_of_ble_eq_true rfl) rfl ?_
            refine aw_goto (tgt := 38) E dX8_newly_117 rfl ?_
            refine aw_sub (L1 := [(0, .ref (wad (WX g) 0)), (1, .int p1), (2, .int p2), (3, .int x105), (4, .int x107), (5, .int q109), (6, .int x114), (7, .int x116)]) [2, 3, 4, 5, 6, 7, 1, 0] rfl ?_
            exact ih x105 x107 q109 x114 x116 M _ hh kx
        refine aw_if_ne (tgt := 105) E dX8_newly_99 rfl (fun c99 => ?_) (fun c99 => ?_)
        ·
          replace e110 := iq c99 e110
          refine aw_sub (L1 := [(0, .ref (wad (WX g) 0)), (1, .int p1), (2, .int p2), (3, .int x105), (4, .int x107), (5, .int p5), (6, .int p6), (7, .int p7), (9, .int q103)]) [4, 5, 6, 1, 0, 7, 8, 9, 2] rfl ?_
          subst e110
          exact J111
        ·
          replace e110 := ip c99 e110
          obtain ⟨x118, e119, e110⟩ := lt_e e110
          refine aw_iinc (v := x118) (L1 := [(5, .int x118), (4, .int x107), (3, .int x105), (9, .int q103), (8, .int q101), (0, .ref (wad (WX g) 0)), (1, .int p1), (2, .int p2), (6, .int p6), (7, .int p7)]) E dX8_newly_102 7 rfl e119 (Nat.le_of_ble_eq_true rfl) rfl ?_
          refine aw_sub (L1 := [(0, .ref (wad (WX g) 0)), (1, .int p1), (2, .int p2), (3, .int x105), (4, .int x107), (5, .int x118), (6, .int p6), (7, .int p7), (9, .int q103)]) [5, 6, 7, 2, 1, 0, 8, 9, 3] rfl ?_
          subst e110
          exact J111
      ·
        replace hh := ip c51 hh
        refine aw_goto (tgt := 114) E dX8_newly_54 rfl ?_
        obtain ⟨x120, e121, hh⟩ := lt_e hh
        refine aw_iinc (v := x120) (L1 := [(7, .int x120), (0, .ref (wad (WX g) 0)), (1, .int p1), (2, .int p2), (3, .int p3), (4, .int p4), (5, .int p5), (6, .int p6)]) E dX8_newly_114 7 rfl e121 (Nat.le_of_ble_eq_true rfl) rfl ?_
        refine aw_goto (tgt := 38) E dX8_newly_117 rfl ?_
        refine aw_sub (L1 := [(0, .ref (wad (WX g) 0)), (1, .int p1), (2, .int p2), (3, .int p3), (4, .int p4), (5, .int p5), (6, .int p6), (7, .int x120)]) [1, 2, 3, 4, 5, 6, 7, 0] rfl ?_
        exact ih p3 p4 p5 p6 x120 M _ hh kx
set_option maxHeartbeats 4000000 in
set_option maxRecDepth 100000 in
theorem ctX8_newly (l : Launch) (g : CtxG)  (M : Mem) (r0 : Int32) (h : FX8_newly M = some r0) : Ct l (WX g) yX8_newly cX8_newly 10 (some .int) 3 [.ref (wad (WX g) 0)] M (some (.int r0), M) := by
  refine Ct.of (by decide) (Nat.le_of_ble_eq_true rfl) (fun Y hY E => ?_)
  have E : EV Y (WX g) cX8_newly 10 (some .int) RX8 := E
  have h : FX8_newly  M = some r0 := h
  unfold FX8_newly at h
  show AW Y (WX g) _ 10 3 0 [(0, .ref (wad (WX g) 0))] [] M
  obtain ⟨r, hr⟩ : ∃ r : Option Value × Mem, r = (some (.int r0), M) := ⟨_, rfl⟩
  rw [← hr]
  refine aw_aload_n E dX8_newly_0 0 rfl ?_
  refine aw_getR (q := 1) E flX8_12 (Nat.le_of_ble_eq_true rfl) rfl rfl dX8_newly_1 ?_
  refine aw_getI E flX8_111 (Nat.le_of_ble_eq_true rfl) rfl rfl dX8_newly_4 ?_
  obtain ⟨x1, e2, h⟩ := lt_e h
  refine aw_nmI e2 ?_
  refine aw_istore_n (L1 := [(1, .int x1), (0, .ref (wad (WX g) 0))]) E dX8_newly_7 (Nat.le_of_ble_eq_true rfl) rfl ?_
  refine aw_aload_n E dX8_newly_8 1 rfl ?_
  refine aw_getR (q := 4) E flX8_25 (Nat.le_of_ble_eq_true rfl) rfl rfl dX8_newly_9 ?_
  refine aw_iload_n E dX8_newly_12 0 rfl ?_
  obtain ⟨q3, e4, h⟩ := bd_e h
  refine aw_callVi (S := []) E mvX3_bonds mlX8_228 (Nat.le_of_ble_eq_true rfl) rfl rfl rfl (ctX3_bonds (yl Y) g x1  M q3 e4) rfl (Nat.le_of_ble_eq_true rfl) (Nat.le_of_ble_eq_true rfl) dX8_newly_13 ?_
  refine aw_istore_n (L1 := [(2, .int q3), (1, .int x1), (0, .ref (wad (WX g) 0))]) E dX8_newly_16 (Nat.le_of_ble_eq_true rfl) rfl ?_
  refine aw_aload_n E dX8_newly_17 2 rfl ?_
  refine aw_getR (q := 4) E flX8_25 (Nat.le_of_ble_eq_true rfl) rfl rfl dX8_newly_18 ?_
  refine aw_iload_n E dX8_newly_21 1 rfl ?_
  obtain ⟨q5, e6, h⟩ := bd_e h
  refine aw_callVi (S := []) E mvX3_built mlX8_231 (Nat.le_of_ble_eq_true rfl) rfl rfl rfl (ctX3_built (yl Y) g x1  M q5 e6) rfl (Nat.le_of_ble_eq_true rfl) (Nat.le_of_ble_eq_true rfl) dX8_newly_22 ?_
  refine aw_istore_n (L1 := [(3, .int q5), (2, .int q3), (1, .int x1), (0, .ref (wad (WX g) 0))]) E dX8_newly_25 (Nat.le_of_ble_eq_true rfl) rfl ?_
  refine aw_iconst (v := 0) E dX8_newly_26 (by decide) ?_
  refine aw_istore (L1 := [(4, .int 0), (3, .int q5), (2, .int q3), (1, .int x1), (0, .ref (wad (WX g) 0))]) E dX8_newly_27 (Nat.le_of_ble_eq_true rfl) rfl ?_
  refine aw_iconst (v := 0) E dX8_newly_29 (by decide) ?_
  refine aw_istore (L1 := [(5, .int 0), (4, .int 0), (3, .int q5), (2, .int q3), (1, .int x1), (0, .ref (wad (WX g) 0))]) E dX8_newly_30 (Nat.le_of_ble_eq_true rfl) rfl ?_
  refine aw_iconst (v := 0) E dX8_newly_32 (by decide) ?_
  refine aw_istore (L1 := [(6, .int 0), (5, .int 0), (4, .int 0), (3, .int q5), (2, .int q3), (1, .int x1), (0, .ref (wad (WX g) 0))]) E dX8_newly_33 (Nat.le_of_ble_eq_true rfl) rfl ?_
  refine aw_iconst (v := 0) E dX8_newly_35 (by decide) ?_
  refine aw_istore (L1 := [(7, .int 0), (6, .int 0), (5, .int 0), (4, .int 0), (3, .int q5), (2, .int q3), (1, .int x1), (0, .ref (wad (WX g) 0))]) E dX8_newly_36 (Nat.le_of_ble_eq_true rfl) rfl ?_
  obtain ⟨q7, e8, h⟩ := bd_e h
  refine aw_sub (L1 := [(0, .ref (wad (WX g) 0)), (1, .int x1), (2, .int q3), (3, .int q5), (4, .int 0), (5, .int 0), (6, .int 0), (7, .int 0)]) [7, 6, 5, 4, 3, 2, 1, 0] rfl ?_
  refine lpX8_newly_38 E   x1 q3 FU q5 0 0 0 0 M q7 e8 ?_
  refine aw_iload E dX8_newly_120 0 rfl ?_
  refine aw_iconst (v := 2) E dX8_newly_122 (by decide) ?_
  refine aw_icmp_ge (tgt := 130) E dX8_newly_123 rfl (fun c123 => ?_) (fun c123 => ?_)
  ·
    replace h := ip c123 h
    refine aw_iload E dX8_newly_130 1 rfl ?_
    refine aw_iload E dX8_newly_132 2 rfl ?_
    refine aw_iconst (v := 1) E dX8_newly_134 (by decide) ?_
    refine aw_iadd E dX8_newly_135 ?_
    refine aw_iconst (v := 2) E dX8_newly_136 (by decide) ?_
    refine aw_idiv E dX8_newly_137 (by decide) ?_
    refine aw_iadd E dX8_newly_138 ?_
    replace h := Option.some.inj h
    subst h
    exact aw_iret E dX8_newly_139 hr
  ·
    replace h := iq c123 h
    refine aw_iconst (v := 0) E dX8_newly_126 (by decide) ?_
    refine aw_goto (tgt := 139) E dX8_newly_127 rfl ?_
    replace h := Option.some.inj h
    subst h
    exact aw_iret E dX8_newly_139 hr
def FX8_odds_L75 : Nat → Int32 → Int32 → Int32 → Int32 → Int32 → Mem → Option (Int32 × Mem)
  | 0, _, _, _, _, _, _ => none
  | f + 1, p1, p2, p3, p5, p6, M =>
    if p2 ≤ p6 then
      some (p5, M)
    else
      ob (FX8_stray (p1 + p6) M) fun q101 =>
      if p3 = 1 then
        lt (α := Int32) (p5 + (q101.1 42 2)) fun x113 =>
        lt (α := Int32) (p6 + 1) fun x115 =>
        FX8_odds_L75 f p1 p2 p3 x113 x115 q101
      else
        lt (α := Bool) (if (q101.1 42 2) ≤ 0 then false else if (FX4_corner q101) = (q101.1 1 0) then true else false) fun b103 =>
        if b103 = true then
          lt (α := Int32) (p5 + 1) fun x107 =>
          lt (α := Int32) (p6 + 1) fun x109 =>
          FX8_odds_L75 f p1 p2 p3 x107 x109 q101
        else
          lt (α := Int32) (p6 + 1) fun x111 =>
          FX8_odds_L75 f p1 p2 p3 p5 x111 q101
def FX8_odds (a1 : Int32) (a2 : Int32) (a3 : Int32) (a4 : Int32) (M : Mem) : Option (Int64 × Mem) :=
  if a1 < 0 then
    some ((-4611686018427387904), M)
  else
    lt (α := Bool) (if 99999 < a1 then true else if a2 < 1 then true else if a2 ≤ 50 then false else true) fun b1 =>
    if b1 = true then
      some ((-4611686018427387904), M)
    else
      lt (α := Bool) (if a3 < 0 then true else if 1 < a3 then true else if a4 < 0 then true else if a4 ≤ 1 then false else true) fun b5 =>
      if b5 = true then
        some ((-4611686018427387904), M)
      else
        ob (FX7_lay 1 M) fun q9 =>
        ob (FX8_odds_L75 FU a1 a2 a3 0 0 q9) fun q11 =>
        ob (FX8_commonDivisor q11.1 a2) fun q13 =>
        lt (α := Int32) (if a4 = 0 then
          q11.1
        else
          a2) fun q15 =>
        gd (¬ q13 = 0) <|
        some ((q15 / q13).toInt64, q11.2)
set_option maxHeartbeats 4000000 in
set_option maxRecDepth 100000 in
theorem lpX8_odds_75 {Y : CtxM} {g : CtxG} {r : Option Value × Mem} (E : EV Y (WX g) cX8_odds 7 (some .long) RX8) (p1 : Int32) (p2 : Int32) (p3 : Int32) (p4 : Int32) : ∀ (f : Nat) (p5 : Int32) (p6 : Int32) (M : Mem) (q : Int32 × Mem), FX8_odds_L75 f p1 p2 p3 p5 p6 M = some q → AW Y (WX g) r 7 5 145 [(2, .int p2), (4, .int p4), (5, .int q.1)] [] q.2 → AW Y (WX g) r 7 5 75 [(0, .ref (wad (WX g) 0)), (1, .int p1), (2, .int p2), (3, .int p3), (4, .int p4), (5, .int p5), (6, .int p6)] [] M := by
  intro f
  induction f with
  | zero => intro p5 p6 M q hh; exact absurd hh (fun z => nomatch (show (none : Option (Int32 × Mem)) = some q from z))
  | succ f ih =>
    intro p5 p6 M q hh kx
    rw [FX8_odds_L75] at hh
    refine aw_iload E dX8_odds_75 6 rfl ?_
    refine aw_iload_n E dX8_odds_77 2 rfl ?_
    refine aw_icmp_ge (tgt := 145) E dX8_odds_78 rfl (fun c78 => ?_) (fun c78 => ?_)
    ·
      replace hh := ip c78 hh
      refine aw_sub (L1 := [(2, .int p2), (4, .int p4), (5, .int p5)]) [2, 4, 5] rfl ?_
      replace hh := Option.some.inj hh
      subst hh
      exact kx
    ·
      replace hh := iq c78 hh
      refine aw_aload_n E dX8_odds_81 0 rfl ?_
      refine aw_iload_n E dX8_odds_82 1 rfl ?_
      refine aw_iload E dX8_odds_83 6 rfl ?_
      refine aw_iadd E dX8_odds_85 ?_
      obtain ⟨q101, e102, hh⟩ := bd_e hh
      refine aw_callVv (S := []) E mvX8_stray mlX8_269 (Nat.le_of_ble_eq_true rfl) rfl rfl rfl (ctX8_stray (yl Y) g (p1 + p6)  M q101 e102) rfl (Nat.le_of_ble_eq_true rfl) (Nat.le_of_ble_eq_true rfl) dX8_odds_86 ?_
      refine aw_iload_n E dX8_odds_89 3 rfl ?_
      refine aw_iconst (v := 1) E dX8_odds_90 (by decide) ?_
      refine aw_icmp_ne (tgt := 109) E dX8_odds_91 rfl (fun c91 => ?_) (fun c91 => ?_)
      ·
        replace hh := iq c91 hh
        refine aw_aload_n E dX8_odds_109 0 rfl ?_
        refine aw_getR (q := 42) E flX8_60 (Nat.le_of_ble_eq_true rfl) rfl rfl dX8_odds_110 ?_
        refine aw_getI E flX8_272 (Nat.le_of_ble_eq_true rfl) rfl rfl dX8_odds_113 ?_
        obtain ⟨b103, e104, hh⟩ := lt_e hh
        have J105 : b103 = true → AW Y (WX g) r 7 5 136 [(0, .ref (wad (WX g) 0)), (1, .int p1), (2, .int p2), (3, .int p3), (4, .int p4), (5, .int p5), (6, .int p6)] [] q101 := fun hb => by
          replace hh := ip hb hh
          obtain ⟨x107, e108, hh⟩ := lt_e hh
          refine aw_iinc (v := x107) (L1 := [(5, .int x107), (0, .ref (wad (WX g) 0)), (1, .int p1), (2, .int p2), (3, .int p3), (4, .int p4), (6, .int p6)]) E dX8_odds_136 5 rfl e108 (Nat.le_of_ble_eq_true rfl) rfl ?_
          obtain ⟨x109, e110, hh⟩ := lt_e hh
          refine aw_iinc (v := x109) (L1 := [(6, .int x109), (5, .int x107), (0, .ref (wad (WX g) 0)), (1, .int p1), (2, .int p2), (3, .int p3), (4, .int p4)]) E dX8_odds_139 6 rfl e110 (Nat.le_of_ble_eq_true rfl) rfl ?_
          refine aw_goto (tgt := 75) E dX8_odds_142 rfl ?_
          refine aw_sub (L1 := [(0, .ref (wad (WX g) 0)), (1, .int p1), (2, .int p2), (3, .int p3), (4, .int p4), (5, .int x107), (6, .int x109)]) [2, 3, 4, 5, 6, 1, 0] rfl ?_
          exact ih x107 x109 q101 _ hh kx
        have J106 : b103 = false → AW Y (WX g) r 7 5 139 [(0, .ref (wad (WX g) 0)), (1, .int p1), (2, .int p2), (3, .int p3), (4, .int p4), (5, .int p5), (6, .int p6)] [] q101 := fun hb => by
          replace hh := iq (bf hb) hh
          obtain ⟨x111, e112, hh⟩ := lt_e hh
          refine aw_iinc (v := x111) (L1 := [(6, .int x111), (0, .ref (wad (WX g) 0)), (1, .int p1), (2, .int p2), (3, .int p3), (4, .int p4), (5, .int p5)]) E dX8_odds_139 6 rfl e112 (Nat.le_of_ble_eq_true rfl) rfl ?_
          refine aw_goto (tgt := 75) E dX8_odds_142 rfl ?_
          refine aw_sub (L1 := [(0, .ref (wad (WX g) 0)), (1, .int p1), (2, .int p2), (3, .int p3), (4, .int p4), (5, .int p5), (6, .int x111)]) [1, 2, 3, 4, 5, 6, 0] rfl ?_
          exact ih p5 x111 q101 _ hh kx
        refine aw_if_le (tgt := 139) E dX8_odds_116 rfl (fun c116 => ?_) (fun c116 => ?_)
        ·
          replace e104 := ip c116 e104
          subst e104
          exact J106 rfl
        ·
          replace e104 := iq c116 e104
          refine aw_aload_n E dX8_odds_119 0 rfl ?_
          refine aw_getR (q := 42) E flX8_60 (Nat.le_of_ble_eq_true rfl) rfl rfl dX8_odds_120 ?_
          refine aw_callVi (S := []) E mvX4_corner mlX8_256 (Nat.le_of_ble_eq_true rfl) rfl rfl rfl (ctX4_corner (yl Y) g   q101 ) rfl (Nat.le_of_ble_eq_true rfl) (Nat.le_of_ble_eq_true rfl) dX8_odds_123 ?_
          refine aw_aload_n E dX8_odds_126 0 rfl ?_
          refine aw_getR (q := 1) E flX8_12 (Nat.le_of_ble_eq_true rfl) rfl rfl dX8_odds_127 ?_
          refine aw_getI E flX8_105 (Nat.le_of_ble_eq_true rfl) rfl rfl dX8_odds_130 ?_
          refine aw_icmp_ne (tgt := 139) E dX8_odds_133 rfl (fun c133 => ?_) (fun c133 => ?_)
          ·
            replace e104 := iq c133 e104
            subst e104
            exact J106 rfl
          ·
            replace e104 := ip c133 e104
            subst e104
            exact J105 rfl
      ·
        replace hh := ip c91 hh
        refine aw_iload E dX8_odds_94 5 rfl ?_
        refine aw_aload_n E dX8_odds_96 0 rfl ?_
        refine aw_getR (q := 42) E flX8_60 (Nat.le_of_ble_eq_true rfl) rfl rfl dX8_odds_97 ?_
        refine aw_getI E flX8_272 (Nat.le_of_ble_eq_true rfl) rfl rfl dX8_odds_100 ?_
        refine aw_iadd E dX8_odds_103 ?_
        obtain ⟨x113, e114, hh⟩ := lt_e hh
        refine aw_nmI e114 ?_
        refine aw_istore (L1 := [(5, .int x113), (0, .ref (wad (WX g) 0)), (1, .int p1), (2, .int p2), (3, .int p3), (4, .int p4), (6, .int p6)]) E dX8_odds_104 (Nat.le_of_ble_eq_true rfl) rfl ?_
        refine aw_goto (tgt := 139) E dX8_odds_106 rfl ?_
        obtain ⟨x115, e116, hh⟩ := lt_e hh
        refine aw_iinc (v := x115) (L1 := [(6, .int x115), (5, .int x113), (0, .ref (wad (WX g) 0)), (1, .int p1), (2, .int p2), (3, .int p3), (4, .int p4)]) E dX8_odds_139 6 rfl e116 (Nat.le_of_ble_eq_true rfl) rfl ?_
        refine aw_goto (tgt := 75) E dX8_odds_142 rfl ?_
        refine aw_sub (L1 := [(0, .ref (wad (WX g) 0)), (1, .int p1), (2, .int p2), (3, .int p3), (4, .int p4), (5, .int x113), (6, .int x115)]) [2, 3, 4, 5, 6, 1, 0] rfl ?_
        exact ih x113 x115 q101 _ hh kx
set_option maxHeartbeats 4000000 in
set_option maxRecDepth 100000 in
theorem ctX8_odds (l : Launch) (g : CtxG) (a1 : Int32) (a2 : Int32) (a3 : Int32) (a4 : Int32) (M : Mem) (r0 : Int64 × Mem) (h : FX8_odds a1 a2 a3 a4 M = some r0) : Ct l (WX g) yX8_odds cX8_odds 7 (some .long) 5 [.ref (wad (WX g) 0), .int a1, .int a2, .int a3, .int a4] M (some (.long r0.1), r0.2) := by
  refine Ct.of (by decide) (Nat.le_of_ble_eq_true rfl) (fun Y hY E => ?_)
  have E : EV Y (WX g) cX8_odds 7 (some .long) RX8 := E
  have h : FX8_odds a1 a2 a3 a4 M = some r0 := h
  unfold FX8_odds at h
  show AW Y (WX g) _ 7 5 0 [(0, .ref (wad (WX g) 0)), (1, .int a1), (2, .int a2), (3, .int a3), (4, .int a4)] [] M
  obtain ⟨r, hr⟩ : ∃ r : Option Value × Mem, r = (some (.long r0.1), r0.2) := ⟨_, rfl⟩
  rw [← hr]
  refine aw_iload_n E dX8_odds_0 1 rfl ?_
  refine aw_if_lt (tgt := 22) E dX8_odds_1 rfl (fun c1 => ?_) (fun c1 => ?_)
  ·
    replace h := ip c1 h
    refine aw_ldc2 (v := (-4611686018427387904)) E kcX8_273 dX8_odds_22 ?_
    replace h := Option.some.inj h
    subst h
    exact aw_lret E dX8_odds_25 hr
  ·
    replace h := iq c1 h
    refine aw_iload_n E dX8_odds_4 1 rfl ?_
    refine aw_ldcw (v := 99999) E kcX8_268 dX8_odds_5 ?_
    obtain ⟨b1, e2, h⟩ := lt_e h
    have J3 : b1 = true → AW Y (WX g) r 7 5 22 [(0, .ref (wad (WX g) 0)), (1, .int a1), (2, .int a2), (3, .int a3), (4, .int a4)] [] M := fun hb => by
      replace h := ip hb h
      refine aw_ldc2 (v := (-4611686018427387904)) E kcX8_273 dX8_odds_22 ?_
      replace h := Option.some.inj h
      subst h
      exact aw_lret E dX8_odds_25 hr
    have J4 : b1 = false → AW Y (WX g) r 7 5 26 [(0, .ref (wad (WX g) 0)), (1, .int a1), (2, .int a2), (3, .int a3), (4, .int a4)] [] M := fun hb => by
      replace h := iq (bf hb) h
      refine aw_iload_n E dX8_odds_26 3 rfl ?_
      obtain ⟨b5, e6, h⟩ := lt_e h
      have J7 : b5 = true → AW Y (WX g) r 7 5 46 [(0, .ref (wad (WX g) 0)), (1, .int a1), (2, .int a2), (3, .int a3), (4, .int a4)] [] M := fun hb => by
        replace h := ip hb h
        refine aw_ldc2 (v := (-4611686018427387904)) E kcX8_273 dX8_odds_46 ?_
        replace h := Option.some.inj h
        subst h
        exact aw_lret E dX8_odds_49 hr
      have J8 : b5 = false → AW Y (WX g) r 7 5 50 [(0, .ref (wad (WX g) 0)), (1, .int a1), (2, .int a2), (3, .int a3), (4, .int a4)] [] M := fun hb => by
        replace h := iq (bf hb) h
        refine aw_aload_n E dX8_odds_50 0 rfl ?_
        refine aw_getR (q := 31) E flX8_46 (Nat.le_of_ble_eq_true rfl) rfl rfl dX8_odds_51 ?_
        refine aw_aload_n E dX8_odds_54 0 rfl ?_
        refine aw_getR (q := 1) E flX8_12 (Nat.le_of_ble_eq_true rfl) rfl rfl dX8_odds_55 ?_
        refine aw_aload_n E dX8_odds_58 0 rfl ?_
        refine aw_getR (q := 4) E flX8_25 (Nat.le_of_ble_eq_true rfl) rfl rfl dX8_odds_59 ?_
        refine aw_aload_n E dX8_odds_62 0 rfl ?_
        refine aw_getR (q := 14) E flX8_39 (Nat.le_of_ble_eq_true rfl) rfl rfl dX8_odds_63 ?_
        obtain ⟨q9, e10, h⟩ := bd_e h
        refine aw_callVv (S := []) E mvX7_lay mlX8_163 (Nat.le_of_ble_eq_true rfl) rfl rfl rfl (ctX7_lay (yl Y) g 1 set1 M q9 e10) rfl (Nat.le_of_ble_eq_true rfl) (Nat.le_of_ble_eq_true rfl) dX8_odds_66 ?_
        refine aw_iconst (v := 0) E dX8_odds_69 (by decide) ?_
        refine aw_istore (L1 := [(5, .int 0), (0, .ref (wad (WX g) 0)), (1, .int a1), (2, .int a2), (3, .int a3), (4, .int a4)]) E dX8_odds_70 (Nat.le_of_ble_eq_true rfl) rfl ?_
        refine aw_iconst (v := 0) E dX8_odds_72 (by decide) ?_
        refine aw_istore (L1 := [(6, .int 0), (5, .int 0), (0, .ref (wad (WX g) 0)), (1, .int a1), (2, .int a2), (3, .int a3), (4, .int a4)]) E dX8_odds_73 (Nat.le_of_ble_eq_true rfl) rfl ?_
        obtain ⟨q11, e12, h⟩ := bd_e h
        refine aw_sub (L1 := [(0, .ref (wad (WX g) 0)), (1, .int a1), (2, .int a2), (3, .int a3), (4, .int a4), (5, .int 0), (6, .int 0)]) [2, 3, 4, 5, 6, 1, 0] rfl ?_
        refine lpX8_odds_75 E   a1 a2 a3 a4 FU 0 0 q9 q11 e12 ?_
        refine aw_iload E dX8_odds_145 2 rfl ?_
        refine aw_iload_n E dX8_odds_147 0 rfl ?_
        obtain ⟨q13, e14, h⟩ := bd_e h
        refine aw_callSi (S := []) E msX8_commonDivisor mlX8_275 rfl (ctX8_commonDivisor (yl Y) g q11.1 a2  q11.2 q13 e14) rfl (Nat.le_of_ble_eq_true rfl) (Nat.le_of_ble_eq_true rfl) dX8_odds_148 ?_
        refine aw_istore (L1 := [(6, .int q13), (2, .int a2), (4, .int a4), (5, .int q11.1)]) E dX8_odds_151 (Nat.le_of_ble_eq_true rfl) rfl ?_
        refine aw_iload E dX8_odds_153 2 rfl ?_
        obtain ⟨q15, e16, h⟩ := lt_e h
        have J17 : AW Y (WX g) r 7 5 164 [(6, .int q13)] [.int q15] q11.2 := by
          refine aw_iload E dX8_odds_164 0 rfl ?_
          obtain ⟨g18, h⟩ := gd_e h
          refine aw_idiv E dX8_odds_166 g18 ?_
          refine aw_i2l E dX8_odds_167 ?_
          replace h := Option.some.inj h
          subst h
          exact aw_lret E dX8_odds_168 hr
        refine aw_if_ne (tgt := 163) E dX8_odds_155 rfl (fun c155 => ?_) (fun c155 => ?_)
        ·
          replace e16 := iq c155 e16
          refine aw_iload_n E dX8_odds_163 1 rfl ?_
          refine aw_sub (L1 := [(6, .int q13)]) [0] rfl ?_
          subst e16
          exact J17
        ·
          replace e16 := ip c155 e16
          refine aw_iload E dX8_odds_158 3 rfl ?_
          refine aw_goto (tgt := 164) E dX8_odds_160 rfl ?_
          refine aw_sub (L1 := [(6, .int q13)]) [0] rfl ?_
          subst e16
          exact J17
      refine aw_if_lt (tgt := 46) E dX8_odds_27 rfl (fun c27 => ?_) (fun c27 => ?_)
      ·
        replace e6 := ip c27 e6
        subst e6
        exact J7 rfl
      ·
        replace e6 := iq c27 e6
        refine aw_iload_n E dX8_odds_30 3 rfl ?_
        refine aw_iconst (v := 1) E dX8_odds_31 (by decide) ?_
        refine aw_icmp_gt (tgt := 46) E dX8_odds_32 rfl (fun c32 => ?_) (fun c32 => ?_)
        ·
          replace e6 := ip c32 e6
          subst e6
          exact J7 rfl
        ·
          replace e6 := iq c32 e6
          refine aw_iload E dX8_odds_35 4 rfl ?_
          refine aw_if_lt (tgt := 46) E dX8_odds_37 rfl (fun c37 => ?_) (fun c37 => ?_)
          ·
            replace e6 := ip c37 e6
            subst e6
            exact J7 rfl
          ·
            replace e6 := iq c37 e6
            refine aw_iload E dX8_odds_40 4 rfl ?_
            refine aw_iconst (v := 1) E dX8_odds_42 (by decide) ?_
            refine aw_icmp_le (tgt := 50) E dX8_odds_43 rfl (fun c43 => ?_) (fun c43 => ?_)
            ·
              replace e6 := ip c43 e6
              subst e6
              exact J8 rfl
            ·
              replace e6 := iq c43 e6
              subst e6
              exact J7 rfl
    refine aw_icmp_gt (tgt := 22) E dX8_odds_8 rfl (fun c8 => ?_) (fun c8 => ?_)
    ·
      replace e2 := ip c8 e2
      subst e2
      exact J3 rfl
    ·
      replace e2 := iq c8 e2
      refine aw_iload_n E dX8_odds_11 2 rfl ?_
      refine aw_iconst (v := 1) E dX8_odds_12 (by decide) ?_
      refine aw_icmp_lt (tgt := 22) E dX8_odds_13 rfl (fun c13 => ?_) (fun c13 => ?_)
      ·
        replace e2 := ip c13 e2
        subst e2
        exact J3 rfl
      ·
        replace e2 := iq c13 e2
        refine aw_iload_n E dX8_odds_16 2 rfl ?_
        refine aw_bipush (v := 50) E dX8_odds_17 (by decide) ?_
        refine aw_icmp_le (tgt := 26) E dX8_odds_19 rfl (fun c19 => ?_) (fun c19 => ?_)
        ·
          replace e2 := ip c19 e2
          subst e2
          exact J4 rfl
        ·
          replace e2 := iq c19 e2
          subst e2
          exact J3 rfl
def FX8_part (a1 : Int32) (M : Mem) : Option (Int32 × Mem) :=
  if (FX8_isCorner a1) = 0 then
    some ((-5), M)
  else
    ob (FX1_take 3 1 M) fun q1 =>
    lt (wr q1 3 0 a1) fun M3 =>
    ob (FX8_ringed 3 M3) fun q5 =>
    some (q5.1, q5.2)
set_option maxHeartbeats 4000000 in
set_option maxRecDepth 100000 in
theorem ctX8_part (l : Launch) (g : CtxG) (a1 : Int32) (M : Mem) (r0 : Int32 × Mem) (h : FX8_part a1 M = some r0) : Ct l (WX g) yX8_part cX8_part 2 (some .int) 7 [.ref (wad (WX g) 0), .int a1] M (some (.int r0.1), r0.2) := by
  refine Ct.of (by decide) (Nat.le_of_ble_eq_true rfl) (fun Y hY E => ?_)
  have E : EV Y (WX g) cX8_part 2 (some .int) RX8 := E
  have h : FX8_part a1 M = some r0 := h
  unfold FX8_part at h
  show AW Y (WX g) _ 2 7 0 [(0, .ref (wad (WX g) 0)), (1, .int a1)] [] M
  obtain ⟨r, hr⟩ : ∃ r : Option Value × Mem, r = (some (.int r0.1), r0.2) := ⟨_, rfl⟩
  rw [← hr]
  refine aw_iload_n E dX8_part_0 1 rfl ?_
  refine aw_callSi (S := []) E msX8_isCorner mlX8_126 rfl (ctX8_isCorner (yl Y) g a1  M ) rfl (Nat.le_of_ble_eq_true rfl) (Nat.le_of_ble_eq_true rfl) dX8_part_1 ?_
  refine aw_if_ne (tgt := 10) E dX8_part_4 rfl (fun c4 => ?_) (fun c4 => ?_)
  ·
    replace h := iq c4 h
    refine aw_aload_n E dX8_part_10 0 rfl ?_
    refine aw_getR (q := 3) E flX8_19 (Nat.le_of_ble_eq_true rfl) rfl rfl dX8_part_11 ?_
    refine aw_aload_n E dX8_part_14 0 rfl ?_
    refine aw_getR (q := 1) E flX8_12 (Nat.le_of_ble_eq_true rfl) rfl rfl dX8_part_15 ?_
    obtain ⟨q1, e2, h⟩ := bd_e h
    refine aw_callVv (S := []) E mvX1_take mlX8_212 (Nat.le_of_ble_eq_true rfl) rfl rfl rfl (ctX1_take (yl Y) g 3 1 set3 set1 M q1 e2) rfl (Nat.le_of_ble_eq_true rfl) (Nat.le_of_ble_eq_true rfl) dX8_part_18 ?_
    refine aw_aload_n E dX8_part_21 0 rfl ?_
    refine aw_getR (q := 3) E flX8_19 (Nat.le_of_ble_eq_true rfl) rfl rfl dX8_part_22 ?_
    refine aw_iload_n E dX8_part_25 1 rfl ?_
    obtain ⟨M3, e4, h⟩ := lt_e h
    refine aw_putI1 e4 E flX8_105 (Nat.le_of_ble_eq_true rfl) rfl rfl nr_int dX8_part_26 ?_
    refine aw_aload_n E dX8_part_29 0 rfl ?_
    refine aw_aload_n E dX8_part_30 0 rfl ?_
    refine aw_getR (q := 3) E flX8_19 (Nat.le_of_ble_eq_true rfl) rfl rfl dX8_part_31 ?_
    obtain ⟨q5, e6, h⟩ := bd_e h
    refine aw_callVi (S := []) E mvX8_ringed mlX8_199 (Nat.le_of_ble_eq_true rfl) rfl rfl rfl (ctX8_ringed (yl Y) g 3 set3 M3 q5 e6) rfl (Nat.le_of_ble_eq_true rfl) (Nat.le_of_ble_eq_true rfl) dX8_part_34 ?_
    replace h := Option.some.inj h
    subst h
    exact aw_iret E dX8_part_37 hr
  ·
    replace h := ip c4 h
    refine aw_bipush (v := (-5)) E dX8_part_7 (by decide) ?_
    replace h := Option.some.inj h
    subst h
    exact aw_iret E dX8_part_9 hr
def FX8_ring (a1 : Int32) (a2 : Int32) (M : Mem) : Option (Int32 × Mem) :=
  lt (α := Int32) (FX8_refusal a1 a2 4 M) fun x1 =>
  if 0 ≤ x1 then
    ob (FX8_leastRing 1 ((1 : Int32) <<< (a1 &&& 31)) 0 a2 M) fun q3 =>
    some (q3.1, q3.2)
  else
    some (x1, M)
set_option maxHeartbeats 4000000 in
set_option maxRecDepth 100000 in
theorem ctX8_ring (l : Launch) (g : CtxG) (a1 : Int32) (a2 : Int32) (M : Mem) (r0 : Int32 × Mem) (h : FX8_ring a1 a2 M = some r0) : Ct l (WX g) yX8_ring cX8_ring 4 (some .int) 6 [.ref (wad (WX g) 0), .int a1, .int a2] M (some (.int r0.1), r0.2) := by
  refine Ct.of (by decide) (Nat.le_of_ble_eq_true rfl) (fun Y hY E => ?_)
  have E : EV Y (WX g) cX8_ring 4 (some .int) RX8 := E
  have h : FX8_ring a1 a2 M = some r0 := h
  unfold FX8_ring at h
  show AW Y (WX g) _ 4 6 0 [(0, .ref (wad (WX g) 0)), (1, .int a1), (2, .int a2)] [] M
  obtain ⟨r, hr⟩ : ∃ r : Option Value × Mem, r = (some (.int r0.1), r0.2) := ⟨_, rfl⟩
  rw [← hr]
  refine aw_aload_n E dX8_ring_0 0 rfl ?_
  refine aw_iload_n E dX8_ring_1 1 rfl ?_
  refine aw_iload_n E dX8_ring_2 2 rfl ?_
  refine aw_iconst (v := 4) E dX8_ring_3 (by decide) ?_
  refine aw_callVi (S := []) E mvX8_refusal mlX8_174 (Nat.le_of_ble_eq_true rfl) rfl rfl rfl (ctX8_refusal (yl Y) g a1 a2 4  M ) rfl (Nat.le_of_ble_eq_true rfl) (Nat.le_of_ble_eq_true rfl) dX8_ring_4 ?_
  obtain ⟨x1, e2, h⟩ := lt_e h
  refine aw_nmI e2 ?_
  refine aw_istore_n (L1 := [(3, .int x1), (0, .ref (wad (WX g) 0)), (1, .int a1), (2, .int a2)]) E dX8_ring_7 (Nat.le_of_ble_eq_true rfl) rfl ?_
  refine aw_iload_n E dX8_ring_8 0 rfl ?_
  refine aw_if_ge (tgt := 16) E dX8_ring_9 rfl (fun c9 => ?_) (fun c9 => ?_)
  ·
    replace h := ip c9 h
    refine aw_aload_n E dX8_ring_16 1 rfl ?_
    refine aw_aload_n E dX8_ring_17 1 rfl ?_
    refine aw_getR (q := 1) E flX8_12 (Nat.le_of_ble_eq_true rfl) rfl rfl dX8_ring_18 ?_
    refine aw_iconst (v := 1) E dX8_ring_21 (by decide) ?_
    refine aw_iload_n E dX8_ring_22 2 rfl ?_
    refine aw_ishl E dX8_ring_23 ?_
    refine aw_iconst (v := 0) E dX8_ring_24 (by decide) ?_
    refine aw_iload_n E dX8_ring_25 3 rfl ?_
    obtain ⟨q3, e4, h⟩ := bd_e h
    refine aw_callVi (S := []) E mvX8_leastRing mlX8_177 (Nat.le_of_ble_eq_true rfl) rfl rfl rfl (ctX8_leastRing (yl Y) g 1 ((1 : Int32) <<< (a1 &&& 31)) 0 a2 set1 M q3 e4) rfl (Nat.le_of_ble_eq_true rfl) (Nat.le_of_ble_eq_true rfl) dX8_ring_26 ?_
    replace h := Option.some.inj h
    subst h
    exact aw_iret E dX8_ring_29 hr
  ·
    replace h := iq c9 h
    refine aw_iload_n E dX8_ring_12 0 rfl ?_
    refine aw_goto (tgt := 29) E dX8_ring_13 rfl ?_
    replace h := Option.some.inj h
    subst h
    exact aw_iret E dX8_ring_29 hr
def FX8_round (a1 : Int32) (M : Mem) : Option (Int32 × Mem) :=
  lt (α := Bool) (if a1 < 0 then true else if a1 ≤ 3 then false else true) fun b1 =>
  if b1 = true then
    some ((-2), M)
  else
    ob (FX8_leastRing 1 0 0 a1 M) fun q5 =>
    some (q5.1, q5.2)
set_option maxHeartbeats 4000000 in
set_option maxRecDepth 100000 in
theorem ctX8_round (l : Launch) (g : CtxG) (a1 : Int32) (M : Mem) (r0 : Int32 × Mem) (h : FX8_round a1 M = some r0) : Ct l (WX g) yX8_round cX8_round 2 (some .int) 6 [.ref (wad (WX g) 0), .int a1] M (some (.int r0.1), r0.2) := by
  refine Ct.of (by decide) (Nat.le_of_ble_eq_true rfl) (fun Y hY E => ?_)
  have E : EV Y (WX g) cX8_round 2 (some .int) RX8 := E
  have h : FX8_round a1 M = some r0 := h
  unfold FX8_round at h
  show AW Y (WX g) _ 2 6 0 [(0, .ref (wad (WX g) 0)), (1, .int a1)] [] M
  obtain ⟨r, hr⟩ : ∃ r : Option Value × Mem, r = (some (.int r0.1), r0.2) := ⟨_, rfl⟩
  rw [← hr]
  refine aw_iload_n E dX8_round_0 1 rfl ?_
  obtain ⟨b1, e2, h⟩ := lt_e h
  have J3 : b1 = true → AW Y (WX g) r 2 6 9 [(0, .ref (wad (WX g) 0)), (1, .int a1)] [] M := fun hb => by
    replace h := ip hb h
    refine aw_bipush (v := (-2)) E dX8_round_9 (by decide) ?_
    refine aw_goto (tgt := 25) E dX8_round_11 rfl ?_
    replace h := Option.some.inj h
    subst h
    exact aw_iret E dX8_round_25 hr
  have J4 : b1 = false → AW Y (WX g) r 2 6 14 [(0, .ref (wad (WX g) 0)), (1, .int a1)] [] M := fun hb => by
    replace h := iq (bf hb) h
    refine aw_aload_n E dX8_round_14 0 rfl ?_
    refine aw_aload_n E dX8_round_15 0 rfl ?_
    refine aw_getR (q := 1) E flX8_12 (Nat.le_of_ble_eq_true rfl) rfl rfl dX8_round_16 ?_
    refine aw_iconst (v := 0) E dX8_round_19 (by decide) ?_
    refine aw_iconst (v := 0) E dX8_round_20 (by decide) ?_
    refine aw_iload_n E dX8_round_21 1 rfl ?_
    obtain ⟨q5, e6, h⟩ := bd_e h
    refine aw_callVi (S := []) E mvX8_leastRing mlX8_177 (Nat.le_of_ble_eq_true rfl) rfl rfl rfl (ctX8_leastRing (yl Y) g 1 0 0 a1 set1 M q5 e6) rfl (Nat.le_of_ble_eq_true rfl) (Nat.le_of_ble_eq_true rfl) dX8_round_22 ?_
    replace h := Option.some.inj h
    subst h
    exact aw_iret E dX8_round_25 hr
  refine aw_if_lt (tgt := 9) E dX8_round_1 rfl (fun c1 => ?_) (fun c1 => ?_)
  ·
    replace e2 := ip c1 e2
    subst e2
    exact J3 rfl
  ·
    replace e2 := iq c1 e2
    refine aw_iload_n E dX8_round_4 1 rfl ?_
    refine aw_iconst (v := 3) E dX8_round_5 (by decide) ?_
    refine aw_icmp_le (tgt := 14) E dX8_round_6 rfl (fun c6 => ?_) (fun c6 => ?_)
    ·
      replace e2 := ip c6 e2
      subst e2
      exact J4 rfl
    ·
      replace e2 := iq c6 e2
      subst e2
      exact J3 rfl
def FX8_set (a1 : Int32) (a2 : Int32) (M : Mem) : Option (Int32 × Mem) :=
  lt (α := Bool) (if a1 < 0 then true else if a1 ≤ 2 then false else true) fun b1 =>
  if b1 = true then
    some ((-1), M)
  else
    lt (α := Int32) (if a1 = 0 then
      9
    else
      if a1 = 1 then
        24
      else
        2) fun q5 =>
    lt (α := Bool) (if a2 < 0 then true else if a2 < q5 then false else true) fun b8 =>
    if b8 = true then
      some ((-2), M)
    else
      lt (α := Int32) (FX8_count a1 M) fun x12 =>
      if a1 = 0 then
        lt (wr M 1 0 a2) fun M18 =>
        some (x12, M18)
      else
        if a1 = 1 then
          lt (wr M 1 1 a2) fun M16 =>
          some (x12, M16)
        else
          lt (wr M 1 2 a2) fun M14 =>
          some (x12, M14)
set_option maxHeartbeats 4000000 in
set_option maxRecDepth 100000 in
theorem ctX8_set (l : Launch) (g : CtxG) (a1 : Int32) (a2 : Int32) (M : Mem) (r0 : Int32 × Mem) (h : FX8_set a1 a2 M = some r0) : Ct l (WX g) yX8_set cX8_set 5 (some .int) 2 [.ref (wad (WX g) 0), .int a1, .int a2] M (some (.int r0.1), r0.2) := by
  refine Ct.of (by decide) (Nat.le_of_ble_eq_true rfl) (fun Y hY E => ?_)
  have E : EV Y (WX g) cX8_set 5 (some .int) RX8 := E
  have h : FX8_set a1 a2 M = some r0 := h
  unfold FX8_set at h
  show AW Y (WX g) _ 5 2 0 [(0, .ref (wad (WX g) 0)), (1, .int a1), (2, .int a2)] [] M
  obtain ⟨r, hr⟩ : ∃ r : Option Value × Mem, r = (some (.int r0.1), r0.2) := ⟨_, rfl⟩
  rw [← hr]
  refine aw_iload_n E dX8_set_0 1 rfl ?_
  obtain ⟨b1, e2, h⟩ := lt_e h
  have J3 : b1 = true → AW Y (WX g) r 5 2 9 [(0, .ref (wad (WX g) 0)), (1, .int a1), (2, .int a2)] [] M := fun hb => by
    replace h := ip hb h
    refine aw_iconst (v := (-1)) E dX8_set_9 (by decide) ?_
    replace h := Option.some.inj h
    subst h
    exact aw_iret E dX8_set_10 hr
  have J4 : b1 = false → AW Y (WX g) r 5 2 11 [(0, .ref (wad (WX g) 0)), (1, .int a1), (2, .int a2)] [] M := fun hb => by
    replace h := iq (bf hb) h
    refine aw_iload_n E dX8_set_11 1 rfl ?_
    obtain ⟨q5, e6, h⟩ := lt_e h
    have J7 : AW Y (WX g) r 5 2 31 [(0, .ref (wad (WX g) 0)), (1, .int a1), (2, .int a2)] [.int q5] M := by
      refine aw_istore_n (L1 := [(3, .int q5), (0, .ref (wad (WX g) 0)), (1, .int a1), (2, .int a2)]) E dX8_set_31 (Nat.le_of_ble_eq_true rfl) rfl ?_
      refine aw_iload_n E dX8_set_32 3 rfl ?_
      obtain ⟨b8, e9, h⟩ := lt_e h
      have J10 : b8 = true → AW Y (WX g) r 5 2 41 [(3, .int q5), (0, .ref (wad (WX g) 0)), (1, .int a1), (2, .int a2)] [] M := fun hb => by
        replace h := ip hb h
        refine aw_bipush (v := (-2)) E dX8_set_41 (by decide) ?_
        replace h := Option.some.inj h
        subst h
        exact aw_iret E dX8_set_43 hr
      have J11 : b8 = false → AW Y (WX g) r 5 2 44 [(3, .int q5), (0, .ref (wad (WX g) 0)), (1, .int a1), (2, .int a2)] [] M := fun hb => by
        replace h := iq (bf hb) h
        refine aw_aload_n E dX8_set_44 1 rfl ?_
        refine aw_iload_n E dX8_set_45 2 rfl ?_
        refine aw_callVi (S := []) E mvX8_count mlX8_101 (Nat.le_of_ble_eq_true rfl) rfl rfl rfl (ctX8_count (yl Y) g a1  M ) rfl (Nat.le_of_ble_eq_true rfl) (Nat.le_of_ble_eq_true rfl) dX8_set_46 ?_
        obtain ⟨x12, e13, h⟩ := lt_e h
        refine aw_nmI e13 ?_
        refine aw_istore (L1 := [(4, .int x12), (3, .int q5), (0, .ref (wad (WX g) 0)), (1, .int a1), (2, .int a2)]) E dX8_set_49 (Nat.le_of_ble_eq_true rfl) rfl ?_
        refine aw_iload_n E dX8_set_51 3 rfl ?_
        refine aw_if_ne (tgt := 66) E dX8_set_52 rfl (fun c52 => ?_) (fun c52 => ?_)
        ·
          replace h := iq c52 h
          refine aw_iload_n E dX8_set_66 3 rfl ?_
          refine aw_iconst (v := 1) E dX8_set_67 (by decide) ?_
          refine aw_icmp_ne (tgt := 82) E dX8_set_68 rfl (fun c68 => ?_) (fun c68 => ?_)
          ·
            replace h := iq c68 h
            refine aw_aload_n E dX8_set_82 2 rfl ?_
            refine aw_getR (q := 1) E flX8_12 (Nat.le_of_ble_eq_true rfl) rfl rfl dX8_set_83 ?_
            refine aw_iload_n E dX8_set_86 4 rfl ?_
            obtain ⟨M14, e15, h⟩ := lt_e h
            refine aw_putI1 e15 E flX8_108 (Nat.le_of_ble_eq_true rfl) rfl rfl nr_int dX8_set_87 ?_
            refine aw_iload E dX8_set_90 0 rfl ?_
            replace h := Option.some.inj h
            subst h
            exact aw_iret E dX8_set_92 hr
          ·
            replace h := ip c68 h
            refine aw_aload_n E dX8_set_71 2 rfl ?_
            refine aw_getR (q := 1) E flX8_12 (Nat.le_of_ble_eq_true rfl) rfl rfl dX8_set_72 ?_
            refine aw_iload_n E dX8_set_75 4 rfl ?_
            obtain ⟨M16, e17, h⟩ := lt_e h
            refine aw_putI1 e17 E flX8_70 (Nat.le_of_ble_eq_true rfl) rfl rfl nr_int dX8_set_76 ?_
            refine aw_goto (tgt := 90) E dX8_set_79 rfl ?_
            refine aw_iload E dX8_set_90 0 rfl ?_
            replace h := Option.some.inj h
            subst h
            exact aw_iret E dX8_set_92 hr
        ·
          replace h := ip c52 h
          refine aw_aload_n E dX8_set_55 2 rfl ?_
          refine aw_getR (q := 1) E flX8_12 (Nat.le_of_ble_eq_true rfl) rfl rfl dX8_set_56 ?_
          refine aw_iload_n E dX8_set_59 4 rfl ?_
          obtain ⟨M18, e19, h⟩ := lt_e h
          refine aw_putI1 e19 E flX8_105 (Nat.le_of_ble_eq_true rfl) rfl rfl nr_int dX8_set_60 ?_
          refine aw_goto (tgt := 90) E dX8_set_63 rfl ?_
          refine aw_iload E dX8_set_90 0 rfl ?_
          replace h := Option.some.inj h
          subst h
          exact aw_iret E dX8_set_92 hr
      refine aw_if_lt (tgt := 41) E dX8_set_33 rfl (fun c33 => ?_) (fun c33 => ?_)
      ·
        replace e9 := ip c33 e9
        subst e9
        exact J10 rfl
      ·
        replace e9 := iq c33 e9
        refine aw_iload_n E dX8_set_36 3 rfl ?_
        refine aw_iload_n E dX8_set_37 0 rfl ?_
        refine aw_icmp_lt (tgt := 44) E dX8_set_38 rfl (fun c38 => ?_) (fun c38 => ?_)
        ·
          replace e9 := ip c38 e9
          subst e9
          exact J11 rfl
        ·
          replace e9 := iq c38 e9
          subst e9
          exact J10 rfl
    refine aw_if_ne (tgt := 20) E dX8_set_12 rfl (fun c12 => ?_) (fun c12 => ?_)
    ·
      replace e6 := iq c12 e6
      refine aw_iload_n E dX8_set_20 1 rfl ?_
      refine aw_iconst (v := 1) E dX8_set_21 (by decide) ?_
      refine aw_icmp_ne (tgt := 30) E dX8_set_22 rfl (fun c22 => ?_) (fun c22 => ?_)
      ·
        replace e6 := iq c22 e6
        refine aw_iconst (v := 2) E dX8_set_30 (by decide) ?_
        refine aw_sub (L1 := [(0, .ref (wad (WX g) 0)), (1, .int a1), (2, .int a2)]) [0, 1, 2] rfl ?_
        subst e6
        exact J7
      ·
        replace e6 := ip c22 e6
        refine aw_bipush (v := 24) E dX8_set_25 (by decide) ?_
        refine aw_goto (tgt := 31) E dX8_set_27 rfl ?_
        refine aw_sub (L1 := [(0, .ref (wad (WX g) 0)), (1, .int a1), (2, .int a2)]) [0, 1, 2] rfl ?_
        subst e6
        exact J7
    ·
      replace e6 := ip c12 e6
      refine aw_bipush (v := 9) E dX8_set_15 (by decide) ?_
      refine aw_goto (tgt := 31) E dX8_set_17 rfl ?_
      refine aw_sub (L1 := [(0, .ref (wad (WX g) 0)), (1, .int a1), (2, .int a2)]) [0, 1, 2] rfl ?_
      subst e6
      exact J7
  refine aw_if_lt (tgt := 9) E dX8_set_1 rfl (fun c1 => ?_) (fun c1 => ?_)
  ·
    replace e2 := ip c1 e2
    subst e2
    exact J3 rfl
  ·
    replace e2 := iq c1 e2
    refine aw_iload_n E dX8_set_4 1 rfl ?_
    refine aw_iconst (v := 2) E dX8_set_5 (by decide) ?_
    refine aw_icmp_le (tgt := 11) E dX8_set_6 rfl (fun c6 => ?_) (fun c6 => ?_)
    ·
      replace e2 := ip c6 e2
      subst e2
      exact J4 rfl
    ·
      replace e2 := iq c6 e2
      subst e2
      exact J3 rfl
def FX8_sheet (a1 : Int32) (a2 : Int32) (a3 : Int32) (M : Mem) : Option (Int32 × Mem) :=
  lt (α := Bool) (if (FX8_isSheet a1) = 0 then true else if a2 < (-1) then true else if a2 ≤ 2 then false else true) fun b1 =>
  if b1 = true then
    some ((-2), M)
  else
    lt (α := Bool) (if a2 < 0 then false else if a3 ≤ 40 then false else true) fun b5 =>
    if b5 = true then
      some ((-2), M)
    else
      lt (α := Bool) (if a2 < 0 then false else if 0 ≤ a3 then false else true) fun b9 =>
      if b9 = true then
        some ((-14), M)
      else
        gi a1 4 <|
        lt (α := Int32) (if 0 ≤ a2 then
          a3
        else
          0) fun q15 =>
        ob (FX2_become (44 + (Int32.toNatClampNeg a1)) a2 q15 M) fun q18 =>
        some (1, q18)
set_option maxHeartbeats 4000000 in
set_option maxRecDepth 100000 in
theorem ctX8_sheet (l : Launch) (g : CtxG) (a1 : Int32) (a2 : Int32) (a3 : Int32) (M : Mem) (r0 : Int32 × Mem) (h : FX8_sheet a1 a2 a3 M = some r0) : Ct l (WX g) yX8_sheet cX8_sheet 4 (some .int) 3 [.ref (wad (WX g) 0), .int a1, .int a2, .int a3] M (some (.int r0.1), r0.2) := by
  refine Ct.of (by decide) (Nat.le_of_ble_eq_true rfl) (fun Y hY E => ?_)
  have E : EV Y (WX g) cX8_sheet 4 (some .int) RX8 := E
  have h : FX8_sheet a1 a2 a3 M = some r0 := h
  unfold FX8_sheet at h
  show AW Y (WX g) _ 4 3 0 [(0, .ref (wad (WX g) 0)), (1, .int a1), (2, .int a2), (3, .int a3)] [] M
  obtain ⟨r, hr⟩ : ∃ r : Option Value × Mem, r = (some (.int r0.1), r0.2) := ⟨_, rfl⟩
  rw [← hr]
  refine aw_iload_n E dX8_sheet_0 1 rfl ?_
  refine aw_callSi (S := []) E msX8_isSheet mlX8_243 rfl (ctX8_isSheet (yl Y) g a1  M ) rfl (Nat.le_of_ble_eq_true rfl) (Nat.le_of_ble_eq_true rfl) dX8_sheet_1 ?_
  obtain ⟨b1, e2, h⟩ := lt_e h
  have J3 : b1 = true → AW Y (WX g) r 4 3 17 [(0, .ref (wad (WX g) 0)), (1, .int a1), (2, .int a2), (3, .int a3)] [] M := fun hb => by
    replace h := ip hb h
    refine aw_bipush (v := (-2)) E dX8_sheet_17 (by decide) ?_
    replace h := Option.some.inj h
    subst h
    exact aw_iret E dX8_sheet_19 hr
  have J4 : b1 = false → AW Y (WX g) r 4 3 20 [(0, .ref (wad (WX g) 0)), (1, .int a1), (2, .int a2), (3, .int a3)] [] M := fun hb => by
    replace h := iq (bf hb) h
    refine aw_iload_n E dX8_sheet_20 2 rfl ?_
    obtain ⟨b5, e6, h⟩ := lt_e h
    have J7 : b5 = true → AW Y (WX g) r 4 3 30 [(0, .ref (wad (WX g) 0)), (1, .int a1), (2, .int a2), (3, .int a3)] [] M := fun hb => by
      replace h := ip hb h
      refine aw_bipush (v := (-2)) E dX8_sheet_30 (by decide) ?_
      replace h := Option.some.inj h
      subst h
      exact aw_iret E dX8_sheet_32 hr
    have J8 : b5 = false → AW Y (WX g) r 4 3 33 [(0, .ref (wad (WX g) 0)), (1, .int a1), (2, .int a2), (3, .int a3)] [] M := fun hb => by
      replace h := iq (bf hb) h
      refine aw_iload_n E dX8_sheet_33 2 rfl ?_
      obtain ⟨b9, e10, h⟩ := lt_e h
      have J11 : b9 = true → AW Y (WX g) r 4 3 41 [(0, .ref (wad (WX g) 0)), (1, .int a1), (2, .int a2), (3, .int a3)] [] M := fun hb => by
        replace h := ip hb h
        refine aw_bipush (v := (-14)) E dX8_sheet_41 (by decide) ?_
        replace h := Option.some.inj h
        subst h
        exact aw_iret E dX8_sheet_43 hr
      have J12 : b9 = false → AW Y (WX g) r 4 3 44 [(0, .ref (wad (WX g) 0)), (1, .int a1), (2, .int a2), (3, .int a3)] [] M := fun hb => by
        replace h := iq (bf hb) h
        refine aw_aload_n E dX8_sheet_44 0 rfl ?_
        refine aw_getR (q := 43) E flX8_66 (Nat.le_of_ble_eq_true rfl) rfl rfl dX8_sheet_45 ?_
        refine aw_iload_n E dX8_sheet_48 1 rfl ?_
        obtain ⟨g13, h⟩ := gi_e h
        refine aw_aldS E (Nat.le_of_ble_eq_true rfl) rfl g13 dX8_sheet_49 ?_
        have f14 := sheets_of g13
        refine aw_iload_n E dX8_sheet_50 2 rfl ?_
        refine aw_iload_n E dX8_sheet_51 2 rfl ?_
        obtain ⟨q15, e16, h⟩ := lt_e h
        have J17 : AW Y (WX g) r 4 3 60 [] [.int q15, .int a2, .ref (wad (WX g) (44 + (Int32.toNatClampNeg a1)))] M := by
          obtain ⟨q18, e19, h⟩ := bd_e h
          refine aw_callVv (S := []) E mvX2_become mlX8_259 f14.1 f14.2.1 rfl rfl (ctX2_become (yl Y) g (44 + (Int32.toNatClampNeg a1)) a2 q15 f14 M q18 e19) rfl (Nat.le_of_ble_eq_true rfl) (Nat.le_of_ble_eq_true rfl) dX8_sheet_60 ?_
          refine aw_iconst (v := 1) E dX8_sheet_63 (by decide) ?_
          replace h := Option.some.inj h
          subst h
          exact aw_iret E dX8_sheet_64 hr
        refine aw_if_ge (tgt := 59) E dX8_sheet_52 rfl (fun c52 => ?_) (fun c52 => ?_)
        ·
          replace e16 := ip c52 e16
          refine aw_iload_n E dX8_sheet_59 3 rfl ?_
          refine aw_sub (L1 := []) [] rfl ?_
          subst e16
          exact J17
        ·
          replace e16 := iq c52 e16
          refine aw_iconst (v := 0) E dX8_sheet_55 (by decide) ?_
          refine aw_goto (tgt := 60) E dX8_sheet_56 rfl ?_
          refine aw_sub (L1 := []) [] rfl ?_
          subst e16
          exact J17
      refine aw_if_lt (tgt := 44) E dX8_sheet_34 rfl (fun c34 => ?_) (fun c34 => ?_)
      ·
        replace e10 := ip c34 e10
        subst e10
        exact J12 rfl
      ·
        replace e10 := iq c34 e10
        refine aw_iload_n E dX8_sheet_37 3 rfl ?_
        refine aw_if_ge (tgt := 44) E dX8_sheet_38 rfl (fun c38 => ?_) (fun c38 => ?_)
        ·
          replace e10 := ip c38 e10
          subst e10
          exact J12 rfl
        ·
          replace e10 := iq c38 e10
          subst e10
          exact J11 rfl
    refine aw_if_lt (tgt := 33) E dX8_sheet_21 rfl (fun c21 => ?_) (fun c21 => ?_)
    ·
      replace e6 := ip c21 e6
      subst e6
      exact J8 rfl
    ·
      replace e6 := iq c21 e6
      refine aw_iload_n E dX8_sheet_24 3 rfl ?_
      refine aw_bipush (v := 40) E dX8_sheet_25 (by decide) ?_
      refine aw_icmp_le (tgt := 33) E dX8_sheet_27 rfl (fun c27 => ?_) (fun c27 => ?_)
      ·
        replace e6 := ip c27 e6
        subst e6
        exact J8 rfl
      ·
        replace e6 := iq c27 e6
        subst e6
        exact J7 rfl
  refine aw_if_eq (tgt := 17) E dX8_sheet_4 rfl (fun c4 => ?_) (fun c4 => ?_)
  ·
    replace e2 := ip c4 e2
    subst e2
    exact J3 rfl
  ·
    replace e2 := iq c4 e2
    refine aw_iload_n E dX8_sheet_7 2 rfl ?_
    refine aw_iconst (v := (-1)) E dX8_sheet_8 (by decide) ?_
    refine aw_icmp_lt (tgt := 17) E dX8_sheet_9 rfl (fun c9 => ?_) (fun c9 => ?_)
    ·
      replace e2 := ip c9 e2
      subst e2
      exact J3 rfl
    ·
      replace e2 := iq c9 e2
      refine aw_iload_n E dX8_sheet_12 2 rfl ?_
      refine aw_iconst (v := 2) E dX8_sheet_13 (by decide) ?_
      refine aw_icmp_le (tgt := 20) E dX8_sheet_14 rfl (fun c14 => ?_) (fun c14 => ?_)
      ·
        replace e2 := ip c14 e2
        subst e2
        exact J4 rfl
      ·
        replace e2 := iq c14 e2
        subst e2
        exact J3 rfl
def FX8_show_L71 : Nat → Int32 → Int32 → Int32 → Int32 → Mem → Option (Mem)
  | 0, _, _, _, _, _ => none
  | f + 1, p2, p3, p4, p5, M =>
    if p4 ≤ p5 then
      some M
    else
      gi p2 4 <|
      ob (FX0_streetAt p3 p5 M) fun q103 =>
      ob (FX2_put (44 + (Int32.toNatClampNeg p2)) p5 q103 M) fun q105 =>
      lt (α := Int32) (p5 + 1) fun x107 =>
      FX8_show_L71 f p2 p3 p4 x107 q105
def FX8_show (a1 : Int32) (a2 : Int32) (M : Mem) : Option (Int32 × Mem) :=
  if (FX8_isAway a1 M) = 0 then
    some ((-5), M)
  else
    if (FX8_isSheet a2) = 0 then
      some ((-2), M)
    else
      ob (FX8_look 1 ((1 : Int32) <<< (a1 &&& 31)) 0 M) fun q1 =>
      ob (FX0_least ((1 : Int32) <<< (a1 &&& 31)) q1) fun q3 =>
      if 0 ≤ q3 then
        lt (α := Int32) (FJ6_bitCount_0f7a4 q3) fun x5 =>
        gi a2 4 <|
        ob (FX2_become (44 + (Int32.toNatClampNeg a2)) 2 x5 q1) fun q9 =>
        ob (FX8_show_L71 FU a2 q3 x5 0 q9) fun q11 =>
        some (x5, q11)
      else
        some ((-1), q1)
set_option maxHeartbeats 4000000 in
set_option maxRecDepth 100000 in
theorem lpX8_show_71 {Y : CtxM} {g : CtxG} {r : Option Value × Mem} (E : EV Y (WX g) cX8_show 6 (some .int) RX8) (p2 : Int32) (p3 : Int32) (p4 : Int32) : ∀ (f : Nat) (p5 : Int32) (M : Mem) (q : Mem), FX8_show_L71 f p2 p3 p4 p5 M = some q → AW Y (WX g) r 6 6 105 [(4, .int p4)] [] q → AW Y (WX g) r 6 6 71 [(0, .ref (wad (WX g) 0)), (2, .int p2), (3, .int p3), (4, .int p4), (5, .int p5)] [] M := by
  intro f
  induction f with
  | zero => intro p5 M q hh; exact absurd hh (fun z => nomatch (show (none : Option (Mem)) = some q from z))
  | succ f ih =>
    intro p5 M q hh kx
    rw [FX8_show_L71] at hh
    refine aw_iload E dX8_show_71 4 rfl ?_
    refine aw_iload E dX8_show_73 3 rfl ?_
    refine aw_icmp_ge (tgt := 105) E dX8_show_75 rfl (fun c75 => ?_) (fun c75 => ?_)
    ·
      replace hh := ip c75 hh
      refine aw_sub (L1 := [(4, .int p4)]) [3] rfl ?_
      replace hh := Option.some.inj hh
      subst hh
      exact kx
    ·
      replace hh := iq c75 hh
      refine aw_aload_n E dX8_show_78 0 rfl ?_
      refine aw_getR (q := 43) E flX8_66 (Nat.le_of_ble_eq_true rfl) rfl rfl dX8_show_79 ?_
      refine aw_iload_n E dX8_show_82 1 rfl ?_
      obtain ⟨g101, hh⟩ := gi_e hh
      refine aw_aldS E (Nat.le_of_ble_eq_true rfl) rfl g101 dX8_show_83 ?_
      have f102 := sheets_of g101
      refine aw_iload E dX8_show_84 4 rfl ?_
      refine aw_aload_n E dX8_show_86 0 rfl ?_
      refine aw_getR (q := 37) E flX8_53 (Nat.le_of_ble_eq_true rfl) rfl rfl dX8_show_87 ?_
      refine aw_iload_n E dX8_show_90 2 rfl ?_
      refine aw_iload E dX8_show_91 4 rfl ?_
      obtain ⟨q103, e104, hh⟩ := bd_e hh
      refine aw_callVi (S := [.int p5, .ref (wad (WX g) (44 + (Int32.toNatClampNeg p2)))]) E mvX0_streetAt mlX8_263 (Nat.le_of_ble_eq_true rfl) rfl rfl rfl (ctX0_streetAt (yl Y) g p3 p5  M q103 e104) rfl (Nat.le_of_ble_eq_true rfl) (Nat.le_of_ble_eq_true rfl) dX8_show_93 ?_
      obtain ⟨q105, e106, hh⟩ := bd_e hh
      refine aw_callVv (S := []) E mvX2_put mlX8_266 f102.1 f102.2.1 rfl rfl (ctX2_put (yl Y) g (44 + (Int32.toNatClampNeg p2)) p5 q103 f102 M q105 e106) rfl (Nat.le_of_ble_eq_true rfl) (Nat.le_of_ble_eq_true rfl) dX8_show_96 ?_
      obtain ⟨x107, e108, hh⟩ := lt_e hh
      refine aw_iinc (v := x107) (L1 := [(5, .int x107), (0, .ref (wad (WX g) 0)), (2, .int p2), (3, .int p3), (4, .int p4)]) E dX8_show_99 4 rfl e108 (Nat.le_of_ble_eq_true rfl) rfl ?_
      refine aw_goto (tgt := 71) E dX8_show_102 rfl ?_
      refine aw_sub (L1 := [(0, .ref (wad (WX g) 0)), (2, .int p2), (3, .int p3), (4, .int p4), (5, .int x107)]) [1, 2, 3, 4, 0] rfl ?_
      exact ih x107 q105 _ hh kx
set_option maxHeartbeats 4000000 in
set_option maxRecDepth 100000 in
theorem ctX8_show (l : Launch) (g : CtxG) (a1 : Int32) (a2 : Int32) (M : Mem) (r0 : Int32 × Mem) (h : FX8_show a1 a2 M = some r0) : Ct l (WX g) yX8_show cX8_show 6 (some .int) 6 [.ref (wad (WX g) 0), .int a1, .int a2] M (some (.int r0.1), r0.2) := by
  refine Ct.of (by decide) (Nat.le_of_ble_eq_true rfl) (fun Y hY E => ?_)
  have E : EV Y (WX g) cX8_show 6 (some .int) RX8 := E
  have h : FX8_show a1 a2 M = some r0 := h
  unfold FX8_show at h
  show AW Y (WX g) _ 6 6 0 [(0, .ref (wad (WX g) 0)), (1, .int a1), (2, .int a2)] [] M
  obtain ⟨r, hr⟩ : ∃ r : Option Value × Mem, r = (some (.int r0.1), r0.2) := ⟨_, rfl⟩
  rw [← hr]
  refine aw_aload_n E dX8_show_0 0 rfl ?_
  refine aw_iload_n E dX8_show_1 1 rfl ?_
  refine aw_callVi (S := []) E mvX8_isAway mlX8_181 (Nat.le_of_ble_eq_true rfl) rfl rfl rfl (ctX8_isAway (yl Y) g a1  M ) rfl (Nat.le_of_ble_eq_true rfl) (Nat.le_of_ble_eq_true rfl) dX8_show_2 ?_
  refine aw_if_ne (tgt := 11) E dX8_show_5 rfl (fun c5 => ?_) (fun c5 => ?_)
  ·
    replace h := iq c5 h
    refine aw_iload_n E dX8_show_11 2 rfl ?_
    refine aw_callSi (S := []) E msX8_isSheet mlX8_243 rfl (ctX8_isSheet (yl Y) g a2  M ) rfl (Nat.le_of_ble_eq_true rfl) (Nat.le_of_ble_eq_true rfl) dX8_show_12 ?_
    refine aw_if_ne (tgt := 21) E dX8_show_15 rfl (fun c15 => ?_) (fun c15 => ?_)
    ·
      replace h := iq c15 h
      refine aw_aload_n E dX8_show_21 0 rfl ?_
      refine aw_aload_n E dX8_show_22 0 rfl ?_
      refine aw_getR (q := 1) E flX8_12 (Nat.le_of_ble_eq_true rfl) rfl rfl dX8_show_23 ?_
      refine aw_iconst (v := 1) E dX8_show_26 (by decide) ?_
      refine aw_iload_n E dX8_show_27 1 rfl ?_
      refine aw_ishl E dX8_show_28 ?_
      refine aw_iconst (v := 0) E dX8_show_29 (by decide) ?_
      obtain ⟨q1, e2, h⟩ := bd_e h
      refine aw_callVv (S := []) E mvX8_look mlX8_187 (Nat.le_of_ble_eq_true rfl) rfl rfl rfl (ctX8_look (yl Y) g 1 ((1 : Int32) <<< (a1 &&& 31)) 0 set1 M q1 e2) rfl (Nat.le_of_ble_eq_true rfl) (Nat.le_of_ble_eq_true rfl) dX8_show_30 ?_
      refine aw_aload_n E dX8_show_33 0 rfl ?_
      refine aw_getR (q := 37) E flX8_53 (Nat.le_of_ble_eq_true rfl) rfl rfl dX8_show_34 ?_
      refine aw_iconst (v := 1) E dX8_show_37 (by decide) ?_
      refine aw_iload_n E dX8_show_38 1 rfl ?_
      refine aw_ishl E dX8_show_39 ?_
      obtain ⟨q3, e4, h⟩ := bd_e h
      refine aw_callVi (S := []) E mvX0_least mlX8_194 (Nat.le_of_ble_eq_true rfl) rfl rfl rfl (ctX0_least (yl Y) g ((1 : Int32) <<< (a1 &&& 31))  q1 q3 e4) rfl (Nat.le_of_ble_eq_true rfl) (Nat.le_of_ble_eq_true rfl) dX8_show_40 ?_
      refine aw_istore_n (L1 := [(3, .int q3), (0, .ref (wad (WX g) 0)), (1, .int a1), (2, .int a2)]) E dX8_show_43 (Nat.le_of_ble_eq_true rfl) rfl ?_
      refine aw_iload_n E dX8_show_44 0 rfl ?_
      refine aw_if_ge (tgt := 50) E dX8_show_45 rfl (fun c45 => ?_) (fun c45 => ?_)
      ·
        replace h := ip c45 h
        refine aw_iload_n E dX8_show_50 0 rfl ?_
        refine aw_callSi (S := []) E msJ6_bitCount_0f7a4 mlX8_219 rfl (ctJ6_bitCount_0f7a4 (yl Y) g q3  q1 ) rfl (Nat.le_of_ble_eq_true rfl) (Nat.le_of_ble_eq_true rfl) dX8_show_51 ?_
        obtain ⟨x5, e6, h⟩ := lt_e h
        refine aw_nmI e6 ?_
        refine aw_istore (L1 := [(4, .int x5), (3, .int q3), (0, .ref (wad (WX g) 0)), (1, .int a1), (2, .int a2)]) E dX8_show_54 (Nat.le_of_ble_eq_true rfl) rfl ?_
        refine aw_aload_n E dX8_show_56 2 rfl ?_
        refine aw_getR (q := 43) E flX8_66 (Nat.le_of_ble_eq_true rfl) rfl rfl dX8_show_57 ?_
        refine aw_iload_n E dX8_show_60 4 rfl ?_
        obtain ⟨g7, h⟩ := gi_e h
        refine aw_aldS E (Nat.le_of_ble_eq_true rfl) rfl g7 dX8_show_61 ?_
        have f8 := sheets_of g7
        refine aw_iconst (v := 2) E dX8_show_62 (by decide) ?_
        refine aw_iload E dX8_show_63 0 rfl ?_
        obtain ⟨q9, e10, h⟩ := bd_e h
        refine aw_callVv (S := []) E mvX2_become mlX8_259 f8.1 f8.2.1 rfl rfl (ctX2_become (yl Y) g (44 + (Int32.toNatClampNeg a2)) 2 x5 f8 q1 q9 e10) rfl (Nat.le_of_ble_eq_true rfl) (Nat.le_of_ble_eq_true rfl) dX8_show_65 ?_
        refine aw_iconst (v := 0) E dX8_show_68 (by decide) ?_
        refine aw_istore (L1 := [(5, .int 0), (4, .int x5), (3, .int q3), (0, .ref (wad (WX g) 0)), (1, .int a1), (2, .int a2)]) E dX8_show_69 (Nat.le_of_ble_eq_true rfl) rfl ?_
        obtain ⟨q11, e12, h⟩ := bd_e h
        refine aw_sub (L1 := [(0, .ref (wad (WX g) 0)), (2, .int a2), (3, .int q3), (4, .int x5), (5, .int 0)]) [3, 5, 2, 1, 0] rfl ?_
        refine lpX8_show_71 E   a2 q3 x5 FU 0 q9 q11 e12 ?_
        refine aw_iload E dX8_show_105 0 rfl ?_
        replace h := Option.some.inj h
        subst h
        exact aw_iret E dX8_show_107 hr
      ·
        replace h := iq c45 h
        refine aw_iconst (v := (-1)) E dX8_show_48 (by decide) ?_
        replace h := Option.some.inj h
        subst h
        exact aw_iret E dX8_show_49 hr
    ·
      replace h := ip c15 h
      refine aw_bipush (v := (-2)) E dX8_show_18 (by decide) ?_
      replace h := Option.some.inj h
      subst h
      exact aw_iret E dX8_show_20 hr
  ·
    replace h := ip c5 h
    refine aw_bipush (v := (-5)) E dX8_show_8 (by decide) ?_
    replace h := Option.some.inj h
    subst h
    exact aw_iret E dX8_show_10 hr
def FX8_street (a1 : Int32) (a2 : Int32) (a3 : Int32) (a4 : Int32) (M : Mem) : Option (Int32 × Mem) :=
  lt (α := Bool) (if a1 < 0 then true else if 5 < a1 then true else if 0 ≤ a2 then false else true) fun b1 =>
  if b1 = true then
    some ((-2), M)
  else
    lt (α := Int32) (a2 / 10) fun x5 =>
    lt (α := Int32) (a2 - a2 / 10 * 10) fun x7 =>
    lt (α := Bool) (if (FX8_isCorner x5) = 0 then true else if (FX8_isCorner x7) = 0 then true else if x5 = x7 then true else false) fun b9 =>
    if b9 = true then
      some ((-2), M)
    else
      lt (α := Bool) (if a3 < 1 then true else if 99 < a3 then true else if a4 < 0 then true else if a4 ≤ 99 then false else true) fun b13 =>
      if b13 = true then
        some ((-2), M)
      else
        if (M.1 1 4) < 12 then
          ob (FX3_put (M.1 1 4) a1 x5 x7 a3 a4 M) fun q17 =>
          lt (wr q17 1 4 ((q17.1 1 4) + 1)) fun M19 =>
          some (q17.1 1 4, M19)
        else
          some ((-4), M)
set_option maxHeartbeats 4000000 in
set_option maxRecDepth 100000 in
theorem ctX8_street (l : Launch) (g : CtxG) (a1 : Int32) (a2 : Int32) (a3 : Int32) (a4 : Int32) (M : Mem) (r0 : Int32 × Mem) (h : FX8_street a1 a2 a3 a4 M = some r0) : Ct l (WX g) yX8_street cX8_street 7 (some .int) 2 [.ref (wad (WX g) 0), .int a1, .int a2, .int a3, .int a4] M (some (.int r0.1), r0.2) := by
  refine Ct.of (by decide) (Nat.le_of_ble_eq_true rfl) (fun Y hY E => ?_)
  have E : EV Y (WX g) cX8_street 7 (some .int) RX8 := E
  have h : FX8_street a1 a2 a3 a4 M = some r0 := h
  unfold FX8_street at h
  show AW Y (WX g) _ 7 2 0 [(0, .ref (wad (WX g) 0)), (1, .int a1), (2, .int a2), (3, .int a3), (4, .int a4)] [] M
  obtain ⟨r, hr⟩ : ∃ r : Option Value × Mem, r = (some (.int r0.1), r0.2) := ⟨_, rfl⟩
  rw [← hr]
  refine aw_iload_n E dX8_street_0 1 rfl ?_
  obtain ⟨b1, e2, h⟩ := lt_e h
  have J3 : b1 = true → AW Y (WX g) r 7 2 13 [(0, .ref (wad (WX g) 0)), (1, .int a1), (2, .int a2), (3, .int a3), (4, .int a4)] [] M := fun hb => by
    replace h := ip hb h
    refine aw_bipush (v := (-2)) E dX8_street_13 (by decide) ?_
    replace h := Option.some.inj h
    subst h
    exact aw_iret E dX8_street_15 hr
  have J4 : b1 = false → AW Y (WX g) r 7 2 16 [(0, .ref (wad (WX g) 0)), (1, .int a1), (2, .int a2), (3, .int a3), (4, .int a4)] [] M := fun hb => by
    replace h := iq (bf hb) h
    refine aw_iload_n E dX8_street_16 2 rfl ?_
    refine aw_bipush (v := 10) E dX8_street_17 (by decide) ?_
    refine aw_idiv E dX8_street_19 (by decide) ?_
    obtain ⟨x5, e6, h⟩ := lt_e h
    refine aw_nmI e6 ?_
    refine aw_istore (L1 := [(5, .int x5), (0, .ref (wad (WX g) 0)), (1, .int a1), (2, .int a2), (3, .int a3), (4, .int a4)]) E dX8_street_20 (Nat.le_of_ble_eq_true rfl) rfl ?_
    refine aw_iload_n E dX8_street_22 3 rfl ?_
    refine aw_bipush (v := 10) E dX8_street_23 (by decide) ?_
    refine aw_irem E dX8_street_25 (by decide) ?_
    obtain ⟨x7, e8, h⟩ := lt_e h
    refine aw_nmI e8 ?_
    refine aw_istore (L1 := [(6, .int x7), (5, .int x5), (0, .ref (wad (WX g) 0)), (1, .int a1), (2, .int a2), (3, .int a3), (4, .int a4)]) E dX8_street_26 (Nat.le_of_ble_eq_true rfl) rfl ?_
    refine aw_iload E dX8_street_28 1 rfl ?_
    refine aw_callSi (S := []) E msX8_isCorner mlX8_126 rfl (ctX8_isCorner (yl Y) g x5  M ) rfl (Nat.le_of_ble_eq_true rfl) (Nat.le_of_ble_eq_true rfl) dX8_street_30 ?_
    obtain ⟨b9, e10, h⟩ := lt_e h
    have J11 : b9 = true → AW Y (WX g) r 7 2 51 [(6, .int x7), (5, .int x5), (0, .ref (wad (WX g) 0)), (1, .int a1), (2, .int a2), (3, .int a3), (4, .int a4)] [] M := fun hb => by
      replace h := ip hb h
      refine aw_bipush (v := (-2)) E dX8_street_51 (by decide) ?_
      replace h := Option.some.inj h
      subst h
      exact aw_iret E dX8_street_53 hr
    have J12 : b9 = false → AW Y (WX g) r 7 2 54 [(6, .int x7), (5, .int x5), (0, .ref (wad (WX g) 0)), (1, .int a1), (2, .int a2), (3, .int a3), (4, .int a4)] [] M := fun hb => by
      replace h := iq (bf hb) h
      refine aw_iload_n E dX8_street_54 5 rfl ?_
      refine aw_iconst (v := 1) E dX8_street_55 (by decide) ?_
      obtain ⟨b13, e14, h⟩ := lt_e h
      have J15 : b13 = true → AW Y (WX g) r 7 2 77 [(6, .int x7), (5, .int x5), (0, .ref (wad (WX g) 0)), (1, .int a1), (2, .int a2), (3, .int a3), (4, .int a4)] [] M := fun hb => by
        replace h := ip hb h
        refine aw_bipush (v := (-2)) E dX8_street_77 (by decide) ?_
        replace h := Option.some.inj h
        subst h
        exact aw_iret E dX8_street_79 hr
      have J16 : b13 = false → AW Y (WX g) r 7 2 80 [(6, .int x7), (5, .int x5), (0, .ref (wad (WX g) 0)), (1, .int a1), (2, .int a2), (3, .int a3), (4, .int a4)] [] M := fun hb => by
        replace h := iq (bf hb) h
        refine aw_aload_n E dX8_street_80 2 rfl ?_
        refine aw_getR (q := 1) E flX8_12 (Nat.le_of_ble_eq_true rfl) rfl rfl dX8_street_81 ?_
        refine aw_getI E flX8_111 (Nat.le_of_ble_eq_true rfl) rfl rfl dX8_street_84 ?_
        refine aw_bipush (v := 12) E dX8_street_87 (by decide) ?_
        refine aw_icmp_lt (tgt := 95) E dX8_street_89 rfl (fun c89 => ?_) (fun c89 => ?_)
        ·
          replace h := ip c89 h
          refine aw_aload_n E dX8_street_95 2 rfl ?_
          refine aw_getR (q := 4) E flX8_25 (Nat.le_of_ble_eq_true rfl) rfl rfl dX8_street_96 ?_
          refine aw_aload_n E dX8_street_99 2 rfl ?_
          refine aw_getR (q := 1) E flX8_12 (Nat.le_of_ble_eq_true rfl) rfl rfl dX8_street_100 ?_
          refine aw_getI E flX8_111 (Nat.le_of_ble_eq_true rfl) rfl rfl dX8_street_103 ?_
          refine aw_iload_n E dX8_street_106 3 rfl ?_
          refine aw_iload E dX8_street_107 1 rfl ?_
          refine aw_iload E dX8_street_109 0 rfl ?_
          refine aw_iload_n E dX8_street_111 5 rfl ?_
          refine aw_iload E dX8_street_112 6 rfl ?_
          obtain ⟨q17, e18, h⟩ := bd_e h
          refine aw_callVv (S := []) E mvX3_put mlX8_129 (Nat.le_of_ble_eq_true rfl) rfl rfl rfl (ctX3_put (yl Y) g (M.1 1 4) a1 x5 x7 a3 a4  M q17 e18) rfl (Nat.le_of_ble_eq_true rfl) (Nat.le_of_ble_eq_true rfl) dX8_street_114 ?_
          refine aw_aload_n E dX8_street_117 2 rfl ?_
          refine aw_getR (q := 1) E flX8_12 (Nat.le_of_ble_eq_true rfl) rfl rfl dX8_street_118 ?_
          refine aw_dup E dX8_street_121 rfl ?_
          refine aw_getI E flX8_111 (Nat.le_of_ble_eq_true rfl) rfl rfl dX8_street_122 ?_
          refine aw_dup_x1 E dX8_street_125 rfl rfl ?_
          refine aw_iconst (v := 1) E dX8_street_126 (by decide) ?_
          refine aw_iadd E dX8_street_127 ?_
          obtain ⟨M19, e20, h⟩ := lt_e h
          refine aw_putI1 e20 E flX8_111 (Nat.le_of_ble_eq_true rfl) rfl rfl nr_int dX8_street_128 ?_
          replace h := Option.some.inj h
          subst h
          exact aw_iret E dX8_street_131 hr
        ·
          replace h := iq c89 h
          refine aw_bipush (v := (-4)) E dX8_street_92 (by decide) ?_
          replace h := Option.some.inj h
          subst h
          exact aw_iret E dX8_street_94 hr
      refine aw_icmp_lt (tgt := 77) E dX8_street_56 rfl (fun c56 => ?_) (fun c56 => ?_)
      ·
        replace e14 := ip c56 e14
        subst e14
        exact J15 rfl
      ·
        replace e14 := iq c56 e14
        refine aw_iload_n E dX8_street_59 5 rfl ?_
        refine aw_bipush (v := 99) E dX8_street_60 (by decide) ?_
        refine aw_icmp_gt (tgt := 77) E dX8_street_62 rfl (fun c62 => ?_) (fun c62 => ?_)
        ·
          replace e14 := ip c62 e14
          subst e14
          exact J15 rfl
        ·
          replace e14 := iq c62 e14
          refine aw_iload E dX8_street_65 6 rfl ?_
          refine aw_if_lt (tgt := 77) E dX8_street_67 rfl (fun c67 => ?_) (fun c67 => ?_)
          ·
            replace e14 := ip c67 e14
            subst e14
            exact J15 rfl
          ·
            replace e14 := iq c67 e14
            refine aw_iload E dX8_street_70 6 rfl ?_
            refine aw_bipush (v := 99) E dX8_street_72 (by decide) ?_
            refine aw_icmp_le (tgt := 80) E dX8_street_74 rfl (fun c74 => ?_) (fun c74 => ?_)
            ·
              replace e14 := ip c74 e14
              subst e14
              exact J16 rfl
            ·
              replace e14 := iq c74 e14
              subst e14
              exact J15 rfl
    refine aw_if_eq (tgt := 51) E dX8_street_33 rfl (fun c33 => ?_) (fun c33 => ?_)
    ·
      replace e10 := ip c33 e10
      subst e10
      exact J11 rfl
    ·
      replace e10 := iq c33 e10
      refine aw_iload E dX8_street_36 0 rfl ?_
      refine aw_callSi (S := []) E msX8_isCorner mlX8_126 rfl (ctX8_isCorner (yl Y) g x7  M ) rfl (Nat.le_of_ble_eq_true rfl) (Nat.le_of_ble_eq_true rfl) dX8_street_38 ?_
      refine aw_if_eq (tgt := 51) E dX8_street_41 rfl (fun c41 => ?_) (fun c41 => ?_)
      ·
        replace e10 := ip c41 e10
        subst e10
        exact J11 rfl
      ·
        replace e10 := iq c41 e10
        refine aw_iload E dX8_street_44 1 rfl ?_
        refine aw_iload E dX8_street_46 0 rfl ?_
        refine aw_icmp_ne (tgt := 54) E dX8_street_48 rfl (fun c48 => ?_) (fun c48 => ?_)
        ·
          replace e10 := iq c48 e10
          subst e10
          exact J12 rfl
        ·
          replace e10 := ip c48 e10
          subst e10
          exact J11 rfl
  refine aw_if_lt (tgt := 13) E dX8_street_1 rfl (fun c1 => ?_) (fun c1 => ?_)
  ·
    replace e2 := ip c1 e2
    subst e2
    exact J3 rfl
  ·
    replace e2 := iq c1 e2
    refine aw_iload_n E dX8_street_4 1 rfl ?_
    refine aw_iconst (v := 5) E dX8_street_5 (by decide) ?_
    refine aw_icmp_gt (tgt := 13) E dX8_street_6 rfl (fun c6 => ?_) (fun c6 => ?_)
    ·
      replace e2 := ip c6 e2
      subst e2
      exact J3 rfl
    ·
      replace e2 := iq c6 e2
      refine aw_iload_n E dX8_street_9 2 rfl ?_
      refine aw_if_ge (tgt := 16) E dX8_street_10 rfl (fun c10 => ?_) (fun c10 => ?_)
      ·
        replace e2 := ip c10 e2
        subst e2
        exact J4 rfl
      ·
        replace e2 := iq c10 e2
        subst e2
        exact J3 rfl
def FX8_streetsBy_L71 : Nat → Nat → Int32 → Int32 → Int32 → Int32 → Mem → Option (Int32 × Mem ⊕ (Int32 × Mem))
  | 0, _, _, _, _, _, _ => none
  | f + 1, p5, p4, p6, p7, p8, M =>
    if p4 ≤ p8 then
      some (.inr (p6, M))
    else
      if (FX2_holds p5 p7 4 M) = 0 then
        some (.inl ((-12), M))
      else
        gi p7 40 <|
        gi (p7 + 1) 40 <|
        gi (p7 + 2) 40 <|
        gi (p7 + 3) 40 <|
        ob (FX8_street (M.1 (p5 + 4) (Int32.toNatClampNeg p7)) (M.1 (p5 + 4) (Int32.toNatClampNeg (p7 + 1))) (M.1 (p5 + 4) (Int32.toNatClampNeg (p7 + 2))) (M.1 (p5 + 4) (Int32.toNatClampNeg (p7 + 3))) M) fun q105 =>
        lt (α := Int32) (if q105.1 < 0 then
          p6
        else
          lt (α := Int32) (p6 + 1) fun x114 =>
          x114) fun q107 =>
        lt (α := Int32) (p7 + 4) fun x110 =>
        lt (α := Int32) (p8 + 1) fun x112 =>
        FX8_streetsBy_L71 f p5 p4 q107 x110 x112 q105.2
def FX8_streetsBy (a1 : Int32) (a2 : Int32) (a3 : Int32) (a4 : Int32) (M : Mem) : Option (Int32 × Mem) :=
  lt (α := Bool) (if (FX8_isSheet a1) = 0 then true else if a2 < 0 then true else if 2 < a2 then true else if a4 < 0 then true else if a4 ≤ 10 then false else true) fun b1 =>
  if b1 = true then
    some ((-2), M)
  else
    gi a1 4 <|
    if (FX2_isMissing (44 + (Int32.toNatClampNeg a1)) M) = 0 then
      if (M.1 (44 + (Int32.toNatClampNeg a1)) 1) = a2 then
        ob (FX8_streetsBy_L71 FU (44 + (Int32.toNatClampNeg a1)) a4 0 a3 0 M) fun q7 => Sum.elim (fun v9 => some v9) (fun q11 =>
          some (q11.1, q11.2)) q7
      else
        some ((-13), M)
    else
      some ((-11), M)
set_option maxHeartbeats 4000000 in
set_option maxRecDepth 100000 in
theorem lpX8_streetsBy_71 {Y : CtxM} {g : CtxG} {r : Option Value × Mem} (E : EV Y (WX g) cX8_streetsBy 10 (some .int) RX8) (p5 : Nat) (hd5 : isSheet p5) (p4 : Int32) : ∀ (f : Nat) (p6 : Int32) (p7 : Int32) (p8 : Int32) (M : Mem) (q : Int32 × Mem ⊕ (Int32 × Mem)), FX8_streetsBy_L71 f p5 p4 p6 p7 p8 M = some q → (∀ v, q = .inl v → r = (some (.int v.1), v.2)) → (∀ t, q = .inr t → AW Y (WX g) r 10 3 144 [(6, .int t.1)] [] t.2) → AW Y (WX g) r 10 3 71 [(0, .ref (wad (WX g) 0)), (4, .int p4), (5, .ref (wad (WX g) p5)), (6, .int p6), (7, .int p7), (8, .int p8)] [] M := by
  intro f
  induction f with
  | zero => intro p6 p7 p8 M q hh; exact absurd hh (fun z => nomatch (show (none : Option (Int32 × Mem ⊕ (Int32 × Mem))) = some q from z))
  | succ f ih =>
    intro p6 p7 p8 M q hh kr kx
    rw [FX8_streetsBy_L71] at hh
    refine aw_iload E dX8_streetsBy_71 5 rfl ?_
    refine aw_iload E dX8_streetsBy_73 1 rfl ?_
    refine aw_icmp_ge (tgt := 144) E dX8_streetsBy_75 rfl (fun c75 => ?_) (fun c75 => ?_)
    ·
      replace hh := ip c75 hh
      refine aw_sub (L1 := [(6, .int p6)]) [3] rfl ?_
      replace hh := Option.some.inj hh
      subst hh
      exact kx _ rfl
    ·
      replace hh := iq c75 hh
      refine aw_aload E dX8_streetsBy_78 2 rfl ?_
      refine aw_iload E dX8_streetsBy_80 4 rfl ?_
      refine aw_iconst (v := 4) E dX8_streetsBy_82 (by decide) ?_
      refine aw_callVi (S := []) E mvX2_holds mlX8_282 hd5.1 hd5.2.1 rfl rfl (ctX2_holds (yl Y) g p5 p7 4 hd5 M ) rfl (Nat.le_of_ble_eq_true rfl) (Nat.le_of_ble_eq_true rfl) dX8_streetsBy_83 ?_
      refine aw_if_ne (tgt := 92) E dX8_streetsBy_86 rfl (fun c86 => ?_) (fun c86 => ?_)
      ·
        replace hh := iq c86 hh
        refine aw_aload E dX8_streetsBy_92 2 rfl ?_
        refine aw_getR (q := (p5 + 4)) E flX8_285 hd5.1 hd5.2.1 rfl dX8_streetsBy_94 ?_
        refine aw_astore (L1 := [(9, .ref (wad (WX g) (p5 + 4))), (0, .ref (wad (WX g) 0)), (4, .int p4), (5, .ref (wad (WX g) p5)), (6, .int p6), (7, .int p7), (8, .int p8)]) E dX8_streetsBy_97 (Nat.le_of_ble_eq_true rfl) rfl ?_
        refine aw_aload_n E dX8_streetsBy_99 1 rfl ?_
        refine aw_aload E dX8_streetsBy_100 0 rfl ?_
        refine aw_iload E dX8_streetsBy_102 5 rfl ?_
        obtain ⟨g101, hh⟩ := gi_e hh
        refine aw_iald E hd5.2.2.1 hd5.2.2.2 g101 dX8_streetsBy_104 ?_
        refine aw_aload E dX8_streetsBy_105 0 rfl ?_
        refine aw_iload E dX8_streetsBy_107 5 rfl ?_
        refine aw_iconst (v := 1) E dX8_streetsBy_109 (by decide) ?_
        refine aw_iadd E dX8_streetsBy_110 ?_
        obtain ⟨g102, hh⟩ := gi_e hh
        refine aw_iald E hd5.2.2.1 hd5.2.2.2 g102 dX8_streetsBy_111 ?_
        refine aw_aload E dX8_streetsBy_112 0 rfl ?_
        refine aw_iload E dX8_streetsBy_114 5 rfl ?_
        refine aw_iconst (v := 2) E dX8_streetsBy_116 (by decide) ?_
        refine aw_iadd E dX8_streetsBy_117 ?_
        obtain ⟨g103, hh⟩ := gi_e hh
        refine aw_iald E hd5.2.2.1 hd5.2.2.2 g103 dX8_streetsBy_118 ?_
        refine aw_aload E dX8_streetsBy_119 0 rfl ?_
        refine aw_iload E dX8_streetsBy_121 5 rfl ?_
        refine aw_iconst (v := 3) E dX8_streetsBy_123 (by decide) ?_
        refine aw_iadd E dX8_streetsBy_124 ?_
        obtain ⟨g104, hh⟩ := gi_e hh
        refine aw_iald E hd5.2.2.1 hd5.2.2.2 g104 dX8_streetsBy_125 ?_
        obtain ⟨q105, e106, hh⟩ := bd_e hh
        refine aw_callVi (S := []) E mvX8_street mlX8_294 (Nat.le_of_ble_eq_true rfl) rfl rfl rfl (ctX8_street (yl Y) g (M.1 (p5 + 4) (Int32.toNatClampNeg p7)) (M.1 (p5 + 4) (Int32.toNatClampNeg (p7 + 1))) (M.1 (p5 + 4) (Int32.toNatClampNeg (p7 + 2))) (M.1 (p5 + 4) (Int32.toNatClampNeg (p7 + 3)))  M q105 e106) rfl (Nat.le_of_ble_eq_true rfl) (Nat.le_of_ble_eq_true rfl) dX8_streetsBy_126 ?_
        obtain ⟨q107, e108, hh⟩ := lt_e hh
        have J109 : AW Y (WX g) r 10 3 135 [(0, .ref (wad (WX g) 0)), (4, .int p4), (5, .ref (wad (WX g) p5)), (6, .int q107), (7, .int p7), (8, .int p8)] [] q105.2 := by
          obtain ⟨x110, e111, hh⟩ := lt_e hh
          refine aw_iinc (v := x110) (L1 := [(7, .int x110), (0, .ref (wad (WX g) 0)), (4, .int p4), (5, .ref (wad (WX g) p5)), (6, .int q107), (8, .int p8)]) E dX8_streetsBy_135 4 rfl e111 (Nat.le_of_ble_eq_true rfl) rfl ?_
          obtain ⟨x112, e113, hh⟩ := lt_e hh
          refine aw_iinc (v := x112) (L1 := [(8, .int x112), (7, .int x110), (0, .ref (wad (WX g) 0)), (4, .int p4), (5, .ref (wad (WX g) p5)), (6, .int q107)]) E dX8_streetsBy_138 5 rfl e113 (Nat.le_of_ble_eq_true rfl) rfl ?_
          refine aw_goto (tgt := 71) E dX8_streetsBy_141 rfl ?_
          refine aw_sub (L1 := [(0, .ref (wad (WX g) 0)), (4, .int p4), (5, .ref (wad (WX g) p5)), (6, .int q107), (7, .int x110), (8, .int x112)]) [2, 3, 4, 5, 1, 0] rfl ?_
          exact ih q107 x110 x112 q105.2 _ hh kr kx
        refine aw_if_lt (tgt := 135) E dX8_streetsBy_129 rfl (fun c129 => ?_) (fun c129 => ?_)
        ·
          replace e108 := ip c129 e108
          refine aw_sub (L1 := [(0, .ref (wad (WX g) 0)), (4, .int p4), (5, .ref (wad (WX g) p5)), (6, .int p6), (7, .int p7), (8, .int p8)]) [1, 2, 3, 4, 5, 6] rfl ?_
          subst e108
          exact J109
        ·
          replace e108 := iq c129 e108
          obtain ⟨x114, e115, e108⟩ := lt_e e108
          refine aw_iinc (v := x114) (L1 := [(6, .int x114), (9, .ref (wad (WX g) (p5 + 4))), (0, .ref (wad (WX g) 0)), (4, .int p4), (5, .ref (wad (WX g) p5)), (7, .int p7), (8, .int p8)]) E dX8_streetsBy_132 4 rfl e115 (Nat.le_of_ble_eq_true rfl) rfl ?_
          refine aw_sub (L1 := [(0, .ref (wad (WX g) 0)), (4, .int p4), (5, .ref (wad (WX g) p5)), (6, .int x114), (7, .int p7), (8, .int p8)]) [2, 3, 4, 0, 5, 6] rfl ?_
          subst e108
          exact J109
      ·
        replace hh := ip c86 hh
        refine aw_bipush (v := (-12)) E dX8_streetsBy_89 (by decide) ?_
        replace hh := Option.some.inj hh
        subst hh
        exact aw_iret E dX8_streetsBy_91 (kr _ rfl)
set_option maxHeartbeats 4000000 in
set_option maxRecDepth 100000 in
theorem ctX8_streetsBy (l : Launch) (g : CtxG) (a1 : Int32) (a2 : Int32) (a3 : Int32) (a4 : Int32) (M : Mem) (r0 : Int32 × Mem) (h : FX8_streetsBy a1 a2 a3 a4 M = some r0) : Ct l (WX g) yX8_streetsBy cX8_streetsBy 10 (some .int) 3 [.ref (wad (WX g) 0), .int a1, .int a2, .int a3, .int a4] M (some (.int r0.1), r0.2) := by
  refine Ct.of (by decide) (Nat.le_of_ble_eq_true rfl) (fun Y hY E => ?_)
  have E : EV Y (WX g) cX8_streetsBy 10 (some .int) RX8 := E
  have h : FX8_streetsBy a1 a2 a3 a4 M = some r0 := h
  unfold FX8_streetsBy at h
  show AW Y (WX g) _ 10 3 0 [(0, .ref (wad (WX g) 0)), (1, .int a1), (2, .int a2), (3, .int a3), (4, .int a4)] [] M
  obtain ⟨r, hr⟩ : ∃ r : Option Value × Mem, r = (some (.int r0.1), r0.2) := ⟨_, rfl⟩
  rw [← hr]
  refine aw_iload_n E dX8_streetsBy_0 1 rfl ?_
  refine aw_callSi (S := []) E msX8_isSheet mlX8_243 rfl (ctX8_isSheet (yl Y) g a1  M ) rfl (Nat.le_of_ble_eq_true rfl) (Nat.le_of_ble_eq_true rfl) dX8_streetsBy_1 ?_
  obtain ⟨b1, e2, h⟩ := lt_e h
  have J3 : b1 = true → AW Y (WX g) r 10 3 28 [(0, .ref (wad (WX g) 0)), (1, .int a1), (2, .int a2), (3, .int a3), (4, .int a4)] [] M := fun hb => by
    replace h := ip hb h
    refine aw_bipush (v := (-2)) E dX8_streetsBy_28 (by decide) ?_
    replace h := Option.some.inj h
    subst h
    exact aw_iret E dX8_streetsBy_30 hr
  have J4 : b1 = false → AW Y (WX g) r 10 3 31 [(0, .ref (wad (WX g) 0)), (1, .int a1), (2, .int a2), (3, .int a3), (4, .int a4)] [] M := fun hb => by
    replace h := iq (bf hb) h
    refine aw_aload_n E dX8_streetsBy_31 0 rfl ?_
    refine aw_getR (q := 43) E flX8_66 (Nat.le_of_ble_eq_true rfl) rfl rfl dX8_streetsBy_32 ?_
    refine aw_iload_n E dX8_streetsBy_35 1 rfl ?_
    obtain ⟨g5, h⟩ := gi_e h
    refine aw_aldS E (Nat.le_of_ble_eq_true rfl) rfl g5 dX8_streetsBy_36 ?_
    have f6 := sheets_of g5
    refine aw_astore (L1 := [(5, .ref (wad (WX g) (44 + (Int32.toNatClampNeg a1)))), (0, .ref (wad (WX g) 0)), (1, .int a1), (2, .int a2), (3, .int a3), (4, .int a4)]) E dX8_streetsBy_37 (Nat.le_of_ble_eq_true rfl) rfl ?_
    refine aw_aload E dX8_streetsBy_39 0 rfl ?_
    refine aw_callVi (S := []) E mvX2_isMissing mlX8_246 f6.1 f6.2.1 rfl rfl (ctX2_isMissing (yl Y) g (44 + (Int32.toNatClampNeg a1)) f6 M ) rfl (Nat.le_of_ble_eq_true rfl) (Nat.le_of_ble_eq_true rfl) dX8_streetsBy_41 ?_
    refine aw_if_eq (tgt := 50) E dX8_streetsBy_44 rfl (fun c44 => ?_) (fun c44 => ?_)
    ·
      replace h := ip c44 h
      refine aw_aload E dX8_streetsBy_50 0 rfl ?_
      refine aw_getI E flX8_279 f6.1 f6.2.1 rfl dX8_streetsBy_52 ?_
      refine aw_iload_n E dX8_streetsBy_55 3 rfl ?_
      refine aw_icmp_eq (tgt := 62) E dX8_streetsBy_56 rfl (fun c56 => ?_) (fun c56 => ?_)
      ·
        replace h := ip c56 h
        refine aw_iconst (v := 0) E dX8_streetsBy_62 (by decide) ?_
        refine aw_istore (L1 := [(6, .int 0), (5, .ref (wad (WX g) (44 + (Int32.toNatClampNeg a1)))), (0, .ref (wad (WX g) 0)), (1, .int a1), (2, .int a2), (3, .int a3), (4, .int a4)]) E dX8_streetsBy_63 (Nat.le_of_ble_eq_true rfl) rfl ?_
        refine aw_iload_n E dX8_streetsBy_65 5 rfl ?_
        refine aw_istore (L1 := [(7, .int a3), (6, .int 0), (5, .ref (wad (WX g) (44 + (Int32.toNatClampNeg a1)))), (0, .ref (wad (WX g) 0)), (1, .int a1), (2, .int a2), (3, .int a3), (4, .int a4)]) E dX8_streetsBy_66 (Nat.le_of_ble_eq_true rfl) rfl ?_
        refine aw_iconst (v := 0) E dX8_streetsBy_68 (by decide) ?_
        refine aw_istore (L1 := [(8, .int 0), (7, .int a3), (6, .int 0), (5, .ref (wad (WX g) (44 + (Int32.toNatClampNeg a1)))), (0, .ref (wad (WX g) 0)), (1, .int a1), (2, .int a2), (3, .int a3), (4, .int a4)]) E dX8_streetsBy_69 (Nat.le_of_ble_eq_true rfl) rfl ?_
        obtain ⟨q7, e8, h⟩ := bd_e h
        refine aw_sub (L1 := [(0, .ref (wad (WX g) 0)), (4, .int a4), (5, .ref (wad (WX g) (44 + (Int32.toNatClampNeg a1)))), (6, .int 0), (7, .int a3), (8, .int 0)]) [4, 8, 3, 2, 1, 0] rfl ?_
        refine lpX8_streetsBy_71 E (44 + (Int32.toNatClampNeg a1)) f6 a4 FU 0 a3 0 M q7 e8 (fun v9 e10 => ?_) (fun q11 e12 => ?_)
        ·
          subst e10
          replace h := Option.some.inj h
          subst h
          exact hr
        ·
          subst e12
          refine aw_iload E dX8_streetsBy_144 0 rfl ?_
          replace h := Option.some.inj h
          subst h
          exact aw_iret E dX8_streetsBy_146 hr
      ·
        replace h := iq c56 h
        refine aw_bipush (v := (-13)) E dX8_streetsBy_59 (by decide) ?_
        replace h := Option.some.inj h
        subst h
        exact aw_iret E dX8_streetsBy_61 hr
    ·
      replace h := iq c44 h
      refine aw_bipush (v := (-11)) E dX8_streetsBy_47 (by decide) ?_
      replace h := Option.some.inj h
      subst h
      exact aw_iret E dX8_streetsBy_49 hr
  refine aw_if_eq (tgt := 28) E dX8_streetsBy_4 rfl (fun c4 => ?_) (fun c4 => ?_)
  ·
    replace e2 := ip c4 e2
    subst e2
    exact J3 rfl
  ·
    replace e2 := iq c4 e2
    refine aw_iload_n E dX8_streetsBy_7 2 rfl ?_
    refine aw_if_lt (tgt := 28) E dX8_streetsBy_8 rfl (fun c8 => ?_) (fun c8 => ?_)
    ·
      replace e2 := ip c8 e2
      subst e2
      exact J3 rfl
    ·
      replace e2 := iq c8 e2
      refine aw_iload_n E dX8_streetsBy_11 2 rfl ?_
      refine aw_iconst (v := 2) E dX8_streetsBy_12 (by decide) ?_
      refine aw_icmp_gt (tgt := 28) E dX8_streetsBy_13 rfl (fun c13 => ?_) (fun c13 => ?_)
      ·
        replace e2 := ip c13 e2
        subst e2
        exact J3 rfl
      ·
        replace e2 := iq c13 e2
        refine aw_iload E dX8_streetsBy_16 4 rfl ?_
        refine aw_if_lt (tgt := 28) E dX8_streetsBy_18 rfl (fun c18 => ?_) (fun c18 => ?_)
        ·
          replace e2 := ip c18 e2
          subst e2
          exact J3 rfl
        ·
          replace e2 := iq c18 e2
          refine aw_iload E dX8_streetsBy_21 4 rfl ?_
          refine aw_bipush (v := 10) E dX8_streetsBy_23 (by decide) ?_
          refine aw_icmp_le (tgt := 31) E dX8_streetsBy_25 rfl (fun c25 => ?_) (fun c25 => ?_)
          ·
            replace e2 := ip c25 e2
            subst e2
            exact J4 rfl
          ·
            replace e2 := iq c25 e2
            subst e2
            exact J3 rfl
def FX8_taken (a1 : Int32) (a2 : Int32) (M : Mem) : Option (Int32) :=
  lt (α := Bool) (if a2 < 0 then true else if a2 ≤ 6 then false else true) fun b1 =>
  if b1 = true then
    some (-2)
  else
    lt (α := Bool) (if a1 < 0 then true else if a1 < 21 then false else true) fun b5 =>
    if b5 = true then
      some (-12)
    else
      lt (α := Int32) (a1 - 9) fun x9 =>
      lt (α := Int32) (M.1 1 4) fun x11 =>
      if 0 ≤ x9 then
        if x9 < x11 then
          ob (FX3_isA x9 a2 M) fun q13 =>
          if q13 = 0 then
            some (-13)
          else
            some x9
        else
          some (-11)
      else
        if a2 = 6 then
          ob (FX3_ending ((1 : Int32) <<< (a1 &&& 31)) (-1) x11 M) fun q15 =>
          some q15
        else
          some (-13)
set_option maxHeartbeats 4000000 in
set_option maxRecDepth 100000 in
theorem ctX8_taken (l : Launch) (g : CtxG) (a1 : Int32) (a2 : Int32) (M : Mem) (r0 : Int32) (h : FX8_taken a1 a2 M = some r0) : Ct l (WX g) yX8_taken cX8_taken 5 (some .int) 2 [.ref (wad (WX g) 0), .int a1, .int a2] M (some (.int r0), M) := by
  refine Ct.of (by decide) (Nat.le_of_ble_eq_true rfl) (fun Y hY E => ?_)
  have E : EV Y (WX g) cX8_taken 5 (some .int) RX8 := E
  have h : FX8_taken a1 a2 M = some r0 := h
  unfold FX8_taken at h
  show AW Y (WX g) _ 5 2 0 [(0, .ref (wad (WX g) 0)), (1, .int a1), (2, .int a2)] [] M
  obtain ⟨r, hr⟩ : ∃ r : Option Value × Mem, r = (some (.int r0), M) := ⟨_, rfl⟩
  rw [← hr]
  refine aw_iload_n E dX8_taken_0 2 rfl ?_
  obtain ⟨b1, e2, h⟩ := lt_e h
  have J3 : b1 = true → AW Y (WX g) r 5 2 10 [(0, .ref (wad (WX g) 0)), (1, .int a1), (2, .int a2)] [] M := fun hb => by
    replace h := ip hb h
    refine aw_bipush (v := (-2)) E dX8_taken_10 (by decide) ?_
    replace h := Option.some.inj h
    subst h
    exact aw_iret E dX8_taken_12 hr
  have J4 : b1 = false → AW Y (WX g) r 5 2 13 [(0, .ref (wad (WX g) 0)), (1, .int a1), (2, .int a2)] [] M := fun hb => by
    replace h := iq (bf hb) h
    refine aw_iload_n E dX8_taken_13 1 rfl ?_
    obtain ⟨b5, e6, h⟩ := lt_e h
    have J7 : b5 = true → AW Y (WX g) r 5 2 23 [(0, .ref (wad (WX g) 0)), (1, .int a1), (2, .int a2)] [] M := fun hb => by
      replace h := ip hb h
      refine aw_bipush (v := (-12)) E dX8_taken_23 (by decide) ?_
      replace h := Option.some.inj h
      subst h
      exact aw_iret E dX8_taken_25 hr
    have J8 : b5 = false → AW Y (WX g) r 5 2 26 [(0, .ref (wad (WX g) 0)), (1, .int a1), (2, .int a2)] [] M := fun hb => by
      replace h := iq (bf hb) h
      refine aw_iload_n E dX8_taken_26 1 rfl ?_
      refine aw_bipush (v := 9) E dX8_taken_27 (by decide) ?_
      refine aw_isub E dX8_taken_29 ?_
      obtain ⟨x9, e10, h⟩ := lt_e h
      refine aw_nmI e10 ?_
      refine aw_istore_n (L1 := [(3, .int x9), (0, .ref (wad (WX g) 0)), (1, .int a1), (2, .int a2)]) E dX8_taken_30 (Nat.le_of_ble_eq_true rfl) rfl ?_
      refine aw_aload_n E dX8_taken_31 1 rfl ?_
      refine aw_getR (q := 1) E flX8_12 (Nat.le_of_ble_eq_true rfl) rfl rfl dX8_taken_32 ?_
      refine aw_getI E flX8_111 (Nat.le_of_ble_eq_true rfl) rfl rfl dX8_taken_35 ?_
      obtain ⟨x11, e12, h⟩ := lt_e h
      refine aw_nmI e12 ?_
      refine aw_istore (L1 := [(4, .int x11), (3, .int x9), (0, .ref (wad (WX g) 0)), (1, .int a1), (2, .int a2)]) E dX8_taken_38 (Nat.le_of_ble_eq_true rfl) rfl ?_
      refine aw_iload_n E dX8_taken_40 1 rfl ?_
      refine aw_if_ge (tgt := 69) E dX8_taken_41 rfl (fun c41 => ?_) (fun c41 => ?_)
      ·
        replace h := ip c41 h
        refine aw_iload_n E dX8_taken_69 1 rfl ?_
        refine aw_iload E dX8_taken_70 0 rfl ?_
        refine aw_icmp_lt (tgt := 78) E dX8_taken_72 rfl (fun c72 => ?_) (fun c72 => ?_)
        ·
          replace h := ip c72 h
          refine aw_aload_n E dX8_taken_78 2 rfl ?_
          refine aw_getR (q := 4) E flX8_25 (Nat.le_of_ble_eq_true rfl) rfl rfl dX8_taken_79 ?_
          refine aw_iload_n E dX8_taken_82 1 rfl ?_
          refine aw_iload_n E dX8_taken_83 4 rfl ?_
          obtain ⟨q13, e14, h⟩ := bd_e h
          refine aw_callVi (S := []) E mvX3_isA mlX8_298 (Nat.le_of_ble_eq_true rfl) rfl rfl rfl (ctX3_isA (yl Y) g x9 a2  M q13 e14) rfl (Nat.le_of_ble_eq_true rfl) (Nat.le_of_ble_eq_true rfl) dX8_taken_84 ?_
          refine aw_if_eq (tgt := 94) E dX8_taken_87 rfl (fun c87 => ?_) (fun c87 => ?_)
          ·
            replace h := ip c87 h
            refine aw_bipush (v := (-13)) E dX8_taken_94 (by decide) ?_
            replace h := Option.some.inj h
            subst h
            exact aw_iret E dX8_taken_96 hr
          ·
            replace h := iq c87 h
            refine aw_iload_n E dX8_taken_90 1 rfl ?_
            refine aw_goto (tgt := 96) E dX8_taken_91 rfl ?_
            replace h := Option.some.inj h
            subst h
            exact aw_iret E dX8_taken_96 hr
        ·
          replace h := iq c72 h
          refine aw_bipush (v := (-11)) E dX8_taken_75 (by decide) ?_
          replace h := Option.some.inj h
          subst h
          exact aw_iret E dX8_taken_77 hr
      ·
        replace h := iq c41 h
        refine aw_iload_n E dX8_taken_44 4 rfl ?_
        refine aw_bipush (v := 6) E dX8_taken_45 (by decide) ?_
        refine aw_icmp_ne (tgt := 66) E dX8_taken_47 rfl (fun c47 => ?_) (fun c47 => ?_)
        ·
          replace h := iq c47 h
          refine aw_bipush (v := (-13)) E dX8_taken_66 (by decide) ?_
          replace h := Option.some.inj h
          subst h
          exact aw_iret E dX8_taken_68 hr
        ·
          replace h := ip c47 h
          refine aw_aload_n E dX8_taken_50 2 rfl ?_
          refine aw_getR (q := 4) E flX8_25 (Nat.le_of_ble_eq_true rfl) rfl rfl dX8_taken_51 ?_
          refine aw_iconst (v := 1) E dX8_taken_54 (by decide) ?_
          refine aw_iload_n E dX8_taken_55 3 rfl ?_
          refine aw_ishl E dX8_taken_56 ?_
          refine aw_iconst (v := (-1)) E dX8_taken_57 (by decide) ?_
          refine aw_iload E dX8_taken_58 0 rfl ?_
          obtain ⟨q15, e16, h⟩ := bd_e h
          refine aw_callVi (S := []) E mvX3_ending mlX8_237 (Nat.le_of_ble_eq_true rfl) rfl rfl rfl (ctX3_ending (yl Y) g ((1 : Int32) <<< (a1 &&& 31)) (-1) x11  M q15 e16) rfl (Nat.le_of_ble_eq_true rfl) (Nat.le_of_ble_eq_true rfl) dX8_taken_60 ?_
          refine aw_goto (tgt := 68) E dX8_taken_63 rfl ?_
          replace h := Option.some.inj h
          subst h
          exact aw_iret E dX8_taken_68 hr
    refine aw_if_lt (tgt := 23) E dX8_taken_14 rfl (fun c14 => ?_) (fun c14 => ?_)
    ·
      replace e6 := ip c14 e6
      subst e6
      exact J7 rfl
    ·
      replace e6 := iq c14 e6
      refine aw_iload_n E dX8_taken_17 1 rfl ?_
      refine aw_bipush (v := 21) E dX8_taken_18 (by decide) ?_
      refine aw_icmp_lt (tgt := 26) E dX8_taken_20 rfl (fun c20 => ?_) (fun c20 => ?_)
      ·
        replace e6 := ip c20 e6
        subst e6
        exact J8 rfl
      ·
        replace e6 := iq c20 e6
        subst e6
        exact J7 rfl
  refine aw_if_lt (tgt := 10) E dX8_taken_1 rfl (fun c1 => ?_) (fun c1 => ?_)
  ·
    replace e2 := ip c1 e2
    subst e2
    exact J3 rfl
  ·
    replace e2 := iq c1 e2
    refine aw_iload_n E dX8_taken_4 2 rfl ?_
    refine aw_bipush (v := 6) E dX8_taken_5 (by decide) ?_
    refine aw_icmp_le (tgt := 13) E dX8_taken_7 rfl (fun c7 => ?_) (fun c7 => ?_)
    ·
      replace e2 := ip c7 e2
      subst e2
      exact J4 rfl
    ·
      replace e2 := iq c7 e2
      subst e2
      exact J3 rfl
def FX8_text  (M : Mem) : Option (Int32 × Mem) :=
  if (M.1 14 4) < 6 then
    ob (FX5_read M) fun q1 =>
    lt (wr q1.2 10 1 0) fun M3 =>
    if q1.1 < 0 then
      ob (FX6_add M3) fun q5 =>
      some (q5.1, q5.2)
    else
      some ((-100) - q1.1, M3)
  else
    some ((-4), M)
set_option maxHeartbeats 4000000 in
set_option maxRecDepth 100000 in
theorem ctX8_text (l : Launch) (g : CtxG)  (M : Mem) (r0 : Int32 × Mem) (h : FX8_text M = some r0) : Ct l (WX g) yX8_text cX8_text 2 (some .int) 168 [.ref (wad (WX g) 0)] M (some (.int r0.1), r0.2) := by
  refine Ct.of (by decide) (Nat.le_of_ble_eq_true rfl) (fun Y hY E => ?_)
  have E : EV Y (WX g) cX8_text 2 (some .int) RX8 := E
  have h : FX8_text  M = some r0 := h
  unfold FX8_text at h
  show AW Y (WX g) _ 2 168 0 [(0, .ref (wad (WX g) 0))] [] M
  obtain ⟨r, hr⟩ : ∃ r : Option Value × Mem, r = (some (.int r0.1), r0.2) := ⟨_, rfl⟩
  rw [← hr]
  refine aw_aload_n E dX8_text_0 0 rfl ?_
  refine aw_getR (q := 14) E flX8_39 (Nat.le_of_ble_eq_true rfl) rfl rfl dX8_text_1 ?_
  refine aw_getI E flX8_116 (Nat.le_of_ble_eq_true rfl) rfl rfl dX8_text_4 ?_
  refine aw_bipush (v := 6) E dX8_text_7 (by decide) ?_
  refine aw_icmp_lt (tgt := 15) E dX8_text_9 rfl (fun c9 => ?_) (fun c9 => ?_)
  ·
    replace h := ip c9 h
    refine aw_aload_n E dX8_text_15 0 rfl ?_
    refine aw_getR (q := 10) E flX8_32 (Nat.le_of_ble_eq_true rfl) rfl rfl dX8_text_16 ?_
    obtain ⟨q1, e2, h⟩ := bd_e h
    refine aw_callVi (S := []) E mvX5_read mlX8_91 (Nat.le_of_ble_eq_true rfl) rfl rfl rfl (ctX5_read (yl Y) g   M q1 e2) rfl (Nat.le_of_ble_eq_true rfl) (Nat.le_of_ble_eq_true rfl) dX8_text_19 ?_
    refine aw_istore_n (L1 := [(1, .int q1.1), (0, .ref (wad (WX g) 0))]) E dX8_text_22 (Nat.le_of_ble_eq_true rfl) rfl ?_
    refine aw_aload_n E dX8_text_23 1 rfl ?_
    refine aw_getR (q := 10) E flX8_32 (Nat.le_of_ble_eq_true rfl) rfl rfl dX8_text_24 ?_
    refine aw_iconst (v := 0) E dX8_text_27 (by decide) ?_
    obtain ⟨M3, e4, h⟩ := lt_e h
    refine aw_putI1 e4 E flX8_98 (Nat.le_of_ble_eq_true rfl) rfl rfl nr_int dX8_text_28 ?_
    refine aw_iload_n E dX8_text_31 0 rfl ?_
    refine aw_if_lt (tgt := 42) E dX8_text_32 rfl (fun c32 => ?_) (fun c32 => ?_)
    ·
      replace h := ip c32 h
      refine aw_aload_n E dX8_text_42 1 rfl ?_
      refine aw_getR (q := 14) E flX8_39 (Nat.le_of_ble_eq_true rfl) rfl rfl dX8_text_43 ?_
      refine aw_aload_n E dX8_text_46 1 rfl ?_
      refine aw_getR (q := 10) E flX8_32 (Nat.le_of_ble_eq_true rfl) rfl rfl dX8_text_47 ?_
      obtain ⟨q5, e6, h⟩ := bd_e h
      refine aw_callVi (S := []) E mvX6_add mlX8_94 (Nat.le_of_ble_eq_true rfl) rfl rfl rfl (ctX6_add (yl Y) g   M3 q5 e6) rfl (Nat.le_of_ble_eq_true rfl) (Nat.le_of_ble_eq_true rfl) dX8_text_50 ?_
      replace h := Option.some.inj h
      subst h
      exact aw_iret E dX8_text_53 hr
    ·
      replace h := iq c32 h
      refine aw_bipush (v := (-100)) E dX8_text_35 (by decide) ?_
      refine aw_iload_n E dX8_text_37 0 rfl ?_
      refine aw_isub E dX8_text_38 ?_
      refine aw_goto (tgt := 53) E dX8_text_39 rfl ?_
      replace h := Option.some.inj h
      subst h
      exact aw_iret E dX8_text_53 hr
  ·
    replace h := iq c9 h
    refine aw_bipush (v := (-4)) E dX8_text_12 (by decide) ?_
    replace h := Option.some.inj h
    subst h
    exact aw_iret E dX8_text_14 hr
def FX8_told (a1 : Int32) (a2 : Int32) (M : Mem) : Option (Int32) :=
  if (FX8_isStreet a1 M) = 0 then
    some (-5)
  else
    if a2 = 0 then
      gi a1 12 <|
      some (M.1 5 (Int32.toNatClampNeg a1))
    else if a2 = 1 then
      gi a1 12 <|
      some (M.1 6 (Int32.toNatClampNeg a1))
    else if a2 = 2 then
      gi a1 12 <|
      some (M.1 7 (Int32.toNatClampNeg a1))
    else if a2 = 3 then
      gi a1 12 <|
      some (M.1 8 (Int32.toNatClampNeg a1))
    else if a2 = 4 then
      gi a1 12 <|
      some (M.1 9 (Int32.toNatClampNeg a1))
    else if a2 = 5 then
      ob (FX3_spentBy a1 (M.1 1 4) M) fun q6 =>
      some q6
    else 
      some (-7)
set_option maxHeartbeats 4000000 in
set_option maxRecDepth 100000 in
theorem ctX8_told (l : Launch) (g : CtxG) (a1 : Int32) (a2 : Int32) (M : Mem) (r0 : Int32) (h : FX8_told a1 a2 M = some r0) : Ct l (WX g) yX8_told cX8_told 3 (some .int) 3 [.ref (wad (WX g) 0), .int a1, .int a2] M (some (.int r0), M) := by
  refine Ct.of (by decide) (Nat.le_of_ble_eq_true rfl) (fun Y hY E => ?_)
  have E : EV Y (WX g) cX8_told 3 (some .int) RX8 := E
  have h : FX8_told a1 a2 M = some r0 := h
  unfold FX8_told at h
  show AW Y (WX g) _ 3 3 0 [(0, .ref (wad (WX g) 0)), (1, .int a1), (2, .int a2)] [] M
  obtain ⟨r, hr⟩ : ∃ r : Option Value × Mem, r = (some (.int r0), M) := ⟨_, rfl⟩
  rw [← hr]
  refine aw_aload_n E dX8_told_0 0 rfl ?_
  refine aw_iload_n E dX8_told_1 1 rfl ?_
  refine aw_callVi (S := []) E mvX8_isStreet mlX8_136 (Nat.le_of_ble_eq_true rfl) rfl rfl rfl (ctX8_isStreet (yl Y) g a1  M ) rfl (Nat.le_of_ble_eq_true rfl) (Nat.le_of_ble_eq_true rfl) dX8_told_2 ?_
  refine aw_if_ne (tgt := 11) E dX8_told_5 rfl (fun c5 => ?_) (fun c5 => ?_)
  ·
    replace h := iq c5 h
    refine aw_iload_n E dX8_told_11 2 rfl ?_
    by_cases c12_0 : a2 = 0
    ·
      replace h := ip c12_0 h
      refine aw_tin (tgt := 52) (off := 40) E dX8_told_12 (by rw [c12_0]; decide) (by rw [c12_0]; decide) (by rw [c12_0]; decide) (by decide) ?_
      refine aw_aload_n E dX8_told_52 0 rfl ?_
      refine aw_getR (q := 4) E flX8_25 (Nat.le_of_ble_eq_true rfl) rfl rfl dX8_told_53 ?_
      refine aw_getR (q := 5) E flX8_139 (Nat.le_of_ble_eq_true rfl) rfl rfl dX8_told_56 ?_
      refine aw_iload_n E dX8_told_59 1 rfl ?_
      obtain ⟨g1, h⟩ := gi_e h
      refine aw_iald E (Nat.le_of_ble_eq_true rfl) rfl g1 dX8_told_60 ?_
      replace h := Option.some.inj h
      subst h
      exact aw_iret E dX8_told_61 hr
    replace h := iq c12_0 h
    by_cases c12_1 : a2 = 1
    ·
      replace h := ip c12_1 h
      refine aw_tin (tgt := 62) (off := 50) E dX8_told_12 (by rw [c12_1]; decide) (by rw [c12_1]; decide) (by rw [c12_1]; decide) (by decide) ?_
      refine aw_aload_n E dX8_told_62 0 rfl ?_
      refine aw_getR (q := 4) E flX8_25 (Nat.le_of_ble_eq_true rfl) rfl rfl dX8_told_63 ?_
      refine aw_getR (q := 6) E flX8_143 (Nat.le_of_ble_eq_true rfl) rfl rfl dX8_told_66 ?_
      refine aw_iload_n E dX8_told_69 1 rfl ?_
      obtain ⟨g2, h⟩ := gi_e h
      refine aw_iald E (Nat.le_of_ble_eq_true rfl) rfl g2 dX8_told_70 ?_
      replace h := Option.some.inj h
      subst h
      exact aw_iret E dX8_told_71 hr
    replace h := iq c12_1 h
    by_cases c12_2 : a2 = 2
    ·
      replace h := ip c12_2 h
      refine aw_tin (tgt := 72) (off := 60) E dX8_told_12 (by rw [c12_2]; decide) (by rw [c12_2]; decide) (by rw [c12_2]; decide) (by decide) ?_
      refine aw_aload_n E dX8_told_72 0 rfl ?_
      refine aw_getR (q := 4) E flX8_25 (Nat.le_of_ble_eq_true rfl) rfl rfl dX8_told_73 ?_
      refine aw_getR (q := 7) E flX8_146 (Nat.le_of_ble_eq_true rfl) rfl rfl dX8_told_76 ?_
      refine aw_iload_n E dX8_told_79 1 rfl ?_
      obtain ⟨g3, h⟩ := gi_e h
      refine aw_iald E (Nat.le_of_ble_eq_true rfl) rfl g3 dX8_told_80 ?_
      replace h := Option.some.inj h
      subst h
      exact aw_iret E dX8_told_81 hr
    replace h := iq c12_2 h
    by_cases c12_3 : a2 = 3
    ·
      replace h := ip c12_3 h
      refine aw_tin (tgt := 82) (off := 70) E dX8_told_12 (by rw [c12_3]; decide) (by rw [c12_3]; decide) (by rw [c12_3]; decide) (by decide) ?_
      refine aw_aload_n E dX8_told_82 0 rfl ?_
      refine aw_getR (q := 4) E flX8_25 (Nat.le_of_ble_eq_true rfl) rfl rfl dX8_told_83 ?_
      refine aw_getR (q := 8) E flX8_149 (Nat.le_of_ble_eq_true rfl) rfl rfl dX8_told_86 ?_
      refine aw_iload_n E dX8_told_89 1 rfl ?_
      obtain ⟨g4, h⟩ := gi_e h
      refine aw_iald E (Nat.le_of_ble_eq_true rfl) rfl g4 dX8_told_90 ?_
      replace h := Option.some.inj h
      subst h
      exact aw_iret E dX8_told_91 hr
    replace h := iq c12_3 h
    by_cases c12_4 : a2 = 4
    ·
      replace h := ip c12_4 h
      refine aw_tin (tgt := 92) (off := 80) E dX8_told_12 (by rw [c12_4]; decide) (by rw [c12_4]; decide) (by rw [c12_4]; decide) (by decide) ?_
      refine aw_aload_n E dX8_told_92 0 rfl ?_
      refine aw_getR (q := 4) E flX8_25 (Nat.le_of_ble_eq_true rfl) rfl rfl dX8_told_93 ?_
      refine aw_getR (q := 9) E flX8_152 (Nat.le_of_ble_eq_true rfl) rfl rfl dX8_told_96 ?_
      refine aw_iload_n E dX8_told_99 1 rfl ?_
      obtain ⟨g5, h⟩ := gi_e h
      refine aw_iald E (Nat.le_of_ble_eq_true rfl) rfl g5 dX8_told_100 ?_
      replace h := Option.some.inj h
      subst h
      exact aw_iret E dX8_told_101 hr
    replace h := iq c12_4 h
    by_cases c12_5 : a2 = 5
    ·
      replace h := ip c12_5 h
      refine aw_tin (tgt := 102) (off := 90) E dX8_told_12 (by rw [c12_5]; decide) (by rw [c12_5]; decide) (by rw [c12_5]; decide) (by decide) ?_
      refine aw_aload_n E dX8_told_102 0 rfl ?_
      refine aw_getR (q := 4) E flX8_25 (Nat.le_of_ble_eq_true rfl) rfl rfl dX8_told_103 ?_
      refine aw_iload_n E dX8_told_106 1 rfl ?_
      refine aw_aload_n E dX8_told_107 0 rfl ?_
      refine aw_getR (q := 1) E flX8_12 (Nat.le_of_ble_eq_true rfl) rfl rfl dX8_told_108 ?_
      refine aw_getI E flX8_111 (Nat.le_of_ble_eq_true rfl) rfl rfl dX8_told_111 ?_
      obtain ⟨q6, e7, h⟩ := bd_e h
      refine aw_callVi (S := []) E mvX3_spentBy mlX8_155 (Nat.le_of_ble_eq_true rfl) rfl rfl rfl (ctX3_spentBy (yl Y) g a1 (M.1 1 4)  M q6 e7) rfl (Nat.le_of_ble_eq_true rfl) (Nat.le_of_ble_eq_true rfl) dX8_told_114 ?_
      replace h := Option.some.inj h
      subst h
      exact aw_iret E dX8_told_117 hr
    replace h := iq c12_5 h
    have nc12_0 := lv_neT (k := 0) (a := 0) c12_0 (by decide)
    have nc12_1 := lv_neT (k := 1) (a := 1) c12_1 (by decide)
    have nc12_2 := lv_neT (k := 2) (a := 2) c12_2 (by decide)
    have nc12_3 := lv_neT (k := 3) (a := 3) c12_3 (by decide)
    have nc12_4 := lv_neT (k := 4) (a := 4) c12_4 (by decide)
    have nc12_5 := lv_neT (k := 5) (a := 5) c12_5 (by decide)
    refine aw_tout (tgt := 118) E dX8_told_12 (by omega) (by decide) ?_
    refine aw_bipush (v := (-7)) E dX8_told_118 (by decide) ?_
    replace h := Option.some.inj h
    subst h
    exact aw_iret E dX8_told_120 hr
  ·
    replace h := ip c5 h
    refine aw_bipush (v := (-5)) E dX8_told_8 (by decide) ?_
    replace h := Option.some.inj h
    subst h
    exact aw_iret E dX8_told_10 hr
def FX8_two (a1 : Int32) (a2 : Int32) (a3 : Int32) (M : Mem) : Option (Int32 × Mem) :=
  lt (α := Int32) ((1 : Int32) <<< ((M.1 1 0) &&& 31)) fun x1 =>
  lt (α := Bool) (if (FX8_areCorners a1) = 0 then true else if (FX8_areCorners a2) = 0 then true else false) fun b3 =>
  if b3 = true then
    some ((-2), M)
  else
    lt (α := Bool) (if (a1 &&& (x1 ^^^ (-1))) = 0 then true else if (a2 &&& (x1 ^^^ (-1))) = 0 then true else false) fun b7 =>
    if b7 = true then
      some ((-2), M)
    else
      lt (α := Bool) (if a3 < 0 then true else if a3 ≤ 1 then false else true) fun b11 =>
      if b11 = true then
        some ((-7), M)
      else
        ob (FX8_look 1 512 0 M) fun q15 =>
        ob (FX0_leastTwo a1 a2 (q15.1 1 4) q15) fun q17 =>
        lt (α := Bool) (if q17.1 < 0 then true else if a3 = 0 then true else false) fun b19 =>
        if b19 = true then
          some (q17.1, q17.2)
        else
          ob (FX0_least (a1 ||| a2) q17.2) fun q23 =>
          if 0 ≤ q23 then
            ob (FX0_minutes q23 q17.2) fun q25 =>
            some (q17.1 - q25, q17.2)
          else
            some ((-1), q17.2)
set_option maxHeartbeats 4000000 in
set_option maxRecDepth 100000 in
theorem ctX8_two (l : Launch) (g : CtxG) (a1 : Int32) (a2 : Int32) (a3 : Int32) (M : Mem) (r0 : Int32 × Mem) (h : FX8_two a1 a2 a3 M = some r0) : Ct l (WX g) yX8_two cX8_two 7 (some .int) 6 [.ref (wad (WX g) 0), .int a1, .int a2, .int a3] M (some (.int r0.1), r0.2) := by
  refine Ct.of (by decide) (Nat.le_of_ble_eq_true rfl) (fun Y hY E => ?_)
  have E : EV Y (WX g) cX8_two 7 (some .int) RX8 := E
  have h : FX8_two a1 a2 a3 M = some r0 := h
  unfold FX8_two at h
  show AW Y (WX g) _ 7 6 0 [(0, .ref (wad (WX g) 0)), (1, .int a1), (2, .int a2), (3, .int a3)] [] M
  obtain ⟨r, hr⟩ : ∃ r : Option Value × Mem, r = (some (.int r0.1), r0.2) := ⟨_, rfl⟩
  rw [← hr]
  refine aw_iconst (v := 1) E dX8_two_0 (by decide) ?_
  refine aw_aload_n E dX8_two_1 0 rfl ?_
  refine aw_getR (q := 1) E flX8_12 (Nat.le_of_ble_eq_true rfl) rfl rfl dX8_two_2 ?_
  refine aw_getI E flX8_105 (Nat.le_of_ble_eq_true rfl) rfl rfl dX8_two_5 ?_
  refine aw_ishl E dX8_two_8 ?_
  obtain ⟨x1, e2, h⟩ := lt_e h
  refine aw_nmI e2 ?_
  refine aw_istore (L1 := [(4, .int x1), (0, .ref (wad (WX g) 0)), (1, .int a1), (2, .int a2), (3, .int a3)]) E dX8_two_9 (Nat.le_of_ble_eq_true rfl) rfl ?_
  refine aw_iload_n E dX8_two_11 2 rfl ?_
  refine aw_callSi (S := []) E msX8_areCorners mlX8_184 rfl (ctX8_areCorners (yl Y) g a1  M ) rfl (Nat.le_of_ble_eq_true rfl) (Nat.le_of_ble_eq_true rfl) dX8_two_12 ?_
  obtain ⟨b3, e4, h⟩ := lt_e h
  have J5 : b3 = true → AW Y (WX g) r 7 6 25 [(4, .int x1), (0, .ref (wad (WX g) 0)), (1, .int a1), (2, .int a2), (3, .int a3)] [] M := fun hb => by
    replace h := ip hb h
    refine aw_bipush (v := (-2)) E dX8_two_25 (by decide) ?_
    replace h := Option.some.inj h
    subst h
    exact aw_iret E dX8_two_27 hr
  have J6 : b3 = false → AW Y (WX g) r 7 6 28 [(4, .int x1), (0, .ref (wad (WX g) 0)), (1, .int a1), (2, .int a2), (3, .int a3)] [] M := fun hb => by
    replace h := iq (bf hb) h
    refine aw_iload_n E dX8_two_28 2 rfl ?_
    refine aw_iload E dX8_two_29 0 rfl ?_
    refine aw_iconst (v := (-1)) E dX8_two_31 (by decide) ?_
    refine aw_ixor E dX8_two_32 ?_
    refine aw_iand E dX8_two_33 ?_
    obtain ⟨b7, e8, h⟩ := lt_e h
    have J9 : b7 = true → AW Y (WX g) r 7 6 46 [(4, .int x1), (0, .ref (wad (WX g) 0)), (1, .int a1), (2, .int a2), (3, .int a3)] [] M := fun hb => by
      replace h := ip hb h
      refine aw_bipush (v := (-2)) E dX8_two_46 (by decide) ?_
      replace h := Option.some.inj h
      subst h
      exact aw_iret E dX8_two_48 hr
    have J10 : b7 = false → AW Y (WX g) r 7 6 49 [(4, .int x1), (0, .ref (wad (WX g) 0)), (1, .int a1), (2, .int a2), (3, .int a3)] [] M := fun hb => by
      replace h := iq (bf hb) h
      refine aw_iload_n E dX8_two_49 4 rfl ?_
      obtain ⟨b11, e12, h⟩ := lt_e h
      have J13 : b11 = true → AW Y (WX g) r 7 6 58 [(4, .int x1), (0, .ref (wad (WX g) 0)), (1, .int a1), (2, .int a2), (3, .int a3)] [] M := fun hb => by
        replace h := ip hb h
        refine aw_bipush (v := (-7)) E dX8_two_58 (by decide) ?_
        replace h := Option.some.inj h
        subst h
        exact aw_iret E dX8_two_60 hr
      have J14 : b11 = false → AW Y (WX g) r 7 6 61 [(4, .int x1), (0, .ref (wad (WX g) 0)), (1, .int a1), (2, .int a2), (3, .int a3)] [] M := fun hb => by
        replace h := iq (bf hb) h
        refine aw_aload_n E dX8_two_61 1 rfl ?_
        refine aw_aload_n E dX8_two_62 1 rfl ?_
        refine aw_getR (q := 1) E flX8_12 (Nat.le_of_ble_eq_true rfl) rfl rfl dX8_two_63 ?_
        refine aw_sipush (v := 512) E dX8_two_66 (by decide) ?_
        refine aw_iconst (v := 0) E dX8_two_69 (by decide) ?_
        obtain ⟨q15, e16, h⟩ := bd_e h
        refine aw_callVv (S := []) E mvX8_look mlX8_187 (Nat.le_of_ble_eq_true rfl) rfl rfl rfl (ctX8_look (yl Y) g 1 512 0 set1 M q15 e16) rfl (Nat.le_of_ble_eq_true rfl) (Nat.le_of_ble_eq_true rfl) dX8_two_70 ?_
        refine aw_aload_n E dX8_two_73 1 rfl ?_
        refine aw_getR (q := 37) E flX8_53 (Nat.le_of_ble_eq_true rfl) rfl rfl dX8_two_74 ?_
        refine aw_iload_n E dX8_two_77 2 rfl ?_
        refine aw_iload_n E dX8_two_78 3 rfl ?_
        refine aw_aload_n E dX8_two_79 1 rfl ?_
        refine aw_getR (q := 1) E flX8_12 (Nat.le_of_ble_eq_true rfl) rfl rfl dX8_two_80 ?_
        refine aw_getI E flX8_111 (Nat.le_of_ble_eq_true rfl) rfl rfl dX8_two_83 ?_
        obtain ⟨q17, e18, h⟩ := bd_e h
        refine aw_callVi (S := []) E mvX0_leastTwo mlX8_191 (Nat.le_of_ble_eq_true rfl) rfl rfl rfl (ctX0_leastTwo (yl Y) g a1 a2 (q15.1 1 4)  q15 q17 e18) rfl (Nat.le_of_ble_eq_true rfl) (Nat.le_of_ble_eq_true rfl) dX8_two_86 ?_
        refine aw_istore (L1 := [(5, .int q17.1), (4, .int x1), (0, .ref (wad (WX g) 0)), (1, .int a1), (2, .int a2), (3, .int a3)]) E dX8_two_89 (Nat.le_of_ble_eq_true rfl) rfl ?_
        refine aw_iload E dX8_two_91 0 rfl ?_
        obtain ⟨b19, e20, h⟩ := lt_e h
        have J21 : b19 = true → AW Y (WX g) r 7 6 100 [(5, .int q17.1), (4, .int x1), (0, .ref (wad (WX g) 0)), (1, .int a1), (2, .int a2), (3, .int a3)] [] q17.2 := fun hb => by
          replace h := ip hb h
          refine aw_iload E dX8_two_100 0 rfl ?_
          replace h := Option.some.inj h
          subst h
          exact aw_iret E dX8_two_102 hr
        have J22 : b19 = false → AW Y (WX g) r 7 6 103 [(5, .int q17.1), (4, .int x1), (0, .ref (wad (WX g) 0)), (1, .int a1), (2, .int a2), (3, .int a3)] [] q17.2 := fun hb => by
          replace h := iq (bf hb) h
          refine aw_aload_n E dX8_two_103 2 rfl ?_
          refine aw_getR (q := 37) E flX8_53 (Nat.le_of_ble_eq_true rfl) rfl rfl dX8_two_104 ?_
          refine aw_iload_n E dX8_two_107 3 rfl ?_
          refine aw_iload_n E dX8_two_108 4 rfl ?_
          refine aw_ior E dX8_two_109 ?_
          obtain ⟨q23, e24, h⟩ := bd_e h
          refine aw_callVi (S := []) E mvX0_least mlX8_194 (Nat.le_of_ble_eq_true rfl) rfl rfl rfl (ctX0_least (yl Y) g (a1 ||| a2)  q17.2 q23 e24) rfl (Nat.le_of_ble_eq_true rfl) (Nat.le_of_ble_eq_true rfl) dX8_two_110 ?_
          refine aw_istore (L1 := [(6, .int q23), (5, .int q17.1), (4, .int x1), (0, .ref (wad (WX g) 0)), (1, .int a1), (2, .int a2), (3, .int a3)]) E dX8_two_113 (Nat.le_of_ble_eq_true rfl) rfl ?_
          refine aw_iload E dX8_two_115 0 rfl ?_
          refine aw_if_ge (tgt := 124) E dX8_two_117 rfl (fun c117 => ?_) (fun c117 => ?_)
          ·
            replace h := ip c117 h
            refine aw_iload E dX8_two_124 1 rfl ?_
            refine aw_aload_n E dX8_two_126 3 rfl ?_
            refine aw_getR (q := 37) E flX8_53 (Nat.le_of_ble_eq_true rfl) rfl rfl dX8_two_127 ?_
            refine aw_iload E dX8_two_130 0 rfl ?_
            obtain ⟨q25, e26, h⟩ := bd_e h
            refine aw_callVi (S := [.int q17.1]) E mvX0_minutes mlX8_197 (Nat.le_of_ble_eq_true rfl) rfl rfl rfl (ctX0_minutes (yl Y) g q23  q17.2 q25 e26) rfl (Nat.le_of_ble_eq_true rfl) (Nat.le_of_ble_eq_true rfl) dX8_two_132 ?_
            refine aw_isub E dX8_two_135 ?_
            replace h := Option.some.inj h
            subst h
            exact aw_iret E dX8_two_136 hr
          ·
            replace h := iq c117 h
            refine aw_iconst (v := (-1)) E dX8_two_120 (by decide) ?_
            refine aw_goto (tgt := 136) E dX8_two_121 rfl ?_
            replace h := Option.some.inj h
            subst h
            exact aw_iret E dX8_two_136 hr
        refine aw_if_lt (tgt := 100) E dX8_two_93 rfl (fun c93 => ?_) (fun c93 => ?_)
        ·
          replace e20 := ip c93 e20
          subst e20
          exact J21 rfl
        ·
          replace e20 := iq c93 e20
          refine aw_iload_n E dX8_two_96 5 rfl ?_
          refine aw_if_ne (tgt := 103) E dX8_two_97 rfl (fun c97 => ?_) (fun c97 => ?_)
          ·
            replace e20 := iq c97 e20
            subst e20
            exact J22 rfl
          ·
            replace e20 := ip c97 e20
            subst e20
            exact J21 rfl
      refine aw_if_lt (tgt := 58) E dX8_two_50 rfl (fun c50 => ?_) (fun c50 => ?_)
      ·
        replace e12 := ip c50 e12
        subst e12
        exact J13 rfl
      ·
        replace e12 := iq c50 e12
        refine aw_iload_n E dX8_two_53 4 rfl ?_
        refine aw_iconst (v := 1) E dX8_two_54 (by decide) ?_
        refine aw_icmp_le (tgt := 61) E dX8_two_55 rfl (fun c55 => ?_) (fun c55 => ?_)
        ·
          replace e12 := ip c55 e12
          subst e12
          exact J14 rfl
        ·
          replace e12 := iq c55 e12
          subst e12
          exact J13 rfl
    refine aw_if_eq (tgt := 46) E dX8_two_34 rfl (fun c34 => ?_) (fun c34 => ?_)
    ·
      replace e8 := ip c34 e8
      subst e8
      exact J9 rfl
    ·
      replace e8 := iq c34 e8
      refine aw_iload_n E dX8_two_37 3 rfl ?_
      refine aw_iload E dX8_two_38 0 rfl ?_
      refine aw_iconst (v := (-1)) E dX8_two_40 (by decide) ?_
      refine aw_ixor E dX8_two_41 ?_
      refine aw_iand E dX8_two_42 ?_
      refine aw_if_ne (tgt := 49) E dX8_two_43 rfl (fun c43 => ?_) (fun c43 => ?_)
      ·
        replace e8 := iq c43 e8
        subst e8
        exact J10 rfl
      ·
        replace e8 := ip c43 e8
        subst e8
        exact J9 rfl
  refine aw_if_eq (tgt := 25) E dX8_two_15 rfl (fun c15 => ?_) (fun c15 => ?_)
  ·
    replace e4 := ip c15 e4
    subst e4
    exact J5 rfl
  ·
    replace e4 := iq c15 e4
    refine aw_iload_n E dX8_two_18 3 rfl ?_
    refine aw_callSi (S := []) E msX8_areCorners mlX8_184 rfl (ctX8_areCorners (yl Y) g a2  M ) rfl (Nat.le_of_ble_eq_true rfl) (Nat.le_of_ble_eq_true rfl) dX8_two_19 ?_
    refine aw_if_ne (tgt := 28) E dX8_two_22 rfl (fun c22 => ?_) (fun c22 => ?_)
    ·
      replace e4 := iq c22 e4
      subst e4
      exact J6 rfl
    ·
      replace e4 := ip c22 e4
      subst e4
      exact J5 rfl
def FX8_walk (a1 : Int32) (a2 : Int32) (M : Mem) : Option (Int32 × Mem) :=
  if (FX8_isSheet a1) = 0 then
    some ((-2), M)
  else
    gi a1 4 <|
    if (FX2_isMissing (44 + (Int32.toNatClampNeg a1)) M) = 0 then
      lt (α := Bool) (if a2 < 0 then true else if a2 ≤ 1 then false else true) fun b3 =>
      if b3 = true then
        some ((-7), M)
      else
        gi a1 4 <|
        ob (FX8_follow (44 + (Int32.toNatClampNeg a1)) M) fun q9 =>
        if a2 = 0 then
          some (q9.2.1 42 1, q9.2)
        else
          some (FX4_corner q9.2, q9.2)
    else
      some ((-11), M)
set_option maxHeartbeats 4000000 in
set_option maxRecDepth 100000 in
theorem ctX8_walk (l : Launch) (g : CtxG) (a1 : Int32) (a2 : Int32) (M : Mem) (r0 : Int32 × Mem) (h : FX8_walk a1 a2 M = some r0) : Ct l (WX g) yX8_walk cX8_walk 3 (some .int) 6 [.ref (wad (WX g) 0), .int a1, .int a2] M (some (.int r0.1), r0.2) := by
  refine Ct.of (by decide) (Nat.le_of_ble_eq_true rfl) (fun Y hY E => ?_)
  have E : EV Y (WX g) cX8_walk 3 (some .int) RX8 := E
  have h : FX8_walk a1 a2 M = some r0 := h
  unfold FX8_walk at h
  show AW Y (WX g) _ 3 6 0 [(0, .ref (wad (WX g) 0)), (1, .int a1), (2, .int a2)] [] M
  obtain ⟨r, hr⟩ : ∃ r : Option Value × Mem, r = (some (.int r0.1), r0.2) := ⟨_, rfl⟩
  rw [← hr]
  refine aw_iload_n E dX8_walk_0 1 rfl ?_
  refine aw_callSi (S := []) E msX8_isSheet mlX8_243 rfl (ctX8_isSheet (yl Y) g a1  M ) rfl (Nat.le_of_ble_eq_true rfl) (Nat.le_of_ble_eq_true rfl) dX8_walk_1 ?_
  refine aw_if_ne (tgt := 10) E dX8_walk_4 rfl (fun c4 => ?_) (fun c4 => ?_)
  ·
    replace h := iq c4 h
    refine aw_aload_n E dX8_walk_10 0 rfl ?_
    refine aw_getR (q := 43) E flX8_66 (Nat.le_of_ble_eq_true rfl) rfl rfl dX8_walk_11 ?_
    refine aw_iload_n E dX8_walk_14 1 rfl ?_
    obtain ⟨g1, h⟩ := gi_e h
    refine aw_aldS E (Nat.le_of_ble_eq_true rfl) rfl g1 dX8_walk_15 ?_
    have f2 := sheets_of g1
    refine aw_callVi (S := []) E mvX2_isMissing mlX8_246 f2.1 f2.2.1 rfl rfl (ctX2_isMissing (yl Y) g (44 + (Int32.toNatClampNeg a1)) f2 M ) rfl (Nat.le_of_ble_eq_true rfl) (Nat.le_of_ble_eq_true rfl) dX8_walk_16 ?_
    refine aw_if_eq (tgt := 25) E dX8_walk_19 rfl (fun c19 => ?_) (fun c19 => ?_)
    ·
      replace h := ip c19 h
      refine aw_iload_n E dX8_walk_25 2 rfl ?_
      obtain ⟨b3, e4, h⟩ := lt_e h
      have J5 : b3 = true → AW Y (WX g) r 3 6 34 [(0, .ref (wad (WX g) 0)), (1, .int a1), (2, .int a2)] [] M := fun hb => by
        replace h := ip hb h
        refine aw_bipush (v := (-7)) E dX8_walk_34 (by decide) ?_
        replace h := Option.some.inj h
        subst h
        exact aw_iret E dX8_walk_36 hr
      have J6 : b3 = false → AW Y (WX g) r 3 6 37 [(0, .ref (wad (WX g) 0)), (1, .int a1), (2, .int a2)] [] M := fun hb => by
        replace h := iq (bf hb) h
        refine aw_aload_n E dX8_walk_37 0 rfl ?_
        refine aw_aload_n E dX8_walk_38 0 rfl ?_
        refine aw_getR (q := 43) E flX8_66 (Nat.le_of_ble_eq_true rfl) rfl rfl dX8_walk_39 ?_
        refine aw_iload_n E dX8_walk_42 1 rfl ?_
        obtain ⟨g7, h⟩ := gi_e h
        refine aw_aldS E (Nat.le_of_ble_eq_true rfl) rfl g7 dX8_walk_43 ?_
        have f8 := sheets_of g7
        obtain ⟨q9, e10, h⟩ := bd_e h
        refine aw_callVi (S := []) E mvX8_follow mlX8_250 (Nat.le_of_ble_eq_true rfl) rfl rfl rfl (ctX8_follow (yl Y) g (44 + (Int32.toNatClampNeg a1)) f8 M q9 e10) rfl (Nat.le_of_ble_eq_true rfl) (Nat.le_of_ble_eq_true rfl) dX8_walk_44 ?_
        refine aw_pop E dX8_walk_47 rfl ?_
        refine aw_iload_n E dX8_walk_48 2 rfl ?_
        refine aw_if_ne (tgt := 62) E dX8_walk_49 rfl (fun c49 => ?_) (fun c49 => ?_)
        ·
          replace h := iq c49 h
          refine aw_aload_n E dX8_walk_62 0 rfl ?_
          refine aw_getR (q := 42) E flX8_60 (Nat.le_of_ble_eq_true rfl) rfl rfl dX8_walk_63 ?_
          refine aw_callVi (S := []) E mvX4_corner mlX8_256 (Nat.le_of_ble_eq_true rfl) rfl rfl rfl (ctX4_corner (yl Y) g   q9.2 ) rfl (Nat.le_of_ble_eq_true rfl) (Nat.le_of_ble_eq_true rfl) dX8_walk_66 ?_
          replace h := Option.some.inj h
          subst h
          exact aw_iret E dX8_walk_69 hr
        ·
          replace h := ip c49 h
          refine aw_aload_n E dX8_walk_52 0 rfl ?_
          refine aw_getR (q := 42) E flX8_60 (Nat.le_of_ble_eq_true rfl) rfl rfl dX8_walk_53 ?_
          refine aw_getI E flX8_254 (Nat.le_of_ble_eq_true rfl) rfl rfl dX8_walk_56 ?_
          refine aw_goto (tgt := 69) E dX8_walk_59 rfl ?_
          replace h := Option.some.inj h
          subst h
          exact aw_iret E dX8_walk_69 hr
      refine aw_if_lt (tgt := 34) E dX8_walk_26 rfl (fun c26 => ?_) (fun c26 => ?_)
      ·
        replace e4 := ip c26 e4
        subst e4
        exact J5 rfl
      ·
        replace e4 := iq c26 e4
        refine aw_iload_n E dX8_walk_29 2 rfl ?_
        refine aw_iconst (v := 1) E dX8_walk_30 (by decide) ?_
        refine aw_icmp_le (tgt := 37) E dX8_walk_31 rfl (fun c31 => ?_) (fun c31 => ?_)
        ·
          replace e4 := ip c31 e4
          subst e4
          exact J6 rfl
        ·
          replace e4 := iq c31 e4
          subst e4
          exact J5 rfl
    ·
      replace h := iq c19 h
      refine aw_bipush (v := (-11)) E dX8_walk_22 (by decide) ?_
      replace h := Option.some.inj h
      subst h
      exact aw_iret E dX8_walk_24 hr
  ·
    replace h := ip c4 h
    refine aw_bipush (v := (-2)) E dX8_walk_7 (by decide) ?_
    replace h := Option.some.inj h
    subst h
    exact aw_iret E dX8_walk_9 hr
