/-! PRINTED by wip/gen: pure functions of the methods, and that the machine does what they say -/
def FX9_isBridge (a1 : Int32) (M : Mem) : Option (Int32) :=
  gi a1 13 <|
  ob (α := Bool) (if (M.1 1 (Int32.toNatClampNeg a1)) = 3 then
    some true
  else
    gi a1 13 <|
    if (M.1 1 (Int32.toNatClampNeg a1)) = 5 then some true else some false) fun b2 =>
  if b2 = true then
    some 1
  else
    some 0
set_option maxHeartbeats 4000000 in
set_option maxRecDepth 100000 in
theorem ctX9_isBridge (l : Launch) (g : CtxG) (a1 : Int32) (M : Mem) (r0 : Int32) (h : FX9_isBridge a1 M = some r0) : Ct l (WY g) yX9_isBridge cX9_isBridge 2 (some .boolean) 1 [.ref (wad (WY g) 0), .int a1] M (some (.int r0), M) := by
  refine Ct.of (by decide) (Nat.le_of_ble_eq_true rfl) (fun Y hY E => ?_)
  have E : EV Y (WY g) cX9_isBridge 2 (some .boolean) RX9 := E
  have h : FX9_isBridge a1 M = some r0 := h
  unfold FX9_isBridge at h
  show AW Y (WY g) _ 2 1 0 [(0, .ref (wad (WY g) 0)), (1, .int a1)] [] M
  obtain ⟨r, hr⟩ : ∃ r : Option Value × Mem, r = (some (.int r0), M) := ⟨_, rfl⟩
  rw [← hr]
  refine aw_aload_n E dX9_isBridge_0 0 rfl ?_
  refine aw_getR (q := 1) E flX9_13 (Nat.le_of_ble_eq_true rfl) rfl rfl dX9_isBridge_1 ?_
  refine aw_iload_n E dX9_isBridge_4 1 rfl ?_
  obtain ⟨g1, h⟩ := gi_e h
  refine aw_iald E (Nat.le_of_ble_eq_true rfl) rfl g1 dX9_isBridge_5 ?_
  refine aw_iconst (v := 3) E dX9_isBridge_6 (by decide) ?_
  obtain ⟨b2, e3, h⟩ := bd_e h
  have J4 : b2 = true → AW Y (WY g) r 2 1 20 [(0, .ref (wad (WY g) 0)), (1, .int a1)] [] M := fun hb => by
    replace h := ip hb h
    refine aw_iconst (v := 1) E dX9_isBridge_20 (by decide) ?_
    refine aw_goto (tgt := 25) E dX9_isBridge_21 rfl ?_
    replace h := Option.some.inj h
    subst h
    exact aw_zret E (by decide) dX9_isBridge_25 hr
  have J5 : b2 = false → AW Y (WY g) r 2 1 24 [(0, .ref (wad (WY g) 0)), (1, .int a1)] [] M := fun hb => by
    replace h := iq (bf hb) h
    refine aw_iconst (v := 0) E dX9_isBridge_24 (by decide) ?_
    replace h := Option.some.inj h
    subst h
    exact aw_zret E (by decide) dX9_isBridge_25 hr
  refine aw_icmp_eq (tgt := 20) E dX9_isBridge_7 rfl (fun c7 => ?_) (fun c7 => ?_)
  ·
    replace e3 := ip c7 e3
    replace e3 := Option.some.inj e3
    subst e3
    exact J4 rfl
  ·
    replace e3 := iq c7 e3
    refine aw_aload_n E dX9_isBridge_10 0 rfl ?_
    refine aw_getR (q := 1) E flX9_13 (Nat.le_of_ble_eq_true rfl) rfl rfl dX9_isBridge_11 ?_
    refine aw_iload_n E dX9_isBridge_14 1 rfl ?_
    obtain ⟨g6, e3⟩ := gi_e e3
    refine aw_iald E (Nat.le_of_ble_eq_true rfl) rfl g6 dX9_isBridge_15 ?_
    refine aw_iconst (v := 5) E dX9_isBridge_16 (by decide) ?_
    refine aw_icmp_ne (tgt := 24) E dX9_isBridge_17 rfl (fun c17 => ?_) (fun c17 => ?_)
    ·
      replace e3 := iq c17 e3
      replace e3 := Option.some.inj e3
      subst e3
      exact J5 rfl
    ·
      replace e3 := ip c17 e3
      replace e3 := Option.some.inj e3
      subst e3
      exact J4 rfl
def FX9_spendsOf_L6 : Nat → Int32 → Int32 → Int32 → Mem → Option (Int32)
  | 0, _, _, _, _ => none
  | f + 1, p1, p2, p3, M =>
    lt (α := Bool) (if (M.1 0 3) ≤ p3 then false else if (M.1 0 3) ≤ p1 then false else true) fun b101 =>
    if b101 = true then
      ob (FX9_isBridge p1 M) fun q105 =>
      ob (α := Bool) (if q105 = 0 then
        some false
      else
        ob (FX9_isBridge p3 M) fun q118 =>
        if q118 = 0 then
          some false
        else
          gi p3 13 <|
          gi p1 13 <|
          if (M.1 5 (Int32.toNatClampNeg p3)) = (M.1 5 (Int32.toNatClampNeg p1)) then some true else some false) fun b107 =>
      lt (α := Int32) (if b107 = true then
        (1 : Int32) <<< (p3 &&& 31)
      else
        0) fun q109 =>
      lt (α := Int32) (p2 ||| q109) fun x112 =>
      lt (α := Int32) (p3 + 1) fun x114 =>
      FX9_spendsOf_L6 f p1 x112 x114 M
    else
      some p2
def FX9_spendsOf (a1 : Int32) (M : Mem) : Option (Int32) :=
  lt (α := Int32) ((1 : Int32) <<< (a1 &&& 31)) fun x1 =>
  ob (FX9_spendsOf_L6 FU a1 x1 0 M) fun q3 =>
  some q3
set_option maxHeartbeats 4000000 in
set_option maxRecDepth 100000 in
theorem lpX9_spendsOf_6 {Y : CtxM} {g : CtxG} {r : Option Value × Mem} (E : EV Y (WY g) cX9_spendsOf 4 (some .int) RX9) (p1 : Int32) : ∀ (f : Nat) (p2 : Int32) (p3 : Int32) (M : Mem) (q : Int32), FX9_spendsOf_L6 f p1 p2 p3 M = some q → AW Y (WY g) r 4 2 69 [(2, .int q)] [] M → AW Y (WY g) r 4 2 6 [(0, .ref (wad (WY g) 0)), (1, .int p1), (2, .int p2), (3, .int p3)] [] M := by
  intro f
  induction f with
  | zero => intro p2 p3 M q hh; exact absurd hh (fun z => nomatch (show (none : Option (Int32)) = some q from z))
  | succ f ih =>
    intro p2 p3 M q hh kx
    rw [FX9_spendsOf_L6] at hh
    refine aw_iload_n E dX9_spendsOf_6 3 rfl ?_
    refine aw_aload_n E dX9_spendsOf_7 0 rfl ?_
    refine aw_getI E flX9_92 (Nat.le_of_ble_eq_true rfl) rfl rfl dX9_spendsOf_8 ?_
    obtain ⟨b101, e102, hh⟩ := lt_e hh
    have J103 : b101 = true → AW Y (WY g) r 4 2 22 [(0, .ref (wad (WY g) 0)), (1, .int p1), (2, .int p2), (3, .int p3)] [] M := fun hb => by
      replace hh := ip hb hh
      refine aw_iload_n E dX9_spendsOf_22 2 rfl ?_
      refine aw_aload_n E dX9_spendsOf_23 0 rfl ?_
      refine aw_iload_n E dX9_spendsOf_24 1 rfl ?_
      obtain ⟨q105, e106, hh⟩ := bd_e hh
      refine aw_callVi (S := [.int p2]) E mvX9_isBridge mlX9_184 (Nat.le_of_ble_eq_true rfl) rfl rfl rfl (ctX9_isBridge (yl Y) g p1  M q105 e106) rfl (Nat.le_of_ble_eq_true rfl) (Nat.le_of_ble_eq_true rfl) dX9_spendsOf_25 ?_
      obtain ⟨b107, e108, hh⟩ := bd_e hh
      obtain ⟨q109, e110, hh⟩ := lt_e hh
      have J111 : AW Y (WY g) r 4 2 61 [(0, .ref (wad (WY g) 0)), (1, .int p1), (3, .int p3)] [.int q109, .int p2] M := by
        refine aw_ior E dX9_spendsOf_61 ?_
        obtain ⟨x112, e113, hh⟩ := lt_e hh
        refine aw_nmI e113 ?_
        refine aw_istore_n (L1 := [(2, .int x112), (0, .ref (wad (WY g) 0)), (1, .int p1), (3, .int p3)]) E dX9_spendsOf_62 (Nat.le_of_ble_eq_true rfl) rfl ?_
        obtain ⟨x114, e115, hh⟩ := lt_e hh
        refine aw_iinc (v := x114) (L1 := [(3, .int x114), (2, .int x112), (0, .ref (wad (WY g) 0)), (1, .int p1)]) E dX9_spendsOf_63 3 rfl e115 (Nat.le_of_ble_eq_true rfl) rfl ?_
        refine aw_goto (tgt := 6) E dX9_spendsOf_66 rfl ?_
        refine aw_sub (L1 := [(0, .ref (wad (WY g) 0)), (1, .int p1), (2, .int x112), (3, .int x114)]) [2, 3, 1, 0] rfl ?_
        exact ih x112 x114 M _ hh kx
      have J116 : b107 = true → AW Y (WY g) r 4 2 54 [(0, .ref (wad (WY g) 0)), (1, .int p1), (2, .int p2), (3, .int p3)] [.int p2] M := fun hb => by
        replace e110 := ip hb e110
        refine aw_iconst (v := 1) E dX9_spendsOf_54 (by decide) ?_
        refine aw_iload_n E dX9_spendsOf_55 3 rfl ?_
        refine aw_ishl E dX9_spendsOf_56 ?_
        refine aw_goto (tgt := 61) E dX9_spendsOf_57 rfl ?_
        refine aw_sub (L1 := [(0, .ref (wad (WY g) 0)), (1, .int p1), (3, .int p3)]) [0, 1, 3] rfl ?_
        subst e110
        exact J111
      have J117 : b107 = false → AW Y (WY g) r 4 2 60 [(0, .ref (wad (WY g) 0)), (1, .int p1), (2, .int p2), (3, .int p3)] [.int p2] M := fun hb => by
        replace e110 := iq (bf hb) e110
        refine aw_iconst (v := 0) E dX9_spendsOf_60 (by decide) ?_
        refine aw_sub (L1 := [(0, .ref (wad (WY g) 0)), (1, .int p1), (3, .int p3)]) [0, 1, 3] rfl ?_
        subst e110
        exact J111
      refine aw_if_eq (tgt := 60) E dX9_spendsOf_28 rfl (fun c28 => ?_) (fun c28 => ?_)
      ·
        replace e108 := ip c28 e108
        replace e108 := Option.some.inj e108
        subst e108
        exact J117 rfl
      ·
        replace e108 := iq c28 e108
        refine aw_aload_n E dX9_spendsOf_31 0 rfl ?_
        refine aw_iload_n E dX9_spendsOf_32 3 rfl ?_
        obtain ⟨q118, e119, e108⟩ := bd_e e108
        refine aw_callVi (S := [.int p2]) E mvX9_isBridge mlX9_184 (Nat.le_of_ble_eq_true rfl) rfl rfl rfl (ctX9_isBridge (yl Y) g p3  M q118 e119) rfl (Nat.le_of_ble_eq_true rfl) (Nat.le_of_ble_eq_true rfl) dX9_spendsOf_33 ?_
        refine aw_if_eq (tgt := 60) E dX9_spendsOf_36 rfl (fun c36 => ?_) (fun c36 => ?_)
        ·
          replace e108 := ip c36 e108
          replace e108 := Option.some.inj e108
          subst e108
          exact J117 rfl
        ·
          replace e108 := iq c36 e108
          refine aw_aload_n E dX9_spendsOf_39 0 rfl ?_
          refine aw_getR (q := 5) E flX9_26 (Nat.le_of_ble_eq_true rfl) rfl rfl dX9_spendsOf_40 ?_
          refine aw_iload_n E dX9_spendsOf_43 3 rfl ?_
          obtain ⟨g120, e108⟩ := gi_e e108
          refine aw_iald E (Nat.le_of_ble_eq_true rfl) rfl g120 dX9_spendsOf_44 ?_
          refine aw_aload_n E dX9_spendsOf_45 0 rfl ?_
          refine aw_getR (q := 5) E flX9_26 (Nat.le_of_ble_eq_true rfl) rfl rfl dX9_spendsOf_46 ?_
          refine aw_iload_n E dX9_spendsOf_49 1 rfl ?_
          obtain ⟨g121, e108⟩ := gi_e e108
          refine aw_iald E (Nat.le_of_ble_eq_true rfl) rfl g121 dX9_spendsOf_50 ?_
          refine aw_icmp_ne (tgt := 60) E dX9_spendsOf_51 rfl (fun c51 => ?_) (fun c51 => ?_)
          ·
            replace e108 := iq c51 e108
            replace e108 := Option.some.inj e108
            subst e108
            exact J117 rfl
          ·
            replace e108 := ip c51 e108
            replace e108 := Option.some.inj e108
            subst e108
            exact J116 rfl
    have J104 : b101 = false → AW Y (WY g) r 4 2 69 [(0, .ref (wad (WY g) 0)), (1, .int p1), (2, .int p2), (3, .int p3)] [] M := fun hb => by
      replace hh := iq (bf hb) hh
      refine aw_sub (L1 := [(2, .int p2)]) [2] rfl ?_
      replace hh := Option.some.inj hh
      subst hh
      exact kx
    refine aw_icmp_ge (tgt := 69) E dX9_spendsOf_11 rfl (fun c11 => ?_) (fun c11 => ?_)
    ·
      replace e102 := ip c11 e102
      subst e102
      exact J104 rfl
    ·
      replace e102 := iq c11 e102
      refine aw_iload_n E dX9_spendsOf_14 1 rfl ?_
      refine aw_aload_n E dX9_spendsOf_15 0 rfl ?_
      refine aw_getI E flX9_92 (Nat.le_of_ble_eq_true rfl) rfl rfl dX9_spendsOf_16 ?_
      refine aw_icmp_ge (tgt := 69) E dX9_spendsOf_19 rfl (fun c19 => ?_) (fun c19 => ?_)
      ·
        replace e102 := ip c19 e102
        subst e102
        exact J104 rfl
      ·
        replace e102 := iq c19 e102
        subst e102
        exact J103 rfl
set_option maxHeartbeats 4000000 in
set_option maxRecDepth 100000 in
theorem ctX9_spendsOf (l : Launch) (g : CtxG) (a1 : Int32) (M : Mem) (r0 : Int32) (h : FX9_spendsOf a1 M = some r0) : Ct l (WY g) yX9_spendsOf cX9_spendsOf 4 (some .int) 2 [.ref (wad (WY g) 0), .int a1] M (some (.int r0), M) := by
  refine Ct.of (by decide) (Nat.le_of_ble_eq_true rfl) (fun Y hY E => ?_)
  have E : EV Y (WY g) cX9_spendsOf 4 (some .int) RX9 := E
  have h : FX9_spendsOf a1 M = some r0 := h
  unfold FX9_spendsOf at h
  show AW Y (WY g) _ 4 2 0 [(0, .ref (wad (WY g) 0)), (1, .int a1)] [] M
  obtain ⟨r, hr⟩ : ∃ r : Option Value × Mem, r = (some (.int r0), M) := ⟨_, rfl⟩
  rw [← hr]
  refine aw_iconst (v := 1) E dX9_spendsOf_0 (by decide) ?_
  refine aw_iload_n E dX9_spendsOf_1 1 rfl ?_
  refine aw_ishl E dX9_spendsOf_2 ?_
  obtain ⟨x1, e2, h⟩ := lt_e h
  refine aw_nmI e2 ?_
  refine aw_istore_n (L1 := [(2, .int x1), (0, .ref (wad (WY g) 0)), (1, .int a1)]) E dX9_spendsOf_3 (Nat.le_of_ble_eq_true rfl) rfl ?_
  refine aw_iconst (v := 0) E dX9_spendsOf_4 (by decide) ?_
  refine aw_istore_n (L1 := [(3, .int 0), (2, .int x1), (0, .ref (wad (WY g) 0)), (1, .int a1)]) E dX9_spendsOf_5 (Nat.le_of_ble_eq_true rfl) rfl ?_
  obtain ⟨q3, e4, h⟩ := bd_e h
  refine aw_sub (L1 := [(0, .ref (wad (WY g) 0)), (1, .int a1), (2, .int x1), (3, .int 0)]) [2, 3, 1, 0] rfl ?_
  refine lpX9_spendsOf_6 E   a1 FU x1 0 M q3 e4 ?_
  refine aw_iload_n E dX9_spendsOf_69 0 rfl ?_
  replace h := Option.some.inj h
  subst h
  exact aw_iret E dX9_spendsOf_70 hr
def FX9_namesOf (a1 : Int32) (a2 : Int32) (M : Mem) : Option (Mem) :=
  gi a1 13 <|
  gi 0 6 <|
  lt (wr M 16 (Int32.toNatClampNeg 0) (M.1 4 (Int32.toNatClampNeg a1))) fun M3 =>
  gi a1 13 <|
  gi 1 6 <|
  lt (wr M3 16 (Int32.toNatClampNeg 1) (M3.1 5 (Int32.toNatClampNeg a1))) fun M7 =>
  gi 2 6 <|
  lt (wr M7 16 (Int32.toNatClampNeg 2) (M7.1 0 1)) fun M10 =>
  gi 3 6 <|
  lt (wr M10 16 (Int32.toNatClampNeg 3) a2) fun M13 =>
  gi a1 13 <|
  ob (α := Int32) (if (M13.1 2 (Int32.toNatClampNeg a1)) = a2 then
    gi a1 13 <|
    some (M13.1 3 (Int32.toNatClampNeg a1))
  else
    gi a1 13 <|
    some (M13.1 2 (Int32.toNatClampNeg a1))) fun q16 =>
  gi 4 6 <|
  lt (wr M13 16 (Int32.toNatClampNeg 4) q16) fun M20 =>
  gi 5 6 <|
  lt (wr M20 16 (Int32.toNatClampNeg 5) a1) fun M23 =>
  some M23
set_option maxHeartbeats 4000000 in
set_option maxRecDepth 100000 in
theorem ctX9_namesOf (l : Launch) (g : CtxG) (a1 : Int32) (a2 : Int32) (M : Mem) (r0 : Mem) (h : FX9_namesOf a1 a2 M = some r0) : Ct l (WY g) yX9_namesOf cX9_namesOf 3 none 1 [.ref (wad (WY g) 0), .int a1, .int a2] M (none, r0) := by
  refine Ct.of (by decide) (Nat.le_of_ble_eq_true rfl) (fun Y hY E => ?_)
  have E : EV Y (WY g) cX9_namesOf 3 none RX9 := E
  have h : FX9_namesOf a1 a2 M = some r0 := h
  unfold FX9_namesOf at h
  show AW Y (WY g) _ 3 1 0 [(0, .ref (wad (WY g) 0)), (1, .int a1), (2, .int a2)] [] M
  obtain ⟨r, hr⟩ : ∃ r : Option Value × Mem, r = (none, r0) := ⟨_, rfl⟩
  rw [← hr]
  refine aw_aload_n E dX9_namesOf_0 0 rfl ?_
  refine aw_getR (q := 16) E flX9_59 (Nat.le_of_ble_eq_true rfl) rfl rfl dX9_namesOf_1 ?_
  refine aw_iconst (v := 0) E dX9_namesOf_4 (by decide) ?_
  refine aw_aload_n E dX9_namesOf_5 0 rfl ?_
  refine aw_getR (q := 4) E flX9_23 (Nat.le_of_ble_eq_true rfl) rfl rfl dX9_namesOf_6 ?_
  refine aw_iload_n E dX9_namesOf_9 1 rfl ?_
  obtain ⟨g1, h⟩ := gi_e h
  refine aw_iald E (Nat.le_of_ble_eq_true rfl) rfl g1 dX9_namesOf_10 ?_
  obtain ⟨g2, h⟩ := gi_e h
  obtain ⟨M3, e4, h⟩ := lt_e h
  refine aw_iast1 e4 E (Nat.le_of_ble_eq_true rfl) rfl g2 dX9_namesOf_11 ?_
  refine aw_aload_n E dX9_namesOf_12 0 rfl ?_
  refine aw_getR (q := 16) E flX9_59 (Nat.le_of_ble_eq_true rfl) rfl rfl dX9_namesOf_13 ?_
  refine aw_iconst (v := 1) E dX9_namesOf_16 (by decide) ?_
  refine aw_aload_n E dX9_namesOf_17 0 rfl ?_
  refine aw_getR (q := 5) E flX9_26 (Nat.le_of_ble_eq_true rfl) rfl rfl dX9_namesOf_18 ?_
  refine aw_iload_n E dX9_namesOf_21 1 rfl ?_
  obtain ⟨g5, h⟩ := gi_e h
  refine aw_iald E (Nat.le_of_ble_eq_true rfl) rfl g5 dX9_namesOf_22 ?_
  obtain ⟨g6, h⟩ := gi_e h
  obtain ⟨M7, e8, h⟩ := lt_e h
  refine aw_iast1 e8 E (Nat.le_of_ble_eq_true rfl) rfl g6 dX9_namesOf_23 ?_
  refine aw_aload_n E dX9_namesOf_24 0 rfl ?_
  refine aw_getR (q := 16) E flX9_59 (Nat.le_of_ble_eq_true rfl) rfl rfl dX9_namesOf_25 ?_
  refine aw_iconst (v := 2) E dX9_namesOf_28 (by decide) ?_
  refine aw_aload_n E dX9_namesOf_29 0 rfl ?_
  refine aw_getI E flX9_7 (Nat.le_of_ble_eq_true rfl) rfl rfl dX9_namesOf_30 ?_
  obtain ⟨g9, h⟩ := gi_e h
  obtain ⟨M10, e11, h⟩ := lt_e h
  refine aw_iast1 e11 E (Nat.le_of_ble_eq_true rfl) rfl g9 dX9_namesOf_33 ?_
  refine aw_aload_n E dX9_namesOf_34 0 rfl ?_
  refine aw_getR (q := 16) E flX9_59 (Nat.le_of_ble_eq_true rfl) rfl rfl dX9_namesOf_35 ?_
  refine aw_iconst (v := 3) E dX9_namesOf_38 (by decide) ?_
  refine aw_iload_n E dX9_namesOf_39 2 rfl ?_
  obtain ⟨g12, h⟩ := gi_e h
  obtain ⟨M13, e14, h⟩ := lt_e h
  refine aw_iast1 e14 E (Nat.le_of_ble_eq_true rfl) rfl g12 dX9_namesOf_40 ?_
  refine aw_aload_n E dX9_namesOf_41 0 rfl ?_
  refine aw_getR (q := 16) E flX9_59 (Nat.le_of_ble_eq_true rfl) rfl rfl dX9_namesOf_42 ?_
  refine aw_iconst (v := 4) E dX9_namesOf_45 (by decide) ?_
  refine aw_aload_n E dX9_namesOf_46 0 rfl ?_
  refine aw_getR (q := 2) E flX9_17 (Nat.le_of_ble_eq_true rfl) rfl rfl dX9_namesOf_47 ?_
  refine aw_iload_n E dX9_namesOf_50 1 rfl ?_
  obtain ⟨g15, h⟩ := gi_e h
  refine aw_iald E (Nat.le_of_ble_eq_true rfl) rfl g15 dX9_namesOf_51 ?_
  refine aw_iload_n E dX9_namesOf_52 2 rfl ?_
  obtain ⟨q16, e17, h⟩ := bd_e h
  have J18 : AW Y (WY g) r 3 1 71 [(0, .ref (wad (WY g) 0)), (1, .int a1)] [.int q16, .int 4, .ref (wad (WY g) 16)] M13 := by
    obtain ⟨g19, h⟩ := gi_e h
    obtain ⟨M20, e21, h⟩ := lt_e h
    refine aw_iast1 e21 E (Nat.le_of_ble_eq_true rfl) rfl g19 dX9_namesOf_71 ?_
    refine aw_aload_n E dX9_namesOf_72 0 rfl ?_
    refine aw_getR (q := 16) E flX9_59 (Nat.le_of_ble_eq_true rfl) rfl rfl dX9_namesOf_73 ?_
    refine aw_iconst (v := 5) E dX9_namesOf_76 (by decide) ?_
    refine aw_iload_n E dX9_namesOf_77 1 rfl ?_
    obtain ⟨g22, h⟩ := gi_e h
    obtain ⟨M23, e24, h⟩ := lt_e h
    refine aw_iast1 e24 E (Nat.le_of_ble_eq_true rfl) rfl g22 dX9_namesOf_78 ?_
    replace h := Option.some.inj h
    subst h
    exact aw_vret E dX9_namesOf_79 hr
  refine aw_icmp_ne (tgt := 65) E dX9_namesOf_53 rfl (fun c53 => ?_) (fun c53 => ?_)
  ·
    replace e17 := iq c53 e17
    refine aw_aload_n E dX9_namesOf_65 0 rfl ?_
    refine aw_getR (q := 2) E flX9_17 (Nat.le_of_ble_eq_true rfl) rfl rfl dX9_namesOf_66 ?_
    refine aw_iload_n E dX9_namesOf_69 1 rfl ?_
    obtain ⟨g25, e17⟩ := gi_e e17
    refine aw_iald E (Nat.le_of_ble_eq_true rfl) rfl g25 dX9_namesOf_70 ?_
    refine aw_sub (L1 := [(0, .ref (wad (WY g) 0)), (1, .int a1)]) [0, 1] rfl ?_
    replace e17 := Option.some.inj e17
    subst e17
    exact J18
  ·
    replace e17 := ip c53 e17
    refine aw_aload_n E dX9_namesOf_56 0 rfl ?_
    refine aw_getR (q := 3) E flX9_20 (Nat.le_of_ble_eq_true rfl) rfl rfl dX9_namesOf_57 ?_
    refine aw_iload_n E dX9_namesOf_60 1 rfl ?_
    obtain ⟨g26, e17⟩ := gi_e e17
    refine aw_iald E (Nat.le_of_ble_eq_true rfl) rfl g26 dX9_namesOf_61 ?_
    refine aw_goto (tgt := 71) E dX9_namesOf_62 rfl ?_
    refine aw_sub (L1 := [(0, .ref (wad (WY g) 0)), (1, .int a1)]) [0, 1] rfl ?_
    replace e17 := Option.some.inj e17
    subst e17
    exact J18
def FX9_bothOf (a0 : Int32) (a1 : Int32) (a2 : Int32) : Int32 :=
  if a0 = 11 then
    lt (α := Bool) (if a1 = 0 then if a2 = 0 then false else true else true) fun b1 =>
    if b1 = true then
      1
    else
      0
  else if a0 = 12 then
    lt (α := Bool) (if a1 = 0 then false else if a2 = 0 then false else true) fun b5 =>
    if b5 = true then
      1
    else
      0
  else if a0 = 13 then
    a1 * a2
  else if a0 = 14 then
    if a2 ≤ a1 then
      0
    else
      1
  else if a0 = 15 then
    if a1 = a2 then
      1
    else
      0
  else if a0 = 16 then
    a1 + a2
  else if a0 = 17 then
    a1 - a2
  else 
    a1 * a2
set_option maxHeartbeats 4000000 in
set_option maxRecDepth 100000 in
theorem ctX9_bothOf (l : Launch) (g : CtxG) (a0 : Int32) (a1 : Int32) (a2 : Int32) (M : Mem) : Ct l (WY g) yX9_bothOf cX9_bothOf 3 (some .int) 1 [.int a0, .int a1, .int a2] M (some (.int (FX9_bothOf a0 a1 a2)), M) := by
  obtain ⟨r0, h⟩ : ∃ r0, FX9_bothOf a0 a1 a2 = r0 := ⟨_, rfl⟩
  rw [h]
  refine Ct.of (by decide) (Nat.le_of_ble_eq_true rfl) (fun Y hY E => ?_)
  have E : EV Y (WY g) cX9_bothOf 3 (some .int) RX9 := E
  --generalize hr : ((some (Value.int r0), M) : Option Value × Mem) = r
  have h : FX9_bothOf a0 a1 a2 = r0 := h
  unfold FX9_bothOf at h
  show AW Y (WY g) _ 3 1 0 [(0, .int a0), (1, .int a1), (2, .int a2)] [] M
  obtain ⟨r, hr⟩ : ∃ r : Option Value × Mem, r = (some (.int r0), M) := ⟨_, rfl⟩
  rw [← hr]
  refine aw_iload_n E dX9_bothOf_0 0 rfl ?_
  by_cases c1_11 : a0 = 11
  ·
    replace h := ip c1_11 h
    refine aw_tin (tgt := 44) (off := 43) E dX9_bothOf_1 (by rw [c1_11]; decide) (by rw [c1_11]; decide) (by rw [c1_11]; decide) (by decide) ?_
    refine aw_iload_n E dX9_bothOf_44 1 rfl ?_
    obtain ⟨b1, e2, h⟩ := lt_e h
    have J3 : b1 = true → AW Y (WY g) r 3 1 52 [(0, .int a0), (1, .int a1), (2, .int a2)] [] M := fun hb => by
      replace h := ip hb h
      refine aw_iconst (v := 1) E dX9_bothOf_52 (by decide) ?_
      refine aw_goto (tgt := 57) E dX9_bothOf_53 rfl ?_
      subst h
      exact aw_iret E dX9_bothOf_57 hr
    have J4 : b1 = false → AW Y (WY g) r 3 1 56 [(0, .int a0), (1, .int a1), (2, .int a2)] [] M := fun hb => by
      replace h := iq (bf hb) h
      refine aw_iconst (v := 0) E dX9_bothOf_56 (by decide) ?_
      subst h
      exact aw_iret E dX9_bothOf_57 hr
    refine aw_if_ne (tgt := 52) E dX9_bothOf_45 rfl (fun c45 => ?_) (fun c45 => ?_)
    ·
      replace e2 := iq c45 e2
      subst e2
      exact J3 rfl
    ·
      replace e2 := ip c45 e2
      refine aw_iload_n E dX9_bothOf_48 2 rfl ?_
      refine aw_if_eq (tgt := 56) E dX9_bothOf_49 rfl (fun c49 => ?_) (fun c49 => ?_)
      ·
        replace e2 := ip c49 e2
        subst e2
        exact J4 rfl
      ·
        replace e2 := iq c49 e2
        subst e2
        exact J3 rfl
  replace h := iq c1_11 h
  by_cases c1_12 : a0 = 12
  ·
    replace h := ip c1_12 h
    refine aw_tin (tgt := 58) (off := 57) E dX9_bothOf_1 (by rw [c1_12]; decide) (by rw [c1_12]; decide) (by rw [c1_12]; decide) (by decide) ?_
    refine aw_iload_n E dX9_bothOf_58 1 rfl ?_
    obtain ⟨b5, e6, h⟩ := lt_e h
    have J7 : b5 = true → AW Y (WY g) r 3 1 66 [(0, .int a0), (1, .int a1), (2, .int a2)] [] M := fun hb => by
      replace h := ip hb h
      refine aw_iconst (v := 1) E dX9_bothOf_66 (by decide) ?_
      refine aw_goto (tgt := 71) E dX9_bothOf_67 rfl ?_
      subst h
      exact aw_iret E dX9_bothOf_71 hr
    have J8 : b5 = false → AW Y (WY g) r 3 1 70 [(0, .int a0), (1, .int a1), (2, .int a2)] [] M := fun hb => by
      replace h := iq (bf hb) h
      refine aw_iconst (v := 0) E dX9_bothOf_70 (by decide) ?_
      subst h
      exact aw_iret E dX9_bothOf_71 hr
    refine aw_if_eq (tgt := 70) E dX9_bothOf_59 rfl (fun c59 => ?_) (fun c59 => ?_)
    ·
      replace e6 := ip c59 e6
      subst e6
      exact J8 rfl
    ·
      replace e6 := iq c59 e6
      refine aw_iload_n E dX9_bothOf_62 2 rfl ?_
      refine aw_if_eq (tgt := 70) E dX9_bothOf_63 rfl (fun c63 => ?_) (fun c63 => ?_)
      ·
        replace e6 := ip c63 e6
        subst e6
        exact J8 rfl
      ·
        replace e6 := iq c63 e6
        subst e6
        exact J7 rfl
  replace h := iq c1_12 h
  by_cases c1_13 : a0 = 13
  ·
    replace h := ip c1_13 h
    refine aw_tin (tgt := 102) (off := 101) E dX9_bothOf_1 (by rw [c1_13]; decide) (by rw [c1_13]; decide) (by rw [c1_13]; decide) (by decide) ?_
    refine aw_iload_n E dX9_bothOf_102 1 rfl ?_
    refine aw_iload_n E dX9_bothOf_103 2 rfl ?_
    refine aw_imul E dX9_bothOf_104 ?_
    subst h
    exact aw_iret E dX9_bothOf_105 hr
  replace h := iq c1_13 h
  by_cases c1_14 : a0 = 14
  ·
    replace h := ip c1_14 h
    refine aw_tin (tgt := 72) (off := 71) E dX9_bothOf_1 (by rw [c1_14]; decide) (by rw [c1_14]; decide) (by rw [c1_14]; decide) (by decide) ?_
    refine aw_iload_n E dX9_bothOf_72 1 rfl ?_
    refine aw_iload_n E dX9_bothOf_73 2 rfl ?_
    refine aw_icmp_ge (tgt := 81) E dX9_bothOf_74 rfl (fun c74 => ?_) (fun c74 => ?_)
    ·
      replace h := ip c74 h
      refine aw_iconst (v := 0) E dX9_bothOf_81 (by decide) ?_
      subst h
      exact aw_iret E dX9_bothOf_82 hr
    ·
      replace h := iq c74 h
      refine aw_iconst (v := 1) E dX9_bothOf_77 (by decide) ?_
      refine aw_goto (tgt := 82) E dX9_bothOf_78 rfl ?_
      subst h
      exact aw_iret E dX9_bothOf_82 hr
  replace h := iq c1_14 h
  by_cases c1_15 : a0 = 15
  ·
    replace h := ip c1_15 h
    refine aw_tin (tgt := 83) (off := 82) E dX9_bothOf_1 (by rw [c1_15]; decide) (by rw [c1_15]; decide) (by rw [c1_15]; decide) (by decide) ?_
    refine aw_iload_n E dX9_bothOf_83 1 rfl ?_
    refine aw_iload_n E dX9_bothOf_84 2 rfl ?_
    refine aw_icmp_ne (tgt := 92) E dX9_bothOf_85 rfl (fun c85 => ?_) (fun c85 => ?_)
    ·
      replace h := iq c85 h
      refine aw_iconst (v := 0) E dX9_bothOf_92 (by decide) ?_
      subst h
      exact aw_iret E dX9_bothOf_93 hr
    ·
      replace h := ip c85 h
      refine aw_iconst (v := 1) E dX9_bothOf_88 (by decide) ?_
      refine aw_goto (tgt := 93) E dX9_bothOf_89 rfl ?_
      subst h
      exact aw_iret E dX9_bothOf_93 hr
  replace h := iq c1_15 h
  by_cases c1_16 : a0 = 16
  ·
    replace h := ip c1_16 h
    refine aw_tin (tgt := 94) (off := 93) E dX9_bothOf_1 (by rw [c1_16]; decide) (by rw [c1_16]; decide) (by rw [c1_16]; decide) (by decide) ?_
    refine aw_iload_n E dX9_bothOf_94 1 rfl ?_
    refine aw_iload_n E dX9_bothOf_95 2 rfl ?_
    refine aw_iadd E dX9_bothOf_96 ?_
    subst h
    exact aw_iret E dX9_bothOf_97 hr
  replace h := iq c1_16 h
  by_cases c1_17 : a0 = 17
  ·
    replace h := ip c1_17 h
    refine aw_tin (tgt := 98) (off := 97) E dX9_bothOf_1 (by rw [c1_17]; decide) (by rw [c1_17]; decide) (by rw [c1_17]; decide) (by decide) ?_
    refine aw_iload_n E dX9_bothOf_98 1 rfl ?_
    refine aw_iload_n E dX9_bothOf_99 2 rfl ?_
    refine aw_isub E dX9_bothOf_100 ?_
    subst h
    exact aw_iret E dX9_bothOf_101 hr
  replace h := iq c1_17 h
  have nc1_11 := lv_neT (k := 11) (a := 11) c1_11 (by decide)
  have nc1_12 := lv_neT (k := 12) (a := 12) c1_12 (by decide)
  have nc1_13 := lv_neT (k := 13) (a := 13) c1_13 (by decide)
  have nc1_14 := lv_neT (k := 14) (a := 14) c1_14 (by decide)
  have nc1_15 := lv_neT (k := 15) (a := 15) c1_15 (by decide)
  have nc1_16 := lv_neT (k := 16) (a := 16) c1_16 (by decide)
  have nc1_17 := lv_neT (k := 17) (a := 17) c1_17 (by decide)
  refine aw_tout (tgt := 102) E dX9_bothOf_1 (by omega) (by decide) ?_
  refine aw_iload_n E dX9_bothOf_102 1 rfl ?_
  refine aw_iload_n E dX9_bothOf_103 2 rfl ?_
  refine aw_imul E dX9_bothOf_104 ?_
  subst h
  exact aw_iret E dX9_bothOf_105 hr
def FX9_worth_L16 : Nat → Int32 → Int32 → Int32 → Mem → Option (Mem)
  | 0, _, _, _, _ => none
  | f + 1, p1, p2, p3, M =>
    gi (((4 * (M.1 0 15)) + p1) + 1) 24 <|
    if (M.1 8 (Int32.toNatClampNeg (((4 * (M.1 0 15)) + p1) + 1))) ≤ p3 then
      some M
    else
      gi ((200 * (M.1 0 15)) + p3) 1200 <|
      lt (α := Int32) (M.1 7 (Int32.toNatClampNeg ((200 * (M.1 0 15)) + p3))) fun x103 =>
      lt (α := Bool) (if 100000 ≤ x103 then true else if 11 ≤ x103 then false else true) fun b105 =>
      if b105 = true then
        ob (α := Int32) (if 11 ≤ x103 then
          some (x103 - 100000)
        else
          gi x103 6 <|
          some (M.1 16 (Int32.toNatClampNeg x103))) fun q109 =>
        gi p2 200 <|
        lt (wr M 15 (Int32.toNatClampNeg p2) q109) fun M113 =>
        lt (α := Int32) (p2 + 1) fun x115 =>
        lt (α := Int32) (p3 + 1) fun x117 =>
        FX9_worth_L16 f p1 x115 x117 M113
      else
        if x103 = 13 then
          gi (p2 - 1) 200 <|
          lt (α := Int32) (if (M.1 15 (Int32.toNatClampNeg (p2 - 1))) = 0 then
            1
          else
            0) fun q136 =>
          gi (p2 - 1) 200 <|
          lt (wr M 15 (Int32.toNatClampNeg (p2 - 1)) q136) fun M140 =>
          lt (α := Int32) (p3 + 1) fun x142 =>
          FX9_worth_L16 f p1 p2 x142 M140
        else
          if x103 = 19 then
            gi (p2 - 1) 200 <|
            gi (p2 - 1) 200 <|
            lt (wr M 15 (Int32.toNatClampNeg (p2 - 1)) (-(M.1 15 (Int32.toNatClampNeg (p2 - 1))))) fun M131 =>
            lt (α := Int32) (p3 + 1) fun x133 =>
            FX9_worth_L16 f p1 p2 x133 M131
          else
            lt (α := Int32) (p2 + (-1)) fun x120 =>
            gi (x120 - 1) 200 <|
            gi x120 200 <|
            gi (x120 - 1) 200 <|
            lt (wr M 15 (Int32.toNatClampNeg (x120 - 1)) (FX9_bothOf x103 (M.1 15 (Int32.toNatClampNeg (x120 - 1))) (M.1 15 (Int32.toNatClampNeg x120)))) fun M125 =>
            lt (α := Int32) (p3 + 1) fun x127 =>
            FX9_worth_L16 f p1 x120 x127 M125
def FX9_worth (a1 : Int32) (M : Mem) : Option (Int32 × Mem) :=
  gi ((4 * (M.1 0 15)) + a1) 24 <|
  lt (α := Int32) (M.1 8 (Int32.toNatClampNeg ((4 * (M.1 0 15)) + a1))) fun x2 =>
  ob (FX9_worth_L16 FU a1 0 x2 M) fun q4 =>
  gi 0 200 <|
  some (q4.1 15 (Int32.toNatClampNeg 0), q4)
set_option maxHeartbeats 4000000 in
set_option maxRecDepth 100000 in
theorem lpX9_worth_16 {Y : CtxM} {g : CtxG} {r : Option Value × Mem} (E : EV Y (WY g) cX9_worth 5 (some .int) RX9) (p1 : Int32) : ∀ (f : Nat) (p2 : Int32) (p3 : Int32) (M : Mem) (q : Mem), FX9_worth_L16 f p1 p2 p3 M = some q → AW Y (WY g) r 5 2 197 [(0, .ref (wad (WY g) 0))] [] q → AW Y (WY g) r 5 2 16 [(0, .ref (wad (WY g) 0)), (1, .int p1), (2, .int p2), (3, .int p3)] [] M := by
  intro f
  induction f with
  | zero => intro p2 p3 M q hh; exact absurd hh (fun z => nomatch (show (none : Option (Mem)) = some q from z))
  | succ f ih =>
    intro p2 p3 M q hh kx
    rw [FX9_worth_L16] at hh
    refine aw_iload_n E dX9_worth_16 3 rfl ?_
    refine aw_aload_n E dX9_worth_17 0 rfl ?_
    refine aw_getR (q := 8) E flX9_35 (Nat.le_of_ble_eq_true rfl) rfl rfl dX9_worth_18 ?_
    refine aw_iconst (v := 4) E dX9_worth_21 (by decide) ?_
    refine aw_aload_n E dX9_worth_22 0 rfl ?_
    refine aw_getI E flX9_111 (Nat.le_of_ble_eq_true rfl) rfl rfl dX9_worth_23 ?_
    refine aw_imul E dX9_worth_26 ?_
    refine aw_iload_n E dX9_worth_27 1 rfl ?_
    refine aw_iadd E dX9_worth_28 ?_
    refine aw_iconst (v := 1) E dX9_worth_29 (by decide) ?_
    refine aw_iadd E dX9_worth_30 ?_
    obtain ⟨g101, hh⟩ := gi_e hh
    refine aw_iald E (Nat.le_of_ble_eq_true rfl) rfl g101 dX9_worth_31 ?_
    refine aw_icmp_ge (tgt := 197) E dX9_worth_32 rfl (fun c32 => ?_) (fun c32 => ?_)
    ·
      replace hh := ip c32 hh
      refine aw_sub (L1 := [(0, .ref (wad (WY g) 0))]) [0] rfl ?_
      replace hh := Option.some.inj hh
      subst hh
      exact kx
    ·
      replace hh := iq c32 hh
      refine aw_aload_n E dX9_worth_35 0 rfl ?_
      refine aw_getR (q := 7) E flX9_32 (Nat.le_of_ble_eq_true rfl) rfl rfl dX9_worth_36 ?_
      refine aw_sipush (v := 200) E dX9_worth_39 (by decide) ?_
      refine aw_aload_n E dX9_worth_42 0 rfl ?_
      refine aw_getI E flX9_111 (Nat.le_of_ble_eq_true rfl) rfl rfl dX9_worth_43 ?_
      refine aw_imul E dX9_worth_46 ?_
      refine aw_iload_n E dX9_worth_47 3 rfl ?_
      refine aw_iadd E dX9_worth_48 ?_
      obtain ⟨g102, hh⟩ := gi_e hh
      refine aw_iald E (Nat.le_of_ble_eq_true rfl) rfl g102 dX9_worth_49 ?_
      obtain ⟨x103, e104, hh⟩ := lt_e hh
      refine aw_nmI e104 ?_
      refine aw_istore (L1 := [(4, .int x103), (0, .ref (wad (WY g) 0)), (1, .int p1), (2, .int p2), (3, .int p3)]) E dX9_worth_50 (Nat.le_of_ble_eq_true rfl) rfl ?_
      refine aw_iload E dX9_worth_52 0 rfl ?_
      refine aw_ldc (v := 100000) E kcX9_159 dX9_worth_54 ?_
      obtain ⟨b105, e106, hh⟩ := lt_e hh
      have J107 : b105 = true → AW Y (WY g) r 5 2 66 [(4, .int x103), (0, .ref (wad (WY g) 0)), (1, .int p1), (2, .int p2), (3, .int p3)] [] M := fun hb => by
        replace hh := ip hb hh
        refine aw_aload_n E dX9_worth_66 1 rfl ?_
        refine aw_getR (q := 15) E flX9_56 (Nat.le_of_ble_eq_true rfl) rfl rfl dX9_worth_67 ?_
        refine aw_iload_n E dX9_worth_70 3 rfl ?_
        refine aw_iload E dX9_worth_71 0 rfl ?_
        refine aw_bipush (v := 11) E dX9_worth_73 (by decide) ?_
        obtain ⟨q109, e110, hh⟩ := bd_e hh
        have J111 : AW Y (WY g) r 5 2 93 [(0, .ref (wad (WY g) 0)), (1, .int p1), (2, .int p2), (3, .int p3)] [.int q109, .int p2, .ref (wad (WY g) 15)] M := by
          obtain ⟨g112, hh⟩ := gi_e hh
          obtain ⟨M113, e114, hh⟩ := lt_e hh
          refine aw_iast1 e114 E (Nat.le_of_ble_eq_true rfl) rfl g112 dX9_worth_93 ?_
          obtain ⟨x115, e116, hh⟩ := lt_e hh
          refine aw_iinc (v := x115) (L1 := [(2, .int x115), (0, .ref (wad (WY g) 0)), (1, .int p1), (3, .int p3)]) E dX9_worth_94 2 rfl e116 (Nat.le_of_ble_eq_true rfl) rfl ?_
          refine aw_goto (tgt := 191) E dX9_worth_97 rfl ?_
          obtain ⟨x117, e118, hh⟩ := lt_e hh
          refine aw_iinc (v := x117) (L1 := [(3, .int x117), (2, .int x115), (0, .ref (wad (WY g) 0)), (1, .int p1)]) E dX9_worth_191 3 rfl e118 (Nat.le_of_ble_eq_true rfl) rfl ?_
          refine aw_goto (tgt := 16) E dX9_worth_194 rfl ?_
          refine aw_sub (L1 := [(0, .ref (wad (WY g) 0)), (1, .int p1), (2, .int x115), (3, .int x117)]) [2, 3, 1, 0] rfl ?_
          exact ih x115 x117 M113 _ hh kx
        refine aw_icmp_ge (tgt := 88) E dX9_worth_75 rfl (fun c75 => ?_) (fun c75 => ?_)
        ·
          replace e110 := ip c75 e110
          refine aw_iload E dX9_worth_88 0 rfl ?_
          refine aw_ldc (v := 100000) E kcX9_159 dX9_worth_90 ?_
          refine aw_isub E dX9_worth_92 ?_
          refine aw_sub (L1 := [(0, .ref (wad (WY g) 0)), (1, .int p1), (2, .int p2), (3, .int p3)]) [1, 2, 3, 4] rfl ?_
          replace e110 := Option.some.inj e110
          subst e110
          exact J111
        ·
          replace e110 := iq c75 e110
          refine aw_aload_n E dX9_worth_78 1 rfl ?_
          refine aw_getR (q := 16) E flX9_59 (Nat.le_of_ble_eq_true rfl) rfl rfl dX9_worth_79 ?_
          refine aw_iload E dX9_worth_82 0 rfl ?_
          obtain ⟨g119, e110⟩ := gi_e e110
          refine aw_iald E (Nat.le_of_ble_eq_true rfl) rfl g119 dX9_worth_84 ?_
          refine aw_goto (tgt := 93) E dX9_worth_85 rfl ?_
          refine aw_sub (L1 := [(0, .ref (wad (WY g) 0)), (1, .int p1), (2, .int p2), (3, .int p3)]) [1, 2, 3, 4] rfl ?_
          replace e110 := Option.some.inj e110
          subst e110
          exact J111
      have J108 : b105 = false → AW Y (WY g) r 5 2 100 [(4, .int x103), (0, .ref (wad (WY g) 0)), (1, .int p1), (2, .int p2), (3, .int p3)] [] M := fun hb => by
        replace hh := iq (bf hb) hh
        refine aw_iload E dX9_worth_100 0 rfl ?_
        refine aw_bipush (v := 13) E dX9_worth_102 (by decide) ?_
        refine aw_icmp_ne (tgt := 134) E dX9_worth_104 rfl (fun c104 => ?_) (fun c104 => ?_)
        ·
          replace hh := iq c104 hh
          refine aw_iload E dX9_worth_134 0 rfl ?_
          refine aw_bipush (v := 19) E dX9_worth_136 (by decide) ?_
          refine aw_icmp_ne (tgt := 161) E dX9_worth_138 rfl (fun c138 => ?_) (fun c138 => ?_)
          ·
            replace hh := iq c138 hh
            obtain ⟨x120, e121, hh⟩ := lt_e hh
            refine aw_iinc (v := x120) (L1 := [(2, .int x120), (4, .int x103), (0, .ref (wad (WY g) 0)), (1, .int p1), (3, .int p3)]) E dX9_worth_161 3 rfl e121 (Nat.le_of_ble_eq_true rfl) rfl ?_
            refine aw_aload_n E dX9_worth_164 2 rfl ?_
            refine aw_getR (q := 15) E flX9_56 (Nat.le_of_ble_eq_true rfl) rfl rfl dX9_worth_165 ?_
            refine aw_iload_n E dX9_worth_168 0 rfl ?_
            refine aw_iconst (v := 1) E dX9_worth_169 (by decide) ?_
            refine aw_isub E dX9_worth_170 ?_
            refine aw_iload E dX9_worth_171 1 rfl ?_
            refine aw_aload_n E dX9_worth_173 2 rfl ?_
            refine aw_getR (q := 15) E flX9_56 (Nat.le_of_ble_eq_true rfl) rfl rfl dX9_worth_174 ?_
            refine aw_iload_n E dX9_worth_177 0 rfl ?_
            refine aw_iconst (v := 1) E dX9_worth_178 (by decide) ?_
            refine aw_isub E dX9_worth_179 ?_
            obtain ⟨g122, hh⟩ := gi_e hh
            refine aw_iald E (Nat.le_of_ble_eq_true rfl) rfl g122 dX9_worth_180 ?_
            refine aw_aload_n E dX9_worth_181 2 rfl ?_
            refine aw_getR (q := 15) E flX9_56 (Nat.le_of_ble_eq_true rfl) rfl rfl dX9_worth_182 ?_
            refine aw_iload_n E dX9_worth_185 0 rfl ?_
            obtain ⟨g123, hh⟩ := gi_e hh
            refine aw_iald E (Nat.le_of_ble_eq_true rfl) rfl g123 dX9_worth_186 ?_
            refine aw_callSi (S := [.int (x120 - 1), .ref (wad (WY g) 15)]) E msX9_bothOf mlX9_173 rfl (ctX9_bothOf (yl Y) g x103 (M.1 15 (Int32.toNatClampNeg (x120 - 1))) (M.1 15 (Int32.toNatClampNeg x120))  M ) rfl (Nat.le_of_ble_eq_true rfl) (Nat.le_of_ble_eq_true rfl) dX9_worth_187 ?_
            obtain ⟨g124, hh⟩ := gi_e hh
            obtain ⟨M125, e126, hh⟩ := lt_e hh
            refine aw_iast1 e126 E (Nat.le_of_ble_eq_true rfl) rfl g124 dX9_worth_190 ?_
            obtain ⟨x127, e128, hh⟩ := lt_e hh
            refine aw_iinc (v := x127) (L1 := [(3, .int x127), (2, .int x120), (4, .int x103), (0, .ref (wad (WY g) 0)), (1, .int p1)]) E dX9_worth_191 4 rfl e128 (Nat.le_of_ble_eq_true rfl) rfl ?_
            refine aw_goto (tgt := 16) E dX9_worth_194 rfl ?_
            refine aw_sub (L1 := [(0, .ref (wad (WY g) 0)), (1, .int p1), (2, .int x120), (3, .int x127)]) [3, 4, 1, 0] rfl ?_
            exact ih x120 x127 M125 _ hh kx
          ·
            replace hh := ip c138 hh
            refine aw_aload_n E dX9_worth_141 1 rfl ?_
            refine aw_getR (q := 15) E flX9_56 (Nat.le_of_ble_eq_true rfl) rfl rfl dX9_worth_142 ?_
            refine aw_iload_n E dX9_worth_145 3 rfl ?_
            refine aw_iconst (v := 1) E dX9_worth_146 (by decide) ?_
            refine aw_isub E dX9_worth_147 ?_
            refine aw_aload_n E dX9_worth_148 1 rfl ?_
            refine aw_getR (q := 15) E flX9_56 (Nat.le_of_ble_eq_true rfl) rfl rfl dX9_worth_149 ?_
            refine aw_iload_n E dX9_worth_152 3 rfl ?_
            refine aw_iconst (v := 1) E dX9_worth_153 (by decide) ?_
            refine aw_isub E dX9_worth_154 ?_
            obtain ⟨g129, hh⟩ := gi_e hh
            refine aw_iald E (Nat.le_of_ble_eq_true rfl) rfl g129 dX9_worth_155 ?_
            refine aw_ineg E dX9_worth_156 ?_
            obtain ⟨g130, hh⟩ := gi_e hh
            obtain ⟨M131, e132, hh⟩ := lt_e hh
            refine aw_iast1 e132 E (Nat.le_of_ble_eq_true rfl) rfl g130 dX9_worth_157 ?_
            refine aw_goto (tgt := 191) E dX9_worth_158 rfl ?_
            obtain ⟨x133, e134, hh⟩ := lt_e hh
            refine aw_iinc (v := x133) (L1 := [(3, .int x133), (4, .int x103), (0, .ref (wad (WY g) 0)), (1, .int p1), (2, .int p2)]) E dX9_worth_191 4 rfl e134 (Nat.le_of_ble_eq_true rfl) rfl ?_
            refine aw_goto (tgt := 16) E dX9_worth_194 rfl ?_
            refine aw_sub (L1 := [(0, .ref (wad (WY g) 0)), (1, .int p1), (2, .int p2), (3, .int x133)]) [2, 3, 4, 0] rfl ?_
            exact ih p2 x133 M131 _ hh kx
        ·
          replace hh := ip c104 hh
          refine aw_aload_n E dX9_worth_107 1 rfl ?_
          refine aw_getR (q := 15) E flX9_56 (Nat.le_of_ble_eq_true rfl) rfl rfl dX9_worth_108 ?_
          refine aw_iload_n E dX9_worth_111 3 rfl ?_
          refine aw_iconst (v := 1) E dX9_worth_112 (by decide) ?_
          refine aw_isub E dX9_worth_113 ?_
          refine aw_aload_n E dX9_worth_114 1 rfl ?_
          refine aw_getR (q := 15) E flX9_56 (Nat.le_of_ble_eq_true rfl) rfl rfl dX9_worth_115 ?_
          refine aw_iload_n E dX9_worth_118 3 rfl ?_
          refine aw_iconst (v := 1) E dX9_worth_119 (by decide) ?_
          refine aw_isub E dX9_worth_120 ?_
          obtain ⟨g135, hh⟩ := gi_e hh
          refine aw_iald E (Nat.le_of_ble_eq_true rfl) rfl g135 dX9_worth_121 ?_
          obtain ⟨q136, e137, hh⟩ := lt_e hh
          have J138 : AW Y (WY g) r 5 2 130 [(0, .ref (wad (WY g) 0)), (1, .int p1), (2, .int p2), (3, .int p3)] [.int q136, .int (p2 - 1), .ref (wad (WY g) 15)] M := by
            obtain ⟨g139, hh⟩ := gi_e hh
            obtain ⟨M140, e141, hh⟩ := lt_e hh
            refine aw_iast1 e141 E (Nat.le_of_ble_eq_true rfl) rfl g139 dX9_worth_130 ?_
            refine aw_goto (tgt := 191) E dX9_worth_131 rfl ?_
            obtain ⟨x142, e143, hh⟩ := lt_e hh
            refine aw_iinc (v := x142) (L1 := [(3, .int x142), (0, .ref (wad (WY g) 0)), (1, .int p1), (2, .int p2)]) E dX9_worth_191 3 rfl e143 (Nat.le_of_ble_eq_true rfl) rfl ?_
            refine aw_goto (tgt := 16) E dX9_worth_194 rfl ?_
            refine aw_sub (L1 := [(0, .ref (wad (WY g) 0)), (1, .int p1), (2, .int p2), (3, .int x142)]) [1, 2, 3, 0] rfl ?_
            exact ih p2 x142 M140 _ hh kx
          refine aw_if_ne (tgt := 129) E dX9_worth_122 rfl (fun c122 => ?_) (fun c122 => ?_)
          ·
            replace e137 := iq c122 e137
            refine aw_iconst (v := 0) E dX9_worth_129 (by decide) ?_
            refine aw_sub (L1 := [(0, .ref (wad (WY g) 0)), (1, .int p1), (2, .int p2), (3, .int p3)]) [1, 2, 3, 4] rfl ?_
            subst e137
            exact J138
          ·
            replace e137 := ip c122 e137
            refine aw_iconst (v := 1) E dX9_worth_125 (by decide) ?_
            refine aw_goto (tgt := 130) E dX9_worth_126 rfl ?_
            refine aw_sub (L1 := [(0, .ref (wad (WY g) 0)), (1, .int p1), (2, .int p2), (3, .int p3)]) [1, 2, 3, 4] rfl ?_
            subst e137
            exact J138
      refine aw_icmp_ge (tgt := 66) E dX9_worth_56 rfl (fun c56 => ?_) (fun c56 => ?_)
      ·
        replace e106 := ip c56 e106
        subst e106
        exact J107 rfl
      ·
        replace e106 := iq c56 e106
        refine aw_iload E dX9_worth_59 0 rfl ?_
        refine aw_bipush (v := 11) E dX9_worth_61 (by decide) ?_
        refine aw_icmp_ge (tgt := 100) E dX9_worth_63 rfl (fun c63 => ?_) (fun c63 => ?_)
        ·
          replace e106 := ip c63 e106
          subst e106
          exact J108 rfl
        ·
          replace e106 := iq c63 e106
          subst e106
          exact J107 rfl
set_option maxHeartbeats 4000000 in
set_option maxRecDepth 100000 in
theorem ctX9_worth (l : Launch) (g : CtxG) (a1 : Int32) (M : Mem) (r0 : Int32 × Mem) (h : FX9_worth a1 M = some r0) : Ct l (WY g) yX9_worth cX9_worth 5 (some .int) 2 [.ref (wad (WY g) 0), .int a1] M (some (.int r0.1), r0.2) := by
  refine Ct.of (by decide) (Nat.le_of_ble_eq_true rfl) (fun Y hY E => ?_)
  have E : EV Y (WY g) cX9_worth 5 (some .int) RX9 := E
  have h : FX9_worth a1 M = some r0 := h
  unfold FX9_worth at h
  show AW Y (WY g) _ 5 2 0 [(0, .ref (wad (WY g) 0)), (1, .int a1)] [] M
  obtain ⟨r, hr⟩ : ∃ r : Option Value × Mem, r = (some (.int r0.1), r0.2) := ⟨_, rfl⟩
  rw [← hr]
  refine aw_iconst (v := 0) E dX9_worth_0 (by decide) ?_
  refine aw_istore_n (L1 := [(2, .int 0), (0, .ref (wad (WY g) 0)), (1, .int a1)]) E dX9_worth_1 (Nat.le_of_ble_eq_true rfl) rfl ?_
  refine aw_aload_n E dX9_worth_2 1 rfl ?_
  refine aw_getR (q := 8) E flX9_35 (Nat.le_of_ble_eq_true rfl) rfl rfl dX9_worth_3 ?_
  refine aw_iconst (v := 4) E dX9_worth_6 (by decide) ?_
  refine aw_aload_n E dX9_worth_7 1 rfl ?_
  refine aw_getI E flX9_111 (Nat.le_of_ble_eq_true rfl) rfl rfl dX9_worth_8 ?_
  refine aw_imul E dX9_worth_11 ?_
  refine aw_iload_n E dX9_worth_12 2 rfl ?_
  refine aw_iadd E dX9_worth_13 ?_
  obtain ⟨g1, h⟩ := gi_e h
  refine aw_iald E (Nat.le_of_ble_eq_true rfl) rfl g1 dX9_worth_14 ?_
  obtain ⟨x2, e3, h⟩ := lt_e h
  refine aw_nmI e3 ?_
  refine aw_istore_n (L1 := [(3, .int x2), (2, .int 0), (0, .ref (wad (WY g) 0)), (1, .int a1)]) E dX9_worth_15 (Nat.le_of_ble_eq_true rfl) rfl ?_
  obtain ⟨q4, e5, h⟩ := bd_e h
  refine aw_sub (L1 := [(0, .ref (wad (WY g) 0)), (1, .int a1), (2, .int 0), (3, .int x2)]) [2, 3, 1, 0] rfl ?_
  refine lpX9_worth_16 E   a1 FU 0 x2 M q4 e5 ?_
  refine aw_aload_n E dX9_worth_197 0 rfl ?_
  refine aw_getR (q := 15) E flX9_56 (Nat.le_of_ble_eq_true rfl) rfl rfl dX9_worth_198 ?_
  refine aw_iconst (v := 0) E dX9_worth_201 (by decide) ?_
  obtain ⟨g6, h⟩ := gi_e h
  refine aw_iald E (Nat.le_of_ble_eq_true rfl) rfl g6 dX9_worth_202 ?_
  replace h := Option.some.inj h
  subst h
  exact aw_iret E dX9_worth_203 hr
def FX9_mayGo (a1 : Int32) (a2 : Int32) (a3 : Int32) (M : Mem) : Option (Int32 × Mem) :=
  if a1 < (M.1 0 3) then
    gi a1 13 <|
    lt (α := Int32) (M.1 1 (Int32.toNatClampNeg a1)) fun x2 =>
    ob (α := Bool) (if x2 = 1 then
      gi a1 13 <|
      if a2 = (M.1 2 (Int32.toNatClampNeg a1)) then some true else some false
    else
      some true) fun b4 =>
    if b4 = true then
      lt (α := Bool) (if x2 = 2 then if a3 = 0 then true else false else true) fun b8 =>
      if b8 = true then
        lt (α := Bool) (if x2 = 5 then if (M.1 0 1) < 12 then false else true else false) fun b12 =>
        if b12 = true then
          some (0, M)
        else
          ob (FX9_namesOf a1 a2 M) fun q16 =>
          ob (FX9_worth 2 q16) fun q18 =>
          if q18.1 = 0 then
            some (0, q18.2)
          else
            some (1, q18.2)
      else
        some (0, M)
    else
      some (0, M)
  else
    some (1, M)
set_option maxHeartbeats 4000000 in
set_option maxRecDepth 100000 in
theorem ctX9_mayGo (l : Launch) (g : CtxG) (a1 : Int32) (a2 : Int32) (a3 : Int32) (M : Mem) (r0 : Int32 × Mem) (h : FX9_mayGo a1 a2 a3 M = some r0) : Ct l (WY g) yX9_mayGo cX9_mayGo 5 (some .boolean) 3 [.ref (wad (WY g) 0), .int a1, .int a2, .int a3] M (some (.int r0.1), r0.2) := by
  refine Ct.of (by decide) (Nat.le_of_ble_eq_true rfl) (fun Y hY E => ?_)
  have E : EV Y (WY g) cX9_mayGo 5 (some .boolean) RX9 := E
  have h : FX9_mayGo a1 a2 a3 M = some r0 := h
  unfold FX9_mayGo at h
  show AW Y (WY g) _ 5 3 0 [(0, .ref (wad (WY g) 0)), (1, .int a1), (2, .int a2), (3, .int a3)] [] M
  obtain ⟨r, hr⟩ : ∃ r : Option Value × Mem, r = (some (.int r0.1), r0.2) := ⟨_, rfl⟩
  rw [← hr]
  refine aw_iload_n E dX9_mayGo_0 1 rfl ?_
  refine aw_aload_n E dX9_mayGo_1 0 rfl ?_
  refine aw_getI E flX9_92 (Nat.le_of_ble_eq_true rfl) rfl rfl dX9_mayGo_2 ?_
  refine aw_icmp_lt (tgt := 10) E dX9_mayGo_5 rfl (fun c5 => ?_) (fun c5 => ?_)
  ·
    replace h := ip c5 h
    refine aw_aload_n E dX9_mayGo_10 0 rfl ?_
    refine aw_getR (q := 1) E flX9_13 (Nat.le_of_ble_eq_true rfl) rfl rfl dX9_mayGo_11 ?_
    refine aw_iload_n E dX9_mayGo_14 1 rfl ?_
    obtain ⟨g1, h⟩ := gi_e h
    refine aw_iald E (Nat.le_of_ble_eq_true rfl) rfl g1 dX9_mayGo_15 ?_
    obtain ⟨x2, e3, h⟩ := lt_e h
    refine aw_nmI e3 ?_
    refine aw_istore (L1 := [(4, .int x2), (0, .ref (wad (WY g) 0)), (1, .int a1), (2, .int a2), (3, .int a3)]) E dX9_mayGo_16 (Nat.le_of_ble_eq_true rfl) rfl ?_
    refine aw_iload E dX9_mayGo_18 0 rfl ?_
    refine aw_iconst (v := 1) E dX9_mayGo_20 (by decide) ?_
    obtain ⟨b4, e5, h⟩ := bd_e h
    have J6 : b4 = true → AW Y (WY g) r 5 3 34 [(4, .int x2), (0, .ref (wad (WY g) 0)), (1, .int a1), (2, .int a2), (3, .int a3)] [] M := fun hb => by
      replace h := ip hb h
      refine aw_iload E dX9_mayGo_34 0 rfl ?_
      refine aw_iconst (v := 2) E dX9_mayGo_36 (by decide) ?_
      obtain ⟨b8, e9, h⟩ := lt_e h
      have J10 : b8 = true → AW Y (WY g) r 5 3 44 [(4, .int x2), (0, .ref (wad (WY g) 0)), (1, .int a1), (2, .int a2), (3, .int a3)] [] M := fun hb => by
        replace h := ip hb h
        refine aw_iload E dX9_mayGo_44 0 rfl ?_
        refine aw_iconst (v := 5) E dX9_mayGo_46 (by decide) ?_
        obtain ⟨b12, e13, h⟩ := lt_e h
        have J14 : b12 = true → AW Y (WY g) r 5 3 59 [(4, .int x2), (0, .ref (wad (WY g) 0)), (1, .int a1), (2, .int a2), (3, .int a3)] [] M := fun hb => by
          replace h := ip hb h
          refine aw_iconst (v := 0) E dX9_mayGo_59 (by decide) ?_
          replace h := Option.some.inj h
          subst h
          exact aw_zret E (by decide) dX9_mayGo_60 hr
        have J15 : b12 = false → AW Y (WY g) r 5 3 61 [(4, .int x2), (0, .ref (wad (WY g) 0)), (1, .int a1), (2, .int a2), (3, .int a3)] [] M := fun hb => by
          replace h := iq (bf hb) h
          refine aw_aload_n E dX9_mayGo_61 1 rfl ?_
          refine aw_iload_n E dX9_mayGo_62 2 rfl ?_
          refine aw_iload_n E dX9_mayGo_63 3 rfl ?_
          obtain ⟨q16, e17, h⟩ := bd_e h
          refine aw_callVv (S := []) E mvX9_namesOf mlX9_193 (Nat.le_of_ble_eq_true rfl) rfl rfl rfl (ctX9_namesOf (yl Y) g a1 a2  M q16 e17) rfl (Nat.le_of_ble_eq_true rfl) (Nat.le_of_ble_eq_true rfl) dX9_mayGo_64 ?_
          refine aw_aload_n E dX9_mayGo_67 1 rfl ?_
          refine aw_iconst (v := 2) E dX9_mayGo_68 (by decide) ?_
          obtain ⟨q18, e19, h⟩ := bd_e h
          refine aw_callVi (S := []) E mvX9_worth mlX9_197 (Nat.le_of_ble_eq_true rfl) rfl rfl rfl (ctX9_worth (yl Y) g 2  q16 q18 e19) rfl (Nat.le_of_ble_eq_true rfl) (Nat.le_of_ble_eq_true rfl) dX9_mayGo_69 ?_
          refine aw_if_eq (tgt := 79) E dX9_mayGo_72 rfl (fun c72 => ?_) (fun c72 => ?_)
          ·
            replace h := ip c72 h
            refine aw_iconst (v := 0) E dX9_mayGo_79 (by decide) ?_
            replace h := Option.some.inj h
            subst h
            exact aw_zret E (by decide) dX9_mayGo_80 hr
          ·
            replace h := iq c72 h
            refine aw_iconst (v := 1) E dX9_mayGo_75 (by decide) ?_
            refine aw_goto (tgt := 80) E dX9_mayGo_76 rfl ?_
            replace h := Option.some.inj h
            subst h
            exact aw_zret E (by decide) dX9_mayGo_80 hr
        refine aw_icmp_ne (tgt := 61) E dX9_mayGo_47 rfl (fun c47 => ?_) (fun c47 => ?_)
        ·
          replace e13 := iq c47 e13
          subst e13
          exact J15 rfl
        ·
          replace e13 := ip c47 e13
          refine aw_aload_n E dX9_mayGo_50 1 rfl ?_
          refine aw_getI E flX9_7 (Nat.le_of_ble_eq_true rfl) rfl rfl dX9_mayGo_51 ?_
          refine aw_bipush (v := 12) E dX9_mayGo_54 (by decide) ?_
          refine aw_icmp_lt (tgt := 61) E dX9_mayGo_56 rfl (fun c56 => ?_) (fun c56 => ?_)
          ·
            replace e13 := ip c56 e13
            subst e13
            exact J15 rfl
          ·
            replace e13 := iq c56 e13
            subst e13
            exact J14 rfl
      have J11 : b8 = false → AW Y (WY g) r 5 3 59 [(4, .int x2), (0, .ref (wad (WY g) 0)), (1, .int a1), (2, .int a2), (3, .int a3)] [] M := fun hb => by
        replace h := iq (bf hb) h
        refine aw_iconst (v := 0) E dX9_mayGo_59 (by decide) ?_
        replace h := Option.some.inj h
        subst h
        exact aw_zret E (by decide) dX9_mayGo_60 hr
      refine aw_icmp_ne (tgt := 44) E dX9_mayGo_37 rfl (fun c37 => ?_) (fun c37 => ?_)
      ·
        replace e9 := iq c37 e9
        subst e9
        exact J10 rfl
      ·
        replace e9 := ip c37 e9
        refine aw_iload_n E dX9_mayGo_40 4 rfl ?_
        refine aw_if_ne (tgt := 59) E dX9_mayGo_41 rfl (fun c41 => ?_) (fun c41 => ?_)
        ·
          replace e9 := iq c41 e9
          subst e9
          exact J11 rfl
        ·
          replace e9 := ip c41 e9
          subst e9
          exact J10 rfl
    have J7 : b4 = false → AW Y (WY g) r 5 3 59 [(4, .int x2), (0, .ref (wad (WY g) 0)), (1, .int a1), (2, .int a2), (3, .int a3)] [] M := fun hb => by
      replace h := iq (bf hb) h
      refine aw_iconst (v := 0) E dX9_mayGo_59 (by decide) ?_
      replace h := Option.some.inj h
      subst h
      exact aw_zret E (by decide) dX9_mayGo_60 hr
    refine aw_icmp_ne (tgt := 34) E dX9_mayGo_21 rfl (fun c21 => ?_) (fun c21 => ?_)
    ·
      replace e5 := iq c21 e5
      replace e5 := Option.some.inj e5
      subst e5
      exact J6 rfl
    ·
      replace e5 := ip c21 e5
      refine aw_iload_n E dX9_mayGo_24 3 rfl ?_
      refine aw_aload_n E dX9_mayGo_25 1 rfl ?_
      refine aw_getR (q := 2) E flX9_17 (Nat.le_of_ble_eq_true rfl) rfl rfl dX9_mayGo_26 ?_
      refine aw_iload_n E dX9_mayGo_29 2 rfl ?_
      obtain ⟨g20, e5⟩ := gi_e e5
      refine aw_iald E (Nat.le_of_ble_eq_true rfl) rfl g20 dX9_mayGo_30 ?_
      refine aw_icmp_ne (tgt := 59) E dX9_mayGo_31 rfl (fun c31 => ?_) (fun c31 => ?_)
      ·
        replace e5 := iq c31 e5
        replace e5 := Option.some.inj e5
        subst e5
        exact J7 rfl
      ·
        replace e5 := ip c31 e5
        replace e5 := Option.some.inj e5
        subst e5
        exact J6 rfl
  ·
    replace h := iq c5 h
    refine aw_iconst (v := 1) E dX9_mayGo_8 (by decide) ?_
    replace h := Option.some.inj h
    subst h
    exact aw_zret E (by decide) dX9_mayGo_9 hr
def FX9_within (a0 : Int32) (a1 : Int32) (a2 : Int32) : Int32 :=
  if a1 ≤ a0 then
    if a0 ≤ a2 then
      a0
    else
      a2
  else
    a1
set_option maxHeartbeats 4000000 in
set_option maxRecDepth 100000 in
theorem ctX9_within (l : Launch) (g : CtxG) (a0 : Int32) (a1 : Int32) (a2 : Int32) (M : Mem) : Ct l (WY g) yX9_within cX9_within 3 (some .int) 1 [.int a0, .int a1, .int a2] M (some (.int (FX9_within a0 a1 a2)), M) := by
  obtain ⟨r0, h⟩ : ∃ r0, FX9_within a0 a1 a2 = r0 := ⟨_, rfl⟩
  rw [h]
  refine Ct.of (by decide) (Nat.le_of_ble_eq_true rfl) (fun Y hY E => ?_)
  have E : EV Y (WY g) cX9_within 3 (some .int) RX9 := E
  --generalize hr : ((some (Value.int r0), M) : Option Value × Mem) = r
  have h : FX9_within a0 a1 a2 = r0 := h
  unfold FX9_within at h
  show AW Y (WY g) _ 3 1 0 [(0, .int a0), (1, .int a1), (2, .int a2)] [] M
  obtain ⟨r, hr⟩ : ∃ r : Option Value × Mem, r = (some (.int r0), M) := ⟨_, rfl⟩
  rw [← hr]
  refine aw_iload_n E dX9_within_0 0 rfl ?_
  refine aw_iload_n E dX9_within_1 1 rfl ?_
  refine aw_icmp_ge (tgt := 9) E dX9_within_2 rfl (fun c2 => ?_) (fun c2 => ?_)
  ·
    replace h := ip c2 h
    refine aw_iload_n E dX9_within_9 0 rfl ?_
    refine aw_iload_n E dX9_within_10 2 rfl ?_
    refine aw_icmp_le (tgt := 18) E dX9_within_11 rfl (fun c11 => ?_) (fun c11 => ?_)
    ·
      replace h := ip c11 h
      refine aw_iload_n E dX9_within_18 0 rfl ?_
      subst h
      exact aw_iret E dX9_within_19 hr
    ·
      replace h := iq c11 h
      refine aw_iload_n E dX9_within_14 2 rfl ?_
      refine aw_goto (tgt := 19) E dX9_within_15 rfl ?_
      subst h
      exact aw_iret E dX9_within_19 hr
  ·
    replace h := iq c2 h
    refine aw_iload_n E dX9_within_5 1 rfl ?_
    refine aw_goto (tgt := 19) E dX9_within_6 rfl ?_
    subst h
    exact aw_iret E dX9_within_19 hr
def FX9_minutesOf (a1 : Int32) (a2 : Int32) (a3 : Int32) (M : Mem) : Option (Int32 × Mem) :=
  if a1 < (M.1 0 3) then
    ob (FX9_namesOf a1 a2 M) fun q1 =>
    lt (α := Int32) (if a3 = 0 then
      0
    else
      1) fun q3 =>
    ob (FX9_worth q3 q1) fun q6 =>
    lt (α := Int32) (FX9_within q6.1 1 99) fun x8 =>
    gi a1 13 <|
    ob (α := Bool) (if (q6.2.1 1 (Int32.toNatClampNeg a1)) = 2 then
      gi a1 13 <|
      if a2 = (q6.2.1 3 (Int32.toNatClampNeg a1)) then some true else some false
    else
      some false) fun b11 =>
    lt (α := Int32) (if b11 = true then
      lt (α := Int32) (FX9_within (2 * x8) 1 99) fun x24 =>
      x24
    else
      x8) fun q13 =>
    gi a1 13 <|
    lt (α := Bool) (if (q6.2.1 1 (Int32.toNatClampNeg a1)) = 4 then if (q6.2.1 0 1) < 12 then false else true else false) fun b17 =>
    if b17 = true then
      gi a1 13 <|
      some (FX9_within (q13 + (q6.2.1 5 (Int32.toNatClampNeg a1))) 1 99, q6.2)
    else
      some (q13, q6.2)
  else
    gi a1 13 <|
    some (M.1 4 (Int32.toNatClampNeg a1), M)
set_option maxHeartbeats 4000000 in
set_option maxRecDepth 100000 in
theorem ctX9_minutesOf (l : Launch) (g : CtxG) (a1 : Int32) (a2 : Int32) (a3 : Int32) (M : Mem) (r0 : Int32 × Mem) (h : FX9_minutesOf a1 a2 a3 M = some r0) : Ct l (WY g) yX9_minutesOf cX9_minutesOf 5 (some .int) 3 [.ref (wad (WY g) 0), .int a1, .int a2, .int a3] M (some (.int r0.1), r0.2) := by
  refine Ct.of (by decide) (Nat.le_of_ble_eq_true rfl) (fun Y hY E => ?_)
  have E : EV Y (WY g) cX9_minutesOf 5 (some .int) RX9 := E
  have h : FX9_minutesOf a1 a2 a3 M = some r0 := h
  unfold FX9_minutesOf at h
  show AW Y (WY g) _ 5 3 0 [(0, .ref (wad (WY g) 0)), (1, .int a1), (2, .int a2), (3, .int a3)] [] M
  obtain ⟨r, hr⟩ : ∃ r : Option Value × Mem, r = (some (.int r0.1), r0.2) := ⟨_, rfl⟩
  rw [← hr]
  refine aw_iload_n E dX9_minutesOf_0 1 rfl ?_
  refine aw_aload_n E dX9_minutesOf_1 0 rfl ?_
  refine aw_getI E flX9_92 (Nat.le_of_ble_eq_true rfl) rfl rfl dX9_minutesOf_2 ?_
  refine aw_icmp_lt (tgt := 15) E dX9_minutesOf_5 rfl (fun c5 => ?_) (fun c5 => ?_)
  ·
    replace h := ip c5 h
    refine aw_aload_n E dX9_minutesOf_15 0 rfl ?_
    refine aw_iload_n E dX9_minutesOf_16 1 rfl ?_
    refine aw_iload_n E dX9_minutesOf_17 2 rfl ?_
    obtain ⟨q1, e2, h⟩ := bd_e h
    refine aw_callVv (S := []) E mvX9_namesOf mlX9_193 (Nat.le_of_ble_eq_true rfl) rfl rfl rfl (ctX9_namesOf (yl Y) g a1 a2  M q1 e2) rfl (Nat.le_of_ble_eq_true rfl) (Nat.le_of_ble_eq_true rfl) dX9_minutesOf_18 ?_
    refine aw_aload_n E dX9_minutesOf_21 0 rfl ?_
    refine aw_iload_n E dX9_minutesOf_22 3 rfl ?_
    obtain ⟨q3, e4, h⟩ := lt_e h
    have J5 : AW Y (WY g) r 5 3 31 [(0, .ref (wad (WY g) 0)), (1, .int a1), (2, .int a2)] [.int q3, .ref (wad (WY g) 0)] q1 := by
      obtain ⟨q6, e7, h⟩ := bd_e h
      refine aw_callVi (S := []) E mvX9_worth mlX9_197 (Nat.le_of_ble_eq_true rfl) rfl rfl rfl (ctX9_worth (yl Y) g q3  q1 q6 e7) rfl (Nat.le_of_ble_eq_true rfl) (Nat.le_of_ble_eq_true rfl) dX9_minutesOf_31 ?_
      refine aw_iconst (v := 1) E dX9_minutesOf_34 (by decide) ?_
      refine aw_bipush (v := 99) E dX9_minutesOf_35 (by decide) ?_
      refine aw_callSi (S := []) E msX9_within mlX9_200 rfl (ctX9_within (yl Y) g q6.1 1 99  q6.2 ) rfl (Nat.le_of_ble_eq_true rfl) (Nat.le_of_ble_eq_true rfl) dX9_minutesOf_37 ?_
      obtain ⟨x8, e9, h⟩ := lt_e h
      refine aw_nmI e9 ?_
      refine aw_istore (L1 := [(4, .int x8), (0, .ref (wad (WY g) 0)), (1, .int a1), (2, .int a2)]) E dX9_minutesOf_40 (Nat.le_of_ble_eq_true rfl) rfl ?_
      refine aw_aload_n E dX9_minutesOf_42 1 rfl ?_
      refine aw_getR (q := 1) E flX9_13 (Nat.le_of_ble_eq_true rfl) rfl rfl dX9_minutesOf_43 ?_
      refine aw_iload_n E dX9_minutesOf_46 2 rfl ?_
      obtain ⟨g10, h⟩ := gi_e h
      refine aw_iald E (Nat.le_of_ble_eq_true rfl) rfl g10 dX9_minutesOf_47 ?_
      refine aw_iconst (v := 2) E dX9_minutesOf_48 (by decide) ?_
      obtain ⟨b11, e12, h⟩ := bd_e h
      obtain ⟨q13, e14, h⟩ := lt_e h
      have J15 : AW Y (WY g) r 5 3 74 [(0, .ref (wad (WY g) 0)), (1, .int a1), (4, .int q13)] [] q6.2 := by
        refine aw_aload_n E dX9_minutesOf_74 0 rfl ?_
        refine aw_getR (q := 1) E flX9_13 (Nat.le_of_ble_eq_true rfl) rfl rfl dX9_minutesOf_75 ?_
        refine aw_iload_n E dX9_minutesOf_78 1 rfl ?_
        obtain ⟨g16, h⟩ := gi_e h
        refine aw_iald E (Nat.le_of_ble_eq_true rfl) rfl g16 dX9_minutesOf_79 ?_
        refine aw_iconst (v := 4) E dX9_minutesOf_80 (by decide) ?_
        obtain ⟨b17, e18, h⟩ := lt_e h
        have J19 : b17 = true → AW Y (WY g) r 5 3 93 [(0, .ref (wad (WY g) 0)), (1, .int a1), (4, .int q13)] [] q6.2 := fun hb => by
          replace h := ip hb h
          refine aw_iload E dX9_minutesOf_93 2 rfl ?_
          refine aw_aload_n E dX9_minutesOf_95 0 rfl ?_
          refine aw_getR (q := 5) E flX9_26 (Nat.le_of_ble_eq_true rfl) rfl rfl dX9_minutesOf_96 ?_
          refine aw_iload_n E dX9_minutesOf_99 1 rfl ?_
          obtain ⟨g21, h⟩ := gi_e h
          refine aw_iald E (Nat.le_of_ble_eq_true rfl) rfl g21 dX9_minutesOf_100 ?_
          refine aw_iadd E dX9_minutesOf_101 ?_
          refine aw_iconst (v := 1) E dX9_minutesOf_102 (by decide) ?_
          refine aw_bipush (v := 99) E dX9_minutesOf_103 (by decide) ?_
          refine aw_callSi (S := []) E msX9_within mlX9_200 rfl (ctX9_within (yl Y) g (q13 + (q6.2.1 5 (Int32.toNatClampNeg a1))) 1 99  q6.2 ) rfl (Nat.le_of_ble_eq_true rfl) (Nat.le_of_ble_eq_true rfl) dX9_minutesOf_105 ?_
          refine aw_goto (tgt := 113) E dX9_minutesOf_108 rfl ?_
          replace h := Option.some.inj h
          subst h
          exact aw_iret E dX9_minutesOf_113 hr
        have J20 : b17 = false → AW Y (WY g) r 5 3 111 [(0, .ref (wad (WY g) 0)), (1, .int a1), (4, .int q13)] [] q6.2 := fun hb => by
          replace h := iq (bf hb) h
          refine aw_iload E dX9_minutesOf_111 2 rfl ?_
          replace h := Option.some.inj h
          subst h
          exact aw_iret E dX9_minutesOf_113 hr
        refine aw_icmp_ne (tgt := 111) E dX9_minutesOf_81 rfl (fun c81 => ?_) (fun c81 => ?_)
        ·
          replace e18 := iq c81 e18
          subst e18
          exact J20 rfl
        ·
          replace e18 := ip c81 e18
          refine aw_aload_n E dX9_minutesOf_84 0 rfl ?_
          refine aw_getI E flX9_7 (Nat.le_of_ble_eq_true rfl) rfl rfl dX9_minutesOf_85 ?_
          refine aw_bipush (v := 12) E dX9_minutesOf_88 (by decide) ?_
          refine aw_icmp_lt (tgt := 111) E dX9_minutesOf_90 rfl (fun c90 => ?_) (fun c90 => ?_)
          ·
            replace e18 := ip c90 e18
            subst e18
            exact J20 rfl
          ·
            replace e18 := iq c90 e18
            subst e18
            exact J19 rfl
      have J22 : b11 = true → AW Y (WY g) r 5 3 62 [(4, .int x8), (0, .ref (wad (WY g) 0)), (1, .int a1), (2, .int a2)] [] q6.2 := fun hb => by
        replace e14 := ip hb e14
        refine aw_iconst (v := 2) E dX9_minutesOf_62 (by decide) ?_
        refine aw_iload E dX9_minutesOf_63 0 rfl ?_
        refine aw_imul E dX9_minutesOf_65 ?_
        refine aw_iconst (v := 1) E dX9_minutesOf_66 (by decide) ?_
        refine aw_bipush (v := 99) E dX9_minutesOf_67 (by decide) ?_
        refine aw_callSi (S := []) E msX9_within mlX9_200 rfl (ctX9_within (yl Y) g (2 * x8) 1 99  q6.2 ) rfl (Nat.le_of_ble_eq_true rfl) (Nat.le_of_ble_eq_true rfl) dX9_minutesOf_69 ?_
        obtain ⟨x24, e25, e14⟩ := lt_e e14
        refine aw_nmI e25 ?_
        refine aw_istore (L1 := [(4, .int x24), (0, .ref (wad (WY g) 0)), (1, .int a1), (2, .int a2)]) E dX9_minutesOf_72 (Nat.le_of_ble_eq_true rfl) rfl ?_
        refine aw_sub (L1 := [(0, .ref (wad (WY g) 0)), (1, .int a1), (4, .int x24)]) [1, 2, 0] rfl ?_
        subst e14
        exact J15
      have J23 : b11 = false → AW Y (WY g) r 5 3 74 [(4, .int x8), (0, .ref (wad (WY g) 0)), (1, .int a1), (2, .int a2)] [] q6.2 := fun hb => by
        replace e14 := iq (bf hb) e14
        refine aw_sub (L1 := [(0, .ref (wad (WY g) 0)), (1, .int a1), (4, .int x8)]) [1, 2, 0] rfl ?_
        subst e14
        exact J15
      refine aw_icmp_ne (tgt := 74) E dX9_minutesOf_49 rfl (fun c49 => ?_) (fun c49 => ?_)
      ·
        replace e12 := iq c49 e12
        replace e12 := Option.some.inj e12
        subst e12
        exact J23 rfl
      ·
        replace e12 := ip c49 e12
        refine aw_iload_n E dX9_minutesOf_52 3 rfl ?_
        refine aw_aload_n E dX9_minutesOf_53 1 rfl ?_
        refine aw_getR (q := 3) E flX9_20 (Nat.le_of_ble_eq_true rfl) rfl rfl dX9_minutesOf_54 ?_
        refine aw_iload_n E dX9_minutesOf_57 2 rfl ?_
        obtain ⟨g26, e12⟩ := gi_e e12
        refine aw_iald E (Nat.le_of_ble_eq_true rfl) rfl g26 dX9_minutesOf_58 ?_
        refine aw_icmp_ne (tgt := 74) E dX9_minutesOf_59 rfl (fun c59 => ?_) (fun c59 => ?_)
        ·
          replace e12 := iq c59 e12
          replace e12 := Option.some.inj e12
          subst e12
          exact J23 rfl
        ·
          replace e12 := ip c59 e12
          replace e12 := Option.some.inj e12
          subst e12
          exact J22 rfl
    refine aw_if_eq (tgt := 30) E dX9_minutesOf_23 rfl (fun c23 => ?_) (fun c23 => ?_)
    ·
      replace e4 := ip c23 e4
      refine aw_iconst (v := 0) E dX9_minutesOf_30 (by decide) ?_
      refine aw_sub (L1 := [(0, .ref (wad (WY g) 0)), (1, .int a1), (2, .int a2)]) [0, 1, 2] rfl ?_
      subst e4
      exact J5
    ·
      replace e4 := iq c23 e4
      refine aw_iconst (v := 1) E dX9_minutesOf_26 (by decide) ?_
      refine aw_goto (tgt := 31) E dX9_minutesOf_27 rfl ?_
      refine aw_sub (L1 := [(0, .ref (wad (WY g) 0)), (1, .int a1), (2, .int a2)]) [0, 1, 2] rfl ?_
      subst e4
      exact J5
  ·
    replace h := iq c5 h
    refine aw_aload_n E dX9_minutesOf_8 0 rfl ?_
    refine aw_getR (q := 4) E flX9_23 (Nat.le_of_ble_eq_true rfl) rfl rfl dX9_minutesOf_9 ?_
    refine aw_iload_n E dX9_minutesOf_12 1 rfl ?_
    obtain ⟨g27, h⟩ := gi_e h
    refine aw_iald E (Nat.le_of_ble_eq_true rfl) rfl g27 dX9_minutesOf_13 ?_
    replace h := Option.some.inj h
    subst h
    exact aw_iret E dX9_minutesOf_14 hr
def FX9_looks_L41 : Nat → Int32 → Int32 → Mem → Option (Mem)
  | 0, _, _, _ => none
  | f + 1, p2, p3, M =>
    if 4 ≤ p3 then
      some M
    else
      ob (α := Int32) (if (p3 - p3 / 2 * 2) = 0 then
        gi p2 13 <|
        some (M.1 2 (Int32.toNatClampNeg p2))
      else
        gi p2 13 <|
        some (M.1 3 (Int32.toNatClampNeg p2))) fun q101 =>
      lt (α := Int32) (if p3 ≤ 1 then
        0
      else
        1) fun q104 =>
      ob (FX9_mayGo p2 q101 q104 M) fun q107 =>
      ob (α := Int32 × Mem) (if q107.1 = 0 then
        some (0, q107.2)
      else
        lt (α := Int32) (if p3 ≤ 1 then
          0
        else
          1) fun q117 =>
        ob (FX9_minutesOf p2 q101 q117 q107.2) fun q120 =>
        some (q120.1, q120.2)) fun q109 =>
      gi ((4 * p2) + p3) 52 <|
      lt (wr q109.2 17 (Int32.toNatClampNeg ((4 * p2) + p3)) q109.1) fun M113 =>
      lt (α := Int32) (p3 + 1) fun x115 =>
      FX9_looks_L41 f p2 x115 M113
def FX9_looks_L20 : Nat → Int32 → Mem → Option (Mem)
  | 0, _, _ => none
  | f + 1, p2, M =>
    if (M.1 0 40) ≤ p2 then
      some M
    else
      ob (FX9_spendsOf p2 M) fun q101 =>
      gi p2 13 <|
      lt (wr M 18 (Int32.toNatClampNeg p2) q101) fun M104 =>
      ob (FX9_looks_L41 FU p2 0 M104) fun q106 =>
      lt (α := Int32) (p2 + 1) fun x108 =>
      FX9_looks_L20 f  x108 q106
def FX9_looks (a1 : Int32) (M : Mem) : Option (Mem) :=
  lt (α := Int32) (if a1 = 0 then
    0
  else
    1) fun q1 =>
  lt (wr M 0 40 ((M.1 0 3) + q1)) fun M4 =>
  ob (FX9_looks_L20 FU 0 M4) fun q6 =>
  some q6
set_option maxHeartbeats 4000000 in
set_option maxRecDepth 100000 in
theorem lpX9_looks_41 {Y : CtxM} {g : CtxG} {r : Option Value × Mem} (E : EV Y (WY g) cX9_looks 5 none RX9) (p2 : Int32) : ∀ (f : Nat) (p3 : Int32) (M : Mem) (q : Mem), FX9_looks_L41 f p2 p3 M = some q → AW Y (WY g) r 5 4 126 [(0, .ref (wad (WY g) 0)), (2, .int p2)] [] q → AW Y (WY g) r 5 4 41 [(0, .ref (wad (WY g) 0)), (2, .int p2), (3, .int p3)] [] M := by
  intro f
  induction f with
  | zero => intro p3 M q hh; exact absurd hh (fun z => nomatch (show (none : Option (Mem)) = some q from z))
  | succ f ih =>
    intro p3 M q hh kx
    rw [FX9_looks_L41] at hh
    refine aw_iload_n E dX9_looks_41 2 rfl ?_
    refine aw_iconst (v := 4) E dX9_looks_42 (by decide) ?_
    refine aw_icmp_ge (tgt := 126) E dX9_looks_43 rfl (fun c43 => ?_) (fun c43 => ?_)
    ·
      replace hh := ip c43 hh
      refine aw_sub (L1 := [(0, .ref (wad (WY g) 0)), (2, .int p2)]) [0, 1] rfl ?_
      replace hh := Option.some.inj hh
      subst hh
      exact kx
    ·
      replace hh := iq c43 hh
      refine aw_iload_n E dX9_looks_46 2 rfl ?_
      refine aw_iconst (v := 2) E dX9_looks_47 (by decide) ?_
      refine aw_irem E dX9_looks_48 (by decide) ?_
      obtain ⟨q101, e102, hh⟩ := bd_e hh
      have J103 : AW Y (WY g) r 5 4 67 [(0, .ref (wad (WY g) 0)), (2, .int p2), (3, .int p3)] [.int q101] M := by
        refine aw_istore (L1 := [(4, .int q101), (0, .ref (wad (WY g) 0)), (2, .int p2), (3, .int p3)]) E dX9_looks_67 (Nat.le_of_ble_eq_true rfl) rfl ?_
        refine aw_aload_n E dX9_looks_69 1 rfl ?_
        refine aw_getR (q := 17) E flX9_62 (Nat.le_of_ble_eq_true rfl) rfl rfl dX9_looks_70 ?_
        refine aw_iconst (v := 4) E dX9_looks_73 (by decide) ?_
        refine aw_iload_n E dX9_looks_74 2 rfl ?_
        refine aw_imul E dX9_looks_75 ?_
        refine aw_iload_n E dX9_looks_76 3 rfl ?_
        refine aw_iadd E dX9_looks_77 ?_
        refine aw_aload_n E dX9_looks_78 1 rfl ?_
        refine aw_iload_n E dX9_looks_79 2 rfl ?_
        refine aw_iload E dX9_looks_80 0 rfl ?_
        refine aw_iload_n E dX9_looks_82 3 rfl ?_
        refine aw_iconst (v := 1) E dX9_looks_83 (by decide) ?_
        obtain ⟨q104, e105, hh⟩ := lt_e hh
        have J106 : AW Y (WY g) r 5 4 92 [(0, .ref (wad (WY g) 0)), (2, .int p2), (3, .int p3), (4, .int q101)] [.int q104, .int q101, .int p2, .ref (wad (WY g) 0), .int ((4 * p2) + p3), .ref (wad (WY g) 17)] M := by
          obtain ⟨q107, e108, hh⟩ := bd_e hh
          refine aw_callVi (S := [.int ((4 * p2) + p3), .ref (wad (WY g) 17)]) E mvX9_mayGo mlX9_203 (Nat.le_of_ble_eq_true rfl) rfl rfl rfl (ctX9_mayGo (yl Y) g p2 q101 q104  M q107 e108) rfl (Nat.le_of_ble_eq_true rfl) (Nat.le_of_ble_eq_true rfl) dX9_looks_92 ?_
          obtain ⟨q109, e110, hh⟩ := bd_e hh
          have J111 : AW Y (WY g) r 5 4 119 [(0, .ref (wad (WY g) 0)), (2, .int p2), (3, .int p3)] [.int q109.1, .int ((4 * p2) + p3), .ref (wad (WY g) 17)] q109.2 := by
            obtain ⟨g112, hh⟩ := gi_e hh
            obtain ⟨M113, e114, hh⟩ := lt_e hh
            refine aw_iast1 e114 E (Nat.le_of_ble_eq_true rfl) rfl g112 dX9_looks_119 ?_
            obtain ⟨x115, e116, hh⟩ := lt_e hh
            refine aw_iinc (v := x115) (L1 := [(3, .int x115), (0, .ref (wad (WY g) 0)), (2, .int p2)]) E dX9_looks_120 2 rfl e116 (Nat.le_of_ble_eq_true rfl) rfl ?_
            refine aw_goto (tgt := 41) E dX9_looks_123 rfl ?_
            refine aw_sub (L1 := [(0, .ref (wad (WY g) 0)), (2, .int p2), (3, .int x115)]) [1, 2, 0] rfl ?_
            exact ih x115 M113 _ hh kx
          refine aw_if_eq (tgt := 118) E dX9_looks_95 rfl (fun c95 => ?_) (fun c95 => ?_)
          ·
            replace e110 := ip c95 e110
            refine aw_iconst (v := 0) E dX9_looks_118 (by decide) ?_
            refine aw_sub (L1 := [(0, .ref (wad (WY g) 0)), (2, .int p2), (3, .int p3)]) [0, 1, 2] rfl ?_
            replace e110 := Option.some.inj e110
            subst e110
            exact J111
          ·
            replace e110 := iq c95 e110
            refine aw_aload_n E dX9_looks_98 0 rfl ?_
            refine aw_iload_n E dX9_looks_99 1 rfl ?_
            refine aw_iload E dX9_looks_100 3 rfl ?_
            refine aw_iload_n E dX9_looks_102 2 rfl ?_
            refine aw_iconst (v := 1) E dX9_looks_103 (by decide) ?_
            obtain ⟨q117, e118, e110⟩ := lt_e e110
            have J119 : AW Y (WY g) r 5 4 112 [(0, .ref (wad (WY g) 0)), (2, .int p2), (3, .int p3)] [.int q117, .int q101, .int p2, .ref (wad (WY g) 0), .int ((4 * p2) + p3), .ref (wad (WY g) 17)] q107.2 := by
              obtain ⟨q120, e121, e110⟩ := bd_e e110
              refine aw_callVi (S := [.int ((4 * p2) + p3), .ref (wad (WY g) 17)]) E mvX9_minutesOf mlX9_207 (Nat.le_of_ble_eq_true rfl) rfl rfl rfl (ctX9_minutesOf (yl Y) g p2 q101 q117  q107.2 q120 e121) rfl (Nat.le_of_ble_eq_true rfl) (Nat.le_of_ble_eq_true rfl) dX9_looks_112 ?_
              refine aw_goto (tgt := 119) E dX9_looks_115 rfl ?_
              refine aw_sub (L1 := [(0, .ref (wad (WY g) 0)), (2, .int p2), (3, .int p3)]) [0, 1, 2] rfl ?_
              replace e110 := Option.some.inj e110
              subst e110
              exact J111
            refine aw_icmp_le (tgt := 111) E dX9_looks_104 rfl (fun c104 => ?_) (fun c104 => ?_)
            ·
              replace e118 := ip c104 e118
              refine aw_iconst (v := 0) E dX9_looks_111 (by decide) ?_
              refine aw_sub (L1 := [(0, .ref (wad (WY g) 0)), (2, .int p2), (3, .int p3)]) [0, 1, 2] rfl ?_
              subst e118
              exact J119
            ·
              replace e118 := iq c104 e118
              refine aw_iconst (v := 1) E dX9_looks_107 (by decide) ?_
              refine aw_goto (tgt := 112) E dX9_looks_108 rfl ?_
              refine aw_sub (L1 := [(0, .ref (wad (WY g) 0)), (2, .int p2), (3, .int p3)]) [0, 1, 2] rfl ?_
              subst e118
              exact J119
        refine aw_icmp_le (tgt := 91) E dX9_looks_84 rfl (fun c84 => ?_) (fun c84 => ?_)
        ·
          replace e105 := ip c84 e105
          refine aw_iconst (v := 0) E dX9_looks_91 (by decide) ?_
          refine aw_sub (L1 := [(0, .ref (wad (WY g) 0)), (2, .int p2), (3, .int p3), (4, .int q101)]) [1, 2, 3, 0] rfl ?_
          subst e105
          exact J106
        ·
          replace e105 := iq c84 e105
          refine aw_iconst (v := 1) E dX9_looks_87 (by decide) ?_
          refine aw_goto (tgt := 92) E dX9_looks_88 rfl ?_
          refine aw_sub (L1 := [(0, .ref (wad (WY g) 0)), (2, .int p2), (3, .int p3), (4, .int q101)]) [1, 2, 3, 0] rfl ?_
          subst e105
          exact J106
      refine aw_if_ne (tgt := 61) E dX9_looks_49 rfl (fun c49 => ?_) (fun c49 => ?_)
      ·
        replace e102 := iq c49 e102
        refine aw_aload_n E dX9_looks_61 0 rfl ?_
        refine aw_getR (q := 3) E flX9_20 (Nat.le_of_ble_eq_true rfl) rfl rfl dX9_looks_62 ?_
        refine aw_iload_n E dX9_looks_65 1 rfl ?_
        obtain ⟨g122, e102⟩ := gi_e e102
        refine aw_iald E (Nat.le_of_ble_eq_true rfl) rfl g122 dX9_looks_66 ?_
        refine aw_sub (L1 := [(0, .ref (wad (WY g) 0)), (2, .int p2), (3, .int p3)]) [0, 1, 2] rfl ?_
        replace e102 := Option.some.inj e102
        subst e102
        exact J103
      ·
        replace e102 := ip c49 e102
        refine aw_aload_n E dX9_looks_52 0 rfl ?_
        refine aw_getR (q := 2) E flX9_17 (Nat.le_of_ble_eq_true rfl) rfl rfl dX9_looks_53 ?_
        refine aw_iload_n E dX9_looks_56 1 rfl ?_
        obtain ⟨g123, e102⟩ := gi_e e102
        refine aw_iald E (Nat.le_of_ble_eq_true rfl) rfl g123 dX9_looks_57 ?_
        refine aw_goto (tgt := 67) E dX9_looks_58 rfl ?_
        refine aw_sub (L1 := [(0, .ref (wad (WY g) 0)), (2, .int p2), (3, .int p3)]) [0, 1, 2] rfl ?_
        replace e102 := Option.some.inj e102
        subst e102
        exact J103
set_option maxHeartbeats 4000000 in
set_option maxRecDepth 100000 in
theorem lpX9_looks_20 {Y : CtxM} {g : CtxG} {r : Option Value × Mem} (E : EV Y (WY g) cX9_looks 5 none RX9) : ∀ (f : Nat) (p2 : Int32) (M : Mem) (q : Mem), FX9_looks_L20 f  p2 M = some q → AW Y (WY g) r 5 4 132 [] [] q → AW Y (WY g) r 5 4 20 [(0, .ref (wad (WY g) 0)), (2, .int p2)] [] M := by
  intro f
  induction f with
  | zero => intro p2 M q hh; exact absurd hh (fun z => nomatch (show (none : Option (Mem)) = some q from z))
  | succ f ih =>
    intro p2 M q hh kx
    rw [FX9_looks_L20] at hh
    refine aw_iload_n E dX9_looks_20 1 rfl ?_
    refine aw_aload_n E dX9_looks_21 0 rfl ?_
    refine aw_getI E flX9_211 (Nat.le_of_ble_eq_true rfl) rfl rfl dX9_looks_22 ?_
    refine aw_icmp_ge (tgt := 132) E dX9_looks_25 rfl (fun c25 => ?_) (fun c25 => ?_)
    ·
      replace hh := ip c25 hh
      refine aw_sub (L1 := []) [] rfl ?_
      replace hh := Option.some.inj hh
      subst hh
      exact kx
    ·
      replace hh := iq c25 hh
      refine aw_aload_n E dX9_looks_28 0 rfl ?_
      refine aw_getR (q := 18) E flX9_65 (Nat.le_of_ble_eq_true rfl) rfl rfl dX9_looks_29 ?_
      refine aw_iload_n E dX9_looks_32 1 rfl ?_
      refine aw_aload_n E dX9_looks_33 0 rfl ?_
      refine aw_iload_n E dX9_looks_34 1 rfl ?_
      obtain ⟨q101, e102, hh⟩ := bd_e hh
      refine aw_callVi (S := [.int p2, .ref (wad (WY g) 18)]) E mvX9_spendsOf mlX9_190 (Nat.le_of_ble_eq_true rfl) rfl rfl rfl (ctX9_spendsOf (yl Y) g p2  M q101 e102) rfl (Nat.le_of_ble_eq_true rfl) (Nat.le_of_ble_eq_true rfl) dX9_looks_35 ?_
      obtain ⟨g103, hh⟩ := gi_e hh
      obtain ⟨M104, e105, hh⟩ := lt_e hh
      refine aw_iast1 e105 E (Nat.le_of_ble_eq_true rfl) rfl g103 dX9_looks_38 ?_
      refine aw_iconst (v := 0) E dX9_looks_39 (by decide) ?_
      refine aw_istore_n (L1 := [(3, .int 0), (0, .ref (wad (WY g) 0)), (2, .int p2)]) E dX9_looks_40 (Nat.le_of_ble_eq_true rfl) rfl ?_
      obtain ⟨q106, e107, hh⟩ := bd_e hh
      refine aw_sub (L1 := [(0, .ref (wad (WY g) 0)), (2, .int p2), (3, .int 0)]) [1, 2, 0] rfl ?_
      refine lpX9_looks_41 E   p2 FU 0 M104 q106 e107 ?_
      obtain ⟨x108, e109, hh⟩ := lt_e hh
      refine aw_iinc (v := x108) (L1 := [(2, .int x108), (0, .ref (wad (WY g) 0))]) E dX9_looks_126 1 rfl e109 (Nat.le_of_ble_eq_true rfl) rfl ?_
      refine aw_goto (tgt := 20) E dX9_looks_129 rfl ?_
      refine aw_sub (L1 := [(0, .ref (wad (WY g) 0)), (2, .int x108)]) [1, 0] rfl ?_
      exact ih x108 q106 _ hh kx
set_option maxHeartbeats 4000000 in
set_option maxRecDepth 100000 in
theorem ctX9_looks (l : Launch) (g : CtxG) (a1 : Int32) (M : Mem) (r0 : Mem) (h : FX9_looks a1 M = some r0) : Ct l (WY g) yX9_looks cX9_looks 5 none 4 [.ref (wad (WY g) 0), .int a1] M (none, r0) := by
  refine Ct.of (by decide) (Nat.le_of_ble_eq_true rfl) (fun Y hY E => ?_)
  have E : EV Y (WY g) cX9_looks 5 none RX9 := E
  have h : FX9_looks a1 M = some r0 := h
  unfold FX9_looks at h
  show AW Y (WY g) _ 5 4 0 [(0, .ref (wad (WY g) 0)), (1, .int a1)] [] M
  obtain ⟨r, hr⟩ : ∃ r : Option Value × Mem, r = (none, r0) := ⟨_, rfl⟩
  rw [← hr]
  refine aw_aload_n E dX9_looks_0 0 rfl ?_
  refine aw_aload_n E dX9_looks_1 0 rfl ?_
  refine aw_getI E flX9_92 (Nat.le_of_ble_eq_true rfl) rfl rfl dX9_looks_2 ?_
  refine aw_iload_n E dX9_looks_5 1 rfl ?_
  obtain ⟨q1, e2, h⟩ := lt_e h
  have J3 : AW Y (WY g) r 5 4 14 [(0, .ref (wad (WY g) 0))] [.int q1, .int (M.1 0 3), .ref (wad (WY g) 0)] M := by
    refine aw_iadd E dX9_looks_14 ?_
    obtain ⟨M4, e5, h⟩ := lt_e h
    refine aw_putI1 e5 E flX9_211 (Nat.le_of_ble_eq_true rfl) rfl rfl nr_int dX9_looks_15 ?_
    refine aw_iconst (v := 0) E dX9_looks_18 (by decide) ?_
    refine aw_istore_n (L1 := [(2, .int 0), (0, .ref (wad (WY g) 0))]) E dX9_looks_19 (Nat.le_of_ble_eq_true rfl) rfl ?_
    obtain ⟨q6, e7, h⟩ := bd_e h
    refine aw_sub (L1 := [(0, .ref (wad (WY g) 0)), (2, .int 0)]) [1, 0] rfl ?_
    refine lpX9_looks_20 E    FU 0 M4 q6 e7 ?_
    replace h := Option.some.inj h
    subst h
    exact aw_vret E dX9_looks_132 hr
  refine aw_if_eq (tgt := 13) E dX9_looks_6 rfl (fun c6 => ?_) (fun c6 => ?_)
  ·
    replace e2 := ip c6 e2
    refine aw_iconst (v := 0) E dX9_looks_13 (by decide) ?_
    refine aw_sub (L1 := [(0, .ref (wad (WY g) 0))]) [0] rfl ?_
    subst e2
    exact J3
  ·
    replace e2 := iq c6 e2
    refine aw_iconst (v := 1) E dX9_looks_9 (by decide) ?_
    refine aw_goto (tgt := 14) E dX9_looks_10 rfl ?_
    refine aw_sub (L1 := [(0, .ref (wad (WY g) 0))]) [0] rfl ?_
    subst e2
    exact J3
def FX9_spentBy_L7 : Nat → Int32 → Int32 → Int32 → Mem → Option (Int32)
  | 0, _, _, _, _ => none
  | f + 1, p1, p2, p3, M =>
    if (M.1 0 40) ≤ p3 then
      some p2
    else
      ob (α := Int32) (if ((p1 >>> (p3 &&& 31)) &&& 1) = 1 then
        gi p3 13 <|
        some (M.1 18 (Int32.toNatClampNeg p3))
      else
        some 0) fun q101 =>
      lt (α := Int32) (p2 ||| q101) fun x104 =>
      lt (α := Int32) (p3 + 1) fun x106 =>
      FX9_spentBy_L7 f p1 x104 x106 M
def FX9_spentBy (a1 : Int32) (M : Mem) : Option (Int32) :=
  lt (α := Int32) (M.1 0 9) fun x1 =>
  ob (FX9_spentBy_L7 FU a1 x1 0 M) fun q3 =>
  some q3
set_option maxHeartbeats 4000000 in
set_option maxRecDepth 100000 in
theorem lpX9_spentBy_7 {Y : CtxM} {g : CtxG} {r : Option Value × Mem} (E : EV Y (WY g) cX9_spentBy 4 (some .int) RX9) (p1 : Int32) : ∀ (f : Nat) (p2 : Int32) (p3 : Int32) (M : Mem) (q : Int32), FX9_spentBy_L7 f p1 p2 p3 M = some q → AW Y (WY g) r 4 1 43 [(2, .int q)] [] M → AW Y (WY g) r 4 1 7 [(0, .ref (wad (WY g) 0)), (1, .int p1), (2, .int p2), (3, .int p3)] [] M := by
  intro f
  induction f with
  | zero => intro p2 p3 M q hh; exact absurd hh (fun z => nomatch (show (none : Option (Int32)) = some q from z))
  | succ f ih =>
    intro p2 p3 M q hh kx
    rw [FX9_spentBy_L7] at hh
    refine aw_iload_n E dX9_spentBy_7 3 rfl ?_
    refine aw_aload_n E dX9_spentBy_8 0 rfl ?_
    refine aw_getI E flX9_211 (Nat.le_of_ble_eq_true rfl) rfl rfl dX9_spentBy_9 ?_
    refine aw_icmp_ge (tgt := 43) E dX9_spentBy_12 rfl (fun c12 => ?_) (fun c12 => ?_)
    ·
      replace hh := ip c12 hh
      refine aw_sub (L1 := [(2, .int p2)]) [2] rfl ?_
      replace hh := Option.some.inj hh
      subst hh
      exact kx
    ·
      replace hh := iq c12 hh
      refine aw_iload_n E dX9_spentBy_15 2 rfl ?_
      refine aw_iload_n E dX9_spentBy_16 1 rfl ?_
      refine aw_iload_n E dX9_spentBy_17 3 rfl ?_
      refine aw_ishr E dX9_spentBy_18 ?_
      refine aw_iconst (v := 1) E dX9_spentBy_19 (by decide) ?_
      refine aw_iand E dX9_spentBy_20 ?_
      refine aw_iconst (v := 1) E dX9_spentBy_21 (by decide) ?_
      obtain ⟨q101, e102, hh⟩ := bd_e hh
      have J103 : AW Y (WY g) r 4 1 35 [(0, .ref (wad (WY g) 0)), (1, .int p1), (3, .int p3)] [.int q101, .int p2] M := by
        refine aw_ior E dX9_spentBy_35 ?_
        obtain ⟨x104, e105, hh⟩ := lt_e hh
        refine aw_nmI e105 ?_
        refine aw_istore_n (L1 := [(2, .int x104), (0, .ref (wad (WY g) 0)), (1, .int p1), (3, .int p3)]) E dX9_spentBy_36 (Nat.le_of_ble_eq_true rfl) rfl ?_
        obtain ⟨x106, e107, hh⟩ := lt_e hh
        refine aw_iinc (v := x106) (L1 := [(3, .int x106), (2, .int x104), (0, .ref (wad (WY g) 0)), (1, .int p1)]) E dX9_spentBy_37 3 rfl e107 (Nat.le_of_ble_eq_true rfl) rfl ?_
        refine aw_goto (tgt := 7) E dX9_spentBy_40 rfl ?_
        refine aw_sub (L1 := [(0, .ref (wad (WY g) 0)), (1, .int p1), (2, .int x104), (3, .int x106)]) [2, 3, 1, 0] rfl ?_
        exact ih x104 x106 M _ hh kx
      refine aw_icmp_ne (tgt := 34) E dX9_spentBy_22 rfl (fun c22 => ?_) (fun c22 => ?_)
      ·
        replace e102 := iq c22 e102
        refine aw_iconst (v := 0) E dX9_spentBy_34 (by decide) ?_
        refine aw_sub (L1 := [(0, .ref (wad (WY g) 0)), (1, .int p1), (3, .int p3)]) [0, 1, 3] rfl ?_
        replace e102 := Option.some.inj e102
        subst e102
        exact J103
      ·
        replace e102 := ip c22 e102
        refine aw_aload_n E dX9_spentBy_25 0 rfl ?_
        refine aw_getR (q := 18) E flX9_65 (Nat.le_of_ble_eq_true rfl) rfl rfl dX9_spentBy_26 ?_
        refine aw_iload_n E dX9_spentBy_29 3 rfl ?_
        obtain ⟨g108, e102⟩ := gi_e e102
        refine aw_iald E (Nat.le_of_ble_eq_true rfl) rfl g108 dX9_spentBy_30 ?_
        refine aw_goto (tgt := 35) E dX9_spentBy_31 rfl ?_
        refine aw_sub (L1 := [(0, .ref (wad (WY g) 0)), (1, .int p1), (3, .int p3)]) [0, 1, 3] rfl ?_
        replace e102 := Option.some.inj e102
        subst e102
        exact J103
set_option maxHeartbeats 4000000 in
set_option maxRecDepth 100000 in
theorem ctX9_spentBy (l : Launch) (g : CtxG) (a1 : Int32) (M : Mem) (r0 : Int32) (h : FX9_spentBy a1 M = some r0) : Ct l (WY g) yX9_spentBy cX9_spentBy 4 (some .int) 1 [.ref (wad (WY g) 0), .int a1] M (some (.int r0), M) := by
  refine Ct.of (by decide) (Nat.le_of_ble_eq_true rfl) (fun Y hY E => ?_)
  have E : EV Y (WY g) cX9_spentBy 4 (some .int) RX9 := E
  have h : FX9_spentBy a1 M = some r0 := h
  unfold FX9_spentBy at h
  show AW Y (WY g) _ 4 1 0 [(0, .ref (wad (WY g) 0)), (1, .int a1)] [] M
  obtain ⟨r, hr⟩ : ∃ r : Option Value × Mem, r = (some (.int r0), M) := ⟨_, rfl⟩
  rw [← hr]
  refine aw_aload_n E dX9_spentBy_0 0 rfl ?_
  refine aw_getI E flX9_105 (Nat.le_of_ble_eq_true rfl) rfl rfl dX9_spentBy_1 ?_
  obtain ⟨x1, e2, h⟩ := lt_e h
  refine aw_nmI e2 ?_
  refine aw_istore_n (L1 := [(2, .int x1), (0, .ref (wad (WY g) 0)), (1, .int a1)]) E dX9_spentBy_4 (Nat.le_of_ble_eq_true rfl) rfl ?_
  refine aw_iconst (v := 0) E dX9_spentBy_5 (by decide) ?_
  refine aw_istore_n (L1 := [(3, .int 0), (2, .int x1), (0, .ref (wad (WY g) 0)), (1, .int a1)]) E dX9_spentBy_6 (Nat.le_of_ble_eq_true rfl) rfl ?_
  obtain ⟨q3, e4, h⟩ := bd_e h
  refine aw_sub (L1 := [(0, .ref (wad (WY g) 0)), (1, .int a1), (2, .int x1), (3, .int 0)]) [2, 3, 1, 0] rfl ?_
  refine lpX9_spentBy_7 E   a1 FU x1 0 M q3 e4 ?_
  refine aw_iload_n E dX9_spentBy_43 0 rfl ?_
  replace h := Option.some.inj h
  subst h
  exact aw_iret E dX9_spentBy_44 hr
def FX9_passedBy_L9 : Nat → Int32 → Int32 → Int32 → Mem → Option (Int32)
  | 0, _, _, _, _ => none
  | f + 1, p1, p2, p3, M =>
    if (M.1 0 40) ≤ p3 then
      some p2
    else
      ob (α := Int32) (if ((p1 >>> (p3 &&& 31)) &&& 1) = 1 then
        gi p3 13 <|
        gi p3 13 <|
        some (((1 : Int32) <<< ((M.1 2 (Int32.toNatClampNeg p3)) &&& 31)) ||| ((1 : Int32) <<< ((M.1 3 (Int32.toNatClampNeg p3)) &&& 31)))
      else
        some 0) fun q101 =>
      lt (α := Int32) (p2 ||| q101) fun x104 =>
      lt (α := Int32) (p3 + 1) fun x106 =>
      FX9_passedBy_L9 f p1 x104 x106 M
def FX9_passedBy (a1 : Int32) (M : Mem) : Option (Int32) :=
  lt (α := Int32) ((1 : Int32) <<< ((M.1 0 0) &&& 31)) fun x1 =>
  ob (FX9_passedBy_L9 FU a1 x1 0 M) fun q3 =>
  some q3
set_option maxHeartbeats 4000000 in
set_option maxRecDepth 100000 in
theorem lpX9_passedBy_9 {Y : CtxM} {g : CtxG} {r : Option Value × Mem} (E : EV Y (WY g) cX9_passedBy 4 (some .int) RX9) (p1 : Int32) : ∀ (f : Nat) (p2 : Int32) (p3 : Int32) (M : Mem) (q : Int32), FX9_passedBy_L9 f p1 p2 p3 M = some q → AW Y (WY g) r 4 1 56 [(2, .int q)] [] M → AW Y (WY g) r 4 1 9 [(0, .ref (wad (WY g) 0)), (1, .int p1), (2, .int p2), (3, .int p3)] [] M := by
  intro f
  induction f with
  | zero => intro p2 p3 M q hh; exact absurd hh (fun z => nomatch (show (none : Option (Int32)) = some q from z))
  | succ f ih =>
    intro p2 p3 M q hh kx
    rw [FX9_passedBy_L9] at hh
    refine aw_iload_n E dX9_passedBy_9 3 rfl ?_
    refine aw_aload_n E dX9_passedBy_10 0 rfl ?_
    refine aw_getI E flX9_211 (Nat.le_of_ble_eq_true rfl) rfl rfl dX9_passedBy_11 ?_
    refine aw_icmp_ge (tgt := 56) E dX9_passedBy_14 rfl (fun c14 => ?_) (fun c14 => ?_)
    ·
      replace hh := ip c14 hh
      refine aw_sub (L1 := [(2, .int p2)]) [2] rfl ?_
      replace hh := Option.some.inj hh
      subst hh
      exact kx
    ·
      replace hh := iq c14 hh
      refine aw_iload_n E dX9_passedBy_17 2 rfl ?_
      refine aw_iload_n E dX9_passedBy_18 1 rfl ?_
      refine aw_iload_n E dX9_passedBy_19 3 rfl ?_
      refine aw_ishr E dX9_passedBy_20 ?_
      refine aw_iconst (v := 1) E dX9_passedBy_21 (by decide) ?_
      refine aw_iand E dX9_passedBy_22 ?_
      refine aw_iconst (v := 1) E dX9_passedBy_23 (by decide) ?_
      obtain ⟨q101, e102, hh⟩ := bd_e hh
      have J103 : AW Y (WY g) r 4 1 48 [(0, .ref (wad (WY g) 0)), (1, .int p1), (3, .int p3)] [.int q101, .int p2] M := by
        refine aw_ior E dX9_passedBy_48 ?_
        obtain ⟨x104, e105, hh⟩ := lt_e hh
        refine aw_nmI e105 ?_
        refine aw_istore_n (L1 := [(2, .int x104), (0, .ref (wad (WY g) 0)), (1, .int p1), (3, .int p3)]) E dX9_passedBy_49 (Nat.le_of_ble_eq_true rfl) rfl ?_
        obtain ⟨x106, e107, hh⟩ := lt_e hh
        refine aw_iinc (v := x106) (L1 := [(3, .int x106), (2, .int x104), (0, .ref (wad (WY g) 0)), (1, .int p1)]) E dX9_passedBy_50 3 rfl e107 (Nat.le_of_ble_eq_true rfl) rfl ?_
        refine aw_goto (tgt := 9) E dX9_passedBy_53 rfl ?_
        refine aw_sub (L1 := [(0, .ref (wad (WY g) 0)), (1, .int p1), (2, .int x104), (3, .int x106)]) [2, 3, 1, 0] rfl ?_
        exact ih x104 x106 M _ hh kx
      refine aw_icmp_ne (tgt := 47) E dX9_passedBy_24 rfl (fun c24 => ?_) (fun c24 => ?_)
      ·
        replace e102 := iq c24 e102
        refine aw_iconst (v := 0) E dX9_passedBy_47 (by decide) ?_
        refine aw_sub (L1 := [(0, .ref (wad (WY g) 0)), (1, .int p1), (3, .int p3)]) [0, 1, 3] rfl ?_
        replace e102 := Option.some.inj e102
        subst e102
        exact J103
      ·
        replace e102 := ip c24 e102
        refine aw_iconst (v := 1) E dX9_passedBy_27 (by decide) ?_
        refine aw_aload_n E dX9_passedBy_28 0 rfl ?_
        refine aw_getR (q := 2) E flX9_17 (Nat.le_of_ble_eq_true rfl) rfl rfl dX9_passedBy_29 ?_
        refine aw_iload_n E dX9_passedBy_32 3 rfl ?_
        obtain ⟨g108, e102⟩ := gi_e e102
        refine aw_iald E (Nat.le_of_ble_eq_true rfl) rfl g108 dX9_passedBy_33 ?_
        refine aw_ishl E dX9_passedBy_34 ?_
        refine aw_iconst (v := 1) E dX9_passedBy_35 (by decide) ?_
        refine aw_aload_n E dX9_passedBy_36 0 rfl ?_
        refine aw_getR (q := 3) E flX9_20 (Nat.le_of_ble_eq_true rfl) rfl rfl dX9_passedBy_37 ?_
        refine aw_iload_n E dX9_passedBy_40 3 rfl ?_
        obtain ⟨g109, e102⟩ := gi_e e102
        refine aw_iald E (Nat.le_of_ble_eq_true rfl) rfl g109 dX9_passedBy_41 ?_
        refine aw_ishl E dX9_passedBy_42 ?_
        refine aw_ior E dX9_passedBy_43 ?_
        refine aw_goto (tgt := 48) E dX9_passedBy_44 rfl ?_
        refine aw_sub (L1 := [(0, .ref (wad (WY g) 0)), (1, .int p1), (3, .int p3)]) [0, 1, 3] rfl ?_
        replace e102 := Option.some.inj e102
        subst e102
        exact J103
set_option maxHeartbeats 4000000 in
set_option maxRecDepth 100000 in
theorem ctX9_passedBy (l : Launch) (g : CtxG) (a1 : Int32) (M : Mem) (r0 : Int32) (h : FX9_passedBy a1 M = some r0) : Ct l (WY g) yX9_passedBy cX9_passedBy 4 (some .int) 1 [.ref (wad (WY g) 0), .int a1] M (some (.int r0), M) := by
  refine Ct.of (by decide) (Nat.le_of_ble_eq_true rfl) (fun Y hY E => ?_)
  have E : EV Y (WY g) cX9_passedBy 4 (some .int) RX9 := E
  have h : FX9_passedBy a1 M = some r0 := h
  unfold FX9_passedBy at h
  show AW Y (WY g) _ 4 1 0 [(0, .ref (wad (WY g) 0)), (1, .int a1)] [] M
  obtain ⟨r, hr⟩ : ∃ r : Option Value × Mem, r = (some (.int r0), M) := ⟨_, rfl⟩
  rw [← hr]
  refine aw_iconst (v := 1) E dX9_passedBy_0 (by decide) ?_
  refine aw_aload_n E dX9_passedBy_1 0 rfl ?_
  refine aw_getI E flX9_99 (Nat.le_of_ble_eq_true rfl) rfl rfl dX9_passedBy_2 ?_
  refine aw_ishl E dX9_passedBy_5 ?_
  obtain ⟨x1, e2, h⟩ := lt_e h
  refine aw_nmI e2 ?_
  refine aw_istore_n (L1 := [(2, .int x1), (0, .ref (wad (WY g) 0)), (1, .int a1)]) E dX9_passedBy_6 (Nat.le_of_ble_eq_true rfl) rfl ?_
  refine aw_iconst (v := 0) E dX9_passedBy_7 (by decide) ?_
  refine aw_istore_n (L1 := [(3, .int 0), (2, .int x1), (0, .ref (wad (WY g) 0)), (1, .int a1)]) E dX9_passedBy_8 (Nat.le_of_ble_eq_true rfl) rfl ?_
  obtain ⟨q3, e4, h⟩ := bd_e h
  refine aw_sub (L1 := [(0, .ref (wad (WY g) 0)), (1, .int a1), (2, .int x1), (3, .int 0)]) [2, 3, 1, 0] rfl ?_
  refine lpX9_passedBy_9 E   a1 FU x1 0 M q3 e4 ?_
  refine aw_iload_n E dX9_passedBy_56 0 rfl ?_
  replace h := Option.some.inj h
  subst h
  exact aw_iret E dX9_passedBy_57 hr
def FX9_sideOf (a1 : Int32) (a2 : Int32) (M : Mem) : Option (Int32) :=
  gi a1 13 <|
  if (M.1 2 (Int32.toNatClampNeg a1)) = a2 then
    some 0
  else
    gi a1 13 <|
    if (M.1 3 (Int32.toNatClampNeg a1)) = a2 then
      some 1
    else
      some (-1)
set_option maxHeartbeats 4000000 in
set_option maxRecDepth 100000 in
theorem ctX9_sideOf (l : Launch) (g : CtxG) (a1 : Int32) (a2 : Int32) (M : Mem) (r0 : Int32) (h : FX9_sideOf a1 a2 M = some r0) : Ct l (WY g) yX9_sideOf cX9_sideOf 3 (some .int) 1 [.ref (wad (WY g) 0), .int a1, .int a2] M (some (.int r0), M) := by
  refine Ct.of (by decide) (Nat.le_of_ble_eq_true rfl) (fun Y hY E => ?_)
  have E : EV Y (WY g) cX9_sideOf 3 (some .int) RX9 := E
  have h : FX9_sideOf a1 a2 M = some r0 := h
  unfold FX9_sideOf at h
  show AW Y (WY g) _ 3 1 0 [(0, .ref (wad (WY g) 0)), (1, .int a1), (2, .int a2)] [] M
  obtain ⟨r, hr⟩ : ∃ r : Option Value × Mem, r = (some (.int r0), M) := ⟨_, rfl⟩
  rw [← hr]
  refine aw_aload_n E dX9_sideOf_0 0 rfl ?_
  refine aw_getR (q := 2) E flX9_17 (Nat.le_of_ble_eq_true rfl) rfl rfl dX9_sideOf_1 ?_
  refine aw_iload_n E dX9_sideOf_4 1 rfl ?_
  obtain ⟨g1, h⟩ := gi_e h
  refine aw_iald E (Nat.le_of_ble_eq_true rfl) rfl g1 dX9_sideOf_5 ?_
  refine aw_iload_n E dX9_sideOf_6 2 rfl ?_
  refine aw_icmp_ne (tgt := 14) E dX9_sideOf_7 rfl (fun c7 => ?_) (fun c7 => ?_)
  ·
    replace h := iq c7 h
    refine aw_aload_n E dX9_sideOf_14 0 rfl ?_
    refine aw_getR (q := 3) E flX9_20 (Nat.le_of_ble_eq_true rfl) rfl rfl dX9_sideOf_15 ?_
    refine aw_iload_n E dX9_sideOf_18 1 rfl ?_
    obtain ⟨g2, h⟩ := gi_e h
    refine aw_iald E (Nat.le_of_ble_eq_true rfl) rfl g2 dX9_sideOf_19 ?_
    refine aw_iload_n E dX9_sideOf_20 2 rfl ?_
    refine aw_icmp_ne (tgt := 28) E dX9_sideOf_21 rfl (fun c21 => ?_) (fun c21 => ?_)
    ·
      replace h := iq c21 h
      refine aw_iconst (v := (-1)) E dX9_sideOf_28 (by decide) ?_
      replace h := Option.some.inj h
      subst h
      exact aw_iret E dX9_sideOf_29 hr
    ·
      replace h := ip c21 h
      refine aw_iconst (v := 1) E dX9_sideOf_24 (by decide) ?_
      refine aw_goto (tgt := 29) E dX9_sideOf_25 rfl ?_
      replace h := Option.some.inj h
      subst h
      exact aw_iret E dX9_sideOf_29 hr
  ·
    replace h := ip c7 h
    refine aw_iconst (v := 0) E dX9_sideOf_10 (by decide) ?_
    refine aw_goto (tgt := 29) E dX9_sideOf_11 rfl ?_
    replace h := Option.some.inj h
    subst h
    exact aw_iret E dX9_sideOf_29 hr
def FX9_beyond (a1 : Int32) (a2 : Int32) (M : Mem) : Option (Int32) :=
  if a2 = 0 then
    gi a1 13 <|
    some (M.1 3 (Int32.toNatClampNeg a1))
  else
    gi a1 13 <|
    some (M.1 2 (Int32.toNatClampNeg a1))
set_option maxHeartbeats 4000000 in
set_option maxRecDepth 100000 in
theorem ctX9_beyond (l : Launch) (g : CtxG) (a1 : Int32) (a2 : Int32) (M : Mem) (r0 : Int32) (h : FX9_beyond a1 a2 M = some r0) : Ct l (WY g) yX9_beyond cX9_beyond 3 (some .int) 1 [.ref (wad (WY g) 0), .int a1, .int a2] M (some (.int r0), M) := by
  refine Ct.of (by decide) (Nat.le_of_ble_eq_true rfl) (fun Y hY E => ?_)
  have E : EV Y (WY g) cX9_beyond 3 (some .int) RX9 := E
  have h : FX9_beyond a1 a2 M = some r0 := h
  unfold FX9_beyond at h
  show AW Y (WY g) _ 3 1 0 [(0, .ref (wad (WY g) 0)), (1, .int a1), (2, .int a2)] [] M
  obtain ⟨r, hr⟩ : ∃ r : Option Value × Mem, r = (some (.int r0), M) := ⟨_, rfl⟩
  rw [← hr]
  refine aw_iload_n E dX9_beyond_0 2 rfl ?_
  refine aw_if_ne (tgt := 13) E dX9_beyond_1 rfl (fun c1 => ?_) (fun c1 => ?_)
  ·
    replace h := iq c1 h
    refine aw_aload_n E dX9_beyond_13 0 rfl ?_
    refine aw_getR (q := 2) E flX9_17 (Nat.le_of_ble_eq_true rfl) rfl rfl dX9_beyond_14 ?_
    refine aw_iload_n E dX9_beyond_17 1 rfl ?_
    obtain ⟨g1, h⟩ := gi_e h
    refine aw_iald E (Nat.le_of_ble_eq_true rfl) rfl g1 dX9_beyond_18 ?_
    replace h := Option.some.inj h
    subst h
    exact aw_iret E dX9_beyond_19 hr
  ·
    replace h := ip c1 h
    refine aw_aload_n E dX9_beyond_4 0 rfl ?_
    refine aw_getR (q := 3) E flX9_20 (Nat.le_of_ble_eq_true rfl) rfl rfl dX9_beyond_5 ?_
    refine aw_iload_n E dX9_beyond_8 1 rfl ?_
    obtain ⟨g2, h⟩ := gi_e h
    refine aw_iald E (Nat.le_of_ble_eq_true rfl) rfl g2 dX9_beyond_9 ?_
    refine aw_goto (tgt := 19) E dX9_beyond_10 rfl ?_
    replace h := Option.some.inj h
    subst h
    exact aw_iret E dX9_beyond_19 hr
def FX9_mayCome (a1 : Int32) (a2 : Int32) (M : Mem) : Int32 :=
  lt (α := Bool) (if (M.1 0 2) = 0 then true else if a1 = (M.1 0 0) then true else if ((a2 >>> (a1 &&& 31)) &&& 1) = 0 then true else false) fun b1 =>
  if b1 = true then
    1
  else
    0
set_option maxHeartbeats 4000000 in
set_option maxRecDepth 100000 in
theorem ctX9_mayCome (l : Launch) (g : CtxG) (a1 : Int32) (a2 : Int32) (M : Mem) : Ct l (WY g) yX9_mayCome cX9_mayCome 3 (some .boolean) 1 [.ref (wad (WY g) 0), .int a1, .int a2] M (some (.int (FX9_mayCome a1 a2 M)), M) := by
  obtain ⟨r0, h⟩ : ∃ r0, FX9_mayCome a1 a2 M = r0 := ⟨_, rfl⟩
  rw [h]
  refine Ct.of (by decide) (Nat.le_of_ble_eq_true rfl) (fun Y hY E => ?_)
  have E : EV Y (WY g) cX9_mayCome 3 (some .boolean) RX9 := E
  --generalize hr : ((some (Value.int r0), M) : Option Value × Mem) = r
  have h : FX9_mayCome a1 a2 M = r0 := h
  unfold FX9_mayCome at h
  show AW Y (WY g) _ 3 1 0 [(0, .ref (wad (WY g) 0)), (1, .int a1), (2, .int a2)] [] M
  obtain ⟨r, hr⟩ : ∃ r : Option Value × Mem, r = (some (.int r0), M) := ⟨_, rfl⟩
  rw [← hr]
  refine aw_aload_n E dX9_mayCome_0 0 rfl ?_
  refine aw_getI E flX9_102 (Nat.le_of_ble_eq_true rfl) rfl rfl dX9_mayCome_1 ?_
  obtain ⟨b1, e2, h⟩ := lt_e h
  have J3 : b1 = true → AW Y (WY g) r 3 1 23 [(0, .ref (wad (WY g) 0)), (1, .int a1), (2, .int a2)] [] M := fun hb => by
    replace h := ip hb h
    refine aw_iconst (v := 1) E dX9_mayCome_23 (by decide) ?_
    refine aw_goto (tgt := 28) E dX9_mayCome_24 rfl ?_
    subst h
    exact aw_zret E (by decide) dX9_mayCome_28 hr
  have J4 : b1 = false → AW Y (WY g) r 3 1 27 [(0, .ref (wad (WY g) 0)), (1, .int a1), (2, .int a2)] [] M := fun hb => by
    replace h := iq (bf hb) h
    refine aw_iconst (v := 0) E dX9_mayCome_27 (by decide) ?_
    subst h
    exact aw_zret E (by decide) dX9_mayCome_28 hr
  refine aw_if_eq (tgt := 23) E dX9_mayCome_4 rfl (fun c4 => ?_) (fun c4 => ?_)
  ·
    replace e2 := ip c4 e2
    subst e2
    exact J3 rfl
  ·
    replace e2 := iq c4 e2
    refine aw_iload_n E dX9_mayCome_7 1 rfl ?_
    refine aw_aload_n E dX9_mayCome_8 0 rfl ?_
    refine aw_getI E flX9_99 (Nat.le_of_ble_eq_true rfl) rfl rfl dX9_mayCome_9 ?_
    refine aw_icmp_eq (tgt := 23) E dX9_mayCome_12 rfl (fun c12 => ?_) (fun c12 => ?_)
    ·
      replace e2 := ip c12 e2
      subst e2
      exact J3 rfl
    ·
      replace e2 := iq c12 e2
      refine aw_iload_n E dX9_mayCome_15 2 rfl ?_
      refine aw_iload_n E dX9_mayCome_16 1 rfl ?_
      refine aw_ishr E dX9_mayCome_17 ?_
      refine aw_iconst (v := 1) E dX9_mayCome_18 (by decide) ?_
      refine aw_iand E dX9_mayCome_19 ?_
      refine aw_if_ne (tgt := 27) E dX9_mayCome_20 rfl (fun c20 => ?_) (fun c20 => ?_)
      ·
        replace e2 := iq c20 e2
        subst e2
        exact J4 rfl
      ·
        replace e2 := ip c20 e2
        subst e2
        exact J3 rfl
def FX9_goesOn_L3 : Nat → Int32 → Int32 → Int32 → Int32 → Int32 → Mem → Option (Mem)
  | 0, _, _, _, _, _, _ => none
  | f + 1, p1, p2, p3, p4, p5, M =>
    if (M.1 0 40) ≤ p5 then
      some M
    else
      ob (α := Int32) (if ((p3 >>> (p5 &&& 31)) &&& 1) = 1 then
        some (-1)
      else
        ob (FX9_sideOf p5 p2 M) fun q138 =>
        some q138) fun q101 =>
      ob (α := Int32) (if q101 = (-1) then
        some 0
      else
        gi ((4 * p5) + q101) 52 <|
        some (M.1 17 (Int32.toNatClampNeg ((4 * p5) + q101)))) fun q104 =>
      ob (α := Bool) (if q104 ≤ 0 then
        some false
      else
        ob (FX9_beyond p5 q101 M) fun q135 =>
        if (FX9_mayCome q135 p4 M) = 0 then some false else some true) fun b107 =>
      if b107 = true then
        ob (FX9_beyond p5 q101 M) fun q111 =>
        lt (α := Int32) ((9 * (p1 ||| ((1 : Int32) <<< (p5 &&& 31)))) + q111) fun x113 =>
        gi ((9 * p1) + p2) 73728 <|
        lt (α := Int32) ((M.1 19 (Int32.toNatClampNeg ((9 * p1) + p2))) + q104) fun x116 =>
        gi x113 73728 <|
        ob (α := Bool) (if (M.1 19 (Int32.toNatClampNeg x113)) = (-1) then
          some true
        else
          gi x113 73728 <|
          if (M.1 19 (Int32.toNatClampNeg x113)) ≤ x116 then some false else some true) fun b119 =>
        ob (α := Int32) (if b119 = true then
          some x116
        else
          gi x113 73728 <|
          some (M.1 19 (Int32.toNatClampNeg x113))) fun q121 =>
        gi x113 73728 <|
        lt (wr M 19 (Int32.toNatClampNeg x113) q121) fun M125 =>
        lt (α := Int32) (p5 + 1) fun x127 =>
        FX9_goesOn_L3 f p1 p2 p3 p4 x127 M125
      else
        lt (α := Int32) (p5 + 1) fun x133 =>
        FX9_goesOn_L3 f p1 p2 p3 p4 x133 M
def FX9_goesOn (a1 : Int32) (a2 : Int32) (a3 : Int32) (a4 : Int32) (M : Mem) : Option (Mem) :=
  ob (FX9_goesOn_L3 FU a1 a2 a3 a4 0 M) fun q1 =>
  some q1
set_option maxHeartbeats 4000000 in
set_option maxRecDepth 100000 in
theorem lpX9_goesOn_3 {Y : CtxM} {g : CtxG} {r : Option Value × Mem} (E : EV Y (WY g) cX9_goesOn 10 none RX9) (p1 : Int32) (p2 : Int32) (p3 : Int32) (p4 : Int32) : ∀ (f : Nat) (p5 : Int32) (M : Mem) (q : Mem), FX9_goesOn_L3 f p1 p2 p3 p4 p5 M = some q → AW Y (WY g) r 10 2 165 [] [] q → AW Y (WY g) r 10 2 3 [(0, .ref (wad (WY g) 0)), (1, .int p1), (2, .int p2), (3, .int p3), (4, .int p4), (5, .int p5)] [] M := by
  intro f
  induction f with
  | zero => intro p5 M q hh; exact absurd hh (fun z => nomatch (show (none : Option (Mem)) = some q from z))
  | succ f ih =>
    intro p5 M q hh kx
    rw [FX9_goesOn_L3] at hh
    refine aw_iload E dX9_goesOn_3 5 rfl ?_
    refine aw_aload_n E dX9_goesOn_5 0 rfl ?_
    refine aw_getI E flX9_211 (Nat.le_of_ble_eq_true rfl) rfl rfl dX9_goesOn_6 ?_
    refine aw_icmp_ge (tgt := 165) E dX9_goesOn_9 rfl (fun c9 => ?_) (fun c9 => ?_)
    ·
      replace hh := ip c9 hh
      refine aw_sub (L1 := []) [] rfl ?_
      replace hh := Option.some.inj hh
      subst hh
      exact kx
    ·
      replace hh := iq c9 hh
      refine aw_iload_n E dX9_goesOn_12 3 rfl ?_
      refine aw_iload E dX9_goesOn_13 5 rfl ?_
      refine aw_ishr E dX9_goesOn_15 ?_
      refine aw_iconst (v := 1) E dX9_goesOn_16 (by decide) ?_
      refine aw_iand E dX9_goesOn_17 ?_
      refine aw_iconst (v := 1) E dX9_goesOn_18 (by decide) ?_
      obtain ⟨q101, e102, hh⟩ := bd_e hh
      have J103 : AW Y (WY g) r 10 2 33 [(0, .ref (wad (WY g) 0)), (1, .int p1), (2, .int p2), (3, .int p3), (4, .int p4), (5, .int p5)] [.int q101] M := by
        refine aw_istore (L1 := [(6, .int q101), (0, .ref (wad (WY g) 0)), (1, .int p1), (2, .int p2), (3, .int p3), (4, .int p4), (5, .int p5)]) E dX9_goesOn_33 (Nat.le_of_ble_eq_true rfl) rfl ?_
        refine aw_iload E dX9_goesOn_35 0 rfl ?_
        refine aw_iconst (v := (-1)) E dX9_goesOn_37 (by decide) ?_
        obtain ⟨q104, e105, hh⟩ := bd_e hh
        have J106 : AW Y (WY g) r 10 2 57 [(0, .ref (wad (WY g) 0)), (1, .int p1), (2, .int p2), (3, .int p3), (4, .int p4), (5, .int p5), (6, .int q101)] [.int q104] M := by
          refine aw_istore (L1 := [(7, .int q104), (0, .ref (wad (WY g) 0)), (1, .int p1), (2, .int p2), (3, .int p3), (4, .int p4), (5, .int p5), (6, .int q101)]) E dX9_goesOn_57 (Nat.le_of_ble_eq_true rfl) rfl ?_
          refine aw_iload E dX9_goesOn_59 0 rfl ?_
          obtain ⟨b107, e108, hh⟩ := bd_e hh
          have J109 : b107 = true → AW Y (WY g) r 10 2 81 [(7, .int q104), (0, .ref (wad (WY g) 0)), (1, .int p1), (2, .int p2), (3, .int p3), (4, .int p4), (5, .int p5), (6, .int q101)] [] M := fun hb => by
            replace hh := ip hb hh
            refine aw_bipush (v := 9) E dX9_goesOn_81 (by decide) ?_
            refine aw_iload_n E dX9_goesOn_83 2 rfl ?_
            refine aw_iconst (v := 1) E dX9_goesOn_84 (by decide) ?_
            refine aw_iload E dX9_goesOn_85 6 rfl ?_
            refine aw_ishl E dX9_goesOn_87 ?_
            refine aw_ior E dX9_goesOn_88 ?_
            refine aw_imul E dX9_goesOn_89 ?_
            refine aw_aload_n E dX9_goesOn_90 1 rfl ?_
            refine aw_iload E dX9_goesOn_91 6 rfl ?_
            refine aw_iload E dX9_goesOn_93 7 rfl ?_
            obtain ⟨q111, e112, hh⟩ := bd_e hh
            refine aw_callVi (S := [.int (9 * (p1 ||| ((1 : Int32) <<< (p5 &&& 31))))]) E mvX9_beyond mlX9_217 (Nat.le_of_ble_eq_true rfl) rfl rfl rfl (ctX9_beyond (yl Y) g p5 q101  M q111 e112) rfl (Nat.le_of_ble_eq_true rfl) (Nat.le_of_ble_eq_true rfl) dX9_goesOn_95 ?_
            refine aw_iadd E dX9_goesOn_98 ?_
            obtain ⟨x113, e114, hh⟩ := lt_e hh
            refine aw_nmI e114 ?_
            refine aw_istore (L1 := [(8, .int x113), (7, .int q104), (0, .ref (wad (WY g) 0)), (1, .int p1), (2, .int p2), (3, .int p3), (4, .int p4), (5, .int p5), (6, .int q101)]) E dX9_goesOn_99 (Nat.le_of_ble_eq_true rfl) rfl ?_
            refine aw_aload_n E dX9_goesOn_101 2 rfl ?_
            refine aw_getR (q := 19) E flX9_69 (Nat.le_of_ble_eq_true rfl) rfl rfl dX9_goesOn_102 ?_
            refine aw_bipush (v := 9) E dX9_goesOn_105 (by decide) ?_
            refine aw_iload_n E dX9_goesOn_107 3 rfl ?_
            refine aw_imul E dX9_goesOn_108 ?_
            refine aw_iload_n E dX9_goesOn_109 4 rfl ?_
            refine aw_iadd E dX9_goesOn_110 ?_
            obtain ⟨g115, hh⟩ := gi_e hh
            refine aw_iald E (Nat.le_of_ble_eq_true rfl) rfl g115 dX9_goesOn_111 ?_
            refine aw_iload E dX9_goesOn_112 1 rfl ?_
            refine aw_iadd E dX9_goesOn_114 ?_
            obtain ⟨x116, e117, hh⟩ := lt_e hh
            refine aw_nmI e117 ?_
            refine aw_istore (L1 := [(9, .int x116), (8, .int x113), (7, .int q104), (0, .ref (wad (WY g) 0)), (1, .int p1), (2, .int p2), (3, .int p3), (4, .int p4), (5, .int p5), (6, .int q101)]) E dX9_goesOn_115 (Nat.le_of_ble_eq_true rfl) rfl ?_
            refine aw_aload_n E dX9_goesOn_117 3 rfl ?_
            refine aw_getR (q := 19) E flX9_69 (Nat.le_of_ble_eq_true rfl) rfl rfl dX9_goesOn_118 ?_
            refine aw_iload E dX9_goesOn_121 1 rfl ?_
            refine aw_aload_n E dX9_goesOn_123 3 rfl ?_
            refine aw_getR (q := 19) E flX9_69 (Nat.le_of_ble_eq_true rfl) rfl rfl dX9_goesOn_124 ?_
            refine aw_iload E dX9_goesOn_127 1 rfl ?_
            obtain ⟨g118, hh⟩ := gi_e hh
            refine aw_iald E (Nat.le_of_ble_eq_true rfl) rfl g118 dX9_goesOn_129 ?_
            refine aw_iconst (v := (-1)) E dX9_goesOn_130 (by decide) ?_
            obtain ⟨b119, e120, hh⟩ := bd_e hh
            obtain ⟨q121, e122, hh⟩ := bd_e hh
            have J123 : AW Y (WY g) r 10 2 158 [(0, .ref (wad (WY g) 0)), (1, .int p1), (2, .int p2), (3, .int p3), (4, .int p4), (5, .int p5)] [.int q121, .int x113, .ref (wad (WY g) 19)] M := by
              obtain ⟨g124, hh⟩ := gi_e hh
              obtain ⟨M125, e126, hh⟩ := lt_e hh
              refine aw_iast1 e126 E (Nat.le_of_ble_eq_true rfl) rfl g124 dX9_goesOn_158 ?_
              obtain ⟨x127, e128, hh⟩ := lt_e hh
              refine aw_iinc (v := x127) (L1 := [(5, .int x127), (0, .ref (wad (WY g) 0)), (1, .int p1), (2, .int p2), (3, .int p3), (4, .int p4)]) E dX9_goesOn_159 5 rfl e128 (Nat.le_of_ble_eq_true rfl) rfl ?_
              refine aw_goto (tgt := 3) E dX9_goesOn_162 rfl ?_
              refine aw_sub (L1 := [(0, .ref (wad (WY g) 0)), (1, .int p1), (2, .int p2), (3, .int p3), (4, .int p4), (5, .int x127)]) [1, 2, 3, 4, 5, 0] rfl ?_
              exact ih x127 M125 _ hh kx
            have J129 : b119 = true → AW Y (WY g) r 10 2 146 [(9, .int x116), (8, .int x113), (7, .int q104), (0, .ref (wad (WY g) 0)), (1, .int p1), (2, .int p2), (3, .int p3), (4, .int p4), (5, .int p5), (6, .int q101)] [.int x113, .ref (wad (WY g) 19)] M := fun hb => by
              replace e122 := ip hb e122
              refine aw_iload E dX9_goesOn_146 0 rfl ?_
              refine aw_goto (tgt := 158) E dX9_goesOn_148 rfl ?_
              refine aw_sub (L1 := [(0, .ref (wad (WY g) 0)), (1, .int p1), (2, .int p2), (3, .int p3), (4, .int p4), (5, .int p5)]) [3, 4, 5, 6, 7, 8] rfl ?_
              replace e122 := Option.some.inj e122
              subst e122
              exact J123
            have J130 : b119 = false → AW Y (WY g) r 10 2 151 [(9, .int x116), (8, .int x113), (7, .int q104), (0, .ref (wad (WY g) 0)), (1, .int p1), (2, .int p2), (3, .int p3), (4, .int p4), (5, .int p5), (6, .int q101)] [.int x113, .ref (wad (WY g) 19)] M := fun hb => by
              replace e122 := iq (bf hb) e122
              refine aw_aload_n E dX9_goesOn_151 3 rfl ?_
              refine aw_getR (q := 19) E flX9_69 (Nat.le_of_ble_eq_true rfl) rfl rfl dX9_goesOn_152 ?_
              refine aw_iload E dX9_goesOn_155 1 rfl ?_
              obtain ⟨g131, e122⟩ := gi_e e122
              refine aw_iald E (Nat.le_of_ble_eq_true rfl) rfl g131 dX9_goesOn_157 ?_
              refine aw_sub (L1 := [(0, .ref (wad (WY g) 0)), (1, .int p1), (2, .int p2), (3, .int p3), (4, .int p4), (5, .int p5)]) [3, 4, 5, 6, 7, 8] rfl ?_
              replace e122 := Option.some.inj e122
              subst e122
              exact J123
            refine aw_icmp_eq (tgt := 146) E dX9_goesOn_131 rfl (fun c131 => ?_) (fun c131 => ?_)
            ·
              replace e120 := ip c131 e120
              replace e120 := Option.some.inj e120
              subst e120
              exact J129 rfl
            ·
              replace e120 := iq c131 e120
              refine aw_iload E dX9_goesOn_134 0 rfl ?_
              refine aw_aload_n E dX9_goesOn_136 3 rfl ?_
              refine aw_getR (q := 19) E flX9_69 (Nat.le_of_ble_eq_true rfl) rfl rfl dX9_goesOn_137 ?_
              refine aw_iload E dX9_goesOn_140 1 rfl ?_
              obtain ⟨g132, e120⟩ := gi_e e120
              refine aw_iald E (Nat.le_of_ble_eq_true rfl) rfl g132 dX9_goesOn_142 ?_
              refine aw_icmp_ge (tgt := 151) E dX9_goesOn_143 rfl (fun c143 => ?_) (fun c143 => ?_)
              ·
                replace e120 := ip c143 e120
                replace e120 := Option.some.inj e120
                subst e120
                exact J130 rfl
              ·
                replace e120 := iq c143 e120
                replace e120 := Option.some.inj e120
                subst e120
                exact J129 rfl
          have J110 : b107 = false → AW Y (WY g) r 10 2 159 [(7, .int q104), (0, .ref (wad (WY g) 0)), (1, .int p1), (2, .int p2), (3, .int p3), (4, .int p4), (5, .int p5), (6, .int q101)] [] M := fun hb => by
            replace hh := iq (bf hb) hh
            obtain ⟨x133, e134, hh⟩ := lt_e hh
            refine aw_iinc (v := x133) (L1 := [(5, .int x133), (7, .int q104), (0, .ref (wad (WY g) 0)), (1, .int p1), (2, .int p2), (3, .int p3), (4, .int p4), (6, .int q101)]) E dX9_goesOn_159 6 rfl e134 (Nat.le_of_ble_eq_true rfl) rfl ?_
            refine aw_goto (tgt := 3) E dX9_goesOn_162 rfl ?_
            refine aw_sub (L1 := [(0, .ref (wad (WY g) 0)), (1, .int p1), (2, .int p2), (3, .int p3), (4, .int p4), (5, .int x133)]) [2, 3, 4, 5, 6, 0] rfl ?_
            exact ih x133 M _ hh kx
          refine aw_if_le (tgt := 159) E dX9_goesOn_61 rfl (fun c61 => ?_) (fun c61 => ?_)
          ·
            replace e108 := ip c61 e108
            replace e108 := Option.some.inj e108
            subst e108
            exact J110 rfl
          ·
            replace e108 := iq c61 e108
            refine aw_aload_n E dX9_goesOn_64 1 rfl ?_
            refine aw_aload_n E dX9_goesOn_65 1 rfl ?_
            refine aw_iload E dX9_goesOn_66 6 rfl ?_
            refine aw_iload E dX9_goesOn_68 7 rfl ?_
            obtain ⟨q135, e136, e108⟩ := bd_e e108
            refine aw_callVi (S := [.ref (wad (WY g) 0)]) E mvX9_beyond mlX9_217 (Nat.le_of_ble_eq_true rfl) rfl rfl rfl (ctX9_beyond (yl Y) g p5 q101  M q135 e136) rfl (Nat.le_of_ble_eq_true rfl) (Nat.le_of_ble_eq_true rfl) dX9_goesOn_70 ?_
            refine aw_iload E dX9_goesOn_73 5 rfl ?_
            refine aw_callVi (S := []) E mvX9_mayCome mlX9_220 (Nat.le_of_ble_eq_true rfl) rfl rfl rfl (ctX9_mayCome (yl Y) g q135 p4  M ) rfl (Nat.le_of_ble_eq_true rfl) (Nat.le_of_ble_eq_true rfl) dX9_goesOn_75 ?_
            refine aw_if_eq (tgt := 159) E dX9_goesOn_78 rfl (fun c78 => ?_) (fun c78 => ?_)
            ·
              replace e108 := ip c78 e108
              replace e108 := Option.some.inj e108
              subst e108
              exact J110 rfl
            ·
              replace e108 := iq c78 e108
              replace e108 := Option.some.inj e108
              subst e108
              exact J109 rfl
        refine aw_icmp_ne (tgt := 45) E dX9_goesOn_38 rfl (fun c38 => ?_) (fun c38 => ?_)
        ·
          replace e105 := iq c38 e105
          refine aw_aload_n E dX9_goesOn_45 1 rfl ?_
          refine aw_getR (q := 17) E flX9_62 (Nat.le_of_ble_eq_true rfl) rfl rfl dX9_goesOn_46 ?_
          refine aw_iconst (v := 4) E dX9_goesOn_49 (by decide) ?_
          refine aw_iload E dX9_goesOn_50 6 rfl ?_
          refine aw_imul E dX9_goesOn_52 ?_
          refine aw_iload E dX9_goesOn_53 0 rfl ?_
          refine aw_iadd E dX9_goesOn_55 ?_
          obtain ⟨g137, e105⟩ := gi_e e105
          refine aw_iald E (Nat.le_of_ble_eq_true rfl) rfl g137 dX9_goesOn_56 ?_
          refine aw_sub (L1 := [(0, .ref (wad (WY g) 0)), (1, .int p1), (2, .int p2), (3, .int p3), (4, .int p4), (5, .int p5), (6, .int q101)]) [1, 2, 3, 4, 5, 6, 0] rfl ?_
          replace e105 := Option.some.inj e105
          subst e105
          exact J106
        ·
          replace e105 := ip c38 e105
          refine aw_iconst (v := 0) E dX9_goesOn_41 (by decide) ?_
          refine aw_goto (tgt := 57) E dX9_goesOn_42 rfl ?_
          refine aw_sub (L1 := [(0, .ref (wad (WY g) 0)), (1, .int p1), (2, .int p2), (3, .int p3), (4, .int p4), (5, .int p5), (6, .int q101)]) [1, 2, 3, 4, 5, 6, 0] rfl ?_
          replace e105 := Option.some.inj e105
          subst e105
          exact J106
      refine aw_icmp_ne (tgt := 26) E dX9_goesOn_19 rfl (fun c19 => ?_) (fun c19 => ?_)
      ·
        replace e102 := iq c19 e102
        refine aw_aload_n E dX9_goesOn_26 0 rfl ?_
        refine aw_iload E dX9_goesOn_27 5 rfl ?_
        refine aw_iload_n E dX9_goesOn_29 2 rfl ?_
        obtain ⟨q138, e139, e102⟩ := bd_e e102
        refine aw_callVi (S := []) E mvX9_sideOf mlX9_214 (Nat.le_of_ble_eq_true rfl) rfl rfl rfl (ctX9_sideOf (yl Y) g p5 p2  M q138 e139) rfl (Nat.le_of_ble_eq_true rfl) (Nat.le_of_ble_eq_true rfl) dX9_goesOn_30 ?_
        refine aw_sub (L1 := [(0, .ref (wad (WY g) 0)), (1, .int p1), (2, .int p2), (3, .int p3), (4, .int p4), (5, .int p5)]) [0, 1, 2, 3, 4, 5] rfl ?_
        replace e102 := Option.some.inj e102
        subst e102
        exact J103
      ·
        replace e102 := ip c19 e102
        refine aw_iconst (v := (-1)) E dX9_goesOn_22 (by decide) ?_
        refine aw_goto (tgt := 33) E dX9_goesOn_23 rfl ?_
        refine aw_sub (L1 := [(0, .ref (wad (WY g) 0)), (1, .int p1), (2, .int p2), (3, .int p3), (4, .int p4), (5, .int p5)]) [0, 1, 2, 3, 4, 5] rfl ?_
        replace e102 := Option.some.inj e102
        subst e102
        exact J103
set_option maxHeartbeats 4000000 in
set_option maxRecDepth 100000 in
theorem ctX9_goesOn (l : Launch) (g : CtxG) (a1 : Int32) (a2 : Int32) (a3 : Int32) (a4 : Int32) (M : Mem) (r0 : Mem) (h : FX9_goesOn a1 a2 a3 a4 M = some r0) : Ct l (WY g) yX9_goesOn cX9_goesOn 10 none 2 [.ref (wad (WY g) 0), .int a1, .int a2, .int a3, .int a4] M (none, r0) := by
  refine Ct.of (by decide) (Nat.le_of_ble_eq_true rfl) (fun Y hY E => ?_)
  have E : EV Y (WY g) cX9_goesOn 10 none RX9 := E
  have h : FX9_goesOn a1 a2 a3 a4 M = some r0 := h
  unfold FX9_goesOn at h
  show AW Y (WY g) _ 10 2 0 [(0, .ref (wad (WY g) 0)), (1, .int a1), (2, .int a2), (3, .int a3), (4, .int a4)] [] M
  obtain ⟨r, hr⟩ : ∃ r : Option Value × Mem, r = (none, r0) := ⟨_, rfl⟩
  rw [← hr]
  refine aw_iconst (v := 0) E dX9_goesOn_0 (by decide) ?_
  refine aw_istore (L1 := [(5, .int 0), (0, .ref (wad (WY g) 0)), (1, .int a1), (2, .int a2), (3, .int a3), (4, .int a4)]) E dX9_goesOn_1 (Nat.le_of_ble_eq_true rfl) rfl ?_
  obtain ⟨q1, e2, h⟩ := bd_e h
  refine aw_sub (L1 := [(0, .ref (wad (WY g) 0)), (1, .int a1), (2, .int a2), (3, .int a3), (4, .int a4), (5, .int 0)]) [1, 2, 3, 4, 5, 0] rfl ?_
  refine lpX9_goesOn_3 E   a1 a2 a3 a4 FU 0 M q1 e2 ?_
  replace h := Option.some.inj h
  subst h
  exact aw_vret E dX9_goesOn_165 hr
def FX9_forward_L2 : Nat → Int32 → Mem → Option (Mem)
  | 0, _, _ => none
  | f + 1, p1, M =>
    if ((9 : Int32) <<< ((M.1 0 40) &&& 31)) ≤ p1 then
      some M
    else
      gi p1 73728 <|
      lt (wr M 19 (Int32.toNatClampNeg p1) (-1)) fun M102 =>
      lt (α := Int32) (p1 + 1) fun x104 =>
      FX9_forward_L2 f  x104 M102
def FX9_forward_L63 : Nat → Int32 → Int32 → Int32 → Int32 → Mem → Option (Mem)
  | 0, _, _, _, _, _ => none
  | f + 1, p1, p2, p3, p4, M =>
    if 9 ≤ p4 then
      some M
    else
      lt (α := Bool) (if (M.1 0 2) = 1 then if p1 = 0 then false else if p4 = (M.1 0 0) then true else false else false) fun b201 =>
      lt (α := Int32) (if b201 = true then
        1
      else
        0) fun q203 =>
      gi ((9 * p1) + p4) 73728 <|
      lt (α := Bool) (if (M.1 19 (Int32.toNatClampNeg ((9 * p1) + p4))) = (-1) then false else if q203 = 0 then true else false) fun b207 =>
      if b207 = true then
        ob (FX9_goesOn p1 p4 p2 p3 M) fun q211 =>
        lt (α := Int32) (p4 + 1) fun x213 =>
        FX9_forward_L63 f p1 p2 p3 x213 q211
      else
        lt (α := Int32) (p4 + 1) fun x215 =>
        FX9_forward_L63 f p1 p2 p3 x215 M
def FX9_forward_L38 : Nat → Int32 → Mem → Option (Mem)
  | 0, _, _ => none
  | f + 1, p1, M =>
    if ((1 : Int32) <<< ((M.1 0 40) &&& 31)) ≤ p1 then
      some M
    else
      ob (FX9_spentBy p1 M) fun q201 =>
      ob (FX9_passedBy p1 M) fun q203 =>
      ob (FX9_forward_L63 FU p1 q201 q203 0 M) fun q205 =>
      lt (α := Int32) (p1 + 1) fun x207 =>
      FX9_forward_L38 f  x207 q205
def FX9_forward  (M : Mem) : Option (Mem) :=
  ob (FX9_forward_L2 FU 0 M) fun q1 =>
  gi (q1.1 0 0) 73728 <|
  lt (wr q1 19 (Int32.toNatClampNeg (q1.1 0 0)) 0) fun M4 =>
  ob (FX9_forward_L38 FU 0 M4) fun q6 =>
  some q6
set_option maxHeartbeats 4000000 in
set_option maxRecDepth 100000 in
theorem lpX9_forward_2 {Y : CtxM} {g : CtxG} {r : Option Value × Mem} (E : EV Y (WY g) cX9_forward 6 none RX9) : ∀ (f : Nat) (p1 : Int32) (M : Mem) (q : Mem), FX9_forward_L2 f  p1 M = some q → AW Y (WY g) r 6 3 26 [(0, .ref (wad (WY g) 0))] [] q → AW Y (WY g) r 6 3 2 [(0, .ref (wad (WY g) 0)), (1, .int p1)] [] M := by
  intro f
  induction f with
  | zero => intro p1 M q hh; exact absurd hh (fun z => nomatch (show (none : Option (Mem)) = some q from z))
  | succ f ih =>
    intro p1 M q hh kx
    rw [FX9_forward_L2] at hh
    refine aw_iload_n E dX9_forward_2 1 rfl ?_
    refine aw_bipush (v := 9) E dX9_forward_3 (by decide) ?_
    refine aw_aload_n E dX9_forward_5 0 rfl ?_
    refine aw_getI E flX9_211 (Nat.le_of_ble_eq_true rfl) rfl rfl dX9_forward_6 ?_
    refine aw_ishl E dX9_forward_9 ?_
    refine aw_icmp_ge (tgt := 26) E dX9_forward_10 rfl (fun c10 => ?_) (fun c10 => ?_)
    ·
      replace hh := ip c10 hh
      refine aw_sub (L1 := [(0, .ref (wad (WY g) 0))]) [0] rfl ?_
      replace hh := Option.some.inj hh
      subst hh
      exact kx
    ·
      replace hh := iq c10 hh
      refine aw_aload_n E dX9_forward_13 0 rfl ?_
      refine aw_getR (q := 19) E flX9_69 (Nat.le_of_ble_eq_true rfl) rfl rfl dX9_forward_14 ?_
      refine aw_iload_n E dX9_forward_17 1 rfl ?_
      refine aw_iconst (v := (-1)) E dX9_forward_18 (by decide) ?_
      obtain ⟨g101, hh⟩ := gi_e hh
      obtain ⟨M102, e103, hh⟩ := lt_e hh
      refine aw_iast1 e103 E (Nat.le_of_ble_eq_true rfl) rfl g101 dX9_forward_19 ?_
      obtain ⟨x104, e105, hh⟩ := lt_e hh
      refine aw_iinc (v := x104) (L1 := [(1, .int x104), (0, .ref (wad (WY g) 0))]) E dX9_forward_20 1 rfl e105 (Nat.le_of_ble_eq_true rfl) rfl ?_
      refine aw_goto (tgt := 2) E dX9_forward_23 rfl ?_
      refine aw_sub (L1 := [(0, .ref (wad (WY g) 0)), (1, .int x104)]) [1, 0] rfl ?_
      exact ih x104 M102 _ hh kx
set_option maxHeartbeats 4000000 in
set_option maxRecDepth 100000 in
theorem lpX9_forward_63 {Y : CtxM} {g : CtxG} {r : Option Value × Mem} (E : EV Y (WY g) cX9_forward 6 none RX9) (p1 : Int32) (p2 : Int32) (p3 : Int32) : ∀ (f : Nat) (p4 : Int32) (M : Mem) (q : Mem), FX9_forward_L63 f p1 p2 p3 p4 M = some q → AW Y (WY g) r 6 3 134 [(0, .ref (wad (WY g) 0)), (1, .int p1)] [] q → AW Y (WY g) r 6 3 63 [(0, .ref (wad (WY g) 0)), (1, .int p1), (2, .int p2), (3, .int p3), (4, .int p4)] [] M := by
  intro f
  induction f with
  | zero => intro p4 M q hh; exact absurd hh (fun z => nomatch (show (none : Option (Mem)) = some q from z))
  | succ f ih =>
    intro p4 M q hh kx
    rw [FX9_forward_L63] at hh
    refine aw_iload E dX9_forward_63 4 rfl ?_
    refine aw_bipush (v := 9) E dX9_forward_65 (by decide) ?_
    refine aw_icmp_ge (tgt := 134) E dX9_forward_67 rfl (fun c67 => ?_) (fun c67 => ?_)
    ·
      replace hh := ip c67 hh
      refine aw_sub (L1 := [(0, .ref (wad (WY g) 0)), (1, .int p1)]) [0, 1] rfl ?_
      replace hh := Option.some.inj hh
      subst hh
      exact kx
    ·
      replace hh := iq c67 hh
      refine aw_aload_n E dX9_forward_70 0 rfl ?_
      refine aw_getI E flX9_102 (Nat.le_of_ble_eq_true rfl) rfl rfl dX9_forward_71 ?_
      refine aw_iconst (v := 1) E dX9_forward_74 (by decide) ?_
      obtain ⟨b201, e202, hh⟩ := lt_e hh
      obtain ⟨q203, e204, hh⟩ := lt_e hh
      have J205 : AW Y (WY g) r 6 3 96 [(0, .ref (wad (WY g) 0)), (1, .int p1), (2, .int p2), (3, .int p3), (4, .int p4)] [.int q203] M := by
        refine aw_istore (L1 := [(5, .int q203), (0, .ref (wad (WY g) 0)), (1, .int p1), (2, .int p2), (3, .int p3), (4, .int p4)]) E dX9_forward_96 (Nat.le_of_ble_eq_true rfl) rfl ?_
        refine aw_aload_n E dX9_forward_98 1 rfl ?_
        refine aw_getR (q := 19) E flX9_69 (Nat.le_of_ble_eq_true rfl) rfl rfl dX9_forward_99 ?_
        refine aw_bipush (v := 9) E dX9_forward_102 (by decide) ?_
        refine aw_iload_n E dX9_forward_104 2 rfl ?_
        refine aw_imul E dX9_forward_105 ?_
        refine aw_iload E dX9_forward_106 5 rfl ?_
        refine aw_iadd E dX9_forward_108 ?_
        obtain ⟨g206, hh⟩ := gi_e hh
        refine aw_iald E (Nat.le_of_ble_eq_true rfl) rfl g206 dX9_forward_109 ?_
        refine aw_iconst (v := (-1)) E dX9_forward_110 (by decide) ?_
        obtain ⟨b207, e208, hh⟩ := lt_e hh
        have J209 : b207 = true → AW Y (WY g) r 6 3 119 [(5, .int q203), (0, .ref (wad (WY g) 0)), (1, .int p1), (2, .int p2), (3, .int p3), (4, .int p4)] [] M := fun hb => by
          replace hh := ip hb hh
          refine aw_aload_n E dX9_forward_119 1 rfl ?_
          refine aw_iload_n E dX9_forward_120 2 rfl ?_
          refine aw_iload E dX9_forward_121 5 rfl ?_
          refine aw_iload_n E dX9_forward_123 3 rfl ?_
          refine aw_iload_n E dX9_forward_124 4 rfl ?_
          obtain ⟨q211, e212, hh⟩ := bd_e hh
          refine aw_callVv (S := []) E mvX9_goesOn mlX9_230 (Nat.le_of_ble_eq_true rfl) rfl rfl rfl (ctX9_goesOn (yl Y) g p1 p4 p2 p3  M q211 e212) rfl (Nat.le_of_ble_eq_true rfl) (Nat.le_of_ble_eq_true rfl) dX9_forward_125 ?_
          obtain ⟨x213, e214, hh⟩ := lt_e hh
          refine aw_iinc (v := x213) (L1 := [(4, .int x213), (5, .int q203), (0, .ref (wad (WY g) 0)), (1, .int p1), (2, .int p2), (3, .int p3)]) E dX9_forward_128 5 rfl e214 (Nat.le_of_ble_eq_true rfl) rfl ?_
          refine aw_goto (tgt := 63) E dX9_forward_131 rfl ?_
          refine aw_sub (L1 := [(0, .ref (wad (WY g) 0)), (1, .int p1), (2, .int p2), (3, .int p3), (4, .int x213)]) [2, 3, 4, 5, 0] rfl ?_
          exact ih x213 q211 _ hh kx
        have J210 : b207 = false → AW Y (WY g) r 6 3 128 [(5, .int q203), (0, .ref (wad (WY g) 0)), (1, .int p1), (2, .int p2), (3, .int p3), (4, .int p4)] [] M := fun hb => by
          replace hh := iq (bf hb) hh
          obtain ⟨x215, e216, hh⟩ := lt_e hh
          refine aw_iinc (v := x215) (L1 := [(4, .int x215), (5, .int q203), (0, .ref (wad (WY g) 0)), (1, .int p1), (2, .int p2), (3, .int p3)]) E dX9_forward_128 5 rfl e216 (Nat.le_of_ble_eq_true rfl) rfl ?_
          refine aw_goto (tgt := 63) E dX9_forward_131 rfl ?_
          refine aw_sub (L1 := [(0, .ref (wad (WY g) 0)), (1, .int p1), (2, .int p2), (3, .int p3), (4, .int x215)]) [2, 3, 4, 5, 0] rfl ?_
          exact ih x215 M _ hh kx
        refine aw_icmp_eq (tgt := 128) E dX9_forward_111 rfl (fun c111 => ?_) (fun c111 => ?_)
        ·
          replace e208 := ip c111 e208
          subst e208
          exact J210 rfl
        ·
          replace e208 := iq c111 e208
          refine aw_iload E dX9_forward_114 0 rfl ?_
          refine aw_if_ne (tgt := 128) E dX9_forward_116 rfl (fun c116 => ?_) (fun c116 => ?_)
          ·
            replace e208 := iq c116 e208
            subst e208
            exact J210 rfl
          ·
            replace e208 := ip c116 e208
            subst e208
            exact J209 rfl
      have J217 : b201 = true → AW Y (WY g) r 6 3 91 [(0, .ref (wad (WY g) 0)), (1, .int p1), (2, .int p2), (3, .int p3), (4, .int p4)] [] M := fun hb => by
        replace e204 := ip hb e204
        refine aw_iconst (v := 1) E dX9_forward_91 (by decide) ?_
        refine aw_goto (tgt := 96) E dX9_forward_92 rfl ?_
        refine aw_sub (L1 := [(0, .ref (wad (WY g) 0)), (1, .int p1), (2, .int p2), (3, .int p3), (4, .int p4)]) [0, 1, 2, 3, 4] rfl ?_
        subst e204
        exact J205
      have J218 : b201 = false → AW Y (WY g) r 6 3 95 [(0, .ref (wad (WY g) 0)), (1, .int p1), (2, .int p2), (3, .int p3), (4, .int p4)] [] M := fun hb => by
        replace e204 := iq (bf hb) e204
        refine aw_iconst (v := 0) E dX9_forward_95 (by decide) ?_
        refine aw_sub (L1 := [(0, .ref (wad (WY g) 0)), (1, .int p1), (2, .int p2), (3, .int p3), (4, .int p4)]) [0, 1, 2, 3, 4] rfl ?_
        subst e204
        exact J205
      refine aw_icmp_ne (tgt := 95) E dX9_forward_75 rfl (fun c75 => ?_) (fun c75 => ?_)
      ·
        replace e202 := iq c75 e202
        subst e202
        exact J218 rfl
      ·
        replace e202 := ip c75 e202
        refine aw_iload_n E dX9_forward_78 1 rfl ?_
        refine aw_if_eq (tgt := 95) E dX9_forward_79 rfl (fun c79 => ?_) (fun c79 => ?_)
        ·
          replace e202 := ip c79 e202
          subst e202
          exact J218 rfl
        ·
          replace e202 := iq c79 e202
          refine aw_iload E dX9_forward_82 4 rfl ?_
          refine aw_aload_n E dX9_forward_84 0 rfl ?_
          refine aw_getI E flX9_99 (Nat.le_of_ble_eq_true rfl) rfl rfl dX9_forward_85 ?_
          refine aw_icmp_ne (tgt := 95) E dX9_forward_88 rfl (fun c88 => ?_) (fun c88 => ?_)
          ·
            replace e202 := iq c88 e202
            subst e202
            exact J218 rfl
          ·
            replace e202 := ip c88 e202
            subst e202
            exact J217 rfl
set_option maxHeartbeats 4000000 in
set_option maxRecDepth 100000 in
theorem lpX9_forward_38 {Y : CtxM} {g : CtxG} {r : Option Value × Mem} (E : EV Y (WY g) cX9_forward 6 none RX9) : ∀ (f : Nat) (p1 : Int32) (M : Mem) (q : Mem), FX9_forward_L38 f  p1 M = some q → AW Y (WY g) r 6 3 140 [] [] q → AW Y (WY g) r 6 3 38 [(0, .ref (wad (WY g) 0)), (1, .int p1)] [] M := by
  intro f
  induction f with
  | zero => intro p1 M q hh; exact absurd hh (fun z => nomatch (show (none : Option (Mem)) = some q from z))
  | succ f ih =>
    intro p1 M q hh kx
    rw [FX9_forward_L38] at hh
    refine aw_iload_n E dX9_forward_38 1 rfl ?_
    refine aw_iconst (v := 1) E dX9_forward_39 (by decide) ?_
    refine aw_aload_n E dX9_forward_40 0 rfl ?_
    refine aw_getI E flX9_211 (Nat.le_of_ble_eq_true rfl) rfl rfl dX9_forward_41 ?_
    refine aw_ishl E dX9_forward_44 ?_
    refine aw_icmp_ge (tgt := 140) E dX9_forward_45 rfl (fun c45 => ?_) (fun c45 => ?_)
    ·
      replace hh := ip c45 hh
      refine aw_sub (L1 := []) [] rfl ?_
      replace hh := Option.some.inj hh
      subst hh
      exact kx
    ·
      replace hh := iq c45 hh
      refine aw_aload_n E dX9_forward_48 0 rfl ?_
      refine aw_iload_n E dX9_forward_49 1 rfl ?_
      obtain ⟨q201, e202, hh⟩ := bd_e hh
      refine aw_callVi (S := []) E mvX9_spentBy mlX9_224 (Nat.le_of_ble_eq_true rfl) rfl rfl rfl (ctX9_spentBy (yl Y) g p1  M q201 e202) rfl (Nat.le_of_ble_eq_true rfl) (Nat.le_of_ble_eq_true rfl) dX9_forward_50 ?_
      refine aw_istore_n (L1 := [(2, .int q201), (0, .ref (wad (WY g) 0)), (1, .int p1)]) E dX9_forward_53 (Nat.le_of_ble_eq_true rfl) rfl ?_
      refine aw_aload_n E dX9_forward_54 1 rfl ?_
      refine aw_iload_n E dX9_forward_55 2 rfl ?_
      obtain ⟨q203, e204, hh⟩ := bd_e hh
      refine aw_callVi (S := []) E mvX9_passedBy mlX9_227 (Nat.le_of_ble_eq_true rfl) rfl rfl rfl (ctX9_passedBy (yl Y) g p1  M q203 e204) rfl (Nat.le_of_ble_eq_true rfl) (Nat.le_of_ble_eq_true rfl) dX9_forward_56 ?_
      refine aw_istore_n (L1 := [(3, .int q203), (2, .int q201), (0, .ref (wad (WY g) 0)), (1, .int p1)]) E dX9_forward_59 (Nat.le_of_ble_eq_true rfl) rfl ?_
      refine aw_iconst (v := 0) E dX9_forward_60 (by decide) ?_
      refine aw_istore (L1 := [(4, .int 0), (3, .int q203), (2, .int q201), (0, .ref (wad (WY g) 0)), (1, .int p1)]) E dX9_forward_61 (Nat.le_of_ble_eq_true rfl) rfl ?_
      obtain ⟨q205, e206, hh⟩ := bd_e hh
      refine aw_sub (L1 := [(0, .ref (wad (WY g) 0)), (1, .int p1), (2, .int q201), (3, .int q203), (4, .int 0)]) [3, 4, 2, 1, 0] rfl ?_
      refine lpX9_forward_63 E   p1 q201 q203 FU 0 M q205 e206 ?_
      obtain ⟨x207, e208, hh⟩ := lt_e hh
      refine aw_iinc (v := x207) (L1 := [(1, .int x207), (0, .ref (wad (WY g) 0))]) E dX9_forward_134 1 rfl e208 (Nat.le_of_ble_eq_true rfl) rfl ?_
      refine aw_goto (tgt := 38) E dX9_forward_137 rfl ?_
      refine aw_sub (L1 := [(0, .ref (wad (WY g) 0)), (1, .int x207)]) [1, 0] rfl ?_
      exact ih x207 q205 _ hh kx
set_option maxHeartbeats 4000000 in
set_option maxRecDepth 100000 in
theorem ctX9_forward (l : Launch) (g : CtxG)  (M : Mem) (r0 : Mem) (h : FX9_forward M = some r0) : Ct l (WY g) yX9_forward cX9_forward 6 none 3 [.ref (wad (WY g) 0)] M (none, r0) := by
  refine Ct.of (by decide) (Nat.le_of_ble_eq_true rfl) (fun Y hY E => ?_)
  have E : EV Y (WY g) cX9_forward 6 none RX9 := E
  have h : FX9_forward  M = some r0 := h
  unfold FX9_forward at h
  show AW Y (WY g) _ 6 3 0 [(0, .ref (wad (WY g) 0))] [] M
  obtain ⟨r, hr⟩ : ∃ r : Option Value × Mem, r = (none, r0) := ⟨_, rfl⟩
  rw [← hr]
  refine aw_iconst (v := 0) E dX9_forward_0 (by decide) ?_
  refine aw_istore_n (L1 := [(1, .int 0), (0, .ref (wad (WY g) 0))]) E dX9_forward_1 (Nat.le_of_ble_eq_true rfl) rfl ?_
  obtain ⟨q1, e2, h⟩ := bd_e h
  refine aw_sub (L1 := [(0, .ref (wad (WY g) 0)), (1, .int 0)]) [1, 0] rfl ?_
  refine lpX9_forward_2 E    FU 0 M q1 e2 ?_
  refine aw_aload_n E dX9_forward_26 0 rfl ?_
  refine aw_getR (q := 19) E flX9_69 (Nat.le_of_ble_eq_true rfl) rfl rfl dX9_forward_27 ?_
  refine aw_aload_n E dX9_forward_30 0 rfl ?_
  refine aw_getI E flX9_99 (Nat.le_of_ble_eq_true rfl) rfl rfl dX9_forward_31 ?_
  refine aw_iconst (v := 0) E dX9_forward_34 (by decide) ?_
  obtain ⟨g3, h⟩ := gi_e h
  obtain ⟨M4, e5, h⟩ := lt_e h
  refine aw_iast1 e5 E (Nat.le_of_ble_eq_true rfl) rfl g3 dX9_forward_35 ?_
  refine aw_iconst (v := 0) E dX9_forward_36 (by decide) ?_
  refine aw_istore_n (L1 := [(1, .int 0), (0, .ref (wad (WY g) 0))]) E dX9_forward_37 (Nat.le_of_ble_eq_true rfl) rfl ?_
  obtain ⟨q6, e7, h⟩ := bd_e h
  refine aw_sub (L1 := [(0, .ref (wad (WY g) 0)), (1, .int 0)]) [1, 0] rfl ?_
  refine lpX9_forward_38 E    FU 0 M4 q6 e7 ?_
  replace h := Option.some.inj h
  subst h
  exact aw_vret E dX9_forward_140 hr
def FX9_fewest_L4 : Nat → Int32 → Int32 → Int32 → Mem → Option (Int32)
  | 0, _, _, _, _ => none
  | f + 1, p1, p2, p3, M =>
    if ((1 : Int32) <<< ((M.1 0 40) &&& 31)) ≤ p3 then
      some p2
    else
      gi ((9 * p3) + (M.1 0 0)) 73728 <|
      lt (α := Int32) (M.1 19 (Int32.toNatClampNeg ((9 * p3) + (M.1 0 0)))) fun x102 =>
      ob (α := Bool) (if x102 = (-1) then
        some false
      else
        ob (FX9_passedBy p3 M) fun q120 =>
        if (q120 &&& p1) = p1 then some true else some false) fun b104 =>
      lt (α := Int32) (if b104 = true then
        1
      else
        0) fun q106 =>
      lt (α := Int32) (if q106 = 0 then
        p2
      else
        lt (α := Bool) (if p2 = (-1) then true else if p2 ≤ x102 then false else true) fun b114 =>
        if b114 = true then
          x102
        else
          p2) fun q109 =>
      lt (α := Int32) (p3 + 1) fun x112 =>
      FX9_fewest_L4 f p1 q109 x112 M
def FX9_fewest (a1 : Int32) (M : Mem) : Option (Int32) :=
  ob (FX9_fewest_L4 FU a1 (-1) 1 M) fun q1 =>
  some q1
set_option maxHeartbeats 4000000 in
set_option maxRecDepth 100000 in
theorem lpX9_fewest_4 {Y : CtxM} {g : CtxG} {r : Option Value × Mem} (E : EV Y (WY g) cX9_fewest 6 (some .int) RX9) (p1 : Int32) : ∀ (f : Nat) (p2 : Int32) (p3 : Int32) (M : Mem) (q : Int32), FX9_fewest_L4 f p1 p2 p3 M = some q → AW Y (WY g) r 6 2 83 [(2, .int q)] [] M → AW Y (WY g) r 6 2 4 [(0, .ref (wad (WY g) 0)), (1, .int p1), (2, .int p2), (3, .int p3)] [] M := by
  intro f
  induction f with
  | zero => intro p2 p3 M q hh; exact absurd hh (fun z => nomatch (show (none : Option (Int32)) = some q from z))
  | succ f ih =>
    intro p2 p3 M q hh kx
    rw [FX9_fewest_L4] at hh
    refine aw_iload_n E dX9_fewest_4 3 rfl ?_
    refine aw_iconst (v := 1) E dX9_fewest_5 (by decide) ?_
    refine aw_aload_n E dX9_fewest_6 0 rfl ?_
    refine aw_getI E flX9_211 (Nat.le_of_ble_eq_true rfl) rfl rfl dX9_fewest_7 ?_
    refine aw_ishl E dX9_fewest_10 ?_
    refine aw_icmp_ge (tgt := 83) E dX9_fewest_11 rfl (fun c11 => ?_) (fun c11 => ?_)
    ·
      replace hh := ip c11 hh
      refine aw_sub (L1 := [(2, .int p2)]) [2] rfl ?_
      replace hh := Option.some.inj hh
      subst hh
      exact kx
    ·
      replace hh := iq c11 hh
      refine aw_aload_n E dX9_fewest_14 0 rfl ?_
      refine aw_getR (q := 19) E flX9_69 (Nat.le_of_ble_eq_true rfl) rfl rfl dX9_fewest_15 ?_
      refine aw_bipush (v := 9) E dX9_fewest_18 (by decide) ?_
      refine aw_iload_n E dX9_fewest_20 3 rfl ?_
      refine aw_imul E dX9_fewest_21 ?_
      refine aw_aload_n E dX9_fewest_22 0 rfl ?_
      refine aw_getI E flX9_99 (Nat.le_of_ble_eq_true rfl) rfl rfl dX9_fewest_23 ?_
      refine aw_iadd E dX9_fewest_26 ?_
      obtain ⟨g101, hh⟩ := gi_e hh
      refine aw_iald E (Nat.le_of_ble_eq_true rfl) rfl g101 dX9_fewest_27 ?_
      obtain ⟨x102, e103, hh⟩ := lt_e hh
      refine aw_nmI e103 ?_
      refine aw_istore (L1 := [(4, .int x102), (0, .ref (wad (WY g) 0)), (1, .int p1), (2, .int p2), (3, .int p3)]) E dX9_fewest_28 (Nat.le_of_ble_eq_true rfl) rfl ?_
      refine aw_iload E dX9_fewest_30 0 rfl ?_
      refine aw_iconst (v := (-1)) E dX9_fewest_32 (by decide) ?_
      obtain ⟨b104, e105, hh⟩ := bd_e hh
      obtain ⟨q106, e107, hh⟩ := lt_e hh
      have J108 : AW Y (WY g) r 6 2 52 [(0, .ref (wad (WY g) 0)), (1, .int p1), (2, .int p2), (3, .int p3), (4, .int x102)] [.int q106] M := by
        refine aw_istore (L1 := [(5, .int q106), (0, .ref (wad (WY g) 0)), (1, .int p1), (2, .int p2), (3, .int p3), (4, .int x102)]) E dX9_fewest_52 (Nat.le_of_ble_eq_true rfl) rfl ?_
        refine aw_iload E dX9_fewest_54 0 rfl ?_
        obtain ⟨q109, e110, hh⟩ := lt_e hh
        have J111 : AW Y (WY g) r 6 2 76 [(0, .ref (wad (WY g) 0)), (1, .int p1), (3, .int p3)] [.int q109] M := by
          refine aw_istore_n (L1 := [(2, .int q109), (0, .ref (wad (WY g) 0)), (1, .int p1), (3, .int p3)]) E dX9_fewest_76 (Nat.le_of_ble_eq_true rfl) rfl ?_
          obtain ⟨x112, e113, hh⟩ := lt_e hh
          refine aw_iinc (v := x112) (L1 := [(3, .int x112), (2, .int q109), (0, .ref (wad (WY g) 0)), (1, .int p1)]) E dX9_fewest_77 3 rfl e113 (Nat.le_of_ble_eq_true rfl) rfl ?_
          refine aw_goto (tgt := 4) E dX9_fewest_80 rfl ?_
          refine aw_sub (L1 := [(0, .ref (wad (WY g) 0)), (1, .int p1), (2, .int q109), (3, .int x112)]) [2, 3, 1, 0] rfl ?_
          exact ih q109 x112 M _ hh kx
        refine aw_if_eq (tgt := 75) E dX9_fewest_56 rfl (fun c56 => ?_) (fun c56 => ?_)
        ·
          replace e110 := ip c56 e110
          refine aw_iload_n E dX9_fewest_75 3 rfl ?_
          refine aw_sub (L1 := [(0, .ref (wad (WY g) 0)), (1, .int p1), (3, .int p3)]) [1, 2, 4] rfl ?_
          subst e110
          exact J111
        ·
          replace e110 := iq c56 e110
          refine aw_iload_n E dX9_fewest_59 3 rfl ?_
          refine aw_iconst (v := (-1)) E dX9_fewest_60 (by decide) ?_
          obtain ⟨b114, e115, e110⟩ := lt_e e110
          have J116 : b114 = true → AW Y (WY g) r 6 2 70 [(5, .int q106), (0, .ref (wad (WY g) 0)), (1, .int p1), (2, .int p2), (3, .int p3), (4, .int x102)] [] M := fun hb => by
            replace e110 := ip hb e110
            refine aw_iload E dX9_fewest_70 5 rfl ?_
            refine aw_goto (tgt := 76) E dX9_fewest_72 rfl ?_
            refine aw_sub (L1 := [(0, .ref (wad (WY g) 0)), (1, .int p1), (3, .int p3)]) [1, 2, 4] rfl ?_
            subst e110
            exact J111
          have J117 : b114 = false → AW Y (WY g) r 6 2 75 [(5, .int q106), (0, .ref (wad (WY g) 0)), (1, .int p1), (2, .int p2), (3, .int p3), (4, .int x102)] [] M := fun hb => by
            replace e110 := iq (bf hb) e110
            refine aw_iload_n E dX9_fewest_75 3 rfl ?_
            refine aw_sub (L1 := [(0, .ref (wad (WY g) 0)), (1, .int p1), (3, .int p3)]) [1, 2, 4] rfl ?_
            subst e110
            exact J111
          refine aw_icmp_eq (tgt := 70) E dX9_fewest_61 rfl (fun c61 => ?_) (fun c61 => ?_)
          ·
            replace e115 := ip c61 e115
            subst e115
            exact J116 rfl
          ·
            replace e115 := iq c61 e115
            refine aw_iload E dX9_fewest_64 5 rfl ?_
            refine aw_iload_n E dX9_fewest_66 3 rfl ?_
            refine aw_icmp_ge (tgt := 75) E dX9_fewest_67 rfl (fun c67 => ?_) (fun c67 => ?_)
            ·
              replace e115 := ip c67 e115
              subst e115
              exact J117 rfl
            ·
              replace e115 := iq c67 e115
              subst e115
              exact J116 rfl
      have J118 : b104 = true → AW Y (WY g) r 6 2 47 [(4, .int x102), (0, .ref (wad (WY g) 0)), (1, .int p1), (2, .int p2), (3, .int p3)] [] M := fun hb => by
        replace e107 := ip hb e107
        refine aw_iconst (v := 1) E dX9_fewest_47 (by decide) ?_
        refine aw_goto (tgt := 52) E dX9_fewest_48 rfl ?_
        refine aw_sub (L1 := [(0, .ref (wad (WY g) 0)), (1, .int p1), (2, .int p2), (3, .int p3), (4, .int x102)]) [1, 2, 3, 4, 0] rfl ?_
        subst e107
        exact J108
      have J119 : b104 = false → AW Y (WY g) r 6 2 51 [(4, .int x102), (0, .ref (wad (WY g) 0)), (1, .int p1), (2, .int p2), (3, .int p3)] [] M := fun hb => by
        replace e107 := iq (bf hb) e107
        refine aw_iconst (v := 0) E dX9_fewest_51 (by decide) ?_
        refine aw_sub (L1 := [(0, .ref (wad (WY g) 0)), (1, .int p1), (2, .int p2), (3, .int p3), (4, .int x102)]) [1, 2, 3, 4, 0] rfl ?_
        subst e107
        exact J108
      refine aw_icmp_eq (tgt := 51) E dX9_fewest_33 rfl (fun c33 => ?_) (fun c33 => ?_)
      ·
        replace e105 := ip c33 e105
        replace e105 := Option.some.inj e105
        subst e105
        exact J119 rfl
      ·
        replace e105 := iq c33 e105
        refine aw_aload_n E dX9_fewest_36 1 rfl ?_
        refine aw_iload_n E dX9_fewest_37 4 rfl ?_
        obtain ⟨q120, e121, e105⟩ := bd_e e105
        refine aw_callVi (S := []) E mvX9_passedBy mlX9_227 (Nat.le_of_ble_eq_true rfl) rfl rfl rfl (ctX9_passedBy (yl Y) g p3  M q120 e121) rfl (Nat.le_of_ble_eq_true rfl) (Nat.le_of_ble_eq_true rfl) dX9_fewest_38 ?_
        refine aw_iload_n E dX9_fewest_41 2 rfl ?_
        refine aw_iand E dX9_fewest_42 ?_
        refine aw_iload_n E dX9_fewest_43 2 rfl ?_
        refine aw_icmp_ne (tgt := 51) E dX9_fewest_44 rfl (fun c44 => ?_) (fun c44 => ?_)
        ·
          replace e105 := iq c44 e105
          replace e105 := Option.some.inj e105
          subst e105
          exact J119 rfl
        ·
          replace e105 := ip c44 e105
          replace e105 := Option.some.inj e105
          subst e105
          exact J118 rfl
set_option maxHeartbeats 4000000 in
set_option maxRecDepth 100000 in
theorem ctX9_fewest (l : Launch) (g : CtxG) (a1 : Int32) (M : Mem) (r0 : Int32) (h : FX9_fewest a1 M = some r0) : Ct l (WY g) yX9_fewest cX9_fewest 6 (some .int) 2 [.ref (wad (WY g) 0), .int a1] M (some (.int r0), M) := by
  refine Ct.of (by decide) (Nat.le_of_ble_eq_true rfl) (fun Y hY E => ?_)
  have E : EV Y (WY g) cX9_fewest 6 (some .int) RX9 := E
  have h : FX9_fewest a1 M = some r0 := h
  unfold FX9_fewest at h
  show AW Y (WY g) _ 6 2 0 [(0, .ref (wad (WY g) 0)), (1, .int a1)] [] M
  obtain ⟨r, hr⟩ : ∃ r : Option Value × Mem, r = (some (.int r0), M) := ⟨_, rfl⟩
  rw [← hr]
  refine aw_iconst (v := (-1)) E dX9_fewest_0 (by decide) ?_
  refine aw_istore_n (L1 := [(2, .int (-1)), (0, .ref (wad (WY g) 0)), (1, .int a1)]) E dX9_fewest_1 (Nat.le_of_ble_eq_true rfl) rfl ?_
  refine aw_iconst (v := 1) E dX9_fewest_2 (by decide) ?_
  refine aw_istore_n (L1 := [(3, .int 1), (2, .int (-1)), (0, .ref (wad (WY g) 0)), (1, .int a1)]) E dX9_fewest_3 (Nat.le_of_ble_eq_true rfl) rfl ?_
  obtain ⟨q1, e2, h⟩ := bd_e h
  refine aw_sub (L1 := [(0, .ref (wad (WY g) 0)), (1, .int a1), (2, .int (-1)), (3, .int 1)]) [2, 3, 1, 0] rfl ?_
  refine lpX9_fewest_4 E   a1 FU (-1) 1 M q1 e2 ?_
  refine aw_iload_n E dX9_fewest_83 0 rfl ?_
  replace h := Option.some.inj h
  subst h
  exact aw_iret E dX9_fewest_84 hr
def FX9_allFrom_L25 : Nat → Int32 → Int32 → Int32 → Int32 → Mem → Option (Int32)
  | 0, _, _, _, _, _ => none
  | f + 1, p1, p2, p4, p5, M =>
    lt (α := Bool) (if 9 ≤ p5 then false else if p4 = (-1) then false else true) fun b101 =>
    if b101 = true then
      lt (α := Bool) (if ((p2 >>> (p5 &&& 31)) &&& 1) = 1 then if p5 = p1 then false else true else false) fun b105 =>
      if b105 = true then
        ob (FX9_fewest ((1 : Int32) <<< (p5 &&& 31)) M) fun q109 =>
        lt (α := Int32) (if q109 = (-1) then
          (-1)
        else
          p4 + q109) fun q111 =>
        lt (α := Int32) (p5 + 1) fun x114 =>
        FX9_allFrom_L25 f p1 p2 q111 x114 M
      else
        lt (α := Int32) (p5 + 1) fun x116 =>
        FX9_allFrom_L25 f p1 p2 p4 x116 M
    else
      some p4
def FX9_allFrom (a1 : Int32) (a2 : Int32) (M : Mem) : Option (Int32 × Mem) :=
  lt (α := Int32) (M.1 0 0) fun x1 =>
  lt (wr M 0 0 a1) fun M3 =>
  ob (FX9_looks 0 M3) fun q5 =>
  ob (FX9_forward q5) fun q7 =>
  ob (FX9_allFrom_L25 FU a1 a2 0 0 q7) fun q9 =>
  lt (wr q7 0 0 x1) fun M11 =>
  some (q9, M11)
set_option maxHeartbeats 4000000 in
set_option maxRecDepth 100000 in
theorem lpX9_allFrom_25 {Y : CtxM} {g : CtxG} {r : Option Value × Mem} (E : EV Y (WY g) cX9_allFrom 7 (some .int) RX9) (p1 : Int32) (p2 : Int32) (p3 : Int32) : ∀ (f : Nat) (p4 : Int32) (p5 : Int32) (M : Mem) (q : Int32), FX9_allFrom_L25 f p1 p2 p4 p5 M = some q → AW Y (WY g) r 7 5 87 [(0, .ref (wad (WY g) 0)), (3, .int p3), (4, .int q)] [] M → AW Y (WY g) r 7 5 25 [(0, .ref (wad (WY g) 0)), (1, .int p1), (2, .int p2), (3, .int p3), (4, .int p4), (5, .int p5)] [] M := by
  intro f
  induction f with
  | zero => intro p4 p5 M q hh; exact absurd hh (fun z => nomatch (show (none : Option (Int32)) = some q from z))
  | succ f ih =>
    intro p4 p5 M q hh kx
    rw [FX9_allFrom_L25] at hh
    refine aw_iload E dX9_allFrom_25 5 rfl ?_
    refine aw_bipush (v := 9) E dX9_allFrom_27 (by decide) ?_
    obtain ⟨b101, e102, hh⟩ := lt_e hh
    have J103 : b101 = true → AW Y (WY g) r 7 5 38 [(0, .ref (wad (WY g) 0)), (1, .int p1), (2, .int p2), (3, .int p3), (4, .int p4), (5, .int p5)] [] M := fun hb => by
      replace hh := ip hb hh
      refine aw_iload_n E dX9_allFrom_38 2 rfl ?_
      refine aw_iload E dX9_allFrom_39 5 rfl ?_
      refine aw_ishr E dX9_allFrom_41 ?_
      refine aw_iconst (v := 1) E dX9_allFrom_42 (by decide) ?_
      refine aw_iand E dX9_allFrom_43 ?_
      refine aw_iconst (v := 1) E dX9_allFrom_44 (by decide) ?_
      obtain ⟨b105, e106, hh⟩ := lt_e hh
      have J107 : b105 = true → AW Y (WY g) r 7 5 54 [(0, .ref (wad (WY g) 0)), (1, .int p1), (2, .int p2), (3, .int p3), (4, .int p4), (5, .int p5)] [] M := fun hb => by
        replace hh := ip hb hh
        refine aw_aload_n E dX9_allFrom_54 0 rfl ?_
        refine aw_iconst (v := 1) E dX9_allFrom_55 (by decide) ?_
        refine aw_iload E dX9_allFrom_56 5 rfl ?_
        refine aw_ishl E dX9_allFrom_58 ?_
        obtain ⟨q109, e110, hh⟩ := bd_e hh
        refine aw_callVi (S := []) E mvX9_fewest mlX9_273 (Nat.le_of_ble_eq_true rfl) rfl rfl rfl (ctX9_fewest (yl Y) g ((1 : Int32) <<< (p5 &&& 31))  M q109 e110) rfl (Nat.le_of_ble_eq_true rfl) (Nat.le_of_ble_eq_true rfl) dX9_allFrom_59 ?_
        refine aw_istore (L1 := [(6, .int q109), (0, .ref (wad (WY g) 0)), (1, .int p1), (2, .int p2), (3, .int p3), (4, .int p4), (5, .int p5)]) E dX9_allFrom_62 (Nat.le_of_ble_eq_true rfl) rfl ?_
        refine aw_iload E dX9_allFrom_64 0 rfl ?_
        refine aw_iconst (v := (-1)) E dX9_allFrom_66 (by decide) ?_
        obtain ⟨q111, e112, hh⟩ := lt_e hh
        have J113 : AW Y (WY g) r 7 5 79 [(0, .ref (wad (WY g) 0)), (1, .int p1), (2, .int p2), (3, .int p3), (5, .int p5)] [.int q111] M := by
          refine aw_istore (L1 := [(4, .int q111), (0, .ref (wad (WY g) 0)), (1, .int p1), (2, .int p2), (3, .int p3), (5, .int p5)]) E dX9_allFrom_79 (Nat.le_of_ble_eq_true rfl) rfl ?_
          obtain ⟨x114, e115, hh⟩ := lt_e hh
          refine aw_iinc (v := x114) (L1 := [(5, .int x114), (4, .int q111), (0, .ref (wad (WY g) 0)), (1, .int p1), (2, .int p2), (3, .int p3)]) E dX9_allFrom_81 5 rfl e115 (Nat.le_of_ble_eq_true rfl) rfl ?_
          refine aw_goto (tgt := 25) E dX9_allFrom_84 rfl ?_
          refine aw_sub (L1 := [(0, .ref (wad (WY g) 0)), (1, .int p1), (2, .int p2), (3, .int p3), (4, .int q111), (5, .int x114)]) [2, 3, 4, 5, 1, 0] rfl ?_
          exact ih q111 x114 M _ hh kx
        refine aw_icmp_ne (tgt := 74) E dX9_allFrom_67 rfl (fun c67 => ?_) (fun c67 => ?_)
        ·
          replace e112 := iq c67 e112
          refine aw_iload E dX9_allFrom_74 5 rfl ?_
          refine aw_iload E dX9_allFrom_76 0 rfl ?_
          refine aw_iadd E dX9_allFrom_78 ?_
          refine aw_sub (L1 := [(0, .ref (wad (WY g) 0)), (1, .int p1), (2, .int p2), (3, .int p3), (5, .int p5)]) [1, 2, 3, 4, 6] rfl ?_
          subst e112
          exact J113
        ·
          replace e112 := ip c67 e112
          refine aw_iconst (v := (-1)) E dX9_allFrom_70 (by decide) ?_
          refine aw_goto (tgt := 79) E dX9_allFrom_71 rfl ?_
          refine aw_sub (L1 := [(0, .ref (wad (WY g) 0)), (1, .int p1), (2, .int p2), (3, .int p3), (5, .int p5)]) [1, 2, 3, 4, 6] rfl ?_
          subst e112
          exact J113
      have J108 : b105 = false → AW Y (WY g) r 7 5 81 [(0, .ref (wad (WY g) 0)), (1, .int p1), (2, .int p2), (3, .int p3), (4, .int p4), (5, .int p5)] [] M := fun hb => by
        replace hh := iq (bf hb) hh
        obtain ⟨x116, e117, hh⟩ := lt_e hh
        refine aw_iinc (v := x116) (L1 := [(5, .int x116), (0, .ref (wad (WY g) 0)), (1, .int p1), (2, .int p2), (3, .int p3), (4, .int p4)]) E dX9_allFrom_81 5 rfl e117 (Nat.le_of_ble_eq_true rfl) rfl ?_
        refine aw_goto (tgt := 25) E dX9_allFrom_84 rfl ?_
        refine aw_sub (L1 := [(0, .ref (wad (WY g) 0)), (1, .int p1), (2, .int p2), (3, .int p3), (4, .int p4), (5, .int x116)]) [1, 2, 3, 4, 5, 0] rfl ?_
        exact ih p4 x116 M _ hh kx
      refine aw_icmp_ne (tgt := 81) E dX9_allFrom_45 rfl (fun c45 => ?_) (fun c45 => ?_)
      ·
        replace e106 := iq c45 e106
        subst e106
        exact J108 rfl
      ·
        replace e106 := ip c45 e106
        refine aw_iload E dX9_allFrom_48 5 rfl ?_
        refine aw_iload_n E dX9_allFrom_50 1 rfl ?_
        refine aw_icmp_eq (tgt := 81) E dX9_allFrom_51 rfl (fun c51 => ?_) (fun c51 => ?_)
        ·
          replace e106 := ip c51 e106
          subst e106
          exact J108 rfl
        ·
          replace e106 := iq c51 e106
          subst e106
          exact J107 rfl
    have J104 : b101 = false → AW Y (WY g) r 7 5 87 [(0, .ref (wad (WY g) 0)), (1, .int p1), (2, .int p2), (3, .int p3), (4, .int p4), (5, .int p5)] [] M := fun hb => by
      replace hh := iq (bf hb) hh
      refine aw_sub (L1 := [(0, .ref (wad (WY g) 0)), (3, .int p3), (4, .int p4)]) [0, 3, 4] rfl ?_
      replace hh := Option.some.inj hh
      subst hh
      exact kx
    refine aw_icmp_ge (tgt := 87) E dX9_allFrom_29 rfl (fun c29 => ?_) (fun c29 => ?_)
    ·
      replace e102 := ip c29 e102
      subst e102
      exact J104 rfl
    ·
      replace e102 := iq c29 e102
      refine aw_iload E dX9_allFrom_32 4 rfl ?_
      refine aw_iconst (v := (-1)) E dX9_allFrom_34 (by decide) ?_
      refine aw_icmp_eq (tgt := 87) E dX9_allFrom_35 rfl (fun c35 => ?_) (fun c35 => ?_)
      ·
        replace e102 := ip c35 e102
        subst e102
        exact J104 rfl
      ·
        replace e102 := iq c35 e102
        subst e102
        exact J103 rfl
set_option maxHeartbeats 4000000 in
set_option maxRecDepth 100000 in
theorem ctX9_allFrom (l : Launch) (g : CtxG) (a1 : Int32) (a2 : Int32) (M : Mem) (r0 : Int32 × Mem) (h : FX9_allFrom a1 a2 M = some r0) : Ct l (WY g) yX9_allFrom cX9_allFrom 7 (some .int) 5 [.ref (wad (WY g) 0), .int a1, .int a2] M (some (.int r0.1), r0.2) := by
  refine Ct.of (by decide) (Nat.le_of_ble_eq_true rfl) (fun Y hY E => ?_)
  have E : EV Y (WY g) cX9_allFrom 7 (some .int) RX9 := E
  have h : FX9_allFrom a1 a2 M = some r0 := h
  unfold FX9_allFrom at h
  show AW Y (WY g) _ 7 5 0 [(0, .ref (wad (WY g) 0)), (1, .int a1), (2, .int a2)] [] M
  obtain ⟨r, hr⟩ : ∃ r : Option Value × Mem, r = (some (.int r0.1), r0.2) := ⟨_, rfl⟩
  rw [← hr]
  refine aw_aload_n E dX9_allFrom_0 0 rfl ?_
  refine aw_getI E flX9_99 (Nat.le_of_ble_eq_true rfl) rfl rfl dX9_allFrom_1 ?_
  obtain ⟨x1, e2, h⟩ := lt_e h
  refine aw_nmI e2 ?_
  refine aw_istore_n (L1 := [(3, .int x1), (0, .ref (wad (WY g) 0)), (1, .int a1), (2, .int a2)]) E dX9_allFrom_4 (Nat.le_of_ble_eq_true rfl) rfl ?_
  refine aw_aload_n E dX9_allFrom_5 1 rfl ?_
  refine aw_iload_n E dX9_allFrom_6 2 rfl ?_
  obtain ⟨M3, e4, h⟩ := lt_e h
  refine aw_putI1 e4 E flX9_99 (Nat.le_of_ble_eq_true rfl) rfl rfl nr_int dX9_allFrom_7 ?_
  refine aw_aload_n E dX9_allFrom_10 1 rfl ?_
  refine aw_iconst (v := 0) E dX9_allFrom_11 (by decide) ?_
  obtain ⟨q5, e6, h⟩ := bd_e h
  refine aw_callVv (S := []) E mvX9_looks mlX9_241 (Nat.le_of_ble_eq_true rfl) rfl rfl rfl (ctX9_looks (yl Y) g 0  M3 q5 e6) rfl (Nat.le_of_ble_eq_true rfl) (Nat.le_of_ble_eq_true rfl) dX9_allFrom_12 ?_
  refine aw_aload_n E dX9_allFrom_15 1 rfl ?_
  obtain ⟨q7, e8, h⟩ := bd_e h
  refine aw_callVv (S := []) E mvX9_forward mlX9_267 (Nat.le_of_ble_eq_true rfl) rfl rfl rfl (ctX9_forward (yl Y) g   q5 q7 e8) rfl (Nat.le_of_ble_eq_true rfl) (Nat.le_of_ble_eq_true rfl) dX9_allFrom_16 ?_
  refine aw_iconst (v := 0) E dX9_allFrom_19 (by decide) ?_
  refine aw_istore (L1 := [(4, .int 0), (3, .int x1), (0, .ref (wad (WY g) 0)), (1, .int a1), (2, .int a2)]) E dX9_allFrom_20 (Nat.le_of_ble_eq_true rfl) rfl ?_
  refine aw_iconst (v := 0) E dX9_allFrom_22 (by decide) ?_
  refine aw_istore (L1 := [(5, .int 0), (4, .int 0), (3, .int x1), (0, .ref (wad (WY g) 0)), (1, .int a1), (2, .int a2)]) E dX9_allFrom_23 (Nat.le_of_ble_eq_true rfl) rfl ?_
  obtain ⟨q9, e10, h⟩ := bd_e h
  refine aw_sub (L1 := [(0, .ref (wad (WY g) 0)), (1, .int a1), (2, .int a2), (3, .int x1), (4, .int 0), (5, .int 0)]) [3, 4, 5, 2, 1, 0] rfl ?_
  refine lpX9_allFrom_25 E   a1 a2 x1 FU 0 0 q7 q9 e10 ?_
  refine aw_aload_n E dX9_allFrom_87 0 rfl ?_
  refine aw_iload_n E dX9_allFrom_88 1 rfl ?_
  obtain ⟨M11, e12, h⟩ := lt_e h
  refine aw_putI1 e12 E flX9_99 (Nat.le_of_ble_eq_true rfl) rfl rfl nr_int dX9_allFrom_89 ?_
  refine aw_iload E dX9_allFrom_92 2 rfl ?_
  replace h := Option.some.inj h
  subst h
  exact aw_iret E dX9_allFrom_94 hr
def FX9_in (a0 : Int32) (a1 : Int32) (a2 : Int32) : Int32 :=
  lt (α := Bool) (if a0 < a1 then false else if a2 < a0 then false else true) fun b1 =>
  if b1 = true then
    1
  else
    0
set_option maxHeartbeats 4000000 in
set_option maxRecDepth 100000 in
theorem ctX9_in (l : Launch) (g : CtxG) (a0 : Int32) (a1 : Int32) (a2 : Int32) (M : Mem) : Ct l (WY g) yX9_in cX9_in 3 (some .boolean) 1 [.int a0, .int a1, .int a2] M (some (.int (FX9_in a0 a1 a2)), M) := by
  obtain ⟨r0, h⟩ : ∃ r0, FX9_in a0 a1 a2 = r0 := ⟨_, rfl⟩
  rw [h]
  refine Ct.of (by decide) (Nat.le_of_ble_eq_true rfl) (fun Y hY E => ?_)
  have E : EV Y (WY g) cX9_in 3 (some .boolean) RX9 := E
  --generalize hr : ((some (Value.int r0), M) : Option Value × Mem) = r
  have h : FX9_in a0 a1 a2 = r0 := h
  unfold FX9_in at h
  show AW Y (WY g) _ 3 1 0 [(0, .int a0), (1, .int a1), (2, .int a2)] [] M
  obtain ⟨r, hr⟩ : ∃ r : Option Value × Mem, r = (some (.int r0), M) := ⟨_, rfl⟩
  rw [← hr]
  refine aw_iload_n E dX9_in_0 0 rfl ?_
  refine aw_iload_n E dX9_in_1 1 rfl ?_
  obtain ⟨b1, e2, h⟩ := lt_e h
  have J3 : b1 = true → AW Y (WY g) r 3 1 10 [(0, .int a0), (1, .int a1), (2, .int a2)] [] M := fun hb => by
    replace h := ip hb h
    refine aw_iconst (v := 1) E dX9_in_10 (by decide) ?_
    refine aw_goto (tgt := 15) E dX9_in_11 rfl ?_
    subst h
    exact aw_zret E (by decide) dX9_in_15 hr
  have J4 : b1 = false → AW Y (WY g) r 3 1 14 [(0, .int a0), (1, .int a1), (2, .int a2)] [] M := fun hb => by
    replace h := iq (bf hb) h
    refine aw_iconst (v := 0) E dX9_in_14 (by decide) ?_
    subst h
    exact aw_zret E (by decide) dX9_in_15 hr
  refine aw_icmp_lt (tgt := 14) E dX9_in_2 rfl (fun c2 => ?_) (fun c2 => ?_)
  ·
    replace e2 := ip c2 e2
    subst e2
    exact J4 rfl
  ·
    replace e2 := iq c2 e2
    refine aw_iload_n E dX9_in_5 0 rfl ?_
    refine aw_iload_n E dX9_in_6 2 rfl ?_
    refine aw_icmp_gt (tgt := 14) E dX9_in_7 rfl (fun c7 => ?_) (fun c7 => ?_)
    ·
      replace e2 := ip c7 e2
      subst e2
      exact J4 rfl
    ·
      replace e2 := iq c7 e2
      subst e2
      exact J3 rfl
def FX9_isStreet (a1 : Int32) (M : Mem) : Option (Int32) :=
  gd (FX9_in a1 0 ((M.1 0 3) - 1) = 0 ∨ FX9_in a1 0 ((M.1 0 3) - 1) = 1) <|
  some (FX9_in a1 0 ((M.1 0 3) - 1))
set_option maxHeartbeats 4000000 in
set_option maxRecDepth 100000 in
theorem ctX9_isStreet (l : Launch) (g : CtxG) (a1 : Int32) (M : Mem) (r0 : Int32) (h : FX9_isStreet a1 M = some r0) : Ct l (WY g) yX9_isStreet cX9_isStreet 2 (some .boolean) 2 [.ref (wad (WY g) 0), .int a1] M (some (.int r0), M) := by
  refine Ct.of (by decide) (Nat.le_of_ble_eq_true rfl) (fun Y hY E => ?_)
  have E : EV Y (WY g) cX9_isStreet 2 (some .boolean) RX9 := E
  have h : FX9_isStreet a1 M = some r0 := h
  unfold FX9_isStreet at h
  show AW Y (WY g) _ 2 2 0 [(0, .ref (wad (WY g) 0)), (1, .int a1)] [] M
  obtain ⟨r, hr⟩ : ∃ r : Option Value × Mem, r = (some (.int r0), M) := ⟨_, rfl⟩
  rw [← hr]
  refine aw_iload_n E dX9_isStreet_0 1 rfl ?_
  refine aw_iconst (v := 0) E dX9_isStreet_1 (by decide) ?_
  refine aw_aload_n E dX9_isStreet_2 0 rfl ?_
  refine aw_getI E flX9_92 (Nat.le_of_ble_eq_true rfl) rfl rfl dX9_isStreet_3 ?_
  refine aw_iconst (v := 1) E dX9_isStreet_6 (by decide) ?_
  refine aw_isub E dX9_isStreet_7 ?_
  refine aw_callSi (S := []) E msX9_in mlX9_88 rfl (ctX9_in (yl Y) g a1 0 ((M.1 0 3) - 1)  M ) rfl (Nat.le_of_ble_eq_true rfl) (Nat.le_of_ble_eq_true rfl) dX9_isStreet_8 ?_
  obtain ⟨g1, h⟩ := gd_e h
  replace h := Option.some.inj h
  subst h
  exact aw_zret E g1 dX9_isStreet_11 hr
def FX9_asks (a1 : Int32) (a2 : Int32) (a3 : Int32) (M : Mem) : Option (Int32 × Mem) :=
  ob (FX9_isStreet a1 M) fun q1 =>
  if q1 = 0 then
    some ((-5), M)
  else
    gi a1 13 <|
    ob (α := Bool) (if a2 = (M.1 2 (Int32.toNatClampNeg a1)) then
      some false
    else
      gi a1 13 <|
      if a2 = (M.1 3 (Int32.toNatClampNeg a1)) then some false else some true) fun b4 =>
    if b4 = true then
      some ((-5), M)
    else
      if (FX9_in a3 0 3) = 0 then
        some ((-7), M)
      else
        if 2 ≤ a3 then
          lt (α := Int32) (if a3 = 3 then
            1
          else
            0) fun q8 =>
          ob (FX9_minutesOf a1 a2 q8 M) fun q11 =>
          some (q11.1, q11.2)
        else
          lt (α := Int32) (if a3 = 1 then
            1
          else
            0) fun q13 =>
          ob (FX9_mayGo a1 a2 q13 M) fun q16 =>
          if q16.1 = 0 then
            some (0, q16.2)
          else
            some (1, q16.2)
set_option maxHeartbeats 4000000 in
set_option maxRecDepth 100000 in
theorem ctX9_asks (l : Launch) (g : CtxG) (a1 : Int32) (a2 : Int32) (a3 : Int32) (M : Mem) (r0 : Int32 × Mem) (h : FX9_asks a1 a2 a3 M = some r0) : Ct l (WY g) yX9_asks cX9_asks 4 (some .int) 4 [.ref (wad (WY g) 0), .int a1, .int a2, .int a3] M (some (.int r0.1), r0.2) := by
  refine Ct.of (by decide) (Nat.le_of_ble_eq_true rfl) (fun Y hY E => ?_)
  have E : EV Y (WY g) cX9_asks 4 (some .int) RX9 := E
  have h : FX9_asks a1 a2 a3 M = some r0 := h
  unfold FX9_asks at h
  show AW Y (WY g) _ 4 4 0 [(0, .ref (wad (WY g) 0)), (1, .int a1), (2, .int a2), (3, .int a3)] [] M
  obtain ⟨r, hr⟩ : ∃ r : Option Value × Mem, r = (some (.int r0.1), r0.2) := ⟨_, rfl⟩
  rw [← hr]
  refine aw_aload_n E dX9_asks_0 0 rfl ?_
  refine aw_iload_n E dX9_asks_1 1 rfl ?_
  obtain ⟨q1, e2, h⟩ := bd_e h
  refine aw_callVi (S := []) E mvX9_isStreet mlX9_187 (Nat.le_of_ble_eq_true rfl) rfl rfl rfl (ctX9_isStreet (yl Y) g a1  M q1 e2) rfl (Nat.le_of_ble_eq_true rfl) (Nat.le_of_ble_eq_true rfl) dX9_asks_2 ?_
  refine aw_if_eq (tgt := 28) E dX9_asks_5 rfl (fun c5 => ?_) (fun c5 => ?_)
  ·
    replace h := ip c5 h
    refine aw_bipush (v := (-5)) E dX9_asks_28 (by decide) ?_
    replace h := Option.some.inj h
    subst h
    exact aw_iret E dX9_asks_30 hr
  ·
    replace h := iq c5 h
    refine aw_iload_n E dX9_asks_8 2 rfl ?_
    refine aw_aload_n E dX9_asks_9 0 rfl ?_
    refine aw_getR (q := 2) E flX9_17 (Nat.le_of_ble_eq_true rfl) rfl rfl dX9_asks_10 ?_
    refine aw_iload_n E dX9_asks_13 1 rfl ?_
    obtain ⟨g3, h⟩ := gi_e h
    refine aw_iald E (Nat.le_of_ble_eq_true rfl) rfl g3 dX9_asks_14 ?_
    obtain ⟨b4, e5, h⟩ := bd_e h
    have J6 : b4 = true → AW Y (WY g) r 4 4 28 [(0, .ref (wad (WY g) 0)), (1, .int a1), (2, .int a2), (3, .int a3)] [] M := fun hb => by
      replace h := ip hb h
      refine aw_bipush (v := (-5)) E dX9_asks_28 (by decide) ?_
      replace h := Option.some.inj h
      subst h
      exact aw_iret E dX9_asks_30 hr
    have J7 : b4 = false → AW Y (WY g) r 4 4 31 [(0, .ref (wad (WY g) 0)), (1, .int a1), (2, .int a2), (3, .int a3)] [] M := fun hb => by
      replace h := iq (bf hb) h
      refine aw_iload_n E dX9_asks_31 3 rfl ?_
      refine aw_iconst (v := 0) E dX9_asks_32 (by decide) ?_
      refine aw_iconst (v := 3) E dX9_asks_33 (by decide) ?_
      refine aw_callSi (S := []) E msX9_in mlX9_88 rfl (ctX9_in (yl Y) g a3 0 3  M ) rfl (Nat.le_of_ble_eq_true rfl) (Nat.le_of_ble_eq_true rfl) dX9_asks_34 ?_
      refine aw_if_ne (tgt := 43) E dX9_asks_37 rfl (fun c37 => ?_) (fun c37 => ?_)
      ·
        replace h := iq c37 h
        refine aw_iload_n E dX9_asks_43 3 rfl ?_
        refine aw_iconst (v := 2) E dX9_asks_44 (by decide) ?_
        refine aw_icmp_ge (tgt := 75) E dX9_asks_45 rfl (fun c45 => ?_) (fun c45 => ?_)
        ·
          replace h := ip c45 h
          refine aw_aload_n E dX9_asks_75 0 rfl ?_
          refine aw_iload_n E dX9_asks_76 1 rfl ?_
          refine aw_iload_n E dX9_asks_77 2 rfl ?_
          refine aw_iload_n E dX9_asks_78 3 rfl ?_
          refine aw_iconst (v := 3) E dX9_asks_79 (by decide) ?_
          obtain ⟨q8, e9, h⟩ := lt_e h
          have J10 : AW Y (WY g) r 4 4 88 [] [.int q8, .int a2, .int a1, .ref (wad (WY g) 0)] M := by
            obtain ⟨q11, e12, h⟩ := bd_e h
            refine aw_callVi (S := []) E mvX9_minutesOf mlX9_207 (Nat.le_of_ble_eq_true rfl) rfl rfl rfl (ctX9_minutesOf (yl Y) g a1 a2 q8  M q11 e12) rfl (Nat.le_of_ble_eq_true rfl) (Nat.le_of_ble_eq_true rfl) dX9_asks_88 ?_
            replace h := Option.some.inj h
            subst h
            exact aw_iret E dX9_asks_91 hr
          refine aw_icmp_ne (tgt := 87) E dX9_asks_80 rfl (fun c80 => ?_) (fun c80 => ?_)
          ·
            replace e9 := iq c80 e9
            refine aw_iconst (v := 0) E dX9_asks_87 (by decide) ?_
            refine aw_sub (L1 := []) [] rfl ?_
            subst e9
            exact J10
          ·
            replace e9 := ip c80 e9
            refine aw_iconst (v := 1) E dX9_asks_83 (by decide) ?_
            refine aw_goto (tgt := 88) E dX9_asks_84 rfl ?_
            refine aw_sub (L1 := []) [] rfl ?_
            subst e9
            exact J10
        ·
          replace h := iq c45 h
          refine aw_aload_n E dX9_asks_48 0 rfl ?_
          refine aw_iload_n E dX9_asks_49 1 rfl ?_
          refine aw_iload_n E dX9_asks_50 2 rfl ?_
          refine aw_iload_n E dX9_asks_51 3 rfl ?_
          refine aw_iconst (v := 1) E dX9_asks_52 (by decide) ?_
          obtain ⟨q13, e14, h⟩ := lt_e h
          have J15 : AW Y (WY g) r 4 4 61 [] [.int q13, .int a2, .int a1, .ref (wad (WY g) 0)] M := by
            obtain ⟨q16, e17, h⟩ := bd_e h
            refine aw_callVi (S := []) E mvX9_mayGo mlX9_203 (Nat.le_of_ble_eq_true rfl) rfl rfl rfl (ctX9_mayGo (yl Y) g a1 a2 q13  M q16 e17) rfl (Nat.le_of_ble_eq_true rfl) (Nat.le_of_ble_eq_true rfl) dX9_asks_61 ?_
            refine aw_if_eq (tgt := 71) E dX9_asks_64 rfl (fun c64 => ?_) (fun c64 => ?_)
            ·
              replace h := ip c64 h
              refine aw_iconst (v := 0) E dX9_asks_71 (by decide) ?_
              refine aw_goto (tgt := 91) E dX9_asks_72 rfl ?_
              replace h := Option.some.inj h
              subst h
              exact aw_iret E dX9_asks_91 hr
            ·
              replace h := iq c64 h
              refine aw_iconst (v := 1) E dX9_asks_67 (by decide) ?_
              refine aw_goto (tgt := 91) E dX9_asks_68 rfl ?_
              replace h := Option.some.inj h
              subst h
              exact aw_iret E dX9_asks_91 hr
          refine aw_icmp_ne (tgt := 60) E dX9_asks_53 rfl (fun c53 => ?_) (fun c53 => ?_)
          ·
            replace e14 := iq c53 e14
            refine aw_iconst (v := 0) E dX9_asks_60 (by decide) ?_
            refine aw_sub (L1 := []) [] rfl ?_
            subst e14
            exact J15
          ·
            replace e14 := ip c53 e14
            refine aw_iconst (v := 1) E dX9_asks_56 (by decide) ?_
            refine aw_goto (tgt := 61) E dX9_asks_57 rfl ?_
            refine aw_sub (L1 := []) [] rfl ?_
            subst e14
            exact J15
      ·
        replace h := ip c37 h
        refine aw_bipush (v := (-7)) E dX9_asks_40 (by decide) ?_
        replace h := Option.some.inj h
        subst h
        exact aw_iret E dX9_asks_42 hr
    refine aw_icmp_eq (tgt := 31) E dX9_asks_15 rfl (fun c15 => ?_) (fun c15 => ?_)
    ·
      replace e5 := ip c15 e5
      replace e5 := Option.some.inj e5
      subst e5
      exact J7 rfl
    ·
      replace e5 := iq c15 e5
      refine aw_iload_n E dX9_asks_18 2 rfl ?_
      refine aw_aload_n E dX9_asks_19 0 rfl ?_
      refine aw_getR (q := 3) E flX9_20 (Nat.le_of_ble_eq_true rfl) rfl rfl dX9_asks_20 ?_
      refine aw_iload_n E dX9_asks_23 1 rfl ?_
      obtain ⟨g18, e5⟩ := gi_e e5
      refine aw_iald E (Nat.le_of_ble_eq_true rfl) rfl g18 dX9_asks_24 ?_
      refine aw_icmp_eq (tgt := 31) E dX9_asks_25 rfl (fun c25 => ?_) (fun c25 => ?_)
      ·
        replace e5 := ip c25 e5
        replace e5 := Option.some.inj e5
        subst e5
        exact J7 rfl
      ·
        replace e5 := iq c25 e5
        replace e5 := Option.some.inj e5
        subst e5
        exact J6 rfl
def FX9_back  (M : Mem) : Option (Int32 × Mem) :=
  if (M.1 0 16) = 0 then
    some ((-3), M)
  else
    lt (wr M 0 0 (M.1 0 17)) fun M1 =>
    lt (wr M1 0 1 (M1.1 0 18)) fun M3 =>
    lt (wr M3 0 2 (M3.1 0 19)) fun M5 =>
    lt (wr M5 0 9 (M5.1 0 20)) fun M7 =>
    lt (wr M7 0 3 (M7.1 0 21)) fun M9 =>
    lt (wr M9 0 15 (M9.1 0 22)) fun M11 =>
    some (M11.1 0 3, M11)
set_option maxHeartbeats 4000000 in
set_option maxRecDepth 100000 in
theorem ctX9_back (l : Launch) (g : CtxG)  (M : Mem) (r0 : Int32 × Mem) (h : FX9_back M = some r0) : Ct l (WY g) yX9_back cX9_back 1 (some .int) 1 [.ref (wad (WY g) 0)] M (some (.int r0.1), r0.2) := by
  refine Ct.of (by decide) (Nat.le_of_ble_eq_true rfl) (fun Y hY E => ?_)
  have E : EV Y (WY g) cX9_back 1 (some .int) RX9 := E
  have h : FX9_back  M = some r0 := h
  unfold FX9_back at h
  show AW Y (WY g) _ 1 1 0 [(0, .ref (wad (WY g) 0))] [] M
  obtain ⟨r, hr⟩ : ∃ r : Option Value × Mem, r = (some (.int r0.1), r0.2) := ⟨_, rfl⟩
  rw [← hr]
  refine aw_aload_n E dX9_back_0 0 rfl ?_
  refine aw_getI E flX9_177 (Nat.le_of_ble_eq_true rfl) rfl rfl dX9_back_1 ?_
  refine aw_if_ne (tgt := 10) E dX9_back_4 rfl (fun c4 => ?_) (fun c4 => ?_)
  ·
    replace h := iq c4 h
    refine aw_aload_n E dX9_back_10 0 rfl ?_
    refine aw_aload_n E dX9_back_11 0 rfl ?_
    refine aw_getI E flX9_344 (Nat.le_of_ble_eq_true rfl) rfl rfl dX9_back_12 ?_
    obtain ⟨M1, e2, h⟩ := lt_e h
    refine aw_putI1 e2 E flX9_99 (Nat.le_of_ble_eq_true rfl) rfl rfl nr_int dX9_back_15 ?_
    refine aw_aload_n E dX9_back_18 0 rfl ?_
    refine aw_aload_n E dX9_back_19 0 rfl ?_
    refine aw_getI E flX9_347 (Nat.le_of_ble_eq_true rfl) rfl rfl dX9_back_20 ?_
    obtain ⟨M3, e4, h⟩ := lt_e h
    refine aw_putI1 e4 E flX9_7 (Nat.le_of_ble_eq_true rfl) rfl rfl nr_int dX9_back_23 ?_
    refine aw_aload_n E dX9_back_26 0 rfl ?_
    refine aw_aload_n E dX9_back_27 0 rfl ?_
    refine aw_getI E flX9_350 (Nat.le_of_ble_eq_true rfl) rfl rfl dX9_back_28 ?_
    obtain ⟨M5, e6, h⟩ := lt_e h
    refine aw_putI1 e6 E flX9_102 (Nat.le_of_ble_eq_true rfl) rfl rfl nr_int dX9_back_31 ?_
    refine aw_aload_n E dX9_back_34 0 rfl ?_
    refine aw_aload_n E dX9_back_35 0 rfl ?_
    refine aw_getI E flX9_353 (Nat.le_of_ble_eq_true rfl) rfl rfl dX9_back_36 ?_
    obtain ⟨M7, e8, h⟩ := lt_e h
    refine aw_putI1 e8 E flX9_105 (Nat.le_of_ble_eq_true rfl) rfl rfl nr_int dX9_back_39 ?_
    refine aw_aload_n E dX9_back_42 0 rfl ?_
    refine aw_aload_n E dX9_back_43 0 rfl ?_
    refine aw_getI E flX9_181 (Nat.le_of_ble_eq_true rfl) rfl rfl dX9_back_44 ?_
    obtain ⟨M9, e10, h⟩ := lt_e h
    refine aw_putI1 e10 E flX9_92 (Nat.le_of_ble_eq_true rfl) rfl rfl nr_int dX9_back_47 ?_
    refine aw_aload_n E dX9_back_50 0 rfl ?_
    refine aw_aload_n E dX9_back_51 0 rfl ?_
    refine aw_getI E flX9_356 (Nat.le_of_ble_eq_true rfl) rfl rfl dX9_back_52 ?_
    obtain ⟨M11, e12, h⟩ := lt_e h
    refine aw_putI1 e12 E flX9_111 (Nat.le_of_ble_eq_true rfl) rfl rfl nr_int dX9_back_55 ?_
    refine aw_aload_n E dX9_back_58 0 rfl ?_
    refine aw_getI E flX9_92 (Nat.le_of_ble_eq_true rfl) rfl rfl dX9_back_59 ?_
    replace h := Option.some.inj h
    subst h
    exact aw_iret E dX9_back_62 hr
  ·
    replace h := ip c4 h
    refine aw_bipush (v := (-3)) E dX9_back_7 (by decide) ?_
    replace h := Option.some.inj h
    subst h
    exact aw_iret E dX9_back_9 hr
def FX9_oddBy_L4 : Nat → Int32 → Int32 → Int32 → Mem → Option (Int32)
  | 0, _, _, _, _ => none
  | f + 1, p1, p2, p3, M =>
    if (M.1 0 40) ≤ p3 then
      some p2
    else
      ob (α := Int32) (if ((p1 >>> (p3 &&& 31)) &&& 1) = 1 then
        gi p3 13 <|
        gi p3 13 <|
        some (((1 : Int32) <<< ((M.1 2 (Int32.toNatClampNeg p3)) &&& 31)) ^^^ ((1 : Int32) <<< ((M.1 3 (Int32.toNatClampNeg p3)) &&& 31)))
      else
        some 0) fun q101 =>
      lt (α := Int32) (p2 ^^^ q101) fun x104 =>
      lt (α := Int32) (p3 + 1) fun x106 =>
      FX9_oddBy_L4 f p1 x104 x106 M
def FX9_oddBy (a1 : Int32) (M : Mem) : Option (Int32) :=
  ob (FX9_oddBy_L4 FU a1 0 0 M) fun q1 =>
  some q1
set_option maxHeartbeats 4000000 in
set_option maxRecDepth 100000 in
theorem lpX9_oddBy_4 {Y : CtxM} {g : CtxG} {r : Option Value × Mem} (E : EV Y (WY g) cX9_oddBy 4 (some .int) RX9) (p1 : Int32) : ∀ (f : Nat) (p2 : Int32) (p3 : Int32) (M : Mem) (q : Int32), FX9_oddBy_L4 f p1 p2 p3 M = some q → AW Y (WY g) r 4 1 51 [(2, .int q)] [] M → AW Y (WY g) r 4 1 4 [(0, .ref (wad (WY g) 0)), (1, .int p1), (2, .int p2), (3, .int p3)] [] M := by
  intro f
  induction f with
  | zero => intro p2 p3 M q hh; exact absurd hh (fun z => nomatch (show (none : Option (Int32)) = some q from z))
  | succ f ih =>
    intro p2 p3 M q hh kx
    rw [FX9_oddBy_L4] at hh
    refine aw_iload_n E dX9_oddBy_4 3 rfl ?_
    refine aw_aload_n E dX9_oddBy_5 0 rfl ?_
    refine aw_getI E flX9_211 (Nat.le_of_ble_eq_true rfl) rfl rfl dX9_oddBy_6 ?_
    refine aw_icmp_ge (tgt := 51) E dX9_oddBy_9 rfl (fun c9 => ?_) (fun c9 => ?_)
    ·
      replace hh := ip c9 hh
      refine aw_sub (L1 := [(2, .int p2)]) [2] rfl ?_
      replace hh := Option.some.inj hh
      subst hh
      exact kx
    ·
      replace hh := iq c9 hh
      refine aw_iload_n E dX9_oddBy_12 2 rfl ?_
      refine aw_iload_n E dX9_oddBy_13 1 rfl ?_
      refine aw_iload_n E dX9_oddBy_14 3 rfl ?_
      refine aw_ishr E dX9_oddBy_15 ?_
      refine aw_iconst (v := 1) E dX9_oddBy_16 (by decide) ?_
      refine aw_iand E dX9_oddBy_17 ?_
      refine aw_iconst (v := 1) E dX9_oddBy_18 (by decide) ?_
      obtain ⟨q101, e102, hh⟩ := bd_e hh
      have J103 : AW Y (WY g) r 4 1 43 [(0, .ref (wad (WY g) 0)), (1, .int p1), (3, .int p3)] [.int q101, .int p2] M := by
        refine aw_ixor E dX9_oddBy_43 ?_
        obtain ⟨x104, e105, hh⟩ := lt_e hh
        refine aw_nmI e105 ?_
        refine aw_istore_n (L1 := [(2, .int x104), (0, .ref (wad (WY g) 0)), (1, .int p1), (3, .int p3)]) E dX9_oddBy_44 (Nat.le_of_ble_eq_true rfl) rfl ?_
        obtain ⟨x106, e107, hh⟩ := lt_e hh
        refine aw_iinc (v := x106) (L1 := [(3, .int x106), (2, .int x104), (0, .ref (wad (WY g) 0)), (1, .int p1)]) E dX9_oddBy_45 3 rfl e107 (Nat.le_of_ble_eq_true rfl) rfl ?_
        refine aw_goto (tgt := 4) E dX9_oddBy_48 rfl ?_
        refine aw_sub (L1 := [(0, .ref (wad (WY g) 0)), (1, .int p1), (2, .int x104), (3, .int x106)]) [2, 3, 1, 0] rfl ?_
        exact ih x104 x106 M _ hh kx
      refine aw_icmp_ne (tgt := 42) E dX9_oddBy_19 rfl (fun c19 => ?_) (fun c19 => ?_)
      ·
        replace e102 := iq c19 e102
        refine aw_iconst (v := 0) E dX9_oddBy_42 (by decide) ?_
        refine aw_sub (L1 := [(0, .ref (wad (WY g) 0)), (1, .int p1), (3, .int p3)]) [0, 1, 3] rfl ?_
        replace e102 := Option.some.inj e102
        subst e102
        exact J103
      ·
        replace e102 := ip c19 e102
        refine aw_iconst (v := 1) E dX9_oddBy_22 (by decide) ?_
        refine aw_aload_n E dX9_oddBy_23 0 rfl ?_
        refine aw_getR (q := 2) E flX9_17 (Nat.le_of_ble_eq_true rfl) rfl rfl dX9_oddBy_24 ?_
        refine aw_iload_n E dX9_oddBy_27 3 rfl ?_
        obtain ⟨g108, e102⟩ := gi_e e102
        refine aw_iald E (Nat.le_of_ble_eq_true rfl) rfl g108 dX9_oddBy_28 ?_
        refine aw_ishl E dX9_oddBy_29 ?_
        refine aw_iconst (v := 1) E dX9_oddBy_30 (by decide) ?_
        refine aw_aload_n E dX9_oddBy_31 0 rfl ?_
        refine aw_getR (q := 3) E flX9_20 (Nat.le_of_ble_eq_true rfl) rfl rfl dX9_oddBy_32 ?_
        refine aw_iload_n E dX9_oddBy_35 3 rfl ?_
        obtain ⟨g109, e102⟩ := gi_e e102
        refine aw_iald E (Nat.le_of_ble_eq_true rfl) rfl g109 dX9_oddBy_36 ?_
        refine aw_ishl E dX9_oddBy_37 ?_
        refine aw_ixor E dX9_oddBy_38 ?_
        refine aw_goto (tgt := 43) E dX9_oddBy_39 rfl ?_
        refine aw_sub (L1 := [(0, .ref (wad (WY g) 0)), (1, .int p1), (3, .int p3)]) [0, 1, 3] rfl ?_
        replace e102 := Option.some.inj e102
        subst e102
        exact J103
set_option maxHeartbeats 4000000 in
set_option maxRecDepth 100000 in
theorem ctX9_oddBy (l : Launch) (g : CtxG) (a1 : Int32) (M : Mem) (r0 : Int32) (h : FX9_oddBy a1 M = some r0) : Ct l (WY g) yX9_oddBy cX9_oddBy 4 (some .int) 1 [.ref (wad (WY g) 0), .int a1] M (some (.int r0), M) := by
  refine Ct.of (by decide) (Nat.le_of_ble_eq_true rfl) (fun Y hY E => ?_)
  have E : EV Y (WY g) cX9_oddBy 4 (some .int) RX9 := E
  have h : FX9_oddBy a1 M = some r0 := h
  unfold FX9_oddBy at h
  show AW Y (WY g) _ 4 1 0 [(0, .ref (wad (WY g) 0)), (1, .int a1)] [] M
  obtain ⟨r, hr⟩ : ∃ r : Option Value × Mem, r = (some (.int r0), M) := ⟨_, rfl⟩
  rw [← hr]
  refine aw_iconst (v := 0) E dX9_oddBy_0 (by decide) ?_
  refine aw_istore_n (L1 := [(2, .int 0), (0, .ref (wad (WY g) 0)), (1, .int a1)]) E dX9_oddBy_1 (Nat.le_of_ble_eq_true rfl) rfl ?_
  refine aw_iconst (v := 0) E dX9_oddBy_2 (by decide) ?_
  refine aw_istore_n (L1 := [(3, .int 0), (2, .int 0), (0, .ref (wad (WY g) 0)), (1, .int a1)]) E dX9_oddBy_3 (Nat.le_of_ble_eq_true rfl) rfl ?_
  obtain ⟨q1, e2, h⟩ := bd_e h
  refine aw_sub (L1 := [(0, .ref (wad (WY g) 0)), (1, .int a1), (2, .int 0), (3, .int 0)]) [2, 3, 1, 0] rfl ?_
  refine lpX9_oddBy_4 E   a1 FU 0 0 M q1 e2 ?_
  refine aw_iload_n E dX9_oddBy_51 0 rfl ?_
  replace h := Option.some.inj h
  subst h
  exact aw_iret E dX9_oddBy_52 hr
def FX9_restFrom_L6 : Nat → Int32 → Int32 → Int32 → Int32 → Int32 → Int32 → Int32 → Mem → Option (Int32)
  | 0, _, _, _, _, _, _, _, _ => none
  | f + 1, p1, p2, p3, p4, p5, p6, p7, M =>
    if (M.1 0 40) ≤ p7 then
      some p6
    else
      ob (α := Int32) (if ((p3 >>> (p7 &&& 31)) &&& 1) = 1 then
        some (-1)
      else
        ob (FX9_sideOf p7 p2 M) fun q130 =>
        some q130) fun q101 =>
      ob (α := Int32) (if q101 = (-1) then
        some 0
      else
        gi (((4 * p7) + (2 * p5)) + q101) 52 <|
        some (M.1 17 (Int32.toNatClampNeg (((4 * p7) + (2 * p5)) + q101)))) fun q104 =>
      ob (α := Bool) (if q104 ≤ 0 then
        some false
      else
        ob (FX9_beyond p7 q101 M) fun q127 =>
        if (FX9_mayCome q127 p4 M) = 0 then some false else some true) fun b107 =>
      if b107 = true then
        ob (FX9_beyond p7 q101 M) fun q111 =>
        gi ((9 * (p1 ||| ((1 : Int32) <<< (p7 &&& 31)))) + q111) 73728 <|
        lt (α := Int32) (M.1 20 (Int32.toNatClampNeg ((9 * (p1 ||| ((1 : Int32) <<< (p7 &&& 31)))) + q111))) fun x114 =>
        lt (α := Int32) (if x114 = (-1) then
          p6
        else
          lt (α := Bool) (if p6 = (-1) then true else if p6 ≤ (x114 + q104) then false else true) fun b121 =>
          if b121 = true then
            x114 + q104
          else
            p6) fun q116 =>
        lt (α := Int32) (p7 + 1) fun x119 =>
        FX9_restFrom_L6 f p1 p2 p3 p4 p5 q116 x119 M
      else
        lt (α := Int32) (p7 + 1) fun x125 =>
        FX9_restFrom_L6 f p1 p2 p3 p4 p5 p6 x125 M
def FX9_restFrom (a1 : Int32) (a2 : Int32) (a3 : Int32) (a4 : Int32) (a5 : Int32) (M : Mem) : Option (Int32) :=
  ob (FX9_restFrom_L6 FU a1 a2 a3 a4 a5 (-1) 0 M) fun q1 =>
  some q1
set_option maxHeartbeats 4000000 in
set_option maxRecDepth 100000 in
theorem lpX9_restFrom_6 {Y : CtxM} {g : CtxG} {r : Option Value × Mem} (E : EV Y (WY g) cX9_restFrom 11 (some .int) RX9) (p1 : Int32) (p2 : Int32) (p3 : Int32) (p4 : Int32) (p5 : Int32) : ∀ (f : Nat) (p6 : Int32) (p7 : Int32) (M : Mem) (q : Int32), FX9_restFrom_L6 f p1 p2 p3 p4 p5 p6 p7 M = some q → AW Y (WY g) r 11 2 154 [(6, .int q)] [] M → AW Y (WY g) r 11 2 6 [(0, .ref (wad (WY g) 0)), (1, .int p1), (2, .int p2), (3, .int p3), (4, .int p4), (5, .int p5), (6, .int p6), (7, .int p7)] [] M := by
  intro f
  induction f with
  | zero => intro p6 p7 M q hh; exact absurd hh (fun z => nomatch (show (none : Option (Int32)) = some q from z))
  | succ f ih =>
    intro p6 p7 M q hh kx
    rw [FX9_restFrom_L6] at hh
    refine aw_iload E dX9_restFrom_6 7 rfl ?_
    refine aw_aload_n E dX9_restFrom_8 0 rfl ?_
    refine aw_getI E flX9_211 (Nat.le_of_ble_eq_true rfl) rfl rfl dX9_restFrom_9 ?_
    refine aw_icmp_ge (tgt := 154) E dX9_restFrom_12 rfl (fun c12 => ?_) (fun c12 => ?_)
    ·
      replace hh := ip c12 hh
      refine aw_sub (L1 := [(6, .int p6)]) [6] rfl ?_
      replace hh := Option.some.inj hh
      subst hh
      exact kx
    ·
      replace hh := iq c12 hh
      refine aw_iload_n E dX9_restFrom_15 3 rfl ?_
      refine aw_iload E dX9_restFrom_16 7 rfl ?_
      refine aw_ishr E dX9_restFrom_18 ?_
      refine aw_iconst (v := 1) E dX9_restFrom_19 (by decide) ?_
      refine aw_iand E dX9_restFrom_20 ?_
      refine aw_iconst (v := 1) E dX9_restFrom_21 (by decide) ?_
      obtain ⟨q101, e102, hh⟩ := bd_e hh
      have J103 : AW Y (WY g) r 11 2 36 [(0, .ref (wad (WY g) 0)), (1, .int p1), (2, .int p2), (3, .int p3), (4, .int p4), (5, .int p5), (6, .int p6), (7, .int p7)] [.int q101] M := by
        refine aw_istore (L1 := [(8, .int q101), (0, .ref (wad (WY g) 0)), (1, .int p1), (2, .int p2), (3, .int p3), (4, .int p4), (5, .int p5), (6, .int p6), (7, .int p7)]) E dX9_restFrom_36 (Nat.le_of_ble_eq_true rfl) rfl ?_
        refine aw_iload E dX9_restFrom_38 0 rfl ?_
        refine aw_iconst (v := (-1)) E dX9_restFrom_40 (by decide) ?_
        obtain ⟨q104, e105, hh⟩ := bd_e hh
        have J106 : AW Y (WY g) r 11 2 65 [(0, .ref (wad (WY g) 0)), (1, .int p1), (2, .int p2), (3, .int p3), (4, .int p4), (5, .int p5), (6, .int p6), (7, .int p7), (8, .int q101)] [.int q104] M := by
          refine aw_istore (L1 := [(9, .int q104), (0, .ref (wad (WY g) 0)), (1, .int p1), (2, .int p2), (3, .int p3), (4, .int p4), (5, .int p5), (6, .int p6), (7, .int p7), (8, .int q101)]) E dX9_restFrom_65 (Nat.le_of_ble_eq_true rfl) rfl ?_
          refine aw_iload E dX9_restFrom_67 0 rfl ?_
          obtain ⟨b107, e108, hh⟩ := bd_e hh
          have J109 : b107 = true → AW Y (WY g) r 11 2 89 [(9, .int q104), (0, .ref (wad (WY g) 0)), (1, .int p1), (2, .int p2), (3, .int p3), (4, .int p4), (5, .int p5), (6, .int p6), (7, .int p7), (8, .int q101)] [] M := fun hb => by
            replace hh := ip hb hh
            refine aw_aload_n E dX9_restFrom_89 1 rfl ?_
            refine aw_getR (q := 20) E flX9_72 (Nat.le_of_ble_eq_true rfl) rfl rfl dX9_restFrom_90 ?_
            refine aw_bipush (v := 9) E dX9_restFrom_93 (by decide) ?_
            refine aw_iload_n E dX9_restFrom_95 2 rfl ?_
            refine aw_iconst (v := 1) E dX9_restFrom_96 (by decide) ?_
            refine aw_iload E dX9_restFrom_97 8 rfl ?_
            refine aw_ishl E dX9_restFrom_99 ?_
            refine aw_ior E dX9_restFrom_100 ?_
            refine aw_imul E dX9_restFrom_101 ?_
            refine aw_aload_n E dX9_restFrom_102 1 rfl ?_
            refine aw_iload E dX9_restFrom_103 8 rfl ?_
            refine aw_iload E dX9_restFrom_105 9 rfl ?_
            obtain ⟨q111, e112, hh⟩ := bd_e hh
            refine aw_callVi (S := [.int (9 * (p1 ||| ((1 : Int32) <<< (p7 &&& 31)))), .ref (wad (WY g) 20)]) E mvX9_beyond mlX9_217 (Nat.le_of_ble_eq_true rfl) rfl rfl rfl (ctX9_beyond (yl Y) g p7 q101  M q111 e112) rfl (Nat.le_of_ble_eq_true rfl) (Nat.le_of_ble_eq_true rfl) dX9_restFrom_107 ?_
            refine aw_iadd E dX9_restFrom_110 ?_
            obtain ⟨g113, hh⟩ := gi_e hh
            refine aw_iald E (Nat.le_of_ble_eq_true rfl) rfl g113 dX9_restFrom_111 ?_
            obtain ⟨x114, e115, hh⟩ := lt_e hh
            refine aw_nmI e115 ?_
            refine aw_istore (L1 := [(10, .int x114), (9, .int q104), (0, .ref (wad (WY g) 0)), (1, .int p1), (2, .int p2), (3, .int p3), (4, .int p4), (5, .int p5), (6, .int p6), (7, .int p7), (8, .int q101)]) E dX9_restFrom_112 (Nat.le_of_ble_eq_true rfl) rfl ?_
            refine aw_iload E dX9_restFrom_114 0 rfl ?_
            refine aw_iconst (v := (-1)) E dX9_restFrom_116 (by decide) ?_
            obtain ⟨q116, e117, hh⟩ := lt_e hh
            have J118 : AW Y (WY g) r 11 2 146 [(0, .ref (wad (WY g) 0)), (1, .int p1), (2, .int p2), (3, .int p3), (4, .int p4), (5, .int p5), (7, .int p7)] [.int q116] M := by
              refine aw_istore (L1 := [(6, .int q116), (0, .ref (wad (WY g) 0)), (1, .int p1), (2, .int p2), (3, .int p3), (4, .int p4), (5, .int p5), (7, .int p7)]) E dX9_restFrom_146 (Nat.le_of_ble_eq_true rfl) rfl ?_
              obtain ⟨x119, e120, hh⟩ := lt_e hh
              refine aw_iinc (v := x119) (L1 := [(7, .int x119), (6, .int q116), (0, .ref (wad (WY g) 0)), (1, .int p1), (2, .int p2), (3, .int p3), (4, .int p4), (5, .int p5)]) E dX9_restFrom_148 7 rfl e120 (Nat.le_of_ble_eq_true rfl) rfl ?_
              refine aw_goto (tgt := 6) E dX9_restFrom_151 rfl ?_
              refine aw_sub (L1 := [(0, .ref (wad (WY g) 0)), (1, .int p1), (2, .int p2), (3, .int p3), (4, .int p4), (5, .int p5), (6, .int q116), (7, .int x119)]) [2, 3, 4, 5, 6, 7, 1, 0] rfl ?_
              exact ih q116 x119 M _ hh kx
            refine aw_icmp_eq (tgt := 144) E dX9_restFrom_117 rfl (fun c117 => ?_) (fun c117 => ?_)
            ·
              replace e117 := ip c117 e117
              refine aw_iload E dX9_restFrom_144 8 rfl ?_
              refine aw_sub (L1 := [(0, .ref (wad (WY g) 0)), (1, .int p1), (2, .int p2), (3, .int p3), (4, .int p4), (5, .int p5), (7, .int p7)]) [2, 3, 4, 5, 6, 7, 9] rfl ?_
              subst e117
              exact J118
            ·
              replace e117 := iq c117 e117
              refine aw_iload E dX9_restFrom_120 8 rfl ?_
              refine aw_iconst (v := (-1)) E dX9_restFrom_122 (by decide) ?_
              obtain ⟨b121, e122, e117⟩ := lt_e e117
              have J123 : b121 = true → AW Y (WY g) r 11 2 136 [(10, .int x114), (9, .int q104), (0, .ref (wad (WY g) 0)), (1, .int p1), (2, .int p2), (3, .int p3), (4, .int p4), (5, .int p5), (6, .int p6), (7, .int p7), (8, .int q101)] [] M := fun hb => by
                replace e117 := ip hb e117
                refine aw_iload E dX9_restFrom_136 0 rfl ?_
                refine aw_iload E dX9_restFrom_138 1 rfl ?_
                refine aw_iadd E dX9_restFrom_140 ?_
                refine aw_goto (tgt := 146) E dX9_restFrom_141 rfl ?_
                refine aw_sub (L1 := [(0, .ref (wad (WY g) 0)), (1, .int p1), (2, .int p2), (3, .int p3), (4, .int p4), (5, .int p5), (7, .int p7)]) [2, 3, 4, 5, 6, 7, 9] rfl ?_
                subst e117
                exact J118
              have J124 : b121 = false → AW Y (WY g) r 11 2 144 [(10, .int x114), (9, .int q104), (0, .ref (wad (WY g) 0)), (1, .int p1), (2, .int p2), (3, .int p3), (4, .int p4), (5, .int p5), (6, .int p6), (7, .int p7), (8, .int q101)] [] M := fun hb => by
                replace e117 := iq (bf hb) e117
                refine aw_iload E dX9_restFrom_144 8 rfl ?_
                refine aw_sub (L1 := [(0, .ref (wad (WY g) 0)), (1, .int p1), (2, .int p2), (3, .int p3), (4, .int p4), (5, .int p5), (7, .int p7)]) [2, 3, 4, 5, 6, 7, 9] rfl ?_
                subst e117
                exact J118
              refine aw_icmp_eq (tgt := 136) E dX9_restFrom_123 rfl (fun c123 => ?_) (fun c123 => ?_)
              ·
                replace e122 := ip c123 e122
                subst e122
                exact J123 rfl
              ·
                replace e122 := iq c123 e122
                refine aw_iload E dX9_restFrom_126 0 rfl ?_
                refine aw_iload E dX9_restFrom_128 1 rfl ?_
                refine aw_iadd E dX9_restFrom_130 ?_
                refine aw_iload E dX9_restFrom_131 8 rfl ?_
                refine aw_icmp_ge (tgt := 144) E dX9_restFrom_133 rfl (fun c133 => ?_) (fun c133 => ?_)
                ·
                  replace e122 := ip c133 e122
                  subst e122
                  exact J124 rfl
                ·
                  replace e122 := iq c133 e122
                  subst e122
                  exact J123 rfl
          have J110 : b107 = false → AW Y (WY g) r 11 2 148 [(9, .int q104), (0, .ref (wad (WY g) 0)), (1, .int p1), (2, .int p2), (3, .int p3), (4, .int p4), (5, .int p5), (6, .int p6), (7, .int p7), (8, .int q101)] [] M := fun hb => by
            replace hh := iq (bf hb) hh
            obtain ⟨x125, e126, hh⟩ := lt_e hh
            refine aw_iinc (v := x125) (L1 := [(7, .int x125), (9, .int q104), (0, .ref (wad (WY g) 0)), (1, .int p1), (2, .int p2), (3, .int p3), (4, .int p4), (5, .int p5), (6, .int p6), (8, .int q101)]) E dX9_restFrom_148 8 rfl e126 (Nat.le_of_ble_eq_true rfl) rfl ?_
            refine aw_goto (tgt := 6) E dX9_restFrom_151 rfl ?_
            refine aw_sub (L1 := [(0, .ref (wad (WY g) 0)), (1, .int p1), (2, .int p2), (3, .int p3), (4, .int p4), (5, .int p5), (6, .int p6), (7, .int x125)]) [2, 3, 4, 5, 6, 7, 8, 0] rfl ?_
            exact ih p6 x125 M _ hh kx
          refine aw_if_le (tgt := 148) E dX9_restFrom_69 rfl (fun c69 => ?_) (fun c69 => ?_)
          ·
            replace e108 := ip c69 e108
            replace e108 := Option.some.inj e108
            subst e108
            exact J110 rfl
          ·
            replace e108 := iq c69 e108
            refine aw_aload_n E dX9_restFrom_72 1 rfl ?_
            refine aw_aload_n E dX9_restFrom_73 1 rfl ?_
            refine aw_iload E dX9_restFrom_74 8 rfl ?_
            refine aw_iload E dX9_restFrom_76 9 rfl ?_
            obtain ⟨q127, e128, e108⟩ := bd_e e108
            refine aw_callVi (S := [.ref (wad (WY g) 0)]) E mvX9_beyond mlX9_217 (Nat.le_of_ble_eq_true rfl) rfl rfl rfl (ctX9_beyond (yl Y) g p7 q101  M q127 e128) rfl (Nat.le_of_ble_eq_true rfl) (Nat.le_of_ble_eq_true rfl) dX9_restFrom_78 ?_
            refine aw_iload E dX9_restFrom_81 5 rfl ?_
            refine aw_callVi (S := []) E mvX9_mayCome mlX9_220 (Nat.le_of_ble_eq_true rfl) rfl rfl rfl (ctX9_mayCome (yl Y) g q127 p4  M ) rfl (Nat.le_of_ble_eq_true rfl) (Nat.le_of_ble_eq_true rfl) dX9_restFrom_83 ?_
            refine aw_if_eq (tgt := 148) E dX9_restFrom_86 rfl (fun c86 => ?_) (fun c86 => ?_)
            ·
              replace e108 := ip c86 e108
              replace e108 := Option.some.inj e108
              subst e108
              exact J110 rfl
            ·
              replace e108 := iq c86 e108
              replace e108 := Option.some.inj e108
              subst e108
              exact J109 rfl
        refine aw_icmp_ne (tgt := 48) E dX9_restFrom_41 rfl (fun c41 => ?_) (fun c41 => ?_)
        ·
          replace e105 := iq c41 e105
          refine aw_aload_n E dX9_restFrom_48 1 rfl ?_
          refine aw_getR (q := 17) E flX9_62 (Nat.le_of_ble_eq_true rfl) rfl rfl dX9_restFrom_49 ?_
          refine aw_iconst (v := 4) E dX9_restFrom_52 (by decide) ?_
          refine aw_iload E dX9_restFrom_53 8 rfl ?_
          refine aw_imul E dX9_restFrom_55 ?_
          refine aw_iconst (v := 2) E dX9_restFrom_56 (by decide) ?_
          refine aw_iload E dX9_restFrom_57 6 rfl ?_
          refine aw_imul E dX9_restFrom_59 ?_
          refine aw_iadd E dX9_restFrom_60 ?_
          refine aw_iload E dX9_restFrom_61 0 rfl ?_
          refine aw_iadd E dX9_restFrom_63 ?_
          obtain ⟨g129, e105⟩ := gi_e e105
          refine aw_iald E (Nat.le_of_ble_eq_true rfl) rfl g129 dX9_restFrom_64 ?_
          refine aw_sub (L1 := [(0, .ref (wad (WY g) 0)), (1, .int p1), (2, .int p2), (3, .int p3), (4, .int p4), (5, .int p5), (6, .int p6), (7, .int p7), (8, .int q101)]) [1, 2, 3, 4, 5, 6, 7, 8, 0] rfl ?_
          replace e105 := Option.some.inj e105
          subst e105
          exact J106
        ·
          replace e105 := ip c41 e105
          refine aw_iconst (v := 0) E dX9_restFrom_44 (by decide) ?_
          refine aw_goto (tgt := 65) E dX9_restFrom_45 rfl ?_
          refine aw_sub (L1 := [(0, .ref (wad (WY g) 0)), (1, .int p1), (2, .int p2), (3, .int p3), (4, .int p4), (5, .int p5), (6, .int p6), (7, .int p7), (8, .int q101)]) [1, 2, 3, 4, 5, 6, 7, 8, 0] rfl ?_
          replace e105 := Option.some.inj e105
          subst e105
          exact J106
      refine aw_icmp_ne (tgt := 29) E dX9_restFrom_22 rfl (fun c22 => ?_) (fun c22 => ?_)
      ·
        replace e102 := iq c22 e102
        refine aw_aload_n E dX9_restFrom_29 0 rfl ?_
        refine aw_iload E dX9_restFrom_30 7 rfl ?_
        refine aw_iload_n E dX9_restFrom_32 2 rfl ?_
        obtain ⟨q130, e131, e102⟩ := bd_e e102
        refine aw_callVi (S := []) E mvX9_sideOf mlX9_214 (Nat.le_of_ble_eq_true rfl) rfl rfl rfl (ctX9_sideOf (yl Y) g p7 p2  M q130 e131) rfl (Nat.le_of_ble_eq_true rfl) (Nat.le_of_ble_eq_true rfl) dX9_restFrom_33 ?_
        refine aw_sub (L1 := [(0, .ref (wad (WY g) 0)), (1, .int p1), (2, .int p2), (3, .int p3), (4, .int p4), (5, .int p5), (6, .int p6), (7, .int p7)]) [0, 1, 2, 3, 4, 5, 6, 7] rfl ?_
        replace e102 := Option.some.inj e102
        subst e102
        exact J103
      ·
        replace e102 := ip c22 e102
        refine aw_iconst (v := (-1)) E dX9_restFrom_25 (by decide) ?_
        refine aw_goto (tgt := 36) E dX9_restFrom_26 rfl ?_
        refine aw_sub (L1 := [(0, .ref (wad (WY g) 0)), (1, .int p1), (2, .int p2), (3, .int p3), (4, .int p4), (5, .int p5), (6, .int p6), (7, .int p7)]) [0, 1, 2, 3, 4, 5, 6, 7] rfl ?_
        replace e102 := Option.some.inj e102
        subst e102
        exact J103
set_option maxHeartbeats 4000000 in
set_option maxRecDepth 100000 in
theorem ctX9_restFrom (l : Launch) (g : CtxG) (a1 : Int32) (a2 : Int32) (a3 : Int32) (a4 : Int32) (a5 : Int32) (M : Mem) (r0 : Int32) (h : FX9_restFrom a1 a2 a3 a4 a5 M = some r0) : Ct l (WY g) yX9_restFrom cX9_restFrom 11 (some .int) 2 [.ref (wad (WY g) 0), .int a1, .int a2, .int a3, .int a4, .int a5] M (some (.int r0), M) := by
  refine Ct.of (by decide) (Nat.le_of_ble_eq_true rfl) (fun Y hY E => ?_)
  have E : EV Y (WY g) cX9_restFrom 11 (some .int) RX9 := E
  have h : FX9_restFrom a1 a2 a3 a4 a5 M = some r0 := h
  unfold FX9_restFrom at h
  show AW Y (WY g) _ 11 2 0 [(0, .ref (wad (WY g) 0)), (1, .int a1), (2, .int a2), (3, .int a3), (4, .int a4), (5, .int a5)] [] M
  obtain ⟨r, hr⟩ : ∃ r : Option Value × Mem, r = (some (.int r0), M) := ⟨_, rfl⟩
  rw [← hr]
  refine aw_iconst (v := (-1)) E dX9_restFrom_0 (by decide) ?_
  refine aw_istore (L1 := [(6, .int (-1)), (0, .ref (wad (WY g) 0)), (1, .int a1), (2, .int a2), (3, .int a3), (4, .int a4), (5, .int a5)]) E dX9_restFrom_1 (Nat.le_of_ble_eq_true rfl) rfl ?_
  refine aw_iconst (v := 0) E dX9_restFrom_3 (by decide) ?_
  refine aw_istore (L1 := [(7, .int 0), (6, .int (-1)), (0, .ref (wad (WY g) 0)), (1, .int a1), (2, .int a2), (3, .int a3), (4, .int a4), (5, .int a5)]) E dX9_restFrom_4 (Nat.le_of_ble_eq_true rfl) rfl ?_
  obtain ⟨q1, e2, h⟩ := bd_e h
  refine aw_sub (L1 := [(0, .ref (wad (WY g) 0)), (1, .int a1), (2, .int a2), (3, .int a3), (4, .int a4), (5, .int a5), (6, .int (-1)), (7, .int 0)]) [2, 3, 4, 5, 6, 7, 1, 0] rfl ?_
  refine lpX9_restFrom_6 E   a1 a2 a3 a4 a5 FU (-1) 0 M q1 e2 ?_
  refine aw_iload E dX9_restFrom_154 0 rfl ?_
  replace h := Option.some.inj h
  subst h
  exact aw_iret E dX9_restFrom_156 hr
