/-! PRINTED by wip/gen: pure functions of the methods, and that the machine does what they say -/
def FX0_isRing (a1 : Int32) (a2 : Int32) (M : Mem) : Option (Int32) :=
  ob (α := Bool) (if a1 = 0 then
    some false
  else
    gi a1 8192 <|
    if (FX7_at (M.1 39 (Int32.toNatClampNeg a1))) = (M.1 37 5) then
      gi a1 8192 <|
      if (a2 &&& ((FX7_passed (M.1 39 (Int32.toNatClampNeg a1))) ^^^ (-1))) = 0 then some true else some false
    else
      some false) fun b1 =>
  if b1 = true then
    some 1
  else
    some 0
set_option maxHeartbeats 4000000 in
set_option maxRecDepth 100000 in
theorem ctX0_isRing (l : Launch) (g : CtxG) (a1 : Int32) (a2 : Int32) (M : Mem) (r0 : Int32) (h : FX0_isRing a1 a2 M = some r0) : Ct l (WX g) yX0_isRing cX0_isRing 3 (some .boolean) 2 [.ref (wad (WX g) 37), .int a1, .int a2] M (some (.int r0), M) := by
  refine Ct.of (by decide) (Nat.le_of_ble_eq_true rfl) (fun Y hY E => ?_)
  have E : EV Y (WX g) cX0_isRing 3 (some .boolean) RX0 := E
  have h : FX0_isRing a1 a2 M = some r0 := h
  unfold FX0_isRing at h
  show AW Y (WX g) _ 3 2 0 [(0, .ref (wad (WX g) 37)), (1, .int a1), (2, .int a2)] [] M
  obtain ⟨r, hr⟩ : ∃ r : Option Value × Mem, r = (some (.int r0), M) := ⟨_, rfl⟩
  rw [← hr]
  refine aw_iload_n E dX0_isRing_0 1 rfl ?_
  obtain ⟨b1, e2, h⟩ := bd_e h
  have J3 : b1 = true → AW Y (WX g) r 3 2 36 [(0, .ref (wad (WX g) 37)), (1, .int a1), (2, .int a2)] [] M := fun hb => by
    replace h := ip hb h
    refine aw_iconst (v := 1) E dX0_isRing_36 (by decide) ?_
    refine aw_goto (tgt := 41) E dX0_isRing_37 rfl ?_
    replace h := Option.some.inj h
    subst h
    exact aw_zret E (by decide) dX0_isRing_41 hr
  have J4 : b1 = false → AW Y (WX g) r 3 2 40 [(0, .ref (wad (WX g) 37)), (1, .int a1), (2, .int a2)] [] M := fun hb => by
    replace h := iq (bf hb) h
    refine aw_iconst (v := 0) E dX0_isRing_40 (by decide) ?_
    replace h := Option.some.inj h
    subst h
    exact aw_zret E (by decide) dX0_isRing_41 hr
  refine aw_if_eq (tgt := 40) E dX0_isRing_1 rfl (fun c1 => ?_) (fun c1 => ?_)
  ·
    replace e2 := ip c1 e2
    replace e2 := Option.some.inj e2
    subst e2
    exact J4 rfl
  ·
    replace e2 := iq c1 e2
    refine aw_aload_n E dX0_isRing_4 0 rfl ?_
    refine aw_getR (q := 39) E flX0_15 (Nat.le_of_ble_eq_true rfl) rfl rfl dX0_isRing_5 ?_
    refine aw_iload_n E dX0_isRing_8 1 rfl ?_
    obtain ⟨g5, e2⟩ := gi_e e2
    refine aw_iald E (Nat.le_of_ble_eq_true rfl) rfl g5 dX0_isRing_9 ?_
    refine aw_callSi (S := []) E msX7_at mlX0_65 rfl (ctX7_at (yl Y) g (M.1 39 (Int32.toNatClampNeg a1))  M ) rfl (Nat.le_of_ble_eq_true rfl) (Nat.le_of_ble_eq_true rfl) dX0_isRing_10 ?_
    refine aw_aload_n E dX0_isRing_13 0 rfl ?_
    refine aw_getI E flX0_35 (Nat.le_of_ble_eq_true rfl) rfl rfl dX0_isRing_14 ?_
    refine aw_icmp_ne (tgt := 40) E dX0_isRing_17 rfl (fun c17 => ?_) (fun c17 => ?_)
    ·
      replace e2 := iq c17 e2
      replace e2 := Option.some.inj e2
      subst e2
      exact J4 rfl
    ·
      replace e2 := ip c17 e2
      refine aw_iload_n E dX0_isRing_20 2 rfl ?_
      refine aw_aload_n E dX0_isRing_21 0 rfl ?_
      refine aw_getR (q := 39) E flX0_15 (Nat.le_of_ble_eq_true rfl) rfl rfl dX0_isRing_22 ?_
      refine aw_iload_n E dX0_isRing_25 1 rfl ?_
      obtain ⟨g6, e2⟩ := gi_e e2
      refine aw_iald E (Nat.le_of_ble_eq_true rfl) rfl g6 dX0_isRing_26 ?_
      refine aw_callSi (S := [.int a2]) E msX7_passed mlX0_51 rfl (ctX7_passed (yl Y) g (M.1 39 (Int32.toNatClampNeg a1))  M ) rfl (Nat.le_of_ble_eq_true rfl) (Nat.le_of_ble_eq_true rfl) dX0_isRing_27 ?_
      refine aw_iconst (v := (-1)) E dX0_isRing_30 (by decide) ?_
      refine aw_ixor E dX0_isRing_31 ?_
      refine aw_iand E dX0_isRing_32 ?_
      refine aw_if_ne (tgt := 40) E dX0_isRing_33 rfl (fun c33 => ?_) (fun c33 => ?_)
      ·
        replace e2 := iq c33 e2
        replace e2 := Option.some.inj e2
        subst e2
        exact J4 rfl
      ·
        replace e2 := ip c33 e2
        replace e2 := Option.some.inj e2
        subst e2
        exact J3 rfl
def FX0_minutes (a1 : Int32) (M : Mem) : Option (Int32) :=
  gi a1 8192 <|
  some ((jlushr (M.2 38 (Int32.toNatClampNeg a1)) 52).toInt32)
set_option maxHeartbeats 4000000 in
set_option maxRecDepth 100000 in
theorem ctX0_minutes (l : Launch) (g : CtxG) (a1 : Int32) (M : Mem) (r0 : Int32) (h : FX0_minutes a1 M = some r0) : Ct l (WX g) yX0_minutes cX0_minutes 2 (some .int) 1 [.ref (wad (WX g) 37), .int a1] M (some (.int r0), M) := by
  refine Ct.of (by decide) (Nat.le_of_ble_eq_true rfl) (fun Y hY E => ?_)
  have E : EV Y (WX g) cX0_minutes 2 (some .int) RX0 := E
  have h : FX0_minutes a1 M = some r0 := h
  unfold FX0_minutes at h
  show AW Y (WX g) _ 2 1 0 [(0, .ref (wad (WX g) 37)), (1, .int a1)] [] M
  obtain ⟨r, hr⟩ : ∃ r : Option Value × Mem, r = (some (.int r0), M) := ⟨_, rfl⟩
  rw [← hr]
  refine aw_aload_n E dX0_minutes_0 0 rfl ?_
  refine aw_getR (q := 38) E flX0_11 (Nat.le_of_ble_eq_true rfl) rfl rfl dX0_minutes_1 ?_
  refine aw_iload_n E dX0_minutes_4 1 rfl ?_
  obtain ⟨g1, h⟩ := gi_e h
  refine aw_lald E (Nat.le_of_ble_eq_true rfl) rfl g1 dX0_minutes_5 ?_
  refine aw_bipush (v := 52) E dX0_minutes_6 (by decide) ?_
  refine aw_lushr (v := jlushr (M.2 38 (Int32.toNatClampNeg a1)) 52) E dX0_minutes_8 rfl ?_
  refine aw_l2i E dX0_minutes_9 ?_
  replace h := Option.some.inj h
  subst h
  exact aw_iret E dX0_minutes_10 hr
def FX0_fillFewest_L2 : Nat → Int32 → Int32 → Int32 → Mem → Option (Mem)
  | 0, _, _, _, _ => none
  | f + 1, p1, p2, p3, M =>
    if p2 ≤ p3 then
      some M
    else
      gi p3 8192 <|
      ob (α := Bool) (if (M.1 39 (Int32.toNatClampNeg p3)) = 0 then
        some false
      else
        ob (FX0_isRing p3 p1 M) fun q119 =>
        if q119 = 0 then some false else some true) fun b102 =>
      lt (α := Int32) (if b102 = true then
        1
      else
        0) fun q104 =>
      ob (α := Int32) (if q104 = 0 then
        some 1048576
      else
        ob (FX0_minutes p3 M) fun q115 =>
        some q115) fun q107 =>
      gi p3 4096 <|
      lt (wr M 41 (Int32.toNatClampNeg p3) q107) fun M111 =>
      lt (α := Int32) (p3 + 1) fun x113 =>
      FX0_fillFewest_L2 f p1 p2 x113 M111
def FX0_fillFewest_L69 : Nat → Int32 → Int32 → Int32 → Mem → Option (Mem)
  | 0, _, _, _, _ => none
  | f + 1, p2, p3, p4, M =>
    if p2 ≤ p4 then
      some M
    else
      if (p4 &&& p3) = 0 then
        lt (α := Int32) (p4 + 1) fun x201 =>
        FX0_fillFewest_L69 f p2 p3 x201 M
      else
        gi p4 4096 <|
        gi (p4 ^^^ p3) 4096 <|
        gi p4 4096 <|
        lt (wr M 41 (Int32.toNatClampNeg p4) (if (M.1 41 (Int32.toNatClampNeg (p4 ^^^ p3))) < (M.1 41 (Int32.toNatClampNeg p4)) then (M.1 41 (Int32.toNatClampNeg (p4 ^^^ p3))) else (M.1 41 (Int32.toNatClampNeg p4)))) fun M206 =>
        lt (α := Int32) (p4 + 1) fun x208 =>
        FX0_fillFewest_L69 f p2 p3 x208 M206
def FX0_fillFewest_L61 : Nat → Int32 → Int32 → Mem → Option (Mem)
  | 0, _, _, _ => none
  | f + 1, p2, p3, M =>
    if p2 ≤ p3 then
      some M
    else
      ob (FX0_fillFewest_L69 FU p2 p3 0 M) fun q201 =>
      lt (α := Int32) (p3 <<< ((1 : Int32) &&& 31)) fun x203 =>
      FX0_fillFewest_L61 f p2 x203 q201
def FX0_fillFewest (a1 : Int32) (a2 : Int32) (M : Mem) : Option (Mem) :=
  ob (FX0_fillFewest_L2 FU a1 a2 0 M) fun q1 =>
  ob (FX0_fillFewest_L61 FU a2 1 q1) fun q3 =>
  some q3
set_option maxHeartbeats 4000000 in
set_option maxRecDepth 100000 in
theorem lpX0_fillFewest_2 {Y : CtxM} {g : CtxG} {r : Option Value × Mem} (E : EV Y (WX g) cX0_fillFewest 5 none RX0) (p1 : Int32) (p2 : Int32) : ∀ (f : Nat) (p3 : Int32) (M : Mem) (q : Mem), FX0_fillFewest_L2 f p1 p2 p3 M = some q → AW Y (WX g) r 5 3 59 [(0, .ref (wad (WX g) 37)), (2, .int p2)] [] q → AW Y (WX g) r 5 3 2 [(0, .ref (wad (WX g) 37)), (1, .int p1), (2, .int p2), (3, .int p3)] [] M := by
  intro f
  induction f with
  | zero => intro p3 M q hh; exact absurd hh (fun z => nomatch (show (none : Option (Mem)) = some q from z))
  | succ f ih =>
    intro p3 M q hh kx
    rw [FX0_fillFewest_L2] at hh
    refine aw_iload_n E dX0_fillFewest_2 3 rfl ?_
    refine aw_iload_n E dX0_fillFewest_3 2 rfl ?_
    refine aw_icmp_ge (tgt := 59) E dX0_fillFewest_4 rfl (fun c4 => ?_) (fun c4 => ?_)
    ·
      replace hh := ip c4 hh
      refine aw_sub (L1 := [(0, .ref (wad (WX g) 37)), (2, .int p2)]) [0, 2] rfl ?_
      replace hh := Option.some.inj hh
      subst hh
      exact kx
    ·
      replace hh := iq c4 hh
      refine aw_aload_n E dX0_fillFewest_7 0 rfl ?_
      refine aw_getR (q := 39) E flX0_15 (Nat.le_of_ble_eq_true rfl) rfl rfl dX0_fillFewest_8 ?_
      refine aw_iload_n E dX0_fillFewest_11 3 rfl ?_
      obtain ⟨g101, hh⟩ := gi_e hh
      refine aw_iald E (Nat.le_of_ble_eq_true rfl) rfl g101 dX0_fillFewest_12 ?_
      obtain ⟨b102, e103, hh⟩ := bd_e hh
      obtain ⟨q104, e105, hh⟩ := lt_e hh
      have J106 : AW Y (WX g) r 5 3 30 [(0, .ref (wad (WX g) 37)), (1, .int p1), (2, .int p2), (3, .int p3)] [.int q104] M := by
        refine aw_istore (L1 := [(4, .int q104), (0, .ref (wad (WX g) 37)), (1, .int p1), (2, .int p2), (3, .int p3)]) E dX0_fillFewest_30 (Nat.le_of_ble_eq_true rfl) rfl ?_
        refine aw_aload_n E dX0_fillFewest_32 1 rfl ?_
        refine aw_getR (q := 41) E flX0_22 (Nat.le_of_ble_eq_true rfl) rfl rfl dX0_fillFewest_33 ?_
        refine aw_iload_n E dX0_fillFewest_36 4 rfl ?_
        refine aw_iload E dX0_fillFewest_37 0 rfl ?_
        obtain ⟨q107, e108, hh⟩ := bd_e hh
        have J109 : AW Y (WX g) r 5 3 52 [(0, .ref (wad (WX g) 37)), (1, .int p1), (2, .int p2), (3, .int p3)] [.int q107, .int p3, .ref (wad (WX g) 41)] M := by
          obtain ⟨g110, hh⟩ := gi_e hh
          obtain ⟨M111, e112, hh⟩ := lt_e hh
          refine aw_iast1 e112 E (Nat.le_of_ble_eq_true rfl) rfl g110 dX0_fillFewest_52 ?_
          obtain ⟨x113, e114, hh⟩ := lt_e hh
          refine aw_iinc (v := x113) (L1 := [(3, .int x113), (0, .ref (wad (WX g) 37)), (1, .int p1), (2, .int p2)]) E dX0_fillFewest_53 3 rfl e114 (Nat.le_of_ble_eq_true rfl) rfl ?_
          refine aw_goto (tgt := 2) E dX0_fillFewest_56 rfl ?_
          refine aw_sub (L1 := [(0, .ref (wad (WX g) 37)), (1, .int p1), (2, .int p2), (3, .int x113)]) [1, 2, 3, 0] rfl ?_
          exact ih x113 M111 _ hh kx
        refine aw_if_eq (tgt := 50) E dX0_fillFewest_39 rfl (fun c39 => ?_) (fun c39 => ?_)
        ·
          replace e108 := ip c39 e108
          refine aw_ldc (v := 1048576) E kcX0_101 dX0_fillFewest_50 ?_
          refine aw_sub (L1 := [(0, .ref (wad (WX g) 37)), (1, .int p1), (2, .int p2), (3, .int p3)]) [1, 2, 3, 4] rfl ?_
          replace e108 := Option.some.inj e108
          subst e108
          exact J109
        ·
          replace e108 := iq c39 e108
          refine aw_aload_n E dX0_fillFewest_42 1 rfl ?_
          refine aw_iload_n E dX0_fillFewest_43 4 rfl ?_
          obtain ⟨q115, e116, e108⟩ := bd_e e108
          refine aw_callVi (S := [.int p3, .ref (wad (WX g) 41)]) E mvX0_minutes mlX0_105 (Nat.le_of_ble_eq_true rfl) rfl rfl rfl (ctX0_minutes (yl Y) g p3  M q115 e116) rfl (Nat.le_of_ble_eq_true rfl) (Nat.le_of_ble_eq_true rfl) dX0_fillFewest_44 ?_
          refine aw_goto (tgt := 52) E dX0_fillFewest_47 rfl ?_
          refine aw_sub (L1 := [(0, .ref (wad (WX g) 37)), (1, .int p1), (2, .int p2), (3, .int p3)]) [1, 2, 3, 4] rfl ?_
          replace e108 := Option.some.inj e108
          subst e108
          exact J109
      have J117 : b102 = true → AW Y (WX g) r 5 3 25 [(0, .ref (wad (WX g) 37)), (1, .int p1), (2, .int p2), (3, .int p3)] [] M := fun hb => by
        replace e105 := ip hb e105
        refine aw_iconst (v := 1) E dX0_fillFewest_25 (by decide) ?_
        refine aw_goto (tgt := 30) E dX0_fillFewest_26 rfl ?_
        refine aw_sub (L1 := [(0, .ref (wad (WX g) 37)), (1, .int p1), (2, .int p2), (3, .int p3)]) [0, 1, 2, 3] rfl ?_
        subst e105
        exact J106
      have J118 : b102 = false → AW Y (WX g) r 5 3 29 [(0, .ref (wad (WX g) 37)), (1, .int p1), (2, .int p2), (3, .int p3)] [] M := fun hb => by
        replace e105 := iq (bf hb) e105
        refine aw_iconst (v := 0) E dX0_fillFewest_29 (by decide) ?_
        refine aw_sub (L1 := [(0, .ref (wad (WX g) 37)), (1, .int p1), (2, .int p2), (3, .int p3)]) [0, 1, 2, 3] rfl ?_
        subst e105
        exact J106
      refine aw_if_eq (tgt := 29) E dX0_fillFewest_13 rfl (fun c13 => ?_) (fun c13 => ?_)
      ·
        replace e103 := ip c13 e103
        replace e103 := Option.some.inj e103
        subst e103
        exact J118 rfl
      ·
        replace e103 := iq c13 e103
        refine aw_aload_n E dX0_fillFewest_16 0 rfl ?_
        refine aw_iload_n E dX0_fillFewest_17 3 rfl ?_
        refine aw_iload_n E dX0_fillFewest_18 1 rfl ?_
        obtain ⟨q119, e120, e103⟩ := bd_e e103
        refine aw_callVi (S := []) E mvX0_isRing mlX0_47 (Nat.le_of_ble_eq_true rfl) rfl rfl rfl (ctX0_isRing (yl Y) g p3 p1  M q119 e120) rfl (Nat.le_of_ble_eq_true rfl) (Nat.le_of_ble_eq_true rfl) dX0_fillFewest_19 ?_
        refine aw_if_eq (tgt := 29) E dX0_fillFewest_22 rfl (fun c22 => ?_) (fun c22 => ?_)
        ·
          replace e103 := ip c22 e103
          replace e103 := Option.some.inj e103
          subst e103
          exact J118 rfl
        ·
          replace e103 := iq c22 e103
          replace e103 := Option.some.inj e103
          subst e103
          exact J117 rfl
set_option maxHeartbeats 4000000 in
set_option maxRecDepth 100000 in
theorem lpX0_fillFewest_69 {Y : CtxM} {g : CtxG} {r : Option Value × Mem} (E : EV Y (WX g) cX0_fillFewest 5 none RX0) (p2 : Int32) (p3 : Int32) : ∀ (f : Nat) (p4 : Int32) (M : Mem) (q : Mem), FX0_fillFewest_L69 f p2 p3 p4 M = some q → AW Y (WX g) r 5 3 114 [(0, .ref (wad (WX g) 37)), (2, .int p2), (3, .int p3)] [] q → AW Y (WX g) r 5 3 69 [(0, .ref (wad (WX g) 37)), (2, .int p2), (3, .int p3), (4, .int p4)] [] M := by
  intro f
  induction f with
  | zero => intro p4 M q hh; exact absurd hh (fun z => nomatch (show (none : Option (Mem)) = some q from z))
  | succ f ih =>
    intro p4 M q hh kx
    rw [FX0_fillFewest_L69] at hh
    refine aw_iload E dX0_fillFewest_69 3 rfl ?_
    refine aw_iload_n E dX0_fillFewest_71 1 rfl ?_
    refine aw_icmp_ge (tgt := 114) E dX0_fillFewest_72 rfl (fun c72 => ?_) (fun c72 => ?_)
    ·
      replace hh := ip c72 hh
      refine aw_sub (L1 := [(0, .ref (wad (WX g) 37)), (2, .int p2), (3, .int p3)]) [0, 1, 2] rfl ?_
      replace hh := Option.some.inj hh
      subst hh
      exact kx
    ·
      replace hh := iq c72 hh
      refine aw_iload E dX0_fillFewest_75 3 rfl ?_
      refine aw_iload_n E dX0_fillFewest_77 2 rfl ?_
      refine aw_iand E dX0_fillFewest_78 ?_
      refine aw_if_eq (tgt := 108) E dX0_fillFewest_79 rfl (fun c79 => ?_) (fun c79 => ?_)
      ·
        replace hh := ip c79 hh
        obtain ⟨x201, e202, hh⟩ := lt_e hh
        refine aw_iinc (v := x201) (L1 := [(4, .int x201), (0, .ref (wad (WX g) 37)), (2, .int p2), (3, .int p3)]) E dX0_fillFewest_108 3 rfl e202 (Nat.le_of_ble_eq_true rfl) rfl ?_
        refine aw_goto (tgt := 69) E dX0_fillFewest_111 rfl ?_
        refine aw_sub (L1 := [(0, .ref (wad (WX g) 37)), (2, .int p2), (3, .int p3), (4, .int x201)]) [1, 2, 3, 0] rfl ?_
        exact ih x201 M _ hh kx
      ·
        replace hh := iq c79 hh
        refine aw_aload_n E dX0_fillFewest_82 0 rfl ?_
        refine aw_getR (q := 41) E flX0_22 (Nat.le_of_ble_eq_true rfl) rfl rfl dX0_fillFewest_83 ?_
        refine aw_iload E dX0_fillFewest_86 3 rfl ?_
        refine aw_aload_n E dX0_fillFewest_88 0 rfl ?_
        refine aw_getR (q := 41) E flX0_22 (Nat.le_of_ble_eq_true rfl) rfl rfl dX0_fillFewest_89 ?_
        refine aw_iload E dX0_fillFewest_92 3 rfl ?_
        obtain ⟨g203, hh⟩ := gi_e hh
        refine aw_iald E (Nat.le_of_ble_eq_true rfl) rfl g203 dX0_fillFewest_94 ?_
        refine aw_aload_n E dX0_fillFewest_95 0 rfl ?_
        refine aw_getR (q := 41) E flX0_22 (Nat.le_of_ble_eq_true rfl) rfl rfl dX0_fillFewest_96 ?_
        refine aw_iload E dX0_fillFewest_99 3 rfl ?_
        refine aw_iload_n E dX0_fillFewest_101 2 rfl ?_
        refine aw_ixor E dX0_fillFewest_102 ?_
        obtain ⟨g204, hh⟩ := gi_e hh
        refine aw_iald E (Nat.le_of_ble_eq_true rfl) rfl g204 dX0_fillFewest_103 ?_
        refine aw_mmin E mlX0_96 (Nat.le_of_ble_eq_true rfl) (Nat.le_of_ble_eq_true rfl) dX0_fillFewest_104 ?_
        obtain ⟨g205, hh⟩ := gi_e hh
        obtain ⟨M206, e207, hh⟩ := lt_e hh
        refine aw_iast1 e207 E (Nat.le_of_ble_eq_true rfl) rfl g205 dX0_fillFewest_107 ?_
        obtain ⟨x208, e209, hh⟩ := lt_e hh
        refine aw_iinc (v := x208) (L1 := [(4, .int x208), (0, .ref (wad (WX g) 37)), (2, .int p2), (3, .int p3)]) E dX0_fillFewest_108 3 rfl e209 (Nat.le_of_ble_eq_true rfl) rfl ?_
        refine aw_goto (tgt := 69) E dX0_fillFewest_111 rfl ?_
        refine aw_sub (L1 := [(0, .ref (wad (WX g) 37)), (2, .int p2), (3, .int p3), (4, .int x208)]) [1, 2, 3, 0] rfl ?_
        exact ih x208 M206 _ hh kx
set_option maxHeartbeats 4000000 in
set_option maxRecDepth 100000 in
theorem lpX0_fillFewest_61 {Y : CtxM} {g : CtxG} {r : Option Value × Mem} (E : EV Y (WX g) cX0_fillFewest 5 none RX0) (p2 : Int32) : ∀ (f : Nat) (p3 : Int32) (M : Mem) (q : Mem), FX0_fillFewest_L61 f p2 p3 M = some q → AW Y (WX g) r 5 3 121 [] [] q → AW Y (WX g) r 5 3 61 [(0, .ref (wad (WX g) 37)), (2, .int p2), (3, .int p3)] [] M := by
  intro f
  induction f with
  | zero => intro p3 M q hh; exact absurd hh (fun z => nomatch (show (none : Option (Mem)) = some q from z))
  | succ f ih =>
    intro p3 M q hh kx
    rw [FX0_fillFewest_L61] at hh
    refine aw_iload_n E dX0_fillFewest_61 2 rfl ?_
    refine aw_iload_n E dX0_fillFewest_62 1 rfl ?_
    refine aw_icmp_ge (tgt := 121) E dX0_fillFewest_63 rfl (fun c63 => ?_) (fun c63 => ?_)
    ·
      replace hh := ip c63 hh
      refine aw_sub (L1 := []) [] rfl ?_
      replace hh := Option.some.inj hh
      subst hh
      exact kx
    ·
      replace hh := iq c63 hh
      refine aw_iconst (v := 0) E dX0_fillFewest_66 (by decide) ?_
      refine aw_istore (L1 := [(4, .int 0), (0, .ref (wad (WX g) 37)), (2, .int p2), (3, .int p3)]) E dX0_fillFewest_67 (Nat.le_of_ble_eq_true rfl) rfl ?_
      obtain ⟨q201, e202, hh⟩ := bd_e hh
      refine aw_sub (L1 := [(0, .ref (wad (WX g) 37)), (2, .int p2), (3, .int p3), (4, .int 0)]) [1, 2, 3, 0] rfl ?_
      refine lpX0_fillFewest_69 E   p2 p3 FU 0 M q201 e202 ?_
      refine aw_iload_n E dX0_fillFewest_114 2 rfl ?_
      refine aw_iconst (v := 1) E dX0_fillFewest_115 (by decide) ?_
      refine aw_ishl E dX0_fillFewest_116 ?_
      obtain ⟨x203, e204, hh⟩ := lt_e hh
      refine aw_nmI e204 ?_
      refine aw_istore_n (L1 := [(3, .int x203), (0, .ref (wad (WX g) 37)), (2, .int p2)]) E dX0_fillFewest_117 (Nat.le_of_ble_eq_true rfl) rfl ?_
      refine aw_goto (tgt := 61) E dX0_fillFewest_118 rfl ?_
      refine aw_sub (L1 := [(0, .ref (wad (WX g) 37)), (2, .int p2), (3, .int x203)]) [1, 2, 0] rfl ?_
      exact ih x203 q201 _ hh kx
set_option maxHeartbeats 4000000 in
set_option maxRecDepth 100000 in
theorem ctX0_fillFewest (l : Launch) (g : CtxG) (a1 : Int32) (a2 : Int32) (M : Mem) (r0 : Mem) (h : FX0_fillFewest a1 a2 M = some r0) : Ct l (WX g) yX0_fillFewest cX0_fillFewest 5 none 3 [.ref (wad (WX g) 37), .int a1, .int a2] M (none, r0) := by
  refine Ct.of (by decide) (Nat.le_of_ble_eq_true rfl) (fun Y hY E => ?_)
  have E : EV Y (WX g) cX0_fillFewest 5 none RX0 := E
  have h : FX0_fillFewest a1 a2 M = some r0 := h
  unfold FX0_fillFewest at h
  show AW Y (WX g) _ 5 3 0 [(0, .ref (wad (WX g) 37)), (1, .int a1), (2, .int a2)] [] M
  obtain ⟨r, hr⟩ : ∃ r : Option Value × Mem, r = (none, r0) := ⟨_, rfl⟩
  rw [← hr]
  refine aw_iconst (v := 0) E dX0_fillFewest_0 (by decide) ?_
  refine aw_istore_n (L1 := [(3, .int 0), (0, .ref (wad (WX g) 37)), (1, .int a1), (2, .int a2)]) E dX0_fillFewest_1 (Nat.le_of_ble_eq_true rfl) rfl ?_
  obtain ⟨q1, e2, h⟩ := bd_e h
  refine aw_sub (L1 := [(0, .ref (wad (WX g) 37)), (1, .int a1), (2, .int a2), (3, .int 0)]) [1, 2, 3, 0] rfl ?_
  refine lpX0_fillFewest_2 E   a1 a2 FU 0 M q1 e2 ?_
  refine aw_iconst (v := 1) E dX0_fillFewest_59 (by decide) ?_
  refine aw_istore_n (L1 := [(3, .int 1), (0, .ref (wad (WX g) 37)), (2, .int a2)]) E dX0_fillFewest_60 (Nat.le_of_ble_eq_true rfl) rfl ?_
  obtain ⟨q3, e4, h⟩ := bd_e h
  refine aw_sub (L1 := [(0, .ref (wad (WX g) 37)), (2, .int a2), (3, .int 1)]) [1, 2, 0] rfl ?_
  refine lpX0_fillFewest_61 E   a2 FU 1 q1 q3 e4 ?_
  replace h := Option.some.inj h
  subst h
  exact aw_vret E dX0_fillFewest_121 hr
def FX0_forget_L2 : Nat → Int32 → Mem → Option (Mem)
  | 0, _, _ => none
  | f + 1, p2, M =>
    if (M.1 37 4) ≤ p2 then
      some M
    else
      gi p2 8192 <|
      gi (M.1 40 (Int32.toNatClampNeg p2)) 8192 <|
      lt (wr M 39 (Int32.toNatClampNeg (M.1 40 (Int32.toNatClampNeg p2))) 0) fun M103 =>
      lt (α := Int32) (p2 + 1) fun x105 =>
      FX0_forget_L2 f  x105 M103
def FX0_forget (a1 : Int32) (M : Mem) : Option (Mem) :=
  ob (FX0_forget_L2 FU a1 M) fun q1 =>
  lt (wr q1 37 4 a1) fun M3 =>
  some M3
set_option maxHeartbeats 4000000 in
set_option maxRecDepth 100000 in
theorem lpX0_forget_2 {Y : CtxM} {g : CtxG} {r : Option Value × Mem} (E : EV Y (WX g) cX0_forget 3 none RX0) (p1 : Int32) : ∀ (f : Nat) (p2 : Int32) (M : Mem) (q : Mem), FX0_forget_L2 f  p2 M = some q → AW Y (WX g) r 3 1 28 [(0, .ref (wad (WX g) 37)), (1, .int p1)] [] q → AW Y (WX g) r 3 1 2 [(0, .ref (wad (WX g) 37)), (1, .int p1), (2, .int p2)] [] M := by
  intro f
  induction f with
  | zero => intro p2 M q hh; exact absurd hh (fun z => nomatch (show (none : Option (Mem)) = some q from z))
  | succ f ih =>
    intro p2 M q hh kx
    rw [FX0_forget_L2] at hh
    refine aw_iload_n E dX0_forget_2 2 rfl ?_
    refine aw_aload_n E dX0_forget_3 0 rfl ?_
    refine aw_getI E flX0_40 (Nat.le_of_ble_eq_true rfl) rfl rfl dX0_forget_4 ?_
    refine aw_icmp_ge (tgt := 28) E dX0_forget_7 rfl (fun c7 => ?_) (fun c7 => ?_)
    ·
      replace hh := ip c7 hh
      refine aw_sub (L1 := [(0, .ref (wad (WX g) 37)), (1, .int p1)]) [0, 1] rfl ?_
      replace hh := Option.some.inj hh
      subst hh
      exact kx
    ·
      replace hh := iq c7 hh
      refine aw_aload_n E dX0_forget_10 0 rfl ?_
      refine aw_getR (q := 39) E flX0_15 (Nat.le_of_ble_eq_true rfl) rfl rfl dX0_forget_11 ?_
      refine aw_aload_n E dX0_forget_14 0 rfl ?_
      refine aw_getR (q := 40) E flX0_19 (Nat.le_of_ble_eq_true rfl) rfl rfl dX0_forget_15 ?_
      refine aw_iload_n E dX0_forget_18 2 rfl ?_
      obtain ⟨g101, hh⟩ := gi_e hh
      refine aw_iald E (Nat.le_of_ble_eq_true rfl) rfl g101 dX0_forget_19 ?_
      refine aw_iconst (v := 0) E dX0_forget_20 (by decide) ?_
      obtain ⟨g102, hh⟩ := gi_e hh
      obtain ⟨M103, e104, hh⟩ := lt_e hh
      refine aw_iast1 e104 E (Nat.le_of_ble_eq_true rfl) rfl g102 dX0_forget_21 ?_
      obtain ⟨x105, e106, hh⟩ := lt_e hh
      refine aw_iinc (v := x105) (L1 := [(2, .int x105), (0, .ref (wad (WX g) 37)), (1, .int p1)]) E dX0_forget_22 2 rfl e106 (Nat.le_of_ble_eq_true rfl) rfl ?_
      refine aw_goto (tgt := 2) E dX0_forget_25 rfl ?_
      refine aw_sub (L1 := [(0, .ref (wad (WX g) 37)), (1, .int p1), (2, .int x105)]) [1, 2, 0] rfl ?_
      exact ih x105 M103 _ hh kx
set_option maxHeartbeats 4000000 in
set_option maxRecDepth 100000 in
theorem ctX0_forget (l : Launch) (g : CtxG) (a1 : Int32) (M : Mem) (r0 : Mem) (h : FX0_forget a1 M = some r0) : Ct l (WX g) yX0_forget cX0_forget 3 none 1 [.ref (wad (WX g) 37), .int a1] M (none, r0) := by
  refine Ct.of (by decide) (Nat.le_of_ble_eq_true rfl) (fun Y hY E => ?_)
  have E : EV Y (WX g) cX0_forget 3 none RX0 := E
  have h : FX0_forget a1 M = some r0 := h
  unfold FX0_forget at h
  show AW Y (WX g) _ 3 1 0 [(0, .ref (wad (WX g) 37)), (1, .int a1)] [] M
  obtain ⟨r, hr⟩ : ∃ r : Option Value × Mem, r = (none, r0) := ⟨_, rfl⟩
  rw [← hr]
  refine aw_iload_n E dX0_forget_0 1 rfl ?_
  refine aw_istore_n (L1 := [(2, .int a1), (0, .ref (wad (WX g) 37)), (1, .int a1)]) E dX0_forget_1 (Nat.le_of_ble_eq_true rfl) rfl ?_
  obtain ⟨q1, e2, h⟩ := bd_e h
  refine aw_sub (L1 := [(0, .ref (wad (WX g) 37)), (1, .int a1), (2, .int a1)]) [1, 2, 0] rfl ?_
  refine lpX0_forget_2 E   a1 FU a1 M q1 e2 ?_
  refine aw_aload_n E dX0_forget_28 0 rfl ?_
  refine aw_iload_n E dX0_forget_29 1 rfl ?_
  obtain ⟨M3, e4, h⟩ := lt_e h
  refine aw_putI1 e4 E flX0_40 (Nat.le_of_ble_eq_true rfl) rfl rfl nr_int dX0_forget_30 ?_
  replace h := Option.some.inj h
  subst h
  exact aw_vret E dX0_forget_33 hr
def FX0_least_L4 : Nat → Int32 → Int32 → Int32 → Mem → Option (Int32)
  | 0, _, _, _, _ => none
  | f + 1, p1, p2, p3, M =>
    if (M.1 37 4) ≤ p3 then
      some p2
    else
      gi p3 8192 <|
      lt (α := Int32) (M.1 40 (Int32.toNatClampNeg p3)) fun x102 =>
      ob (FX0_isRing x102 p1 M) fun q104 =>
      if q104 = 0 then
        lt (α := Int32) (p3 + 1) fun x106 =>
        FX0_least_L4 f p1 p2 x106 M
      else
        ob (α := Bool) (if p2 < 0 then
          some true
        else
          gi x102 8192 <|
          gi p2 8192 <|
          if 0 ≤ (lg_cmp (M.2 38 (Int32.toNatClampNeg x102)) (M.2 38 (Int32.toNatClampNeg p2))) then some false else some true) fun b108 =>
        if b108 = true then
          lt (α := Int32) (p3 + 1) fun x112 =>
          FX0_least_L4 f p1 x102 x112 M
        else
          lt (α := Int32) (p3 + 1) fun x114 =>
          FX0_least_L4 f p1 p2 x114 M
def FX0_least (a1 : Int32) (M : Mem) : Option (Int32) :=
  ob (FX0_least_L4 FU a1 (-1) 0 M) fun q1 =>
  some q1
set_option maxHeartbeats 4000000 in
set_option maxRecDepth 100000 in
theorem lpX0_least_4 {Y : CtxM} {g : CtxG} {r : Option Value × Mem} (E : EV Y (WX g) cX0_least 5 (some .int) RX0) (p1 : Int32) : ∀ (f : Nat) (p2 : Int32) (p3 : Int32) (M : Mem) (q : Int32), FX0_least_L4 f p1 p2 p3 M = some q → AW Y (WX g) r 5 3 60 [(2, .int q)] [] M → AW Y (WX g) r 5 3 4 [(0, .ref (wad (WX g) 37)), (1, .int p1), (2, .int p2), (3, .int p3)] [] M := by
  intro f
  induction f with
  | zero => intro p2 p3 M q hh; exact absurd hh (fun z => nomatch (show (none : Option (Int32)) = some q from z))
  | succ f ih =>
    intro p2 p3 M q hh kx
    rw [FX0_least_L4] at hh
    refine aw_iload_n E dX0_least_4 3 rfl ?_
    refine aw_aload_n E dX0_least_5 0 rfl ?_
    refine aw_getI E flX0_40 (Nat.le_of_ble_eq_true rfl) rfl rfl dX0_least_6 ?_
    refine aw_icmp_ge (tgt := 60) E dX0_least_9 rfl (fun c9 => ?_) (fun c9 => ?_)
    ·
      replace hh := ip c9 hh
      refine aw_sub (L1 := [(2, .int p2)]) [2] rfl ?_
      replace hh := Option.some.inj hh
      subst hh
      exact kx
    ·
      replace hh := iq c9 hh
      refine aw_aload_n E dX0_least_12 0 rfl ?_
      refine aw_getR (q := 40) E flX0_19 (Nat.le_of_ble_eq_true rfl) rfl rfl dX0_least_13 ?_
      refine aw_iload_n E dX0_least_16 3 rfl ?_
      obtain ⟨g101, hh⟩ := gi_e hh
      refine aw_iald E (Nat.le_of_ble_eq_true rfl) rfl g101 dX0_least_17 ?_
      obtain ⟨x102, e103, hh⟩ := lt_e hh
      refine aw_nmI e103 ?_
      refine aw_istore (L1 := [(4, .int x102), (0, .ref (wad (WX g) 37)), (1, .int p1), (2, .int p2), (3, .int p3)]) E dX0_least_18 (Nat.le_of_ble_eq_true rfl) rfl ?_
      refine aw_aload_n E dX0_least_20 1 rfl ?_
      refine aw_iload E dX0_least_21 0 rfl ?_
      refine aw_iload_n E dX0_least_23 2 rfl ?_
      obtain ⟨q104, e105, hh⟩ := bd_e hh
      refine aw_callVi (S := []) E mvX0_isRing mlX0_47 (Nat.le_of_ble_eq_true rfl) rfl rfl rfl (ctX0_isRing (yl Y) g x102 p1  M q104 e105) rfl (Nat.le_of_ble_eq_true rfl) (Nat.le_of_ble_eq_true rfl) dX0_least_24 ?_
      refine aw_if_eq (tgt := 54) E dX0_least_27 rfl (fun c27 => ?_) (fun c27 => ?_)
      ·
        replace hh := ip c27 hh
        obtain ⟨x106, e107, hh⟩ := lt_e hh
        refine aw_iinc (v := x106) (L1 := [(3, .int x106), (4, .int x102), (0, .ref (wad (WX g) 37)), (1, .int p1), (2, .int p2)]) E dX0_least_54 4 rfl e107 (Nat.le_of_ble_eq_true rfl) rfl ?_
        refine aw_goto (tgt := 4) E dX0_least_57 rfl ?_
        refine aw_sub (L1 := [(0, .ref (wad (WX g) 37)), (1, .int p1), (2, .int p2), (3, .int x106)]) [2, 3, 4, 0] rfl ?_
        exact ih p2 x106 M _ hh kx
      ·
        replace hh := iq c27 hh
        refine aw_iload_n E dX0_least_30 3 rfl ?_
        obtain ⟨b108, e109, hh⟩ := bd_e hh
        have J110 : b108 = true → AW Y (WX g) r 5 3 51 [(4, .int x102), (0, .ref (wad (WX g) 37)), (1, .int p1), (2, .int p2), (3, .int p3)] [] M := fun hb => by
          replace hh := ip hb hh
          refine aw_iload E dX0_least_51 0 rfl ?_
          refine aw_istore_n (L1 := [(2, .int x102), (4, .int x102), (0, .ref (wad (WX g) 37)), (1, .int p1), (3, .int p3)]) E dX0_least_53 (Nat.le_of_ble_eq_true rfl) rfl ?_
          obtain ⟨x112, e113, hh⟩ := lt_e hh
          refine aw_iinc (v := x112) (L1 := [(3, .int x112), (2, .int x102), (4, .int x102), (0, .ref (wad (WX g) 37)), (1, .int p1)]) E dX0_least_54 4 rfl e113 (Nat.le_of_ble_eq_true rfl) rfl ?_
          refine aw_goto (tgt := 4) E dX0_least_57 rfl ?_
          refine aw_sub (L1 := [(0, .ref (wad (WX g) 37)), (1, .int p1), (2, .int x102), (3, .int x112)]) [3, 4, 1, 0] rfl ?_
          exact ih x102 x112 M _ hh kx
        have J111 : b108 = false → AW Y (WX g) r 5 3 54 [(4, .int x102), (0, .ref (wad (WX g) 37)), (1, .int p1), (2, .int p2), (3, .int p3)] [] M := fun hb => by
          replace hh := iq (bf hb) hh
          obtain ⟨x114, e115, hh⟩ := lt_e hh
          refine aw_iinc (v := x114) (L1 := [(3, .int x114), (4, .int x102), (0, .ref (wad (WX g) 37)), (1, .int p1), (2, .int p2)]) E dX0_least_54 4 rfl e115 (Nat.le_of_ble_eq_true rfl) rfl ?_
          refine aw_goto (tgt := 4) E dX0_least_57 rfl ?_
          refine aw_sub (L1 := [(0, .ref (wad (WX g) 37)), (1, .int p1), (2, .int p2), (3, .int x114)]) [2, 3, 4, 0] rfl ?_
          exact ih p2 x114 M _ hh kx
        refine aw_if_lt (tgt := 51) E dX0_least_31 rfl (fun c31 => ?_) (fun c31 => ?_)
        ·
          replace e109 := ip c31 e109
          replace e109 := Option.some.inj e109
          subst e109
          exact J110 rfl
        ·
          replace e109 := iq c31 e109
          refine aw_aload_n E dX0_least_34 1 rfl ?_
          refine aw_getR (q := 38) E flX0_11 (Nat.le_of_ble_eq_true rfl) rfl rfl dX0_least_35 ?_
          refine aw_iload E dX0_least_38 0 rfl ?_
          obtain ⟨g116, e109⟩ := gi_e e109
          refine aw_lald E (Nat.le_of_ble_eq_true rfl) rfl g116 dX0_least_40 ?_
          refine aw_aload_n E dX0_least_41 1 rfl ?_
          refine aw_getR (q := 38) E flX0_11 (Nat.le_of_ble_eq_true rfl) rfl rfl dX0_least_42 ?_
          refine aw_iload_n E dX0_least_45 3 rfl ?_
          obtain ⟨g117, e109⟩ := gi_e e109
          refine aw_lald E (Nat.le_of_ble_eq_true rfl) rfl g117 dX0_least_46 ?_
          refine aw_lcmp E dX0_least_47 ?_
          refine aw_if_ge (tgt := 54) E dX0_least_48 rfl (fun c48 => ?_) (fun c48 => ?_)
          ·
            replace e109 := ip c48 e109
            replace e109 := Option.some.inj e109
            subst e109
            exact J111 rfl
          ·
            replace e109 := iq c48 e109
            replace e109 := Option.some.inj e109
            subst e109
            exact J110 rfl
set_option maxHeartbeats 4000000 in
set_option maxRecDepth 100000 in
theorem ctX0_least (l : Launch) (g : CtxG) (a1 : Int32) (M : Mem) (r0 : Int32) (h : FX0_least a1 M = some r0) : Ct l (WX g) yX0_least cX0_least 5 (some .int) 3 [.ref (wad (WX g) 37), .int a1] M (some (.int r0), M) := by
  refine Ct.of (by decide) (Nat.le_of_ble_eq_true rfl) (fun Y hY E => ?_)
  have E : EV Y (WX g) cX0_least 5 (some .int) RX0 := E
  have h : FX0_least a1 M = some r0 := h
  unfold FX0_least at h
  show AW Y (WX g) _ 5 3 0 [(0, .ref (wad (WX g) 37)), (1, .int a1)] [] M
  obtain ⟨r, hr⟩ : ∃ r : Option Value × Mem, r = (some (.int r0), M) := ⟨_, rfl⟩
  rw [← hr]
  refine aw_iconst (v := (-1)) E dX0_least_0 (by decide) ?_
  refine aw_istore_n (L1 := [(2, .int (-1)), (0, .ref (wad (WX g) 37)), (1, .int a1)]) E dX0_least_1 (Nat.le_of_ble_eq_true rfl) rfl ?_
  refine aw_iconst (v := 0) E dX0_least_2 (by decide) ?_
  refine aw_istore_n (L1 := [(3, .int 0), (2, .int (-1)), (0, .ref (wad (WX g) 37)), (1, .int a1)]) E dX0_least_3 (Nat.le_of_ble_eq_true rfl) rfl ?_
  obtain ⟨q1, e2, h⟩ := bd_e h
  refine aw_sub (L1 := [(0, .ref (wad (WX g) 37)), (1, .int a1), (2, .int (-1)), (3, .int 0)]) [2, 3, 1, 0] rfl ?_
  refine lpX0_least_4 E   a1 FU (-1) 0 M q1 e2 ?_
  refine aw_iload_n E dX0_least_60 0 rfl ?_
  replace h := Option.some.inj h
  subst h
  exact aw_iret E dX0_least_61 hr
def FX0_leastTwo_L24 : Nat → Int32 → Int32 → Int32 → Int32 → Mem → Option (Int32)
  | 0, _, _, _, _, _ => none
  | f + 1, p1, p4, p5, p6, M =>
    if (M.1 37 4) ≤ p6 then
      some p5
    else
      gi p6 8192 <|
      lt (α := Int32) (M.1 40 (Int32.toNatClampNeg p6)) fun x102 =>
      ob (FX0_isRing x102 p1 M) fun q104 =>
      if q104 = 0 then
        lt (α := Int32) (p6 + 1) fun x116 =>
        FX0_leastTwo_L24 f p1 p4 p5 x116 M
      else
        gi x102 8192 <|
        lt (α := Int32) ((p4 - 1) &&& ((FX7_spent (M.1 39 (Int32.toNatClampNeg x102))) ^^^ (-1))) fun x107 =>
        ob (FX0_minutes x102 M) fun q109 =>
        gi x107 4096 <|
        lt (α := Int32) ((if (q109 + (M.1 41 (Int32.toNatClampNeg x107))) < p5 then (q109 + (M.1 41 (Int32.toNatClampNeg x107))) else p5)) fun x112 =>
        lt (α := Int32) (p6 + 1) fun x114 =>
        FX0_leastTwo_L24 f p1 p4 x112 x114 M
def FX0_leastTwo (a1 : Int32) (a2 : Int32) (a3 : Int32) (M : Mem) : Option (Int32 × Mem) :=
  lt (α := Int32) ((1 : Int32) <<< ((if 12 < a3 then 12 else a3) &&& 31)) fun x1 =>
  ob (FX0_fillFewest a2 x1 M) fun q3 =>
  ob (FX0_leastTwo_L24 FU a1 x1 1048576 0 q3) fun q5 =>
  if q5 < 1048576 then
    some (q5, q3)
  else
    some ((-1), q3)
set_option maxHeartbeats 4000000 in
set_option maxRecDepth 100000 in
theorem lpX0_leastTwo_24 {Y : CtxM} {g : CtxG} {r : Option Value × Mem} (E : EV Y (WX g) cX0_leastTwo 9 (some .int) RX0) (p1 : Int32) (p4 : Int32) : ∀ (f : Nat) (p5 : Int32) (p6 : Int32) (M : Mem) (q : Int32), FX0_leastTwo_L24 f p1 p4 p5 p6 M = some q → AW Y (WX g) r 9 4 101 [(5, .int q)] [] M → AW Y (WX g) r 9 4 24 [(0, .ref (wad (WX g) 37)), (1, .int p1), (4, .int p4), (5, .int p5), (6, .int p6)] [] M := by
  intro f
  induction f with
  | zero => intro p5 p6 M q hh; exact absurd hh (fun z => nomatch (show (none : Option (Int32)) = some q from z))
  | succ f ih =>
    intro p5 p6 M q hh kx
    rw [FX0_leastTwo_L24] at hh
    refine aw_iload E dX0_leastTwo_24 4 rfl ?_
    refine aw_aload_n E dX0_leastTwo_26 0 rfl ?_
    refine aw_getI E flX0_40 (Nat.le_of_ble_eq_true rfl) rfl rfl dX0_leastTwo_27 ?_
    refine aw_icmp_ge (tgt := 101) E dX0_leastTwo_30 rfl (fun c30 => ?_) (fun c30 => ?_)
    ·
      replace hh := ip c30 hh
      refine aw_sub (L1 := [(5, .int p5)]) [3] rfl ?_
      replace hh := Option.some.inj hh
      subst hh
      exact kx
    ·
      replace hh := iq c30 hh
      refine aw_aload_n E dX0_leastTwo_33 0 rfl ?_
      refine aw_getR (q := 40) E flX0_19 (Nat.le_of_ble_eq_true rfl) rfl rfl dX0_leastTwo_34 ?_
      refine aw_iload E dX0_leastTwo_37 4 rfl ?_
      obtain ⟨g101, hh⟩ := gi_e hh
      refine aw_iald E (Nat.le_of_ble_eq_true rfl) rfl g101 dX0_leastTwo_39 ?_
      obtain ⟨x102, e103, hh⟩ := lt_e hh
      refine aw_nmI e103 ?_
      refine aw_istore (L1 := [(7, .int x102), (0, .ref (wad (WX g) 37)), (1, .int p1), (4, .int p4), (5, .int p5), (6, .int p6)]) E dX0_leastTwo_40 (Nat.le_of_ble_eq_true rfl) rfl ?_
      refine aw_aload_n E dX0_leastTwo_42 1 rfl ?_
      refine aw_iload E dX0_leastTwo_43 0 rfl ?_
      refine aw_iload_n E dX0_leastTwo_45 2 rfl ?_
      obtain ⟨q104, e105, hh⟩ := bd_e hh
      refine aw_callVi (S := []) E mvX0_isRing mlX0_47 (Nat.le_of_ble_eq_true rfl) rfl rfl rfl (ctX0_isRing (yl Y) g x102 p1  M q104 e105) rfl (Nat.le_of_ble_eq_true rfl) (Nat.le_of_ble_eq_true rfl) dX0_leastTwo_46 ?_
      refine aw_if_ne (tgt := 55) E dX0_leastTwo_49 rfl (fun c49 => ?_) (fun c49 => ?_)
      ·
        replace hh := iq c49 hh
        refine aw_iload E dX0_leastTwo_55 3 rfl ?_
        refine aw_iconst (v := 1) E dX0_leastTwo_57 (by decide) ?_
        refine aw_isub E dX0_leastTwo_58 ?_
        refine aw_aload_n E dX0_leastTwo_59 1 rfl ?_
        refine aw_getR (q := 39) E flX0_15 (Nat.le_of_ble_eq_true rfl) rfl rfl dX0_leastTwo_60 ?_
        refine aw_iload E dX0_leastTwo_63 0 rfl ?_
        obtain ⟨g106, hh⟩ := gi_e hh
        refine aw_iald E (Nat.le_of_ble_eq_true rfl) rfl g106 dX0_leastTwo_65 ?_
        refine aw_callSi (S := [.int (p4 - 1)]) E msX7_spent mlX0_102 rfl (ctX7_spent (yl Y) g (M.1 39 (Int32.toNatClampNeg x102))  M ) rfl (Nat.le_of_ble_eq_true rfl) (Nat.le_of_ble_eq_true rfl) dX0_leastTwo_66 ?_
        refine aw_iconst (v := (-1)) E dX0_leastTwo_69 (by decide) ?_
        refine aw_ixor E dX0_leastTwo_70 ?_
        refine aw_iand E dX0_leastTwo_71 ?_
        obtain ⟨x107, e108, hh⟩ := lt_e hh
        refine aw_nmI e108 ?_
        refine aw_istore (L1 := [(8, .int x107), (7, .int x102), (0, .ref (wad (WX g) 37)), (1, .int p1), (4, .int p4), (5, .int p5), (6, .int p6)]) E dX0_leastTwo_72 (Nat.le_of_ble_eq_true rfl) rfl ?_
        refine aw_iload E dX0_leastTwo_74 5 rfl ?_
        refine aw_aload_n E dX0_leastTwo_76 2 rfl ?_
        refine aw_iload E dX0_leastTwo_77 1 rfl ?_
        obtain ⟨q109, e110, hh⟩ := bd_e hh
        refine aw_callVi (S := [.int p5]) E mvX0_minutes mlX0_105 (Nat.le_of_ble_eq_true rfl) rfl rfl rfl (ctX0_minutes (yl Y) g x102  M q109 e110) rfl (Nat.le_of_ble_eq_true rfl) (Nat.le_of_ble_eq_true rfl) dX0_leastTwo_79 ?_
        refine aw_aload_n E dX0_leastTwo_82 2 rfl ?_
        refine aw_getR (q := 41) E flX0_22 (Nat.le_of_ble_eq_true rfl) rfl rfl dX0_leastTwo_83 ?_
        refine aw_iload E dX0_leastTwo_86 0 rfl ?_
        obtain ⟨g111, hh⟩ := gi_e hh
        refine aw_iald E (Nat.le_of_ble_eq_true rfl) rfl g111 dX0_leastTwo_88 ?_
        refine aw_iadd E dX0_leastTwo_89 ?_
        refine aw_mmin E mlX0_96 (Nat.le_of_ble_eq_true rfl) (Nat.le_of_ble_eq_true rfl) dX0_leastTwo_90 ?_
        obtain ⟨x112, e113, hh⟩ := lt_e hh
        refine aw_nmI e113 ?_
        refine aw_istore (L1 := [(5, .int x112), (8, .int x107), (7, .int x102), (0, .ref (wad (WX g) 37)), (1, .int p1), (4, .int p4), (6, .int p6)]) E dX0_leastTwo_93 (Nat.le_of_ble_eq_true rfl) rfl ?_
        obtain ⟨x114, e115, hh⟩ := lt_e hh
        refine aw_iinc (v := x114) (L1 := [(6, .int x114), (5, .int x112), (8, .int x107), (7, .int x102), (0, .ref (wad (WX g) 37)), (1, .int p1), (4, .int p4)]) E dX0_leastTwo_95 6 rfl e115 (Nat.le_of_ble_eq_true rfl) rfl ?_
        refine aw_goto (tgt := 24) E dX0_leastTwo_98 rfl ?_
        refine aw_sub (L1 := [(0, .ref (wad (WX g) 37)), (1, .int p1), (4, .int p4), (5, .int x112), (6, .int x114)]) [4, 5, 6, 1, 0] rfl ?_
        exact ih x112 x114 M _ hh kx
      ·
        replace hh := ip c49 hh
        refine aw_goto (tgt := 95) E dX0_leastTwo_52 rfl ?_
        obtain ⟨x116, e117, hh⟩ := lt_e hh
        refine aw_iinc (v := x116) (L1 := [(6, .int x116), (7, .int x102), (0, .ref (wad (WX g) 37)), (1, .int p1), (4, .int p4), (5, .int p5)]) E dX0_leastTwo_95 5 rfl e117 (Nat.le_of_ble_eq_true rfl) rfl ?_
        refine aw_goto (tgt := 24) E dX0_leastTwo_98 rfl ?_
        refine aw_sub (L1 := [(0, .ref (wad (WX g) 37)), (1, .int p1), (4, .int p4), (5, .int p5), (6, .int x116)]) [2, 3, 4, 5, 0] rfl ?_
        exact ih p5 x116 M _ hh kx
set_option maxHeartbeats 4000000 in
set_option maxRecDepth 100000 in
theorem ctX0_leastTwo (l : Launch) (g : CtxG) (a1 : Int32) (a2 : Int32) (a3 : Int32) (M : Mem) (r0 : Int32 × Mem) (h : FX0_leastTwo a1 a2 a3 M = some r0) : Ct l (WX g) yX0_leastTwo cX0_leastTwo 9 (some .int) 4 [.ref (wad (WX g) 37), .int a1, .int a2, .int a3] M (some (.int r0.1), r0.2) := by
  refine Ct.of (by decide) (Nat.le_of_ble_eq_true rfl) (fun Y hY E => ?_)
  have E : EV Y (WX g) cX0_leastTwo 9 (some .int) RX0 := E
  have h : FX0_leastTwo a1 a2 a3 M = some r0 := h
  unfold FX0_leastTwo at h
  show AW Y (WX g) _ 9 4 0 [(0, .ref (wad (WX g) 37)), (1, .int a1), (2, .int a2), (3, .int a3)] [] M
  obtain ⟨r, hr⟩ : ∃ r : Option Value × Mem, r = (some (.int r0.1), r0.2) := ⟨_, rfl⟩
  rw [← hr]
  refine aw_iconst (v := 1) E dX0_leastTwo_0 (by decide) ?_
  refine aw_iload_n E dX0_leastTwo_1 3 rfl ?_
  refine aw_bipush (v := 12) E dX0_leastTwo_2 (by decide) ?_
  refine aw_mmin E mlX0_96 (Nat.le_of_ble_eq_true rfl) (Nat.le_of_ble_eq_true rfl) dX0_leastTwo_4 ?_
  refine aw_ishl E dX0_leastTwo_7 ?_
  obtain ⟨x1, e2, h⟩ := lt_e h
  refine aw_nmI e2 ?_
  refine aw_istore (L1 := [(4, .int x1), (0, .ref (wad (WX g) 37)), (1, .int a1), (2, .int a2), (3, .int a3)]) E dX0_leastTwo_8 (Nat.le_of_ble_eq_true rfl) rfl ?_
  refine aw_aload_n E dX0_leastTwo_10 1 rfl ?_
  refine aw_iload_n E dX0_leastTwo_11 3 rfl ?_
  refine aw_iload E dX0_leastTwo_12 0 rfl ?_
  obtain ⟨q3, e4, h⟩ := bd_e h
  refine aw_callVv (S := []) E mvX0_fillFewest mlX0_98 (Nat.le_of_ble_eq_true rfl) rfl rfl rfl (ctX0_fillFewest (yl Y) g a2 x1  M q3 e4) rfl (Nat.le_of_ble_eq_true rfl) (Nat.le_of_ble_eq_true rfl) dX0_leastTwo_14 ?_
  refine aw_ldc (v := 1048576) E kcX0_101 dX0_leastTwo_17 ?_
  refine aw_istore (L1 := [(5, .int 1048576), (4, .int x1), (0, .ref (wad (WX g) 37)), (1, .int a1), (2, .int a2), (3, .int a3)]) E dX0_leastTwo_19 (Nat.le_of_ble_eq_true rfl) rfl ?_
  refine aw_iconst (v := 0) E dX0_leastTwo_21 (by decide) ?_
  refine aw_istore (L1 := [(6, .int 0), (5, .int 1048576), (4, .int x1), (0, .ref (wad (WX g) 37)), (1, .int a1), (2, .int a2), (3, .int a3)]) E dX0_leastTwo_22 (Nat.le_of_ble_eq_true rfl) rfl ?_
  obtain ⟨q5, e6, h⟩ := bd_e h
  refine aw_sub (L1 := [(0, .ref (wad (WX g) 37)), (1, .int a1), (4, .int x1), (5, .int 1048576), (6, .int 0)]) [3, 4, 2, 1, 0] rfl ?_
  refine lpX0_leastTwo_24 E   a1 x1 FU 1048576 0 q3 q5 e6 ?_
  refine aw_iload E dX0_leastTwo_101 0 rfl ?_
  refine aw_ldc (v := 1048576) E kcX0_101 dX0_leastTwo_103 ?_
  refine aw_icmp_lt (tgt := 112) E dX0_leastTwo_105 rfl (fun c105 => ?_) (fun c105 => ?_)
  ·
    replace h := ip c105 h
    refine aw_iload E dX0_leastTwo_112 0 rfl ?_
    replace h := Option.some.inj h
    subst h
    exact aw_iret E dX0_leastTwo_114 hr
  ·
    replace h := iq c105 h
    refine aw_iconst (v := (-1)) E dX0_leastTwo_108 (by decide) ?_
    refine aw_goto (tgt := 114) E dX0_leastTwo_109 rfl ?_
    replace h := Option.some.inj h
    subst h
    exact aw_iret E dX0_leastTwo_114 hr
def FX0_step (a2 : Int32) (a3 : Int32) (a4 : Int32) (M : Mem) : Option (Mem) :=
  lt (α := Int32) (a2 ||| ((1 : Int32) <<< (a3 &&& 31))) fun x1 =>
  lt (α := Bool) (if x1 ≤ a2 then true else if x1 < 8192 then false else true) fun b3 =>
  if b3 = true then
    some M
  else
    gi a2 8192 <|
    ob (FX7_minutes a3 (FX7_at (M.1 39 (Int32.toNatClampNeg a2))) a4 M) fun q8 =>
    lt (α := Int64) (q8.toInt64) fun x10 =>
    lt (α := Int64) (a3.toInt64) fun x12 =>
    lt (α := Int32) (48 - (4 * (FJ6_bitCount_0f7a4 a2))) fun x14 =>
    gi a2 8192 <|
    lt (α := Int64) (((M.2 38 (Int32.toNatClampNeg a2)) + (jlshl x10 52)) + (jlshl x12 x14)) fun x17 =>
    gi x1 8192 <|
    if (M.1 39 (Int32.toNatClampNeg x1)) = 0 then
      if 8192 ≤ (M.1 37 4) then
        some M
      else
        gi x1 8192 <|
        lt (wrL M 38 (Int32.toNatClampNeg x1) x17) fun M21 =>
        gi a2 8192 <|
        ob (FX7_after (M21.1 39 (Int32.toNatClampNeg a2)) a3 M21) fun q24 =>
        gi x1 8192 <|
        lt (wr M21 39 (Int32.toNatClampNeg x1) q24) fun M27 =>
        lt (wr M27 37 4 ((M27.1 37 4) + 1)) fun M29 =>
        gi (M27.1 37 4) 8192 <|
        lt (wr M29 40 (Int32.toNatClampNeg (M27.1 37 4)) x1) fun M32 =>
        some M32
    else
      gi x1 8192 <|
      gi x1 8192 <|
      lt (wrL M 38 (Int32.toNatClampNeg x1) (if x17 < (M.2 38 (Int32.toNatClampNeg x1)) then x17 else (M.2 38 (Int32.toNatClampNeg x1)))) fun M36 =>
      some M36
set_option maxHeartbeats 4000000 in
set_option maxRecDepth 100000 in
theorem ctX0_step (l : Launch) (g : CtxG) (a2 : Int32) (a3 : Int32) (a4 : Int32) (M : Mem) (r0 : Mem) (h : FX0_step a2 a3 a4 M = some r0) : Ct l (WX g) yX0_step cX0_step 13 none 2 [.ref (wad (WX g) 37), .ref (wad (WX g) 31), .int a2, .int a3, .int a4] M (none, r0) := by
  refine Ct.of (by decide) (Nat.le_of_ble_eq_true rfl) (fun Y hY E => ?_)
  have E : EV Y (WX g) cX0_step 13 none RX0 := E
  have h : FX0_step a2 a3 a4 M = some r0 := h
  unfold FX0_step at h
  show AW Y (WX g) _ 13 2 0 [(0, .ref (wad (WX g) 37)), (1, .ref (wad (WX g) 31)), (2, .int a2), (3, .int a3), (4, .int a4)] [] M
  obtain ⟨r, hr⟩ : ∃ r : Option Value × Mem, r = (none, r0) := ⟨_, rfl⟩
  rw [← hr]
  refine aw_iload_n E dX0_step_0 2 rfl ?_
  refine aw_iconst (v := 1) E dX0_step_1 (by decide) ?_
  refine aw_iload_n E dX0_step_2 3 rfl ?_
  refine aw_ishl E dX0_step_3 ?_
  refine aw_ior E dX0_step_4 ?_
  obtain ⟨x1, e2, h⟩ := lt_e h
  refine aw_nmI e2 ?_
  refine aw_istore (L1 := [(5, .int x1), (0, .ref (wad (WX g) 37)), (1, .ref (wad (WX g) 31)), (2, .int a2), (3, .int a3), (4, .int a4)]) E dX0_step_5 (Nat.le_of_ble_eq_true rfl) rfl ?_
  refine aw_iload E dX0_step_7 0 rfl ?_
  refine aw_iload_n E dX0_step_9 3 rfl ?_
  obtain ⟨b3, e4, h⟩ := lt_e h
  have J5 : b3 = true → AW Y (WX g) r 13 2 21 [(5, .int x1), (0, .ref (wad (WX g) 37)), (1, .ref (wad (WX g) 31)), (2, .int a2), (3, .int a3), (4, .int a4)] [] M := fun hb => by
    replace h := ip hb h
    replace h := Option.some.inj h
    subst h
    exact aw_vret E dX0_step_21 hr
  have J6 : b3 = false → AW Y (WX g) r 13 2 22 [(5, .int x1), (0, .ref (wad (WX g) 37)), (1, .ref (wad (WX g) 31)), (2, .int a2), (3, .int a3), (4, .int a4)] [] M := fun hb => by
    replace h := iq (bf hb) h
    refine aw_aload_n E dX0_step_22 2 rfl ?_
    refine aw_iload_n E dX0_step_23 4 rfl ?_
    refine aw_aload_n E dX0_step_24 1 rfl ?_
    refine aw_getR (q := 39) E flX0_15 (Nat.le_of_ble_eq_true rfl) rfl rfl dX0_step_25 ?_
    refine aw_iload_n E dX0_step_28 3 rfl ?_
    obtain ⟨g7, h⟩ := gi_e h
    refine aw_iald E (Nat.le_of_ble_eq_true rfl) rfl g7 dX0_step_29 ?_
    refine aw_callSi (S := [.int a3, .ref (wad (WX g) 31)]) E msX7_at mlX0_65 rfl (ctX7_at (yl Y) g (M.1 39 (Int32.toNatClampNeg a2))  M ) rfl (Nat.le_of_ble_eq_true rfl) (Nat.le_of_ble_eq_true rfl) dX0_step_30 ?_
    refine aw_iload E dX0_step_33 5 rfl ?_
    obtain ⟨q8, e9, h⟩ := bd_e h
    refine aw_callVi (S := []) E mvX7_minutes mlX0_68 (Nat.le_of_ble_eq_true rfl) rfl rfl rfl (ctX7_minutes (yl Y) g a3 (FX7_at (M.1 39 (Int32.toNatClampNeg a2))) a4  M q8 e9) rfl (Nat.le_of_ble_eq_true rfl) (Nat.le_of_ble_eq_true rfl) dX0_step_35 ?_
    refine aw_i2l E dX0_step_38 ?_
    obtain ⟨x10, e11, h⟩ := lt_e h
    refine aw_nmJ e11 ?_
    refine aw_lstore (L1 := [(6, .long x10), (5, .int x1), (0, .ref (wad (WX g) 37)), (1, .ref (wad (WX g) 31)), (2, .int a2), (3, .int a3), (4, .int a4)]) E dX0_step_39 (Nat.le_of_ble_eq_true rfl) rfl ?_
    refine aw_iload_n E dX0_step_41 5 rfl ?_
    refine aw_i2l E dX0_step_42 ?_
    obtain ⟨x12, e13, h⟩ := lt_e h
    refine aw_nmJ e13 ?_
    refine aw_lstore (L1 := [(8, .long x12), (6, .long x10), (5, .int x1), (0, .ref (wad (WX g) 37)), (1, .ref (wad (WX g) 31)), (2, .int a2), (3, .int a3), (4, .int a4)]) E dX0_step_43 (Nat.le_of_ble_eq_true rfl) rfl ?_
    refine aw_bipush (v := 48) E dX0_step_45 (by decide) ?_
    refine aw_iconst (v := 4) E dX0_step_47 (by decide) ?_
    refine aw_iload_n E dX0_step_48 5 rfl ?_
    refine aw_callSi (S := [.int 4, .int 48]) E msJ6_bitCount_0f7a4 mlX0_72 rfl (ctJ6_bitCount_0f7a4 (yl Y) g a2  M ) rfl (Nat.le_of_ble_eq_true rfl) (Nat.le_of_ble_eq_true rfl) dX0_step_49 ?_
    refine aw_imul E dX0_step_52 ?_
    refine aw_isub E dX0_step_53 ?_
    obtain ⟨x14, e15, h⟩ := lt_e h
    refine aw_nmI e15 ?_
    refine aw_istore (L1 := [(10, .int x14), (8, .long x12), (6, .long x10), (5, .int x1), (0, .ref (wad (WX g) 37)), (1, .ref (wad (WX g) 31)), (2, .int a2), (3, .int a3), (4, .int a4)]) E dX0_step_54 (Nat.le_of_ble_eq_true rfl) rfl ?_
    refine aw_aload_n E dX0_step_56 4 rfl ?_
    refine aw_getR (q := 38) E flX0_11 (Nat.le_of_ble_eq_true rfl) rfl rfl dX0_step_57 ?_
    refine aw_iload_n E dX0_step_60 6 rfl ?_
    obtain ⟨g16, h⟩ := gi_e h
    refine aw_lald E (Nat.le_of_ble_eq_true rfl) rfl g16 dX0_step_61 ?_
    refine aw_lload E dX0_step_62 2 rfl ?_
    refine aw_bipush (v := 52) E dX0_step_64 (by decide) ?_
    refine aw_lshl (v := jlshl x10 52) E dX0_step_66 rfl ?_
    refine aw_ladd E dX0_step_67 ?_
    refine aw_lload E dX0_step_68 1 rfl ?_
    refine aw_iload E dX0_step_70 0 rfl ?_
    refine aw_lshl (v := jlshl x12 x14) E dX0_step_72 rfl ?_
    refine aw_ladd E dX0_step_73 ?_
    obtain ⟨x17, e18, h⟩ := lt_e h
    refine aw_nmJ e18 ?_
    refine aw_lstore (L1 := [(11, .long x17), (10, .int x14), (8, .long x12), (6, .long x10), (5, .int x1), (0, .ref (wad (WX g) 37)), (1, .ref (wad (WX g) 31)), (2, .int a2), (3, .int a3), (4, .int a4)]) E dX0_step_74 (Nat.le_of_ble_eq_true rfl) rfl ?_
    refine aw_aload_n E dX0_step_76 5 rfl ?_
    refine aw_getR (q := 39) E flX0_15 (Nat.le_of_ble_eq_true rfl) rfl rfl dX0_step_77 ?_
    refine aw_iload E dX0_step_80 4 rfl ?_
    obtain ⟨g19, h⟩ := gi_e h
    refine aw_iald E (Nat.le_of_ble_eq_true rfl) rfl g19 dX0_step_82 ?_
    refine aw_if_eq (tgt := 108) E dX0_step_83 rfl (fun c83 => ?_) (fun c83 => ?_)
    ·
      replace h := ip c83 h
      refine aw_aload_n E dX0_step_108 5 rfl ?_
      refine aw_getI E flX0_40 (Nat.le_of_ble_eq_true rfl) rfl rfl dX0_step_109 ?_
      refine aw_sipush (v := 8192) E dX0_step_112 (by decide) ?_
      refine aw_icmp_ge (tgt := 163) E dX0_step_115 rfl (fun c115 => ?_) (fun c115 => ?_)
      ·
        replace h := ip c115 h
        replace h := Option.some.inj h
        subst h
        exact aw_vret E dX0_step_163 hr
      ·
        replace h := iq c115 h
        refine aw_aload_n E dX0_step_118 5 rfl ?_
        refine aw_getR (q := 38) E flX0_11 (Nat.le_of_ble_eq_true rfl) rfl rfl dX0_step_119 ?_
        refine aw_iload E dX0_step_122 4 rfl ?_
        refine aw_lload E dX0_step_124 0 rfl ?_
        obtain ⟨g20, h⟩ := gi_e h
        obtain ⟨M21, e22, h⟩ := lt_e h
        refine aw_last1 e22 E (Nat.le_of_ble_eq_true rfl) rfl g20 dX0_step_126 ?_
        refine aw_aload_n E dX0_step_127 5 rfl ?_
        refine aw_getR (q := 39) E flX0_15 (Nat.le_of_ble_eq_true rfl) rfl rfl dX0_step_128 ?_
        refine aw_iload E dX0_step_131 4 rfl ?_
        refine aw_aload_n E dX0_step_133 6 rfl ?_
        refine aw_aload_n E dX0_step_134 5 rfl ?_
        refine aw_getR (q := 39) E flX0_15 (Nat.le_of_ble_eq_true rfl) rfl rfl dX0_step_135 ?_
        refine aw_iload_n E dX0_step_138 7 rfl ?_
        obtain ⟨g23, h⟩ := gi_e h
        refine aw_iald E (Nat.le_of_ble_eq_true rfl) rfl g23 dX0_step_139 ?_
        refine aw_iload_n E dX0_step_140 8 rfl ?_
        obtain ⟨q24, e25, h⟩ := bd_e h
        refine aw_callVi (S := [.int x1, .ref (wad (WX g) 39)]) E mvX7_after mlX0_83 (Nat.le_of_ble_eq_true rfl) rfl rfl rfl (ctX7_after (yl Y) g (M21.1 39 (Int32.toNatClampNeg a2)) a3  M21 q24 e25) rfl (Nat.le_of_ble_eq_true rfl) (Nat.le_of_ble_eq_true rfl) dX0_step_141 ?_
        obtain ⟨g26, h⟩ := gi_e h
        obtain ⟨M27, e28, h⟩ := lt_e h
        refine aw_iast1 e28 E (Nat.le_of_ble_eq_true rfl) rfl g26 dX0_step_144 ?_
        refine aw_aload_n E dX0_step_145 5 rfl ?_
        refine aw_getR (q := 40) E flX0_19 (Nat.le_of_ble_eq_true rfl) rfl rfl dX0_step_146 ?_
        refine aw_aload_n E dX0_step_149 5 rfl ?_
        refine aw_dup E dX0_step_150 rfl ?_
        refine aw_getI E flX0_40 (Nat.le_of_ble_eq_true rfl) rfl rfl dX0_step_151 ?_
        refine aw_dup_x1 E dX0_step_154 rfl rfl ?_
        refine aw_iconst (v := 1) E dX0_step_155 (by decide) ?_
        refine aw_iadd E dX0_step_156 ?_
        obtain ⟨M29, e30, h⟩ := lt_e h
        refine aw_putI1 e30 E flX0_40 (Nat.le_of_ble_eq_true rfl) rfl rfl nr_int dX0_step_157 ?_
        refine aw_iload E dX0_step_160 4 rfl ?_
        obtain ⟨g31, h⟩ := gi_e h
        obtain ⟨M32, e33, h⟩ := lt_e h
        refine aw_iast1 e33 E (Nat.le_of_ble_eq_true rfl) rfl g31 dX0_step_162 ?_
        replace h := Option.some.inj h
        subst h
        exact aw_vret E dX0_step_163 hr
    ·
      replace h := iq c83 h
      refine aw_aload_n E dX0_step_86 5 rfl ?_
      refine aw_getR (q := 38) E flX0_11 (Nat.le_of_ble_eq_true rfl) rfl rfl dX0_step_87 ?_
      refine aw_iload E dX0_step_90 4 rfl ?_
      refine aw_aload_n E dX0_step_92 5 rfl ?_
      refine aw_getR (q := 38) E flX0_11 (Nat.le_of_ble_eq_true rfl) rfl rfl dX0_step_93 ?_
      refine aw_iload E dX0_step_96 4 rfl ?_
      obtain ⟨g34, h⟩ := gi_e h
      refine aw_lald E (Nat.le_of_ble_eq_true rfl) rfl g34 dX0_step_98 ?_
      refine aw_lload E dX0_step_99 0 rfl ?_
      refine aw_mminL E mlX0_77 (Nat.le_of_ble_eq_true rfl) (Nat.le_of_ble_eq_true rfl) dX0_step_101 ?_
      obtain ⟨g35, h⟩ := gi_e h
      obtain ⟨M36, e37, h⟩ := lt_e h
      refine aw_last1 e37 E (Nat.le_of_ble_eq_true rfl) rfl g35 dX0_step_104 ?_
      refine aw_goto (tgt := 163) E dX0_step_105 rfl ?_
      replace h := Option.some.inj h
      subst h
      exact aw_vret E dX0_step_163 hr
  refine aw_icmp_le (tgt := 21) E dX0_step_10 rfl (fun c10 => ?_) (fun c10 => ?_)
  ·
    replace e4 := ip c10 e4
    subst e4
    exact J5 rfl
  ·
    replace e4 := iq c10 e4
    refine aw_iload E dX0_step_13 0 rfl ?_
    refine aw_sipush (v := 8192) E dX0_step_15 (by decide) ?_
    refine aw_icmp_lt (tgt := 22) E dX0_step_18 rfl (fun c18 => ?_) (fun c18 => ?_)
    ·
      replace e4 := ip c18 e4
      subst e4
      exact J6 rfl
    ·
      replace e4 := iq c18 e4
      subst e4
      exact J5 rfl
def FX0_spread_L83 : Nat → Int32 → Int32 → Int32 → Int32 → Mem → Option (Mem)
  | 0, _, _, _, _, _ => none
  | f + 1, p6, p7, p8, p9, M =>
    if (M.1 31 1) ≤ p9 then
      some M
    else
      if ((p8 >>> (p9 &&& 31)) &&& 1) = 0 then
        lt (α := Int32) (p9 + 1) fun x101 =>
        FX0_spread_L83 f p6 p7 p8 x101 M
      else
        ob (FX0_step p6 p9 p7 M) fun q103 =>
        lt (α := Int32) (p9 + 1) fun x105 =>
        FX0_spread_L83 f p6 p7 p8 x105 q103
def FX0_spread_L3 : Nat → Int32 → Int32 → Int32 → Mem → Option (Mem)
  | 0, _, _, _, _ => none
  | f + 1, p3, p4, p5, M =>
    lt (α := Bool) (if (M.1 37 4) ≤ p5 then false else if 8192 ≤ p5 then false else true) fun b101 =>
    if b101 = true then
      gi p5 8192 <|
      lt (α := Int32) (M.1 40 (Int32.toNatClampNeg p5)) fun x106 =>
      ob (FX0_isRing x106 p3 M) fun q108 =>
      if q108 = 0 then
        gi x106 8192 <|
        lt (α := Int32) (if ((FX7_passed (M.1 39 (Int32.toNatClampNeg x106))) &&& p4) = 0 then
          0
        else
          1) fun q111 =>
        gi x106 8192 <|
        ob (FX7_next (M.1 39 (Int32.toNatClampNeg x106)) q111 M) fun q115 =>
        ob (FX0_spread_L83 FU x106 q111 q115 0 M) fun q117 =>
        lt (α := Int32) (p5 + 1) fun x119 =>
        FX0_spread_L3 f p3 p4 x119 q117
      else
        lt (α := Int32) (p5 + 1) fun x121 =>
        FX0_spread_L3 f p3 p4 x121 M
    else
      some M
def FX0_spread (a2 : Int32) (a3 : Int32) (a4 : Int32) (M : Mem) : Option (Mem) :=
  ob (FX0_spread_L3 FU a3 a4 a2 M) fun q1 =>
  some q1
set_option maxHeartbeats 4000000 in
set_option maxRecDepth 100000 in
theorem lpX0_spread_83 {Y : CtxM} {g : CtxG} {r : Option Value × Mem} (E : EV Y (WX g) cX0_spread 10 none RX0) (p3 : Int32) (p4 : Int32) (p5 : Int32) (p6 : Int32) (p7 : Int32) (p8 : Int32) : ∀ (f : Nat) (p9 : Int32) (M : Mem) (q : Mem), FX0_spread_L83 f p6 p7 p8 p9 M = some q → AW Y (WX g) r 10 3 119 [(0, .ref (wad (WX g) 37)), (1, .ref (wad (WX g) 31)), (3, .int p3), (4, .int p4), (5, .int p5)] [] q → AW Y (WX g) r 10 3 83 [(0, .ref (wad (WX g) 37)), (1, .ref (wad (WX g) 31)), (3, .int p3), (4, .int p4), (5, .int p5), (6, .int p6), (7, .int p7), (8, .int p8), (9, .int p9)] [] M := by
  intro f
  induction f with
  | zero => intro p9 M q hh; exact absurd hh (fun z => nomatch (show (none : Option (Mem)) = some q from z))
  | succ f ih =>
    intro p9 M q hh kx
    rw [FX0_spread_L83] at hh
    refine aw_iload E dX0_spread_83 8 rfl ?_
    refine aw_aload_n E dX0_spread_85 1 rfl ?_
    refine aw_getI E flX0_59 (Nat.le_of_ble_eq_true rfl) rfl rfl dX0_spread_86 ?_
    refine aw_icmp_ge (tgt := 119) E dX0_spread_89 rfl (fun c89 => ?_) (fun c89 => ?_)
    ·
      replace hh := ip c89 hh
      refine aw_sub (L1 := [(0, .ref (wad (WX g) 37)), (1, .ref (wad (WX g) 31)), (3, .int p3), (4, .int p4), (5, .int p5)]) [0, 1, 2, 3, 4] rfl ?_
      replace hh := Option.some.inj hh
      subst hh
      exact kx
    ·
      replace hh := iq c89 hh
      refine aw_iload E dX0_spread_92 7 rfl ?_
      refine aw_iload E dX0_spread_94 8 rfl ?_
      refine aw_ishr E dX0_spread_96 ?_
      refine aw_iconst (v := 1) E dX0_spread_97 (by decide) ?_
      refine aw_iand E dX0_spread_98 ?_
      refine aw_if_eq (tgt := 113) E dX0_spread_99 rfl (fun c99 => ?_) (fun c99 => ?_)
      ·
        replace hh := ip c99 hh
        obtain ⟨x101, e102, hh⟩ := lt_e hh
        refine aw_iinc (v := x101) (L1 := [(9, .int x101), (0, .ref (wad (WX g) 37)), (1, .ref (wad (WX g) 31)), (3, .int p3), (4, .int p4), (5, .int p5), (6, .int p6), (7, .int p7), (8, .int p8)]) E dX0_spread_113 8 rfl e102 (Nat.le_of_ble_eq_true rfl) rfl ?_
        refine aw_goto (tgt := 83) E dX0_spread_116 rfl ?_
        refine aw_sub (L1 := [(0, .ref (wad (WX g) 37)), (1, .ref (wad (WX g) 31)), (3, .int p3), (4, .int p4), (5, .int p5), (6, .int p6), (7, .int p7), (8, .int p8), (9, .int x101)]) [1, 2, 3, 4, 5, 6, 7, 8, 0] rfl ?_
        exact ih x101 M _ hh kx
      ·
        replace hh := iq c99 hh
        refine aw_aload_n E dX0_spread_102 0 rfl ?_
        refine aw_aload_n E dX0_spread_103 1 rfl ?_
        refine aw_iload E dX0_spread_104 5 rfl ?_
        refine aw_iload E dX0_spread_106 8 rfl ?_
        refine aw_iload E dX0_spread_108 6 rfl ?_
        obtain ⟨q103, e104, hh⟩ := bd_e hh
        refine aw_callVv (S := []) E mvX0_step mlX0_62 (Nat.le_of_ble_eq_true rfl) rfl rfl rfl (ctX0_step (yl Y) g p6 p9 p7  M q103 e104) rfl (Nat.le_of_ble_eq_true rfl) (Nat.le_of_ble_eq_true rfl) dX0_spread_110 ?_
        obtain ⟨x105, e106, hh⟩ := lt_e hh
        refine aw_iinc (v := x105) (L1 := [(9, .int x105), (0, .ref (wad (WX g) 37)), (1, .ref (wad (WX g) 31)), (3, .int p3), (4, .int p4), (5, .int p5), (6, .int p6), (7, .int p7), (8, .int p8)]) E dX0_spread_113 8 rfl e106 (Nat.le_of_ble_eq_true rfl) rfl ?_
        refine aw_goto (tgt := 83) E dX0_spread_116 rfl ?_
        refine aw_sub (L1 := [(0, .ref (wad (WX g) 37)), (1, .ref (wad (WX g) 31)), (3, .int p3), (4, .int p4), (5, .int p5), (6, .int p6), (7, .int p7), (8, .int p8), (9, .int x105)]) [1, 2, 3, 4, 5, 6, 7, 8, 0] rfl ?_
        exact ih x105 q103 _ hh kx
set_option maxHeartbeats 4000000 in
set_option maxRecDepth 100000 in
theorem lpX0_spread_3 {Y : CtxM} {g : CtxG} {r : Option Value × Mem} (E : EV Y (WX g) cX0_spread 10 none RX0) (p3 : Int32) (p4 : Int32) : ∀ (f : Nat) (p5 : Int32) (M : Mem) (q : Mem), FX0_spread_L3 f p3 p4 p5 M = some q → AW Y (WX g) r 10 3 125 [] [] q → AW Y (WX g) r 10 3 3 [(0, .ref (wad (WX g) 37)), (1, .ref (wad (WX g) 31)), (3, .int p3), (4, .int p4), (5, .int p5)] [] M := by
  intro f
  induction f with
  | zero => intro p5 M q hh; exact absurd hh (fun z => nomatch (show (none : Option (Mem)) = some q from z))
  | succ f ih =>
    intro p5 M q hh kx
    rw [FX0_spread_L3] at hh
    refine aw_iload E dX0_spread_3 4 rfl ?_
    refine aw_aload_n E dX0_spread_5 0 rfl ?_
    refine aw_getI E flX0_40 (Nat.le_of_ble_eq_true rfl) rfl rfl dX0_spread_6 ?_
    obtain ⟨b101, e102, hh⟩ := lt_e hh
    have J103 : b101 = true → AW Y (WX g) r 10 3 20 [(0, .ref (wad (WX g) 37)), (1, .ref (wad (WX g) 31)), (3, .int p3), (4, .int p4), (5, .int p5)] [] M := fun hb => by
      replace hh := ip hb hh
      refine aw_aload_n E dX0_spread_20 0 rfl ?_
      refine aw_getR (q := 40) E flX0_19 (Nat.le_of_ble_eq_true rfl) rfl rfl dX0_spread_21 ?_
      refine aw_iload E dX0_spread_24 4 rfl ?_
      obtain ⟨g105, hh⟩ := gi_e hh
      refine aw_iald E (Nat.le_of_ble_eq_true rfl) rfl g105 dX0_spread_26 ?_
      obtain ⟨x106, e107, hh⟩ := lt_e hh
      refine aw_nmI e107 ?_
      refine aw_istore (L1 := [(6, .int x106), (0, .ref (wad (WX g) 37)), (1, .ref (wad (WX g) 31)), (3, .int p3), (4, .int p4), (5, .int p5)]) E dX0_spread_27 (Nat.le_of_ble_eq_true rfl) rfl ?_
      refine aw_aload_n E dX0_spread_29 1 rfl ?_
      refine aw_iload E dX0_spread_30 0 rfl ?_
      refine aw_iload_n E dX0_spread_32 3 rfl ?_
      obtain ⟨q108, e109, hh⟩ := bd_e hh
      refine aw_callVi (S := []) E mvX0_isRing mlX0_47 (Nat.le_of_ble_eq_true rfl) rfl rfl rfl (ctX0_isRing (yl Y) g x106 p3  M q108 e109) rfl (Nat.le_of_ble_eq_true rfl) (Nat.le_of_ble_eq_true rfl) dX0_spread_33 ?_
      refine aw_if_eq (tgt := 42) E dX0_spread_36 rfl (fun c36 => ?_) (fun c36 => ?_)
      ·
        replace hh := ip c36 hh
        refine aw_aload_n E dX0_spread_42 1 rfl ?_
        refine aw_getR (q := 39) E flX0_15 (Nat.le_of_ble_eq_true rfl) rfl rfl dX0_spread_43 ?_
        refine aw_iload E dX0_spread_46 0 rfl ?_
        obtain ⟨g110, hh⟩ := gi_e hh
        refine aw_iald E (Nat.le_of_ble_eq_true rfl) rfl g110 dX0_spread_48 ?_
        refine aw_callSi (S := []) E msX7_passed mlX0_51 rfl (ctX7_passed (yl Y) g (M.1 39 (Int32.toNatClampNeg x106))  M ) rfl (Nat.le_of_ble_eq_true rfl) (Nat.le_of_ble_eq_true rfl) dX0_spread_49 ?_
        refine aw_iload E dX0_spread_52 4 rfl ?_
        refine aw_iand E dX0_spread_54 ?_
        obtain ⟨q111, e112, hh⟩ := lt_e hh
        have J113 : AW Y (WX g) r 10 3 63 [(0, .ref (wad (WX g) 37)), (1, .ref (wad (WX g) 31)), (3, .int p3), (4, .int p4), (5, .int p5), (6, .int x106)] [.int q111] M := by
          refine aw_istore (L1 := [(7, .int q111), (0, .ref (wad (WX g) 37)), (1, .ref (wad (WX g) 31)), (3, .int p3), (4, .int p4), (5, .int p5), (6, .int x106)]) E dX0_spread_63 (Nat.le_of_ble_eq_true rfl) rfl ?_
          refine aw_aload_n E dX0_spread_65 2 rfl ?_
          refine aw_aload_n E dX0_spread_66 1 rfl ?_
          refine aw_getR (q := 39) E flX0_15 (Nat.le_of_ble_eq_true rfl) rfl rfl dX0_spread_67 ?_
          refine aw_iload E dX0_spread_70 6 rfl ?_
          obtain ⟨g114, hh⟩ := gi_e hh
          refine aw_iald E (Nat.le_of_ble_eq_true rfl) rfl g114 dX0_spread_72 ?_
          refine aw_iload E dX0_spread_73 0 rfl ?_
          obtain ⟨q115, e116, hh⟩ := bd_e hh
          refine aw_callVi (S := []) E mvX7_next mlX0_55 (Nat.le_of_ble_eq_true rfl) rfl rfl rfl (ctX7_next (yl Y) g (M.1 39 (Int32.toNatClampNeg x106)) q111  M q115 e116) rfl (Nat.le_of_ble_eq_true rfl) (Nat.le_of_ble_eq_true rfl) dX0_spread_75 ?_
          refine aw_istore (L1 := [(8, .int q115), (7, .int q111), (0, .ref (wad (WX g) 37)), (1, .ref (wad (WX g) 31)), (3, .int p3), (4, .int p4), (5, .int p5), (6, .int x106)]) E dX0_spread_78 (Nat.le_of_ble_eq_true rfl) rfl ?_
          refine aw_iconst (v := 0) E dX0_spread_80 (by decide) ?_
          refine aw_istore (L1 := [(9, .int 0), (8, .int q115), (7, .int q111), (0, .ref (wad (WX g) 37)), (1, .ref (wad (WX g) 31)), (3, .int p3), (4, .int p4), (5, .int p5), (6, .int x106)]) E dX0_spread_81 (Nat.le_of_ble_eq_true rfl) rfl ?_
          obtain ⟨q117, e118, hh⟩ := bd_e hh
          refine aw_sub (L1 := [(0, .ref (wad (WX g) 37)), (1, .ref (wad (WX g) 31)), (3, .int p3), (4, .int p4), (5, .int p5), (6, .int x106), (7, .int q111), (8, .int q115), (9, .int 0)]) [3, 4, 5, 6, 7, 8, 2, 1, 0] rfl ?_
          refine lpX0_spread_83 E   p3 p4 p5 x106 q111 q115 FU 0 M q117 e118 ?_
          obtain ⟨x119, e120, hh⟩ := lt_e hh
          refine aw_iinc (v := x119) (L1 := [(5, .int x119), (0, .ref (wad (WX g) 37)), (1, .ref (wad (WX g) 31)), (3, .int p3), (4, .int p4)]) E dX0_spread_119 4 rfl e120 (Nat.le_of_ble_eq_true rfl) rfl ?_
          refine aw_goto (tgt := 3) E dX0_spread_122 rfl ?_
          refine aw_sub (L1 := [(0, .ref (wad (WX g) 37)), (1, .ref (wad (WX g) 31)), (3, .int p3), (4, .int p4), (5, .int x119)]) [1, 2, 3, 4, 0] rfl ?_
          exact ih x119 q117 _ hh kx
        refine aw_if_ne (tgt := 62) E dX0_spread_55 rfl (fun c55 => ?_) (fun c55 => ?_)
        ·
          replace e112 := iq c55 e112
          refine aw_iconst (v := 1) E dX0_spread_62 (by decide) ?_
          refine aw_sub (L1 := [(0, .ref (wad (WX g) 37)), (1, .ref (wad (WX g) 31)), (3, .int p3), (4, .int p4), (5, .int p5), (6, .int x106)]) [1, 2, 3, 4, 5, 0] rfl ?_
          subst e112
          exact J113
        ·
          replace e112 := ip c55 e112
          refine aw_iconst (v := 0) E dX0_spread_58 (by decide) ?_
          refine aw_goto (tgt := 63) E dX0_spread_59 rfl ?_
          refine aw_sub (L1 := [(0, .ref (wad (WX g) 37)), (1, .ref (wad (WX g) 31)), (3, .int p3), (4, .int p4), (5, .int p5), (6, .int x106)]) [1, 2, 3, 4, 5, 0] rfl ?_
          subst e112
          exact J113
      ·
        replace hh := iq c36 hh
        refine aw_goto (tgt := 119) E dX0_spread_39 rfl ?_
        obtain ⟨x121, e122, hh⟩ := lt_e hh
        refine aw_iinc (v := x121) (L1 := [(5, .int x121), (6, .int x106), (0, .ref (wad (WX g) 37)), (1, .ref (wad (WX g) 31)), (3, .int p3), (4, .int p4)]) E dX0_spread_119 5 rfl e122 (Nat.le_of_ble_eq_true rfl) rfl ?_
        refine aw_goto (tgt := 3) E dX0_spread_122 rfl ?_
        refine aw_sub (L1 := [(0, .ref (wad (WX g) 37)), (1, .ref (wad (WX g) 31)), (3, .int p3), (4, .int p4), (5, .int x121)]) [2, 3, 4, 5, 0] rfl ?_
        exact ih x121 M _ hh kx
    have J104 : b101 = false → AW Y (WX g) r 10 3 125 [(0, .ref (wad (WX g) 37)), (1, .ref (wad (WX g) 31)), (3, .int p3), (4, .int p4), (5, .int p5)] [] M := fun hb => by
      replace hh := iq (bf hb) hh
      refine aw_sub (L1 := []) [] rfl ?_
      replace hh := Option.some.inj hh
      subst hh
      exact kx
    refine aw_icmp_ge (tgt := 125) E dX0_spread_9 rfl (fun c9 => ?_) (fun c9 => ?_)
    ·
      replace e102 := ip c9 e102
      subst e102
      exact J104 rfl
    ·
      replace e102 := iq c9 e102
      refine aw_iload E dX0_spread_12 4 rfl ?_
      refine aw_sipush (v := 8192) E dX0_spread_14 (by decide) ?_
      refine aw_icmp_ge (tgt := 125) E dX0_spread_17 rfl (fun c17 => ?_) (fun c17 => ?_)
      ·
        replace e102 := ip c17 e102
        subst e102
        exact J104 rfl
      ·
        replace e102 := iq c17 e102
        subst e102
        exact J103 rfl
set_option maxHeartbeats 4000000 in
set_option maxRecDepth 100000 in
theorem ctX0_spread (l : Launch) (g : CtxG) (a2 : Int32) (a3 : Int32) (a4 : Int32) (M : Mem) (r0 : Mem) (h : FX0_spread a2 a3 a4 M = some r0) : Ct l (WX g) yX0_spread cX0_spread 10 none 3 [.ref (wad (WX g) 37), .ref (wad (WX g) 31), .int a2, .int a3, .int a4] M (none, r0) := by
  refine Ct.of (by decide) (Nat.le_of_ble_eq_true rfl) (fun Y hY E => ?_)
  have E : EV Y (WX g) cX0_spread 10 none RX0 := E
  have h : FX0_spread a2 a3 a4 M = some r0 := h
  unfold FX0_spread at h
  show AW Y (WX g) _ 10 3 0 [(0, .ref (wad (WX g) 37)), (1, .ref (wad (WX g) 31)), (2, .int a2), (3, .int a3), (4, .int a4)] [] M
  obtain ⟨r, hr⟩ : ∃ r : Option Value × Mem, r = (none, r0) := ⟨_, rfl⟩
  rw [← hr]
  refine aw_iload_n E dX0_spread_0 2 rfl ?_
  refine aw_istore (L1 := [(5, .int a2), (0, .ref (wad (WX g) 37)), (1, .ref (wad (WX g) 31)), (2, .int a2), (3, .int a3), (4, .int a4)]) E dX0_spread_1 (Nat.le_of_ble_eq_true rfl) rfl ?_
  obtain ⟨q1, e2, h⟩ := bd_e h
  refine aw_sub (L1 := [(0, .ref (wad (WX g) 37)), (1, .ref (wad (WX g) 31)), (3, .int a3), (4, .int a4), (5, .int a2)]) [1, 2, 4, 5, 0] rfl ?_
  refine lpX0_spread_3 E   a3 a4 FU a2 M q1 e2 ?_
  replace h := Option.some.inj h
  subst h
  exact aw_vret E dX0_spread_125 hr
def FX0_ringedSince_L5 : Nat → Int32 → Int32 → Int32 → Mem → Option (Int32)
  | 0, _, _, _, _ => none
  | f + 1, p2, p3, p4, M =>
    if (M.1 37 4) ≤ p4 then
      some p3
    else
      gi p4 8192 <|
      lt (α := Int32) (M.1 40 (Int32.toNatClampNeg p4)) fun x102 =>
      ob (α := Bool) (if (x102 &&& p2) = 0 then
        ob (FX0_isRing x102 0 M) fun q115 =>
        if q115 = 0 then some false else some true
      else
        some false) fun b104 =>
      if b104 = true then
        gi x102 8192 <|
        lt (α := Int32) (p3 ||| (FX7_passed (M.1 39 (Int32.toNatClampNeg x102)))) fun x109 =>
        lt (α := Int32) (p4 + 1) fun x111 =>
        FX0_ringedSince_L5 f p2 x109 x111 M
      else
        lt (α := Int32) (p4 + 1) fun x113 =>
        FX0_ringedSince_L5 f p2 p3 x113 M
def FX0_ringedSince (a1 : Int32) (a2 : Int32) (M : Mem) : Option (Int32) :=
  ob (FX0_ringedSince_L5 FU a2 0 a1 M) fun q1 =>
  some (q1 &&& (((1 : Int32) <<< ((M.1 37 5) &&& 31)) ^^^ (-1)))
set_option maxHeartbeats 4000000 in
set_option maxRecDepth 100000 in
theorem lpX0_ringedSince_5 {Y : CtxM} {g : CtxG} {r : Option Value × Mem} (E : EV Y (WX g) cX0_ringedSince 6 (some .int) RX0) (p2 : Int32) : ∀ (f : Nat) (p3 : Int32) (p4 : Int32) (M : Mem) (q : Int32), FX0_ringedSince_L5 f p2 p3 p4 M = some q → AW Y (WX g) r 6 3 59 [(0, .ref (wad (WX g) 37)), (3, .int q)] [] M → AW Y (WX g) r 6 3 5 [(0, .ref (wad (WX g) 37)), (2, .int p2), (3, .int p3), (4, .int p4)] [] M := by
  intro f
  induction f with
  | zero => intro p3 p4 M q hh; exact absurd hh (fun z => nomatch (show (none : Option (Int32)) = some q from z))
  | succ f ih =>
    intro p3 p4 M q hh kx
    rw [FX0_ringedSince_L5] at hh
    refine aw_iload E dX0_ringedSince_5 3 rfl ?_
    refine aw_aload_n E dX0_ringedSince_7 0 rfl ?_
    refine aw_getI E flX0_40 (Nat.le_of_ble_eq_true rfl) rfl rfl dX0_ringedSince_8 ?_
    refine aw_icmp_ge (tgt := 59) E dX0_ringedSince_11 rfl (fun c11 => ?_) (fun c11 => ?_)
    ·
      replace hh := ip c11 hh
      refine aw_sub (L1 := [(0, .ref (wad (WX g) 37)), (3, .int p3)]) [0, 2] rfl ?_
      replace hh := Option.some.inj hh
      subst hh
      exact kx
    ·
      replace hh := iq c11 hh
      refine aw_aload_n E dX0_ringedSince_14 0 rfl ?_
      refine aw_getR (q := 40) E flX0_19 (Nat.le_of_ble_eq_true rfl) rfl rfl dX0_ringedSince_15 ?_
      refine aw_iload E dX0_ringedSince_18 3 rfl ?_
      obtain ⟨g101, hh⟩ := gi_e hh
      refine aw_iald E (Nat.le_of_ble_eq_true rfl) rfl g101 dX0_ringedSince_20 ?_
      obtain ⟨x102, e103, hh⟩ := lt_e hh
      refine aw_nmI e103 ?_
      refine aw_istore (L1 := [(5, .int x102), (0, .ref (wad (WX g) 37)), (2, .int p2), (3, .int p3), (4, .int p4)]) E dX0_ringedSince_21 (Nat.le_of_ble_eq_true rfl) rfl ?_
      refine aw_iload E dX0_ringedSince_23 0 rfl ?_
      refine aw_iload_n E dX0_ringedSince_25 2 rfl ?_
      refine aw_iand E dX0_ringedSince_26 ?_
      obtain ⟨b104, e105, hh⟩ := bd_e hh
      have J106 : b104 = true → AW Y (WX g) r 6 3 40 [(5, .int x102), (0, .ref (wad (WX g) 37)), (2, .int p2), (3, .int p3), (4, .int p4)] [] M := fun hb => by
        replace hh := ip hb hh
        refine aw_iload_n E dX0_ringedSince_40 3 rfl ?_
        refine aw_aload_n E dX0_ringedSince_41 1 rfl ?_
        refine aw_getR (q := 39) E flX0_15 (Nat.le_of_ble_eq_true rfl) rfl rfl dX0_ringedSince_42 ?_
        refine aw_iload E dX0_ringedSince_45 0 rfl ?_
        obtain ⟨g108, hh⟩ := gi_e hh
        refine aw_iald E (Nat.le_of_ble_eq_true rfl) rfl g108 dX0_ringedSince_47 ?_
        refine aw_callSi (S := [.int p3]) E msX7_passed mlX0_51 rfl (ctX7_passed (yl Y) g (M.1 39 (Int32.toNatClampNeg x102))  M ) rfl (Nat.le_of_ble_eq_true rfl) (Nat.le_of_ble_eq_true rfl) dX0_ringedSince_48 ?_
        refine aw_ior E dX0_ringedSince_51 ?_
        obtain ⟨x109, e110, hh⟩ := lt_e hh
        refine aw_nmI e110 ?_
        refine aw_istore_n (L1 := [(3, .int x109), (5, .int x102), (0, .ref (wad (WX g) 37)), (2, .int p2), (4, .int p4)]) E dX0_ringedSince_52 (Nat.le_of_ble_eq_true rfl) rfl ?_
        obtain ⟨x111, e112, hh⟩ := lt_e hh
        refine aw_iinc (v := x111) (L1 := [(4, .int x111), (3, .int x109), (5, .int x102), (0, .ref (wad (WX g) 37)), (2, .int p2)]) E dX0_ringedSince_53 4 rfl e112 (Nat.le_of_ble_eq_true rfl) rfl ?_
        refine aw_goto (tgt := 5) E dX0_ringedSince_56 rfl ?_
        refine aw_sub (L1 := [(0, .ref (wad (WX g) 37)), (2, .int p2), (3, .int x109), (4, .int x111)]) [3, 4, 1, 0] rfl ?_
        exact ih x109 x111 M _ hh kx
      have J107 : b104 = false → AW Y (WX g) r 6 3 53 [(5, .int x102), (0, .ref (wad (WX g) 37)), (2, .int p2), (3, .int p3), (4, .int p4)] [] M := fun hb => by
        replace hh := iq (bf hb) hh
        obtain ⟨x113, e114, hh⟩ := lt_e hh
        refine aw_iinc (v := x113) (L1 := [(4, .int x113), (5, .int x102), (0, .ref (wad (WX g) 37)), (2, .int p2), (3, .int p3)]) E dX0_ringedSince_53 4 rfl e114 (Nat.le_of_ble_eq_true rfl) rfl ?_
        refine aw_goto (tgt := 5) E dX0_ringedSince_56 rfl ?_
        refine aw_sub (L1 := [(0, .ref (wad (WX g) 37)), (2, .int p2), (3, .int p3), (4, .int x113)]) [2, 3, 4, 0] rfl ?_
        exact ih p3 x113 M _ hh kx
      refine aw_if_ne (tgt := 53) E dX0_ringedSince_27 rfl (fun c27 => ?_) (fun c27 => ?_)
      ·
        replace e105 := iq c27 e105
        replace e105 := Option.some.inj e105
        subst e105
        exact J107 rfl
      ·
        replace e105 := ip c27 e105
        refine aw_aload_n E dX0_ringedSince_30 1 rfl ?_
        refine aw_iload E dX0_ringedSince_31 0 rfl ?_
        refine aw_iconst (v := 0) E dX0_ringedSince_33 (by decide) ?_
        obtain ⟨q115, e116, e105⟩ := bd_e e105
        refine aw_callVi (S := []) E mvX0_isRing mlX0_47 (Nat.le_of_ble_eq_true rfl) rfl rfl rfl (ctX0_isRing (yl Y) g x102 0  M q115 e116) rfl (Nat.le_of_ble_eq_true rfl) (Nat.le_of_ble_eq_true rfl) dX0_ringedSince_34 ?_
        refine aw_if_eq (tgt := 53) E dX0_ringedSince_37 rfl (fun c37 => ?_) (fun c37 => ?_)
        ·
          replace e105 := ip c37 e105
          replace e105 := Option.some.inj e105
          subst e105
          exact J107 rfl
        ·
          replace e105 := iq c37 e105
          replace e105 := Option.some.inj e105
          subst e105
          exact J106 rfl
set_option maxHeartbeats 4000000 in
set_option maxRecDepth 100000 in
theorem ctX0_ringedSince (l : Launch) (g : CtxG) (a1 : Int32) (a2 : Int32) (M : Mem) (r0 : Int32) (h : FX0_ringedSince a1 a2 M = some r0) : Ct l (WX g) yX0_ringedSince cX0_ringedSince 6 (some .int) 3 [.ref (wad (WX g) 37), .int a1, .int a2] M (some (.int r0), M) := by
  refine Ct.of (by decide) (Nat.le_of_ble_eq_true rfl) (fun Y hY E => ?_)
  have E : EV Y (WX g) cX0_ringedSince 6 (some .int) RX0 := E
  have h : FX0_ringedSince a1 a2 M = some r0 := h
  unfold FX0_ringedSince at h
  show AW Y (WX g) _ 6 3 0 [(0, .ref (wad (WX g) 37)), (1, .int a1), (2, .int a2)] [] M
  obtain ⟨r, hr⟩ : ∃ r : Option Value × Mem, r = (some (.int r0), M) := ⟨_, rfl⟩
  rw [← hr]
  refine aw_iconst (v := 0) E dX0_ringedSince_0 (by decide) ?_
  refine aw_istore_n (L1 := [(3, .int 0), (0, .ref (wad (WX g) 37)), (1, .int a1), (2, .int a2)]) E dX0_ringedSince_1 (Nat.le_of_ble_eq_true rfl) rfl ?_
  refine aw_iload_n E dX0_ringedSince_2 2 rfl ?_
  refine aw_istore (L1 := [(4, .int a1), (3, .int 0), (0, .ref (wad (WX g) 37)), (1, .int a1), (2, .int a2)]) E dX0_ringedSince_3 (Nat.le_of_ble_eq_true rfl) rfl ?_
  obtain ⟨q1, e2, h⟩ := bd_e h
  refine aw_sub (L1 := [(0, .ref (wad (WX g) 37)), (2, .int a2), (3, .int 0), (4, .int a1)]) [2, 4, 1, 0] rfl ?_
  refine lpX0_ringedSince_5 E   a2 FU 0 a1 M q1 e2 ?_
  refine aw_iload_n E dX0_ringedSince_59 1 rfl ?_
  refine aw_iconst (v := 1) E dX0_ringedSince_60 (by decide) ?_
  refine aw_aload_n E dX0_ringedSince_61 0 rfl ?_
  refine aw_getI E flX0_35 (Nat.le_of_ble_eq_true rfl) rfl rfl dX0_ringedSince_62 ?_
  refine aw_ishl E dX0_ringedSince_65 ?_
  refine aw_iconst (v := (-1)) E dX0_ringedSince_66 (by decide) ?_
  refine aw_ixor E dX0_ringedSince_67 ?_
  refine aw_iand E dX0_ringedSince_68 ?_
  replace h := Option.some.inj h
  subst h
  exact aw_iret E dX0_ringedSince_69 hr
def FX0_ringedByLane_L15 : Nat → Int32 → Int32 → Mem → Option (Mem)
  | 0, _, _, _ => none
  | f + 1, p4, p5, M =>
    if p4 ≤ p5 then
      some M
    else
      gi p5 8192 <|
      lt (α := Int32) (M.1 40 (Int32.toNatClampNeg p5)) fun x102 =>
      gi x102 8192 <|
      ob (FX7_next (M.1 39 (Int32.toNatClampNeg x102)) 0 M) fun q105 =>
      if ((q105 >>> ((M.1 31 1) &&& 31)) &&& 1) = 0 then
        lt (α := Int32) (p5 + 1) fun x107 =>
        FX0_ringedByLane_L15 f p4 x107 M
      else
        ob (FX0_step x102 (M.1 31 1) 0 M) fun q109 =>
        lt (α := Int32) (p5 + 1) fun x111 =>
        FX0_ringedByLane_L15 f p4 x111 q109
def FX0_ringedByLane (a2 : Int32) (a3 : Int32) (M : Mem) : Option (Int32 × Mem) :=
  lt (α := Int32) (M.1 37 4) fun x1 =>
  ob (FX7_openLane a2 a3 M) fun q3 =>
  ob (FX0_ringedByLane_L15 FU x1 0 q3) fun q5 =>
  ob (FX7_closeLane a2 a3 q5) fun q7 =>
  ob (FX0_spread x1 512 0 q7) fun q9 =>
  ob (FX0_ringedSince x1 0 q9) fun q11 =>
  ob (FX0_forget x1 q9) fun q13 =>
  some (q11, q13)
set_option maxHeartbeats 4000000 in
set_option maxRecDepth 100000 in
theorem lpX0_ringedByLane_15 {Y : CtxM} {g : CtxG} {r : Option Value × Mem} (E : EV Y (WX g) cX0_ringedByLane 7 (some .int) RX0) (p2 : Int32) (p3 : Int32) (p4 : Int32) : ∀ (f : Nat) (p5 : Int32) (M : Mem) (q : Mem), FX0_ringedByLane_L15 f p4 p5 M = some q → AW Y (WX g) r 7 4 71 [(0, .ref (wad (WX g) 37)), (1, .ref (wad (WX g) 31)), (2, .int p2), (3, .int p3), (4, .int p4)] [] q → AW Y (WX g) r 7 4 15 [(0, .ref (wad (WX g) 37)), (1, .ref (wad (WX g) 31)), (2, .int p2), (3, .int p3), (4, .int p4), (5, .int p5)] [] M := by
  intro f
  induction f with
  | zero => intro p5 M q hh; exact absurd hh (fun z => nomatch (show (none : Option (Mem)) = some q from z))
  | succ f ih =>
    intro p5 M q hh kx
    rw [FX0_ringedByLane_L15] at hh
    refine aw_iload E dX0_ringedByLane_15 5 rfl ?_
    refine aw_iload E dX0_ringedByLane_17 4 rfl ?_
    refine aw_icmp_ge (tgt := 71) E dX0_ringedByLane_19 rfl (fun c19 => ?_) (fun c19 => ?_)
    ·
      replace hh := ip c19 hh
      refine aw_sub (L1 := [(0, .ref (wad (WX g) 37)), (1, .ref (wad (WX g) 31)), (2, .int p2), (3, .int p3), (4, .int p4)]) [0, 1, 2, 3, 4] rfl ?_
      replace hh := Option.some.inj hh
      subst hh
      exact kx
    ·
      replace hh := iq c19 hh
      refine aw_aload_n E dX0_ringedByLane_22 0 rfl ?_
      refine aw_getR (q := 40) E flX0_19 (Nat.le_of_ble_eq_true rfl) rfl rfl dX0_ringedByLane_23 ?_
      refine aw_iload E dX0_ringedByLane_26 5 rfl ?_
      obtain ⟨g101, hh⟩ := gi_e hh
      refine aw_iald E (Nat.le_of_ble_eq_true rfl) rfl g101 dX0_ringedByLane_28 ?_
      obtain ⟨x102, e103, hh⟩ := lt_e hh
      refine aw_nmI e103 ?_
      refine aw_istore (L1 := [(6, .int x102), (0, .ref (wad (WX g) 37)), (1, .ref (wad (WX g) 31)), (2, .int p2), (3, .int p3), (4, .int p4), (5, .int p5)]) E dX0_ringedByLane_29 (Nat.le_of_ble_eq_true rfl) rfl ?_
      refine aw_aload_n E dX0_ringedByLane_31 2 rfl ?_
      refine aw_aload_n E dX0_ringedByLane_32 1 rfl ?_
      refine aw_getR (q := 39) E flX0_15 (Nat.le_of_ble_eq_true rfl) rfl rfl dX0_ringedByLane_33 ?_
      refine aw_iload E dX0_ringedByLane_36 0 rfl ?_
      obtain ⟨g104, hh⟩ := gi_e hh
      refine aw_iald E (Nat.le_of_ble_eq_true rfl) rfl g104 dX0_ringedByLane_38 ?_
      refine aw_iconst (v := 0) E dX0_ringedByLane_39 (by decide) ?_
      obtain ⟨q105, e106, hh⟩ := bd_e hh
      refine aw_callVi (S := []) E mvX7_next mlX0_55 (Nat.le_of_ble_eq_true rfl) rfl rfl rfl (ctX7_next (yl Y) g (M.1 39 (Int32.toNatClampNeg x102)) 0  M q105 e106) rfl (Nat.le_of_ble_eq_true rfl) (Nat.le_of_ble_eq_true rfl) dX0_ringedByLane_40 ?_
      refine aw_aload_n E dX0_ringedByLane_43 2 rfl ?_
      refine aw_getI E flX0_59 (Nat.le_of_ble_eq_true rfl) rfl rfl dX0_ringedByLane_44 ?_
      refine aw_ishr E dX0_ringedByLane_47 ?_
      refine aw_iconst (v := 1) E dX0_ringedByLane_48 (by decide) ?_
      refine aw_iand E dX0_ringedByLane_49 ?_
      refine aw_if_eq (tgt := 65) E dX0_ringedByLane_50 rfl (fun c50 => ?_) (fun c50 => ?_)
      ·
        replace hh := ip c50 hh
        obtain ⟨x107, e108, hh⟩ := lt_e hh
        refine aw_iinc (v := x107) (L1 := [(5, .int x107), (6, .int x102), (0, .ref (wad (WX g) 37)), (1, .ref (wad (WX g) 31)), (2, .int p2), (3, .int p3), (4, .int p4)]) E dX0_ringedByLane_65 6 rfl e108 (Nat.le_of_ble_eq_true rfl) rfl ?_
        refine aw_goto (tgt := 15) E dX0_ringedByLane_68 rfl ?_
        refine aw_sub (L1 := [(0, .ref (wad (WX g) 37)), (1, .ref (wad (WX g) 31)), (2, .int p2), (3, .int p3), (4, .int p4), (5, .int x107)]) [2, 3, 4, 5, 6, 0] rfl ?_
        exact ih x107 M _ hh kx
      ·
        replace hh := iq c50 hh
        refine aw_aload_n E dX0_ringedByLane_53 1 rfl ?_
        refine aw_aload_n E dX0_ringedByLane_54 2 rfl ?_
        refine aw_iload E dX0_ringedByLane_55 0 rfl ?_
        refine aw_aload_n E dX0_ringedByLane_57 2 rfl ?_
        refine aw_getI E flX0_59 (Nat.le_of_ble_eq_true rfl) rfl rfl dX0_ringedByLane_58 ?_
        refine aw_iconst (v := 0) E dX0_ringedByLane_61 (by decide) ?_
        obtain ⟨q109, e110, hh⟩ := bd_e hh
        refine aw_callVv (S := []) E mvX0_step mlX0_62 (Nat.le_of_ble_eq_true rfl) rfl rfl rfl (ctX0_step (yl Y) g x102 (M.1 31 1) 0  M q109 e110) rfl (Nat.le_of_ble_eq_true rfl) (Nat.le_of_ble_eq_true rfl) dX0_ringedByLane_62 ?_
        obtain ⟨x111, e112, hh⟩ := lt_e hh
        refine aw_iinc (v := x111) (L1 := [(5, .int x111), (6, .int x102), (0, .ref (wad (WX g) 37)), (1, .ref (wad (WX g) 31)), (2, .int p2), (3, .int p3), (4, .int p4)]) E dX0_ringedByLane_65 6 rfl e112 (Nat.le_of_ble_eq_true rfl) rfl ?_
        refine aw_goto (tgt := 15) E dX0_ringedByLane_68 rfl ?_
        refine aw_sub (L1 := [(0, .ref (wad (WX g) 37)), (1, .ref (wad (WX g) 31)), (2, .int p2), (3, .int p3), (4, .int p4), (5, .int x111)]) [2, 3, 4, 5, 6, 0] rfl ?_
        exact ih x111 q109 _ hh kx
set_option maxHeartbeats 4000000 in
set_option maxRecDepth 100000 in
theorem ctX0_ringedByLane (l : Launch) (g : CtxG) (a2 : Int32) (a3 : Int32) (M : Mem) (r0 : Int32 × Mem) (h : FX0_ringedByLane a2 a3 M = some r0) : Ct l (WX g) yX0_ringedByLane cX0_ringedByLane 7 (some .int) 4 [.ref (wad (WX g) 37), .ref (wad (WX g) 31), .int a2, .int a3] M (some (.int r0.1), r0.2) := by
  refine Ct.of (by decide) (Nat.le_of_ble_eq_true rfl) (fun Y hY E => ?_)
  have E : EV Y (WX g) cX0_ringedByLane 7 (some .int) RX0 := E
  have h : FX0_ringedByLane a2 a3 M = some r0 := h
  unfold FX0_ringedByLane at h
  show AW Y (WX g) _ 7 4 0 [(0, .ref (wad (WX g) 37)), (1, .ref (wad (WX g) 31)), (2, .int a2), (3, .int a3)] [] M
  obtain ⟨r, hr⟩ : ∃ r : Option Value × Mem, r = (some (.int r0.1), r0.2) := ⟨_, rfl⟩
  rw [← hr]
  refine aw_aload_n E dX0_ringedByLane_0 0 rfl ?_
  refine aw_getI E flX0_40 (Nat.le_of_ble_eq_true rfl) rfl rfl dX0_ringedByLane_1 ?_
  obtain ⟨x1, e2, h⟩ := lt_e h
  refine aw_nmI e2 ?_
  refine aw_istore (L1 := [(4, .int x1), (0, .ref (wad (WX g) 37)), (1, .ref (wad (WX g) 31)), (2, .int a2), (3, .int a3)]) E dX0_ringedByLane_4 (Nat.le_of_ble_eq_true rfl) rfl ?_
  refine aw_aload_n E dX0_ringedByLane_6 2 rfl ?_
  refine aw_iload_n E dX0_ringedByLane_7 3 rfl ?_
  refine aw_iload_n E dX0_ringedByLane_8 4 rfl ?_
  obtain ⟨q3, e4, h⟩ := bd_e h
  refine aw_callVv (S := []) E mvX7_openLane mlX0_89 (Nat.le_of_ble_eq_true rfl) rfl rfl rfl (ctX7_openLane (yl Y) g a2 a3  M q3 e4) rfl (Nat.le_of_ble_eq_true rfl) (Nat.le_of_ble_eq_true rfl) dX0_ringedByLane_9 ?_
  refine aw_iconst (v := 0) E dX0_ringedByLane_12 (by decide) ?_
  refine aw_istore (L1 := [(5, .int 0), (4, .int x1), (0, .ref (wad (WX g) 37)), (1, .ref (wad (WX g) 31)), (2, .int a2), (3, .int a3)]) E dX0_ringedByLane_13 (Nat.le_of_ble_eq_true rfl) rfl ?_
  obtain ⟨q5, e6, h⟩ := bd_e h
  refine aw_sub (L1 := [(0, .ref (wad (WX g) 37)), (1, .ref (wad (WX g) 31)), (2, .int a2), (3, .int a3), (4, .int x1), (5, .int 0)]) [2, 3, 4, 5, 1, 0] rfl ?_
  refine lpX0_ringedByLane_15 E   a2 a3 x1 FU 0 q3 q5 e6 ?_
  refine aw_aload_n E dX0_ringedByLane_71 1 rfl ?_
  refine aw_iload_n E dX0_ringedByLane_72 2 rfl ?_
  refine aw_iload_n E dX0_ringedByLane_73 3 rfl ?_
  obtain ⟨q7, e8, h⟩ := bd_e h
  refine aw_callVv (S := []) E mvX7_closeLane mlX0_93 (Nat.le_of_ble_eq_true rfl) rfl rfl rfl (ctX7_closeLane (yl Y) g a2 a3  q5 q7 e8) rfl (Nat.le_of_ble_eq_true rfl) (Nat.le_of_ble_eq_true rfl) dX0_ringedByLane_74 ?_
  refine aw_aload_n E dX0_ringedByLane_77 0 rfl ?_
  refine aw_aload_n E dX0_ringedByLane_78 1 rfl ?_
  refine aw_iload E dX0_ringedByLane_79 4 rfl ?_
  refine aw_sipush (v := 512) E dX0_ringedByLane_81 (by decide) ?_
  refine aw_iconst (v := 0) E dX0_ringedByLane_84 (by decide) ?_
  obtain ⟨q9, e10, h⟩ := bd_e h
  refine aw_callVv (S := []) E mvX0_spread mlX0_43 (Nat.le_of_ble_eq_true rfl) rfl rfl rfl (ctX0_spread (yl Y) g x1 512 0  q7 q9 e10) rfl (Nat.le_of_ble_eq_true rfl) (Nat.le_of_ble_eq_true rfl) dX0_ringedByLane_85 ?_
  refine aw_aload_n E dX0_ringedByLane_88 0 rfl ?_
  refine aw_iload E dX0_ringedByLane_89 4 rfl ?_
  refine aw_iconst (v := 0) E dX0_ringedByLane_91 (by decide) ?_
  obtain ⟨q11, e12, h⟩ := bd_e h
  refine aw_callVi (S := []) E mvX0_ringedSince mlX0_86 (Nat.le_of_ble_eq_true rfl) rfl rfl rfl (ctX0_ringedSince (yl Y) g x1 0  q9 q11 e12) rfl (Nat.le_of_ble_eq_true rfl) (Nat.le_of_ble_eq_true rfl) dX0_ringedByLane_92 ?_
  refine aw_istore (L1 := [(5, .int q11), (0, .ref (wad (WX g) 37)), (1, .ref (wad (WX g) 31)), (2, .int a2), (3, .int a3), (4, .int x1)]) E dX0_ringedByLane_95 (Nat.le_of_ble_eq_true rfl) rfl ?_
  refine aw_aload_n E dX0_ringedByLane_97 1 rfl ?_
  refine aw_iload E dX0_ringedByLane_98 5 rfl ?_
  obtain ⟨q13, e14, h⟩ := bd_e h
  refine aw_callVv (S := []) E mvX0_forget mlX0_25 (Nat.le_of_ble_eq_true rfl) rfl rfl rfl (ctX0_forget (yl Y) g x1  q9 q13 e14) rfl (Nat.le_of_ble_eq_true rfl) (Nat.le_of_ble_eq_true rfl) dX0_ringedByLane_100 ?_
  refine aw_iload E dX0_ringedByLane_103 0 rfl ?_
  replace h := Option.some.inj h
  subst h
  exact aw_iret E dX0_ringedByLane_105 hr
def FX0_ringedWithout (a1 : Int32) (M : Mem) : Option (Int32) :=
  lt (α := Int32) (if 0 ≤ a1 then
    (1 : Int32) <<< (a1 &&& 31)
  else
    0) fun q1 =>
  ob (FX0_ringedSince 0 q1 M) fun q4 =>
  some q4
set_option maxHeartbeats 4000000 in
set_option maxRecDepth 100000 in
theorem ctX0_ringedWithout (l : Launch) (g : CtxG) (a1 : Int32) (M : Mem) (r0 : Int32) (h : FX0_ringedWithout a1 M = some r0) : Ct l (WX g) yX0_ringedWithout cX0_ringedWithout 2 (some .int) 4 [.ref (wad (WX g) 37), .int a1] M (some (.int r0), M) := by
  refine Ct.of (by decide) (Nat.le_of_ble_eq_true rfl) (fun Y hY E => ?_)
  have E : EV Y (WX g) cX0_ringedWithout 2 (some .int) RX0 := E
  have h : FX0_ringedWithout a1 M = some r0 := h
  unfold FX0_ringedWithout at h
  show AW Y (WX g) _ 2 4 0 [(0, .ref (wad (WX g) 37)), (1, .int a1)] [] M
  obtain ⟨r, hr⟩ : ∃ r : Option Value × Mem, r = (some (.int r0), M) := ⟨_, rfl⟩
  rw [← hr]
  refine aw_aload_n E dX0_ringedWithout_0 0 rfl ?_
  refine aw_iconst (v := 0) E dX0_ringedWithout_1 (by decide) ?_
  refine aw_iload_n E dX0_ringedWithout_2 1 rfl ?_
  obtain ⟨q1, e2, h⟩ := lt_e h
  have J3 : AW Y (WX g) r 2 4 13 [] [.int q1, .int 0, .ref (wad (WX g) 37)] M := by
    obtain ⟨q4, e5, h⟩ := bd_e h
    refine aw_callVi (S := []) E mvX0_ringedSince mlX0_86 (Nat.le_of_ble_eq_true rfl) rfl rfl rfl (ctX0_ringedSince (yl Y) g 0 q1  M q4 e5) rfl (Nat.le_of_ble_eq_true rfl) (Nat.le_of_ble_eq_true rfl) dX0_ringedWithout_13 ?_
    replace h := Option.some.inj h
    subst h
    exact aw_iret E dX0_ringedWithout_16 hr
  refine aw_if_ge (tgt := 10) E dX0_ringedWithout_3 rfl (fun c3 => ?_) (fun c3 => ?_)
  ·
    replace e2 := ip c3 e2
    refine aw_iconst (v := 1) E dX0_ringedWithout_10 (by decide) ?_
    refine aw_iload_n E dX0_ringedWithout_11 1 rfl ?_
    refine aw_ishl E dX0_ringedWithout_12 ?_
    refine aw_sub (L1 := []) [] rfl ?_
    subst e2
    exact J3
  ·
    replace e2 := iq c3 e2
    refine aw_iconst (v := 0) E dX0_ringedWithout_6 (by decide) ?_
    refine aw_goto (tgt := 13) E dX0_ringedWithout_7 rfl ?_
    refine aw_sub (L1 := []) [] rfl ?_
    subst e2
    exact J3
def FX0_seek (a2 : Int32) (a3 : Int32) (M : Mem) : Option (Mem) :=
  ob (FX0_forget 0 M) fun q1 =>
  lt (wr q1 37 5 (q1.1 31 0)) fun M3 =>
  gi 0 8192 <|
  lt (wrL M3 38 (Int32.toNatClampNeg 0) 0) fun M6 =>
  gi 0 8192 <|
  lt (wr M6 39 (Int32.toNatClampNeg 0) (FX7_start M6)) fun M9 =>
  gi 0 8192 <|
  lt (wr M9 40 (Int32.toNatClampNeg 0) 0) fun M12 =>
  lt (wr M12 37 4 1) fun M14 =>
  ob (FX0_spread 0 a2 a3 M14) fun q16 =>
  some q16
set_option maxHeartbeats 4000000 in
set_option maxRecDepth 100000 in
theorem ctX0_seek (l : Launch) (g : CtxG) (a2 : Int32) (a3 : Int32) (M : Mem) (r0 : Mem) (h : FX0_seek a2 a3 M = some r0) : Ct l (WX g) yX0_seek cX0_seek 4 none 4 [.ref (wad (WX g) 37), .ref (wad (WX g) 31), .int a2, .int a3] M (none, r0) := by
  refine Ct.of (by decide) (Nat.le_of_ble_eq_true rfl) (fun Y hY E => ?_)
  have E : EV Y (WX g) cX0_seek 4 none RX0 := E
  have h : FX0_seek a2 a3 M = some r0 := h
  unfold FX0_seek at h
  show AW Y (WX g) _ 4 4 0 [(0, .ref (wad (WX g) 37)), (1, .ref (wad (WX g) 31)), (2, .int a2), (3, .int a3)] [] M
  obtain ⟨r, hr⟩ : ∃ r : Option Value × Mem, r = (none, r0) := ⟨_, rfl⟩
  rw [← hr]
  refine aw_aload_n E dX0_seek_0 0 rfl ?_
  refine aw_iconst (v := 0) E dX0_seek_1 (by decide) ?_
  obtain ⟨q1, e2, h⟩ := bd_e h
  refine aw_callVv (S := []) E mvX0_forget mlX0_25 (Nat.le_of_ble_eq_true rfl) rfl rfl rfl (ctX0_forget (yl Y) g 0  M q1 e2) rfl (Nat.le_of_ble_eq_true rfl) (Nat.le_of_ble_eq_true rfl) dX0_seek_2 ?_
  refine aw_aload_n E dX0_seek_5 0 rfl ?_
  refine aw_aload_n E dX0_seek_6 1 rfl ?_
  refine aw_getI E flX0_29 (Nat.le_of_ble_eq_true rfl) rfl rfl dX0_seek_7 ?_
  obtain ⟨M3, e4, h⟩ := lt_e h
  refine aw_putI1 e4 E flX0_35 (Nat.le_of_ble_eq_true rfl) rfl rfl nr_int dX0_seek_10 ?_
  refine aw_aload_n E dX0_seek_13 0 rfl ?_
  refine aw_getR (q := 38) E flX0_11 (Nat.le_of_ble_eq_true rfl) rfl rfl dX0_seek_14 ?_
  refine aw_iconst (v := 0) E dX0_seek_17 (by decide) ?_
  refine aw_lconst (v := 0) E dX0_seek_18 (by decide) ?_
  obtain ⟨g5, h⟩ := gi_e h
  obtain ⟨M6, e7, h⟩ := lt_e h
  refine aw_last1 e7 E (Nat.le_of_ble_eq_true rfl) rfl g5 dX0_seek_19 ?_
  refine aw_aload_n E dX0_seek_20 0 rfl ?_
  refine aw_getR (q := 39) E flX0_15 (Nat.le_of_ble_eq_true rfl) rfl rfl dX0_seek_21 ?_
  refine aw_iconst (v := 0) E dX0_seek_24 (by decide) ?_
  refine aw_aload_n E dX0_seek_25 1 rfl ?_
  refine aw_callVi (S := [.int 0, .ref (wad (WX g) 39)]) E mvX7_start mlX0_36 (Nat.le_of_ble_eq_true rfl) rfl rfl rfl (ctX7_start (yl Y) g   M6 ) rfl (Nat.le_of_ble_eq_true rfl) (Nat.le_of_ble_eq_true rfl) dX0_seek_26 ?_
  obtain ⟨g8, h⟩ := gi_e h
  obtain ⟨M9, e10, h⟩ := lt_e h
  refine aw_iast1 e10 E (Nat.le_of_ble_eq_true rfl) rfl g8 dX0_seek_29 ?_
  refine aw_aload_n E dX0_seek_30 0 rfl ?_
  refine aw_getR (q := 40) E flX0_19 (Nat.le_of_ble_eq_true rfl) rfl rfl dX0_seek_31 ?_
  refine aw_iconst (v := 0) E dX0_seek_34 (by decide) ?_
  refine aw_iconst (v := 0) E dX0_seek_35 (by decide) ?_
  obtain ⟨g11, h⟩ := gi_e h
  obtain ⟨M12, e13, h⟩ := lt_e h
  refine aw_iast1 e13 E (Nat.le_of_ble_eq_true rfl) rfl g11 dX0_seek_36 ?_
  refine aw_aload_n E dX0_seek_37 0 rfl ?_
  refine aw_iconst (v := 1) E dX0_seek_38 (by decide) ?_
  obtain ⟨M14, e15, h⟩ := lt_e h
  refine aw_putI1 e15 E flX0_40 (Nat.le_of_ble_eq_true rfl) rfl rfl nr_int dX0_seek_39 ?_
  refine aw_aload_n E dX0_seek_42 0 rfl ?_
  refine aw_aload_n E dX0_seek_43 1 rfl ?_
  refine aw_iconst (v := 0) E dX0_seek_44 (by decide) ?_
  refine aw_iload_n E dX0_seek_45 2 rfl ?_
  refine aw_iload_n E dX0_seek_46 3 rfl ?_
  obtain ⟨q16, e17, h⟩ := bd_e h
  refine aw_callVv (S := []) E mvX0_spread mlX0_43 (Nat.le_of_ble_eq_true rfl) rfl rfl rfl (ctX0_spread (yl Y) g 0 a2 a3  M14 q16 e17) rfl (Nat.le_of_ble_eq_true rfl) (Nat.le_of_ble_eq_true rfl) dX0_seek_47 ?_
  replace h := Option.some.inj h
  subst h
  exact aw_vret E dX0_seek_50 hr
def FX0_shared_L4 : Nat → Int32 → Int32 → Int32 → Mem → Option (Int32)
  | 0, _, _, _, _ => none
  | f + 1, p1, p2, p3, M =>
    if (M.1 37 4) ≤ p3 then
      some p2
    else
      gi p3 8192 <|
      ob (FX0_isRing (M.1 40 (Int32.toNatClampNeg p3)) p1 M) fun q102 =>
      if q102 = 0 then
        lt (α := Int32) (p3 + 1) fun x104 =>
        FX0_shared_L4 f p1 p2 x104 M
      else
        gi p3 8192 <|
        lt (α := Int32) (p2 &&& (M.1 40 (Int32.toNatClampNeg p3))) fun x107 =>
        lt (α := Int32) (p3 + 1) fun x109 =>
        FX0_shared_L4 f p1 x107 x109 M
def FX0_shared (a1 : Int32) (M : Mem) : Option (Int32) :=
  ob (FX0_shared_L4 FU a1 (-1) 0 M) fun q1 =>
  some q1
set_option maxHeartbeats 4000000 in
set_option maxRecDepth 100000 in
theorem lpX0_shared_4 {Y : CtxM} {g : CtxG} {r : Option Value × Mem} (E : EV Y (WX g) cX0_shared 4 (some .int) RX0) (p1 : Int32) : ∀ (f : Nat) (p2 : Int32) (p3 : Int32) (M : Mem) (q : Int32), FX0_shared_L4 f p1 p2 p3 M = some q → AW Y (WX g) r 4 3 41 [(2, .int q)] [] M → AW Y (WX g) r 4 3 4 [(0, .ref (wad (WX g) 37)), (1, .int p1), (2, .int p2), (3, .int p3)] [] M := by
  intro f
  induction f with
  | zero => intro p2 p3 M q hh; exact absurd hh (fun z => nomatch (show (none : Option (Int32)) = some q from z))
  | succ f ih =>
    intro p2 p3 M q hh kx
    rw [FX0_shared_L4] at hh
    refine aw_iload_n E dX0_shared_4 3 rfl ?_
    refine aw_aload_n E dX0_shared_5 0 rfl ?_
    refine aw_getI E flX0_40 (Nat.le_of_ble_eq_true rfl) rfl rfl dX0_shared_6 ?_
    refine aw_icmp_ge (tgt := 41) E dX0_shared_9 rfl (fun c9 => ?_) (fun c9 => ?_)
    ·
      replace hh := ip c9 hh
      refine aw_sub (L1 := [(2, .int p2)]) [2] rfl ?_
      replace hh := Option.some.inj hh
      subst hh
      exact kx
    ·
      replace hh := iq c9 hh
      refine aw_aload_n E dX0_shared_12 0 rfl ?_
      refine aw_aload_n E dX0_shared_13 0 rfl ?_
      refine aw_getR (q := 40) E flX0_19 (Nat.le_of_ble_eq_true rfl) rfl rfl dX0_shared_14 ?_
      refine aw_iload_n E dX0_shared_17 3 rfl ?_
      obtain ⟨g101, hh⟩ := gi_e hh
      refine aw_iald E (Nat.le_of_ble_eq_true rfl) rfl g101 dX0_shared_18 ?_
      refine aw_iload_n E dX0_shared_19 1 rfl ?_
      obtain ⟨q102, e103, hh⟩ := bd_e hh
      refine aw_callVi (S := []) E mvX0_isRing mlX0_47 (Nat.le_of_ble_eq_true rfl) rfl rfl rfl (ctX0_isRing (yl Y) g (M.1 40 (Int32.toNatClampNeg p3)) p1  M q102 e103) rfl (Nat.le_of_ble_eq_true rfl) (Nat.le_of_ble_eq_true rfl) dX0_shared_20 ?_
      refine aw_if_eq (tgt := 35) E dX0_shared_23 rfl (fun c23 => ?_) (fun c23 => ?_)
      ·
        replace hh := ip c23 hh
        obtain ⟨x104, e105, hh⟩ := lt_e hh
        refine aw_iinc (v := x104) (L1 := [(3, .int x104), (0, .ref (wad (WX g) 37)), (1, .int p1), (2, .int p2)]) E dX0_shared_35 3 rfl e105 (Nat.le_of_ble_eq_true rfl) rfl ?_
        refine aw_goto (tgt := 4) E dX0_shared_38 rfl ?_
        refine aw_sub (L1 := [(0, .ref (wad (WX g) 37)), (1, .int p1), (2, .int p2), (3, .int x104)]) [1, 2, 3, 0] rfl ?_
        exact ih p2 x104 M _ hh kx
      ·
        replace hh := iq c23 hh
        refine aw_iload_n E dX0_shared_26 2 rfl ?_
        refine aw_aload_n E dX0_shared_27 0 rfl ?_
        refine aw_getR (q := 40) E flX0_19 (Nat.le_of_ble_eq_true rfl) rfl rfl dX0_shared_28 ?_
        refine aw_iload_n E dX0_shared_31 3 rfl ?_
        obtain ⟨g106, hh⟩ := gi_e hh
        refine aw_iald E (Nat.le_of_ble_eq_true rfl) rfl g106 dX0_shared_32 ?_
        refine aw_iand E dX0_shared_33 ?_
        obtain ⟨x107, e108, hh⟩ := lt_e hh
        refine aw_nmI e108 ?_
        refine aw_istore_n (L1 := [(2, .int x107), (0, .ref (wad (WX g) 37)), (1, .int p1), (3, .int p3)]) E dX0_shared_34 (Nat.le_of_ble_eq_true rfl) rfl ?_
        obtain ⟨x109, e110, hh⟩ := lt_e hh
        refine aw_iinc (v := x109) (L1 := [(3, .int x109), (2, .int x107), (0, .ref (wad (WX g) 37)), (1, .int p1)]) E dX0_shared_35 3 rfl e110 (Nat.le_of_ble_eq_true rfl) rfl ?_
        refine aw_goto (tgt := 4) E dX0_shared_38 rfl ?_
        refine aw_sub (L1 := [(0, .ref (wad (WX g) 37)), (1, .int p1), (2, .int x107), (3, .int x109)]) [2, 3, 1, 0] rfl ?_
        exact ih x107 x109 M _ hh kx
set_option maxHeartbeats 4000000 in
set_option maxRecDepth 100000 in
theorem ctX0_shared (l : Launch) (g : CtxG) (a1 : Int32) (M : Mem) (r0 : Int32) (h : FX0_shared a1 M = some r0) : Ct l (WX g) yX0_shared cX0_shared 4 (some .int) 3 [.ref (wad (WX g) 37), .int a1] M (some (.int r0), M) := by
  refine Ct.of (by decide) (Nat.le_of_ble_eq_true rfl) (fun Y hY E => ?_)
  have E : EV Y (WX g) cX0_shared 4 (some .int) RX0 := E
  have h : FX0_shared a1 M = some r0 := h
  unfold FX0_shared at h
  show AW Y (WX g) _ 4 3 0 [(0, .ref (wad (WX g) 37)), (1, .int a1)] [] M
  obtain ⟨r, hr⟩ : ∃ r : Option Value × Mem, r = (some (.int r0), M) := ⟨_, rfl⟩
  rw [← hr]
  refine aw_iconst (v := (-1)) E dX0_shared_0 (by decide) ?_
  refine aw_istore_n (L1 := [(2, .int (-1)), (0, .ref (wad (WX g) 37)), (1, .int a1)]) E dX0_shared_1 (Nat.le_of_ble_eq_true rfl) rfl ?_
  refine aw_iconst (v := 0) E dX0_shared_2 (by decide) ?_
  refine aw_istore_n (L1 := [(3, .int 0), (2, .int (-1)), (0, .ref (wad (WX g) 37)), (1, .int a1)]) E dX0_shared_3 (Nat.le_of_ble_eq_true rfl) rfl ?_
  obtain ⟨q1, e2, h⟩ := bd_e h
  refine aw_sub (L1 := [(0, .ref (wad (WX g) 37)), (1, .int a1), (2, .int (-1)), (3, .int 0)]) [2, 3, 1, 0] rfl ?_
  refine lpX0_shared_4 E   a1 FU (-1) 0 M q1 e2 ?_
  refine aw_iload_n E dX0_shared_41 0 rfl ?_
  replace h := Option.some.inj h
  subst h
  exact aw_iret E dX0_shared_42 hr
def FX0_streetAt (a1 : Int32) (a2 : Int32) (M : Mem) : Option (Int32) :=
  gi a1 8192 <|
  some (((jlushr (M.2 38 (Int32.toNatClampNeg a1)) (48 - (4 * a2))).toInt32) &&& 15)
set_option maxHeartbeats 4000000 in
set_option maxRecDepth 100000 in
theorem ctX0_streetAt (l : Launch) (g : CtxG) (a1 : Int32) (a2 : Int32) (M : Mem) (r0 : Int32) (h : FX0_streetAt a1 a2 M = some r0) : Ct l (WX g) yX0_streetAt cX0_streetAt 3 (some .int) 1 [.ref (wad (WX g) 37), .int a1, .int a2] M (some (.int r0), M) := by
  refine Ct.of (by decide) (Nat.le_of_ble_eq_true rfl) (fun Y hY E => ?_)
  have E : EV Y (WX g) cX0_streetAt 3 (some .int) RX0 := E
  have h : FX0_streetAt a1 a2 M = some r0 := h
  unfold FX0_streetAt at h
  show AW Y (WX g) _ 3 1 0 [(0, .ref (wad (WX g) 37)), (1, .int a1), (2, .int a2)] [] M
  obtain ⟨r, hr⟩ : ∃ r : Option Value × Mem, r = (some (.int r0), M) := ⟨_, rfl⟩
  rw [← hr]
  refine aw_aload_n E dX0_streetAt_0 0 rfl ?_
  refine aw_getR (q := 38) E flX0_11 (Nat.le_of_ble_eq_true rfl) rfl rfl dX0_streetAt_1 ?_
  refine aw_iload_n E dX0_streetAt_4 1 rfl ?_
  obtain ⟨g1, h⟩ := gi_e h
  refine aw_lald E (Nat.le_of_ble_eq_true rfl) rfl g1 dX0_streetAt_5 ?_
  refine aw_bipush (v := 48) E dX0_streetAt_6 (by decide) ?_
  refine aw_iconst (v := 4) E dX0_streetAt_8 (by decide) ?_
  refine aw_iload_n E dX0_streetAt_9 2 rfl ?_
  refine aw_imul E dX0_streetAt_10 ?_
  refine aw_isub E dX0_streetAt_11 ?_
  refine aw_lushr (v := jlushr (M.2 38 (Int32.toNatClampNeg a1)) (48 - (4 * a2))) E dX0_streetAt_12 rfl ?_
  refine aw_l2i E dX0_streetAt_13 ?_
  refine aw_bipush (v := 15) E dX0_streetAt_14 (by decide) ?_
  refine aw_iand E dX0_streetAt_16 ?_
  replace h := Option.some.inj h
  subst h
  exact aw_iret E dX0_streetAt_17 hr
def FX4_begin  (M : Mem) : Option (Mem) :=
  lt (wr M 42 0 (FX7_start M)) fun M1 =>
  lt (wr M1 42 1 0) fun M3 =>
  lt (wr M3 42 2 0) fun M5 =>
  some M5
set_option maxHeartbeats 4000000 in
set_option maxRecDepth 100000 in
theorem ctX4_begin (l : Launch) (g : CtxG)  (M : Mem) (r0 : Mem) (h : FX4_begin M = some r0) : Ct l (WX g) yX4_begin cX4_begin 2 none 2 [.ref (wad (WX g) 42), .ref (wad (WX g) 31)] M (none, r0) := by
  refine Ct.of (by decide) (Nat.le_of_ble_eq_true rfl) (fun Y hY E => ?_)
  have E : EV Y (WX g) cX4_begin 2 none RX4 := E
  have h : FX4_begin  M = some r0 := h
  unfold FX4_begin at h
  show AW Y (WX g) _ 2 2 0 [(0, .ref (wad (WX g) 42)), (1, .ref (wad (WX g) 31))] [] M
  obtain ⟨r, hr⟩ : ∃ r : Option Value × Mem, r = (none, r0) := ⟨_, rfl⟩
  rw [← hr]
  refine aw_aload_n E dX4_begin_0 0 rfl ?_
  refine aw_aload_n E dX4_begin_1 1 rfl ?_
  refine aw_callVi (S := [.ref (wad (WX g) 42)]) E mvX7_start mlX4_7 (Nat.le_of_ble_eq_true rfl) rfl rfl rfl (ctX7_start (yl Y) g   M ) rfl (Nat.le_of_ble_eq_true rfl) (Nat.le_of_ble_eq_true rfl) dX4_begin_2 ?_
  obtain ⟨M1, e2, h⟩ := lt_e h
  refine aw_putI1 e2 E flX4_13 (Nat.le_of_ble_eq_true rfl) rfl rfl nr_int dX4_begin_5 ?_
  refine aw_aload_n E dX4_begin_8 0 rfl ?_
  refine aw_iconst (v := 0) E dX4_begin_9 (by decide) ?_
  obtain ⟨M3, e4, h⟩ := lt_e h
  refine aw_putI1 e4 E flX4_19 (Nat.le_of_ble_eq_true rfl) rfl rfl nr_int dX4_begin_10 ?_
  refine aw_aload_n E dX4_begin_13 0 rfl ?_
  refine aw_iconst (v := 0) E dX4_begin_14 (by decide) ?_
  obtain ⟨M5, e6, h⟩ := lt_e h
  refine aw_putI1 e6 E flX4_22 (Nat.le_of_ble_eq_true rfl) rfl rfl nr_int dX4_begin_15 ?_
  replace h := Option.some.inj h
  subst h
  exact aw_vret E dX4_begin_18 hr
def FX4_corner  (M : Mem) : Int32 :=
  FX7_at (M.1 42 0)
set_option maxHeartbeats 4000000 in
set_option maxRecDepth 100000 in
theorem ctX4_corner (l : Launch) (g : CtxG)  (M : Mem) : Ct l (WX g) yX4_corner cX4_corner 1 (some .int) 2 [.ref (wad (WX g) 42)] M (some (.int (FX4_corner M)), M) := by
  obtain ⟨r0, h⟩ : ∃ r0, FX4_corner M = r0 := ⟨_, rfl⟩
  rw [h]
  refine Ct.of (by decide) (Nat.le_of_ble_eq_true rfl) (fun Y hY E => ?_)
  have E : EV Y (WX g) cX4_corner 1 (some .int) RX4 := E
  --generalize hr : ((some (Value.int r0), M) : Option Value × Mem) = r
  have h : FX4_corner  M = r0 := h
  unfold FX4_corner at h
  show AW Y (WX g) _ 1 2 0 [(0, .ref (wad (WX g) 42))] [] M
  obtain ⟨r, hr⟩ : ∃ r : Option Value × Mem, r = (some (.int r0), M) := ⟨_, rfl⟩
  rw [← hr]
  refine aw_aload_n E dX4_corner_0 0 rfl ?_
  refine aw_getI E flX4_13 (Nat.le_of_ble_eq_true rfl) rfl rfl dX4_corner_1 ?_
  refine aw_callSi (S := []) E msX7_at mlX4_35 rfl (ctX7_at (yl Y) g (M.1 42 0)  M ) rfl (Nat.le_of_ble_eq_true rfl) (Nat.le_of_ble_eq_true rfl) dX4_corner_4 ?_
  subst h
  exact aw_iret E dX4_corner_7 hr
def FX4_go (a2 : Int32) (M : Mem) : Option (Mem) :=
  ob (FX7_minutes a2 (FX4_corner M) 0 M) fun q1 =>
  lt (wr M 42 1 ((M.1 42 1) + q1)) fun M3 =>
  ob (FX7_after (M3.1 42 0) a2 M3) fun q5 =>
  lt (wr M3 42 0 q5) fun M7 =>
  lt (wr M7 42 2 ((M7.1 42 2) + 1)) fun M9 =>
  some M9
set_option maxHeartbeats 4000000 in
set_option maxRecDepth 100000 in
theorem ctX4_go (l : Launch) (g : CtxG) (a2 : Int32) (M : Mem) (r0 : Mem) (h : FX4_go a2 M = some r0) : Ct l (WX g) yX4_go cX4_go 3 none 3 [.ref (wad (WX g) 42), .ref (wad (WX g) 31), .int a2] M (none, r0) := by
  refine Ct.of (by decide) (Nat.le_of_ble_eq_true rfl) (fun Y hY E => ?_)
  have E : EV Y (WX g) cX4_go 3 none RX4 := E
  have h : FX4_go a2 M = some r0 := h
  unfold FX4_go at h
  show AW Y (WX g) _ 3 3 0 [(0, .ref (wad (WX g) 42)), (1, .ref (wad (WX g) 31)), (2, .int a2)] [] M
  obtain ⟨r, hr⟩ : ∃ r : Option Value × Mem, r = (none, r0) := ⟨_, rfl⟩
  rw [← hr]
  refine aw_aload_n E dX4_go_0 0 rfl ?_
  refine aw_dup E dX4_go_1 rfl ?_
  refine aw_getI E flX4_19 (Nat.le_of_ble_eq_true rfl) rfl rfl dX4_go_2 ?_
  refine aw_aload_n E dX4_go_5 1 rfl ?_
  refine aw_iload_n E dX4_go_6 2 rfl ?_
  refine aw_aload_n E dX4_go_7 0 rfl ?_
  refine aw_callVi (S := [.int a2, .ref (wad (WX g) 31), .int (M.1 42 1), .ref (wad (WX g) 42)]) E mvX4_corner mlX4_25 (Nat.le_of_ble_eq_true rfl) rfl rfl rfl (ctX4_corner (yl Y) g   M ) rfl (Nat.le_of_ble_eq_true rfl) (Nat.le_of_ble_eq_true rfl) dX4_go_8 ?_
  refine aw_iconst (v := 0) E dX4_go_11 (by decide) ?_
  obtain ⟨q1, e2, h⟩ := bd_e h
  refine aw_callVi (S := [.int (M.1 42 1), .ref (wad (WX g) 42)]) E mvX7_minutes mlX4_28 (Nat.le_of_ble_eq_true rfl) rfl rfl rfl (ctX7_minutes (yl Y) g a2 (FX4_corner M) 0  M q1 e2) rfl (Nat.le_of_ble_eq_true rfl) (Nat.le_of_ble_eq_true rfl) dX4_go_12 ?_
  refine aw_iadd E dX4_go_15 ?_
  obtain ⟨M3, e4, h⟩ := lt_e h
  refine aw_putI1 e4 E flX4_19 (Nat.le_of_ble_eq_true rfl) rfl rfl nr_int dX4_go_16 ?_
  refine aw_aload_n E dX4_go_19 0 rfl ?_
  refine aw_aload_n E dX4_go_20 1 rfl ?_
  refine aw_aload_n E dX4_go_21 0 rfl ?_
  refine aw_getI E flX4_13 (Nat.le_of_ble_eq_true rfl) rfl rfl dX4_go_22 ?_
  refine aw_iload_n E dX4_go_25 2 rfl ?_
  obtain ⟨q5, e6, h⟩ := bd_e h
  refine aw_callVi (S := [.ref (wad (WX g) 42)]) E mvX7_after mlX4_31 (Nat.le_of_ble_eq_true rfl) rfl rfl rfl (ctX7_after (yl Y) g (M3.1 42 0) a2  M3 q5 e6) rfl (Nat.le_of_ble_eq_true rfl) (Nat.le_of_ble_eq_true rfl) dX4_go_26 ?_
  obtain ⟨M7, e8, h⟩ := lt_e h
  refine aw_putI1 e8 E flX4_13 (Nat.le_of_ble_eq_true rfl) rfl rfl nr_int dX4_go_29 ?_
  refine aw_aload_n E dX4_go_32 0 rfl ?_
  refine aw_dup E dX4_go_33 rfl ?_
  refine aw_getI E flX4_22 (Nat.le_of_ble_eq_true rfl) rfl rfl dX4_go_34 ?_
  refine aw_iconst (v := 1) E dX4_go_37 (by decide) ?_
  refine aw_iadd E dX4_go_38 ?_
  obtain ⟨M9, e10, h⟩ := lt_e h
  refine aw_putI1 e10 E flX4_22 (Nat.le_of_ble_eq_true rfl) rfl rfl nr_int dX4_go_39 ?_
  replace h := Option.some.inj h
  subst h
  exact aw_vret E dX4_go_42 hr
