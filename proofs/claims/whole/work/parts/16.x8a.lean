/-! PRINTED by wip/gen: pure functions of the methods, and that the machine does what they say -/
def FX8_areCorners (a0 : Int32) : Int32 :=
  lt (α := Bool) (if a0 < 0 then false else if 511 < a0 then false else true) fun b1 =>
  if b1 = true then
    1
  else
    0
set_option maxHeartbeats 4000000 in
set_option maxRecDepth 100000 in
theorem ctX8_areCorners (l : Launch) (g : CtxG) (a0 : Int32) (M : Mem) : Ct l (WX g) yX8_areCorners cX8_areCorners 1 (some .boolean) 1 [.int a0] M (some (.int (FX8_areCorners a0)), M) := by
  obtain ⟨r0, h⟩ : ∃ r0, FX8_areCorners a0 = r0 := ⟨_, rfl⟩
  rw [h]
  refine Ct.of (by decide) (Nat.le_of_ble_eq_true rfl) (fun Y hY E => ?_)
  have E : EV Y (WX g) cX8_areCorners 1 (some .boolean) RX8 := E
  --generalize hr : ((some (Value.int r0), M) : Option Value × Mem) = r
  have h : FX8_areCorners a0 = r0 := h
  unfold FX8_areCorners at h
  show AW Y (WX g) _ 1 1 0 [(0, .int a0)] [] M
  obtain ⟨r, hr⟩ : ∃ r : Option Value × Mem, r = (some (.int r0), M) := ⟨_, rfl⟩
  rw [← hr]
  refine aw_iload_n E dX8_areCorners_0 0 rfl ?_
  obtain ⟨b1, e2, h⟩ := lt_e h
  have J3 : b1 = true → AW Y (WX g) r 1 1 11 [(0, .int a0)] [] M := fun hb => by
    replace h := ip hb h
    refine aw_iconst (v := 1) E dX8_areCorners_11 (by decide) ?_
    refine aw_goto (tgt := 16) E dX8_areCorners_12 rfl ?_
    subst h
    exact aw_zret E (by decide) dX8_areCorners_16 hr
  have J4 : b1 = false → AW Y (WX g) r 1 1 15 [(0, .int a0)] [] M := fun hb => by
    replace h := iq (bf hb) h
    refine aw_iconst (v := 0) E dX8_areCorners_15 (by decide) ?_
    subst h
    exact aw_zret E (by decide) dX8_areCorners_16 hr
  refine aw_if_lt (tgt := 15) E dX8_areCorners_1 rfl (fun c1 => ?_) (fun c1 => ?_)
  ·
    replace e2 := ip c1 e2
    subst e2
    exact J4 rfl
  ·
    replace e2 := iq c1 e2
    refine aw_iload_n E dX8_areCorners_4 0 rfl ?_
    refine aw_sipush (v := 511) E dX8_areCorners_5 (by decide) ?_
    refine aw_icmp_gt (tgt := 15) E dX8_areCorners_8 rfl (fun c8 => ?_) (fun c8 => ?_)
    ·
      replace e2 := ip c8 e2
      subst e2
      exact J4 rfl
    ·
      replace e2 := iq c8 e2
      subst e2
      exact J3 rfl
def FX8_isStreet (a1 : Int32) (M : Mem) : Int32 :=
  lt (α := Bool) (if a1 < 0 then false else if (M.1 1 4) ≤ a1 then false else true) fun b1 =>
  if b1 = true then
    1
  else
    0
set_option maxHeartbeats 4000000 in
set_option maxRecDepth 100000 in
theorem ctX8_isStreet (l : Launch) (g : CtxG) (a1 : Int32) (M : Mem) : Ct l (WX g) yX8_isStreet cX8_isStreet 2 (some .boolean) 1 [.ref (wad (WX g) 0), .int a1] M (some (.int (FX8_isStreet a1 M)), M) := by
  obtain ⟨r0, h⟩ : ∃ r0, FX8_isStreet a1 M = r0 := ⟨_, rfl⟩
  rw [h]
  refine Ct.of (by decide) (Nat.le_of_ble_eq_true rfl) (fun Y hY E => ?_)
  have E : EV Y (WX g) cX8_isStreet 2 (some .boolean) RX8 := E
  --generalize hr : ((some (Value.int r0), M) : Option Value × Mem) = r
  have h : FX8_isStreet a1 M = r0 := h
  unfold FX8_isStreet at h
  show AW Y (WX g) _ 2 1 0 [(0, .ref (wad (WX g) 0)), (1, .int a1)] [] M
  obtain ⟨r, hr⟩ : ∃ r : Option Value × Mem, r = (some (.int r0), M) := ⟨_, rfl⟩
  rw [← hr]
  refine aw_iload_n E dX8_isStreet_0 1 rfl ?_
  obtain ⟨b1, e2, h⟩ := lt_e h
  have J3 : b1 = true → AW Y (WX g) r 2 1 15 [(0, .ref (wad (WX g) 0)), (1, .int a1)] [] M := fun hb => by
    replace h := ip hb h
    refine aw_iconst (v := 1) E dX8_isStreet_15 (by decide) ?_
    refine aw_goto (tgt := 20) E dX8_isStreet_16 rfl ?_
    subst h
    exact aw_zret E (by decide) dX8_isStreet_20 hr
  have J4 : b1 = false → AW Y (WX g) r 2 1 19 [(0, .ref (wad (WX g) 0)), (1, .int a1)] [] M := fun hb => by
    replace h := iq (bf hb) h
    refine aw_iconst (v := 0) E dX8_isStreet_19 (by decide) ?_
    subst h
    exact aw_zret E (by decide) dX8_isStreet_20 hr
  refine aw_if_lt (tgt := 19) E dX8_isStreet_1 rfl (fun c1 => ?_) (fun c1 => ?_)
  ·
    replace e2 := ip c1 e2
    subst e2
    exact J4 rfl
  ·
    replace e2 := iq c1 e2
    refine aw_iload_n E dX8_isStreet_4 1 rfl ?_
    refine aw_aload_n E dX8_isStreet_5 0 rfl ?_
    refine aw_getR (q := 1) E flX8_12 (Nat.le_of_ble_eq_true rfl) rfl rfl dX8_isStreet_6 ?_
    refine aw_getI E flX8_111 (Nat.le_of_ble_eq_true rfl) rfl rfl dX8_isStreet_9 ?_
    refine aw_icmp_ge (tgt := 19) E dX8_isStreet_12 rfl (fun c12 => ?_) (fun c12 => ?_)
    ·
      replace e2 := ip c12 e2
      subst e2
      exact J4 rfl
    ·
      replace e2 := iq c12 e2
      subst e2
      exact J3 rfl
def FX8_asks (a1 : Int32) (a2 : Int32) (a3 : Int32) (M : Mem) : Option (Int32 × Mem) :=
  ob (α := Bool) (if (FX8_isStreet a1 M) = 0 then
    some true
  else
    ob (FX3_endsAt a1 a2 M) fun q17 =>
    if q17 = 0 then some true else some false) fun b1 =>
  if b1 = true then
    some ((-5), M)
  else
    lt (α := Bool) (if a3 < 0 then true else if a3 ≤ 3 then false else true) fun b5 =>
    if b5 = true then
      some ((-7), M)
    else
      ob (FX7_lay 1 M) fun q9 =>
      lt (α := Int32) (a3 &&& 1) fun x11 =>
      if 2 ≤ a3 then
        ob (FX7_minutes a1 a2 x11 q9) fun q13 =>
        some (q13, q9)
      else
        ob (FX7_open a2 x11 q9) fun q15 =>
        some ((q15 >>> (a1 &&& 31)) &&& 1, q9)
set_option maxHeartbeats 4000000 in
set_option maxRecDepth 100000 in
theorem ctX8_asks (l : Launch) (g : CtxG) (a1 : Int32) (a2 : Int32) (a3 : Int32) (M : Mem) (r0 : Int32 × Mem) (h : FX8_asks a1 a2 a3 M = some r0) : Ct l (WX g) yX8_asks cX8_asks 5 (some .int) 5 [.ref (wad (WX g) 0), .int a1, .int a2, .int a3] M (some (.int r0.1), r0.2) := by
  refine Ct.of (by decide) (Nat.le_of_ble_eq_true rfl) (fun Y hY E => ?_)
  have E : EV Y (WX g) cX8_asks 5 (some .int) RX8 := E
  have h : FX8_asks a1 a2 a3 M = some r0 := h
  unfold FX8_asks at h
  show AW Y (WX g) _ 5 5 0 [(0, .ref (wad (WX g) 0)), (1, .int a1), (2, .int a2), (3, .int a3)] [] M
  obtain ⟨r, hr⟩ : ∃ r : Option Value × Mem, r = (some (.int r0.1), r0.2) := ⟨_, rfl⟩
  rw [← hr]
  refine aw_aload_n E dX8_asks_0 0 rfl ?_
  refine aw_iload_n E dX8_asks_1 1 rfl ?_
  refine aw_callVi (S := []) E mvX8_isStreet mlX8_136 (Nat.le_of_ble_eq_true rfl) rfl rfl rfl (ctX8_isStreet (yl Y) g a1  M ) rfl (Nat.le_of_ble_eq_true rfl) (Nat.le_of_ble_eq_true rfl) dX8_asks_2 ?_
  obtain ⟨b1, e2, h⟩ := bd_e h
  have J3 : b1 = true → AW Y (WX g) r 5 5 20 [(0, .ref (wad (WX g) 0)), (1, .int a1), (2, .int a2), (3, .int a3)] [] M := fun hb => by
    replace h := ip hb h
    refine aw_bipush (v := (-5)) E dX8_asks_20 (by decide) ?_
    replace h := Option.some.inj h
    subst h
    exact aw_iret E dX8_asks_22 hr
  have J4 : b1 = false → AW Y (WX g) r 5 5 23 [(0, .ref (wad (WX g) 0)), (1, .int a1), (2, .int a2), (3, .int a3)] [] M := fun hb => by
    replace h := iq (bf hb) h
    refine aw_iload_n E dX8_asks_23 3 rfl ?_
    obtain ⟨b5, e6, h⟩ := lt_e h
    have J7 : b5 = true → AW Y (WX g) r 5 5 32 [(0, .ref (wad (WX g) 0)), (1, .int a1), (2, .int a2), (3, .int a3)] [] M := fun hb => by
      replace h := ip hb h
      refine aw_bipush (v := (-7)) E dX8_asks_32 (by decide) ?_
      replace h := Option.some.inj h
      subst h
      exact aw_iret E dX8_asks_34 hr
    have J8 : b5 = false → AW Y (WX g) r 5 5 35 [(0, .ref (wad (WX g) 0)), (1, .int a1), (2, .int a2), (3, .int a3)] [] M := fun hb => by
      replace h := iq (bf hb) h
      refine aw_aload_n E dX8_asks_35 0 rfl ?_
      refine aw_getR (q := 31) E flX8_46 (Nat.le_of_ble_eq_true rfl) rfl rfl dX8_asks_36 ?_
      refine aw_aload_n E dX8_asks_39 0 rfl ?_
      refine aw_getR (q := 1) E flX8_12 (Nat.le_of_ble_eq_true rfl) rfl rfl dX8_asks_40 ?_
      refine aw_aload_n E dX8_asks_43 0 rfl ?_
      refine aw_getR (q := 4) E flX8_25 (Nat.le_of_ble_eq_true rfl) rfl rfl dX8_asks_44 ?_
      refine aw_aload_n E dX8_asks_47 0 rfl ?_
      refine aw_getR (q := 14) E flX8_39 (Nat.le_of_ble_eq_true rfl) rfl rfl dX8_asks_48 ?_
      obtain ⟨q9, e10, h⟩ := bd_e h
      refine aw_callVv (S := []) E mvX7_lay mlX8_163 (Nat.le_of_ble_eq_true rfl) rfl rfl rfl (ctX7_lay (yl Y) g 1 set1 M q9 e10) rfl (Nat.le_of_ble_eq_true rfl) (Nat.le_of_ble_eq_true rfl) dX8_asks_51 ?_
      refine aw_iload_n E dX8_asks_54 3 rfl ?_
      refine aw_iconst (v := 1) E dX8_asks_55 (by decide) ?_
      refine aw_iand E dX8_asks_56 ?_
      obtain ⟨x11, e12, h⟩ := lt_e h
      refine aw_nmI e12 ?_
      refine aw_istore (L1 := [(4, .int x11), (0, .ref (wad (WX g) 0)), (1, .int a1), (2, .int a2), (3, .int a3)]) E dX8_asks_57 (Nat.le_of_ble_eq_true rfl) rfl ?_
      refine aw_iload_n E dX8_asks_59 4 rfl ?_
      refine aw_iconst (v := 2) E dX8_asks_60 (by decide) ?_
      refine aw_icmp_ge (tgt := 81) E dX8_asks_61 rfl (fun c61 => ?_) (fun c61 => ?_)
      ·
        replace h := ip c61 h
        refine aw_aload_n E dX8_asks_81 1 rfl ?_
        refine aw_getR (q := 31) E flX8_46 (Nat.le_of_ble_eq_true rfl) rfl rfl dX8_asks_82 ?_
        refine aw_iload_n E dX8_asks_85 2 rfl ?_
        refine aw_iload_n E dX8_asks_86 3 rfl ?_
        refine aw_iload E dX8_asks_87 0 rfl ?_
        obtain ⟨q13, e14, h⟩ := bd_e h
        refine aw_callVi (S := []) E mvX7_minutes mlX8_170 (Nat.le_of_ble_eq_true rfl) rfl rfl rfl (ctX7_minutes (yl Y) g a1 a2 x11  q9 q13 e14) rfl (Nat.le_of_ble_eq_true rfl) (Nat.le_of_ble_eq_true rfl) dX8_asks_89 ?_
        replace h := Option.some.inj h
        subst h
        exact aw_iret E dX8_asks_92 hr
      ·
        replace h := iq c61 h
        refine aw_aload_n E dX8_asks_64 1 rfl ?_
        refine aw_getR (q := 31) E flX8_46 (Nat.le_of_ble_eq_true rfl) rfl rfl dX8_asks_65 ?_
        refine aw_iload_n E dX8_asks_68 3 rfl ?_
        refine aw_iload E dX8_asks_69 0 rfl ?_
        obtain ⟨q15, e16, h⟩ := bd_e h
        refine aw_callVi (S := []) E mvX7_open mlX8_167 (Nat.le_of_ble_eq_true rfl) rfl rfl rfl (ctX7_open (yl Y) g a2 x11  q9 q15 e16) rfl (Nat.le_of_ble_eq_true rfl) (Nat.le_of_ble_eq_true rfl) dX8_asks_71 ?_
        refine aw_iload_n E dX8_asks_74 2 rfl ?_
        refine aw_ishr E dX8_asks_75 ?_
        refine aw_iconst (v := 1) E dX8_asks_76 (by decide) ?_
        refine aw_iand E dX8_asks_77 ?_
        refine aw_goto (tgt := 92) E dX8_asks_78 rfl ?_
        replace h := Option.some.inj h
        subst h
        exact aw_iret E dX8_asks_92 hr
    refine aw_if_lt (tgt := 32) E dX8_asks_24 rfl (fun c24 => ?_) (fun c24 => ?_)
    ·
      replace e6 := ip c24 e6
      subst e6
      exact J7 rfl
    ·
      replace e6 := iq c24 e6
      refine aw_iload_n E dX8_asks_27 3 rfl ?_
      refine aw_iconst (v := 3) E dX8_asks_28 (by decide) ?_
      refine aw_icmp_le (tgt := 35) E dX8_asks_29 rfl (fun c29 => ?_) (fun c29 => ?_)
      ·
        replace e6 := ip c29 e6
        subst e6
        exact J8 rfl
      ·
        replace e6 := iq c29 e6
        subst e6
        exact J7 rfl
  refine aw_if_eq (tgt := 20) E dX8_asks_5 rfl (fun c5 => ?_) (fun c5 => ?_)
  ·
    replace e2 := ip c5 e2
    replace e2 := Option.some.inj e2
    subst e2
    exact J3 rfl
  ·
    replace e2 := iq c5 e2
    refine aw_aload_n E dX8_asks_8 0 rfl ?_
    refine aw_getR (q := 4) E flX8_25 (Nat.le_of_ble_eq_true rfl) rfl rfl dX8_asks_9 ?_
    refine aw_iload_n E dX8_asks_12 1 rfl ?_
    refine aw_iload_n E dX8_asks_13 2 rfl ?_
    obtain ⟨q17, e18, e2⟩ := bd_e e2
    refine aw_callVi (S := []) E mvX3_endsAt mlX8_159 (Nat.le_of_ble_eq_true rfl) rfl rfl rfl (ctX3_endsAt (yl Y) g a1 a2  M q17 e18) rfl (Nat.le_of_ble_eq_true rfl) (Nat.le_of_ble_eq_true rfl) dX8_asks_14 ?_
    refine aw_if_ne (tgt := 23) E dX8_asks_17 rfl (fun c17 => ?_) (fun c17 => ?_)
    ·
      replace e2 := iq c17 e2
      replace e2 := Option.some.inj e2
      subst e2
      exact J4 rfl
    ·
      replace e2 := ip c17 e2
      replace e2 := Option.some.inj e2
      subst e2
      exact J3 rfl
def FX8_back  (M : Mem) : Option (Int32 × Mem) :=
  if (M.1 0 3) = 0 then
    some ((-3), M)
  else
    ob (FX1_take 1 2 M) fun q1 =>
    some (q1.1 1 4, q1)
set_option maxHeartbeats 4000000 in
set_option maxRecDepth 100000 in
theorem ctX8_back (l : Launch) (g : CtxG)  (M : Mem) (r0 : Int32 × Mem) (h : FX8_back M = some r0) : Ct l (WX g) yX8_back cX8_back 1 (some .int) 2 [.ref (wad (WX g) 0)] M (some (.int r0.1), r0.2) := by
  refine Ct.of (by decide) (Nat.le_of_ble_eq_true rfl) (fun Y hY E => ?_)
  have E : EV Y (WX g) cX8_back 1 (some .int) RX8 := E
  have h : FX8_back  M = some r0 := h
  unfold FX8_back at h
  show AW Y (WX g) _ 1 2 0 [(0, .ref (wad (WX g) 0))] [] M
  obtain ⟨r, hr⟩ : ∃ r : Option Value × Mem, r = (some (.int r0.1), r0.2) := ⟨_, rfl⟩
  rw [← hr]
  refine aw_aload_n E dX8_back_0 0 rfl ?_
  refine aw_getI E flX8_132 (Nat.le_of_ble_eq_true rfl) rfl rfl dX8_back_1 ?_
  refine aw_if_ne (tgt := 10) E dX8_back_4 rfl (fun c4 => ?_) (fun c4 => ?_)
  ·
    replace h := iq c4 h
    refine aw_aload_n E dX8_back_10 0 rfl ?_
    refine aw_getR (q := 1) E flX8_12 (Nat.le_of_ble_eq_true rfl) rfl rfl dX8_back_11 ?_
    refine aw_aload_n E dX8_back_14 0 rfl ?_
    refine aw_getR (q := 2) E flX8_16 (Nat.le_of_ble_eq_true rfl) rfl rfl dX8_back_15 ?_
    obtain ⟨q1, e2, h⟩ := bd_e h
    refine aw_callVv (S := []) E mvX1_take mlX8_212 (Nat.le_of_ble_eq_true rfl) rfl rfl rfl (ctX1_take (yl Y) g 1 2 set1 set2 M q1 e2) rfl (Nat.le_of_ble_eq_true rfl) (Nat.le_of_ble_eq_true rfl) dX8_back_18 ?_
    refine aw_aload_n E dX8_back_21 0 rfl ?_
    refine aw_getR (q := 1) E flX8_12 (Nat.le_of_ble_eq_true rfl) rfl rfl dX8_back_22 ?_
    refine aw_getI E flX8_111 (Nat.le_of_ble_eq_true rfl) rfl rfl dX8_back_25 ?_
    replace h := Option.some.inj h
    subst h
    exact aw_iret E dX8_back_28 hr
  ·
    replace h := ip c4 h
    refine aw_bipush (v := (-3)) E dX8_back_7 (by decide) ?_
    replace h := Option.some.inj h
    subst h
    exact aw_iret E dX8_back_9 hr
def FX8_isCorner (a0 : Int32) : Int32 :=
  lt (α := Bool) (if a0 < 0 then false else if 9 ≤ a0 then false else true) fun b1 =>
  if b1 = true then
    1
  else
    0
set_option maxHeartbeats 4000000 in
set_option maxRecDepth 100000 in
theorem ctX8_isCorner (l : Launch) (g : CtxG) (a0 : Int32) (M : Mem) : Ct l (WX g) yX8_isCorner cX8_isCorner 1 (some .boolean) 1 [.int a0] M (some (.int (FX8_isCorner a0)), M) := by
  obtain ⟨r0, h⟩ : ∃ r0, FX8_isCorner a0 = r0 := ⟨_, rfl⟩
  rw [h]
  refine Ct.of (by decide) (Nat.le_of_ble_eq_true rfl) (fun Y hY E => ?_)
  have E : EV Y (WX g) cX8_isCorner 1 (some .boolean) RX8 := E
  --generalize hr : ((some (Value.int r0), M) : Option Value × Mem) = r
  have h : FX8_isCorner a0 = r0 := h
  unfold FX8_isCorner at h
  show AW Y (WX g) _ 1 1 0 [(0, .int a0)] [] M
  obtain ⟨r, hr⟩ : ∃ r : Option Value × Mem, r = (some (.int r0), M) := ⟨_, rfl⟩
  rw [← hr]
  refine aw_iload_n E dX8_isCorner_0 0 rfl ?_
  obtain ⟨b1, e2, h⟩ := lt_e h
  have J3 : b1 = true → AW Y (WX g) r 1 1 10 [(0, .int a0)] [] M := fun hb => by
    replace h := ip hb h
    refine aw_iconst (v := 1) E dX8_isCorner_10 (by decide) ?_
    refine aw_goto (tgt := 15) E dX8_isCorner_11 rfl ?_
    subst h
    exact aw_zret E (by decide) dX8_isCorner_15 hr
  have J4 : b1 = false → AW Y (WX g) r 1 1 14 [(0, .int a0)] [] M := fun hb => by
    replace h := iq (bf hb) h
    refine aw_iconst (v := 0) E dX8_isCorner_14 (by decide) ?_
    subst h
    exact aw_zret E (by decide) dX8_isCorner_15 hr
  refine aw_if_lt (tgt := 14) E dX8_isCorner_1 rfl (fun c1 => ?_) (fun c1 => ?_)
  ·
    replace e2 := ip c1 e2
    subst e2
    exact J4 rfl
  ·
    replace e2 := iq c1 e2
    refine aw_iload_n E dX8_isCorner_4 0 rfl ?_
    refine aw_bipush (v := 9) E dX8_isCorner_5 (by decide) ?_
    refine aw_icmp_ge (tgt := 14) E dX8_isCorner_7 rfl (fun c7 => ?_) (fun c7 => ?_)
    ·
      replace e2 := ip c7 e2
      subst e2
      exact J4 rfl
    ·
      replace e2 := iq c7 e2
      subst e2
      exact J3 rfl
def FX8_isAway (a1 : Int32) (M : Mem) : Int32 :=
  lt (α := Bool) (if (FX8_isCorner a1) = 0 then false else if a1 = (M.1 1 0) then false else true) fun b1 =>
  if b1 = true then
    1
  else
    0
set_option maxHeartbeats 4000000 in
set_option maxRecDepth 100000 in
theorem ctX8_isAway (l : Launch) (g : CtxG) (a1 : Int32) (M : Mem) : Ct l (WX g) yX8_isAway cX8_isAway 2 (some .boolean) 2 [.ref (wad (WX g) 0), .int a1] M (some (.int (FX8_isAway a1 M)), M) := by
  obtain ⟨r0, h⟩ : ∃ r0, FX8_isAway a1 M = r0 := ⟨_, rfl⟩
  rw [h]
  refine Ct.of (by decide) (Nat.le_of_ble_eq_true rfl) (fun Y hY E => ?_)
  have E : EV Y (WX g) cX8_isAway 2 (some .boolean) RX8 := E
  --generalize hr : ((some (Value.int r0), M) : Option Value × Mem) = r
  have h : FX8_isAway a1 M = r0 := h
  unfold FX8_isAway at h
  show AW Y (WX g) _ 2 2 0 [(0, .ref (wad (WX g) 0)), (1, .int a1)] [] M
  obtain ⟨r, hr⟩ : ∃ r : Option Value × Mem, r = (some (.int r0), M) := ⟨_, rfl⟩
  rw [← hr]
  refine aw_iload_n E dX8_isAway_0 1 rfl ?_
  refine aw_callSi (S := []) E msX8_isCorner mlX8_126 rfl (ctX8_isCorner (yl Y) g a1  M ) rfl (Nat.le_of_ble_eq_true rfl) (Nat.le_of_ble_eq_true rfl) dX8_isAway_1 ?_
  obtain ⟨b1, e2, h⟩ := lt_e h
  have J3 : b1 = true → AW Y (WX g) r 2 2 18 [(0, .ref (wad (WX g) 0)), (1, .int a1)] [] M := fun hb => by
    replace h := ip hb h
    refine aw_iconst (v := 1) E dX8_isAway_18 (by decide) ?_
    refine aw_goto (tgt := 23) E dX8_isAway_19 rfl ?_
    subst h
    exact aw_zret E (by decide) dX8_isAway_23 hr
  have J4 : b1 = false → AW Y (WX g) r 2 2 22 [(0, .ref (wad (WX g) 0)), (1, .int a1)] [] M := fun hb => by
    replace h := iq (bf hb) h
    refine aw_iconst (v := 0) E dX8_isAway_22 (by decide) ?_
    subst h
    exact aw_zret E (by decide) dX8_isAway_23 hr
  refine aw_if_eq (tgt := 22) E dX8_isAway_4 rfl (fun c4 => ?_) (fun c4 => ?_)
  ·
    replace e2 := ip c4 e2
    subst e2
    exact J4 rfl
  ·
    replace e2 := iq c4 e2
    refine aw_iload_n E dX8_isAway_7 1 rfl ?_
    refine aw_aload_n E dX8_isAway_8 0 rfl ?_
    refine aw_getR (q := 1) E flX8_12 (Nat.le_of_ble_eq_true rfl) rfl rfl dX8_isAway_9 ?_
    refine aw_getI E flX8_105 (Nat.le_of_ble_eq_true rfl) rfl rfl dX8_isAway_12 ?_
    refine aw_icmp_eq (tgt := 22) E dX8_isAway_15 rfl (fun c15 => ?_) (fun c15 => ?_)
    ·
      replace e2 := ip c15 e2
      subst e2
      exact J4 rfl
    ·
      replace e2 := iq c15 e2
      subst e2
      exact J3 rfl
def FX8_look (a1 : Nat) (a2 : Int32) (a3 : Int32) (M : Mem) : Option (Mem) :=
  ob (FX7_lay a1 M) fun q1 =>
  ob (FX0_seek a2 a3 q1) fun q3 =>
  some q3
set_option maxHeartbeats 4000000 in
set_option maxRecDepth 100000 in
theorem ctX8_look (l : Launch) (g : CtxG) (a1 : Nat) (a2 : Int32) (a3 : Int32) (hd1 : isSet a1) (M : Mem) (r0 : Mem) (h : FX8_look a1 a2 a3 M = some r0) : Ct l (WX g) yX8_look cX8_look 4 none 5 [.ref (wad (WX g) 0), .ref (wad (WX g) a1), .int a2, .int a3] M (none, r0) := by
  refine Ct.of (by decide) (Nat.le_of_ble_eq_true rfl) (fun Y hY E => ?_)
  have E : EV Y (WX g) cX8_look 4 none RX8 := E
  have h : FX8_look a1 a2 a3 M = some r0 := h
  unfold FX8_look at h
  show AW Y (WX g) _ 4 5 0 [(0, .ref (wad (WX g) 0)), (1, .ref (wad (WX g) a1)), (2, .int a2), (3, .int a3)] [] M
  obtain ⟨r, hr⟩ : ∃ r : Option Value × Mem, r = (none, r0) := ⟨_, rfl⟩
  rw [← hr]
  refine aw_aload_n E dX8_look_0 0 rfl ?_
  refine aw_getR (q := 31) E flX8_46 (Nat.le_of_ble_eq_true rfl) rfl rfl dX8_look_1 ?_
  refine aw_aload_n E dX8_look_4 1 rfl ?_
  refine aw_aload_n E dX8_look_5 0 rfl ?_
  refine aw_getR (q := 4) E flX8_25 (Nat.le_of_ble_eq_true rfl) rfl rfl dX8_look_6 ?_
  refine aw_aload_n E dX8_look_9 0 rfl ?_
  refine aw_getR (q := 14) E flX8_39 (Nat.le_of_ble_eq_true rfl) rfl rfl dX8_look_10 ?_
  obtain ⟨q1, e2, h⟩ := bd_e h
  refine aw_callVv (S := []) E mvX7_lay mlX8_163 (Nat.le_of_ble_eq_true rfl) rfl rfl rfl (ctX7_lay (yl Y) g a1 hd1 M q1 e2) rfl (Nat.le_of_ble_eq_true rfl) (Nat.le_of_ble_eq_true rfl) dX8_look_13 ?_
  refine aw_aload_n E dX8_look_16 0 rfl ?_
  refine aw_getR (q := 37) E flX8_53 (Nat.le_of_ble_eq_true rfl) rfl rfl dX8_look_17 ?_
  refine aw_aload_n E dX8_look_20 0 rfl ?_
  refine aw_getR (q := 31) E flX8_46 (Nat.le_of_ble_eq_true rfl) rfl rfl dX8_look_21 ?_
  refine aw_iload_n E dX8_look_24 2 rfl ?_
  refine aw_iload_n E dX8_look_25 3 rfl ?_
  obtain ⟨q3, e4, h⟩ := bd_e h
  refine aw_callVv (S := []) E mvX0_seek mlX8_301 (Nat.le_of_ble_eq_true rfl) rfl rfl rfl (ctX0_seek (yl Y) g a2 a3  q1 q3 e4) rfl (Nat.le_of_ble_eq_true rfl) (Nat.le_of_ble_eq_true rfl) dX8_look_26 ?_
  replace h := Option.some.inj h
  subst h
  exact aw_vret E dX8_look_29 hr
def FX8_bars (a1 : Int32) (M : Mem) : Option (Int32 × Mem) :=
  if (FX8_isAway a1 M) = 0 then
    some ((-5), M)
  else
    ob (FX8_look 1 ((1 : Int32) <<< (a1 &&& 31)) 0 M) fun q1 =>
    ob (FX0_least ((1 : Int32) <<< (a1 &&& 31)) q1) fun q3 =>
    if 0 ≤ q3 then
      ob (FX0_shared ((1 : Int32) <<< (a1 &&& 31)) q1) fun q5 =>
      some (q5, q1)
    else
      some ((-3), q1)
set_option maxHeartbeats 4000000 in
set_option maxRecDepth 100000 in
theorem ctX8_bars (l : Launch) (g : CtxG) (a1 : Int32) (M : Mem) (r0 : Int32 × Mem) (h : FX8_bars a1 M = some r0) : Ct l (WX g) yX8_bars cX8_bars 2 (some .int) 6 [.ref (wad (WX g) 0), .int a1] M (some (.int r0.1), r0.2) := by
  refine Ct.of (by decide) (Nat.le_of_ble_eq_true rfl) (fun Y hY E => ?_)
  have E : EV Y (WX g) cX8_bars 2 (some .int) RX8 := E
  have h : FX8_bars a1 M = some r0 := h
  unfold FX8_bars at h
  show AW Y (WX g) _ 2 6 0 [(0, .ref (wad (WX g) 0)), (1, .int a1)] [] M
  obtain ⟨r, hr⟩ : ∃ r : Option Value × Mem, r = (some (.int r0.1), r0.2) := ⟨_, rfl⟩
  rw [← hr]
  refine aw_aload_n E dX8_bars_0 0 rfl ?_
  refine aw_iload_n E dX8_bars_1 1 rfl ?_
  refine aw_callVi (S := []) E mvX8_isAway mlX8_181 (Nat.le_of_ble_eq_true rfl) rfl rfl rfl (ctX8_isAway (yl Y) g a1  M ) rfl (Nat.le_of_ble_eq_true rfl) (Nat.le_of_ble_eq_true rfl) dX8_bars_2 ?_
  refine aw_if_ne (tgt := 11) E dX8_bars_5 rfl (fun c5 => ?_) (fun c5 => ?_)
  ·
    replace h := iq c5 h
    refine aw_aload_n E dX8_bars_11 0 rfl ?_
    refine aw_aload_n E dX8_bars_12 0 rfl ?_
    refine aw_getR (q := 1) E flX8_12 (Nat.le_of_ble_eq_true rfl) rfl rfl dX8_bars_13 ?_
    refine aw_iconst (v := 1) E dX8_bars_16 (by decide) ?_
    refine aw_iload_n E dX8_bars_17 1 rfl ?_
    refine aw_ishl E dX8_bars_18 ?_
    refine aw_iconst (v := 0) E dX8_bars_19 (by decide) ?_
    obtain ⟨q1, e2, h⟩ := bd_e h
    refine aw_callVv (S := []) E mvX8_look mlX8_187 (Nat.le_of_ble_eq_true rfl) rfl rfl rfl (ctX8_look (yl Y) g 1 ((1 : Int32) <<< (a1 &&& 31)) 0 set1 M q1 e2) rfl (Nat.le_of_ble_eq_true rfl) (Nat.le_of_ble_eq_true rfl) dX8_bars_20 ?_
    refine aw_aload_n E dX8_bars_23 0 rfl ?_
    refine aw_getR (q := 37) E flX8_53 (Nat.le_of_ble_eq_true rfl) rfl rfl dX8_bars_24 ?_
    refine aw_iconst (v := 1) E dX8_bars_27 (by decide) ?_
    refine aw_iload_n E dX8_bars_28 1 rfl ?_
    refine aw_ishl E dX8_bars_29 ?_
    obtain ⟨q3, e4, h⟩ := bd_e h
    refine aw_callVi (S := []) E mvX0_least mlX8_194 (Nat.le_of_ble_eq_true rfl) rfl rfl rfl (ctX0_least (yl Y) g ((1 : Int32) <<< (a1 &&& 31))  q1 q3 e4) rfl (Nat.le_of_ble_eq_true rfl) (Nat.le_of_ble_eq_true rfl) dX8_bars_30 ?_
    refine aw_if_ge (tgt := 41) E dX8_bars_33 rfl (fun c33 => ?_) (fun c33 => ?_)
    ·
      replace h := ip c33 h
      refine aw_aload_n E dX8_bars_41 0 rfl ?_
      refine aw_getR (q := 37) E flX8_53 (Nat.le_of_ble_eq_true rfl) rfl rfl dX8_bars_42 ?_
      refine aw_iconst (v := 1) E dX8_bars_45 (by decide) ?_
      refine aw_iload_n E dX8_bars_46 1 rfl ?_
      refine aw_ishl E dX8_bars_47 ?_
      obtain ⟨q5, e6, h⟩ := bd_e h
      refine aw_callVi (S := []) E mvX0_shared mlX8_206 (Nat.le_of_ble_eq_true rfl) rfl rfl rfl (ctX0_shared (yl Y) g ((1 : Int32) <<< (a1 &&& 31))  q1 q5 e6) rfl (Nat.le_of_ble_eq_true rfl) (Nat.le_of_ble_eq_true rfl) dX8_bars_48 ?_
      replace h := Option.some.inj h
      subst h
      exact aw_iret E dX8_bars_51 hr
    ·
      replace h := iq c33 h
      refine aw_bipush (v := (-3)) E dX8_bars_36 (by decide) ?_
      refine aw_goto (tgt := 51) E dX8_bars_38 rfl ?_
      replace h := Option.some.inj h
      subst h
      exact aw_iret E dX8_bars_51 hr
  ·
    replace h := ip c5 h
    refine aw_bipush (v := (-5)) E dX8_bars_8 (by decide) ?_
    replace h := Option.some.inj h
    subst h
    exact aw_iret E dX8_bars_10 hr
def FX8_ringed (a1 : Nat) (M : Mem) : Option (Int32 × Mem) :=
  ob (FX8_look a1 512 0 M) fun q1 =>
  ob (FX0_ringedWithout (-1) q1) fun q3 =>
  some (q3, q1)
set_option maxHeartbeats 4000000 in
set_option maxRecDepth 100000 in
theorem ctX8_ringed (l : Launch) (g : CtxG) (a1 : Nat) (hd1 : isSet a1) (M : Mem) (r0 : Int32 × Mem) (h : FX8_ringed a1 M = some r0) : Ct l (WX g) yX8_ringed cX8_ringed 2 (some .int) 6 [.ref (wad (WX g) 0), .ref (wad (WX g) a1)] M (some (.int r0.1), r0.2) := by
  refine Ct.of (by decide) (Nat.le_of_ble_eq_true rfl) (fun Y hY E => ?_)
  have E : EV Y (WX g) cX8_ringed 2 (some .int) RX8 := E
  have h : FX8_ringed a1 M = some r0 := h
  unfold FX8_ringed at h
  show AW Y (WX g) _ 2 6 0 [(0, .ref (wad (WX g) 0)), (1, .ref (wad (WX g) a1))] [] M
  obtain ⟨r, hr⟩ : ∃ r : Option Value × Mem, r = (some (.int r0.1), r0.2) := ⟨_, rfl⟩
  rw [← hr]
  refine aw_aload_n E dX8_ringed_0 0 rfl ?_
  refine aw_aload_n E dX8_ringed_1 1 rfl ?_
  refine aw_sipush (v := 512) E dX8_ringed_2 (by decide) ?_
  refine aw_iconst (v := 0) E dX8_ringed_5 (by decide) ?_
  obtain ⟨q1, e2, h⟩ := bd_e h
  refine aw_callVv (S := []) E mvX8_look mlX8_187 (Nat.le_of_ble_eq_true rfl) rfl rfl rfl (ctX8_look (yl Y) g a1 512 0 hd1 M q1 e2) rfl (Nat.le_of_ble_eq_true rfl) (Nat.le_of_ble_eq_true rfl) dX8_ringed_6 ?_
  refine aw_aload_n E dX8_ringed_9 0 rfl ?_
  refine aw_getR (q := 37) E flX8_53 (Nat.le_of_ble_eq_true rfl) rfl rfl dX8_ringed_10 ?_
  refine aw_iconst (v := (-1)) E dX8_ringed_13 (by decide) ?_
  obtain ⟨q3, e4, h⟩ := bd_e h
  refine aw_callVi (S := []) E mvX0_ringedWithout mlX8_209 (Nat.le_of_ble_eq_true rfl) rfl rfl rfl (ctX0_ringedWithout (yl Y) g (-1)  q1 q3 e4) rfl (Nat.le_of_ble_eq_true rfl) (Nat.le_of_ble_eq_true rfl) dX8_ringed_14 ?_
  replace h := Option.some.inj h
  subst h
  exact aw_iret E dX8_ringed_17 hr
def FX8_bears_L13 : Nat → Int32 → Int32 → Int32 → Mem → Option (Int32)
  | 0, _, _, _, _ => none
  | f + 1, p1, p2, p3, M =>
    if (M.1 1 4) ≤ p3 then
      some p2
    else
      ob (FX0_ringedWithout p3 M) fun q101 =>
      if q101 = p1 then
        lt (α := Int32) (p3 + 1) fun x103 =>
        FX8_bears_L13 f p1 p2 x103 M
      else
        lt (α := Int32) (p2 ||| ((1 : Int32) <<< (p3 &&& 31))) fun x105 =>
        lt (α := Int32) (p3 + 1) fun x107 =>
        FX8_bears_L13 f p1 x105 x107 M
def FX8_bears  (M : Mem) : Option (Int32 × Mem) :=
  ob (FX8_ringed 1 M) fun q1 =>
  ob (FX8_bears_L13 FU q1.1 0 0 q1.2) fun q3 =>
  some (q3, q1.2)
set_option maxHeartbeats 4000000 in
set_option maxRecDepth 100000 in
theorem lpX8_bears_13 {Y : CtxM} {g : CtxG} {r : Option Value × Mem} (E : EV Y (WX g) cX8_bears 4 (some .int) RX8) (p1 : Int32) : ∀ (f : Nat) (p2 : Int32) (p3 : Int32) (M : Mem) (q : Int32), FX8_bears_L13 f p1 p2 p3 M = some q → AW Y (WX g) r 4 7 48 [(2, .int q)] [] M → AW Y (WX g) r 4 7 13 [(0, .ref (wad (WX g) 0)), (1, .int p1), (2, .int p2), (3, .int p3)] [] M := by
  intro f
  induction f with
  | zero => intro p2 p3 M q hh; exact absurd hh (fun z => nomatch (show (none : Option (Int32)) = some q from z))
  | succ f ih =>
    intro p2 p3 M q hh kx
    rw [FX8_bears_L13] at hh
    refine aw_iload_n E dX8_bears_13 3 rfl ?_
    refine aw_aload_n E dX8_bears_14 0 rfl ?_
    refine aw_getR (q := 1) E flX8_12 (Nat.le_of_ble_eq_true rfl) rfl rfl dX8_bears_15 ?_
    refine aw_getI E flX8_111 (Nat.le_of_ble_eq_true rfl) rfl rfl dX8_bears_18 ?_
    refine aw_icmp_ge (tgt := 48) E dX8_bears_21 rfl (fun c21 => ?_) (fun c21 => ?_)
    ·
      replace hh := ip c21 hh
      refine aw_sub (L1 := [(2, .int p2)]) [2] rfl ?_
      replace hh := Option.some.inj hh
      subst hh
      exact kx
    ·
      replace hh := iq c21 hh
      refine aw_aload_n E dX8_bears_24 0 rfl ?_
      refine aw_getR (q := 37) E flX8_53 (Nat.le_of_ble_eq_true rfl) rfl rfl dX8_bears_25 ?_
      refine aw_iload_n E dX8_bears_28 3 rfl ?_
      obtain ⟨q101, e102, hh⟩ := bd_e hh
      refine aw_callVi (S := []) E mvX0_ringedWithout mlX8_209 (Nat.le_of_ble_eq_true rfl) rfl rfl rfl (ctX0_ringedWithout (yl Y) g p3  M q101 e102) rfl (Nat.le_of_ble_eq_true rfl) (Nat.le_of_ble_eq_true rfl) dX8_bears_29 ?_
      refine aw_iload_n E dX8_bears_32 1 rfl ?_
      refine aw_icmp_eq (tgt := 42) E dX8_bears_33 rfl (fun c33 => ?_) (fun c33 => ?_)
      ·
        replace hh := ip c33 hh
        obtain ⟨x103, e104, hh⟩ := lt_e hh
        refine aw_iinc (v := x103) (L1 := [(3, .int x103), (0, .ref (wad (WX g) 0)), (1, .int p1), (2, .int p2)]) E dX8_bears_42 3 rfl e104 (Nat.le_of_ble_eq_true rfl) rfl ?_
        refine aw_goto (tgt := 13) E dX8_bears_45 rfl ?_
        refine aw_sub (L1 := [(0, .ref (wad (WX g) 0)), (1, .int p1), (2, .int p2), (3, .int x103)]) [1, 2, 3, 0] rfl ?_
        exact ih p2 x103 M _ hh kx
      ·
        replace hh := iq c33 hh
        refine aw_iload_n E dX8_bears_36 2 rfl ?_
        refine aw_iconst (v := 1) E dX8_bears_37 (by decide) ?_
        refine aw_iload_n E dX8_bears_38 3 rfl ?_
        refine aw_ishl E dX8_bears_39 ?_
        refine aw_ior E dX8_bears_40 ?_
        obtain ⟨x105, e106, hh⟩ := lt_e hh
        refine aw_nmI e106 ?_
        refine aw_istore_n (L1 := [(2, .int x105), (0, .ref (wad (WX g) 0)), (1, .int p1), (3, .int p3)]) E dX8_bears_41 (Nat.le_of_ble_eq_true rfl) rfl ?_
        obtain ⟨x107, e108, hh⟩ := lt_e hh
        refine aw_iinc (v := x107) (L1 := [(3, .int x107), (2, .int x105), (0, .ref (wad (WX g) 0)), (1, .int p1)]) E dX8_bears_42 3 rfl e108 (Nat.le_of_ble_eq_true rfl) rfl ?_
        refine aw_goto (tgt := 13) E dX8_bears_45 rfl ?_
        refine aw_sub (L1 := [(0, .ref (wad (WX g) 0)), (1, .int p1), (2, .int x105), (3, .int x107)]) [2, 3, 1, 0] rfl ?_
        exact ih x105 x107 M _ hh kx
set_option maxHeartbeats 4000000 in
set_option maxRecDepth 100000 in
theorem ctX8_bears (l : Launch) (g : CtxG)  (M : Mem) (r0 : Int32 × Mem) (h : FX8_bears M = some r0) : Ct l (WX g) yX8_bears cX8_bears 4 (some .int) 7 [.ref (wad (WX g) 0)] M (some (.int r0.1), r0.2) := by
  refine Ct.of (by decide) (Nat.le_of_ble_eq_true rfl) (fun Y hY E => ?_)
  have E : EV Y (WX g) cX8_bears 4 (some .int) RX8 := E
  have h : FX8_bears  M = some r0 := h
  unfold FX8_bears at h
  show AW Y (WX g) _ 4 7 0 [(0, .ref (wad (WX g) 0))] [] M
  obtain ⟨r, hr⟩ : ∃ r : Option Value × Mem, r = (some (.int r0.1), r0.2) := ⟨_, rfl⟩
  rw [← hr]
  refine aw_aload_n E dX8_bears_0 0 rfl ?_
  refine aw_aload_n E dX8_bears_1 0 rfl ?_
  refine aw_getR (q := 1) E flX8_12 (Nat.le_of_ble_eq_true rfl) rfl rfl dX8_bears_2 ?_
  obtain ⟨q1, e2, h⟩ := bd_e h
  refine aw_callVi (S := []) E mvX8_ringed mlX8_199 (Nat.le_of_ble_eq_true rfl) rfl rfl rfl (ctX8_ringed (yl Y) g 1 set1 M q1 e2) rfl (Nat.le_of_ble_eq_true rfl) (Nat.le_of_ble_eq_true rfl) dX8_bears_5 ?_
  refine aw_istore_n (L1 := [(1, .int q1.1), (0, .ref (wad (WX g) 0))]) E dX8_bears_8 (Nat.le_of_ble_eq_true rfl) rfl ?_
  refine aw_iconst (v := 0) E dX8_bears_9 (by decide) ?_
  refine aw_istore_n (L1 := [(2, .int 0), (1, .int q1.1), (0, .ref (wad (WX g) 0))]) E dX8_bears_10 (Nat.le_of_ble_eq_true rfl) rfl ?_
  refine aw_iconst (v := 0) E dX8_bears_11 (by decide) ?_
  refine aw_istore_n (L1 := [(3, .int 0), (2, .int 0), (1, .int q1.1), (0, .ref (wad (WX g) 0))]) E dX8_bears_12 (Nat.le_of_ble_eq_true rfl) rfl ?_
  obtain ⟨q3, e4, h⟩ := bd_e h
  refine aw_sub (L1 := [(0, .ref (wad (WX g) 0)), (1, .int q1.1), (2, .int 0), (3, .int 0)]) [3, 2, 1, 0] rfl ?_
  refine lpX8_bears_13 E   q1.1 FU 0 0 q1.2 q3 e4 ?_
  refine aw_iload_n E dX8_bears_48 0 rfl ?_
  replace h := Option.some.inj h
  subst h
  exact aw_iret E dX8_bears_49 hr
def FX8_bond (a1 : Int32) (a2 : Int32) (M : Mem) : Option (Int32) :=
  if (FX8_isCorner a1) = 0 then
    some (-5)
  else
    lt (α := Bool) (if a2 < 0 then true else if a2 ≤ 1 then false else true) fun b1 =>
    if b1 = true then
      some (-7)
    else
      ob (FX3_bonds (M.1 1 4) M) fun q5 =>
      if a2 = 0 then
        some q5
      else
        ob (FX3_joined ((1 : Int32) <<< (a1 &&& 31)) (q5 ^^^ (-1)) (M.1 1 4) M) fun q7 =>
        some q7
set_option maxHeartbeats 4000000 in
set_option maxRecDepth 100000 in
theorem ctX8_bond (l : Launch) (g : CtxG) (a1 : Int32) (a2 : Int32) (M : Mem) (r0 : Int32) (h : FX8_bond a1 a2 M = some r0) : Ct l (WX g) yX8_bond cX8_bond 4 (some .int) 3 [.ref (wad (WX g) 0), .int a1, .int a2] M (some (.int r0), M) := by
  refine Ct.of (by decide) (Nat.le_of_ble_eq_true rfl) (fun Y hY E => ?_)
  have E : EV Y (WX g) cX8_bond 4 (some .int) RX8 := E
  have h : FX8_bond a1 a2 M = some r0 := h
  unfold FX8_bond at h
  show AW Y (WX g) _ 4 3 0 [(0, .ref (wad (WX g) 0)), (1, .int a1), (2, .int a2)] [] M
  obtain ⟨r, hr⟩ : ∃ r : Option Value × Mem, r = (some (.int r0), M) := ⟨_, rfl⟩
  rw [← hr]
  refine aw_iload_n E dX8_bond_0 1 rfl ?_
  refine aw_callSi (S := []) E msX8_isCorner mlX8_126 rfl (ctX8_isCorner (yl Y) g a1  M ) rfl (Nat.le_of_ble_eq_true rfl) (Nat.le_of_ble_eq_true rfl) dX8_bond_1 ?_
  refine aw_if_ne (tgt := 10) E dX8_bond_4 rfl (fun c4 => ?_) (fun c4 => ?_)
  ·
    replace h := iq c4 h
    refine aw_iload_n E dX8_bond_10 2 rfl ?_
    obtain ⟨b1, e2, h⟩ := lt_e h
    have J3 : b1 = true → AW Y (WX g) r 4 3 19 [(0, .ref (wad (WX g) 0)), (1, .int a1), (2, .int a2)] [] M := fun hb => by
      replace h := ip hb h
      refine aw_bipush (v := (-7)) E dX8_bond_19 (by decide) ?_
      replace h := Option.some.inj h
      subst h
      exact aw_iret E dX8_bond_21 hr
    have J4 : b1 = false → AW Y (WX g) r 4 3 22 [(0, .ref (wad (WX g) 0)), (1, .int a1), (2, .int a2)] [] M := fun hb => by
      replace h := iq (bf hb) h
      refine aw_aload_n E dX8_bond_22 0 rfl ?_
      refine aw_getR (q := 4) E flX8_25 (Nat.le_of_ble_eq_true rfl) rfl rfl dX8_bond_23 ?_
      refine aw_aload_n E dX8_bond_26 0 rfl ?_
      refine aw_getR (q := 1) E flX8_12 (Nat.le_of_ble_eq_true rfl) rfl rfl dX8_bond_27 ?_
      refine aw_getI E flX8_111 (Nat.le_of_ble_eq_true rfl) rfl rfl dX8_bond_30 ?_
      obtain ⟨q5, e6, h⟩ := bd_e h
      refine aw_callVi (S := []) E mvX3_bonds mlX8_228 (Nat.le_of_ble_eq_true rfl) rfl rfl rfl (ctX3_bonds (yl Y) g (M.1 1 4)  M q5 e6) rfl (Nat.le_of_ble_eq_true rfl) (Nat.le_of_ble_eq_true rfl) dX8_bond_33 ?_
      refine aw_istore_n (L1 := [(3, .int q5), (0, .ref (wad (WX g) 0)), (1, .int a1), (2, .int a2)]) E dX8_bond_36 (Nat.le_of_ble_eq_true rfl) rfl ?_
      refine aw_iload_n E dX8_bond_37 3 rfl ?_
      refine aw_if_ne (tgt := 45) E dX8_bond_38 rfl (fun c38 => ?_) (fun c38 => ?_)
      ·
        replace h := iq c38 h
        refine aw_aload_n E dX8_bond_45 1 rfl ?_
        refine aw_getR (q := 4) E flX8_25 (Nat.le_of_ble_eq_true rfl) rfl rfl dX8_bond_46 ?_
        refine aw_iconst (v := 1) E dX8_bond_49 (by decide) ?_
        refine aw_iload_n E dX8_bond_50 2 rfl ?_
        refine aw_ishl E dX8_bond_51 ?_
        refine aw_iload_n E dX8_bond_52 0 rfl ?_
        refine aw_iconst (v := (-1)) E dX8_bond_53 (by decide) ?_
        refine aw_ixor E dX8_bond_54 ?_
        refine aw_aload_n E dX8_bond_55 1 rfl ?_
        refine aw_getR (q := 1) E flX8_12 (Nat.le_of_ble_eq_true rfl) rfl rfl dX8_bond_56 ?_
        refine aw_getI E flX8_111 (Nat.le_of_ble_eq_true rfl) rfl rfl dX8_bond_59 ?_
        obtain ⟨q7, e8, h⟩ := bd_e h
        refine aw_callVi (S := []) E mvX3_joined mlX8_234 (Nat.le_of_ble_eq_true rfl) rfl rfl rfl (ctX3_joined (yl Y) g ((1 : Int32) <<< (a1 &&& 31)) (q5 ^^^ (-1)) (M.1 1 4)  M q7 e8) rfl (Nat.le_of_ble_eq_true rfl) (Nat.le_of_ble_eq_true rfl) dX8_bond_62 ?_
        replace h := Option.some.inj h
        subst h
        exact aw_iret E dX8_bond_65 hr
      ·
        replace h := ip c38 h
        refine aw_iload_n E dX8_bond_41 0 rfl ?_
        refine aw_goto (tgt := 65) E dX8_bond_42 rfl ?_
        replace h := Option.some.inj h
        subst h
        exact aw_iret E dX8_bond_65 hr
    refine aw_if_lt (tgt := 19) E dX8_bond_11 rfl (fun c11 => ?_) (fun c11 => ?_)
    ·
      replace e2 := ip c11 e2
      subst e2
      exact J3 rfl
    ·
      replace e2 := iq c11 e2
      refine aw_iload_n E dX8_bond_14 2 rfl ?_
      refine aw_iconst (v := 1) E dX8_bond_15 (by decide) ?_
      refine aw_icmp_le (tgt := 22) E dX8_bond_16 rfl (fun c16 => ?_) (fun c16 => ?_)
      ·
        replace e2 := ip c16 e2
        subst e2
        exact J4 rfl
      ·
        replace e2 := iq c16 e2
        subst e2
        exact J3 rfl
  ·
    replace h := ip c4 h
    refine aw_bipush (v := (-5)) E dX8_bond_7 (by decide) ?_
    replace h := Option.some.inj h
    subst h
    exact aw_iret E dX8_bond_9 hr
def FX8_leastRing (a1 : Nat) (a2 : Int32) (a3 : Int32) (a4 : Int32) (M : Mem) : Option (Int32 × Mem) :=
  ob (FX7_lay a1 M) fun q1 =>
  ob (FX7_reached q1) fun q3 =>
  if (a2 &&& (q3 ^^^ (-1))) = 0 then
    ob (FX0_seek a2 a3 q1) fun q5 =>
    ob (FX0_least a2 q5) fun q7 =>
    if 0 ≤ q7 then
      if a4 = 0 then
        ob (FX0_minutes q7 q5) fun q9 =>
        some (q9, q5)
      else if a4 = 1 then
        some (q7, q5)
      else if a4 = 2 then
        ob (FX0_streetAt q7 0 q5) fun q11 =>
        some (q11, q5)
      else 
        some (FJ6_bitCount_0f7a4 q7, q5)
    else
      some ((-1), q5)
  else
    some ((-1), q1)
set_option maxHeartbeats 4000000 in
set_option maxRecDepth 100000 in
theorem ctX8_leastRing (l : Launch) (g : CtxG) (a1 : Nat) (a2 : Int32) (a3 : Int32) (a4 : Int32) (hd1 : isSet a1) (M : Mem) (r0 : Int32 × Mem) (h : FX8_leastRing a1 a2 a3 a4 M = some r0) : Ct l (WX g) yX8_leastRing cX8_leastRing 6 (some .int) 5 [.ref (wad (WX g) 0), .ref (wad (WX g) a1), .int a2, .int a3, .int a4] M (some (.int r0.1), r0.2) := by
  refine Ct.of (by decide) (Nat.le_of_ble_eq_true rfl) (fun Y hY E => ?_)
  have E : EV Y (WX g) cX8_leastRing 6 (some .int) RX8 := E
  have h : FX8_leastRing a1 a2 a3 a4 M = some r0 := h
  unfold FX8_leastRing at h
  show AW Y (WX g) _ 6 5 0 [(0, .ref (wad (WX g) 0)), (1, .ref (wad (WX g) a1)), (2, .int a2), (3, .int a3), (4, .int a4)] [] M
  obtain ⟨r, hr⟩ : ∃ r : Option Value × Mem, r = (some (.int r0.1), r0.2) := ⟨_, rfl⟩
  rw [← hr]
  refine aw_aload_n E dX8_leastRing_0 0 rfl ?_
  refine aw_getR (q := 31) E flX8_46 (Nat.le_of_ble_eq_true rfl) rfl rfl dX8_leastRing_1 ?_
  refine aw_aload_n E dX8_leastRing_4 1 rfl ?_
  refine aw_aload_n E dX8_leastRing_5 0 rfl ?_
  refine aw_getR (q := 4) E flX8_25 (Nat.le_of_ble_eq_true rfl) rfl rfl dX8_leastRing_6 ?_
  refine aw_aload_n E dX8_leastRing_9 0 rfl ?_
  refine aw_getR (q := 14) E flX8_39 (Nat.le_of_ble_eq_true rfl) rfl rfl dX8_leastRing_10 ?_
  obtain ⟨q1, e2, h⟩ := bd_e h
  refine aw_callVv (S := []) E mvX7_lay mlX8_163 (Nat.le_of_ble_eq_true rfl) rfl rfl rfl (ctX7_lay (yl Y) g a1 hd1 M q1 e2) rfl (Nat.le_of_ble_eq_true rfl) (Nat.le_of_ble_eq_true rfl) dX8_leastRing_13 ?_
  refine aw_iload_n E dX8_leastRing_16 2 rfl ?_
  refine aw_aload_n E dX8_leastRing_17 0 rfl ?_
  refine aw_getR (q := 31) E flX8_46 (Nat.le_of_ble_eq_true rfl) rfl rfl dX8_leastRing_18 ?_
  obtain ⟨q3, e4, h⟩ := bd_e h
  refine aw_callVi (S := [.int a2]) E mvX7_reached mlX8_203 (Nat.le_of_ble_eq_true rfl) rfl rfl rfl (ctX7_reached (yl Y) g   q1 q3 e4) rfl (Nat.le_of_ble_eq_true rfl) (Nat.le_of_ble_eq_true rfl) dX8_leastRing_21 ?_
  refine aw_iconst (v := (-1)) E dX8_leastRing_24 (by decide) ?_
  refine aw_ixor E dX8_leastRing_25 ?_
  refine aw_iand E dX8_leastRing_26 ?_
  refine aw_if_eq (tgt := 32) E dX8_leastRing_27 rfl (fun c27 => ?_) (fun c27 => ?_)
  ·
    replace h := ip c27 h
    refine aw_aload_n E dX8_leastRing_32 0 rfl ?_
    refine aw_getR (q := 37) E flX8_53 (Nat.le_of_ble_eq_true rfl) rfl rfl dX8_leastRing_33 ?_
    refine aw_aload_n E dX8_leastRing_36 0 rfl ?_
    refine aw_getR (q := 31) E flX8_46 (Nat.le_of_ble_eq_true rfl) rfl rfl dX8_leastRing_37 ?_
    refine aw_iload_n E dX8_leastRing_40 2 rfl ?_
    refine aw_iload_n E dX8_leastRing_41 3 rfl ?_
    obtain ⟨q5, e6, h⟩ := bd_e h
    refine aw_callVv (S := []) E mvX0_seek mlX8_301 (Nat.le_of_ble_eq_true rfl) rfl rfl rfl (ctX0_seek (yl Y) g a2 a3  q1 q5 e6) rfl (Nat.le_of_ble_eq_true rfl) (Nat.le_of_ble_eq_true rfl) dX8_leastRing_42 ?_
    refine aw_aload_n E dX8_leastRing_45 0 rfl ?_
    refine aw_getR (q := 37) E flX8_53 (Nat.le_of_ble_eq_true rfl) rfl rfl dX8_leastRing_46 ?_
    refine aw_iload_n E dX8_leastRing_49 2 rfl ?_
    obtain ⟨q7, e8, h⟩ := bd_e h
    refine aw_callVi (S := []) E mvX0_least mlX8_194 (Nat.le_of_ble_eq_true rfl) rfl rfl rfl (ctX0_least (yl Y) g a2  q5 q7 e8) rfl (Nat.le_of_ble_eq_true rfl) (Nat.le_of_ble_eq_true rfl) dX8_leastRing_50 ?_
    refine aw_istore (L1 := [(5, .int q7), (0, .ref (wad (WX g) 0)), (1, .ref (wad (WX g) a1)), (2, .int a2), (3, .int a3), (4, .int a4)]) E dX8_leastRing_53 (Nat.le_of_ble_eq_true rfl) rfl ?_
    refine aw_iload E dX8_leastRing_55 0 rfl ?_
    refine aw_if_ge (tgt := 62) E dX8_leastRing_57 rfl (fun c57 => ?_) (fun c57 => ?_)
    ·
      replace h := ip c57 h
      refine aw_iload E dX8_leastRing_62 5 rfl ?_
      by_cases c64_0 : a4 = 0
      ·
        replace h := ip c64_0 h
        refine aw_tin (tgt := 92) (off := 28) E dX8_leastRing_64 (by rw [c64_0]; decide) (by rw [c64_0]; decide) (by rw [c64_0]; decide) (by decide) ?_
        refine aw_aload_n E dX8_leastRing_92 1 rfl ?_
        refine aw_getR (q := 37) E flX8_53 (Nat.le_of_ble_eq_true rfl) rfl rfl dX8_leastRing_93 ?_
        refine aw_iload E dX8_leastRing_96 0 rfl ?_
        obtain ⟨q9, e10, h⟩ := bd_e h
        refine aw_callVi (S := []) E mvX0_minutes mlX8_197 (Nat.le_of_ble_eq_true rfl) rfl rfl rfl (ctX0_minutes (yl Y) g q7  q5 q9 e10) rfl (Nat.le_of_ble_eq_true rfl) (Nat.le_of_ble_eq_true rfl) dX8_leastRing_98 ?_
        replace h := Option.some.inj h
        subst h
        exact aw_iret E dX8_leastRing_101 hr
      replace h := iq c64_0 h
      by_cases c64_1 : a4 = 1
      ·
        replace h := ip c64_1 h
        refine aw_tin (tgt := 102) (off := 38) E dX8_leastRing_64 (by rw [c64_1]; decide) (by rw [c64_1]; decide) (by rw [c64_1]; decide) (by decide) ?_
        refine aw_iload E dX8_leastRing_102 0 rfl ?_
        replace h := Option.some.inj h
        subst h
        exact aw_iret E dX8_leastRing_104 hr
      replace h := iq c64_1 h
      by_cases c64_2 : a4 = 2
      ·
        replace h := ip c64_2 h
        refine aw_tin (tgt := 105) (off := 41) E dX8_leastRing_64 (by rw [c64_2]; decide) (by rw [c64_2]; decide) (by rw [c64_2]; decide) (by decide) ?_
        refine aw_aload_n E dX8_leastRing_105 1 rfl ?_
        refine aw_getR (q := 37) E flX8_53 (Nat.le_of_ble_eq_true rfl) rfl rfl dX8_leastRing_106 ?_
        refine aw_iload E dX8_leastRing_109 0 rfl ?_
        refine aw_iconst (v := 0) E dX8_leastRing_111 (by decide) ?_
        obtain ⟨q11, e12, h⟩ := bd_e h
        refine aw_callVi (S := []) E mvX0_streetAt mlX8_263 (Nat.le_of_ble_eq_true rfl) rfl rfl rfl (ctX0_streetAt (yl Y) g q7 0  q5 q11 e12) rfl (Nat.le_of_ble_eq_true rfl) (Nat.le_of_ble_eq_true rfl) dX8_leastRing_112 ?_
        replace h := Option.some.inj h
        subst h
        exact aw_iret E dX8_leastRing_115 hr
      replace h := iq c64_2 h
      have nc64_0 := lv_neT (k := 0) (a := 0) c64_0 (by decide)
      have nc64_1 := lv_neT (k := 1) (a := 1) c64_1 (by decide)
      have nc64_2 := lv_neT (k := 2) (a := 2) c64_2 (by decide)
      refine aw_tout (tgt := 116) E dX8_leastRing_64 (by omega) (by decide) ?_
      refine aw_iload E dX8_leastRing_116 0 rfl ?_
      refine aw_callSi (S := []) E msJ6_bitCount_0f7a4 mlX8_219 rfl (ctJ6_bitCount_0f7a4 (yl Y) g q7  q5 ) rfl (Nat.le_of_ble_eq_true rfl) (Nat.le_of_ble_eq_true rfl) dX8_leastRing_118 ?_
      replace h := Option.some.inj h
      subst h
      exact aw_iret E dX8_leastRing_121 hr
    ·
      replace h := iq c57 h
      refine aw_iconst (v := (-1)) E dX8_leastRing_60 (by decide) ?_
      replace h := Option.some.inj h
      subst h
      exact aw_iret E dX8_leastRing_61 hr
  ·
    replace h := iq c27 h
    refine aw_iconst (v := (-1)) E dX8_leastRing_30 (by decide) ?_
    replace h := Option.some.inj h
    subst h
    exact aw_iret E dX8_leastRing_31 hr
def FX8_calls (a1 : Int32) (a2 : Int32) (a3 : Int32) (M : Mem) : Option (Int32 × Mem) :=
  if (FX8_areCorners a1) = 0 then
    some ((-2), M)
  else
    lt (fun (_u : Unit) =>
      (lt (α := Bool) (if a3 < 0 then true else if a3 ≤ 3 then false else true) fun b4 =>
    if b4 = true then
      some ((-7), M)
    else
      lt (α := Int32) (if 0 ≤ a2 then
        (1 : Int32) <<< (a2 &&& 31)
      else
        0) fun q8 =>
      ob (FX8_leastRing 1 a1 q8 a3 M) fun q11 =>
      some (q11.1, q11.2) : Option (Int32 × Mem))) fun k1 =>
    if a2 = (-1) then
      k1 ()
    else
      lt (α := Bool) (if (FX8_isAway a2 M) = 0 then true else if ((a1 >>> (a2 &&& 31)) &&& 1) = 0 then true else false) fun b13 =>
      if b13 = true then
        some ((-5), M)
      else
        k1 ()
set_option maxHeartbeats 4000000 in
set_option maxRecDepth 100000 in
theorem ctX8_calls (l : Launch) (g : CtxG) (a1 : Int32) (a2 : Int32) (a3 : Int32) (M : Mem) (r0 : Int32 × Mem) (h : FX8_calls a1 a2 a3 M = some r0) : Ct l (WX g) yX8_calls cX8_calls 4 (some .int) 6 [.ref (wad (WX g) 0), .int a1, .int a2, .int a3] M (some (.int r0.1), r0.2) := by
  refine Ct.of (by decide) (Nat.le_of_ble_eq_true rfl) (fun Y hY E => ?_)
  have E : EV Y (WX g) cX8_calls 4 (some .int) RX8 := E
  have h : FX8_calls a1 a2 a3 M = some r0 := h
  unfold FX8_calls at h
  show AW Y (WX g) _ 4 6 0 [(0, .ref (wad (WX g) 0)), (1, .int a1), (2, .int a2), (3, .int a3)] [] M
  obtain ⟨r, hr⟩ : ∃ r : Option Value × Mem, r = (some (.int r0.1), r0.2) := ⟨_, rfl⟩
  rw [← hr]
  refine aw_iload_n E dX8_calls_0 1 rfl ?_
  refine aw_callSi (S := []) E msX8_areCorners mlX8_184 rfl (ctX8_areCorners (yl Y) g a1  M ) rfl (Nat.le_of_ble_eq_true rfl) (Nat.le_of_ble_eq_true rfl) dX8_calls_1 ?_
  refine aw_if_ne (tgt := 10) E dX8_calls_4 rfl (fun c4 => ?_) (fun c4 => ?_)
  ·
    replace h := iq c4 h
    refine aw_iload_n E dX8_calls_10 2 rfl ?_
    refine aw_iconst (v := (-1)) E dX8_calls_11 (by decide) ?_
    obtain ⟨k1, e2, h⟩ := lt_e h
    have J3 : ∀ (_u : Unit), k1 _u = some r0 → AW Y (WX g) r 4 6 34 [(0, .ref (wad (WX g) 0)), (1, .int a1), (2, .int a2), (3, .int a3)] [] M := by
      clear h
      intro _u h
      subst e2
      refine aw_iload_n E dX8_calls_34 3 rfl ?_
      obtain ⟨b4, e5, h⟩ := lt_e h
      have J6 : b4 = true → AW Y (WX g) r 4 6 43 [(0, .ref (wad (WX g) 0)), (1, .int a1), (2, .int a2), (3, .int a3)] [] M := fun hb => by
        replace h := ip hb h
        refine aw_bipush (v := (-7)) E dX8_calls_43 (by decide) ?_
        replace h := Option.some.inj h
        subst h
        exact aw_iret E dX8_calls_45 hr
      have J7 : b4 = false → AW Y (WX g) r 4 6 46 [(0, .ref (wad (WX g) 0)), (1, .int a1), (2, .int a2), (3, .int a3)] [] M := fun hb => by
        replace h := iq (bf hb) h
        refine aw_aload_n E dX8_calls_46 0 rfl ?_
        refine aw_aload_n E dX8_calls_47 0 rfl ?_
        refine aw_getR (q := 1) E flX8_12 (Nat.le_of_ble_eq_true rfl) rfl rfl dX8_calls_48 ?_
        refine aw_iload_n E dX8_calls_51 1 rfl ?_
        refine aw_iload_n E dX8_calls_52 2 rfl ?_
        obtain ⟨q8, e9, h⟩ := lt_e h
        have J10 : AW Y (WX g) r 4 6 63 [(3, .int a3)] [.int q8, .int a1, .ref (wad (WX g) 1), .ref (wad (WX g) 0)] M := by
          refine aw_iload_n E dX8_calls_63 0 rfl ?_
          obtain ⟨q11, e12, h⟩ := bd_e h
          refine aw_callVi (S := []) E mvX8_leastRing mlX8_177 (Nat.le_of_ble_eq_true rfl) rfl rfl rfl (ctX8_leastRing (yl Y) g 1 a1 q8 a3 set1 M q11 e12) rfl (Nat.le_of_ble_eq_true rfl) (Nat.le_of_ble_eq_true rfl) dX8_calls_64 ?_
          replace h := Option.some.inj h
          subst h
          exact aw_iret E dX8_calls_67 hr
        refine aw_if_ge (tgt := 60) E dX8_calls_53 rfl (fun c53 => ?_) (fun c53 => ?_)
        ·
          replace e9 := ip c53 e9
          refine aw_iconst (v := 1) E dX8_calls_60 (by decide) ?_
          refine aw_iload_n E dX8_calls_61 2 rfl ?_
          refine aw_ishl E dX8_calls_62 ?_
          refine aw_sub (L1 := [(3, .int a3)]) [3] rfl ?_
          subst e9
          exact J10
        ·
          replace e9 := iq c53 e9
          refine aw_iconst (v := 0) E dX8_calls_56 (by decide) ?_
          refine aw_goto (tgt := 63) E dX8_calls_57 rfl ?_
          refine aw_sub (L1 := [(3, .int a3)]) [3] rfl ?_
          subst e9
          exact J10
      refine aw_if_lt (tgt := 43) E dX8_calls_35 rfl (fun c35 => ?_) (fun c35 => ?_)
      ·
        replace e5 := ip c35 e5
        subst e5
        exact J6 rfl
      ·
        replace e5 := iq c35 e5
        refine aw_iload_n E dX8_calls_38 3 rfl ?_
        refine aw_iconst (v := 3) E dX8_calls_39 (by decide) ?_
        refine aw_icmp_le (tgt := 46) E dX8_calls_40 rfl (fun c40 => ?_) (fun c40 => ?_)
        ·
          replace e5 := ip c40 e5
          subst e5
          exact J7 rfl
        ·
          replace e5 := iq c40 e5
          subst e5
          exact J6 rfl
    clear e2
    refine aw_icmp_eq (tgt := 34) E dX8_calls_12 rfl (fun c12 => ?_) (fun c12 => ?_)
    ·
      replace h := ip c12 h
      refine aw_sub (L1 := [(0, .ref (wad (WX g) 0)), (1, .int a1), (2, .int a2), (3, .int a3)]) [0, 1, 2, 3] rfl ?_
      exact J3 () h
    ·
      replace h := iq c12 h
      refine aw_aload_n E dX8_calls_15 0 rfl ?_
      refine aw_iload_n E dX8_calls_16 2 rfl ?_
      refine aw_callVi (S := []) E mvX8_isAway mlX8_181 (Nat.le_of_ble_eq_true rfl) rfl rfl rfl (ctX8_isAway (yl Y) g a2  M ) rfl (Nat.le_of_ble_eq_true rfl) (Nat.le_of_ble_eq_true rfl) dX8_calls_17 ?_
      obtain ⟨b13, e14, h⟩ := lt_e h
      have J15 : b13 = true → AW Y (WX g) r 4 6 31 [(0, .ref (wad (WX g) 0)), (1, .int a1), (2, .int a2), (3, .int a3)] [] M := fun hb => by
        replace h := ip hb h
        refine aw_bipush (v := (-5)) E dX8_calls_31 (by decide) ?_
        replace h := Option.some.inj h
        subst h
        exact aw_iret E dX8_calls_33 hr
      have J16 : b13 = false → AW Y (WX g) r 4 6 34 [(0, .ref (wad (WX g) 0)), (1, .int a1), (2, .int a2), (3, .int a3)] [] M := fun hb => by
        replace h := iq (bf hb) h
        refine aw_sub (L1 := [(0, .ref (wad (WX g) 0)), (1, .int a1), (2, .int a2), (3, .int a3)]) [0, 1, 2, 3] rfl ?_
        exact J3 () h
      refine aw_if_eq (tgt := 31) E dX8_calls_20 rfl (fun c20 => ?_) (fun c20 => ?_)
      ·
        replace e14 := ip c20 e14
        subst e14
        exact J15 rfl
      ·
        replace e14 := iq c20 e14
        refine aw_iload_n E dX8_calls_23 1 rfl ?_
        refine aw_iload_n E dX8_calls_24 2 rfl ?_
        refine aw_ishr E dX8_calls_25 ?_
        refine aw_iconst (v := 1) E dX8_calls_26 (by decide) ?_
        refine aw_iand E dX8_calls_27 ?_
        refine aw_if_ne (tgt := 34) E dX8_calls_28 rfl (fun c28 => ?_) (fun c28 => ?_)
        ·
          replace e14 := iq c28 e14
          subst e14
          exact J16 rfl
        ·
          replace e14 := ip c28 e14
          subst e14
          exact J15 rfl
  ·
    replace h := ip c4 h
    refine aw_bipush (v := (-2)) E dX8_calls_7 (by decide) ?_
    replace h := Option.some.inj h
    subst h
    exact aw_iret E dX8_calls_9 hr
def FX8_isSheet (a0 : Int32) : Int32 :=
  lt (α := Bool) (if a0 < 0 then false else if 4 ≤ a0 then false else true) fun b1 =>
  if b1 = true then
    1
  else
    0
set_option maxHeartbeats 4000000 in
set_option maxRecDepth 100000 in
theorem ctX8_isSheet (l : Launch) (g : CtxG) (a0 : Int32) (M : Mem) : Ct l (WX g) yX8_isSheet cX8_isSheet 1 (some .boolean) 1 [.int a0] M (some (.int (FX8_isSheet a0)), M) := by
  obtain ⟨r0, h⟩ : ∃ r0, FX8_isSheet a0 = r0 := ⟨_, rfl⟩
  rw [h]
  refine Ct.of (by decide) (Nat.le_of_ble_eq_true rfl) (fun Y hY E => ?_)
  have E : EV Y (WX g) cX8_isSheet 1 (some .boolean) RX8 := E
  --generalize hr : ((some (Value.int r0), M) : Option Value × Mem) = r
  have h : FX8_isSheet a0 = r0 := h
  unfold FX8_isSheet at h
  show AW Y (WX g) _ 1 1 0 [(0, .int a0)] [] M
  obtain ⟨r, hr⟩ : ∃ r : Option Value × Mem, r = (some (.int r0), M) := ⟨_, rfl⟩
  rw [← hr]
  refine aw_iload_n E dX8_isSheet_0 0 rfl ?_
  obtain ⟨b1, e2, h⟩ := lt_e h
  have J3 : b1 = true → AW Y (WX g) r 1 1 9 [(0, .int a0)] [] M := fun hb => by
    replace h := ip hb h
    refine aw_iconst (v := 1) E dX8_isSheet_9 (by decide) ?_
    refine aw_goto (tgt := 14) E dX8_isSheet_10 rfl ?_
    subst h
    exact aw_zret E (by decide) dX8_isSheet_14 hr
  have J4 : b1 = false → AW Y (WX g) r 1 1 13 [(0, .int a0)] [] M := fun hb => by
    replace h := iq (bf hb) h
    refine aw_iconst (v := 0) E dX8_isSheet_13 (by decide) ?_
    subst h
    exact aw_zret E (by decide) dX8_isSheet_14 hr
  refine aw_if_lt (tgt := 13) E dX8_isSheet_1 rfl (fun c1 => ?_) (fun c1 => ?_)
  ·
    replace e2 := ip c1 e2
    subst e2
    exact J4 rfl
  ·
    replace e2 := iq c1 e2
    refine aw_iload_n E dX8_isSheet_4 0 rfl ?_
    refine aw_iconst (v := 4) E dX8_isSheet_5 (by decide) ?_
    refine aw_icmp_ge (tgt := 13) E dX8_isSheet_6 rfl (fun c6 => ?_) (fun c6 => ?_)
    ·
      replace e2 := ip c6 e2
      subst e2
      exact J4 rfl
    ·
      replace e2 := iq c6 e2
      subst e2
      exact J3 rfl
def FX8_cell (a1 : Int32) (a2 : Int32) (a3 : Int32) (M : Mem) : Option (Int32 × Mem) :=
  if (FX8_isSheet a1) = 0 then
    some ((-2), M)
  else
    gi a1 4 <|
    if (FX2_isMissing (44 + (Int32.toNatClampNeg a1)) M) = 0 then
      if a2 < 0 then
        some ((-12), M)
      else
        gi a1 4 <|
        if a2 < (M.1 (44 + (Int32.toNatClampNeg a1)) 2) then
          gi a1 4 <|
          ob (FX2_put (44 + (Int32.toNatClampNeg a1)) a2 a3 M) fun q7 =>
          some (1, q7)
        else
          some ((-12), M)
    else
      some ((-11), M)
set_option maxHeartbeats 4000000 in
set_option maxRecDepth 100000 in
theorem ctX8_cell (l : Launch) (g : CtxG) (a1 : Int32) (a2 : Int32) (a3 : Int32) (M : Mem) (r0 : Int32 × Mem) (h : FX8_cell a1 a2 a3 M = some r0) : Ct l (WX g) yX8_cell cX8_cell 4 (some .int) 2 [.ref (wad (WX g) 0), .int a1, .int a2, .int a3] M (some (.int r0.1), r0.2) := by
  refine Ct.of (by decide) (Nat.le_of_ble_eq_true rfl) (fun Y hY E => ?_)
  have E : EV Y (WX g) cX8_cell 4 (some .int) RX8 := E
  have h : FX8_cell a1 a2 a3 M = some r0 := h
  unfold FX8_cell at h
  show AW Y (WX g) _ 4 2 0 [(0, .ref (wad (WX g) 0)), (1, .int a1), (2, .int a2), (3, .int a3)] [] M
  obtain ⟨r, hr⟩ : ∃ r : Option Value × Mem, r = (some (.int r0.1), r0.2) := ⟨_, rfl⟩
  rw [← hr]
  refine aw_iload_n E dX8_cell_0 1 rfl ?_
  refine aw_callSi (S := []) E msX8_isSheet mlX8_243 rfl (ctX8_isSheet (yl Y) g a1  M ) rfl (Nat.le_of_ble_eq_true rfl) (Nat.le_of_ble_eq_true rfl) dX8_cell_1 ?_
  refine aw_if_ne (tgt := 10) E dX8_cell_4 rfl (fun c4 => ?_) (fun c4 => ?_)
  ·
    replace h := iq c4 h
    refine aw_aload_n E dX8_cell_10 0 rfl ?_
    refine aw_getR (q := 43) E flX8_66 (Nat.le_of_ble_eq_true rfl) rfl rfl dX8_cell_11 ?_
    refine aw_iload_n E dX8_cell_14 1 rfl ?_
    obtain ⟨g1, h⟩ := gi_e h
    refine aw_aldS E (Nat.le_of_ble_eq_true rfl) rfl g1 dX8_cell_15 ?_
    have f2 := sheets_of g1
    refine aw_callVi (S := []) E mvX2_isMissing mlX8_246 f2.1 f2.2.1 rfl rfl (ctX2_isMissing (yl Y) g (44 + (Int32.toNatClampNeg a1)) f2 M ) rfl (Nat.le_of_ble_eq_true rfl) (Nat.le_of_ble_eq_true rfl) dX8_cell_16 ?_
    refine aw_if_eq (tgt := 25) E dX8_cell_19 rfl (fun c19 => ?_) (fun c19 => ?_)
    ·
      replace h := ip c19 h
      refine aw_iload_n E dX8_cell_25 2 rfl ?_
      refine aw_if_lt (tgt := 42) E dX8_cell_26 rfl (fun c26 => ?_) (fun c26 => ?_)
      ·
        replace h := ip c26 h
        refine aw_bipush (v := (-12)) E dX8_cell_42 (by decide) ?_
        replace h := Option.some.inj h
        subst h
        exact aw_iret E dX8_cell_44 hr
      ·
        replace h := iq c26 h
        refine aw_iload_n E dX8_cell_29 2 rfl ?_
        refine aw_aload_n E dX8_cell_30 0 rfl ?_
        refine aw_getR (q := 43) E flX8_66 (Nat.le_of_ble_eq_true rfl) rfl rfl dX8_cell_31 ?_
        refine aw_iload_n E dX8_cell_34 1 rfl ?_
        obtain ⟨g3, h⟩ := gi_e h
        refine aw_aldS E (Nat.le_of_ble_eq_true rfl) rfl g3 dX8_cell_35 ?_
        have f4 := sheets_of g3
        refine aw_getI E flX8_278 f4.1 f4.2.1 rfl dX8_cell_36 ?_
        refine aw_icmp_lt (tgt := 45) E dX8_cell_39 rfl (fun c39 => ?_) (fun c39 => ?_)
        ·
          replace h := ip c39 h
          refine aw_aload_n E dX8_cell_45 0 rfl ?_
          refine aw_getR (q := 43) E flX8_66 (Nat.le_of_ble_eq_true rfl) rfl rfl dX8_cell_46 ?_
          refine aw_iload_n E dX8_cell_49 1 rfl ?_
          obtain ⟨g5, h⟩ := gi_e h
          refine aw_aldS E (Nat.le_of_ble_eq_true rfl) rfl g5 dX8_cell_50 ?_
          have f6 := sheets_of g5
          refine aw_iload_n E dX8_cell_51 2 rfl ?_
          refine aw_iload_n E dX8_cell_52 3 rfl ?_
          obtain ⟨q7, e8, h⟩ := bd_e h
          refine aw_callVv (S := []) E mvX2_put mlX8_266 f6.1 f6.2.1 rfl rfl (ctX2_put (yl Y) g (44 + (Int32.toNatClampNeg a1)) a2 a3 f6 M q7 e8) rfl (Nat.le_of_ble_eq_true rfl) (Nat.le_of_ble_eq_true rfl) dX8_cell_53 ?_
          refine aw_iconst (v := 1) E dX8_cell_56 (by decide) ?_
          replace h := Option.some.inj h
          subst h
          exact aw_iret E dX8_cell_57 hr
        ·
          replace h := iq c39 h
          refine aw_bipush (v := (-12)) E dX8_cell_42 (by decide) ?_
          replace h := Option.some.inj h
          subst h
          exact aw_iret E dX8_cell_44 hr
    ·
      replace h := iq c19 h
      refine aw_bipush (v := (-11)) E dX8_cell_22 (by decide) ?_
      replace h := Option.some.inj h
      subst h
      exact aw_iret E dX8_cell_24 hr
  ·
    replace h := ip c4 h
    refine aw_bipush (v := (-2)) E dX8_cell_7 (by decide) ?_
    replace h := Option.some.inj h
    subst h
    exact aw_iret E dX8_cell_9 hr
def FX8_close  (M : Mem) : Option (Int32 × Mem) :=
  if (M.1 1 4) = 0 then
    some ((-3), M)
  else
    lt (wr M 1 4 ((M.1 1 4) - 1)) fun M1 =>
    lt (wr M1 1 3 ((M1.1 1 3) &&& (((1 : Int32) <<< ((M1.1 1 4) &&& 31)) ^^^ (-1)))) fun M3 =>
    lt (α := Mem) (if (M3.1 2 4) ≤ (M3.1 1 4) then
      M3
    else
      lt (wr M3 0 3 0) fun M8 =>
      M8) fun q5 =>
    some (q5.1 1 4, q5)
set_option maxHeartbeats 4000000 in
set_option maxRecDepth 100000 in
theorem ctX8_close (l : Launch) (g : CtxG)  (M : Mem) (r0 : Int32 × Mem) (h : FX8_close M = some r0) : Ct l (WX g) yX8_close cX8_close 1 (some .int) 1 [.ref (wad (WX g) 0)] M (some (.int r0.1), r0.2) := by
  refine Ct.of (by decide) (Nat.le_of_ble_eq_true rfl) (fun Y hY E => ?_)
  have E : EV Y (WX g) cX8_close 1 (some .int) RX8 := E
  have h : FX8_close  M = some r0 := h
  unfold FX8_close at h
  show AW Y (WX g) _ 1 1 0 [(0, .ref (wad (WX g) 0))] [] M
  obtain ⟨r, hr⟩ : ∃ r : Option Value × Mem, r = (some (.int r0.1), r0.2) := ⟨_, rfl⟩
  rw [← hr]
  refine aw_aload_n E dX8_close_0 0 rfl ?_
  refine aw_getR (q := 1) E flX8_12 (Nat.le_of_ble_eq_true rfl) rfl rfl dX8_close_1 ?_
  refine aw_getI E flX8_111 (Nat.le_of_ble_eq_true rfl) rfl rfl dX8_close_4 ?_
  refine aw_if_ne (tgt := 13) E dX8_close_7 rfl (fun c7 => ?_) (fun c7 => ?_)
  ·
    replace h := iq c7 h
    refine aw_aload_n E dX8_close_13 0 rfl ?_
    refine aw_getR (q := 1) E flX8_12 (Nat.le_of_ble_eq_true rfl) rfl rfl dX8_close_14 ?_
    refine aw_dup E dX8_close_17 rfl ?_
    refine aw_getI E flX8_111 (Nat.le_of_ble_eq_true rfl) rfl rfl dX8_close_18 ?_
    refine aw_iconst (v := 1) E dX8_close_21 (by decide) ?_
    refine aw_isub E dX8_close_22 ?_
    obtain ⟨M1, e2, h⟩ := lt_e h
    refine aw_putI1 e2 E flX8_111 (Nat.le_of_ble_eq_true rfl) rfl rfl nr_int dX8_close_23 ?_
    refine aw_aload_n E dX8_close_26 0 rfl ?_
    refine aw_getR (q := 1) E flX8_12 (Nat.le_of_ble_eq_true rfl) rfl rfl dX8_close_27 ?_
    refine aw_dup E dX8_close_30 rfl ?_
    refine aw_getI E flX8_113 (Nat.le_of_ble_eq_true rfl) rfl rfl dX8_close_31 ?_
    refine aw_iconst (v := 1) E dX8_close_34 (by decide) ?_
    refine aw_aload_n E dX8_close_35 0 rfl ?_
    refine aw_getR (q := 1) E flX8_12 (Nat.le_of_ble_eq_true rfl) rfl rfl dX8_close_36 ?_
    refine aw_getI E flX8_111 (Nat.le_of_ble_eq_true rfl) rfl rfl dX8_close_39 ?_
    refine aw_ishl E dX8_close_42 ?_
    refine aw_iconst (v := (-1)) E dX8_close_43 (by decide) ?_
    refine aw_ixor E dX8_close_44 ?_
    refine aw_iand E dX8_close_45 ?_
    obtain ⟨M3, e4, h⟩ := lt_e h
    refine aw_putI1 e4 E flX8_113 (Nat.le_of_ble_eq_true rfl) rfl rfl nr_int dX8_close_46 ?_
    refine aw_aload_n E dX8_close_49 0 rfl ?_
    refine aw_getR (q := 2) E flX8_16 (Nat.le_of_ble_eq_true rfl) rfl rfl dX8_close_50 ?_
    refine aw_getI E flX8_111 (Nat.le_of_ble_eq_true rfl) rfl rfl dX8_close_53 ?_
    refine aw_aload_n E dX8_close_56 0 rfl ?_
    refine aw_getR (q := 1) E flX8_12 (Nat.le_of_ble_eq_true rfl) rfl rfl dX8_close_57 ?_
    refine aw_getI E flX8_111 (Nat.le_of_ble_eq_true rfl) rfl rfl dX8_close_60 ?_
    obtain ⟨q5, e6, h⟩ := lt_e h
    have J7 : AW Y (WX g) r 1 1 71 [(0, .ref (wad (WX g) 0))] [] q5 := by
      refine aw_aload_n E dX8_close_71 0 rfl ?_
      refine aw_getR (q := 1) E flX8_12 (Nat.le_of_ble_eq_true rfl) rfl rfl dX8_close_72 ?_
      refine aw_getI E flX8_111 (Nat.le_of_ble_eq_true rfl) rfl rfl dX8_close_75 ?_
      replace h := Option.some.inj h
      subst h
      exact aw_iret E dX8_close_78 hr
    refine aw_icmp_le (tgt := 71) E dX8_close_63 rfl (fun c63 => ?_) (fun c63 => ?_)
    ·
      replace e6 := ip c63 e6
      refine aw_sub (L1 := [(0, .ref (wad (WX g) 0))]) [0] rfl ?_
      subst e6
      exact J7
    ·
      replace e6 := iq c63 e6
      refine aw_aload_n E dX8_close_66 0 rfl ?_
      refine aw_iconst (v := 0) E dX8_close_67 (by decide) ?_
      obtain ⟨M8, e9, e6⟩ := lt_e e6
      refine aw_putI1 e9 E flX8_132 (Nat.le_of_ble_eq_true rfl) rfl rfl (nr_bool (by decide)) dX8_close_68 ?_
      refine aw_sub (L1 := [(0, .ref (wad (WX g) 0))]) [0] rfl ?_
      subst e6
      exact J7
  ·
    replace h := ip c7 h
    refine aw_bipush (v := (-3)) E dX8_close_10 (by decide) ?_
    replace h := Option.some.inj h
    subst h
    exact aw_iret E dX8_close_12 hr
def FX8_commonDivisor_L2 : Nat → Int32 → Int32 → Int32 → Option (Int32 ⊕ (Unit))
  | 0, _, _, _ => none
  | f + 1, p0, p1, p2 =>
    if p2 ≤ 1 then
      some (.inr (()))
    else
      gd (¬ p2 = 0) <|
      ob (α := Bool) (if (p0 - p0 / p2 * p2) = 0 then
        gd (¬ p2 = 0) <|
        if (p1 - p1 / p2 * p2) = 0 then some true else some false
      else
        some false) fun b102 =>
      if b102 = true then
        some (.inl p2)
      else
        lt (α := Int32) (p2 + (-1)) fun x106 =>
        FX8_commonDivisor_L2 f p0 p1 x106
def FX8_commonDivisor (a0 : Int32) (a1 : Int32) : Option (Int32) :=
  ob (FX8_commonDivisor_L2 FU a0 a1 a1) fun q1 => Sum.elim (fun v3 => some v3) (fun q5 =>
    some 1) q1
set_option maxHeartbeats 4000000 in
set_option maxRecDepth 100000 in
theorem lpX8_commonDivisor_2 {Y : CtxM} {g : CtxG} {r : Option Value × Mem} (E : EV Y (WX g) cX8_commonDivisor 3 (some .int) RX8) (p0 : Int32) (p1 : Int32) : ∀ (f : Nat) (p2 : Int32) (M : Mem) (q : Int32 ⊕ (Unit)), FX8_commonDivisor_L2 f p0 p1 p2 = some q → (∀ v, q = .inl v → r = (some (.int v), M)) → (∀ t, q = .inr t → AW Y (WX g) r 3 1 27 [] [] M) → AW Y (WX g) r 3 1 2 [(0, .int p0), (1, .int p1), (2, .int p2)] [] M := by
  intro f
  induction f with
  | zero => intro p2 M q hh; exact absurd hh (fun z => nomatch (show (none : Option (Int32 ⊕ (Unit))) = some q from z))
  | succ f ih =>
    intro p2 M q hh kr kx
    rw [FX8_commonDivisor_L2] at hh
    refine aw_iload_n E dX8_commonDivisor_2 2 rfl ?_
    refine aw_iconst (v := 1) E dX8_commonDivisor_3 (by decide) ?_
    refine aw_icmp_le (tgt := 27) E dX8_commonDivisor_4 rfl (fun c4 => ?_) (fun c4 => ?_)
    ·
      replace hh := ip c4 hh
      refine aw_sub (L1 := []) [] rfl ?_
      replace hh := Option.some.inj hh
      subst hh
      exact kx _ rfl
    ·
      replace hh := iq c4 hh
      refine aw_iload_n E dX8_commonDivisor_7 0 rfl ?_
      refine aw_iload_n E dX8_commonDivisor_8 2 rfl ?_
      obtain ⟨g101, hh⟩ := gd_e hh
      refine aw_irem E dX8_commonDivisor_9 g101 ?_
      obtain ⟨b102, e103, hh⟩ := bd_e hh
      have J104 : b102 = true → AW Y (WX g) r 3 1 19 [(0, .int p0), (1, .int p1), (2, .int p2)] [] M := fun hb => by
        replace hh := ip hb hh
        refine aw_iload_n E dX8_commonDivisor_19 2 rfl ?_
        replace hh := Option.some.inj hh
        subst hh
        exact aw_iret E dX8_commonDivisor_20 (kr _ rfl)
      have J105 : b102 = false → AW Y (WX g) r 3 1 21 [(0, .int p0), (1, .int p1), (2, .int p2)] [] M := fun hb => by
        replace hh := iq (bf hb) hh
        obtain ⟨x106, e107, hh⟩ := lt_e hh
        refine aw_iinc (v := x106) (L1 := [(2, .int x106), (0, .int p0), (1, .int p1)]) E dX8_commonDivisor_21 2 rfl e107 (Nat.le_of_ble_eq_true rfl) rfl ?_
        refine aw_goto (tgt := 2) E dX8_commonDivisor_24 rfl ?_
        refine aw_sub (L1 := [(0, .int p0), (1, .int p1), (2, .int x106)]) [1, 2, 0] rfl ?_
        exact ih x106 M _ hh kr kx
      refine aw_if_ne (tgt := 21) E dX8_commonDivisor_10 rfl (fun c10 => ?_) (fun c10 => ?_)
      ·
        replace e103 := iq c10 e103
        replace e103 := Option.some.inj e103
        subst e103
        exact J105 rfl
      ·
        replace e103 := ip c10 e103
        refine aw_iload_n E dX8_commonDivisor_13 1 rfl ?_
        refine aw_iload_n E dX8_commonDivisor_14 2 rfl ?_
        obtain ⟨g108, e103⟩ := gd_e e103
        refine aw_irem E dX8_commonDivisor_15 g108 ?_
        refine aw_if_ne (tgt := 21) E dX8_commonDivisor_16 rfl (fun c16 => ?_) (fun c16 => ?_)
        ·
          replace e103 := iq c16 e103
          replace e103 := Option.some.inj e103
          subst e103
          exact J105 rfl
        ·
          replace e103 := ip c16 e103
          replace e103 := Option.some.inj e103
          subst e103
          exact J104 rfl
set_option maxHeartbeats 4000000 in
set_option maxRecDepth 100000 in
theorem ctX8_commonDivisor (l : Launch) (g : CtxG) (a0 : Int32) (a1 : Int32) (M : Mem) (r0 : Int32) (h : FX8_commonDivisor a0 a1 = some r0) : Ct l (WX g) yX8_commonDivisor cX8_commonDivisor 3 (some .int) 1 [.int a0, .int a1] M (some (.int r0), M) := by
  refine Ct.of (by decide) (Nat.le_of_ble_eq_true rfl) (fun Y hY E => ?_)
  have E : EV Y (WX g) cX8_commonDivisor 3 (some .int) RX8 := E
  have h : FX8_commonDivisor a0 a1 = some r0 := h
  unfold FX8_commonDivisor at h
  show AW Y (WX g) _ 3 1 0 [(0, .int a0), (1, .int a1)] [] M
  obtain ⟨r, hr⟩ : ∃ r : Option Value × Mem, r = (some (.int r0), M) := ⟨_, rfl⟩
  rw [← hr]
  refine aw_iload_n E dX8_commonDivisor_0 1 rfl ?_
  refine aw_istore_n (L1 := [(2, .int a1), (0, .int a0), (1, .int a1)]) E dX8_commonDivisor_1 (Nat.le_of_ble_eq_true rfl) rfl ?_
  obtain ⟨q1, e2, h⟩ := bd_e h
  refine aw_sub (L1 := [(0, .int a0), (1, .int a1), (2, .int a1)]) [1, 2, 0] rfl ?_
  refine lpX8_commonDivisor_2 E   a0 a1 FU a1 M q1 e2 (fun v3 e4 => ?_) (fun q5 e6 => ?_)
  ·
    subst e4
    replace h := Option.some.inj h
    subst h
    exact hr
  ·
    subst e6
    refine aw_iconst (v := 1) E dX8_commonDivisor_27 (by decide) ?_
    replace h := Option.some.inj h
    subst h
    exact aw_iret E dX8_commonDivisor_28 hr
def FX8_copy (a1 : Int32) (a2 : Int32) (a3 : Int32) (a4 : Int32) (a5 : Int32) (M : Mem) : Option (Int32 × Mem) :=
  lt (α := Bool) (if (FX8_isSheet a1) = 0 then true else if (FX8_isSheet a3) = 0 then true else false) fun b1 =>
  if b1 = true then
    some ((-2), M)
  else
    gi a1 4 <|
    gi a3 4 <|
    lt (α := Bool) (if (FX2_isMissing (44 + (Int32.toNatClampNeg a1)) M) = 0 then if (FX2_isMissing (44 + (Int32.toNatClampNeg a3)) M) = 0 then false else true else true) fun b9 =>
    if b9 = true then
      some ((-11), M)
    else
      if (M.1 (44 + (Int32.toNatClampNeg a1)) 1) = (M.1 (44 + (Int32.toNatClampNeg a3)) 1) then
        lt (α := Bool) (if (FX2_holds (44 + (Int32.toNatClampNeg a1)) a2 a5 M) = 0 then true else if (FX2_holds (44 + (Int32.toNatClampNeg a3)) a4 a5 M) = 0 then true else false) fun b13 =>
        if b13 = true then
          some ((-12), M)
        else
          gd (¬ (a2 : Int32) < 0 ∧ ¬ (a4 : Int32) < 0 ∧ ¬ (a5 : Int32) < 0 ∧ (Int32.toNatClampNeg a2) + (Int32.toNatClampNeg a5) ≤ 40 ∧ (Int32.toNatClampNeg a4) + (Int32.toNatClampNeg a5) ≤ 40) <|
          lt (setC M ((44 + (Int32.toNatClampNeg a3)) + 4) (va_cpy (M.1 ((44 + (Int32.toNatClampNeg a1)) + 4)) (M.1 ((44 + (Int32.toNatClampNeg a3)) + 4)) (Int32.toNatClampNeg a2) (Int32.toNatClampNeg a4) (Int32.toNatClampNeg a5))) fun M18 =>
          some (a5, M18)
      else
        some ((-13), M)
set_option maxHeartbeats 4000000 in
set_option maxRecDepth 100000 in
theorem ctX8_copy (l : Launch) (g : CtxG) (a1 : Int32) (a2 : Int32) (a3 : Int32) (a4 : Int32) (a5 : Int32) (M : Mem) (r0 : Int32 × Mem) (h : FX8_copy a1 a2 a3 a4 a5 M = some r0) : Ct l (WX g) yX8_copy cX8_copy 8 (some .int) 2 [.ref (wad (WX g) 0), .int a1, .int a2, .int a3, .int a4, .int a5] M (some (.int r0.1), r0.2) := by
  refine Ct.of (by decide) (Nat.le_of_ble_eq_true rfl) (fun Y hY E => ?_)
  have E : EV Y (WX g) cX8_copy 8 (some .int) RX8 := E
  have h : FX8_copy a1 a2 a3 a4 a5 M = some r0 := h
  unfold FX8_copy at h
  show AW Y (WX g) _ 8 2 0 [(0, .ref (wad (WX g) 0)), (1, .int a1), (2, .int a2), (3, .int a3), (4, .int a4), (5, .int a5)] [] M
  obtain ⟨r, hr⟩ : ∃ r : Option Value × Mem, r = (some (.int r0.1), r0.2) := ⟨_, rfl⟩
  rw [← hr]
  refine aw_iload_n E dX8_copy_0 1 rfl ?_
  refine aw_callSi (S := []) E msX8_isSheet mlX8_243 rfl (ctX8_isSheet (yl Y) g a1  M ) rfl (Nat.le_of_ble_eq_true rfl) (Nat.le_of_ble_eq_true rfl) dX8_copy_1 ?_
  obtain ⟨b1, e2, h⟩ := lt_e h
  have J3 : b1 = true → AW Y (WX g) r 8 2 14 [(0, .ref (wad (WX g) 0)), (1, .int a1), (2, .int a2), (3, .int a3), (4, .int a4), (5, .int a5)] [] M := fun hb => by
    replace h := ip hb h
    refine aw_bipush (v := (-2)) E dX8_copy_14 (by decide) ?_
    replace h := Option.some.inj h
    subst h
    exact aw_iret E dX8_copy_16 hr
  have J4 : b1 = false → AW Y (WX g) r 8 2 17 [(0, .ref (wad (WX g) 0)), (1, .int a1), (2, .int a2), (3, .int a3), (4, .int a4), (5, .int a5)] [] M := fun hb => by
    replace h := iq (bf hb) h
    refine aw_aload_n E dX8_copy_17 0 rfl ?_
    refine aw_getR (q := 43) E flX8_66 (Nat.le_of_ble_eq_true rfl) rfl rfl dX8_copy_18 ?_
    refine aw_iload_n E dX8_copy_21 1 rfl ?_
    obtain ⟨g5, h⟩ := gi_e h
    refine aw_aldS E (Nat.le_of_ble_eq_true rfl) rfl g5 dX8_copy_22 ?_
    have f6 := sheets_of g5
    refine aw_astore (L1 := [(6, .ref (wad (WX g) (44 + (Int32.toNatClampNeg a1)))), (0, .ref (wad (WX g) 0)), (1, .int a1), (2, .int a2), (3, .int a3), (4, .int a4), (5, .int a5)]) E dX8_copy_23 (Nat.le_of_ble_eq_true rfl) rfl ?_
    refine aw_aload_n E dX8_copy_25 1 rfl ?_
    refine aw_getR (q := 43) E flX8_66 (Nat.le_of_ble_eq_true rfl) rfl rfl dX8_copy_26 ?_
    refine aw_iload_n E dX8_copy_29 4 rfl ?_
    obtain ⟨g7, h⟩ := gi_e h
    refine aw_aldS E (Nat.le_of_ble_eq_true rfl) rfl g7 dX8_copy_30 ?_
    have f8 := sheets_of g7
    refine aw_astore (L1 := [(7, .ref (wad (WX g) (44 + (Int32.toNatClampNeg a3)))), (6, .ref (wad (WX g) (44 + (Int32.toNatClampNeg a1)))), (0, .ref (wad (WX g) 0)), (1, .int a1), (2, .int a2), (3, .int a3), (4, .int a4), (5, .int a5)]) E dX8_copy_31 (Nat.le_of_ble_eq_true rfl) rfl ?_
    refine aw_aload E dX8_copy_33 1 rfl ?_
    refine aw_callVi (S := []) E mvX2_isMissing mlX8_246 f6.1 f6.2.1 rfl rfl (ctX2_isMissing (yl Y) g (44 + (Int32.toNatClampNeg a1)) f6 M ) rfl (Nat.le_of_ble_eq_true rfl) (Nat.le_of_ble_eq_true rfl) dX8_copy_35 ?_
    obtain ⟨b9, e10, h⟩ := lt_e h
    have J11 : b9 = true → AW Y (WX g) r 8 2 49 [(7, .ref (wad (WX g) (44 + (Int32.toNatClampNeg a3)))), (6, .ref (wad (WX g) (44 + (Int32.toNatClampNeg a1)))), (0, .ref (wad (WX g) 0)), (1, .int a1), (2, .int a2), (3, .int a3), (4, .int a4), (5, .int a5)] [] M := fun hb => by
      replace h := ip hb h
      refine aw_bipush (v := (-11)) E dX8_copy_49 (by decide) ?_
      replace h := Option.some.inj h
      subst h
      exact aw_iret E dX8_copy_51 hr
    have J12 : b9 = false → AW Y (WX g) r 8 2 52 [(7, .ref (wad (WX g) (44 + (Int32.toNatClampNeg a3)))), (6, .ref (wad (WX g) (44 + (Int32.toNatClampNeg a1)))), (0, .ref (wad (WX g) 0)), (1, .int a1), (2, .int a2), (3, .int a3), (4, .int a4), (5, .int a5)] [] M := fun hb => by
      replace h := iq (bf hb) h
      refine aw_aload E dX8_copy_52 1 rfl ?_
      refine aw_getI E flX8_279 f6.1 f6.2.1 rfl dX8_copy_54 ?_
      refine aw_aload E dX8_copy_57 0 rfl ?_
      refine aw_getI E flX8_279 f8.1 f8.2.1 rfl dX8_copy_59 ?_
      refine aw_icmp_eq (tgt := 68) E dX8_copy_62 rfl (fun c62 => ?_) (fun c62 => ?_)
      ·
        replace h := ip c62 h
        refine aw_aload E dX8_copy_68 1 rfl ?_
        refine aw_iload_n E dX8_copy_70 4 rfl ?_
        refine aw_iload E dX8_copy_71 7 rfl ?_
        refine aw_callVi (S := []) E mvX2_holds mlX8_282 f6.1 f6.2.1 rfl rfl (ctX2_holds (yl Y) g (44 + (Int32.toNatClampNeg a1)) a2 a5 f6 M ) rfl (Nat.le_of_ble_eq_true rfl) (Nat.le_of_ble_eq_true rfl) dX8_copy_73 ?_
        obtain ⟨b13, e14, h⟩ := lt_e h
        have J15 : b13 = true → AW Y (WX g) r 8 2 91 [(7, .ref (wad (WX g) (44 + (Int32.toNatClampNeg a3)))), (6, .ref (wad (WX g) (44 + (Int32.toNatClampNeg a1)))), (0, .ref (wad (WX g) 0)), (1, .int a1), (2, .int a2), (3, .int a3), (4, .int a4), (5, .int a5)] [] M := fun hb => by
          replace h := ip hb h
          refine aw_bipush (v := (-12)) E dX8_copy_91 (by decide) ?_
          replace h := Option.some.inj h
          subst h
          exact aw_iret E dX8_copy_93 hr
        have J16 : b13 = false → AW Y (WX g) r 8 2 94 [(7, .ref (wad (WX g) (44 + (Int32.toNatClampNeg a3)))), (6, .ref (wad (WX g) (44 + (Int32.toNatClampNeg a1)))), (0, .ref (wad (WX g) 0)), (1, .int a1), (2, .int a2), (3, .int a3), (4, .int a4), (5, .int a5)] [] M := fun hb => by
          replace h := iq (bf hb) h
          refine aw_aload E dX8_copy_94 1 rfl ?_
          refine aw_getR (q := ((44 + (Int32.toNatClampNeg a1)) + 4)) E flX8_285 f6.1 f6.2.1 rfl dX8_copy_96 ?_
          refine aw_iload_n E dX8_copy_99 4 rfl ?_
          refine aw_aload E dX8_copy_100 0 rfl ?_
          refine aw_getR (q := ((44 + (Int32.toNatClampNeg a3)) + 4)) E flX8_285 f8.1 f8.2.1 rfl dX8_copy_102 ?_
          refine aw_iload E dX8_copy_105 6 rfl ?_
          refine aw_iload E dX8_copy_107 7 rfl ?_
          obtain ⟨g17, h⟩ := gd_e h
          obtain ⟨M18, e19, h⟩ := lt_e h
          refine aw_acopy1 e19 E mlX8_288 f6.2.2.1 f6.2.2.2 f8.2.2.1 f8.2.2.2 g17 (Nat.le_of_ble_eq_true rfl) (Nat.le_of_ble_eq_true rfl) dX8_copy_109 ?_
          refine aw_iload E dX8_copy_112 7 rfl ?_
          replace h := Option.some.inj h
          subst h
          exact aw_iret E dX8_copy_114 hr
        refine aw_if_eq (tgt := 91) E dX8_copy_76 rfl (fun c76 => ?_) (fun c76 => ?_)
        ·
          replace e14 := ip c76 e14
          subst e14
          exact J15 rfl
        ·
          replace e14 := iq c76 e14
          refine aw_aload E dX8_copy_79 0 rfl ?_
          refine aw_iload E dX8_copy_81 6 rfl ?_
          refine aw_iload E dX8_copy_83 7 rfl ?_
          refine aw_callVi (S := []) E mvX2_holds mlX8_282 f8.1 f8.2.1 rfl rfl (ctX2_holds (yl Y) g (44 + (Int32.toNatClampNeg a3)) a4 a5 f8 M ) rfl (Nat.le_of_ble_eq_true rfl) (Nat.le_of_ble_eq_true rfl) dX8_copy_85 ?_
          refine aw_if_ne (tgt := 94) E dX8_copy_88 rfl (fun c88 => ?_) (fun c88 => ?_)
          ·
            replace e14 := iq c88 e14
            subst e14
            exact J16 rfl
          ·
            replace e14 := ip c88 e14
            subst e14
            exact J15 rfl
      ·
        replace h := iq c62 h
        refine aw_bipush (v := (-13)) E dX8_copy_65 (by decide) ?_
        replace h := Option.some.inj h
        subst h
        exact aw_iret E dX8_copy_67 hr
    refine aw_if_ne (tgt := 49) E dX8_copy_38 rfl (fun c38 => ?_) (fun c38 => ?_)
    ·
      replace e10 := iq c38 e10
      subst e10
      exact J11 rfl
    ·
      replace e10 := ip c38 e10
      refine aw_aload E dX8_copy_41 0 rfl ?_
      refine aw_callVi (S := []) E mvX2_isMissing mlX8_246 f8.1 f8.2.1 rfl rfl (ctX2_isMissing (yl Y) g (44 + (Int32.toNatClampNeg a3)) f8 M ) rfl (Nat.le_of_ble_eq_true rfl) (Nat.le_of_ble_eq_true rfl) dX8_copy_43 ?_
      refine aw_if_eq (tgt := 52) E dX8_copy_46 rfl (fun c46 => ?_) (fun c46 => ?_)
      ·
        replace e10 := ip c46 e10
        subst e10
        exact J12 rfl
      ·
        replace e10 := iq c46 e10
        subst e10
        exact J11 rfl
  refine aw_if_eq (tgt := 14) E dX8_copy_4 rfl (fun c4 => ?_) (fun c4 => ?_)
  ·
    replace e2 := ip c4 e2
    subst e2
    exact J3 rfl
  ·
    replace e2 := iq c4 e2
    refine aw_iload_n E dX8_copy_7 3 rfl ?_
    refine aw_callSi (S := []) E msX8_isSheet mlX8_243 rfl (ctX8_isSheet (yl Y) g a3  M ) rfl (Nat.le_of_ble_eq_true rfl) (Nat.le_of_ble_eq_true rfl) dX8_copy_8 ?_
    refine aw_if_ne (tgt := 17) E dX8_copy_11 rfl (fun c11 => ?_) (fun c11 => ?_)
    ·
      replace e2 := iq c11 e2
      subst e2
      exact J4 rfl
    ·
      replace e2 := ip c11 e2
      subst e2
      exact J3 rfl
def FX8_count (a1 : Int32) (M : Mem) : Int32 :=
  if a1 = 0 then
    M.1 1 0
  else if a1 = 1 then
    M.1 1 1
  else if a1 = 2 then
    M.1 1 2
  else if a1 = 3 then
    M.1 1 4
  else if a1 = 4 then
    M.1 1 3
  else if a1 = 5 then
    M.1 14 4
  else if a1 = 6 then
    M.1 1 5
  else if a1 = 7 then
    M.1 10 1
  else 
    (-2)
set_option maxHeartbeats 4000000 in
set_option maxRecDepth 100000 in
theorem ctX8_count (l : Launch) (g : CtxG) (a1 : Int32) (M : Mem) : Ct l (WX g) yX8_count cX8_count 2 (some .int) 1 [.ref (wad (WX g) 0), .int a1] M (some (.int (FX8_count a1 M)), M) := by
  obtain ⟨r0, h⟩ : ∃ r0, FX8_count a1 M = r0 := ⟨_, rfl⟩
  rw [h]
  refine Ct.of (by decide) (Nat.le_of_ble_eq_true rfl) (fun Y hY E => ?_)
  have E : EV Y (WX g) cX8_count 2 (some .int) RX8 := E
  --generalize hr : ((some (Value.int r0), M) : Option Value × Mem) = r
  have h : FX8_count a1 M = r0 := h
  unfold FX8_count at h
  show AW Y (WX g) _ 2 1 0 [(0, .ref (wad (WX g) 0)), (1, .int a1)] [] M
  obtain ⟨r, hr⟩ : ∃ r : Option Value × Mem, r = (some (.int r0), M) := ⟨_, rfl⟩
  rw [← hr]
  refine aw_iload_n E dX8_count_0 1 rfl ?_
  by_cases c1_0 : a1 = 0
  ·
    replace h := ip c1_0 h
    refine aw_tin (tgt := 48) (off := 47) E dX8_count_1 (by rw [c1_0]; decide) (by rw [c1_0]; decide) (by rw [c1_0]; decide) (by decide) ?_
    refine aw_aload_n E dX8_count_48 0 rfl ?_
    refine aw_getR (q := 1) E flX8_12 (Nat.le_of_ble_eq_true rfl) rfl rfl dX8_count_49 ?_
    refine aw_getI E flX8_105 (Nat.le_of_ble_eq_true rfl) rfl rfl dX8_count_52 ?_
    subst h
    exact aw_iret E dX8_count_55 hr
  replace h := iq c1_0 h
  by_cases c1_1 : a1 = 1
  ·
    replace h := ip c1_1 h
    refine aw_tin (tgt := 56) (off := 55) E dX8_count_1 (by rw [c1_1]; decide) (by rw [c1_1]; decide) (by rw [c1_1]; decide) (by decide) ?_
    refine aw_aload_n E dX8_count_56 0 rfl ?_
    refine aw_getR (q := 1) E flX8_12 (Nat.le_of_ble_eq_true rfl) rfl rfl dX8_count_57 ?_
    refine aw_getI E flX8_70 (Nat.le_of_ble_eq_true rfl) rfl rfl dX8_count_60 ?_
    subst h
    exact aw_iret E dX8_count_63 hr
  replace h := iq c1_1 h
  by_cases c1_2 : a1 = 2
  ·
    replace h := ip c1_2 h
    refine aw_tin (tgt := 64) (off := 63) E dX8_count_1 (by rw [c1_2]; decide) (by rw [c1_2]; decide) (by rw [c1_2]; decide) (by decide) ?_
    refine aw_aload_n E dX8_count_64 0 rfl ?_
    refine aw_getR (q := 1) E flX8_12 (Nat.le_of_ble_eq_true rfl) rfl rfl dX8_count_65 ?_
    refine aw_getI E flX8_108 (Nat.le_of_ble_eq_true rfl) rfl rfl dX8_count_68 ?_
    subst h
    exact aw_iret E dX8_count_71 hr
  replace h := iq c1_2 h
  by_cases c1_3 : a1 = 3
  ·
    replace h := ip c1_3 h
    refine aw_tin (tgt := 72) (off := 71) E dX8_count_1 (by rw [c1_3]; decide) (by rw [c1_3]; decide) (by rw [c1_3]; decide) (by decide) ?_
    refine aw_aload_n E dX8_count_72 0 rfl ?_
    refine aw_getR (q := 1) E flX8_12 (Nat.le_of_ble_eq_true rfl) rfl rfl dX8_count_73 ?_
    refine aw_getI E flX8_111 (Nat.le_of_ble_eq_true rfl) rfl rfl dX8_count_76 ?_
    subst h
    exact aw_iret E dX8_count_79 hr
  replace h := iq c1_3 h
  by_cases c1_4 : a1 = 4
  ·
    replace h := ip c1_4 h
    refine aw_tin (tgt := 80) (off := 79) E dX8_count_1 (by rw [c1_4]; decide) (by rw [c1_4]; decide) (by rw [c1_4]; decide) (by decide) ?_
    refine aw_aload_n E dX8_count_80 0 rfl ?_
    refine aw_getR (q := 1) E flX8_12 (Nat.le_of_ble_eq_true rfl) rfl rfl dX8_count_81 ?_
    refine aw_getI E flX8_113 (Nat.le_of_ble_eq_true rfl) rfl rfl dX8_count_84 ?_
    subst h
    exact aw_iret E dX8_count_87 hr
  replace h := iq c1_4 h
  by_cases c1_5 : a1 = 5
  ·
    replace h := ip c1_5 h
    refine aw_tin (tgt := 88) (off := 87) E dX8_count_1 (by rw [c1_5]; decide) (by rw [c1_5]; decide) (by rw [c1_5]; decide) (by decide) ?_
    refine aw_aload_n E dX8_count_88 0 rfl ?_
    refine aw_getR (q := 14) E flX8_39 (Nat.le_of_ble_eq_true rfl) rfl rfl dX8_count_89 ?_
    refine aw_getI E flX8_116 (Nat.le_of_ble_eq_true rfl) rfl rfl dX8_count_92 ?_
    subst h
    exact aw_iret E dX8_count_95 hr
  replace h := iq c1_5 h
  by_cases c1_6 : a1 = 6
  ·
    replace h := ip c1_6 h
    refine aw_tin (tgt := 96) (off := 95) E dX8_count_1 (by rw [c1_6]; decide) (by rw [c1_6]; decide) (by rw [c1_6]; decide) (by decide) ?_
    refine aw_aload_n E dX8_count_96 0 rfl ?_
    refine aw_getR (q := 1) E flX8_12 (Nat.le_of_ble_eq_true rfl) rfl rfl dX8_count_97 ?_
    refine aw_getI E flX8_119 (Nat.le_of_ble_eq_true rfl) rfl rfl dX8_count_100 ?_
    subst h
    exact aw_iret E dX8_count_103 hr
  replace h := iq c1_6 h
  by_cases c1_7 : a1 = 7
  ·
    replace h := ip c1_7 h
    refine aw_tin (tgt := 104) (off := 103) E dX8_count_1 (by rw [c1_7]; decide) (by rw [c1_7]; decide) (by rw [c1_7]; decide) (by decide) ?_
    refine aw_aload_n E dX8_count_104 0 rfl ?_
    refine aw_getR (q := 10) E flX8_32 (Nat.le_of_ble_eq_true rfl) rfl rfl dX8_count_105 ?_
    refine aw_getI E flX8_98 (Nat.le_of_ble_eq_true rfl) rfl rfl dX8_count_108 ?_
    subst h
    exact aw_iret E dX8_count_111 hr
  replace h := iq c1_7 h
  have nc1_0 := lv_neT (k := 0) (a := 0) c1_0 (by decide)
  have nc1_1 := lv_neT (k := 1) (a := 1) c1_1 (by decide)
  have nc1_2 := lv_neT (k := 2) (a := 2) c1_2 (by decide)
  have nc1_3 := lv_neT (k := 3) (a := 3) c1_3 (by decide)
  have nc1_4 := lv_neT (k := 4) (a := 4) c1_4 (by decide)
  have nc1_5 := lv_neT (k := 5) (a := 5) c1_5 (by decide)
  have nc1_6 := lv_neT (k := 6) (a := 6) c1_6 (by decide)
  have nc1_7 := lv_neT (k := 7) (a := 7) c1_7 (by decide)
  refine aw_tout (tgt := 112) E dX8_count_1 (by omega) (by decide) ?_
  refine aw_bipush (v := (-2)) E dX8_count_112 (by decide) ?_
  subst h
  exact aw_iret E dX8_count_114 hr
def FX8_pick_L4 : Nat → Int32 → Int32 → Int32 → Option (Int32 ⊕ (Unit))
  | 0, _, _, _ => none
  | f + 1, p0, p2, p3 =>
    if 12 ≤ p3 then
      some (.inr (()))
    else
      if ((p0 >>> (p3 &&& 31)) &&& 1) = 0 then
        lt (α := Int32) (p3 + 1) fun x101 =>
        FX8_pick_L4 f p0 p2 x101
      else
        lt (α := Int32) (p2 + (-1)) fun x103 =>
        if p2 = 0 then
          some (.inl p3)
        else
          lt (α := Int32) (p3 + 1) fun x105 =>
          FX8_pick_L4 f p0 x103 x105
def FX8_pick (a0 : Int32) (a1 : Int32) : Option (Int32) :=
  ob (FX8_pick_L4 FU a0 a1 0) fun q1 => Sum.elim (fun v3 => some v3) (fun q5 =>
    some 0) q1
set_option maxHeartbeats 4000000 in
set_option maxRecDepth 100000 in
theorem lpX8_pick_4 {Y : CtxM} {g : CtxG} {r : Option Value × Mem} (E : EV Y (WX g) cX8_pick 4 (some .int) RX8) (p0 : Int32) : ∀ (f : Nat) (p2 : Int32) (p3 : Int32) (M : Mem) (q : Int32 ⊕ (Unit)), FX8_pick_L4 f p0 p2 p3 = some q → (∀ v, q = .inl v → r = (some (.int v), M)) → (∀ t, q = .inr t → AW Y (WX g) r 4 1 33 [] [] M) → AW Y (WX g) r 4 1 4 [(0, .int p0), (2, .int p2), (3, .int p3)] [] M := by
  intro f
  induction f with
  | zero => intro p2 p3 M q hh; exact absurd hh (fun z => nomatch (show (none : Option (Int32 ⊕ (Unit))) = some q from z))
  | succ f ih =>
    intro p2 p3 M q hh kr kx
    rw [FX8_pick_L4] at hh
    refine aw_iload_n E dX8_pick_4 2 rfl ?_
    refine aw_bipush (v := 12) E dX8_pick_5 (by decide) ?_
    refine aw_icmp_ge (tgt := 33) E dX8_pick_7 rfl (fun c7 => ?_) (fun c7 => ?_)
    ·
      replace hh := ip c7 hh
      refine aw_sub (L1 := []) [] rfl ?_
      replace hh := Option.some.inj hh
      subst hh
      exact kx _ rfl
    ·
      replace hh := iq c7 hh
      refine aw_iload_n E dX8_pick_10 0 rfl ?_
      refine aw_iload_n E dX8_pick_11 2 rfl ?_
      refine aw_ishr E dX8_pick_12 ?_
      refine aw_iconst (v := 1) E dX8_pick_13 (by decide) ?_
      refine aw_iand E dX8_pick_14 ?_
      refine aw_if_eq (tgt := 27) E dX8_pick_15 rfl (fun c15 => ?_) (fun c15 => ?_)
      ·
        replace hh := ip c15 hh
        obtain ⟨x101, e102, hh⟩ := lt_e hh
        refine aw_iinc (v := x101) (L1 := [(3, .int x101), (0, .int p0), (2, .int p2)]) E dX8_pick_27 2 rfl e102 (Nat.le_of_ble_eq_true rfl) rfl ?_
        refine aw_goto (tgt := 4) E dX8_pick_30 rfl ?_
        refine aw_sub (L1 := [(0, .int p0), (2, .int p2), (3, .int x101)]) [1, 2, 0] rfl ?_
        exact ih p2 x101 M _ hh kr kx
      ·
        replace hh := iq c15 hh
        refine aw_iload_n E dX8_pick_18 1 rfl ?_
        obtain ⟨x103, e104, hh⟩ := lt_e hh
        refine aw_iinc (v := x103) (L1 := [(2, .int x103), (0, .int p0), (3, .int p3)]) E dX8_pick_19 1 rfl e104 (Nat.le_of_ble_eq_true rfl) rfl ?_
        refine aw_if_ne (tgt := 27) E dX8_pick_22 rfl (fun c22 => ?_) (fun c22 => ?_)
        ·
          replace hh := iq c22 hh
          obtain ⟨x105, e106, hh⟩ := lt_e hh
          refine aw_iinc (v := x105) (L1 := [(3, .int x105), (2, .int x103), (0, .int p0)]) E dX8_pick_27 2 rfl e106 (Nat.le_of_ble_eq_true rfl) rfl ?_
          refine aw_goto (tgt := 4) E dX8_pick_30 rfl ?_
          refine aw_sub (L1 := [(0, .int p0), (2, .int x103), (3, .int x105)]) [2, 1, 0] rfl ?_
          exact ih x103 x105 M _ hh kr kx
        ·
          replace hh := ip c22 hh
          refine aw_iload_n E dX8_pick_25 2 rfl ?_
          replace hh := Option.some.inj hh
          subst hh
          exact aw_iret E dX8_pick_26 (kr _ rfl)
set_option maxHeartbeats 4000000 in
set_option maxRecDepth 100000 in
theorem ctX8_pick (l : Launch) (g : CtxG) (a0 : Int32) (a1 : Int32) (M : Mem) (r0 : Int32) (h : FX8_pick a0 a1 = some r0) : Ct l (WX g) yX8_pick cX8_pick 4 (some .int) 1 [.int a0, .int a1] M (some (.int r0), M) := by
  refine Ct.of (by decide) (Nat.le_of_ble_eq_true rfl) (fun Y hY E => ?_)
  have E : EV Y (WX g) cX8_pick 4 (some .int) RX8 := E
  have h : FX8_pick a0 a1 = some r0 := h
  unfold FX8_pick at h
  show AW Y (WX g) _ 4 1 0 [(0, .int a0), (1, .int a1)] [] M
  obtain ⟨r, hr⟩ : ∃ r : Option Value × Mem, r = (some (.int r0), M) := ⟨_, rfl⟩
  rw [← hr]
  refine aw_iload_n E dX8_pick_0 1 rfl ?_
  refine aw_istore_n (L1 := [(2, .int a1), (0, .int a0), (1, .int a1)]) E dX8_pick_1 (Nat.le_of_ble_eq_true rfl) rfl ?_
  refine aw_iconst (v := 0) E dX8_pick_2 (by decide) ?_
  refine aw_istore_n (L1 := [(3, .int 0), (2, .int a1), (0, .int a0), (1, .int a1)]) E dX8_pick_3 (Nat.le_of_ble_eq_true rfl) rfl ?_
  obtain ⟨q1, e2, h⟩ := bd_e h
  refine aw_sub (L1 := [(0, .int a0), (2, .int a1), (3, .int 0)]) [2, 1, 0] rfl ?_
  refine lpX8_pick_4 E   a0 FU a1 0 M q1 e2 (fun v3 e4 => ?_) (fun q5 e6 => ?_)
  ·
    subst e4
    replace h := Option.some.inj h
    subst h
    exact hr
  ·
    subst e6
    refine aw_iconst (v := 0) E dX8_pick_33 (by decide) ?_
    replace h := Option.some.inj h
    subst h
    exact aw_iret E dX8_pick_34 hr
def FX8_stray_L19 : Nat → Int64 → Int32 → Mem → Option (Mem ⊕ (Mem))
  | 0, _, _, _ => none
  | f + 1, p2, p4, M =>
    if 12 ≤ p4 then
      some (.inr M)
    else
      ob (FX7_next (M.1 42 0) 0 M) fun q101 =>
      lt (α := Int32) (FJ6_bitCount_0f7a4 q101) fun x103 =>
      if x103 = 0 then
        some (.inl M)
      else
        lt (α := Bool) (if p4 ≤ 0 then false else if (FX4_corner M) = (M.1 1 0) then true else false) fun b105 =>
        if b105 = true then
          some (.inl M)
        else
          lt (α := Int64) ((p2 * 48271) - (p2 * 48271) / 2147483647 * 2147483647) fun x109 =>
          gd (¬ (x103.toInt64) = 0) <|
          ob (FX8_pick q101 ((x109 - x109 / (x103.toInt64) * (x103.toInt64)).toInt32)) fun q112 =>
          ob (FX4_go q112 M) fun q114 =>
          lt (α := Int32) (p4 + 1) fun x116 =>
          FX8_stray_L19 f  x109 x116 q114
def FX8_stray (a1 : Int32) (M : Mem) : Option (Mem) :=
  ob (FX4_begin M) fun q1 =>
  lt (α := Int64) ((a1.toInt64) + 1) fun x3 =>
  ob (FX8_stray_L19 FU x3 0 q1) fun q5 => Sum.elim (fun v7 => some v7) (fun q9 =>
    some q9) q5
set_option maxHeartbeats 4000000 in
set_option maxRecDepth 100000 in
theorem lpX8_stray_19 {Y : CtxM} {g : CtxG} {r : Option Value × Mem} (E : EV Y (WX g) cX8_stray 7 none RX8) : ∀ (f : Nat) (p2 : Int64) (p4 : Int32) (M : Mem) (q : Mem ⊕ (Mem)), FX8_stray_L19 f  p2 p4 M = some q → (∀ v, q = .inl v → r = (none, v)) → (∀ t, q = .inr t → AW Y (WX g) r 7 4 116 [] [] t) → AW Y (WX g) r 7 4 19 [(0, .ref (wad (WX g) 0)), (2, .long p2), (4, .int p4)] [] M := by
  intro f
  induction f with
  | zero => intro p2 p4 M q hh; exact absurd hh (fun z => nomatch (show (none : Option (Mem ⊕ (Mem))) = some q from z))
  | succ f ih =>
    intro p2 p4 M q hh kr kx
    rw [FX8_stray_L19] at hh
    refine aw_iload E dX8_stray_19 2 rfl ?_
    refine aw_bipush (v := 12) E dX8_stray_21 (by decide) ?_
    refine aw_icmp_ge (tgt := 116) E dX8_stray_23 rfl (fun c23 => ?_) (fun c23 => ?_)
    ·
      replace hh := ip c23 hh
      refine aw_sub (L1 := []) [] rfl ?_
      replace hh := Option.some.inj hh
      subst hh
      exact kx _ rfl
    ·
      replace hh := iq c23 hh
      refine aw_aload_n E dX8_stray_26 0 rfl ?_
      refine aw_getR (q := 31) E flX8_46 (Nat.le_of_ble_eq_true rfl) rfl rfl dX8_stray_27 ?_
      refine aw_aload_n E dX8_stray_30 0 rfl ?_
      refine aw_getR (q := 42) E flX8_60 (Nat.le_of_ble_eq_true rfl) rfl rfl dX8_stray_31 ?_
      refine aw_getI E flX8_309 (Nat.le_of_ble_eq_true rfl) rfl rfl dX8_stray_34 ?_
      refine aw_iconst (v := 0) E dX8_stray_37 (by decide) ?_
      obtain ⟨q101, e102, hh⟩ := bd_e hh
      refine aw_callVi (S := []) E mvX7_next mlX8_312 (Nat.le_of_ble_eq_true rfl) rfl rfl rfl (ctX7_next (yl Y) g (M.1 42 0) 0  M q101 e102) rfl (Nat.le_of_ble_eq_true rfl) (Nat.le_of_ble_eq_true rfl) dX8_stray_38 ?_
      refine aw_istore (L1 := [(5, .int q101), (0, .ref (wad (WX g) 0)), (2, .long p2), (4, .int p4)]) E dX8_stray_41 (Nat.le_of_ble_eq_true rfl) rfl ?_
      refine aw_iload E dX8_stray_43 0 rfl ?_
      refine aw_callSi (S := []) E msJ6_bitCount_0f7a4 mlX8_219 rfl (ctJ6_bitCount_0f7a4 (yl Y) g q101  M ) rfl (Nat.le_of_ble_eq_true rfl) (Nat.le_of_ble_eq_true rfl) dX8_stray_45 ?_
      obtain ⟨x103, e104, hh⟩ := lt_e hh
      refine aw_nmI e104 ?_
      refine aw_istore (L1 := [(6, .int x103), (5, .int q101), (0, .ref (wad (WX g) 0)), (2, .long p2), (4, .int p4)]) E dX8_stray_48 (Nat.le_of_ble_eq_true rfl) rfl ?_
      refine aw_iload E dX8_stray_50 0 rfl ?_
      refine aw_if_eq (tgt := 77) E dX8_stray_52 rfl (fun c52 => ?_) (fun c52 => ?_)
      ·
        replace hh := ip c52 hh
        replace hh := Option.some.inj hh
        subst hh
        exact aw_vret E dX8_stray_77 (kr _ rfl)
      ·
        replace hh := iq c52 hh
        refine aw_iload E dX8_stray_55 4 rfl ?_
        obtain ⟨b105, e106, hh⟩ := lt_e hh
        have J107 : b105 = true → AW Y (WX g) r 7 4 77 [(6, .int x103), (5, .int q101), (0, .ref (wad (WX g) 0)), (2, .long p2), (4, .int p4)] [] M := fun hb => by
          replace hh := ip hb hh
          replace hh := Option.some.inj hh
          subst hh
          exact aw_vret E dX8_stray_77 (kr _ rfl)
        have J108 : b105 = false → AW Y (WX g) r 7 4 78 [(6, .int x103), (5, .int q101), (0, .ref (wad (WX g) 0)), (2, .long p2), (4, .int p4)] [] M := fun hb => by
          replace hh := iq (bf hb) hh
          refine aw_lload_n E dX8_stray_78 3 rfl ?_
          refine aw_ldc2 (v := 48271) E kcX8_322 dX8_stray_79 ?_
          refine aw_lmul E dX8_stray_82 ?_
          refine aw_ldc2 (v := 2147483647) E kcX8_324 dX8_stray_83 ?_
          refine aw_lrem E dX8_stray_86 (by decide) ?_
          obtain ⟨x109, e110, hh⟩ := lt_e hh
          refine aw_nmJ e110 ?_
          refine aw_lstore_n (L1 := [(2, .long x109), (6, .int x103), (5, .int q101), (0, .ref (wad (WX g) 0)), (4, .int p4)]) E dX8_stray_87 (Nat.le_of_ble_eq_true rfl) rfl ?_
          refine aw_aload_n E dX8_stray_88 3 rfl ?_
          refine aw_getR (q := 42) E flX8_60 (Nat.le_of_ble_eq_true rfl) rfl rfl dX8_stray_89 ?_
          refine aw_aload_n E dX8_stray_92 3 rfl ?_
          refine aw_getR (q := 31) E flX8_46 (Nat.le_of_ble_eq_true rfl) rfl rfl dX8_stray_93 ?_
          refine aw_iload E dX8_stray_96 2 rfl ?_
          refine aw_lload_n E dX8_stray_98 0 rfl ?_
          refine aw_iload E dX8_stray_99 1 rfl ?_
          refine aw_i2l E dX8_stray_101 ?_
          obtain ⟨g111, hh⟩ := gd_e hh
          refine aw_lrem E dX8_stray_102 g111 ?_
          refine aw_l2i E dX8_stray_103 ?_
          obtain ⟨q112, e113, hh⟩ := bd_e hh
          refine aw_callSi (S := [.ref (wad (WX g) 31), .ref (wad (WX g) 42)]) E msX8_pick mlX8_326 rfl (ctX8_pick (yl Y) g q101 ((x109 - x109 / (x103.toInt64) * (x103.toInt64)).toInt32)  M q112 e113) rfl (Nat.le_of_ble_eq_true rfl) (Nat.le_of_ble_eq_true rfl) dX8_stray_104 ?_
          obtain ⟨q114, e115, hh⟩ := bd_e hh
          refine aw_callVv (S := []) E mvX4_go mlX8_318 (Nat.le_of_ble_eq_true rfl) rfl rfl rfl (ctX4_go (yl Y) g q112  M q114 e115) rfl (Nat.le_of_ble_eq_true rfl) (Nat.le_of_ble_eq_true rfl) dX8_stray_107 ?_
          obtain ⟨x116, e117, hh⟩ := lt_e hh
          refine aw_iinc (v := x116) (L1 := [(4, .int x116), (2, .long x109), (6, .int x103), (5, .int q101), (0, .ref (wad (WX g) 0))]) E dX8_stray_110 4 rfl e117 (Nat.le_of_ble_eq_true rfl) rfl ?_
          refine aw_goto (tgt := 19) E dX8_stray_113 rfl ?_
          refine aw_sub (L1 := [(0, .ref (wad (WX g) 0)), (2, .long x109), (4, .int x116)]) [4, 1, 0] rfl ?_
          exact ih x109 x116 q114 _ hh kr kx
        refine aw_if_le (tgt := 78) E dX8_stray_57 rfl (fun c57 => ?_) (fun c57 => ?_)
        ·
          replace e106 := ip c57 e106
          subst e106
          exact J108 rfl
        ·
          replace e106 := iq c57 e106
          refine aw_aload_n E dX8_stray_60 2 rfl ?_
          refine aw_getR (q := 42) E flX8_60 (Nat.le_of_ble_eq_true rfl) rfl rfl dX8_stray_61 ?_
          refine aw_callVi (S := []) E mvX4_corner mlX8_256 (Nat.le_of_ble_eq_true rfl) rfl rfl rfl (ctX4_corner (yl Y) g   M ) rfl (Nat.le_of_ble_eq_true rfl) (Nat.le_of_ble_eq_true rfl) dX8_stray_64 ?_
          refine aw_aload_n E dX8_stray_67 2 rfl ?_
          refine aw_getR (q := 1) E flX8_12 (Nat.le_of_ble_eq_true rfl) rfl rfl dX8_stray_68 ?_
          refine aw_getI E flX8_105 (Nat.le_of_ble_eq_true rfl) rfl rfl dX8_stray_71 ?_
          refine aw_icmp_ne (tgt := 78) E dX8_stray_74 rfl (fun c74 => ?_) (fun c74 => ?_)
          ·
            replace e106 := iq c74 e106
            subst e106
            exact J108 rfl
          ·
            replace e106 := ip c74 e106
            subst e106
            exact J107 rfl
set_option maxHeartbeats 4000000 in
set_option maxRecDepth 100000 in
theorem ctX8_stray (l : Launch) (g : CtxG) (a1 : Int32) (M : Mem) (r0 : Mem) (h : FX8_stray a1 M = some r0) : Ct l (WX g) yX8_stray cX8_stray 7 none 4 [.ref (wad (WX g) 0), .int a1] M (none, r0) := by
  refine Ct.of (by decide) (Nat.le_of_ble_eq_true rfl) (fun Y hY E => ?_)
  have E : EV Y (WX g) cX8_stray 7 none RX8 := E
  have h : FX8_stray a1 M = some r0 := h
  unfold FX8_stray at h
  show AW Y (WX g) _ 7 4 0 [(0, .ref (wad (WX g) 0)), (1, .int a1)] [] M
  obtain ⟨r, hr⟩ : ∃ r : Option Value × Mem, r = (none, r0) := ⟨_, rfl⟩
  rw [← hr]
  refine aw_aload_n E dX8_stray_0 0 rfl ?_
  refine aw_getR (q := 42) E flX8_60 (Nat.le_of_ble_eq_true rfl) rfl rfl dX8_stray_1 ?_
  refine aw_aload_n E dX8_stray_4 0 rfl ?_
  refine aw_getR (q := 31) E flX8_46 (Nat.le_of_ble_eq_true rfl) rfl rfl dX8_stray_5 ?_
  obtain ⟨q1, e2, h⟩ := bd_e h
  refine aw_callVv (S := []) E mvX4_begin mlX8_305 (Nat.le_of_ble_eq_true rfl) rfl rfl rfl (ctX4_begin (yl Y) g   M q1 e2) rfl (Nat.le_of_ble_eq_true rfl) (Nat.le_of_ble_eq_true rfl) dX8_stray_8 ?_
  refine aw_iload_n E dX8_stray_11 1 rfl ?_
  refine aw_i2l E dX8_stray_12 ?_
  refine aw_lconst (v := 1) E dX8_stray_13 (by decide) ?_
  refine aw_ladd E dX8_stray_14 ?_
  obtain ⟨x3, e4, h⟩ := lt_e h
  refine aw_nmJ e4 ?_
  refine aw_lstore_n (L1 := [(2, .long x3), (0, .ref (wad (WX g) 0)), (1, .int a1)]) E dX8_stray_15 (Nat.le_of_ble_eq_true rfl) rfl ?_
  refine aw_iconst (v := 0) E dX8_stray_16 (by decide) ?_
  refine aw_istore (L1 := [(4, .int 0), (2, .long x3), (0, .ref (wad (WX g) 0)), (1, .int a1)]) E dX8_stray_17 (Nat.le_of_ble_eq_true rfl) rfl ?_
  obtain ⟨q5, e6, h⟩ := bd_e h
  refine aw_sub (L1 := [(0, .ref (wad (WX g) 0)), (2, .long x3), (4, .int 0)]) [2, 1, 0] rfl ?_
  refine lpX8_stray_19 E    FU x3 0 q1 q5 e6 (fun v7 e8 => ?_) (fun q9 e10 => ?_)
  ·
    subst e8
    replace h := Option.some.inj h
    subst h
    exact hr
  ·
    subst e10
    replace h := Option.some.inj h
    subst h
    exact aw_vret E dX8_stray_116 hr
def FX8_drawn (a1 : Int32) (a2 : Int32) (M : Mem) : Option (Int32 × Mem) :=
  if a1 < 0 then
    some ((-2), M)
  else
    lt (α := Bool) (if 99999 < a1 then true else if a2 < 0 then true else if a2 ≤ 2 then false else true) fun b1 =>
    if b1 = true then
      some ((-2), M)
    else
      ob (FX7_lay 1 M) fun q5 =>
      ob (FX8_stray a1 q5) fun q7 =>
      if a2 = 0 then
        some (q7.1 42 1, q7)
      else
        if a2 = 1 then
          some (FX4_corner q7, q7)
        else
          some (q7.1 42 2, q7)
set_option maxHeartbeats 4000000 in
set_option maxRecDepth 100000 in
theorem ctX8_drawn (l : Launch) (g : CtxG) (a1 : Int32) (a2 : Int32) (M : Mem) (r0 : Int32 × Mem) (h : FX8_drawn a1 a2 M = some r0) : Ct l (WX g) yX8_drawn cX8_drawn 3 (some .int) 5 [.ref (wad (WX g) 0), .int a1, .int a2] M (some (.int r0.1), r0.2) := by
  refine Ct.of (by decide) (Nat.le_of_ble_eq_true rfl) (fun Y hY E => ?_)
  have E : EV Y (WX g) cX8_drawn 3 (some .int) RX8 := E
  have h : FX8_drawn a1 a2 M = some r0 := h
  unfold FX8_drawn at h
  show AW Y (WX g) _ 3 5 0 [(0, .ref (wad (WX g) 0)), (1, .int a1), (2, .int a2)] [] M
  obtain ⟨r, hr⟩ : ∃ r : Option Value × Mem, r = (some (.int r0.1), r0.2) := ⟨_, rfl⟩
  rw [← hr]
  refine aw_iload_n E dX8_drawn_0 1 rfl ?_
  refine aw_if_lt (tgt := 20) E dX8_drawn_1 rfl (fun c1 => ?_) (fun c1 => ?_)
  ·
    replace h := ip c1 h
    refine aw_bipush (v := (-2)) E dX8_drawn_20 (by decide) ?_
    replace h := Option.some.inj h
    subst h
    exact aw_iret E dX8_drawn_22 hr
  ·
    replace h := iq c1 h
    refine aw_iload_n E dX8_drawn_4 1 rfl ?_
    refine aw_ldcw (v := 99999) E kcX8_268 dX8_drawn_5 ?_
    obtain ⟨b1, e2, h⟩ := lt_e h
    have J3 : b1 = true → AW Y (WX g) r 3 5 20 [(0, .ref (wad (WX g) 0)), (1, .int a1), (2, .int a2)] [] M := fun hb => by
      replace h := ip hb h
      refine aw_bipush (v := (-2)) E dX8_drawn_20 (by decide) ?_
      replace h := Option.some.inj h
      subst h
      exact aw_iret E dX8_drawn_22 hr
    have J4 : b1 = false → AW Y (WX g) r 3 5 23 [(0, .ref (wad (WX g) 0)), (1, .int a1), (2, .int a2)] [] M := fun hb => by
      replace h := iq (bf hb) h
      refine aw_aload_n E dX8_drawn_23 0 rfl ?_
      refine aw_getR (q := 31) E flX8_46 (Nat.le_of_ble_eq_true rfl) rfl rfl dX8_drawn_24 ?_
      refine aw_aload_n E dX8_drawn_27 0 rfl ?_
      refine aw_getR (q := 1) E flX8_12 (Nat.le_of_ble_eq_true rfl) rfl rfl dX8_drawn_28 ?_
      refine aw_aload_n E dX8_drawn_31 0 rfl ?_
      refine aw_getR (q := 4) E flX8_25 (Nat.le_of_ble_eq_true rfl) rfl rfl dX8_drawn_32 ?_
      refine aw_aload_n E dX8_drawn_35 0 rfl ?_
      refine aw_getR (q := 14) E flX8_39 (Nat.le_of_ble_eq_true rfl) rfl rfl dX8_drawn_36 ?_
      obtain ⟨q5, e6, h⟩ := bd_e h
      refine aw_callVv (S := []) E mvX7_lay mlX8_163 (Nat.le_of_ble_eq_true rfl) rfl rfl rfl (ctX7_lay (yl Y) g 1 set1 M q5 e6) rfl (Nat.le_of_ble_eq_true rfl) (Nat.le_of_ble_eq_true rfl) dX8_drawn_39 ?_
      refine aw_aload_n E dX8_drawn_42 0 rfl ?_
      refine aw_iload_n E dX8_drawn_43 1 rfl ?_
      obtain ⟨q7, e8, h⟩ := bd_e h
      refine aw_callVv (S := []) E mvX8_stray mlX8_269 (Nat.le_of_ble_eq_true rfl) rfl rfl rfl (ctX8_stray (yl Y) g a1  q5 q7 e8) rfl (Nat.le_of_ble_eq_true rfl) (Nat.le_of_ble_eq_true rfl) dX8_drawn_44 ?_
      refine aw_iload_n E dX8_drawn_47 2 rfl ?_
      refine aw_if_ne (tgt := 61) E dX8_drawn_48 rfl (fun c48 => ?_) (fun c48 => ?_)
      ·
        replace h := iq c48 h
        refine aw_iload_n E dX8_drawn_61 2 rfl ?_
        refine aw_iconst (v := 1) E dX8_drawn_62 (by decide) ?_
        refine aw_icmp_ne (tgt := 76) E dX8_drawn_63 rfl (fun c63 => ?_) (fun c63 => ?_)
        ·
          replace h := iq c63 h
          refine aw_aload_n E dX8_drawn_76 0 rfl ?_
          refine aw_getR (q := 42) E flX8_60 (Nat.le_of_ble_eq_true rfl) rfl rfl dX8_drawn_77 ?_
          refine aw_getI E flX8_272 (Nat.le_of_ble_eq_true rfl) rfl rfl dX8_drawn_80 ?_
          replace h := Option.some.inj h
          subst h
          exact aw_iret E dX8_drawn_83 hr
        ·
          replace h := ip c63 h
          refine aw_aload_n E dX8_drawn_66 0 rfl ?_
          refine aw_getR (q := 42) E flX8_60 (Nat.le_of_ble_eq_true rfl) rfl rfl dX8_drawn_67 ?_
          refine aw_callVi (S := []) E mvX4_corner mlX8_256 (Nat.le_of_ble_eq_true rfl) rfl rfl rfl (ctX4_corner (yl Y) g   q7 ) rfl (Nat.le_of_ble_eq_true rfl) (Nat.le_of_ble_eq_true rfl) dX8_drawn_70 ?_
          refine aw_goto (tgt := 83) E dX8_drawn_73 rfl ?_
          replace h := Option.some.inj h
          subst h
          exact aw_iret E dX8_drawn_83 hr
      ·
        replace h := ip c48 h
        refine aw_aload_n E dX8_drawn_51 0 rfl ?_
        refine aw_getR (q := 42) E flX8_60 (Nat.le_of_ble_eq_true rfl) rfl rfl dX8_drawn_52 ?_
        refine aw_getI E flX8_254 (Nat.le_of_ble_eq_true rfl) rfl rfl dX8_drawn_55 ?_
        refine aw_goto (tgt := 83) E dX8_drawn_58 rfl ?_
        replace h := Option.some.inj h
        subst h
        exact aw_iret E dX8_drawn_83 hr
    refine aw_icmp_gt (tgt := 20) E dX8_drawn_8 rfl (fun c8 => ?_) (fun c8 => ?_)
    ·
      replace e2 := ip c8 e2
      subst e2
      exact J3 rfl
    ·
      replace e2 := iq c8 e2
      refine aw_iload_n E dX8_drawn_11 2 rfl ?_
      refine aw_if_lt (tgt := 20) E dX8_drawn_12 rfl (fun c12 => ?_) (fun c12 => ?_)
      ·
        replace e2 := ip c12 e2
        subst e2
        exact J3 rfl
      ·
        replace e2 := iq c12 e2
        refine aw_iload_n E dX8_drawn_15 2 rfl ?_
        refine aw_iconst (v := 2) E dX8_drawn_16 (by decide) ?_
        refine aw_icmp_le (tgt := 23) E dX8_drawn_17 rfl (fun c17 => ?_) (fun c17 => ?_)
        ·
          replace e2 := ip c17 e2
          subst e2
          exact J4 rfl
        ·
          replace e2 := iq c17 e2
          subst e2
          exact J3 rfl
def FX8_isByte (a0 : Int32) : Int32 :=
  lt (α := Bool) (if a0 < 0 then false else if 255 < a0 then false else true) fun b1 =>
  if b1 = true then
    1
  else
    0
set_option maxHeartbeats 4000000 in
set_option maxRecDepth 100000 in
theorem ctX8_isByte (l : Launch) (g : CtxG) (a0 : Int32) (M : Mem) : Ct l (WX g) yX8_isByte cX8_isByte 1 (some .boolean) 1 [.int a0] M (some (.int (FX8_isByte a0)), M) := by
  obtain ⟨r0, h⟩ : ∃ r0, FX8_isByte a0 = r0 := ⟨_, rfl⟩
  rw [h]
  refine Ct.of (by decide) (Nat.le_of_ble_eq_true rfl) (fun Y hY E => ?_)
  have E : EV Y (WX g) cX8_isByte 1 (some .boolean) RX8 := E
  --generalize hr : ((some (Value.int r0), M) : Option Value × Mem) = r
  have h : FX8_isByte a0 = r0 := h
  unfold FX8_isByte at h
  show AW Y (WX g) _ 1 1 0 [(0, .int a0)] [] M
  obtain ⟨r, hr⟩ : ∃ r : Option Value × Mem, r = (some (.int r0), M) := ⟨_, rfl⟩
  rw [← hr]
  refine aw_iload_n E dX8_isByte_0 0 rfl ?_
  obtain ⟨b1, e2, h⟩ := lt_e h
  have J3 : b1 = true → AW Y (WX g) r 1 1 11 [(0, .int a0)] [] M := fun hb => by
    replace h := ip hb h
    refine aw_iconst (v := 1) E dX8_isByte_11 (by decide) ?_
    refine aw_goto (tgt := 16) E dX8_isByte_12 rfl ?_
    subst h
    exact aw_zret E (by decide) dX8_isByte_16 hr
  have J4 : b1 = false → AW Y (WX g) r 1 1 15 [(0, .int a0)] [] M := fun hb => by
    replace h := iq (bf hb) h
    refine aw_iconst (v := 0) E dX8_isByte_15 (by decide) ?_
    subst h
    exact aw_zret E (by decide) dX8_isByte_16 hr
  refine aw_if_lt (tgt := 15) E dX8_isByte_1 rfl (fun c1 => ?_) (fun c1 => ?_)
  ·
    replace e2 := ip c1 e2
    subst e2
    exact J4 rfl
  ·
    replace e2 := iq c1 e2
    refine aw_iload_n E dX8_isByte_4 0 rfl ?_
    refine aw_sipush (v := 255) E dX8_isByte_5 (by decide) ?_
    refine aw_icmp_gt (tgt := 15) E dX8_isByte_8 rfl (fun c8 => ?_) (fun c8 => ?_)
    ·
      replace e2 := ip c8 e2
      subst e2
      exact J4 rfl
    ·
      replace e2 := iq c8 e2
      subst e2
      exact J3 rfl
def FX8_feed (a1 : Int32) (a2 : Int32) (a3 : Int32) (a4 : Int32) (a5 : Int32) (a6 : Int32) (M : Mem) : Option (Int32 × Mem) :=
  lt (α := Bool) (if a1 < 1 then true else if a1 ≤ 5 then false else true) fun b1 =>
  if b1 = true then
    some ((-2), M)
  else
    lt (α := Bool) (if (FX8_isByte a2) = 0 then true else if (FX8_isByte a3) = 0 then true else if (FX8_isByte a4) = 0 then true else if (FX8_isByte a5) = 0 then true else if (FX8_isByte a6) = 0 then true else false) fun b5 =>
    if b5 = true then
      some ((-2), M)
    else
      if ((M.1 10 1) + a1) ≤ 160 then
        ob (FX5_put a2 M) fun q9 =>
        ob (α := Mem) (if a1 ≤ 1 then
          some q9
        else
          ob (FX5_put a3 q9) fun q29 =>
          some q29) fun q11 =>
        ob (α := Mem) (if a1 ≤ 2 then
          some q11
        else
          ob (FX5_put a4 q11) fun q27 =>
          some q27) fun q14 =>
        ob (α := Mem) (if a1 ≤ 3 then
          some q14
        else
          ob (FX5_put a5 q14) fun q25 =>
          some q25) fun q17 =>
        ob (α := Mem) (if a1 ≤ 4 then
          some q17
        else
          ob (FX5_put a6 q17) fun q23 =>
          some q23) fun q20 =>
        some (q20.1 10 1, q20)
      else
        some ((-4), M)
set_option maxHeartbeats 4000000 in
set_option maxRecDepth 100000 in
theorem ctX8_feed (l : Launch) (g : CtxG) (a1 : Int32) (a2 : Int32) (a3 : Int32) (a4 : Int32) (a5 : Int32) (a6 : Int32) (M : Mem) (r0 : Int32 × Mem) (h : FX8_feed a1 a2 a3 a4 a5 a6 M = some r0) : Ct l (WX g) yX8_feed cX8_feed 7 (some .int) 2 [.ref (wad (WX g) 0), .int a1, .int a2, .int a3, .int a4, .int a5, .int a6] M (some (.int r0.1), r0.2) := by
  refine Ct.of (by decide) (Nat.le_of_ble_eq_true rfl) (fun Y hY E => ?_)
  have E : EV Y (WX g) cX8_feed 7 (some .int) RX8 := E
  have h : FX8_feed a1 a2 a3 a4 a5 a6 M = some r0 := h
  unfold FX8_feed at h
  show AW Y (WX g) _ 7 2 0 [(0, .ref (wad (WX g) 0)), (1, .int a1), (2, .int a2), (3, .int a3), (4, .int a4), (5, .int a5), (6, .int a6)] [] M
  obtain ⟨r, hr⟩ : ∃ r : Option Value × Mem, r = (some (.int r0.1), r0.2) := ⟨_, rfl⟩
  rw [← hr]
  refine aw_iload_n E dX8_feed_0 1 rfl ?_
  refine aw_iconst (v := 1) E dX8_feed_1 (by decide) ?_
  obtain ⟨b1, e2, h⟩ := lt_e h
  have J3 : b1 = true → AW Y (WX g) r 7 2 10 [(0, .ref (wad (WX g) 0)), (1, .int a1), (2, .int a2), (3, .int a3), (4, .int a4), (5, .int a5), (6, .int a6)] [] M := fun hb => by
    replace h := ip hb h
    refine aw_bipush (v := (-2)) E dX8_feed_10 (by decide) ?_
    replace h := Option.some.inj h
    subst h
    exact aw_iret E dX8_feed_12 hr
  have J4 : b1 = false → AW Y (WX g) r 7 2 13 [(0, .ref (wad (WX g) 0)), (1, .int a1), (2, .int a2), (3, .int a3), (4, .int a4), (5, .int a5), (6, .int a6)] [] M := fun hb => by
    replace h := iq (bf hb) h
    refine aw_iload_n E dX8_feed_13 2 rfl ?_
    refine aw_callSi (S := []) E msX8_isByte mlX8_122 rfl (ctX8_isByte (yl Y) g a2  M ) rfl (Nat.le_of_ble_eq_true rfl) (Nat.le_of_ble_eq_true rfl) dX8_feed_14 ?_
    obtain ⟨b5, e6, h⟩ := lt_e h
    have J7 : b5 = true → AW Y (WX g) r 7 2 51 [(0, .ref (wad (WX g) 0)), (1, .int a1), (2, .int a2), (3, .int a3), (4, .int a4), (5, .int a5), (6, .int a6)] [] M := fun hb => by
      replace h := ip hb h
      refine aw_bipush (v := (-2)) E dX8_feed_51 (by decide) ?_
      replace h := Option.some.inj h
      subst h
      exact aw_iret E dX8_feed_53 hr
    have J8 : b5 = false → AW Y (WX g) r 7 2 54 [(0, .ref (wad (WX g) 0)), (1, .int a1), (2, .int a2), (3, .int a3), (4, .int a4), (5, .int a5), (6, .int a6)] [] M := fun hb => by
      replace h := iq (bf hb) h
      refine aw_aload_n E dX8_feed_54 0 rfl ?_
      refine aw_getR (q := 10) E flX8_32 (Nat.le_of_ble_eq_true rfl) rfl rfl dX8_feed_55 ?_
      refine aw_getI E flX8_98 (Nat.le_of_ble_eq_true rfl) rfl rfl dX8_feed_58 ?_
      refine aw_iload_n E dX8_feed_61 1 rfl ?_
      refine aw_iadd E dX8_feed_62 ?_
      refine aw_sipush (v := 160) E dX8_feed_63 (by decide) ?_
      refine aw_icmp_le (tgt := 72) E dX8_feed_66 rfl (fun c66 => ?_) (fun c66 => ?_)
      ·
        replace h := ip c66 h
        refine aw_aload_n E dX8_feed_72 0 rfl ?_
        refine aw_getR (q := 10) E flX8_32 (Nat.le_of_ble_eq_true rfl) rfl rfl dX8_feed_73 ?_
        refine aw_iload_n E dX8_feed_76 2 rfl ?_
        obtain ⟨q9, e10, h⟩ := bd_e h
        refine aw_callVv (S := []) E mvX5_put mlX8_87 (Nat.le_of_ble_eq_true rfl) rfl rfl rfl (ctX5_put (yl Y) g a2  M q9 e10) rfl (Nat.le_of_ble_eq_true rfl) (Nat.le_of_ble_eq_true rfl) dX8_feed_77 ?_
        refine aw_iload_n E dX8_feed_80 1 rfl ?_
        refine aw_iconst (v := 1) E dX8_feed_81 (by decide) ?_
        obtain ⟨q11, e12, h⟩ := bd_e h
        have J13 : AW Y (WX g) r 7 2 93 [(0, .ref (wad (WX g) 0)), (1, .int a1), (4, .int a4), (5, .int a5), (6, .int a6)] [] q11 := by
          refine aw_iload_n E dX8_feed_93 1 rfl ?_
          refine aw_iconst (v := 2) E dX8_feed_94 (by decide) ?_
          obtain ⟨q14, e15, h⟩ := bd_e h
          have J16 : AW Y (WX g) r 7 2 107 [(0, .ref (wad (WX g) 0)), (1, .int a1), (5, .int a5), (6, .int a6)] [] q14 := by
            refine aw_iload_n E dX8_feed_107 1 rfl ?_
            refine aw_iconst (v := 3) E dX8_feed_108 (by decide) ?_
            obtain ⟨q17, e18, h⟩ := bd_e h
            have J19 : AW Y (WX g) r 7 2 121 [(0, .ref (wad (WX g) 0)), (1, .int a1), (6, .int a6)] [] q17 := by
              refine aw_iload_n E dX8_feed_121 1 rfl ?_
              refine aw_iconst (v := 4) E dX8_feed_122 (by decide) ?_
              obtain ⟨q20, e21, h⟩ := bd_e h
              have J22 : AW Y (WX g) r 7 2 135 [(0, .ref (wad (WX g) 0))] [] q20 := by
                refine aw_aload_n E dX8_feed_135 0 rfl ?_
                refine aw_getR (q := 10) E flX8_32 (Nat.le_of_ble_eq_true rfl) rfl rfl dX8_feed_136 ?_
                refine aw_getI E flX8_98 (Nat.le_of_ble_eq_true rfl) rfl rfl dX8_feed_139 ?_
                replace h := Option.some.inj h
                subst h
                exact aw_iret E dX8_feed_142 hr
              refine aw_icmp_le (tgt := 135) E dX8_feed_123 rfl (fun c123 => ?_) (fun c123 => ?_)
              ·
                replace e21 := ip c123 e21
                refine aw_sub (L1 := [(0, .ref (wad (WX g) 0))]) [0] rfl ?_
                replace e21 := Option.some.inj e21
                subst e21
                exact J22
              ·
                replace e21 := iq c123 e21
                refine aw_aload_n E dX8_feed_126 0 rfl ?_
                refine aw_getR (q := 10) E flX8_32 (Nat.le_of_ble_eq_true rfl) rfl rfl dX8_feed_127 ?_
                refine aw_iload E dX8_feed_130 2 rfl ?_
                obtain ⟨q23, e24, e21⟩ := bd_e e21
                refine aw_callVv (S := []) E mvX5_put mlX8_87 (Nat.le_of_ble_eq_true rfl) rfl rfl rfl (ctX5_put (yl Y) g a6  q17 q23 e24) rfl (Nat.le_of_ble_eq_true rfl) (Nat.le_of_ble_eq_true rfl) dX8_feed_132 ?_
                refine aw_sub (L1 := [(0, .ref (wad (WX g) 0))]) [0] rfl ?_
                replace e21 := Option.some.inj e21
                subst e21
                exact J22
            refine aw_icmp_le (tgt := 121) E dX8_feed_109 rfl (fun c109 => ?_) (fun c109 => ?_)
            ·
              replace e18 := ip c109 e18
              refine aw_sub (L1 := [(0, .ref (wad (WX g) 0)), (1, .int a1), (6, .int a6)]) [0, 1, 3] rfl ?_
              replace e18 := Option.some.inj e18
              subst e18
              exact J19
            ·
              replace e18 := iq c109 e18
              refine aw_aload_n E dX8_feed_112 0 rfl ?_
              refine aw_getR (q := 10) E flX8_32 (Nat.le_of_ble_eq_true rfl) rfl rfl dX8_feed_113 ?_
              refine aw_iload E dX8_feed_116 2 rfl ?_
              obtain ⟨q25, e26, e18⟩ := bd_e e18
              refine aw_callVv (S := []) E mvX5_put mlX8_87 (Nat.le_of_ble_eq_true rfl) rfl rfl rfl (ctX5_put (yl Y) g a5  q14 q25 e26) rfl (Nat.le_of_ble_eq_true rfl) (Nat.le_of_ble_eq_true rfl) dX8_feed_118 ?_
              refine aw_sub (L1 := [(0, .ref (wad (WX g) 0)), (1, .int a1), (6, .int a6)]) [0, 1, 3] rfl ?_
              replace e18 := Option.some.inj e18
              subst e18
              exact J19
          refine aw_icmp_le (tgt := 107) E dX8_feed_95 rfl (fun c95 => ?_) (fun c95 => ?_)
          ·
            replace e15 := ip c95 e15
            refine aw_sub (L1 := [(0, .ref (wad (WX g) 0)), (1, .int a1), (5, .int a5), (6, .int a6)]) [0, 1, 3, 4] rfl ?_
            replace e15 := Option.some.inj e15
            subst e15
            exact J16
          ·
            replace e15 := iq c95 e15
            refine aw_aload_n E dX8_feed_98 0 rfl ?_
            refine aw_getR (q := 10) E flX8_32 (Nat.le_of_ble_eq_true rfl) rfl rfl dX8_feed_99 ?_
            refine aw_iload E dX8_feed_102 2 rfl ?_
            obtain ⟨q27, e28, e15⟩ := bd_e e15
            refine aw_callVv (S := []) E mvX5_put mlX8_87 (Nat.le_of_ble_eq_true rfl) rfl rfl rfl (ctX5_put (yl Y) g a4  q11 q27 e28) rfl (Nat.le_of_ble_eq_true rfl) (Nat.le_of_ble_eq_true rfl) dX8_feed_104 ?_
            refine aw_sub (L1 := [(0, .ref (wad (WX g) 0)), (1, .int a1), (5, .int a5), (6, .int a6)]) [0, 1, 3, 4] rfl ?_
            replace e15 := Option.some.inj e15
            subst e15
            exact J16
        refine aw_icmp_le (tgt := 93) E dX8_feed_82 rfl (fun c82 => ?_) (fun c82 => ?_)
        ·
          replace e12 := ip c82 e12
          refine aw_sub (L1 := [(0, .ref (wad (WX g) 0)), (1, .int a1), (4, .int a4), (5, .int a5), (6, .int a6)]) [0, 1, 4, 5, 6] rfl ?_
          replace e12 := Option.some.inj e12
          subst e12
          exact J13
        ·
          replace e12 := iq c82 e12
          refine aw_aload_n E dX8_feed_85 0 rfl ?_
          refine aw_getR (q := 10) E flX8_32 (Nat.le_of_ble_eq_true rfl) rfl rfl dX8_feed_86 ?_
          refine aw_iload_n E dX8_feed_89 3 rfl ?_
          obtain ⟨q29, e30, e12⟩ := bd_e e12
          refine aw_callVv (S := []) E mvX5_put mlX8_87 (Nat.le_of_ble_eq_true rfl) rfl rfl rfl (ctX5_put (yl Y) g a3  q9 q29 e30) rfl (Nat.le_of_ble_eq_true rfl) (Nat.le_of_ble_eq_true rfl) dX8_feed_90 ?_
          refine aw_sub (L1 := [(0, .ref (wad (WX g) 0)), (1, .int a1), (4, .int a4), (5, .int a5), (6, .int a6)]) [0, 1, 4, 5, 6] rfl ?_
          replace e12 := Option.some.inj e12
          subst e12
          exact J13
      ·
        replace h := iq c66 h
        refine aw_bipush (v := (-4)) E dX8_feed_69 (by decide) ?_
        replace h := Option.some.inj h
        subst h
        exact aw_iret E dX8_feed_71 hr
    refine aw_if_eq (tgt := 51) E dX8_feed_17 rfl (fun c17 => ?_) (fun c17 => ?_)
    ·
      replace e6 := ip c17 e6
      subst e6
      exact J7 rfl
    ·
      replace e6 := iq c17 e6
      refine aw_iload_n E dX8_feed_20 3 rfl ?_
      refine aw_callSi (S := []) E msX8_isByte mlX8_122 rfl (ctX8_isByte (yl Y) g a3  M ) rfl (Nat.le_of_ble_eq_true rfl) (Nat.le_of_ble_eq_true rfl) dX8_feed_21 ?_
      refine aw_if_eq (tgt := 51) E dX8_feed_24 rfl (fun c24 => ?_) (fun c24 => ?_)
      ·
        replace e6 := ip c24 e6
        subst e6
        exact J7 rfl
      ·
        replace e6 := iq c24 e6
        refine aw_iload E dX8_feed_27 4 rfl ?_
        refine aw_callSi (S := []) E msX8_isByte mlX8_122 rfl (ctX8_isByte (yl Y) g a4  M ) rfl (Nat.le_of_ble_eq_true rfl) (Nat.le_of_ble_eq_true rfl) dX8_feed_29 ?_
        refine aw_if_eq (tgt := 51) E dX8_feed_32 rfl (fun c32 => ?_) (fun c32 => ?_)
        ·
          replace e6 := ip c32 e6
          subst e6
          exact J7 rfl
        ·
          replace e6 := iq c32 e6
          refine aw_iload E dX8_feed_35 5 rfl ?_
          refine aw_callSi (S := []) E msX8_isByte mlX8_122 rfl (ctX8_isByte (yl Y) g a5  M ) rfl (Nat.le_of_ble_eq_true rfl) (Nat.le_of_ble_eq_true rfl) dX8_feed_37 ?_
          refine aw_if_eq (tgt := 51) E dX8_feed_40 rfl (fun c40 => ?_) (fun c40 => ?_)
          ·
            replace e6 := ip c40 e6
            subst e6
            exact J7 rfl
          ·
            replace e6 := iq c40 e6
            refine aw_iload E dX8_feed_43 6 rfl ?_
            refine aw_callSi (S := []) E msX8_isByte mlX8_122 rfl (ctX8_isByte (yl Y) g a6  M ) rfl (Nat.le_of_ble_eq_true rfl) (Nat.le_of_ble_eq_true rfl) dX8_feed_45 ?_
            refine aw_if_ne (tgt := 54) E dX8_feed_48 rfl (fun c48 => ?_) (fun c48 => ?_)
            ·
              replace e6 := iq c48 e6
              subst e6
              exact J8 rfl
            ·
              replace e6 := ip c48 e6
              subst e6
              exact J7 rfl
  refine aw_icmp_lt (tgt := 10) E dX8_feed_2 rfl (fun c2 => ?_) (fun c2 => ?_)
  ·
    replace e2 := ip c2 e2
    subst e2
    exact J3 rfl
  ·
    replace e2 := iq c2 e2
    refine aw_iload_n E dX8_feed_5 1 rfl ?_
    refine aw_iconst (v := 5) E dX8_feed_6 (by decide) ?_
    refine aw_icmp_le (tgt := 13) E dX8_feed_7 rfl (fun c7 => ?_) (fun c7 => ?_)
    ·
      replace e2 := ip c7 e2
      subst e2
      exact J4 rfl
    ·
      replace e2 := iq c7 e2
      subst e2
      exact J3 rfl
def FX8_follow_L32 : Nat → Nat → Int32 → Mem → Option (Int32 × Mem ⊕ (Mem))
  | 0, _, _, _ => none
  | f + 1, p1, p2, M =>
    if (M.1 p1 2) ≤ p2 then
      some (.inr M)
    else
      gi p2 40 <|
      lt (α := Int32) (M.1 (p1 + 4) (Int32.toNatClampNeg p2)) fun x102 =>
      ob (α := Bool) (if (FX8_isStreet x102 M) = 0 then
        some true
      else
        ob (FX7_next (M.1 42 0) 0 M) fun q118 =>
        if ((q118 >>> (x102 &&& 31)) &&& 1) = 0 then some true else some false) fun b104 =>
      if b104 = true then
        some (.inl (p2, M))
      else
        ob (α := Bool) (if ((M.1 p1 2) - 1) ≤ p2 then
          some false
        else
          ob (FX7_ends (M.1 42 0) x102 M) fun q116 =>
          if q116 = 0 then some false else some true) fun b108 =>
        if b108 = true then
          some (.inl (p2, M))
        else
          ob (FX4_go x102 M) fun q112 =>
          lt (α := Int32) (p2 + 1) fun x114 =>
          FX8_follow_L32 f p1 x114 q112
def FX8_follow (a1 : Nat) (M : Mem) : Option (Int32 × Mem) :=
  ob (FX7_lay 1 M) fun q1 =>
  ob (FX4_begin q1) fun q3 =>
  ob (FX8_follow_L32 FU a1 0 q3) fun q5 => Sum.elim (fun v7 => some v7) (fun q9 =>
    some ((-1), q9)) q5
set_option maxHeartbeats 4000000 in
set_option maxRecDepth 100000 in
theorem lpX8_follow_32 {Y : CtxM} {g : CtxG} {r : Option Value × Mem} (E : EV Y (WX g) cX8_follow 4 (some .int) RX8) (p1 : Nat) (hd1 : isSheet p1) : ∀ (f : Nat) (p2 : Int32) (M : Mem) (q : Int32 × Mem ⊕ (Mem)), FX8_follow_L32 f p1 p2 M = some q → (∀ v, q = .inl v → r = (some (.int v.1), v.2)) → (∀ t, q = .inr t → AW Y (WX g) r 4 5 127 [] [] t) → AW Y (WX g) r 4 5 32 [(0, .ref (wad (WX g) 0)), (1, .ref (wad (WX g) p1)), (2, .int p2)] [] M := by
  intro f
  induction f with
  | zero => intro p2 M q hh; exact absurd hh (fun z => nomatch (show (none : Option (Int32 × Mem ⊕ (Mem))) = some q from z))
  | succ f ih =>
    intro p2 M q hh kr kx
    rw [FX8_follow_L32] at hh
    refine aw_iload_n E dX8_follow_32 2 rfl ?_
    refine aw_aload_n E dX8_follow_33 1 rfl ?_
    refine aw_getI E flX8_278 hd1.1 hd1.2.1 rfl dX8_follow_34 ?_
    refine aw_icmp_ge (tgt := 127) E dX8_follow_37 rfl (fun c37 => ?_) (fun c37 => ?_)
    ·
      replace hh := ip c37 hh
      refine aw_sub (L1 := []) [] rfl ?_
      replace hh := Option.some.inj hh
      subst hh
      exact kx _ rfl
    ·
      replace hh := iq c37 hh
      refine aw_aload_n E dX8_follow_40 1 rfl ?_
      refine aw_getR (q := (p1 + 4)) E flX8_285 hd1.1 hd1.2.1 rfl dX8_follow_41 ?_
      refine aw_iload_n E dX8_follow_44 2 rfl ?_
      obtain ⟨g101, hh⟩ := gi_e hh
      refine aw_iald E hd1.2.2.1 hd1.2.2.2 g101 dX8_follow_45 ?_
      obtain ⟨x102, e103, hh⟩ := lt_e hh
      refine aw_nmI e103 ?_
      refine aw_istore_n (L1 := [(3, .int x102), (0, .ref (wad (WX g) 0)), (1, .ref (wad (WX g) p1)), (2, .int p2)]) E dX8_follow_46 (Nat.le_of_ble_eq_true rfl) rfl ?_
      refine aw_aload_n E dX8_follow_47 1 rfl ?_
      refine aw_iload_n E dX8_follow_48 0 rfl ?_
      refine aw_callVi (S := []) E mvX8_isStreet mlX8_136 (Nat.le_of_ble_eq_true rfl) rfl rfl rfl (ctX8_isStreet (yl Y) g x102  M ) rfl (Nat.le_of_ble_eq_true rfl) (Nat.le_of_ble_eq_true rfl) dX8_follow_49 ?_
      obtain ⟨b104, e105, hh⟩ := bd_e hh
      have J106 : b104 = true → AW Y (WX g) r 4 5 77 [(3, .int x102), (0, .ref (wad (WX g) 0)), (1, .ref (wad (WX g) p1)), (2, .int p2)] [] M := fun hb => by
        replace hh := ip hb hh
        refine aw_iload_n E dX8_follow_77 3 rfl ?_
        replace hh := Option.some.inj hh
        subst hh
        exact aw_iret E dX8_follow_78 (kr _ rfl)
      have J107 : b104 = false → AW Y (WX g) r 4 5 79 [(3, .int x102), (0, .ref (wad (WX g) 0)), (1, .ref (wad (WX g) p1)), (2, .int p2)] [] M := fun hb => by
        replace hh := iq (bf hb) hh
        refine aw_iload_n E dX8_follow_79 3 rfl ?_
        refine aw_aload_n E dX8_follow_80 2 rfl ?_
        refine aw_getI E flX8_278 hd1.1 hd1.2.1 rfl dX8_follow_81 ?_
        refine aw_iconst (v := 1) E dX8_follow_84 (by decide) ?_
        refine aw_isub E dX8_follow_85 ?_
        obtain ⟨b108, e109, hh⟩ := bd_e hh
        have J110 : b108 = true → AW Y (WX g) r 4 5 107 [(3, .int x102), (0, .ref (wad (WX g) 0)), (1, .ref (wad (WX g) p1)), (2, .int p2)] [] M := fun hb => by
          replace hh := ip hb hh
          refine aw_iload_n E dX8_follow_107 3 rfl ?_
          replace hh := Option.some.inj hh
          subst hh
          exact aw_iret E dX8_follow_108 (kr _ rfl)
        have J111 : b108 = false → AW Y (WX g) r 4 5 109 [(3, .int x102), (0, .ref (wad (WX g) 0)), (1, .ref (wad (WX g) p1)), (2, .int p2)] [] M := fun hb => by
          replace hh := iq (bf hb) hh
          refine aw_aload_n E dX8_follow_109 1 rfl ?_
          refine aw_getR (q := 42) E flX8_60 (Nat.le_of_ble_eq_true rfl) rfl rfl dX8_follow_110 ?_
          refine aw_aload_n E dX8_follow_113 1 rfl ?_
          refine aw_getR (q := 31) E flX8_46 (Nat.le_of_ble_eq_true rfl) rfl rfl dX8_follow_114 ?_
          refine aw_iload_n E dX8_follow_117 0 rfl ?_
          obtain ⟨q112, e113, hh⟩ := bd_e hh
          refine aw_callVv (S := []) E mvX4_go mlX8_318 (Nat.le_of_ble_eq_true rfl) rfl rfl rfl (ctX4_go (yl Y) g x102  M q112 e113) rfl (Nat.le_of_ble_eq_true rfl) (Nat.le_of_ble_eq_true rfl) dX8_follow_118 ?_
          obtain ⟨x114, e115, hh⟩ := lt_e hh
          refine aw_iinc (v := x114) (L1 := [(2, .int x114), (3, .int x102), (0, .ref (wad (WX g) 0)), (1, .ref (wad (WX g) p1))]) E dX8_follow_121 3 rfl e115 (Nat.le_of_ble_eq_true rfl) rfl ?_
          refine aw_goto (tgt := 32) E dX8_follow_124 rfl ?_
          refine aw_sub (L1 := [(0, .ref (wad (WX g) 0)), (1, .ref (wad (WX g) p1)), (2, .int x114)]) [2, 3, 0] rfl ?_
          exact ih x114 q112 _ hh kr kx
        refine aw_icmp_ge (tgt := 109) E dX8_follow_86 rfl (fun c86 => ?_) (fun c86 => ?_)
        ·
          replace e109 := ip c86 e109
          replace e109 := Option.some.inj e109
          subst e109
          exact J111 rfl
        ·
          replace e109 := iq c86 e109
          refine aw_aload_n E dX8_follow_89 1 rfl ?_
          refine aw_getR (q := 31) E flX8_46 (Nat.le_of_ble_eq_true rfl) rfl rfl dX8_follow_90 ?_
          refine aw_aload_n E dX8_follow_93 1 rfl ?_
          refine aw_getR (q := 42) E flX8_60 (Nat.le_of_ble_eq_true rfl) rfl rfl dX8_follow_94 ?_
          refine aw_getI E flX8_309 (Nat.le_of_ble_eq_true rfl) rfl rfl dX8_follow_97 ?_
          refine aw_iload_n E dX8_follow_100 0 rfl ?_
          obtain ⟨q116, e117, e109⟩ := bd_e e109
          refine aw_callVi (S := []) E mvX7_ends mlX8_315 (Nat.le_of_ble_eq_true rfl) rfl rfl rfl (ctX7_ends (yl Y) g (M.1 42 0) x102  M q116 e117) rfl (Nat.le_of_ble_eq_true rfl) (Nat.le_of_ble_eq_true rfl) dX8_follow_101 ?_
          refine aw_if_eq (tgt := 109) E dX8_follow_104 rfl (fun c104 => ?_) (fun c104 => ?_)
          ·
            replace e109 := ip c104 e109
            replace e109 := Option.some.inj e109
            subst e109
            exact J111 rfl
          ·
            replace e109 := iq c104 e109
            replace e109 := Option.some.inj e109
            subst e109
            exact J110 rfl
      refine aw_if_eq (tgt := 77) E dX8_follow_52 rfl (fun c52 => ?_) (fun c52 => ?_)
      ·
        replace e105 := ip c52 e105
        replace e105 := Option.some.inj e105
        subst e105
        exact J106 rfl
      ·
        replace e105 := iq c52 e105
        refine aw_aload_n E dX8_follow_55 1 rfl ?_
        refine aw_getR (q := 31) E flX8_46 (Nat.le_of_ble_eq_true rfl) rfl rfl dX8_follow_56 ?_
        refine aw_aload_n E dX8_follow_59 1 rfl ?_
        refine aw_getR (q := 42) E flX8_60 (Nat.le_of_ble_eq_true rfl) rfl rfl dX8_follow_60 ?_
        refine aw_getI E flX8_309 (Nat.le_of_ble_eq_true rfl) rfl rfl dX8_follow_63 ?_
        refine aw_iconst (v := 0) E dX8_follow_66 (by decide) ?_
        obtain ⟨q118, e119, e105⟩ := bd_e e105
        refine aw_callVi (S := []) E mvX7_next mlX8_312 (Nat.le_of_ble_eq_true rfl) rfl rfl rfl (ctX7_next (yl Y) g (M.1 42 0) 0  M q118 e119) rfl (Nat.le_of_ble_eq_true rfl) (Nat.le_of_ble_eq_true rfl) dX8_follow_67 ?_
        refine aw_iload_n E dX8_follow_70 0 rfl ?_
        refine aw_ishr E dX8_follow_71 ?_
        refine aw_iconst (v := 1) E dX8_follow_72 (by decide) ?_
        refine aw_iand E dX8_follow_73 ?_
        refine aw_if_ne (tgt := 79) E dX8_follow_74 rfl (fun c74 => ?_) (fun c74 => ?_)
        ·
          replace e105 := iq c74 e105
          replace e105 := Option.some.inj e105
          subst e105
          exact J107 rfl
        ·
          replace e105 := ip c74 e105
          replace e105 := Option.some.inj e105
          subst e105
          exact J106 rfl
set_option maxHeartbeats 4000000 in
set_option maxRecDepth 100000 in
theorem ctX8_follow (l : Launch) (g : CtxG) (a1 : Nat) (hd1 : isSheet a1) (M : Mem) (r0 : Int32 × Mem) (h : FX8_follow a1 M = some r0) : Ct l (WX g) yX8_follow cX8_follow 4 (some .int) 5 [.ref (wad (WX g) 0), .ref (wad (WX g) a1)] M (some (.int r0.1), r0.2) := by
  refine Ct.of (by decide) (Nat.le_of_ble_eq_true rfl) (fun Y hY E => ?_)
  have E : EV Y (WX g) cX8_follow 4 (some .int) RX8 := E
  have h : FX8_follow a1 M = some r0 := h
  unfold FX8_follow at h
  show AW Y (WX g) _ 4 5 0 [(0, .ref (wad (WX g) 0)), (1, .ref (wad (WX g) a1))] [] M
  obtain ⟨r, hr⟩ : ∃ r : Option Value × Mem, r = (some (.int r0.1), r0.2) := ⟨_, rfl⟩
  rw [← hr]
  refine aw_aload_n E dX8_follow_0 0 rfl ?_
  refine aw_getR (q := 31) E flX8_46 (Nat.le_of_ble_eq_true rfl) rfl rfl dX8_follow_1 ?_
  refine aw_aload_n E dX8_follow_4 0 rfl ?_
  refine aw_getR (q := 1) E flX8_12 (Nat.le_of_ble_eq_true rfl) rfl rfl dX8_follow_5 ?_
  refine aw_aload_n E dX8_follow_8 0 rfl ?_
  refine aw_getR (q := 4) E flX8_25 (Nat.le_of_ble_eq_true rfl) rfl rfl dX8_follow_9 ?_
  refine aw_aload_n E dX8_follow_12 0 rfl ?_
  refine aw_getR (q := 14) E flX8_39 (Nat.le_of_ble_eq_true rfl) rfl rfl dX8_follow_13 ?_
  obtain ⟨q1, e2, h⟩ := bd_e h
  refine aw_callVv (S := []) E mvX7_lay mlX8_163 (Nat.le_of_ble_eq_true rfl) rfl rfl rfl (ctX7_lay (yl Y) g 1 set1 M q1 e2) rfl (Nat.le_of_ble_eq_true rfl) (Nat.le_of_ble_eq_true rfl) dX8_follow_16 ?_
  refine aw_aload_n E dX8_follow_19 0 rfl ?_
  refine aw_getR (q := 42) E flX8_60 (Nat.le_of_ble_eq_true rfl) rfl rfl dX8_follow_20 ?_
  refine aw_aload_n E dX8_follow_23 0 rfl ?_
  refine aw_getR (q := 31) E flX8_46 (Nat.le_of_ble_eq_true rfl) rfl rfl dX8_follow_24 ?_
  obtain ⟨q3, e4, h⟩ := bd_e h
  refine aw_callVv (S := []) E mvX4_begin mlX8_305 (Nat.le_of_ble_eq_true rfl) rfl rfl rfl (ctX4_begin (yl Y) g   q1 q3 e4) rfl (Nat.le_of_ble_eq_true rfl) (Nat.le_of_ble_eq_true rfl) dX8_follow_27 ?_
  refine aw_iconst (v := 0) E dX8_follow_30 (by decide) ?_
  refine aw_istore_n (L1 := [(2, .int 0), (0, .ref (wad (WX g) 0)), (1, .ref (wad (WX g) a1))]) E dX8_follow_31 (Nat.le_of_ble_eq_true rfl) rfl ?_
  obtain ⟨q5, e6, h⟩ := bd_e h
  refine aw_sub (L1 := [(0, .ref (wad (WX g) 0)), (1, .ref (wad (WX g) a1)), (2, .int 0)]) [1, 2, 0] rfl ?_
  refine lpX8_follow_32 E a1 hd1  FU 0 q3 q5 e6 (fun v7 e8 => ?_) (fun q9 e10 => ?_)
  ·
    subst e8
    replace h := Option.some.inj h
    subst h
    exact hr
  ·
    subst e10
    refine aw_iconst (v := (-1)) E dX8_follow_127 (by decide) ?_
    replace h := Option.some.inj h
    subst h
    exact aw_iret E dX8_follow_128 hr
def FX8_force (a1 : Int32) (M : Mem) : Option (Int32 × Mem) :=
  lt (α := Bool) (if a1 < 0 then true else if a1 < (M.1 14 4) then false else true) fun b1 =>
  if b1 = true then
    some ((-2), M)
  else
    lt (α := Int32) (M.1 1 5) fun x5 =>
    lt (wr M 1 5 a1) fun M7 =>
    some (x5, M7)
set_option maxHeartbeats 4000000 in
set_option maxRecDepth 100000 in
theorem ctX8_force (l : Launch) (g : CtxG) (a1 : Int32) (M : Mem) (r0 : Int32 × Mem) (h : FX8_force a1 M = some r0) : Ct l (WX g) yX8_force cX8_force 3 (some .int) 1 [.ref (wad (WX g) 0), .int a1] M (some (.int r0.1), r0.2) := by
  refine Ct.of (by decide) (Nat.le_of_ble_eq_true rfl) (fun Y hY E => ?_)
  have E : EV Y (WX g) cX8_force 3 (some .int) RX8 := E
  have h : FX8_force a1 M = some r0 := h
  unfold FX8_force at h
  show AW Y (WX g) _ 3 1 0 [(0, .ref (wad (WX g) 0)), (1, .int a1)] [] M
  obtain ⟨r, hr⟩ : ∃ r : Option Value × Mem, r = (some (.int r0.1), r0.2) := ⟨_, rfl⟩
  rw [← hr]
  refine aw_iload_n E dX8_force_0 1 rfl ?_
  obtain ⟨b1, e2, h⟩ := lt_e h
  have J3 : b1 = true → AW Y (WX g) r 3 1 15 [(0, .ref (wad (WX g) 0)), (1, .int a1)] [] M := fun hb => by
    replace h := ip hb h
    refine aw_bipush (v := (-2)) E dX8_force_15 (by decide) ?_
    replace h := Option.some.inj h
    subst h
    exact aw_iret E dX8_force_17 hr
  have J4 : b1 = false → AW Y (WX g) r 3 1 18 [(0, .ref (wad (WX g) 0)), (1, .int a1)] [] M := fun hb => by
    replace h := iq (bf hb) h
    refine aw_aload_n E dX8_force_18 0 rfl ?_
    refine aw_getR (q := 1) E flX8_12 (Nat.le_of_ble_eq_true rfl) rfl rfl dX8_force_19 ?_
    refine aw_getI E flX8_119 (Nat.le_of_ble_eq_true rfl) rfl rfl dX8_force_22 ?_
    obtain ⟨x5, e6, h⟩ := lt_e h
    refine aw_nmI e6 ?_
    refine aw_istore_n (L1 := [(2, .int x5), (0, .ref (wad (WX g) 0)), (1, .int a1)]) E dX8_force_25 (Nat.le_of_ble_eq_true rfl) rfl ?_
    refine aw_aload_n E dX8_force_26 1 rfl ?_
    refine aw_getR (q := 1) E flX8_12 (Nat.le_of_ble_eq_true rfl) rfl rfl dX8_force_27 ?_
    refine aw_iload_n E dX8_force_30 2 rfl ?_
    obtain ⟨M7, e8, h⟩ := lt_e h
    refine aw_putI1 e8 E flX8_119 (Nat.le_of_ble_eq_true rfl) rfl rfl nr_int dX8_force_31 ?_
    refine aw_iload_n E dX8_force_34 0 rfl ?_
    replace h := Option.some.inj h
    subst h
    exact aw_iret E dX8_force_35 hr
  refine aw_if_lt (tgt := 15) E dX8_force_1 rfl (fun c1 => ?_) (fun c1 => ?_)
  ·
    replace e2 := ip c1 e2
    subst e2
    exact J3 rfl
  ·
    replace e2 := iq c1 e2
    refine aw_iload_n E dX8_force_4 1 rfl ?_
    refine aw_aload_n E dX8_force_5 0 rfl ?_
    refine aw_getR (q := 14) E flX8_39 (Nat.le_of_ble_eq_true rfl) rfl rfl dX8_force_6 ?_
    refine aw_getI E flX8_116 (Nat.le_of_ble_eq_true rfl) rfl rfl dX8_force_9 ?_
    refine aw_icmp_lt (tgt := 18) E dX8_force_12 rfl (fun c12 => ?_) (fun c12 => ?_)
    ·
      replace e2 := ip c12 e2
      subst e2
      exact J4 rfl
    ·
      replace e2 := iq c12 e2
      subst e2
      exact J3 rfl
def FX8_gap (a1 : Int32) (M : Mem) : Option (Int32 × Mem) :=
  if (FX8_isAway a1 M) = 0 then
    some ((-5), M)
  else
    ob (FX8_leastRing 1 ((1 : Int32) <<< (a1 &&& 31)) 0 0 M) fun q1 =>
    ob (FX8_leastRing 1 ((1 : Int32) <<< (a1 &&& 31)) ((1 : Int32) <<< (a1 &&& 31)) 0 q1.2) fun q3 =>
    lt (α := Bool) (if q1.1 < 0 then true else if 0 ≤ q3.1 then false else true) fun b5 =>
    if b5 = true then
      some ((-1), q3.2)
    else
      some (q3.1 - q1.1, q3.2)
set_option maxHeartbeats 4000000 in
set_option maxRecDepth 100000 in
theorem ctX8_gap (l : Launch) (g : CtxG) (a1 : Int32) (M : Mem) (r0 : Int32 × Mem) (h : FX8_gap a1 M = some r0) : Ct l (WX g) yX8_gap cX8_gap 4 (some .int) 6 [.ref (wad (WX g) 0), .int a1] M (some (.int r0.1), r0.2) := by
  refine Ct.of (by decide) (Nat.le_of_ble_eq_true rfl) (fun Y hY E => ?_)
  have E : EV Y (WX g) cX8_gap 4 (some .int) RX8 := E
  have h : FX8_gap a1 M = some r0 := h
  unfold FX8_gap at h
  show AW Y (WX g) _ 4 6 0 [(0, .ref (wad (WX g) 0)), (1, .int a1)] [] M
  obtain ⟨r, hr⟩ : ∃ r : Option Value × Mem, r = (some (.int r0.1), r0.2) := ⟨_, rfl⟩
  rw [← hr]
  refine aw_aload_n E dX8_gap_0 0 rfl ?_
  refine aw_iload_n E dX8_gap_1 1 rfl ?_
  refine aw_callVi (S := []) E mvX8_isAway mlX8_181 (Nat.le_of_ble_eq_true rfl) rfl rfl rfl (ctX8_isAway (yl Y) g a1  M ) rfl (Nat.le_of_ble_eq_true rfl) (Nat.le_of_ble_eq_true rfl) dX8_gap_2 ?_
  refine aw_if_ne (tgt := 11) E dX8_gap_5 rfl (fun c5 => ?_) (fun c5 => ?_)
  ·
    replace h := iq c5 h
    refine aw_aload_n E dX8_gap_11 0 rfl ?_
    refine aw_aload_n E dX8_gap_12 0 rfl ?_
    refine aw_getR (q := 1) E flX8_12 (Nat.le_of_ble_eq_true rfl) rfl rfl dX8_gap_13 ?_
    refine aw_iconst (v := 1) E dX8_gap_16 (by decide) ?_
    refine aw_iload_n E dX8_gap_17 1 rfl ?_
    refine aw_ishl E dX8_gap_18 ?_
    refine aw_iconst (v := 0) E dX8_gap_19 (by decide) ?_
    refine aw_iconst (v := 0) E dX8_gap_20 (by decide) ?_
    obtain ⟨q1, e2, h⟩ := bd_e h
    refine aw_callVi (S := []) E mvX8_leastRing mlX8_177 (Nat.le_of_ble_eq_true rfl) rfl rfl rfl (ctX8_leastRing (yl Y) g 1 ((1 : Int32) <<< (a1 &&& 31)) 0 0 set1 M q1 e2) rfl (Nat.le_of_ble_eq_true rfl) (Nat.le_of_ble_eq_true rfl) dX8_gap_21 ?_
    refine aw_istore_n (L1 := [(2, .int q1.1), (0, .ref (wad (WX g) 0)), (1, .int a1)]) E dX8_gap_24 (Nat.le_of_ble_eq_true rfl) rfl ?_
    refine aw_aload_n E dX8_gap_25 1 rfl ?_
    refine aw_aload_n E dX8_gap_26 1 rfl ?_
    refine aw_getR (q := 1) E flX8_12 (Nat.le_of_ble_eq_true rfl) rfl rfl dX8_gap_27 ?_
    refine aw_iconst (v := 1) E dX8_gap_30 (by decide) ?_
    refine aw_iload_n E dX8_gap_31 2 rfl ?_
    refine aw_ishl E dX8_gap_32 ?_
    refine aw_iconst (v := 1) E dX8_gap_33 (by decide) ?_
    refine aw_iload_n E dX8_gap_34 2 rfl ?_
    refine aw_ishl E dX8_gap_35 ?_
    refine aw_iconst (v := 0) E dX8_gap_36 (by decide) ?_
    obtain ⟨q3, e4, h⟩ := bd_e h
    refine aw_callVi (S := []) E mvX8_leastRing mlX8_177 (Nat.le_of_ble_eq_true rfl) rfl rfl rfl (ctX8_leastRing (yl Y) g 1 ((1 : Int32) <<< (a1 &&& 31)) ((1 : Int32) <<< (a1 &&& 31)) 0 set1 q1.2 q3 e4) rfl (Nat.le_of_ble_eq_true rfl) (Nat.le_of_ble_eq_true rfl) dX8_gap_37 ?_
    refine aw_istore_n (L1 := [(3, .int q3.1), (2, .int q1.1), (0, .ref (wad (WX g) 0)), (1, .int a1)]) E dX8_gap_40 (Nat.le_of_ble_eq_true rfl) rfl ?_
    refine aw_iload_n E dX8_gap_41 1 rfl ?_
    obtain ⟨b5, e6, h⟩ := lt_e h
    have J7 : b5 = true → AW Y (WX g) r 4 6 49 [(3, .int q3.1), (2, .int q1.1), (0, .ref (wad (WX g) 0)), (1, .int a1)] [] q3.2 := fun hb => by
      replace h := ip hb h
      refine aw_iconst (v := (-1)) E dX8_gap_49 (by decide) ?_
      refine aw_goto (tgt := 56) E dX8_gap_50 rfl ?_
      replace h := Option.some.inj h
      subst h
      exact aw_iret E dX8_gap_56 hr
    have J8 : b5 = false → AW Y (WX g) r 4 6 53 [(3, .int q3.1), (2, .int q1.1), (0, .ref (wad (WX g) 0)), (1, .int a1)] [] q3.2 := fun hb => by
      replace h := iq (bf hb) h
      refine aw_iload_n E dX8_gap_53 0 rfl ?_
      refine aw_iload_n E dX8_gap_54 1 rfl ?_
      refine aw_isub E dX8_gap_55 ?_
      replace h := Option.some.inj h
      subst h
      exact aw_iret E dX8_gap_56 hr
    refine aw_if_lt (tgt := 49) E dX8_gap_42 rfl (fun c42 => ?_) (fun c42 => ?_)
    ·
      replace e6 := ip c42 e6
      subst e6
      exact J7 rfl
    ·
      replace e6 := iq c42 e6
      refine aw_iload_n E dX8_gap_45 0 rfl ?_
      refine aw_if_ge (tgt := 53) E dX8_gap_46 rfl (fun c46 => ?_) (fun c46 => ?_)
      ·
        replace e6 := ip c46 e6
        subst e6
        exact J8 rfl
      ·
        replace e6 := iq c46 e6
        subst e6
        exact J7 rfl
  ·
    replace h := ip c5 h
    refine aw_bipush (v := (-5)) E dX8_gap_8 (by decide) ?_
    replace h := Option.some.inj h
    subst h
    exact aw_iret E dX8_gap_10 hr
def FX8_gone (a1 : Int32) (M : Mem) : Option (Int32 × Mem) :=
  lt (α := Bool) (if a1 < 0 then true else if a1 < ((1 : Int32) <<< ((M.1 1 4) &&& 31)) then false else true) fun b1 =>
  if b1 = true then
    some ((-2), M)
  else
    lt (α := Int32) (M.1 1 3) fun x5 =>
    lt (wr M 1 3 a1) fun M7 =>
    some (x5, M7)
set_option maxHeartbeats 4000000 in
set_option maxRecDepth 100000 in
theorem ctX8_gone (l : Launch) (g : CtxG) (a1 : Int32) (M : Mem) (r0 : Int32 × Mem) (h : FX8_gone a1 M = some r0) : Ct l (WX g) yX8_gone cX8_gone 3 (some .int) 1 [.ref (wad (WX g) 0), .int a1] M (some (.int r0.1), r0.2) := by
  refine Ct.of (by decide) (Nat.le_of_ble_eq_true rfl) (fun Y hY E => ?_)
  have E : EV Y (WX g) cX8_gone 3 (some .int) RX8 := E
  have h : FX8_gone a1 M = some r0 := h
  unfold FX8_gone at h
  show AW Y (WX g) _ 3 1 0 [(0, .ref (wad (WX g) 0)), (1, .int a1)] [] M
  obtain ⟨r, hr⟩ : ∃ r : Option Value × Mem, r = (some (.int r0.1), r0.2) := ⟨_, rfl⟩
  rw [← hr]
  refine aw_iload_n E dX8_gone_0 1 rfl ?_
  obtain ⟨b1, e2, h⟩ := lt_e h
  have J3 : b1 = true → AW Y (WX g) r 3 1 17 [(0, .ref (wad (WX g) 0)), (1, .int a1)] [] M := fun hb => by
    replace h := ip hb h
    refine aw_bipush (v := (-2)) E dX8_gone_17 (by decide) ?_
    replace h := Option.some.inj h
    subst h
    exact aw_iret E dX8_gone_19 hr
  have J4 : b1 = false → AW Y (WX g) r 3 1 20 [(0, .ref (wad (WX g) 0)), (1, .int a1)] [] M := fun hb => by
    replace h := iq (bf hb) h
    refine aw_aload_n E dX8_gone_20 0 rfl ?_
    refine aw_getR (q := 1) E flX8_12 (Nat.le_of_ble_eq_true rfl) rfl rfl dX8_gone_21 ?_
    refine aw_getI E flX8_113 (Nat.le_of_ble_eq_true rfl) rfl rfl dX8_gone_24 ?_
    obtain ⟨x5, e6, h⟩ := lt_e h
    refine aw_nmI e6 ?_
    refine aw_istore_n (L1 := [(2, .int x5), (0, .ref (wad (WX g) 0)), (1, .int a1)]) E dX8_gone_27 (Nat.le_of_ble_eq_true rfl) rfl ?_
    refine aw_aload_n E dX8_gone_28 1 rfl ?_
    refine aw_getR (q := 1) E flX8_12 (Nat.le_of_ble_eq_true rfl) rfl rfl dX8_gone_29 ?_
    refine aw_iload_n E dX8_gone_32 2 rfl ?_
    obtain ⟨M7, e8, h⟩ := lt_e h
    refine aw_putI1 e8 E flX8_113 (Nat.le_of_ble_eq_true rfl) rfl rfl nr_int dX8_gone_33 ?_
    refine aw_iload_n E dX8_gone_36 0 rfl ?_
    replace h := Option.some.inj h
    subst h
    exact aw_iret E dX8_gone_37 hr
  refine aw_if_lt (tgt := 17) E dX8_gone_1 rfl (fun c1 => ?_) (fun c1 => ?_)
  ·
    replace e2 := ip c1 e2
    subst e2
    exact J3 rfl
  ·
    replace e2 := iq c1 e2
    refine aw_iload_n E dX8_gone_4 1 rfl ?_
    refine aw_iconst (v := 1) E dX8_gone_5 (by decide) ?_
    refine aw_aload_n E dX8_gone_6 0 rfl ?_
    refine aw_getR (q := 1) E flX8_12 (Nat.le_of_ble_eq_true rfl) rfl rfl dX8_gone_7 ?_
    refine aw_getI E flX8_111 (Nat.le_of_ble_eq_true rfl) rfl rfl dX8_gone_10 ?_
    refine aw_ishl E dX8_gone_13 ?_
    refine aw_icmp_lt (tgt := 20) E dX8_gone_14 rfl (fun c14 => ?_) (fun c14 => ?_)
    ·
      replace e2 := ip c14 e2
      subst e2
      exact J4 rfl
    ·
      replace e2 := iq c14 e2
      subst e2
      exact J3 rfl
def FX8_refusal (a1 : Int32) (a2 : Int32) (a3 : Int32) (M : Mem) : Int32 :=
  if (FX8_isAway a1 M) = 0 then
    (-5)
  else
    lt (α := Bool) (if a2 < 0 then true else if a2 < a3 then false else true) fun b1 =>
    if b1 = true then
      (-7)
    else
      0
set_option maxHeartbeats 4000000 in
set_option maxRecDepth 100000 in
theorem ctX8_refusal (l : Launch) (g : CtxG) (a1 : Int32) (a2 : Int32) (a3 : Int32) (M : Mem) : Ct l (WX g) yX8_refusal cX8_refusal 4 (some .int) 3 [.ref (wad (WX g) 0), .int a1, .int a2, .int a3] M (some (.int (FX8_refusal a1 a2 a3 M)), M) := by
  obtain ⟨r0, h⟩ : ∃ r0, FX8_refusal a1 a2 a3 M = r0 := ⟨_, rfl⟩
  rw [h]
  refine Ct.of (by decide) (Nat.le_of_ble_eq_true rfl) (fun Y hY E => ?_)
  have E : EV Y (WX g) cX8_refusal 4 (some .int) RX8 := E
  --generalize hr : ((some (Value.int r0), M) : Option Value × Mem) = r
  have h : FX8_refusal a1 a2 a3 M = r0 := h
  unfold FX8_refusal at h
  show AW Y (WX g) _ 4 3 0 [(0, .ref (wad (WX g) 0)), (1, .int a1), (2, .int a2), (3, .int a3)] [] M
  obtain ⟨r, hr⟩ : ∃ r : Option Value × Mem, r = (some (.int r0), M) := ⟨_, rfl⟩
  rw [← hr]
  refine aw_aload_n E dX8_refusal_0 0 rfl ?_
  refine aw_iload_n E dX8_refusal_1 1 rfl ?_
  refine aw_callVi (S := []) E mvX8_isAway mlX8_181 (Nat.le_of_ble_eq_true rfl) rfl rfl rfl (ctX8_isAway (yl Y) g a1  M ) rfl (Nat.le_of_ble_eq_true rfl) (Nat.le_of_ble_eq_true rfl) dX8_refusal_2 ?_
  refine aw_if_ne (tgt := 11) E dX8_refusal_5 rfl (fun c5 => ?_) (fun c5 => ?_)
  ·
    replace h := iq c5 h
    refine aw_iload_n E dX8_refusal_11 2 rfl ?_
    obtain ⟨b1, e2, h⟩ := lt_e h
    have J3 : b1 = true → AW Y (WX g) r 4 3 20 [(0, .ref (wad (WX g) 0)), (1, .int a1), (2, .int a2), (3, .int a3)] [] M := fun hb => by
      replace h := ip hb h
      refine aw_bipush (v := (-7)) E dX8_refusal_20 (by decide) ?_
      refine aw_goto (tgt := 26) E dX8_refusal_22 rfl ?_
      subst h
      exact aw_iret E dX8_refusal_26 hr
    have J4 : b1 = false → AW Y (WX g) r 4 3 25 [(0, .ref (wad (WX g) 0)), (1, .int a1), (2, .int a2), (3, .int a3)] [] M := fun hb => by
      replace h := iq (bf hb) h
      refine aw_iconst (v := 0) E dX8_refusal_25 (by decide) ?_
      subst h
      exact aw_iret E dX8_refusal_26 hr
    refine aw_if_lt (tgt := 20) E dX8_refusal_12 rfl (fun c12 => ?_) (fun c12 => ?_)
    ·
      replace e2 := ip c12 e2
      subst e2
      exact J3 rfl
    ·
      replace e2 := iq c12 e2
      refine aw_iload_n E dX8_refusal_15 2 rfl ?_
      refine aw_iload_n E dX8_refusal_16 3 rfl ?_
      refine aw_icmp_lt (tgt := 25) E dX8_refusal_17 rfl (fun c17 => ?_) (fun c17 => ?_)
      ·
        replace e2 := ip c17 e2
        subst e2
        exact J4 rfl
      ·
        replace e2 := iq c17 e2
        subst e2
        exact J3 rfl
  ·
    replace h := ip c5 h
    refine aw_bipush (v := (-5)) E dX8_refusal_8 (by decide) ?_
    subst h
    exact aw_iret E dX8_refusal_10 hr
def FX8_heavy (a1 : Int32) (a2 : Int32) (M : Mem) : Option (Int32 × Mem) :=
  lt (α := Int32) (FX8_refusal a1 a2 4 M) fun x1 =>
  if 0 ≤ x1 then
    ob (FX8_leastRing 1 ((1 : Int32) <<< (a1 &&& 31)) ((1 : Int32) <<< (a1 &&& 31)) a2 M) fun q3 =>
    some (q3.1, q3.2)
  else
    some (x1, M)
set_option maxHeartbeats 4000000 in
set_option maxRecDepth 100000 in
theorem ctX8_heavy (l : Launch) (g : CtxG) (a1 : Int32) (a2 : Int32) (M : Mem) (r0 : Int32 × Mem) (h : FX8_heavy a1 a2 M = some r0) : Ct l (WX g) yX8_heavy cX8_heavy 4 (some .int) 6 [.ref (wad (WX g) 0), .int a1, .int a2] M (some (.int r0.1), r0.2) := by
  refine Ct.of (by decide) (Nat.le_of_ble_eq_true rfl) (fun Y hY E => ?_)
  have E : EV Y (WX g) cX8_heavy 4 (some .int) RX8 := E
  have h : FX8_heavy a1 a2 M = some r0 := h
  unfold FX8_heavy at h
  show AW Y (WX g) _ 4 6 0 [(0, .ref (wad (WX g) 0)), (1, .int a1), (2, .int a2)] [] M
  obtain ⟨r, hr⟩ : ∃ r : Option Value × Mem, r = (some (.int r0.1), r0.2) := ⟨_, rfl⟩
  rw [← hr]
  refine aw_aload_n E dX8_heavy_0 0 rfl ?_
  refine aw_iload_n E dX8_heavy_1 1 rfl ?_
  refine aw_iload_n E dX8_heavy_2 2 rfl ?_
  refine aw_iconst (v := 4) E dX8_heavy_3 (by decide) ?_
  refine aw_callVi (S := []) E mvX8_refusal mlX8_174 (Nat.le_of_ble_eq_true rfl) rfl rfl rfl (ctX8_refusal (yl Y) g a1 a2 4  M ) rfl (Nat.le_of_ble_eq_true rfl) (Nat.le_of_ble_eq_true rfl) dX8_heavy_4 ?_
  obtain ⟨x1, e2, h⟩ := lt_e h
  refine aw_nmI e2 ?_
  refine aw_istore_n (L1 := [(3, .int x1), (0, .ref (wad (WX g) 0)), (1, .int a1), (2, .int a2)]) E dX8_heavy_7 (Nat.le_of_ble_eq_true rfl) rfl ?_
  refine aw_iload_n E dX8_heavy_8 0 rfl ?_
  refine aw_if_ge (tgt := 16) E dX8_heavy_9 rfl (fun c9 => ?_) (fun c9 => ?_)
  ·
    replace h := ip c9 h
    refine aw_aload_n E dX8_heavy_16 1 rfl ?_
    refine aw_aload_n E dX8_heavy_17 1 rfl ?_
    refine aw_getR (q := 1) E flX8_12 (Nat.le_of_ble_eq_true rfl) rfl rfl dX8_heavy_18 ?_
    refine aw_iconst (v := 1) E dX8_heavy_21 (by decide) ?_
    refine aw_iload_n E dX8_heavy_22 2 rfl ?_
    refine aw_ishl E dX8_heavy_23 ?_
    refine aw_iconst (v := 1) E dX8_heavy_24 (by decide) ?_
    refine aw_iload_n E dX8_heavy_25 2 rfl ?_
    refine aw_ishl E dX8_heavy_26 ?_
    refine aw_iload_n E dX8_heavy_27 3 rfl ?_
    obtain ⟨q3, e4, h⟩ := bd_e h
    refine aw_callVi (S := []) E mvX8_leastRing mlX8_177 (Nat.le_of_ble_eq_true rfl) rfl rfl rfl (ctX8_leastRing (yl Y) g 1 ((1 : Int32) <<< (a1 &&& 31)) ((1 : Int32) <<< (a1 &&& 31)) a2 set1 M q3 e4) rfl (Nat.le_of_ble_eq_true rfl) (Nat.le_of_ble_eq_true rfl) dX8_heavy_28 ?_
    replace h := Option.some.inj h
    subst h
    exact aw_iret E dX8_heavy_31 hr
  ·
    replace h := iq c9 h
    refine aw_iload_n E dX8_heavy_12 0 rfl ?_
    refine aw_goto (tgt := 31) E dX8_heavy_13 rfl ?_
    replace h := Option.some.inj h
    subst h
    exact aw_iret E dX8_heavy_31 hr
def FX8_hours_L59 : Nat → Int32 → Int32 → Int32 → Int32 → Int32 → Int32 → Int32 → Mem → Option (Int32 × Int32 × Mem)
  | 0, _, _, _, _, _, _, _, _ => none
  | f + 1, p1, p4, p5, p6, p7, p8, p9, M =>
    if 24 ≤ p9 then
      some (p5, p6, M)
    else
      lt (wr M 3 1 p9) fun M101 =>
      lt (α := Bool) (if p4 = 0 then if p9 = 0 then true else if p9 = 12 then true else false else true) fun b103 =>
      ob (α := Int32 × Mem) (if b103 = true then
        ob (FX8_leastRing 3 ((1 : Int32) <<< (p1 &&& 31)) 0 0 M101) fun q122 =>
        some (q122.1, q122.2)
      else
        some (p8, M101)) fun q105 =>
      if 0 ≤ q105.1 then
        lt (α := Int32) (p5 ||| ((1 : Int32) <<< (p9 &&& 31))) fun x108 =>
        lt (α := Bool) (if p6 < 0 then true else if p7 ≤ q105.1 then false else true) fun b110 =>
        if b110 = true then
          lt (α := Int32) (p9 + 1) fun x114 =>
          FX8_hours_L59 f p1 p4 x108 p9 q105.1 q105.1 x114 q105.2
        else
          lt (α := Int32) (p9 + 1) fun x116 =>
          FX8_hours_L59 f p1 p4 x108 p6 p7 q105.1 x116 q105.2
      else
        lt (α := Int32) (p9 + 1) fun x118 =>
        FX8_hours_L59 f p1 p4 p5 p6 p7 q105.1 x118 q105.2
def FX8_hours (a1 : Int32) (a2 : Int32) (M : Mem) : Option (Int32 × Mem) :=
  lt (α := Int32) (FX8_refusal a1 a2 2 M) fun x1 =>
  if 0 ≤ x1 then
    ob (FX6_names (M.1 1 5) 264 M) fun q3 =>
    ob (FX1_take 3 1 M) fun q5 =>
    ob (FX8_hours_L59 FU a1 q3 0 (-1) 0 (-1) 0 q5) fun q7 =>
    if a2 = 0 then
      some (q7.1, q7.2.2)
    else
      some (q7.2.1, q7.2.2)
  else
    some (x1, M)
set_option maxHeartbeats 4000000 in
set_option maxRecDepth 100000 in
theorem lpX8_hours_59 {Y : CtxM} {g : CtxG} {r : Option Value × Mem} (E : EV Y (WX g) cX8_hours 10 (some .int) RX8) (p1 : Int32) (p2 : Int32) (p4 : Int32) : ∀ (f : Nat) (p5 : Int32) (p6 : Int32) (p7 : Int32) (p8 : Int32) (p9 : Int32) (M : Mem) (q : Int32 × Int32 × Mem), FX8_hours_L59 f p1 p4 p5 p6 p7 p8 p9 M = some q → AW Y (WX g) r 10 6 150 [(2, .int p2), (5, .int q.1), (6, .int q.2.1)] [] q.2.2 → AW Y (WX g) r 10 6 59 [(0, .ref (wad (WX g) 0)), (1, .int p1), (2, .int p2), (4, .int p4), (5, .int p5), (6, .int p6), (7, .int p7), (8, .int p8), (9, .int p9)] [] M := by
  intro f
  induction f with
  | zero => intro p5 p6 p7 p8 p9 M q hh; exact absurd hh (fun z => nomatch (show (none : Option (Int32 × Int32 × Mem)) = some q from z))
  | succ f ih =>
    intro p5 p6 p7 p8 p9 M q hh kx
    rw [FX8_hours_L59] at hh
    refine aw_iload E dX8_hours_59 8 rfl ?_
    refine aw_bipush (v := 24) E dX8_hours_61 (by decide) ?_
    refine aw_icmp_ge (tgt := 150) E dX8_hours_63 rfl (fun c63 => ?_) (fun c63 => ?_)
    ·
      replace hh := ip c63 hh
      refine aw_sub (L1 := [(2, .int p2), (5, .int p5), (6, .int p6)]) [2, 4, 5] rfl ?_
      replace hh := Option.some.inj hh
      subst hh
      exact kx
    ·
      replace hh := iq c63 hh
      refine aw_aload_n E dX8_hours_66 0 rfl ?_
      refine aw_getR (q := 3) E flX8_19 (Nat.le_of_ble_eq_true rfl) rfl rfl dX8_hours_67 ?_
      refine aw_iload E dX8_hours_70 8 rfl ?_
      obtain ⟨M101, e102, hh⟩ := lt_e hh
      refine aw_putI1 e102 E flX8_70 (Nat.le_of_ble_eq_true rfl) rfl rfl nr_int dX8_hours_72 ?_
      refine aw_iload E dX8_hours_75 3 rfl ?_
      obtain ⟨b103, e104, hh⟩ := lt_e hh
      obtain ⟨q105, e106, hh⟩ := bd_e hh
      have J107 : AW Y (WX g) r 10 6 107 [(0, .ref (wad (WX g) 0)), (1, .int p1), (2, .int p2), (4, .int p4), (5, .int p5), (6, .int p6), (7, .int p7), (8, .int q105.1), (9, .int p9)] [] q105.2 := by
        refine aw_iload E dX8_hours_107 7 rfl ?_
        refine aw_if_ge (tgt := 115) E dX8_hours_109 rfl (fun c109 => ?_) (fun c109 => ?_)
        ·
          replace hh := ip c109 hh
          refine aw_iload E dX8_hours_115 4 rfl ?_
          refine aw_iconst (v := 1) E dX8_hours_117 (by decide) ?_
          refine aw_iload E dX8_hours_118 8 rfl ?_
          refine aw_ishl E dX8_hours_120 ?_
          refine aw_ior E dX8_hours_121 ?_
          obtain ⟨x108, e109, hh⟩ := lt_e hh
          refine aw_nmI e109 ?_
          refine aw_istore (L1 := [(5, .int x108), (0, .ref (wad (WX g) 0)), (1, .int p1), (2, .int p2), (4, .int p4), (6, .int p6), (7, .int p7), (8, .int q105.1), (9, .int p9)]) E dX8_hours_122 (Nat.le_of_ble_eq_true rfl) rfl ?_
          refine aw_iload E dX8_hours_124 5 rfl ?_
          obtain ⟨b110, e111, hh⟩ := lt_e hh
          have J112 : b110 = true → AW Y (WX g) r 10 6 136 [(5, .int x108), (0, .ref (wad (WX g) 0)), (1, .int p1), (2, .int p2), (4, .int p4), (6, .int p6), (7, .int p7), (8, .int q105.1), (9, .int p9)] [] q105.2 := fun hb => by
            replace hh := ip hb hh
            refine aw_iload E dX8_hours_136 8 rfl ?_
            refine aw_istore (L1 := [(6, .int p9), (5, .int x108), (0, .ref (wad (WX g) 0)), (1, .int p1), (2, .int p2), (4, .int p4), (7, .int p7), (8, .int q105.1), (9, .int p9)]) E dX8_hours_138 (Nat.le_of_ble_eq_true rfl) rfl ?_
            refine aw_iload E dX8_hours_140 7 rfl ?_
            refine aw_istore (L1 := [(7, .int q105.1), (6, .int p9), (5, .int x108), (0, .ref (wad (WX g) 0)), (1, .int p1), (2, .int p2), (4, .int p4), (8, .int q105.1), (9, .int p9)]) E dX8_hours_142 (Nat.le_of_ble_eq_true rfl) rfl ?_
            obtain ⟨x114, e115, hh⟩ := lt_e hh
            refine aw_iinc (v := x114) (L1 := [(9, .int x114), (7, .int q105.1), (6, .int p9), (5, .int x108), (0, .ref (wad (WX g) 0)), (1, .int p1), (2, .int p2), (4, .int p4), (8, .int q105.1)]) E dX8_hours_144 8 rfl e115 (Nat.le_of_ble_eq_true rfl) rfl ?_
            refine aw_goto (tgt := 59) E dX8_hours_147 rfl ?_
            refine aw_sub (L1 := [(0, .ref (wad (WX g) 0)), (1, .int p1), (2, .int p2), (4, .int p4), (5, .int x108), (6, .int p9), (7, .int q105.1), (8, .int q105.1), (9, .int x114)]) [4, 5, 6, 7, 3, 2, 1, 8, 0] rfl ?_
            exact ih x108 p9 q105.1 q105.1 x114 q105.2 _ hh kx
          have J113 : b110 = false → AW Y (WX g) r 10 6 144 [(5, .int x108), (0, .ref (wad (WX g) 0)), (1, .int p1), (2, .int p2), (4, .int p4), (6, .int p6), (7, .int p7), (8, .int q105.1), (9, .int p9)] [] q105.2 := fun hb => by
            replace hh := iq (bf hb) hh
            obtain ⟨x116, e117, hh⟩ := lt_e hh
            refine aw_iinc (v := x116) (L1 := [(9, .int x116), (5, .int x108), (0, .ref (wad (WX g) 0)), (1, .int p1), (2, .int p2), (4, .int p4), (6, .int p6), (7, .int p7), (8, .int q105.1)]) E dX8_hours_144 8 rfl e117 (Nat.le_of_ble_eq_true rfl) rfl ?_
            refine aw_goto (tgt := 59) E dX8_hours_147 rfl ?_
            refine aw_sub (L1 := [(0, .ref (wad (WX g) 0)), (1, .int p1), (2, .int p2), (4, .int p4), (5, .int x108), (6, .int p6), (7, .int p7), (8, .int q105.1), (9, .int x116)]) [2, 3, 4, 5, 1, 6, 7, 8, 0] rfl ?_
            exact ih x108 p6 p7 q105.1 x116 q105.2 _ hh kx
          refine aw_if_lt (tgt := 136) E dX8_hours_126 rfl (fun c126 => ?_) (fun c126 => ?_)
          ·
            replace e111 := ip c126 e111
            subst e111
            exact J112 rfl
          ·
            replace e111 := iq c126 e111
            refine aw_iload E dX8_hours_129 7 rfl ?_
            refine aw_iload E dX8_hours_131 6 rfl ?_
            refine aw_icmp_ge (tgt := 144) E dX8_hours_133 rfl (fun c133 => ?_) (fun c133 => ?_)
            ·
              replace e111 := ip c133 e111
              subst e111
              exact J113 rfl
            ·
              replace e111 := iq c133 e111
              subst e111
              exact J112 rfl
        ·
          replace hh := iq c109 hh
          refine aw_goto (tgt := 144) E dX8_hours_112 rfl ?_
          obtain ⟨x118, e119, hh⟩ := lt_e hh
          refine aw_iinc (v := x118) (L1 := [(9, .int x118), (0, .ref (wad (WX g) 0)), (1, .int p1), (2, .int p2), (4, .int p4), (5, .int p5), (6, .int p6), (7, .int p7), (8, .int q105.1)]) E dX8_hours_144 8 rfl e119 (Nat.le_of_ble_eq_true rfl) rfl ?_
          refine aw_goto (tgt := 59) E dX8_hours_147 rfl ?_
          refine aw_sub (L1 := [(0, .ref (wad (WX g) 0)), (1, .int p1), (2, .int p2), (4, .int p4), (5, .int p5), (6, .int p6), (7, .int p7), (8, .int q105.1), (9, .int x118)]) [1, 2, 3, 4, 5, 6, 7, 8, 0] rfl ?_
          exact ih p5 p6 p7 q105.1 x118 q105.2 _ hh kx
      have J120 : b103 = true → AW Y (WX g) r 10 6 92 [(0, .ref (wad (WX g) 0)), (1, .int p1), (2, .int p2), (4, .int p4), (5, .int p5), (6, .int p6), (7, .int p7), (8, .int p8), (9, .int p9)] [] M101 := fun hb => by
        replace e106 := ip hb e106
        refine aw_aload_n E dX8_hours_92 0 rfl ?_
        refine aw_aload_n E dX8_hours_93 0 rfl ?_
        refine aw_getR (q := 3) E flX8_19 (Nat.le_of_ble_eq_true rfl) rfl rfl dX8_hours_94 ?_
        refine aw_iconst (v := 1) E dX8_hours_97 (by decide) ?_
        refine aw_iload_n E dX8_hours_98 1 rfl ?_
        refine aw_ishl E dX8_hours_99 ?_
        refine aw_iconst (v := 0) E dX8_hours_100 (by decide) ?_
        refine aw_iconst (v := 0) E dX8_hours_101 (by decide) ?_
        obtain ⟨q122, e123, e106⟩ := bd_e e106
        refine aw_callVi (S := []) E mvX8_leastRing mlX8_177 (Nat.le_of_ble_eq_true rfl) rfl rfl rfl (ctX8_leastRing (yl Y) g 3 ((1 : Int32) <<< (p1 &&& 31)) 0 0 set3 M101 q122 e123) rfl (Nat.le_of_ble_eq_true rfl) (Nat.le_of_ble_eq_true rfl) dX8_hours_102 ?_
        refine aw_istore (L1 := [(8, .int q122.1), (0, .ref (wad (WX g) 0)), (1, .int p1), (2, .int p2), (4, .int p4), (5, .int p5), (6, .int p6), (7, .int p7), (9, .int p9)]) E dX8_hours_105 (Nat.le_of_ble_eq_true rfl) rfl ?_
        refine aw_sub (L1 := [(0, .ref (wad (WX g) 0)), (1, .int p1), (2, .int p2), (4, .int p4), (5, .int p5), (6, .int p6), (7, .int p7), (8, .int q122.1), (9, .int p9)]) [1, 2, 3, 4, 5, 6, 7, 0, 8] rfl ?_
        replace e106 := Option.some.inj e106
        subst e106
        exact J107
      have J121 : b103 = false → AW Y (WX g) r 10 6 107 [(0, .ref (wad (WX g) 0)), (1, .int p1), (2, .int p2), (4, .int p4), (5, .int p5), (6, .int p6), (7, .int p7), (8, .int p8), (9, .int p9)] [] M101 := fun hb => by
        replace e106 := iq (bf hb) e106
        refine aw_sub (L1 := [(0, .ref (wad (WX g) 0)), (1, .int p1), (2, .int p2), (4, .int p4), (5, .int p5), (6, .int p6), (7, .int p7), (8, .int p8), (9, .int p9)]) [0, 1, 2, 3, 4, 5, 6, 7, 8] rfl ?_
        replace e106 := Option.some.inj e106
        subst e106
        exact J107
      refine aw_if_ne (tgt := 92) E dX8_hours_77 rfl (fun c77 => ?_) (fun c77 => ?_)
      ·
        replace e104 := iq c77 e104
        subst e104
        exact J120 rfl
      ·
        replace e104 := ip c77 e104
        refine aw_iload E dX8_hours_80 8 rfl ?_
        refine aw_if_eq (tgt := 92) E dX8_hours_82 rfl (fun c82 => ?_) (fun c82 => ?_)
        ·
          replace e104 := ip c82 e104
          subst e104
          exact J120 rfl
        ·
          replace e104 := iq c82 e104
          refine aw_iload E dX8_hours_85 8 rfl ?_
          refine aw_bipush (v := 12) E dX8_hours_87 (by decide) ?_
          refine aw_icmp_ne (tgt := 107) E dX8_hours_89 rfl (fun c89 => ?_) (fun c89 => ?_)
          ·
            replace e104 := iq c89 e104
            subst e104
            exact J121 rfl
          ·
            replace e104 := ip c89 e104
            subst e104
            exact J120 rfl
set_option maxHeartbeats 4000000 in
set_option maxRecDepth 100000 in
theorem ctX8_hours (l : Launch) (g : CtxG) (a1 : Int32) (a2 : Int32) (M : Mem) (r0 : Int32 × Mem) (h : FX8_hours a1 a2 M = some r0) : Ct l (WX g) yX8_hours cX8_hours 10 (some .int) 6 [.ref (wad (WX g) 0), .int a1, .int a2] M (some (.int r0.1), r0.2) := by
  refine Ct.of (by decide) (Nat.le_of_ble_eq_true rfl) (fun Y hY E => ?_)
  have E : EV Y (WX g) cX8_hours 10 (some .int) RX8 := E
  have h : FX8_hours a1 a2 M = some r0 := h
  unfold FX8_hours at h
  show AW Y (WX g) _ 10 6 0 [(0, .ref (wad (WX g) 0)), (1, .int a1), (2, .int a2)] [] M
  obtain ⟨r, hr⟩ : ∃ r : Option Value × Mem, r = (some (.int r0.1), r0.2) := ⟨_, rfl⟩
  rw [← hr]
  refine aw_aload_n E dX8_hours_0 0 rfl ?_
  refine aw_iload_n E dX8_hours_1 1 rfl ?_
  refine aw_iload_n E dX8_hours_2 2 rfl ?_
  refine aw_iconst (v := 2) E dX8_hours_3 (by decide) ?_
  refine aw_callVi (S := []) E mvX8_refusal mlX8_174 (Nat.le_of_ble_eq_true rfl) rfl rfl rfl (ctX8_refusal (yl Y) g a1 a2 2  M ) rfl (Nat.le_of_ble_eq_true rfl) (Nat.le_of_ble_eq_true rfl) dX8_hours_4 ?_
  obtain ⟨x1, e2, h⟩ := lt_e h
  refine aw_nmI e2 ?_
  refine aw_istore_n (L1 := [(3, .int x1), (0, .ref (wad (WX g) 0)), (1, .int a1), (2, .int a2)]) E dX8_hours_7 (Nat.le_of_ble_eq_true rfl) rfl ?_
  refine aw_iload_n E dX8_hours_8 0 rfl ?_
  refine aw_if_ge (tgt := 14) E dX8_hours_9 rfl (fun c9 => ?_) (fun c9 => ?_)
  ·
    replace h := ip c9 h
    refine aw_aload_n E dX8_hours_14 1 rfl ?_
    refine aw_getR (q := 14) E flX8_39 (Nat.le_of_ble_eq_true rfl) rfl rfl dX8_hours_15 ?_
    refine aw_aload_n E dX8_hours_18 1 rfl ?_
    refine aw_getR (q := 1) E flX8_12 (Nat.le_of_ble_eq_true rfl) rfl rfl dX8_hours_19 ?_
    refine aw_getI E flX8_119 (Nat.le_of_ble_eq_true rfl) rfl rfl dX8_hours_22 ?_
    refine aw_sipush (v := 264) E dX8_hours_25 (by decide) ?_
    obtain ⟨q3, e4, h⟩ := bd_e h
    refine aw_callVi (S := []) E mvX6_names mlX8_240 (Nat.le_of_ble_eq_true rfl) rfl rfl rfl (ctX6_names (yl Y) g (M.1 1 5) 264  M q3 e4) rfl (Nat.le_of_ble_eq_true rfl) (Nat.le_of_ble_eq_true rfl) dX8_hours_28 ?_
    refine aw_istore (L1 := [(4, .int q3), (3, .int x1), (0, .ref (wad (WX g) 0)), (1, .int a1), (2, .int a2)]) E dX8_hours_31 (Nat.le_of_ble_eq_true rfl) rfl ?_
    refine aw_iconst (v := 0) E dX8_hours_33 (by decide) ?_
    refine aw_istore (L1 := [(5, .int 0), (4, .int q3), (3, .int x1), (0, .ref (wad (WX g) 0)), (1, .int a1), (2, .int a2)]) E dX8_hours_34 (Nat.le_of_ble_eq_true rfl) rfl ?_
    refine aw_iconst (v := (-1)) E dX8_hours_36 (by decide) ?_
    refine aw_istore (L1 := [(6, .int (-1)), (5, .int 0), (4, .int q3), (3, .int x1), (0, .ref (wad (WX g) 0)), (1, .int a1), (2, .int a2)]) E dX8_hours_37 (Nat.le_of_ble_eq_true rfl) rfl ?_
    refine aw_iconst (v := 0) E dX8_hours_39 (by decide) ?_
    refine aw_istore (L1 := [(7, .int 0), (6, .int (-1)), (5, .int 0), (4, .int q3), (3, .int x1), (0, .ref (wad (WX g) 0)), (1, .int a1), (2, .int a2)]) E dX8_hours_40 (Nat.le_of_ble_eq_true rfl) rfl ?_
    refine aw_iconst (v := (-1)) E dX8_hours_42 (by decide) ?_
    refine aw_istore (L1 := [(8, .int (-1)), (7, .int 0), (6, .int (-1)), (5, .int 0), (4, .int q3), (3, .int x1), (0, .ref (wad (WX g) 0)), (1, .int a1), (2, .int a2)]) E dX8_hours_43 (Nat.le_of_ble_eq_true rfl) rfl ?_
    refine aw_aload_n E dX8_hours_45 6 rfl ?_
    refine aw_getR (q := 3) E flX8_19 (Nat.le_of_ble_eq_true rfl) rfl rfl dX8_hours_46 ?_
    refine aw_aload_n E dX8_hours_49 6 rfl ?_
    refine aw_getR (q := 1) E flX8_12 (Nat.le_of_ble_eq_true rfl) rfl rfl dX8_hours_50 ?_
    obtain ⟨q5, e6, h⟩ := bd_e h
    refine aw_callVv (S := []) E mvX1_take mlX8_212 (Nat.le_of_ble_eq_true rfl) rfl rfl rfl (ctX1_take (yl Y) g 3 1 set3 set1 M q5 e6) rfl (Nat.le_of_ble_eq_true rfl) (Nat.le_of_ble_eq_true rfl) dX8_hours_53 ?_
    refine aw_iconst (v := 0) E dX8_hours_56 (by decide) ?_
    refine aw_istore (L1 := [(9, .int 0), (8, .int (-1)), (7, .int 0), (6, .int (-1)), (5, .int 0), (4, .int q3), (3, .int x1), (0, .ref (wad (WX g) 0)), (1, .int a1), (2, .int a2)]) E dX8_hours_57 (Nat.le_of_ble_eq_true rfl) rfl ?_
    obtain ⟨q7, e8, h⟩ := bd_e h
    refine aw_sub (L1 := [(0, .ref (wad (WX g) 0)), (1, .int a1), (2, .int a2), (4, .int q3), (5, .int 0), (6, .int (-1)), (7, .int 0), (8, .int (-1)), (9, .int 0)]) [7, 8, 9, 5, 4, 3, 2, 1, 0] rfl ?_
    refine lpX8_hours_59 E   a1 a2 q3 FU 0 (-1) 0 (-1) 0 q5 q7 e8 ?_
    refine aw_iload_n E dX8_hours_150 0 rfl ?_
    refine aw_if_ne (tgt := 159) E dX8_hours_151 rfl (fun c151 => ?_) (fun c151 => ?_)
    ·
      replace h := iq c151 h
      refine aw_iload E dX8_hours_159 2 rfl ?_
      replace h := Option.some.inj h
      subst h
      exact aw_iret E dX8_hours_161 hr
    ·
      replace h := ip c151 h
      refine aw_iload E dX8_hours_154 1 rfl ?_
      refine aw_goto (tgt := 161) E dX8_hours_156 rfl ?_
      replace h := Option.some.inj h
      subst h
      exact aw_iret E dX8_hours_161 hr
  ·
    replace h := iq c9 h
    refine aw_iload_n E dX8_hours_12 0 rfl ?_
    replace h := Option.some.inj h
    subst h
    exact aw_iret E dX8_hours_13 hr
def FX8_minutesFrom_L36 : Nat → Int32 → Int32 → Int32 → Int32 → Mem → Option (Int32 × Mem ⊕ (Int32))
  | 0, _, _, _, _, _ => none
  | f + 1, p1, p2, p3, p4, M =>
    if 9 ≤ p4 then
      some (.inr p3)
    else
      if p4 = p1 then
        lt (α := Int32) (p4 + 1) fun x101 =>
        FX8_minutesFrom_L36 f p1 p2 p3 x101 M
      else
        if ((p2 >>> (p4 &&& 31)) &&& 1) = 0 then
          lt (α := Int32) (p4 + 1) fun x111 =>
          FX8_minutesFrom_L36 f p1 p2 p3 x111 M
        else
          ob (FX0_least ((1 : Int32) <<< (p4 &&& 31)) M) fun q103 =>
          if 0 ≤ q103 then
            ob (FX0_minutes q103 M) fun q105 =>
            lt (α := Int32) (p3 + q105) fun x107 =>
            lt (α := Int32) (p4 + 1) fun x109 =>
            FX8_minutesFrom_L36 f p1 p2 x107 x109 M
          else
            some (.inl ((-1), M))
def FX8_minutesFrom (a1 : Int32) (a2 : Int32) (M : Mem) : Option (Int32 × Mem) :=
  ob (FX1_take 3 1 M) fun q1 =>
  lt (wr q1 3 0 a1) fun M3 =>
  ob (FX8_look 3 512 0 M3) fun q5 =>
  ob (FX8_minutesFrom_L36 FU a1 a2 0 0 q5) fun q7 => Sum.elim (fun v9 => some v9) (fun q11 =>
    some (q11, q5)) q7
set_option maxHeartbeats 4000000 in
set_option maxRecDepth 100000 in
theorem lpX8_minutesFrom_36 {Y : CtxM} {g : CtxG} {r : Option Value × Mem} (E : EV Y (WX g) cX8_minutesFrom 6 (some .int) RX8) (p1 : Int32) (p2 : Int32) : ∀ (f : Nat) (p3 : Int32) (p4 : Int32) (M : Mem) (q : Int32 × Mem ⊕ (Int32)), FX8_minutesFrom_L36 f p1 p2 p3 p4 M = some q → (∀ v, q = .inl v → r = (some (.int v.1), v.2)) → (∀ t, q = .inr t → AW Y (WX g) r 6 6 99 [(3, .int t)] [] M) → AW Y (WX g) r 6 6 36 [(0, .ref (wad (WX g) 0)), (1, .int p1), (2, .int p2), (3, .int p3), (4, .int p4)] [] M := by
  intro f
  induction f with
  | zero => intro p3 p4 M q hh; exact absurd hh (fun z => nomatch (show (none : Option (Int32 × Mem ⊕ (Int32))) = some q from z))
  | succ f ih =>
    intro p3 p4 M q hh kr kx
    rw [FX8_minutesFrom_L36] at hh
    refine aw_iload E dX8_minutesFrom_36 4 rfl ?_
    refine aw_bipush (v := 9) E dX8_minutesFrom_38 (by decide) ?_
    refine aw_icmp_ge (tgt := 99) E dX8_minutesFrom_40 rfl (fun c40 => ?_) (fun c40 => ?_)
    ·
      replace hh := ip c40 hh
      refine aw_sub (L1 := [(3, .int p3)]) [3] rfl ?_
      replace hh := Option.some.inj hh
      subst hh
      exact kx _ rfl
    ·
      replace hh := iq c40 hh
      refine aw_iload E dX8_minutesFrom_43 4 rfl ?_
      refine aw_iload_n E dX8_minutesFrom_45 1 rfl ?_
      refine aw_icmp_eq (tgt := 93) E dX8_minutesFrom_46 rfl (fun c46 => ?_) (fun c46 => ?_)
      ·
        replace hh := ip c46 hh
        obtain ⟨x101, e102, hh⟩ := lt_e hh
        refine aw_iinc (v := x101) (L1 := [(4, .int x101), (0, .ref (wad (WX g) 0)), (1, .int p1), (2, .int p2), (3, .int p3)]) E dX8_minutesFrom_93 4 rfl e102 (Nat.le_of_ble_eq_true rfl) rfl ?_
        refine aw_goto (tgt := 36) E dX8_minutesFrom_96 rfl ?_
        refine aw_sub (L1 := [(0, .ref (wad (WX g) 0)), (1, .int p1), (2, .int p2), (3, .int p3), (4, .int x101)]) [1, 2, 3, 4, 0] rfl ?_
        exact ih p3 x101 M _ hh kr kx
      ·
        replace hh := iq c46 hh
        refine aw_iload_n E dX8_minutesFrom_49 2 rfl ?_
        refine aw_iload E dX8_minutesFrom_50 4 rfl ?_
        refine aw_ishr E dX8_minutesFrom_52 ?_
        refine aw_iconst (v := 1) E dX8_minutesFrom_53 (by decide) ?_
        refine aw_iand E dX8_minutesFrom_54 ?_
        refine aw_if_ne (tgt := 61) E dX8_minutesFrom_55 rfl (fun c55 => ?_) (fun c55 => ?_)
        ·
          replace hh := iq c55 hh
          refine aw_aload_n E dX8_minutesFrom_61 0 rfl ?_
          refine aw_getR (q := 37) E flX8_53 (Nat.le_of_ble_eq_true rfl) rfl rfl dX8_minutesFrom_62 ?_
          refine aw_iconst (v := 1) E dX8_minutesFrom_65 (by decide) ?_
          refine aw_iload E dX8_minutesFrom_66 4 rfl ?_
          refine aw_ishl E dX8_minutesFrom_68 ?_
          obtain ⟨q103, e104, hh⟩ := bd_e hh
          refine aw_callVi (S := []) E mvX0_least mlX8_194 (Nat.le_of_ble_eq_true rfl) rfl rfl rfl (ctX0_least (yl Y) g ((1 : Int32) <<< (p4 &&& 31))  M q103 e104) rfl (Nat.le_of_ble_eq_true rfl) (Nat.le_of_ble_eq_true rfl) dX8_minutesFrom_69 ?_
          refine aw_istore (L1 := [(5, .int q103), (0, .ref (wad (WX g) 0)), (1, .int p1), (2, .int p2), (3, .int p3), (4, .int p4)]) E dX8_minutesFrom_72 (Nat.le_of_ble_eq_true rfl) rfl ?_
          refine aw_iload E dX8_minutesFrom_74 0 rfl ?_
          refine aw_if_ge (tgt := 81) E dX8_minutesFrom_76 rfl (fun c76 => ?_) (fun c76 => ?_)
          ·
            replace hh := ip c76 hh
            refine aw_iload_n E dX8_minutesFrom_81 4 rfl ?_
            refine aw_aload_n E dX8_minutesFrom_82 1 rfl ?_
            refine aw_getR (q := 37) E flX8_53 (Nat.le_of_ble_eq_true rfl) rfl rfl dX8_minutesFrom_83 ?_
            refine aw_iload E dX8_minutesFrom_86 0 rfl ?_
            obtain ⟨q105, e106, hh⟩ := bd_e hh
            refine aw_callVi (S := [.int p3]) E mvX0_minutes mlX8_197 (Nat.le_of_ble_eq_true rfl) rfl rfl rfl (ctX0_minutes (yl Y) g q103  M q105 e106) rfl (Nat.le_of_ble_eq_true rfl) (Nat.le_of_ble_eq_true rfl) dX8_minutesFrom_88 ?_
            refine aw_iadd E dX8_minutesFrom_91 ?_
            obtain ⟨x107, e108, hh⟩ := lt_e hh
            refine aw_nmI e108 ?_
            refine aw_istore_n (L1 := [(3, .int x107), (5, .int q103), (0, .ref (wad (WX g) 0)), (1, .int p1), (2, .int p2), (4, .int p4)]) E dX8_minutesFrom_92 (Nat.le_of_ble_eq_true rfl) rfl ?_
            obtain ⟨x109, e110, hh⟩ := lt_e hh
            refine aw_iinc (v := x109) (L1 := [(4, .int x109), (3, .int x107), (5, .int q103), (0, .ref (wad (WX g) 0)), (1, .int p1), (2, .int p2)]) E dX8_minutesFrom_93 5 rfl e110 (Nat.le_of_ble_eq_true rfl) rfl ?_
            refine aw_goto (tgt := 36) E dX8_minutesFrom_96 rfl ?_
            refine aw_sub (L1 := [(0, .ref (wad (WX g) 0)), (1, .int p1), (2, .int p2), (3, .int x107), (4, .int x109)]) [3, 4, 5, 1, 0] rfl ?_
            exact ih x107 x109 M _ hh kr kx
          ·
            replace hh := iq c76 hh
            refine aw_iconst (v := (-1)) E dX8_minutesFrom_79 (by decide) ?_
            replace hh := Option.some.inj hh
            subst hh
            exact aw_iret E dX8_minutesFrom_80 (kr _ rfl)
        ·
          replace hh := ip c55 hh
          refine aw_goto (tgt := 93) E dX8_minutesFrom_58 rfl ?_
          obtain ⟨x111, e112, hh⟩ := lt_e hh
          refine aw_iinc (v := x111) (L1 := [(4, .int x111), (0, .ref (wad (WX g) 0)), (1, .int p1), (2, .int p2), (3, .int p3)]) E dX8_minutesFrom_93 4 rfl e112 (Nat.le_of_ble_eq_true rfl) rfl ?_
          refine aw_goto (tgt := 36) E dX8_minutesFrom_96 rfl ?_
          refine aw_sub (L1 := [(0, .ref (wad (WX g) 0)), (1, .int p1), (2, .int p2), (3, .int p3), (4, .int x111)]) [1, 2, 3, 4, 0] rfl ?_
          exact ih p3 x111 M _ hh kr kx
set_option maxHeartbeats 4000000 in
set_option maxRecDepth 100000 in
theorem ctX8_minutesFrom (l : Launch) (g : CtxG) (a1 : Int32) (a2 : Int32) (M : Mem) (r0 : Int32 × Mem) (h : FX8_minutesFrom a1 a2 M = some r0) : Ct l (WX g) yX8_minutesFrom cX8_minutesFrom 6 (some .int) 6 [.ref (wad (WX g) 0), .int a1, .int a2] M (some (.int r0.1), r0.2) := by
  refine Ct.of (by decide) (Nat.le_of_ble_eq_true rfl) (fun Y hY E => ?_)
  have E : EV Y (WX g) cX8_minutesFrom 6 (some .int) RX8 := E
  have h : FX8_minutesFrom a1 a2 M = some r0 := h
  unfold FX8_minutesFrom at h
  show AW Y (WX g) _ 6 6 0 [(0, .ref (wad (WX g) 0)), (1, .int a1), (2, .int a2)] [] M
  obtain ⟨r, hr⟩ : ∃ r : Option Value × Mem, r = (some (.int r0.1), r0.2) := ⟨_, rfl⟩
  rw [← hr]
  refine aw_aload_n E dX8_minutesFrom_0 0 rfl ?_
  refine aw_getR (q := 3) E flX8_19 (Nat.le_of_ble_eq_true rfl) rfl rfl dX8_minutesFrom_1 ?_
  refine aw_aload_n E dX8_minutesFrom_4 0 rfl ?_
  refine aw_getR (q := 1) E flX8_12 (Nat.le_of_ble_eq_true rfl) rfl rfl dX8_minutesFrom_5 ?_
  obtain ⟨q1, e2, h⟩ := bd_e h
  refine aw_callVv (S := []) E mvX1_take mlX8_212 (Nat.le_of_ble_eq_true rfl) rfl rfl rfl (ctX1_take (yl Y) g 3 1 set3 set1 M q1 e2) rfl (Nat.le_of_ble_eq_true rfl) (Nat.le_of_ble_eq_true rfl) dX8_minutesFrom_8 ?_
  refine aw_aload_n E dX8_minutesFrom_11 0 rfl ?_
  refine aw_getR (q := 3) E flX8_19 (Nat.le_of_ble_eq_true rfl) rfl rfl dX8_minutesFrom_12 ?_
  refine aw_iload_n E dX8_minutesFrom_15 1 rfl ?_
  obtain ⟨M3, e4, h⟩ := lt_e h
  refine aw_putI1 e4 E flX8_105 (Nat.le_of_ble_eq_true rfl) rfl rfl nr_int dX8_minutesFrom_16 ?_
  refine aw_aload_n E dX8_minutesFrom_19 0 rfl ?_
  refine aw_aload_n E dX8_minutesFrom_20 0 rfl ?_
  refine aw_getR (q := 3) E flX8_19 (Nat.le_of_ble_eq_true rfl) rfl rfl dX8_minutesFrom_21 ?_
  refine aw_sipush (v := 512) E dX8_minutesFrom_24 (by decide) ?_
  refine aw_iconst (v := 0) E dX8_minutesFrom_27 (by decide) ?_
  obtain ⟨q5, e6, h⟩ := bd_e h
  refine aw_callVv (S := []) E mvX8_look mlX8_187 (Nat.le_of_ble_eq_true rfl) rfl rfl rfl (ctX8_look (yl Y) g 3 512 0 set3 M3 q5 e6) rfl (Nat.le_of_ble_eq_true rfl) (Nat.le_of_ble_eq_true rfl) dX8_minutesFrom_28 ?_
  refine aw_iconst (v := 0) E dX8_minutesFrom_31 (by decide) ?_
  refine aw_istore_n (L1 := [(3, .int 0), (0, .ref (wad (WX g) 0)), (1, .int a1), (2, .int a2)]) E dX8_minutesFrom_32 (Nat.le_of_ble_eq_true rfl) rfl ?_
  refine aw_iconst (v := 0) E dX8_minutesFrom_33 (by decide) ?_
  refine aw_istore (L1 := [(4, .int 0), (3, .int 0), (0, .ref (wad (WX g) 0)), (1, .int a1), (2, .int a2)]) E dX8_minutesFrom_34 (Nat.le_of_ble_eq_true rfl) rfl ?_
  obtain ⟨q7, e8, h⟩ := bd_e h
  refine aw_sub (L1 := [(0, .ref (wad (WX g) 0)), (1, .int a1), (2, .int a2), (3, .int 0), (4, .int 0)]) [2, 3, 4, 1, 0] rfl ?_
  refine lpX8_minutesFrom_36 E   a1 a2 FU 0 0 q5 q7 e8 (fun v9 e10 => ?_) (fun q11 e12 => ?_)
  ·
    subst e10
    replace h := Option.some.inj h
    subst h
    exact hr
  ·
    subst e12
    refine aw_iload_n E dX8_minutesFrom_99 0 rfl ?_
    replace h := Option.some.inj h
    subst h
    exact aw_iret E dX8_minutesFrom_100 hr
def FX8_house_L30 : Nat → Int32 → Int32 → Int32 → Int32 → Mem → Option (Int32 × Int32 × Mem)
  | 0, _, _, _, _, _ => none
  | f + 1, p1, p3, p4, p5, M =>
    if 9 ≤ p5 then
      some (p3, p4, M)
    else
      ob (FX8_minutesFrom p5 p1 M) fun q101 =>
      if q101.1 < 0 then
        lt (α := Int32) (p5 + 1) fun x103 =>
        FX8_house_L30 f p1 p3 p4 x103 q101.2
      else
        lt (α := Bool) (if p3 < 0 then true else if p4 ≤ q101.1 then false else true) fun b105 =>
        if b105 = true then
          lt (α := Int32) (p5 + 1) fun x109 =>
          FX8_house_L30 f p1 p5 q101.1 x109 q101.2
        else
          lt (α := Int32) (p5 + 1) fun x111 =>
          FX8_house_L30 f p1 p3 p4 x111 q101.2
def FX8_house (a1 : Int32) (a2 : Int32) (M : Mem) : Option (Int32 × Mem) :=
  if (FX8_areCorners a1) = 0 then
    some ((-2), M)
  else
    lt (α := Bool) (if a2 < 0 then true else if a2 ≤ 1 then false else true) fun b1 =>
    if b1 = true then
      some ((-7), M)
    else
      ob (FX8_house_L30 FU a1 (-1) (-1) 0 M) fun q5 =>
      if a2 = 0 then
        some (q5.1, q5.2.2)
      else
        some (q5.2.1, q5.2.2)
set_option maxHeartbeats 4000000 in
set_option maxRecDepth 100000 in
theorem lpX8_house_30 {Y : CtxM} {g : CtxG} {r : Option Value × Mem} (E : EV Y (WX g) cX8_house 7 (some .int) RX8) (p1 : Int32) (p2 : Int32) : ∀ (f : Nat) (p3 : Int32) (p4 : Int32) (p5 : Int32) (M : Mem) (q : Int32 × Int32 × Mem), FX8_house_L30 f p1 p3 p4 p5 M = some q → AW Y (WX g) r 7 7 75 [(2, .int p2), (3, .int q.1), (4, .int q.2.1)] [] q.2.2 → AW Y (WX g) r 7 7 30 [(0, .ref (wad (WX g) 0)), (1, .int p1), (2, .int p2), (3, .int p3), (4, .int p4), (5, .int p5)] [] M := by
  intro f
  induction f with
  | zero => intro p3 p4 p5 M q hh; exact absurd hh (fun z => nomatch (show (none : Option (Int32 × Int32 × Mem)) = some q from z))
  | succ f ih =>
    intro p3 p4 p5 M q hh kx
    rw [FX8_house_L30] at hh
    refine aw_iload E dX8_house_30 5 rfl ?_
    refine aw_bipush (v := 9) E dX8_house_32 (by decide) ?_
    refine aw_icmp_ge (tgt := 75) E dX8_house_34 rfl (fun c34 => ?_) (fun c34 => ?_)
    ·
      replace hh := ip c34 hh
      refine aw_sub (L1 := [(2, .int p2), (3, .int p3), (4, .int p4)]) [2, 3, 4] rfl ?_
      replace hh := Option.some.inj hh
      subst hh
      exact kx
    ·
      replace hh := iq c34 hh
      refine aw_aload_n E dX8_house_37 0 rfl ?_
      refine aw_iload E dX8_house_38 5 rfl ?_
      refine aw_iload_n E dX8_house_40 1 rfl ?_
      obtain ⟨q101, e102, hh⟩ := bd_e hh
      refine aw_callVi (S := []) E mvX8_minutesFrom mlX8_216 (Nat.le_of_ble_eq_true rfl) rfl rfl rfl (ctX8_minutesFrom (yl Y) g p5 p1  M q101 e102) rfl (Nat.le_of_ble_eq_true rfl) (Nat.le_of_ble_eq_true rfl) dX8_house_41 ?_
      refine aw_istore (L1 := [(6, .int q101.1), (0, .ref (wad (WX g) 0)), (1, .int p1), (2, .int p2), (3, .int p3), (4, .int p4), (5, .int p5)]) E dX8_house_44 (Nat.le_of_ble_eq_true rfl) rfl ?_
      refine aw_iload E dX8_house_46 0 rfl ?_
      refine aw_if_lt (tgt := 69) E dX8_house_48 rfl (fun c48 => ?_) (fun c48 => ?_)
      ·
        replace hh := ip c48 hh
        obtain ⟨x103, e104, hh⟩ := lt_e hh
        refine aw_iinc (v := x103) (L1 := [(5, .int x103), (6, .int q101.1), (0, .ref (wad (WX g) 0)), (1, .int p1), (2, .int p2), (3, .int p3), (4, .int p4)]) E dX8_house_69 6 rfl e104 (Nat.le_of_ble_eq_true rfl) rfl ?_
        refine aw_goto (tgt := 30) E dX8_house_72 rfl ?_
        refine aw_sub (L1 := [(0, .ref (wad (WX g) 0)), (1, .int p1), (2, .int p2), (3, .int p3), (4, .int p4), (5, .int x103)]) [2, 3, 4, 5, 6, 0] rfl ?_
        exact ih p3 p4 x103 q101.2 _ hh kx
      ·
        replace hh := iq c48 hh
        refine aw_iload_n E dX8_house_51 4 rfl ?_
        obtain ⟨b105, e106, hh⟩ := lt_e hh
        have J107 : b105 = true → AW Y (WX g) r 7 7 62 [(6, .int q101.1), (0, .ref (wad (WX g) 0)), (1, .int p1), (2, .int p2), (3, .int p3), (4, .int p4), (5, .int p5)] [] q101.2 := fun hb => by
          replace hh := ip hb hh
          refine aw_iload E dX8_house_62 6 rfl ?_
          refine aw_istore_n (L1 := [(3, .int p5), (6, .int q101.1), (0, .ref (wad (WX g) 0)), (1, .int p1), (2, .int p2), (4, .int p4), (5, .int p5)]) E dX8_house_64 (Nat.le_of_ble_eq_true rfl) rfl ?_
          refine aw_iload E dX8_house_65 1 rfl ?_
          refine aw_istore (L1 := [(4, .int q101.1), (3, .int p5), (6, .int q101.1), (0, .ref (wad (WX g) 0)), (1, .int p1), (2, .int p2), (5, .int p5)]) E dX8_house_67 (Nat.le_of_ble_eq_true rfl) rfl ?_
          obtain ⟨x109, e110, hh⟩ := lt_e hh
          refine aw_iinc (v := x109) (L1 := [(5, .int x109), (4, .int q101.1), (3, .int p5), (6, .int q101.1), (0, .ref (wad (WX g) 0)), (1, .int p1), (2, .int p2)]) E dX8_house_69 6 rfl e110 (Nat.le_of_ble_eq_true rfl) rfl ?_
          refine aw_goto (tgt := 30) E dX8_house_72 rfl ?_
          refine aw_sub (L1 := [(0, .ref (wad (WX g) 0)), (1, .int p1), (2, .int p2), (3, .int p5), (4, .int q101.1), (5, .int x109)]) [4, 5, 6, 2, 1, 0] rfl ?_
          exact ih p5 q101.1 x109 q101.2 _ hh kx
        have J108 : b105 = false → AW Y (WX g) r 7 7 69 [(6, .int q101.1), (0, .ref (wad (WX g) 0)), (1, .int p1), (2, .int p2), (3, .int p3), (4, .int p4), (5, .int p5)] [] q101.2 := fun hb => by
          replace hh := iq (bf hb) hh
          obtain ⟨x111, e112, hh⟩ := lt_e hh
          refine aw_iinc (v := x111) (L1 := [(5, .int x111), (6, .int q101.1), (0, .ref (wad (WX g) 0)), (1, .int p1), (2, .int p2), (3, .int p3), (4, .int p4)]) E dX8_house_69 6 rfl e112 (Nat.le_of_ble_eq_true rfl) rfl ?_
          refine aw_goto (tgt := 30) E dX8_house_72 rfl ?_
          refine aw_sub (L1 := [(0, .ref (wad (WX g) 0)), (1, .int p1), (2, .int p2), (3, .int p3), (4, .int p4), (5, .int x111)]) [2, 3, 4, 5, 6, 0] rfl ?_
          exact ih p3 p4 x111 q101.2 _ hh kx
        refine aw_if_lt (tgt := 62) E dX8_house_52 rfl (fun c52 => ?_) (fun c52 => ?_)
        ·
          replace e106 := ip c52 e106
          subst e106
          exact J107 rfl
        ·
          replace e106 := iq c52 e106
          refine aw_iload E dX8_house_55 0 rfl ?_
          refine aw_iload E dX8_house_57 5 rfl ?_
          refine aw_icmp_ge (tgt := 69) E dX8_house_59 rfl (fun c59 => ?_) (fun c59 => ?_)
          ·
            replace e106 := ip c59 e106
            subst e106
            exact J108 rfl
          ·
            replace e106 := iq c59 e106
            subst e106
            exact J107 rfl
set_option maxHeartbeats 4000000 in
set_option maxRecDepth 100000 in
theorem ctX8_house (l : Launch) (g : CtxG) (a1 : Int32) (a2 : Int32) (M : Mem) (r0 : Int32 × Mem) (h : FX8_house a1 a2 M = some r0) : Ct l (WX g) yX8_house cX8_house 7 (some .int) 7 [.ref (wad (WX g) 0), .int a1, .int a2] M (some (.int r0.1), r0.2) := by
  refine Ct.of (by decide) (Nat.le_of_ble_eq_true rfl) (fun Y hY E => ?_)
  have E : EV Y (WX g) cX8_house 7 (some .int) RX8 := E
  have h : FX8_house a1 a2 M = some r0 := h
  unfold FX8_house at h
  show AW Y (WX g) _ 7 7 0 [(0, .ref (wad (WX g) 0)), (1, .int a1), (2, .int a2)] [] M
  obtain ⟨r, hr⟩ : ∃ r : Option Value × Mem, r = (some (.int r0.1), r0.2) := ⟨_, rfl⟩
  rw [← hr]
  refine aw_iload_n E dX8_house_0 1 rfl ?_
  refine aw_callSi (S := []) E msX8_areCorners mlX8_184 rfl (ctX8_areCorners (yl Y) g a1  M ) rfl (Nat.le_of_ble_eq_true rfl) (Nat.le_of_ble_eq_true rfl) dX8_house_1 ?_
  refine aw_if_ne (tgt := 10) E dX8_house_4 rfl (fun c4 => ?_) (fun c4 => ?_)
  ·
    replace h := iq c4 h
    refine aw_iload_n E dX8_house_10 2 rfl ?_
    obtain ⟨b1, e2, h⟩ := lt_e h
    have J3 : b1 = true → AW Y (WX g) r 7 7 19 [(0, .ref (wad (WX g) 0)), (1, .int a1), (2, .int a2)] [] M := fun hb => by
      replace h := ip hb h
      refine aw_bipush (v := (-7)) E dX8_house_19 (by decide) ?_
      replace h := Option.some.inj h
      subst h
      exact aw_iret E dX8_house_21 hr
    have J4 : b1 = false → AW Y (WX g) r 7 7 22 [(0, .ref (wad (WX g) 0)), (1, .int a1), (2, .int a2)] [] M := fun hb => by
      replace h := iq (bf hb) h
      refine aw_iconst (v := (-1)) E dX8_house_22 (by decide) ?_
      refine aw_istore_n (L1 := [(3, .int (-1)), (0, .ref (wad (WX g) 0)), (1, .int a1), (2, .int a2)]) E dX8_house_23 (Nat.le_of_ble_eq_true rfl) rfl ?_
      refine aw_iconst (v := (-1)) E dX8_house_24 (by decide) ?_
      refine aw_istore (L1 := [(4, .int (-1)), (3, .int (-1)), (0, .ref (wad (WX g) 0)), (1, .int a1), (2, .int a2)]) E dX8_house_25 (Nat.le_of_ble_eq_true rfl) rfl ?_
      refine aw_iconst (v := 0) E dX8_house_27 (by decide) ?_
      refine aw_istore (L1 := [(5, .int 0), (4, .int (-1)), (3, .int (-1)), (0, .ref (wad (WX g) 0)), (1, .int a1), (2, .int a2)]) E dX8_house_28 (Nat.le_of_ble_eq_true rfl) rfl ?_
      obtain ⟨q5, e6, h⟩ := bd_e h
      refine aw_sub (L1 := [(0, .ref (wad (WX g) 0)), (1, .int a1), (2, .int a2), (3, .int (-1)), (4, .int (-1)), (5, .int 0)]) [3, 4, 5, 2, 1, 0] rfl ?_
      refine lpX8_house_30 E   a1 a2 FU (-1) (-1) 0 M q5 e6 ?_
      refine aw_iload_n E dX8_house_75 0 rfl ?_
      refine aw_if_ne (tgt := 83) E dX8_house_76 rfl (fun c76 => ?_) (fun c76 => ?_)
      ·
        replace h := iq c76 h
        refine aw_iload E dX8_house_83 2 rfl ?_
        replace h := Option.some.inj h
        subst h
        exact aw_iret E dX8_house_85 hr
      ·
        replace h := ip c76 h
        refine aw_iload_n E dX8_house_79 1 rfl ?_
        refine aw_goto (tgt := 85) E dX8_house_80 rfl ?_
        replace h := Option.some.inj h
        subst h
        exact aw_iret E dX8_house_85 hr
    refine aw_if_lt (tgt := 19) E dX8_house_11 rfl (fun c11 => ?_) (fun c11 => ?_)
    ·
      replace e2 := ip c11 e2
      subst e2
      exact J3 rfl
    ·
      replace e2 := iq c11 e2
      refine aw_iload_n E dX8_house_14 2 rfl ?_
      refine aw_iconst (v := 1) E dX8_house_15 (by decide) ?_
      refine aw_icmp_le (tgt := 22) E dX8_house_16 rfl (fun c16 => ?_) (fun c16 => ?_)
      ·
        replace e2 := ip c16 e2
        subst e2
        exact J4 rfl
      ·
        replace e2 := iq c16 e2
        subst e2
        exact J3 rfl
  ·
    replace h := ip c4 h
    refine aw_bipush (v := (-2)) E dX8_house_7 (by decide) ?_
    replace h := Option.some.inj h
    subst h
    exact aw_iret E dX8_house_9 hr
def FX8_image  (M : Mem) : Option (Int32 × Mem) :=
  ob (FX1_take 2 1 M) fun q1 =>
  lt (wr q1 0 3 1) fun M3 =>
  some (M3.1 2 4, M3)
set_option maxHeartbeats 4000000 in
set_option maxRecDepth 100000 in
theorem ctX8_image (l : Launch) (g : CtxG)  (M : Mem) (r0 : Int32 × Mem) (h : FX8_image M = some r0) : Ct l (WX g) yX8_image cX8_image 1 (some .int) 2 [.ref (wad (WX g) 0)] M (some (.int r0.1), r0.2) := by
  refine Ct.of (by decide) (Nat.le_of_ble_eq_true rfl) (fun Y hY E => ?_)
  have E : EV Y (WX g) cX8_image 1 (some .int) RX8 := E
  have h : FX8_image  M = some r0 := h
  unfold FX8_image at h
  show AW Y (WX g) _ 1 2 0 [(0, .ref (wad (WX g) 0))] [] M
  obtain ⟨r, hr⟩ : ∃ r : Option Value × Mem, r = (some (.int r0.1), r0.2) := ⟨_, rfl⟩
  rw [← hr]
  refine aw_aload_n E dX8_image_0 0 rfl ?_
  refine aw_getR (q := 2) E flX8_16 (Nat.le_of_ble_eq_true rfl) rfl rfl dX8_image_1 ?_
  refine aw_aload_n E dX8_image_4 0 rfl ?_
  refine aw_getR (q := 1) E flX8_12 (Nat.le_of_ble_eq_true rfl) rfl rfl dX8_image_5 ?_
  obtain ⟨q1, e2, h⟩ := bd_e h
  refine aw_callVv (S := []) E mvX1_take mlX8_212 (Nat.le_of_ble_eq_true rfl) rfl rfl rfl (ctX1_take (yl Y) g 2 1 set2 set1 M q1 e2) rfl (Nat.le_of_ble_eq_true rfl) (Nat.le_of_ble_eq_true rfl) dX8_image_8 ?_
  refine aw_aload_n E dX8_image_11 0 rfl ?_
  refine aw_iconst (v := 1) E dX8_image_12 (by decide) ?_
  obtain ⟨M3, e4, h⟩ := lt_e h
  refine aw_putI1 e4 E flX8_132 (Nat.le_of_ble_eq_true rfl) rfl rfl (nr_bool (by decide)) dX8_image_13 ?_
  refine aw_aload_n E dX8_image_16 0 rfl ?_
  refine aw_getR (q := 2) E flX8_16 (Nat.le_of_ble_eq_true rfl) rfl rfl dX8_image_17 ?_
  refine aw_getI E flX8_111 (Nat.le_of_ble_eq_true rfl) rfl rfl dX8_image_20 ?_
  replace h := Option.some.inj h
  subst h
  exact aw_iret E dX8_image_23 hr
def FX8_judge (a1 : Int32) (M : Mem) : Option (Int32 × Mem) :=
  if (FX8_isSheet a1) = 0 then
    some ((-2), M)
  else
    gi a1 4 <|
    if (FX2_isMissing (44 + (Int32.toNatClampNeg a1)) M) = 0 then
      gi a1 4 <|
      ob (FX8_follow (44 + (Int32.toNatClampNeg a1)) M) fun q5 =>
      some (q5.1, q5.2)
    else
      some ((-11), M)
set_option maxHeartbeats 4000000 in
set_option maxRecDepth 100000 in
theorem ctX8_judge (l : Launch) (g : CtxG) (a1 : Int32) (M : Mem) (r0 : Int32 × Mem) (h : FX8_judge a1 M = some r0) : Ct l (WX g) yX8_judge cX8_judge 2 (some .int) 6 [.ref (wad (WX g) 0), .int a1] M (some (.int r0.1), r0.2) := by
  refine Ct.of (by decide) (Nat.le_of_ble_eq_true rfl) (fun Y hY E => ?_)
  have E : EV Y (WX g) cX8_judge 2 (some .int) RX8 := E
  have h : FX8_judge a1 M = some r0 := h
  unfold FX8_judge at h
  show AW Y (WX g) _ 2 6 0 [(0, .ref (wad (WX g) 0)), (1, .int a1)] [] M
  obtain ⟨r, hr⟩ : ∃ r : Option Value × Mem, r = (some (.int r0.1), r0.2) := ⟨_, rfl⟩
  rw [← hr]
  refine aw_iload_n E dX8_judge_0 1 rfl ?_
  refine aw_callSi (S := []) E msX8_isSheet mlX8_243 rfl (ctX8_isSheet (yl Y) g a1  M ) rfl (Nat.le_of_ble_eq_true rfl) (Nat.le_of_ble_eq_true rfl) dX8_judge_1 ?_
  refine aw_if_ne (tgt := 10) E dX8_judge_4 rfl (fun c4 => ?_) (fun c4 => ?_)
  ·
    replace h := iq c4 h
    refine aw_aload_n E dX8_judge_10 0 rfl ?_
    refine aw_getR (q := 43) E flX8_66 (Nat.le_of_ble_eq_true rfl) rfl rfl dX8_judge_11 ?_
    refine aw_iload_n E dX8_judge_14 1 rfl ?_
    obtain ⟨g1, h⟩ := gi_e h
    refine aw_aldS E (Nat.le_of_ble_eq_true rfl) rfl g1 dX8_judge_15 ?_
    have f2 := sheets_of g1
    refine aw_callVi (S := []) E mvX2_isMissing mlX8_246 f2.1 f2.2.1 rfl rfl (ctX2_isMissing (yl Y) g (44 + (Int32.toNatClampNeg a1)) f2 M ) rfl (Nat.le_of_ble_eq_true rfl) (Nat.le_of_ble_eq_true rfl) dX8_judge_16 ?_
    refine aw_if_eq (tgt := 27) E dX8_judge_19 rfl (fun c19 => ?_) (fun c19 => ?_)
    ·
      replace h := ip c19 h
      refine aw_aload_n E dX8_judge_27 0 rfl ?_
      refine aw_aload_n E dX8_judge_28 0 rfl ?_
      refine aw_getR (q := 43) E flX8_66 (Nat.le_of_ble_eq_true rfl) rfl rfl dX8_judge_29 ?_
      refine aw_iload_n E dX8_judge_32 1 rfl ?_
      obtain ⟨g3, h⟩ := gi_e h
      refine aw_aldS E (Nat.le_of_ble_eq_true rfl) rfl g3 dX8_judge_33 ?_
      have f4 := sheets_of g3
      obtain ⟨q5, e6, h⟩ := bd_e h
      refine aw_callVi (S := []) E mvX8_follow mlX8_250 (Nat.le_of_ble_eq_true rfl) rfl rfl rfl (ctX8_follow (yl Y) g (44 + (Int32.toNatClampNeg a1)) f4 M q5 e6) rfl (Nat.le_of_ble_eq_true rfl) (Nat.le_of_ble_eq_true rfl) dX8_judge_34 ?_
      replace h := Option.some.inj h
      subst h
      exact aw_iret E dX8_judge_37 hr
    ·
      replace h := iq c19 h
      refine aw_bipush (v := (-11)) E dX8_judge_22 (by decide) ?_
      refine aw_goto (tgt := 37) E dX8_judge_24 rfl ?_
      replace h := Option.some.inj h
      subst h
      exact aw_iret E dX8_judge_37 hr
  ·
    replace h := ip c4 h
    refine aw_bipush (v := (-2)) E dX8_judge_7 (by decide) ?_
    replace h := Option.some.inj h
    subst h
    exact aw_iret E dX8_judge_9 hr
def FX8_lane_L60 : Nat → Int32 → Int32 → Int32 → Int32 → Int32 → Mem → Option (Int32 × Int32 × Mem)
  | 0, _, _, _, _, _, _ => none
  | f + 1, p3, p6, p4, p5, p7, M =>
    if 9 ≤ p7 then
      some (p4, p5, M)
    else
      ob (FX0_ringedByLane p6 p7 M) fun q101 =>
      lt (α := Int32) (FJ6_bitCount_0f7a4 (p3 ||| q101.1)) fun x103 =>
      if x103 ≤ p4 then
        lt (α := Int32) (p7 + 1) fun x105 =>
        FX8_lane_L60 f p3 p6 p4 p5 x105 q101.2
      else
        lt (α := Int32) ((10 * p6) + p7) fun x107 =>
        lt (α := Int32) (p7 + 1) fun x109 =>
        FX8_lane_L60 f p3 p6 x103 x107 x109 q101.2
def FX8_lane_L47 : Nat → Int32 → Int32 → Int32 → Int32 → Mem → Option (Int32 × Int32 × Mem)
  | 0, _, _, _, _, _ => none
  | f + 1, p3, p4, p5, p6, M =>
    if 9 ≤ p6 then
      some (p4, p5, M)
    else
      lt (α := Int32) (p6 + 1) fun x101 =>
      ob (FX8_lane_L60 FU p3 p6 p4 p5 x101 M) fun q103 =>
      lt (α := Int32) (p6 + 1) fun x105 =>
      FX8_lane_L47 f p3 q103.1 q103.2.1 x105 q103.2.2
def FX8_lane (a1 : Int32) (a2 : Int32) (M : Mem) : Option (Int32 × Mem) :=
  lt (α := Bool) (if a1 < 1 then true else if a1 ≤ 99 then false else true) fun b1 =>
  if b1 = true then
    some ((-2), M)
  else
    lt (α := Bool) (if a2 < 0 then true else if a2 ≤ 1 then false else true) fun b5 =>
    if b5 = true then
      some ((-7), M)
    else
      ob (FX8_ringed 1 M) fun q9 =>
      lt (α := Int32) (FJ6_bitCount_0f7a4 q9.1) fun x11 =>
      ob (FX8_lane_L47 FU q9.1 x11 (-1) 0 q9.2) fun q13 =>
      if a2 = 0 then
        some (q13.2.1, q13.2.2)
      else
        some (q13.1, q13.2.2)
set_option maxHeartbeats 4000000 in
set_option maxRecDepth 100000 in
theorem lpX8_lane_60 {Y : CtxM} {g : CtxG} {r : Option Value × Mem} (E : EV Y (WX g) cX8_lane 9 (some .int) RX8) (p2 : Int32) (p3 : Int32) (p6 : Int32) : ∀ (f : Nat) (p4 : Int32) (p5 : Int32) (p7 : Int32) (M : Mem) (q : Int32 × Int32 × Mem), FX8_lane_L60 f p3 p6 p4 p5 p7 M = some q → AW Y (WX g) r 9 7 116 [(0, .ref (wad (WX g) 0)), (2, .int p2), (3, .int p3), (4, .int q.1), (5, .int q.2.1), (6, .int p6)] [] q.2.2 → AW Y (WX g) r 9 7 60 [(0, .ref (wad (WX g) 0)), (2, .int p2), (3, .int p3), (4, .int p4), (5, .int p5), (6, .int p6), (7, .int p7)] [] M := by
  intro f
  induction f with
  | zero => intro p4 p5 p7 M q hh; exact absurd hh (fun z => nomatch (show (none : Option (Int32 × Int32 × Mem)) = some q from z))
  | succ f ih =>
    intro p4 p5 p7 M q hh kx
    rw [FX8_lane_L60] at hh
    refine aw_iload E dX8_lane_60 6 rfl ?_
    refine aw_bipush (v := 9) E dX8_lane_62 (by decide) ?_
    refine aw_icmp_ge (tgt := 116) E dX8_lane_64 rfl (fun c64 => ?_) (fun c64 => ?_)
    ·
      replace hh := ip c64 hh
      refine aw_sub (L1 := [(0, .ref (wad (WX g) 0)), (2, .int p2), (3, .int p3), (4, .int p4), (5, .int p5), (6, .int p6)]) [0, 1, 2, 3, 4, 5] rfl ?_
      replace hh := Option.some.inj hh
      subst hh
      exact kx
    ·
      replace hh := iq c64 hh
      refine aw_iload_n E dX8_lane_67 2 rfl ?_
      refine aw_aload_n E dX8_lane_68 0 rfl ?_
      refine aw_getR (q := 37) E flX8_53 (Nat.le_of_ble_eq_true rfl) rfl rfl dX8_lane_69 ?_
      refine aw_aload_n E dX8_lane_72 0 rfl ?_
      refine aw_getR (q := 31) E flX8_46 (Nat.le_of_ble_eq_true rfl) rfl rfl dX8_lane_73 ?_
      refine aw_iload E dX8_lane_76 5 rfl ?_
      refine aw_iload E dX8_lane_78 6 rfl ?_
      obtain ⟨q101, e102, hh⟩ := bd_e hh
      refine aw_callVi (S := [.int p3]) E mvX0_ringedByLane mlX8_224 (Nat.le_of_ble_eq_true rfl) rfl rfl rfl (ctX0_ringedByLane (yl Y) g p6 p7  M q101 e102) rfl (Nat.le_of_ble_eq_true rfl) (Nat.le_of_ble_eq_true rfl) dX8_lane_80 ?_
      refine aw_ior E dX8_lane_83 ?_
      refine aw_callSi (S := []) E msJ6_bitCount_0f7a4 mlX8_219 rfl (ctJ6_bitCount_0f7a4 (yl Y) g (p3 ||| q101.1)  q101.2 ) rfl (Nat.le_of_ble_eq_true rfl) (Nat.le_of_ble_eq_true rfl) dX8_lane_84 ?_
      obtain ⟨x103, e104, hh⟩ := lt_e hh
      refine aw_nmI e104 ?_
      refine aw_istore (L1 := [(8, .int x103), (0, .ref (wad (WX g) 0)), (2, .int p2), (3, .int p3), (4, .int p4), (5, .int p5), (6, .int p6), (7, .int p7)]) E dX8_lane_87 (Nat.le_of_ble_eq_true rfl) rfl ?_
      refine aw_iload E dX8_lane_89 0 rfl ?_
      refine aw_iload E dX8_lane_91 4 rfl ?_
      refine aw_icmp_le (tgt := 110) E dX8_lane_93 rfl (fun c93 => ?_) (fun c93 => ?_)
      ·
        replace hh := ip c93 hh
        obtain ⟨x105, e106, hh⟩ := lt_e hh
        refine aw_iinc (v := x105) (L1 := [(7, .int x105), (8, .int x103), (0, .ref (wad (WX g) 0)), (2, .int p2), (3, .int p3), (4, .int p4), (5, .int p5), (6, .int p6)]) E dX8_lane_110 7 rfl e106 (Nat.le_of_ble_eq_true rfl) rfl ?_
        refine aw_goto (tgt := 60) E dX8_lane_113 rfl ?_
        refine aw_sub (L1 := [(0, .ref (wad (WX g) 0)), (2, .int p2), (3, .int p3), (4, .int p4), (5, .int p5), (6, .int p6), (7, .int x105)]) [2, 3, 4, 5, 6, 7, 0] rfl ?_
        exact ih p4 p5 x105 q101.2 _ hh kx
      ·
        replace hh := iq c93 hh
        refine aw_iload E dX8_lane_96 0 rfl ?_
        refine aw_istore (L1 := [(4, .int x103), (8, .int x103), (0, .ref (wad (WX g) 0)), (2, .int p2), (3, .int p3), (5, .int p5), (6, .int p6), (7, .int p7)]) E dX8_lane_98 (Nat.le_of_ble_eq_true rfl) rfl ?_
        refine aw_bipush (v := 10) E dX8_lane_100 (by decide) ?_
        refine aw_iload E dX8_lane_102 6 rfl ?_
        refine aw_imul E dX8_lane_104 ?_
        refine aw_iload E dX8_lane_105 7 rfl ?_
        refine aw_iadd E dX8_lane_107 ?_
        obtain ⟨x107, e108, hh⟩ := lt_e hh
        refine aw_nmI e108 ?_
        refine aw_istore (L1 := [(5, .int x107), (4, .int x103), (8, .int x103), (0, .ref (wad (WX g) 0)), (2, .int p2), (3, .int p3), (6, .int p6), (7, .int p7)]) E dX8_lane_108 (Nat.le_of_ble_eq_true rfl) rfl ?_
        obtain ⟨x109, e110, hh⟩ := lt_e hh
        refine aw_iinc (v := x109) (L1 := [(7, .int x109), (5, .int x107), (4, .int x103), (8, .int x103), (0, .ref (wad (WX g) 0)), (2, .int p2), (3, .int p3), (6, .int p6)]) E dX8_lane_110 7 rfl e110 (Nat.le_of_ble_eq_true rfl) rfl ?_
        refine aw_goto (tgt := 60) E dX8_lane_113 rfl ?_
        refine aw_sub (L1 := [(0, .ref (wad (WX g) 0)), (2, .int p2), (3, .int p3), (4, .int x103), (5, .int x107), (6, .int p6), (7, .int x109)]) [4, 5, 6, 2, 1, 7, 0] rfl ?_
        exact ih x103 x107 x109 q101.2 _ hh kx
set_option maxHeartbeats 4000000 in
set_option maxRecDepth 100000 in
theorem lpX8_lane_47 {Y : CtxM} {g : CtxG} {r : Option Value × Mem} (E : EV Y (WX g) cX8_lane 9 (some .int) RX8) (p2 : Int32) (p3 : Int32) : ∀ (f : Nat) (p4 : Int32) (p5 : Int32) (p6 : Int32) (M : Mem) (q : Int32 × Int32 × Mem), FX8_lane_L47 f p3 p4 p5 p6 M = some q → AW Y (WX g) r 9 7 122 [(2, .int p2), (4, .int q.1), (5, .int q.2.1)] [] q.2.2 → AW Y (WX g) r 9 7 47 [(0, .ref (wad (WX g) 0)), (2, .int p2), (3, .int p3), (4, .int p4), (5, .int p5), (6, .int p6)] [] M := by
  intro f
  induction f with
  | zero => intro p4 p5 p6 M q hh; exact absurd hh (fun z => nomatch (show (none : Option (Int32 × Int32 × Mem)) = some q from z))
  | succ f ih =>
    intro p4 p5 p6 M q hh kx
    rw [FX8_lane_L47] at hh
    refine aw_iload E dX8_lane_47 5 rfl ?_
    refine aw_bipush (v := 9) E dX8_lane_49 (by decide) ?_
    refine aw_icmp_ge (tgt := 122) E dX8_lane_51 rfl (fun c51 => ?_) (fun c51 => ?_)
    ·
      replace hh := ip c51 hh
      refine aw_sub (L1 := [(2, .int p2), (4, .int p4), (5, .int p5)]) [1, 3, 4] rfl ?_
      replace hh := Option.some.inj hh
      subst hh
      exact kx
    ·
      replace hh := iq c51 hh
      refine aw_iload E dX8_lane_54 5 rfl ?_
      refine aw_iconst (v := 1) E dX8_lane_56 (by decide) ?_
      refine aw_iadd E dX8_lane_57 ?_
      obtain ⟨x101, e102, hh⟩ := lt_e hh
      refine aw_nmI e102 ?_
      refine aw_istore (L1 := [(7, .int x101), (0, .ref (wad (WX g) 0)), (2, .int p2), (3, .int p3), (4, .int p4), (5, .int p5), (6, .int p6)]) E dX8_lane_58 (Nat.le_of_ble_eq_true rfl) rfl ?_
      obtain ⟨q103, e104, hh⟩ := bd_e hh
      refine aw_sub (L1 := [(0, .ref (wad (WX g) 0)), (2, .int p2), (3, .int p3), (4, .int p4), (5, .int p5), (6, .int p6), (7, .int x101)]) [1, 2, 3, 4, 5, 6, 0] rfl ?_
      refine lpX8_lane_60 E   p2 p3 p6 FU p4 p5 x101 M q103 e104 ?_
      obtain ⟨x105, e106, hh⟩ := lt_e hh
      refine aw_iinc (v := x105) (L1 := [(6, .int x105), (0, .ref (wad (WX g) 0)), (2, .int p2), (3, .int p3), (4, .int q103.1), (5, .int q103.2.1)]) E dX8_lane_116 5 rfl e106 (Nat.le_of_ble_eq_true rfl) rfl ?_
      refine aw_goto (tgt := 47) E dX8_lane_119 rfl ?_
      refine aw_sub (L1 := [(0, .ref (wad (WX g) 0)), (2, .int p2), (3, .int p3), (4, .int q103.1), (5, .int q103.2.1), (6, .int x105)]) [1, 2, 3, 4, 5, 0] rfl ?_
      exact ih q103.1 q103.2.1 x105 q103.2.2 _ hh kx
set_option maxHeartbeats 4000000 in
set_option maxRecDepth 100000 in
theorem ctX8_lane (l : Launch) (g : CtxG) (a1 : Int32) (a2 : Int32) (M : Mem) (r0 : Int32 × Mem) (h : FX8_lane a1 a2 M = some r0) : Ct l (WX g) yX8_lane cX8_lane 9 (some .int) 7 [.ref (wad (WX g) 0), .int a1, .int a2] M (some (.int r0.1), r0.2) := by
  refine Ct.of (by decide) (Nat.le_of_ble_eq_true rfl) (fun Y hY E => ?_)
  have E : EV Y (WX g) cX8_lane 9 (some .int) RX8 := E
  have h : FX8_lane a1 a2 M = some r0 := h
  unfold FX8_lane at h
  show AW Y (WX g) _ 9 7 0 [(0, .ref (wad (WX g) 0)), (1, .int a1), (2, .int a2)] [] M
  obtain ⟨r, hr⟩ : ∃ r : Option Value × Mem, r = (some (.int r0.1), r0.2) := ⟨_, rfl⟩
  rw [← hr]
  refine aw_iload_n E dX8_lane_0 1 rfl ?_
  refine aw_iconst (v := 1) E dX8_lane_1 (by decide) ?_
  obtain ⟨b1, e2, h⟩ := lt_e h
  have J3 : b1 = true → AW Y (WX g) r 9 7 11 [(0, .ref (wad (WX g) 0)), (1, .int a1), (2, .int a2)] [] M := fun hb => by
    replace h := ip hb h
    refine aw_bipush (v := (-2)) E dX8_lane_11 (by decide) ?_
    replace h := Option.some.inj h
    subst h
    exact aw_iret E dX8_lane_13 hr
  have J4 : b1 = false → AW Y (WX g) r 9 7 14 [(0, .ref (wad (WX g) 0)), (1, .int a1), (2, .int a2)] [] M := fun hb => by
    replace h := iq (bf hb) h
    refine aw_iload_n E dX8_lane_14 2 rfl ?_
    obtain ⟨b5, e6, h⟩ := lt_e h
    have J7 : b5 = true → AW Y (WX g) r 9 7 23 [(0, .ref (wad (WX g) 0)), (1, .int a1), (2, .int a2)] [] M := fun hb => by
      replace h := ip hb h
      refine aw_bipush (v := (-7)) E dX8_lane_23 (by decide) ?_
      replace h := Option.some.inj h
      subst h
      exact aw_iret E dX8_lane_25 hr
    have J8 : b5 = false → AW Y (WX g) r 9 7 26 [(0, .ref (wad (WX g) 0)), (1, .int a1), (2, .int a2)] [] M := fun hb => by
      replace h := iq (bf hb) h
      refine aw_aload_n E dX8_lane_26 0 rfl ?_
      refine aw_aload_n E dX8_lane_27 0 rfl ?_
      refine aw_getR (q := 1) E flX8_12 (Nat.le_of_ble_eq_true rfl) rfl rfl dX8_lane_28 ?_
      obtain ⟨q9, e10, h⟩ := bd_e h
      refine aw_callVi (S := []) E mvX8_ringed mlX8_199 (Nat.le_of_ble_eq_true rfl) rfl rfl rfl (ctX8_ringed (yl Y) g 1 set1 M q9 e10) rfl (Nat.le_of_ble_eq_true rfl) (Nat.le_of_ble_eq_true rfl) dX8_lane_31 ?_
      refine aw_istore_n (L1 := [(3, .int q9.1), (0, .ref (wad (WX g) 0)), (1, .int a1), (2, .int a2)]) E dX8_lane_34 (Nat.le_of_ble_eq_true rfl) rfl ?_
      refine aw_iload_n E dX8_lane_35 0 rfl ?_
      refine aw_callSi (S := []) E msJ6_bitCount_0f7a4 mlX8_219 rfl (ctJ6_bitCount_0f7a4 (yl Y) g q9.1  q9.2 ) rfl (Nat.le_of_ble_eq_true rfl) (Nat.le_of_ble_eq_true rfl) dX8_lane_36 ?_
      obtain ⟨x11, e12, h⟩ := lt_e h
      refine aw_nmI e12 ?_
      refine aw_istore (L1 := [(4, .int x11), (3, .int q9.1), (0, .ref (wad (WX g) 0)), (1, .int a1), (2, .int a2)]) E dX8_lane_39 (Nat.le_of_ble_eq_true rfl) rfl ?_
      refine aw_iconst (v := (-1)) E dX8_lane_41 (by decide) ?_
      refine aw_istore (L1 := [(5, .int (-1)), (4, .int x11), (3, .int q9.1), (0, .ref (wad (WX g) 0)), (1, .int a1), (2, .int a2)]) E dX8_lane_42 (Nat.le_of_ble_eq_true rfl) rfl ?_
      refine aw_iconst (v := 0) E dX8_lane_44 (by decide) ?_
      refine aw_istore (L1 := [(6, .int 0), (5, .int (-1)), (4, .int x11), (3, .int q9.1), (0, .ref (wad (WX g) 0)), (1, .int a1), (2, .int a2)]) E dX8_lane_45 (Nat.le_of_ble_eq_true rfl) rfl ?_
      obtain ⟨q13, e14, h⟩ := bd_e h
      refine aw_sub (L1 := [(0, .ref (wad (WX g) 0)), (2, .int a2), (3, .int q9.1), (4, .int x11), (5, .int (-1)), (6, .int 0)]) [4, 6, 3, 2, 1, 0] rfl ?_
      refine lpX8_lane_47 E   a2 q9.1 FU x11 (-1) 0 q9.2 q13 e14 ?_
      refine aw_iload_n E dX8_lane_122 0 rfl ?_
      refine aw_if_ne (tgt := 131) E dX8_lane_123 rfl (fun c123 => ?_) (fun c123 => ?_)
      ·
        replace h := iq c123 h
        refine aw_iload E dX8_lane_131 1 rfl ?_
        replace h := Option.some.inj h
        subst h
        exact aw_iret E dX8_lane_133 hr
      ·
        replace h := ip c123 h
        refine aw_iload E dX8_lane_126 2 rfl ?_
        refine aw_goto (tgt := 133) E dX8_lane_128 rfl ?_
        replace h := Option.some.inj h
        subst h
        exact aw_iret E dX8_lane_133 hr
    refine aw_if_lt (tgt := 23) E dX8_lane_15 rfl (fun c15 => ?_) (fun c15 => ?_)
    ·
      replace e6 := ip c15 e6
      subst e6
      exact J7 rfl
    ·
      replace e6 := iq c15 e6
      refine aw_iload_n E dX8_lane_18 2 rfl ?_
      refine aw_iconst (v := 1) E dX8_lane_19 (by decide) ?_
      refine aw_icmp_le (tgt := 26) E dX8_lane_20 rfl (fun c20 => ?_) (fun c20 => ?_)
      ·
        replace e6 := ip c20 e6
        subst e6
        exact J8 rfl
      ·
        replace e6 := iq c20 e6
        subst e6
        exact J7 rfl
  refine aw_icmp_lt (tgt := 11) E dX8_lane_2 rfl (fun c2 => ?_) (fun c2 => ?_)
  ·
    replace e2 := ip c2 e2
    subst e2
    exact J3 rfl
  ·
    replace e2 := iq c2 e2
    refine aw_iload_n E dX8_lane_5 1 rfl ?_
    refine aw_bipush (v := 99) E dX8_lane_6 (by decide) ?_
    refine aw_icmp_le (tgt := 14) E dX8_lane_8 rfl (fun c8 => ?_) (fun c8 => ?_)
    ·
      replace e2 := ip c8 e2
      subst e2
      exact J4 rfl
    ·
      replace e2 := iq c8 e2
      subst e2
      exact J3 rfl
