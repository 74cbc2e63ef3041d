/-! PRINTED by wip/gen: pure functions of the methods, and that the machine does what they say -/
def FX6_add  (M : Mem) : Option (Int32 × Mem) :=
  if (M.1 14 4) < 6 then
    gi (M.1 14 4) 6 <|
    gd (¬ (0 : Int32) < 0 ∧ ¬ (0 : Int32) < 0 ∧ ¬ (160 : Int32) < 0 ∧ (Int32.toNatClampNeg 0) + (Int32.toNatClampNeg 160) ≤ 160 ∧ (Int32.toNatClampNeg 0) + (Int32.toNatClampNeg 160) ≤ 160) <|
    lt (setC M (16 + (Int32.toNatClampNeg (M.1 14 4))) (va_cpy (M.1 12) (M.1 (16 + (Int32.toNatClampNeg (M.1 14 4)))) (Int32.toNatClampNeg 0) (Int32.toNatClampNeg 0) (Int32.toNatClampNeg 160))) fun M4 =>
    gi (M4.1 14 4) 6 <|
    gd (¬ (0 : Int32) < 0 ∧ ¬ (0 : Int32) < 0 ∧ ¬ (3 : Int32) < 0 ∧ (Int32.toNatClampNeg 0) + (Int32.toNatClampNeg 3) ≤ 3 ∧ (Int32.toNatClampNeg 0) + (Int32.toNatClampNeg 3) ≤ 3) <|
    lt (setC M4 (23 + (Int32.toNatClampNeg (M4.1 14 4))) (va_cpy (M4.1 13) (M4.1 (23 + (Int32.toNatClampNeg (M4.1 14 4)))) (Int32.toNatClampNeg 0) (Int32.toNatClampNeg 0) (Int32.toNatClampNeg 3))) fun M9 =>
    lt (wr M9 14 4 ((M9.1 14 4) + 1)) fun M11 =>
    some (M9.1 14 4, M11)
  else
    some ((-4), M)
set_option maxHeartbeats 4000000 in
set_option maxRecDepth 100000 in
theorem ctX6_add (l : Launch) (g : CtxG)  (M : Mem) (r0 : Int32 × Mem) (h : FX6_add M = some r0) : Ct l (WX g) yX6_add cX6_add 2 (some .int) 2 [.ref (wad (WX g) 14), .ref (wad (WX g) 10)] M (some (.int r0.1), r0.2) := by
  refine Ct.of (by decide) (Nat.le_of_ble_eq_true rfl) (fun Y hY E => ?_)
  have E : EV Y (WX g) cX6_add 2 (some .int) RX6 := E
  have h : FX6_add  M = some r0 := h
  unfold FX6_add at h
  show AW Y (WX g) _ 2 2 0 [(0, .ref (wad (WX g) 14)), (1, .ref (wad (WX g) 10))] [] M
  obtain ⟨r, hr⟩ : ∃ r : Option Value × Mem, r = (some (.int r0.1), r0.2) := ⟨_, rfl⟩
  rw [← hr]
  refine aw_aload_n E dX6_add_0 0 rfl ?_
  refine aw_getI E flX6_28 (Nat.le_of_ble_eq_true rfl) rfl rfl dX6_add_1 ?_
  refine aw_bipush (v := 6) E dX6_add_4 (by decide) ?_
  refine aw_icmp_lt (tgt := 12) E dX6_add_6 rfl (fun c6 => ?_) (fun c6 => ?_)
  ·
    replace h := ip c6 h
    refine aw_aload_n E dX6_add_12 1 rfl ?_
    refine aw_getR (q := 12) E flX6_32 (Nat.le_of_ble_eq_true rfl) rfl rfl dX6_add_13 ?_
    refine aw_iconst (v := 0) E dX6_add_16 (by decide) ?_
    refine aw_aload_n E dX6_add_17 0 rfl ?_
    refine aw_getR (q := 15) E flX6_11 (Nat.le_of_ble_eq_true rfl) rfl rfl dX6_add_18 ?_
    refine aw_aload_n E dX6_add_21 0 rfl ?_
    refine aw_getI E flX6_28 (Nat.le_of_ble_eq_true rfl) rfl rfl dX6_add_22 ?_
    obtain ⟨g1, h⟩ := gi_e h
    refine aw_aldR E (Nat.le_of_ble_eq_true rfl) rfl g1 dX6_add_25 ?_
    have f2 := code2_of g1
    refine aw_iconst (v := 0) E dX6_add_26 (by decide) ?_
    refine aw_sipush (v := 160) E dX6_add_27 (by decide) ?_
    obtain ⟨g3, h⟩ := gd_e h
    obtain ⟨M4, e5, h⟩ := lt_e h
    refine aw_acopy1 e5 E mlX6_34 (Nat.le_of_ble_eq_true rfl) rfl f2.1 f2.2 g3 (Nat.le_of_ble_eq_true rfl) (Nat.le_of_ble_eq_true rfl) dX6_add_30 ?_
    refine aw_aload_n E dX6_add_33 1 rfl ?_
    refine aw_getR (q := 13) E flX6_40 (Nat.le_of_ble_eq_true rfl) rfl rfl dX6_add_34 ?_
    refine aw_iconst (v := 0) E dX6_add_37 (by decide) ?_
    refine aw_aload_n E dX6_add_38 0 rfl ?_
    refine aw_getR (q := 22) E flX6_16 (Nat.le_of_ble_eq_true rfl) rfl rfl dX6_add_39 ?_
    refine aw_aload_n E dX6_add_42 0 rfl ?_
    refine aw_getI E flX6_28 (Nat.le_of_ble_eq_true rfl) rfl rfl dX6_add_43 ?_
    obtain ⟨g6, h⟩ := gi_e h
    refine aw_aldR E (Nat.le_of_ble_eq_true rfl) rfl g6 dX6_add_46 ?_
    have f7 := ends2_of g6
    refine aw_iconst (v := 0) E dX6_add_47 (by decide) ?_
    refine aw_iconst (v := 3) E dX6_add_48 (by decide) ?_
    obtain ⟨g8, h⟩ := gd_e h
    obtain ⟨M9, e10, h⟩ := lt_e h
    refine aw_acopy1 e10 E mlX6_34 (Nat.le_of_ble_eq_true rfl) rfl f7.1 f7.2 g8 (Nat.le_of_ble_eq_true rfl) (Nat.le_of_ble_eq_true rfl) dX6_add_49 ?_
    refine aw_aload_n E dX6_add_52 0 rfl ?_
    refine aw_dup E dX6_add_53 rfl ?_
    refine aw_getI E flX6_28 (Nat.le_of_ble_eq_true rfl) rfl rfl dX6_add_54 ?_
    refine aw_dup_x1 E dX6_add_57 rfl rfl ?_
    refine aw_iconst (v := 1) E dX6_add_58 (by decide) ?_
    refine aw_iadd E dX6_add_59 ?_
    obtain ⟨M11, e12, h⟩ := lt_e h
    refine aw_putI1 e12 E flX6_28 (Nat.le_of_ble_eq_true rfl) rfl rfl nr_int dX6_add_60 ?_
    replace h := Option.some.inj h
    subst h
    exact aw_iret E dX6_add_63 hr
  ·
    replace h := iq c6 h
    refine aw_bipush (v := (-4)) E dX6_add_9 (by decide) ?_
    replace h := Option.some.inj h
    subst h
    exact aw_iret E dX6_add_11 hr
def FX6_applied (a0 : Int32) (a1 : Int32) (a2 : Int32) : Int32 :=
  if a0 = 42 then
    a1 * a2
  else if a0 = 43 then
    a1 + a2
  else if a0 = 45 then
    a1 - a2
  else if a0 = 60 then
    if a2 ≤ a1 then
      0
    else
      1
  else if a0 = 61 then
    if a1 = a2 then
      1
    else
      0
  else if a0 = 259 then
    lt (α := Bool) (if a1 = 0 then if a2 = 0 then false else true else true) fun b1 =>
    if b1 = true then
      1
    else
      0
  else if a0 = 260 then
    lt (α := Bool) (if a1 = 0 then false else if a2 = 0 then false else true) fun b5 =>
    if b5 = true then
      1
    else
      0
  else if a0 = 261 then
    if a1 = 0 then
      1
    else
      0
  else 
    -a1
set_option maxHeartbeats 4000000 in
set_option maxRecDepth 100000 in
theorem ctX6_applied (l : Launch) (g : CtxG) (a0 : Int32) (a1 : Int32) (a2 : Int32) (M : Mem) : Ct l (WX g) yX6_applied cX6_applied 3 (some .int) 1 [.int a0, .int a1, .int a2] M (some (.int (FX6_applied a0 a1 a2)), M) := by
  obtain ⟨r0, h⟩ : ∃ r0, FX6_applied a0 a1 a2 = r0 := ⟨_, rfl⟩
  rw [h]
  refine Ct.of (by decide) (Nat.le_of_ble_eq_true rfl) (fun Y hY E => ?_)
  have E : EV Y (WX g) cX6_applied 3 (some .int) RX6 := E
  --generalize hr : ((some (Value.int r0), M) : Option Value × Mem) = r
  have h : FX6_applied a0 a1 a2 = r0 := h
  unfold FX6_applied at h
  show AW Y (WX g) _ 3 1 0 [(0, .int a0), (1, .int a1), (2, .int a2)] [] M
  obtain ⟨r, hr⟩ : ∃ r : Option Value × Mem, r = (some (.int r0), M) := ⟨_, rfl⟩
  rw [← hr]
  refine aw_iload_n E dX6_applied_0 0 rfl ?_
  by_cases c1_42 : a0 = 42
  ·
    replace h := ip c1_42 h
    refine aw_look (tgt := 144) (off := 143) E dX6_applied_1 (by decide) (by rw [c1_42]; decide) (by decide) ?_
    refine aw_iload_n E dX6_applied_144 1 rfl ?_
    refine aw_iload_n E dX6_applied_145 2 rfl ?_
    refine aw_imul E dX6_applied_146 ?_
    subst h
    exact aw_iret E dX6_applied_147 hr
  replace h := iq c1_42 h
  by_cases c1_43 : a0 = 43
  ·
    replace h := ip c1_43 h
    refine aw_look (tgt := 136) (off := 135) E dX6_applied_1 (by decide) (by rw [c1_43]; decide) (by decide) ?_
    refine aw_iload_n E dX6_applied_136 1 rfl ?_
    refine aw_iload_n E dX6_applied_137 2 rfl ?_
    refine aw_iadd E dX6_applied_138 ?_
    subst h
    exact aw_iret E dX6_applied_139 hr
  replace h := iq c1_43 h
  by_cases c1_45 : a0 = 45
  ·
    replace h := ip c1_45 h
    refine aw_look (tgt := 140) (off := 139) E dX6_applied_1 (by decide) (by rw [c1_45]; decide) (by decide) ?_
    refine aw_iload_n E dX6_applied_140 1 rfl ?_
    refine aw_iload_n E dX6_applied_141 2 rfl ?_
    refine aw_isub E dX6_applied_142 ?_
    subst h
    exact aw_iret E dX6_applied_143 hr
  replace h := iq c1_45 h
  by_cases c1_60 : a0 = 60
  ·
    replace h := ip c1_60 h
    refine aw_look (tgt := 114) (off := 113) E dX6_applied_1 (by decide) (by rw [c1_60]; decide) (by decide) ?_
    refine aw_iload_n E dX6_applied_114 1 rfl ?_
    refine aw_iload_n E dX6_applied_115 2 rfl ?_
    refine aw_icmp_ge (tgt := 123) E dX6_applied_116 rfl (fun c116 => ?_) (fun c116 => ?_)
    ·
      replace h := ip c116 h
      refine aw_iconst (v := 0) E dX6_applied_123 (by decide) ?_
      subst h
      exact aw_iret E dX6_applied_124 hr
    ·
      replace h := iq c116 h
      refine aw_iconst (v := 1) E dX6_applied_119 (by decide) ?_
      refine aw_goto (tgt := 124) E dX6_applied_120 rfl ?_
      subst h
      exact aw_iret E dX6_applied_124 hr
  replace h := iq c1_60 h
  by_cases c1_61 : a0 = 61
  ·
    replace h := ip c1_61 h
    refine aw_look (tgt := 125) (off := 124) E dX6_applied_1 (by decide) (by rw [c1_61]; decide) (by decide) ?_
    refine aw_iload_n E dX6_applied_125 1 rfl ?_
    refine aw_iload_n E dX6_applied_126 2 rfl ?_
    refine aw_icmp_ne (tgt := 134) E dX6_applied_127 rfl (fun c127 => ?_) (fun c127 => ?_)
    ·
      replace h := iq c127 h
      refine aw_iconst (v := 0) E dX6_applied_134 (by decide) ?_
      subst h
      exact aw_iret E dX6_applied_135 hr
    ·
      replace h := ip c127 h
      refine aw_iconst (v := 1) E dX6_applied_130 (by decide) ?_
      refine aw_goto (tgt := 135) E dX6_applied_131 rfl ?_
      subst h
      exact aw_iret E dX6_applied_135 hr
  replace h := iq c1_61 h
  by_cases c1_259 : a0 = 259
  ·
    replace h := ip c1_259 h
    refine aw_look (tgt := 76) (off := 75) E dX6_applied_1 (by decide) (by rw [c1_259]; decide) (by decide) ?_
    refine aw_iload_n E dX6_applied_76 1 rfl ?_
    obtain ⟨b1, e2, h⟩ := lt_e h
    have J3 : b1 = true → AW Y (WX g) r 3 1 84 [(0, .int a0), (1, .int a1), (2, .int a2)] [] M := fun hb => by
      replace h := ip hb h
      refine aw_iconst (v := 1) E dX6_applied_84 (by decide) ?_
      refine aw_goto (tgt := 89) E dX6_applied_85 rfl ?_
      subst h
      exact aw_iret E dX6_applied_89 hr
    have J4 : b1 = false → AW Y (WX g) r 3 1 88 [(0, .int a0), (1, .int a1), (2, .int a2)] [] M := fun hb => by
      replace h := iq (bf hb) h
      refine aw_iconst (v := 0) E dX6_applied_88 (by decide) ?_
      subst h
      exact aw_iret E dX6_applied_89 hr
    refine aw_if_ne (tgt := 84) E dX6_applied_77 rfl (fun c77 => ?_) (fun c77 => ?_)
    ·
      replace e2 := iq c77 e2
      subst e2
      exact J3 rfl
    ·
      replace e2 := ip c77 e2
      refine aw_iload_n E dX6_applied_80 2 rfl ?_
      refine aw_if_eq (tgt := 88) E dX6_applied_81 rfl (fun c81 => ?_) (fun c81 => ?_)
      ·
        replace e2 := ip c81 e2
        subst e2
        exact J4 rfl
      ·
        replace e2 := iq c81 e2
        subst e2
        exact J3 rfl
  replace h := iq c1_259 h
  by_cases c1_260 : a0 = 260
  ·
    replace h := ip c1_260 h
    refine aw_look (tgt := 90) (off := 89) E dX6_applied_1 (by decide) (by rw [c1_260]; decide) (by decide) ?_
    refine aw_iload_n E dX6_applied_90 1 rfl ?_
    obtain ⟨b5, e6, h⟩ := lt_e h
    have J7 : b5 = true → AW Y (WX g) r 3 1 98 [(0, .int a0), (1, .int a1), (2, .int a2)] [] M := fun hb => by
      replace h := ip hb h
      refine aw_iconst (v := 1) E dX6_applied_98 (by decide) ?_
      refine aw_goto (tgt := 103) E dX6_applied_99 rfl ?_
      subst h
      exact aw_iret E dX6_applied_103 hr
    have J8 : b5 = false → AW Y (WX g) r 3 1 102 [(0, .int a0), (1, .int a1), (2, .int a2)] [] M := fun hb => by
      replace h := iq (bf hb) h
      refine aw_iconst (v := 0) E dX6_applied_102 (by decide) ?_
      subst h
      exact aw_iret E dX6_applied_103 hr
    refine aw_if_eq (tgt := 102) E dX6_applied_91 rfl (fun c91 => ?_) (fun c91 => ?_)
    ·
      replace e6 := ip c91 e6
      subst e6
      exact J8 rfl
    ·
      replace e6 := iq c91 e6
      refine aw_iload_n E dX6_applied_94 2 rfl ?_
      refine aw_if_eq (tgt := 102) E dX6_applied_95 rfl (fun c95 => ?_) (fun c95 => ?_)
      ·
        replace e6 := ip c95 e6
        subst e6
        exact J8 rfl
      ·
        replace e6 := iq c95 e6
        subst e6
        exact J7 rfl
  replace h := iq c1_260 h
  by_cases c1_261 : a0 = 261
  ·
    replace h := ip c1_261 h
    refine aw_look (tgt := 104) (off := 103) E dX6_applied_1 (by decide) (by rw [c1_261]; decide) (by decide) ?_
    refine aw_iload_n E dX6_applied_104 1 rfl ?_
    refine aw_if_ne (tgt := 112) E dX6_applied_105 rfl (fun c105 => ?_) (fun c105 => ?_)
    ·
      replace h := iq c105 h
      refine aw_iconst (v := 0) E dX6_applied_112 (by decide) ?_
      subst h
      exact aw_iret E dX6_applied_113 hr
    ·
      replace h := ip c105 h
      refine aw_iconst (v := 1) E dX6_applied_108 (by decide) ?_
      refine aw_goto (tgt := 113) E dX6_applied_109 rfl ?_
      subst h
      exact aw_iret E dX6_applied_113 hr
  replace h := iq c1_261 h
  refine aw_look (tgt := 148) (off := 147) E dX6_applied_1 (by decide) ((lv_osw c1_42 (by decide)).trans <| (lv_osw c1_43 (by decide)).trans <| (lv_osw c1_45 (by decide)).trans <| (lv_osw c1_60 (by decide)).trans <| (lv_osw c1_61 (by decide)).trans <| (lv_osw c1_259 (by decide)).trans <| (lv_osw c1_260 (by decide)).trans <| (lv_osw c1_261 (by decide)).trans <| rfl) (by decide) ?_
  refine aw_iload_n E dX6_applied_148 1 rfl ?_
  refine aw_ineg E dX6_applied_149 ?_
  subst h
  exact aw_iret E dX6_applied_150 hr
def FX6_name (a1 : Int32) (a2 : Int32) (a3 : Int32) (a4 : Int32) (a5 : Int32) (a6 : Int32) (M : Mem) : Option (Mem) :=
  gi 0 6 <|
  lt (wr M 30 (Int32.toNatClampNeg 0) a1) fun M2 =>
  gi 1 6 <|
  lt (wr M2 30 (Int32.toNatClampNeg 1) a2) fun M5 =>
  gi 2 6 <|
  lt (wr M5 30 (Int32.toNatClampNeg 2) a3) fun M8 =>
  gi 3 6 <|
  lt (wr M8 30 (Int32.toNatClampNeg 3) a4) fun M11 =>
  gi 4 6 <|
  lt (wr M11 30 (Int32.toNatClampNeg 4) a5) fun M14 =>
  gi 5 6 <|
  lt (wr M14 30 (Int32.toNatClampNeg 5) a6) fun M17 =>
  some M17
set_option maxHeartbeats 4000000 in
set_option maxRecDepth 100000 in
theorem ctX6_name (l : Launch) (g : CtxG) (a1 : Int32) (a2 : Int32) (a3 : Int32) (a4 : Int32) (a5 : Int32) (a6 : Int32) (M : Mem) (r0 : Mem) (h : FX6_name a1 a2 a3 a4 a5 a6 M = some r0) : Ct l (WX g) yX6_name cX6_name 7 none 1 [.ref (wad (WX g) 14), .int a1, .int a2, .int a3, .int a4, .int a5, .int a6] M (none, r0) := by
  refine Ct.of (by decide) (Nat.le_of_ble_eq_true rfl) (fun Y hY E => ?_)
  have E : EV Y (WX g) cX6_name 7 none RX6 := E
  have h : FX6_name a1 a2 a3 a4 a5 a6 M = some r0 := h
  unfold FX6_name at h
  show AW Y (WX g) _ 7 1 0 [(0, .ref (wad (WX g) 14)), (1, .int a1), (2, .int a2), (3, .int a3), (4, .int a4), (5, .int a5), (6, .int a6)] [] M
  obtain ⟨r, hr⟩ : ∃ r : Option Value × Mem, r = (none, r0) := ⟨_, rfl⟩
  rw [← hr]
  refine aw_aload_n E dX6_name_0 0 rfl ?_
  refine aw_getR (q := 30) E flX6_25 (Nat.le_of_ble_eq_true rfl) rfl rfl dX6_name_1 ?_
  refine aw_iconst (v := 0) E dX6_name_4 (by decide) ?_
  refine aw_iload_n E dX6_name_5 1 rfl ?_
  obtain ⟨g1, h⟩ := gi_e h
  obtain ⟨M2, e3, h⟩ := lt_e h
  refine aw_iast1 e3 E (Nat.le_of_ble_eq_true rfl) rfl g1 dX6_name_6 ?_
  refine aw_aload_n E dX6_name_7 0 rfl ?_
  refine aw_getR (q := 30) E flX6_25 (Nat.le_of_ble_eq_true rfl) rfl rfl dX6_name_8 ?_
  refine aw_iconst (v := 1) E dX6_name_11 (by decide) ?_
  refine aw_iload_n E dX6_name_12 2 rfl ?_
  obtain ⟨g4, h⟩ := gi_e h
  obtain ⟨M5, e6, h⟩ := lt_e h
  refine aw_iast1 e6 E (Nat.le_of_ble_eq_true rfl) rfl g4 dX6_name_13 ?_
  refine aw_aload_n E dX6_name_14 0 rfl ?_
  refine aw_getR (q := 30) E flX6_25 (Nat.le_of_ble_eq_true rfl) rfl rfl dX6_name_15 ?_
  refine aw_iconst (v := 2) E dX6_name_18 (by decide) ?_
  refine aw_iload_n E dX6_name_19 3 rfl ?_
  obtain ⟨g7, h⟩ := gi_e h
  obtain ⟨M8, e9, h⟩ := lt_e h
  refine aw_iast1 e9 E (Nat.le_of_ble_eq_true rfl) rfl g7 dX6_name_20 ?_
  refine aw_aload_n E dX6_name_21 0 rfl ?_
  refine aw_getR (q := 30) E flX6_25 (Nat.le_of_ble_eq_true rfl) rfl rfl dX6_name_22 ?_
  refine aw_iconst (v := 3) E dX6_name_25 (by decide) ?_
  refine aw_iload E dX6_name_26 4 rfl ?_
  obtain ⟨g10, h⟩ := gi_e h
  obtain ⟨M11, e12, h⟩ := lt_e h
  refine aw_iast1 e12 E (Nat.le_of_ble_eq_true rfl) rfl g10 dX6_name_28 ?_
  refine aw_aload_n E dX6_name_29 0 rfl ?_
  refine aw_getR (q := 30) E flX6_25 (Nat.le_of_ble_eq_true rfl) rfl rfl dX6_name_30 ?_
  refine aw_iconst (v := 4) E dX6_name_33 (by decide) ?_
  refine aw_iload E dX6_name_34 5 rfl ?_
  obtain ⟨g13, h⟩ := gi_e h
  obtain ⟨M14, e15, h⟩ := lt_e h
  refine aw_iast1 e15 E (Nat.le_of_ble_eq_true rfl) rfl g13 dX6_name_36 ?_
  refine aw_aload_n E dX6_name_37 0 rfl ?_
  refine aw_getR (q := 30) E flX6_25 (Nat.le_of_ble_eq_true rfl) rfl rfl dX6_name_38 ?_
  refine aw_iconst (v := 5) E dX6_name_41 (by decide) ?_
  refine aw_iload E dX6_name_42 6 rfl ?_
  obtain ⟨g16, h⟩ := gi_e h
  obtain ⟨M17, e18, h⟩ := lt_e h
  refine aw_iast1 e18 E (Nat.le_of_ble_eq_true rfl) rfl g16 dX6_name_44 ?_
  replace h := Option.some.inj h
  subst h
  exact aw_vret E dX6_name_45 hr
def FX6_names_L16 : Nat → Int32 → Int32 → Int32 → Mem → Option (Int32 ⊕ (Unit))
  | 0, _, _, _, _ => none
  | f + 1, p1, p2, p3, M =>
    gi p1 6 <|
    gi 2 3 <|
    if (M.1 (23 + (Int32.toNatClampNeg p1)) (Int32.toNatClampNeg 2)) ≤ p3 then
      some (.inr (()))
    else
      gi p1 6 <|
      gi p3 160 <|
      if (M.1 (16 + (Int32.toNatClampNeg p1)) (Int32.toNatClampNeg p3)) = (-p2) then
        some (.inl 1)
      else
        lt (α := Int32) (p3 + 1) fun x107 =>
        FX6_names_L16 f p1 p2 x107 M
def FX6_names (a1 : Int32) (a2 : Int32) (M : Mem) : Option (Int32) :=
  lt (α := Bool) (if a1 < 0 then true else if a1 < (M.1 14 4) then false else true) fun b1 =>
  if b1 = true then
    some 0
  else
    ob (FX6_names_L16 FU a1 a2 0 M) fun q5 => Sum.elim (fun v7 => some v7) (fun q9 =>
      some 0) q5
set_option maxHeartbeats 4000000 in
set_option maxRecDepth 100000 in
theorem lpX6_names_16 {Y : CtxM} {g : CtxG} {r : Option Value × Mem} (E : EV Y (WX g) cX6_names 4 (some .boolean) RX6) (p1 : Int32) (p2 : Int32) : ∀ (f : Nat) (p3 : Int32) (M : Mem) (q : Int32 ⊕ (Unit)), FX6_names_L16 f p1 p2 p3 M = some q → (∀ v, q = .inl v → r = (some (.int v), M)) → (∀ t, q = .inr t → AW Y (WX g) r 4 1 49 [] [] M) → AW Y (WX g) r 4 1 16 [(0, .ref (wad (WX g) 14)), (1, .int p1), (2, .int p2), (3, .int p3)] [] M := by
  intro f
  induction f with
  | zero => intro p3 M q hh; exact absurd hh (fun z => nomatch (show (none : Option (Int32 ⊕ (Unit))) = some q from z))
  | succ f ih =>
    intro p3 M q hh kr kx
    rw [FX6_names_L16] at hh
    refine aw_iload_n E dX6_names_16 3 rfl ?_
    refine aw_aload_n E dX6_names_17 0 rfl ?_
    refine aw_getR (q := 22) E flX6_16 (Nat.le_of_ble_eq_true rfl) rfl rfl dX6_names_18 ?_
    refine aw_iload_n E dX6_names_21 1 rfl ?_
    obtain ⟨g101, hh⟩ := gi_e hh
    refine aw_aldR E (Nat.le_of_ble_eq_true rfl) rfl g101 dX6_names_22 ?_
    have f102 := ends2_of g101
    refine aw_iconst (v := 2) E dX6_names_23 (by decide) ?_
    obtain ⟨g103, hh⟩ := gi_e hh
    refine aw_iald E f102.1 f102.2 g103 dX6_names_24 ?_
    refine aw_icmp_ge (tgt := 49) E dX6_names_25 rfl (fun c25 => ?_) (fun c25 => ?_)
    ·
      replace hh := ip c25 hh
      refine aw_sub (L1 := []) [] rfl ?_
      replace hh := Option.some.inj hh
      subst hh
      exact kx _ rfl
    ·
      replace hh := iq c25 hh
      refine aw_aload_n E dX6_names_28 0 rfl ?_
      refine aw_getR (q := 15) E flX6_11 (Nat.le_of_ble_eq_true rfl) rfl rfl dX6_names_29 ?_
      refine aw_iload_n E dX6_names_32 1 rfl ?_
      obtain ⟨g104, hh⟩ := gi_e hh
      refine aw_aldR E (Nat.le_of_ble_eq_true rfl) rfl g104 dX6_names_33 ?_
      have f105 := code2_of g104
      refine aw_iload_n E dX6_names_34 3 rfl ?_
      obtain ⟨g106, hh⟩ := gi_e hh
      refine aw_iald E f105.1 f105.2 g106 dX6_names_35 ?_
      refine aw_iload_n E dX6_names_36 2 rfl ?_
      refine aw_ineg E dX6_names_37 ?_
      refine aw_icmp_ne (tgt := 43) E dX6_names_38 rfl (fun c38 => ?_) (fun c38 => ?_)
      ·
        replace hh := iq c38 hh
        obtain ⟨x107, e108, hh⟩ := lt_e hh
        refine aw_iinc (v := x107) (L1 := [(3, .int x107), (0, .ref (wad (WX g) 14)), (1, .int p1), (2, .int p2)]) E dX6_names_43 3 rfl e108 (Nat.le_of_ble_eq_true rfl) rfl ?_
        refine aw_goto (tgt := 16) E dX6_names_46 rfl ?_
        refine aw_sub (L1 := [(0, .ref (wad (WX g) 14)), (1, .int p1), (2, .int p2), (3, .int x107)]) [1, 2, 3, 0] rfl ?_
        exact ih x107 M _ hh kr kx
      ·
        replace hh := ip c38 hh
        refine aw_iconst (v := 1) E dX6_names_41 (by decide) ?_
        replace hh := Option.some.inj hh
        subst hh
        exact aw_zret E (by decide) dX6_names_42 (kr _ rfl)
set_option maxHeartbeats 4000000 in
set_option maxRecDepth 100000 in
theorem ctX6_names (l : Launch) (g : CtxG) (a1 : Int32) (a2 : Int32) (M : Mem) (r0 : Int32) (h : FX6_names a1 a2 M = some r0) : Ct l (WX g) yX6_names cX6_names 4 (some .boolean) 1 [.ref (wad (WX g) 14), .int a1, .int a2] M (some (.int r0), M) := by
  refine Ct.of (by decide) (Nat.le_of_ble_eq_true rfl) (fun Y hY E => ?_)
  have E : EV Y (WX g) cX6_names 4 (some .boolean) RX6 := E
  have h : FX6_names a1 a2 M = some r0 := h
  unfold FX6_names at h
  show AW Y (WX g) _ 4 1 0 [(0, .ref (wad (WX g) 14)), (1, .int a1), (2, .int a2)] [] M
  obtain ⟨r, hr⟩ : ∃ r : Option Value × Mem, r = (some (.int r0), M) := ⟨_, rfl⟩
  rw [← hr]
  refine aw_iload_n E dX6_names_0 1 rfl ?_
  obtain ⟨b1, e2, h⟩ := lt_e h
  have J3 : b1 = true → AW Y (WX g) r 4 1 12 [(0, .ref (wad (WX g) 14)), (1, .int a1), (2, .int a2)] [] M := fun hb => by
    replace h := ip hb h
    refine aw_iconst (v := 0) E dX6_names_12 (by decide) ?_
    replace h := Option.some.inj h
    subst h
    exact aw_zret E (by decide) dX6_names_13 hr
  have J4 : b1 = false → AW Y (WX g) r 4 1 14 [(0, .ref (wad (WX g) 14)), (1, .int a1), (2, .int a2)] [] M := fun hb => by
    replace h := iq (bf hb) h
    refine aw_iconst (v := 0) E dX6_names_14 (by decide) ?_
    refine aw_istore_n (L1 := [(3, .int 0), (0, .ref (wad (WX g) 14)), (1, .int a1), (2, .int a2)]) E dX6_names_15 (Nat.le_of_ble_eq_true rfl) rfl ?_
    obtain ⟨q5, e6, h⟩ := bd_e h
    refine aw_sub (L1 := [(0, .ref (wad (WX g) 14)), (1, .int a1), (2, .int a2), (3, .int 0)]) [1, 2, 3, 0] rfl ?_
    refine lpX6_names_16 E   a1 a2 FU 0 M q5 e6 (fun v7 e8 => ?_) (fun q9 e10 => ?_)
    ·
      subst e8
      replace h := Option.some.inj h
      subst h
      exact hr
    ·
      subst e10
      refine aw_iconst (v := 0) E dX6_names_49 (by decide) ?_
      replace h := Option.some.inj h
      subst h
      exact aw_zret E (by decide) dX6_names_50 hr
  refine aw_if_lt (tgt := 12) E dX6_names_1 rfl (fun c1 => ?_) (fun c1 => ?_)
  ·
    replace e2 := ip c1 e2
    subst e2
    exact J3 rfl
  ·
    replace e2 := iq c1 e2
    refine aw_iload_n E dX6_names_4 1 rfl ?_
    refine aw_aload_n E dX6_names_5 0 rfl ?_
    refine aw_getI E flX6_28 (Nat.le_of_ble_eq_true rfl) rfl rfl dX6_names_6 ?_
    refine aw_icmp_lt (tgt := 14) E dX6_names_9 rfl (fun c9 => ?_) (fun c9 => ?_)
    ·
      replace e2 := ip c9 e2
      subst e2
      exact J4 rfl
    ·
      replace e2 := iq c9 e2
      subst e2
      exact J3 rfl
def FX6_operands (a0 : Int32) : Int32 :=
  if a0 ≤ 0 then
    0
  else
    lt (α := Bool) (if a0 < 262 then false else if 267 < a0 then false else true) fun b1 =>
    if b1 = true then
      0
    else
      lt (α := Bool) (if a0 = 261 then true else if a0 = 3 then true else false) fun b5 =>
      if b5 = true then
        1
      else
        2
set_option maxHeartbeats 4000000 in
set_option maxRecDepth 100000 in
theorem ctX6_operands (l : Launch) (g : CtxG) (a0 : Int32) (M : Mem) : Ct l (WX g) yX6_operands cX6_operands 1 (some .int) 1 [.int a0] M (some (.int (FX6_operands a0)), M) := by
  obtain ⟨r0, h⟩ : ∃ r0, FX6_operands a0 = r0 := ⟨_, rfl⟩
  rw [h]
  refine Ct.of (by decide) (Nat.le_of_ble_eq_true rfl) (fun Y hY E => ?_)
  have E : EV Y (WX g) cX6_operands 1 (some .int) RX6 := E
  --generalize hr : ((some (Value.int r0), M) : Option Value × Mem) = r
  have h : FX6_operands a0 = r0 := h
  unfold FX6_operands at h
  show AW Y (WX g) _ 1 1 0 [(0, .int a0)] [] M
  obtain ⟨r, hr⟩ : ∃ r : Option Value × Mem, r = (some (.int r0), M) := ⟨_, rfl⟩
  rw [← hr]
  refine aw_iload_n E dX6_operands_0 0 rfl ?_
  refine aw_if_le (tgt := 18) E dX6_operands_1 rfl (fun c1 => ?_) (fun c1 => ?_)
  ·
    replace h := ip c1 h
    refine aw_iconst (v := 0) E dX6_operands_18 (by decide) ?_
    subst h
    exact aw_iret E dX6_operands_19 hr
  ·
    replace h := iq c1 h
    refine aw_iload_n E dX6_operands_4 0 rfl ?_
    refine aw_sipush (v := 262) E dX6_operands_5 (by decide) ?_
    obtain ⟨b1, e2, h⟩ := lt_e h
    have J3 : b1 = true → AW Y (WX g) r 1 1 18 [(0, .int a0)] [] M := fun hb => by
      replace h := ip hb h
      refine aw_iconst (v := 0) E dX6_operands_18 (by decide) ?_
      subst h
      exact aw_iret E dX6_operands_19 hr
    have J4 : b1 = false → AW Y (WX g) r 1 1 20 [(0, .int a0)] [] M := fun hb => by
      replace h := iq (bf hb) h
      refine aw_iload_n E dX6_operands_20 0 rfl ?_
      refine aw_sipush (v := 261) E dX6_operands_21 (by decide) ?_
      obtain ⟨b5, e6, h⟩ := lt_e h
      have J7 : b5 = true → AW Y (WX g) r 1 1 32 [(0, .int a0)] [] M := fun hb => by
        replace h := ip hb h
        refine aw_iconst (v := 1) E dX6_operands_32 (by decide) ?_
        refine aw_goto (tgt := 37) E dX6_operands_33 rfl ?_
        subst h
        exact aw_iret E dX6_operands_37 hr
      have J8 : b5 = false → AW Y (WX g) r 1 1 36 [(0, .int a0)] [] M := fun hb => by
        replace h := iq (bf hb) h
        refine aw_iconst (v := 2) E dX6_operands_36 (by decide) ?_
        subst h
        exact aw_iret E dX6_operands_37 hr
      refine aw_icmp_eq (tgt := 32) E dX6_operands_24 rfl (fun c24 => ?_) (fun c24 => ?_)
      ·
        replace e6 := ip c24 e6
        subst e6
        exact J7 rfl
      ·
        replace e6 := iq c24 e6
        refine aw_iload_n E dX6_operands_27 0 rfl ?_
        refine aw_iconst (v := 3) E dX6_operands_28 (by decide) ?_
        refine aw_icmp_ne (tgt := 36) E dX6_operands_29 rfl (fun c29 => ?_) (fun c29 => ?_)
        ·
          replace e6 := iq c29 e6
          subst e6
          exact J8 rfl
        ·
          replace e6 := ip c29 e6
          subst e6
          exact J7 rfl
    refine aw_icmp_lt (tgt := 20) E dX6_operands_8 rfl (fun c8 => ?_) (fun c8 => ?_)
    ·
      replace e2 := ip c8 e2
      subst e2
      exact J4 rfl
    ·
      replace e2 := iq c8 e2
      refine aw_iload_n E dX6_operands_11 0 rfl ?_
      refine aw_sipush (v := 267) E dX6_operands_12 (by decide) ?_
      refine aw_icmp_gt (tgt := 20) E dX6_operands_15 rfl (fun c15 => ?_) (fun c15 => ?_)
      ·
        replace e2 := ip c15 e2
        subst e2
        exact J4 rfl
      ·
        replace e2 := iq c15 e2
        subst e2
        exact J3 rfl
def FX6_value_L45 : Nat → Int32 → Int32 → Int32 → Int32 → Mem → Option (Int32 × Mem ⊕ (Mem))
  | 0, _, _, _, _, _ => none
  | f + 1, p1, p2, p3, p4, M =>
    gi p1 6 <|
    gi p2 3 <|
    if (M.1 (23 + (Int32.toNatClampNeg p1)) (Int32.toNatClampNeg p2)) ≤ p4 then
      some (.inr M)
    else
      gi p1 6 <|
      gi p4 160 <|
      lt (α := Int32) (-(M.1 (16 + (Int32.toNatClampNeg p1)) (Int32.toNatClampNeg p4))) fun x107 =>
      lt (α := Int32) (FX6_operands x107) fun x109 =>
      lt (α := Int32) (p3 - x109) fun x111 =>
      lt (α := Bool) (if x111 < 0 then true else if x111 < 160 then false else true) fun b113 =>
      if b113 = true then
        some (.inl (0, M))
      else
        ob (α := Mem) (if 0 < x107 then
          if x109 = 0 then
            gi (x107 - 262) 6 <|
            gi x111 160 <|
            lt (wr M 29 (Int32.toNatClampNeg x111) (M.1 30 (Int32.toNatClampNeg (x107 - 262)))) fun M131 =>
            some M131
          else
            gi x111 160 <|
            gi (p3 - 1) 160 <|
            gi x111 160 <|
            lt (wr M 29 (Int32.toNatClampNeg x111) (FX6_applied x107 (M.1 29 (Int32.toNatClampNeg x111)) (M.1 29 (Int32.toNatClampNeg (p3 - 1))))) fun M127 =>
            some M127
        else
          gi x111 160 <|
          lt (wr M 29 (Int32.toNatClampNeg x111) (-x107)) fun M134 =>
          some M134) fun q117 =>
        lt (α := Int32) (x111 + 1) fun x120 =>
        lt (α := Int32) (p4 + 1) fun x122 =>
        FX6_value_L45 f p1 p2 x120 x122 q117
def FX6_value (a1 : Int32) (a2 : Int32) (M : Mem) : Option (Int32 × Mem) :=
  lt (α := Bool) (if a1 < 0 then true else if (M.1 14 4) ≤ a1 then true else if a2 < 0 then true else if a2 ≤ 2 then false else true) fun b1 =>
  if b1 = true then
    some (0, M)
  else
    ob (α := Int32) (if a2 = 0 then
      some 0
    else
      gi a1 6 <|
      gi (a2 - 1) 3 <|
      some (M.1 (23 + (Int32.toNatClampNeg a1)) (Int32.toNatClampNeg (a2 - 1)))) fun q5 =>
    ob (FX6_value_L45 FU a1 a2 0 q5 M) fun q8 => Sum.elim (fun v10 => some v10) (fun q12 =>
      gi 0 160 <|
      some (q12.1 29 (Int32.toNatClampNeg 0), q12)) q8
set_option maxHeartbeats 4000000 in
set_option maxRecDepth 100000 in
theorem lpX6_value_45 {Y : CtxM} {g : CtxG} {r : Option Value × Mem} (E : EV Y (WX g) cX6_value 8 (some .int) RX6) (p1 : Int32) (p2 : Int32) : ∀ (f : Nat) (p3 : Int32) (p4 : Int32) (M : Mem) (q : Int32 × Mem ⊕ (Mem)), FX6_value_L45 f p1 p2 p3 p4 M = some q → (∀ v, q = .inl v → r = (some (.int v.1), v.2)) → (∀ t, q = .inr t → AW Y (WX g) r 8 2 180 [(0, .ref (wad (WX g) 14))] [] t) → AW Y (WX g) r 8 2 45 [(0, .ref (wad (WX g) 14)), (1, .int p1), (2, .int p2), (3, .int p3), (4, .int p4)] [] M := by
  intro f
  induction f with
  | zero => intro p3 p4 M q hh; exact absurd hh (fun z => nomatch (show (none : Option (Int32 × Mem ⊕ (Mem))) = some q from z))
  | succ f ih =>
    intro p3 p4 M q hh kr kx
    rw [FX6_value_L45] at hh
    refine aw_iload E dX6_value_45 4 rfl ?_
    refine aw_aload_n E dX6_value_47 0 rfl ?_
    refine aw_getR (q := 22) E flX6_16 (Nat.le_of_ble_eq_true rfl) rfl rfl dX6_value_48 ?_
    refine aw_iload_n E dX6_value_51 1 rfl ?_
    obtain ⟨g101, hh⟩ := gi_e hh
    refine aw_aldR E (Nat.le_of_ble_eq_true rfl) rfl g101 dX6_value_52 ?_
    have f102 := ends2_of g101
    refine aw_iload_n E dX6_value_53 2 rfl ?_
    obtain ⟨g103, hh⟩ := gi_e hh
    refine aw_iald E f102.1 f102.2 g103 dX6_value_54 ?_
    refine aw_icmp_ge (tgt := 180) E dX6_value_55 rfl (fun c55 => ?_) (fun c55 => ?_)
    ·
      replace hh := ip c55 hh
      refine aw_sub (L1 := [(0, .ref (wad (WX g) 14))]) [0] rfl ?_
      replace hh := Option.some.inj hh
      subst hh
      exact kx _ rfl
    ·
      replace hh := iq c55 hh
      refine aw_aload_n E dX6_value_58 0 rfl ?_
      refine aw_getR (q := 15) E flX6_11 (Nat.le_of_ble_eq_true rfl) rfl rfl dX6_value_59 ?_
      refine aw_iload_n E dX6_value_62 1 rfl ?_
      obtain ⟨g104, hh⟩ := gi_e hh
      refine aw_aldR E (Nat.le_of_ble_eq_true rfl) rfl g104 dX6_value_63 ?_
      have f105 := code2_of g104
      refine aw_iload E dX6_value_64 4 rfl ?_
      obtain ⟨g106, hh⟩ := gi_e hh
      refine aw_iald E f105.1 f105.2 g106 dX6_value_66 ?_
      refine aw_ineg E dX6_value_67 ?_
      obtain ⟨x107, e108, hh⟩ := lt_e hh
      refine aw_nmI e108 ?_
      refine aw_istore (L1 := [(5, .int x107), (0, .ref (wad (WX g) 14)), (1, .int p1), (2, .int p2), (3, .int p3), (4, .int p4)]) E dX6_value_68 (Nat.le_of_ble_eq_true rfl) rfl ?_
      refine aw_iload E dX6_value_70 0 rfl ?_
      refine aw_callSi (S := []) E msX6_operands mlX6_42 rfl (ctX6_operands (yl Y) g x107  M ) rfl (Nat.le_of_ble_eq_true rfl) (Nat.le_of_ble_eq_true rfl) dX6_value_72 ?_
      obtain ⟨x109, e110, hh⟩ := lt_e hh
      refine aw_nmI e110 ?_
      refine aw_istore (L1 := [(6, .int x109), (5, .int x107), (0, .ref (wad (WX g) 14)), (1, .int p1), (2, .int p2), (3, .int p3), (4, .int p4)]) E dX6_value_75 (Nat.le_of_ble_eq_true rfl) rfl ?_
      refine aw_iload_n E dX6_value_77 5 rfl ?_
      refine aw_iload E dX6_value_78 0 rfl ?_
      refine aw_isub E dX6_value_80 ?_
      obtain ⟨x111, e112, hh⟩ := lt_e hh
      refine aw_nmI e112 ?_
      refine aw_istore (L1 := [(7, .int x111), (6, .int x109), (5, .int x107), (0, .ref (wad (WX g) 14)), (1, .int p1), (2, .int p2), (3, .int p3), (4, .int p4)]) E dX6_value_81 (Nat.le_of_ble_eq_true rfl) rfl ?_
      refine aw_iload E dX6_value_83 0 rfl ?_
      obtain ⟨b113, e114, hh⟩ := lt_e hh
      have J115 : b113 = true → AW Y (WX g) r 8 2 96 [(7, .int x111), (6, .int x109), (5, .int x107), (0, .ref (wad (WX g) 14)), (1, .int p1), (2, .int p2), (3, .int p3), (4, .int p4)] [] M := fun hb => by
        replace hh := ip hb hh
        refine aw_iconst (v := 0) E dX6_value_96 (by decide) ?_
        replace hh := Option.some.inj hh
        subst hh
        exact aw_iret E dX6_value_97 (kr _ rfl)
      have J116 : b113 = false → AW Y (WX g) r 8 2 98 [(7, .int x111), (6, .int x109), (5, .int x107), (0, .ref (wad (WX g) 14)), (1, .int p1), (2, .int p2), (3, .int p3), (4, .int p4)] [] M := fun hb => by
        replace hh := iq (bf hb) hh
        refine aw_iload E dX6_value_98 2 rfl ?_
        obtain ⟨q117, e118, hh⟩ := bd_e hh
        have J119 : AW Y (WX g) r 8 2 169 [(0, .ref (wad (WX g) 14)), (1, .int p1), (2, .int p2), (4, .int p4), (7, .int x111)] [] q117 := by
          refine aw_iload E dX6_value_169 4 rfl ?_
          refine aw_iconst (v := 1) E dX6_value_171 (by decide) ?_
          refine aw_iadd E dX6_value_172 ?_
          obtain ⟨x120, e121, hh⟩ := lt_e hh
          refine aw_nmI e121 ?_
          refine aw_istore_n (L1 := [(3, .int x120), (0, .ref (wad (WX g) 14)), (1, .int p1), (2, .int p2), (4, .int p4), (7, .int x111)]) E dX6_value_173 (Nat.le_of_ble_eq_true rfl) rfl ?_
          obtain ⟨x122, e123, hh⟩ := lt_e hh
          refine aw_iinc (v := x122) (L1 := [(4, .int x122), (3, .int x120), (0, .ref (wad (WX g) 14)), (1, .int p1), (2, .int p2), (7, .int x111)]) E dX6_value_174 4 rfl e123 (Nat.le_of_ble_eq_true rfl) rfl ?_
          refine aw_goto (tgt := 45) E dX6_value_177 rfl ?_
          refine aw_sub (L1 := [(0, .ref (wad (WX g) 14)), (1, .int p1), (2, .int p2), (3, .int x120), (4, .int x122)]) [2, 3, 4, 1, 0] rfl ?_
          exact ih x120 x122 q117 _ hh kr kx
        refine aw_if_gt (tgt := 116) E dX6_value_100 rfl (fun c100 => ?_) (fun c100 => ?_)
        ·
          replace e118 := ip c100 e118
          refine aw_iload E dX6_value_116 1 rfl ?_
          refine aw_if_ne (tgt := 142) E dX6_value_118 rfl (fun c118 => ?_) (fun c118 => ?_)
          ·
            replace e118 := iq c118 e118
            refine aw_aload_n E dX6_value_142 3 rfl ?_
            refine aw_getR (q := 29) E flX6_19 (Nat.le_of_ble_eq_true rfl) rfl rfl dX6_value_143 ?_
            refine aw_iload E dX6_value_146 0 rfl ?_
            refine aw_iload E dX6_value_148 2 rfl ?_
            refine aw_aload_n E dX6_value_150 3 rfl ?_
            refine aw_getR (q := 29) E flX6_19 (Nat.le_of_ble_eq_true rfl) rfl rfl dX6_value_151 ?_
            refine aw_iload E dX6_value_154 0 rfl ?_
            obtain ⟨g124, e118⟩ := gi_e e118
            refine aw_iald E (Nat.le_of_ble_eq_true rfl) rfl g124 dX6_value_156 ?_
            refine aw_aload_n E dX6_value_157 3 rfl ?_
            refine aw_getR (q := 29) E flX6_19 (Nat.le_of_ble_eq_true rfl) rfl rfl dX6_value_158 ?_
            refine aw_iload_n E dX6_value_161 6 rfl ?_
            refine aw_iconst (v := 1) E dX6_value_162 (by decide) ?_
            refine aw_isub E dX6_value_163 ?_
            obtain ⟨g125, e118⟩ := gi_e e118
            refine aw_iald E (Nat.le_of_ble_eq_true rfl) rfl g125 dX6_value_164 ?_
            refine aw_callSi (S := [.int x111, .ref (wad (WX g) 29)]) E msX6_applied mlX6_46 rfl (ctX6_applied (yl Y) g x107 (M.1 29 (Int32.toNatClampNeg x111)) (M.1 29 (Int32.toNatClampNeg (p3 - 1)))  M ) rfl (Nat.le_of_ble_eq_true rfl) (Nat.le_of_ble_eq_true rfl) dX6_value_165 ?_
            obtain ⟨g126, e118⟩ := gi_e e118
            obtain ⟨M127, e128, e118⟩ := lt_e e118
            refine aw_iast1 e128 E (Nat.le_of_ble_eq_true rfl) rfl g126 dX6_value_168 ?_
            refine aw_sub (L1 := [(0, .ref (wad (WX g) 14)), (1, .int p1), (2, .int p2), (4, .int p4), (7, .int x111)]) [3, 4, 5, 7, 0] rfl ?_
            replace e118 := Option.some.inj e118
            subst e118
            exact J119
          ·
            replace e118 := ip c118 e118
            refine aw_aload_n E dX6_value_121 3 rfl ?_
            refine aw_getR (q := 29) E flX6_19 (Nat.le_of_ble_eq_true rfl) rfl rfl dX6_value_122 ?_
            refine aw_iload E dX6_value_125 0 rfl ?_
            refine aw_aload_n E dX6_value_127 3 rfl ?_
            refine aw_getR (q := 30) E flX6_25 (Nat.le_of_ble_eq_true rfl) rfl rfl dX6_value_128 ?_
            refine aw_iload E dX6_value_131 2 rfl ?_
            refine aw_sipush (v := 262) E dX6_value_133 (by decide) ?_
            refine aw_isub E dX6_value_136 ?_
            obtain ⟨g129, e118⟩ := gi_e e118
            refine aw_iald E (Nat.le_of_ble_eq_true rfl) rfl g129 dX6_value_137 ?_
            obtain ⟨g130, e118⟩ := gi_e e118
            obtain ⟨M131, e132, e118⟩ := lt_e e118
            refine aw_iast1 e132 E (Nat.le_of_ble_eq_true rfl) rfl g130 dX6_value_138 ?_
            refine aw_goto (tgt := 169) E dX6_value_139 rfl ?_
            refine aw_sub (L1 := [(0, .ref (wad (WX g) 14)), (1, .int p1), (2, .int p2), (4, .int p4), (7, .int x111)]) [3, 4, 5, 7, 0] rfl ?_
            replace e118 := Option.some.inj e118
            subst e118
            exact J119
        ·
          replace e118 := iq c100 e118
          refine aw_aload_n E dX6_value_103 3 rfl ?_
          refine aw_getR (q := 29) E flX6_19 (Nat.le_of_ble_eq_true rfl) rfl rfl dX6_value_104 ?_
          refine aw_iload E dX6_value_107 0 rfl ?_
          refine aw_iload E dX6_value_109 2 rfl ?_
          refine aw_ineg E dX6_value_111 ?_
          obtain ⟨g133, e118⟩ := gi_e e118
          obtain ⟨M134, e135, e118⟩ := lt_e e118
          refine aw_iast1 e135 E (Nat.le_of_ble_eq_true rfl) rfl g133 dX6_value_112 ?_
          refine aw_goto (tgt := 169) E dX6_value_113 rfl ?_
          refine aw_sub (L1 := [(0, .ref (wad (WX g) 14)), (1, .int p1), (2, .int p2), (4, .int p4), (7, .int x111)]) [3, 4, 5, 7, 0] rfl ?_
          replace e118 := Option.some.inj e118
          subst e118
          exact J119
      refine aw_if_lt (tgt := 96) E dX6_value_85 rfl (fun c85 => ?_) (fun c85 => ?_)
      ·
        replace e114 := ip c85 e114
        subst e114
        exact J115 rfl
      ·
        replace e114 := iq c85 e114
        refine aw_iload E dX6_value_88 0 rfl ?_
        refine aw_sipush (v := 160) E dX6_value_90 (by decide) ?_
        refine aw_icmp_lt (tgt := 98) E dX6_value_93 rfl (fun c93 => ?_) (fun c93 => ?_)
        ·
          replace e114 := ip c93 e114
          subst e114
          exact J116 rfl
        ·
          replace e114 := iq c93 e114
          subst e114
          exact J115 rfl
set_option maxHeartbeats 4000000 in
set_option maxRecDepth 100000 in
theorem ctX6_value (l : Launch) (g : CtxG) (a1 : Int32) (a2 : Int32) (M : Mem) (r0 : Int32 × Mem) (h : FX6_value a1 a2 M = some r0) : Ct l (WX g) yX6_value cX6_value 8 (some .int) 2 [.ref (wad (WX g) 14), .int a1, .int a2] M (some (.int r0.1), r0.2) := by
  refine Ct.of (by decide) (Nat.le_of_ble_eq_true rfl) (fun Y hY E => ?_)
  have E : EV Y (WX g) cX6_value 8 (some .int) RX6 := E
  have h : FX6_value a1 a2 M = some r0 := h
  unfold FX6_value at h
  show AW Y (WX g) _ 8 2 0 [(0, .ref (wad (WX g) 14)), (1, .int a1), (2, .int a2)] [] M
  obtain ⟨r, hr⟩ : ∃ r : Option Value × Mem, r = (some (.int r0.1), r0.2) := ⟨_, rfl⟩
  rw [← hr]
  refine aw_iload_n E dX6_value_0 1 rfl ?_
  obtain ⟨b1, e2, h⟩ := lt_e h
  have J3 : b1 = true → AW Y (WX g) r 8 2 21 [(0, .ref (wad (WX g) 14)), (1, .int a1), (2, .int a2)] [] M := fun hb => by
    replace h := ip hb h
    refine aw_iconst (v := 0) E dX6_value_21 (by decide) ?_
    replace h := Option.some.inj h
    subst h
    exact aw_iret E dX6_value_22 hr
  have J4 : b1 = false → AW Y (WX g) r 8 2 23 [(0, .ref (wad (WX g) 14)), (1, .int a1), (2, .int a2)] [] M := fun hb => by
    replace h := iq (bf hb) h
    refine aw_iconst (v := 0) E dX6_value_23 (by decide) ?_
    refine aw_istore_n (L1 := [(3, .int 0), (0, .ref (wad (WX g) 14)), (1, .int a1), (2, .int a2)]) E dX6_value_24 (Nat.le_of_ble_eq_true rfl) rfl ?_
    refine aw_iload_n E dX6_value_25 3 rfl ?_
    obtain ⟨q5, e6, h⟩ := bd_e h
    have J7 : AW Y (WX g) r 8 2 43 [(0, .ref (wad (WX g) 14)), (1, .int a1), (2, .int a2), (3, .int 0)] [.int q5] M := by
      refine aw_istore (L1 := [(4, .int q5), (0, .ref (wad (WX g) 14)), (1, .int a1), (2, .int a2), (3, .int 0)]) E dX6_value_43 (Nat.le_of_ble_eq_true rfl) rfl ?_
      obtain ⟨q8, e9, h⟩ := bd_e h
      refine aw_sub (L1 := [(0, .ref (wad (WX g) 14)), (1, .int a1), (2, .int a2), (3, .int 0), (4, .int q5)]) [1, 2, 3, 4, 0] rfl ?_
      refine lpX6_value_45 E   a1 a2 FU 0 q5 M q8 e9 (fun v10 e11 => ?_) (fun q12 e13 => ?_)
      ·
        subst e11
        replace h := Option.some.inj h
        subst h
        exact hr
      ·
        subst e13
        refine aw_aload_n E dX6_value_180 0 rfl ?_
        refine aw_getR (q := 29) E flX6_19 (Nat.le_of_ble_eq_true rfl) rfl rfl dX6_value_181 ?_
        refine aw_iconst (v := 0) E dX6_value_184 (by decide) ?_
        obtain ⟨g14, h⟩ := gi_e h
        refine aw_iald E (Nat.le_of_ble_eq_true rfl) rfl g14 dX6_value_185 ?_
        replace h := Option.some.inj h
        subst h
        exact aw_iret E dX6_value_186 hr
    refine aw_if_ne (tgt := 33) E dX6_value_26 rfl (fun c26 => ?_) (fun c26 => ?_)
    ·
      replace e6 := iq c26 e6
      refine aw_aload_n E dX6_value_33 1 rfl ?_
      refine aw_getR (q := 22) E flX6_16 (Nat.le_of_ble_eq_true rfl) rfl rfl dX6_value_34 ?_
      refine aw_iload_n E dX6_value_37 2 rfl ?_
      obtain ⟨g15, e6⟩ := gi_e e6
      refine aw_aldR E (Nat.le_of_ble_eq_true rfl) rfl g15 dX6_value_38 ?_
      have f16 := ends2_of g15
      refine aw_iload_n E dX6_value_39 3 rfl ?_
      refine aw_iconst (v := 1) E dX6_value_40 (by decide) ?_
      refine aw_isub E dX6_value_41 ?_
      obtain ⟨g17, e6⟩ := gi_e e6
      refine aw_iald E f16.1 f16.2 g17 dX6_value_42 ?_
      refine aw_sub (L1 := [(0, .ref (wad (WX g) 14)), (1, .int a1), (2, .int a2), (3, .int 0)]) [1, 2, 3, 0] rfl ?_
      replace e6 := Option.some.inj e6
      subst e6
      exact J7
    ·
      replace e6 := ip c26 e6
      refine aw_iconst (v := 0) E dX6_value_29 (by decide) ?_
      refine aw_goto (tgt := 43) E dX6_value_30 rfl ?_
      refine aw_sub (L1 := [(0, .ref (wad (WX g) 14)), (1, .int a1), (2, .int a2), (3, .int 0)]) [1, 2, 3, 0] rfl ?_
      replace e6 := Option.some.inj e6
      subst e6
      exact J7
  refine aw_if_lt (tgt := 21) E dX6_value_1 rfl (fun c1 => ?_) (fun c1 => ?_)
  ·
    replace e2 := ip c1 e2
    subst e2
    exact J3 rfl
  ·
    replace e2 := iq c1 e2
    refine aw_iload_n E dX6_value_4 1 rfl ?_
    refine aw_aload_n E dX6_value_5 0 rfl ?_
    refine aw_getI E flX6_28 (Nat.le_of_ble_eq_true rfl) rfl rfl dX6_value_6 ?_
    refine aw_icmp_ge (tgt := 21) E dX6_value_9 rfl (fun c9 => ?_) (fun c9 => ?_)
    ·
      replace e2 := ip c9 e2
      subst e2
      exact J3 rfl
    ·
      replace e2 := iq c9 e2
      refine aw_iload_n E dX6_value_12 2 rfl ?_
      refine aw_if_lt (tgt := 21) E dX6_value_13 rfl (fun c13 => ?_) (fun c13 => ?_)
      ·
        replace e2 := ip c13 e2
        subst e2
        exact J3 rfl
      ·
        replace e2 := iq c13 e2
        refine aw_iload_n E dX6_value_16 2 rfl ?_
        refine aw_iconst (v := 2) E dX6_value_17 (by decide) ?_
        refine aw_icmp_le (tgt := 23) E dX6_value_18 rfl (fun c18 => ?_) (fun c18 => ?_)
        ·
          replace e2 := ip c18 e2
          subst e2
          exact J4 rfl
        ·
          replace e2 := iq c18 e2
          subst e2
          exact J3 rfl
