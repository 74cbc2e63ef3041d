/-! PRINTED by wip/gen: pure functions of the methods, and that the machine does what they say -/
def FX3_joined_L16 : Nat → Int32 → Int32 → Int32 → Int32 → Mem → Option (Int32)
  | 0, _, _, _, _, _ => none
  | f + 1, p2, p3, p4, p6, M =>
    if p3 ≤ p6 then
      some p4
    else
      gi p6 12 <|
      gi p6 12 <|
      lt (α := Int32) (if (((p4 >>> ((M.1 6 (Int32.toNatClampNeg p6)) &&& 31)) ||| (p4 >>> ((M.1 7 (Int32.toNatClampNeg p6)) &&& 31))) &&& 1) = 0 then
        0
      else
        1) fun q103 =>
      lt (α := Bool) (if q103 = 0 then false else if ((p2 >>> (p6 &&& 31)) &&& 1) = 0 then false else true) fun b106 =>
      if b106 = true then
        gi p6 12 <|
        gi p6 12 <|
        lt (α := Int32) (p4 ||| (((1 : Int32) <<< ((M.1 6 (Int32.toNatClampNeg p6)) &&& 31)) ||| ((1 : Int32) <<< ((M.1 7 (Int32.toNatClampNeg p6)) &&& 31)))) fun x112 =>
        lt (α := Int32) (p6 + 1) fun x114 =>
        FX3_joined_L16 f p2 p3 x112 x114 M
      else
        lt (α := Int32) (p6 + 1) fun x116 =>
        FX3_joined_L16 f p2 p3 p4 x116 M
def FX3_joined_L6 : Nat → Int32 → Int32 → Int32 → Int32 → Mem → Option (Int32)
  | 0, _, _, _, _, _ => none
  | f + 1, p2, p3, p4, p5, M =>
    if 9 ≤ p5 then
      some p4
    else
      ob (FX3_joined_L16 FU p2 p3 p4 0 M) fun q101 =>
      lt (α := Int32) (p5 + 1) fun x103 =>
      FX3_joined_L6 f p2 p3 q101 x103 M
def FX3_joined (a1 : Int32) (a2 : Int32) (a3 : Int32) (M : Mem) : Option (Int32) :=
  ob (FX3_joined_L6 FU a2 a3 a1 1 M) fun q1 =>
  some q1
set_option maxHeartbeats 4000000 in
set_option maxRecDepth 100000 in
theorem lpX3_joined_16 {Y : CtxM} {g : CtxG} {r : Option Value × Mem} (E : EV Y (WX g) cX3_joined 8 (some .int) RX3) (p2 : Int32) (p3 : Int32) (p5 : Int32) : ∀ (f : Nat) (p4 : Int32) (p6 : Int32) (M : Mem) (q : Int32), FX3_joined_L16 f p2 p3 p4 p6 M = some q → AW Y (WX g) r 8 1 99 [(0, .ref (wad (WX g) 4)), (2, .int p2), (3, .int p3), (4, .int q), (5, .int p5)] [] M → AW Y (WX g) r 8 1 16 [(0, .ref (wad (WX g) 4)), (2, .int p2), (3, .int p3), (4, .int p4), (5, .int p5), (6, .int p6)] [] M := by
  intro f
  induction f with
  | zero => intro p4 p6 M q hh; exact absurd hh (fun z => nomatch (show (none : Option (Int32)) = some q from z))
  | succ f ih =>
    intro p4 p6 M q hh kx
    rw [FX3_joined_L16] at hh
    refine aw_iload E dX3_joined_16 5 rfl ?_
    refine aw_iload_n E dX3_joined_18 2 rfl ?_
    refine aw_icmp_ge (tgt := 99) E dX3_joined_19 rfl (fun c19 => ?_) (fun c19 => ?_)
    ·
      replace hh := ip c19 hh
      refine aw_sub (L1 := [(0, .ref (wad (WX g) 4)), (2, .int p2), (3, .int p3), (4, .int p4), (5, .int p5)]) [0, 1, 2, 3, 4] rfl ?_
      replace hh := Option.some.inj hh
      subst hh
      exact kx
    ·
      replace hh := iq c19 hh
      refine aw_iload E dX3_joined_22 3 rfl ?_
      refine aw_aload_n E dX3_joined_24 0 rfl ?_
      refine aw_getR (q := 6) E flX3_15 (Nat.le_of_ble_eq_true rfl) rfl rfl dX3_joined_25 ?_
      refine aw_iload E dX3_joined_28 5 rfl ?_
      obtain ⟨g101, hh⟩ := gi_e hh
      refine aw_iald E (Nat.le_of_ble_eq_true rfl) rfl g101 dX3_joined_30 ?_
      refine aw_ishr E dX3_joined_31 ?_
      refine aw_iload E dX3_joined_32 3 rfl ?_
      refine aw_aload_n E dX3_joined_34 0 rfl ?_
      refine aw_getR (q := 7) E flX3_18 (Nat.le_of_ble_eq_true rfl) rfl rfl dX3_joined_35 ?_
      refine aw_iload E dX3_joined_38 5 rfl ?_
      obtain ⟨g102, hh⟩ := gi_e hh
      refine aw_iald E (Nat.le_of_ble_eq_true rfl) rfl g102 dX3_joined_40 ?_
      refine aw_ishr E dX3_joined_41 ?_
      refine aw_ior E dX3_joined_42 ?_
      refine aw_iconst (v := 1) E dX3_joined_43 (by decide) ?_
      refine aw_iand E dX3_joined_44 ?_
      obtain ⟨q103, e104, hh⟩ := lt_e hh
      have J105 : AW Y (WX g) r 8 1 53 [(0, .ref (wad (WX g) 4)), (2, .int p2), (3, .int p3), (4, .int p4), (5, .int p5), (6, .int p6)] [.int q103] M := by
        refine aw_istore (L1 := [(7, .int q103), (0, .ref (wad (WX g) 4)), (2, .int p2), (3, .int p3), (4, .int p4), (5, .int p5), (6, .int p6)]) E dX3_joined_53 (Nat.le_of_ble_eq_true rfl) rfl ?_
        refine aw_iload E dX3_joined_55 0 rfl ?_
        obtain ⟨b106, e107, hh⟩ := lt_e hh
        have J108 : b106 = true → AW Y (WX g) r 8 1 69 [(7, .int q103), (0, .ref (wad (WX g) 4)), (2, .int p2), (3, .int p3), (4, .int p4), (5, .int p5), (6, .int p6)] [] M := fun hb => by
          replace hh := ip hb hh
          refine aw_iload E dX3_joined_69 4 rfl ?_
          refine aw_iconst (v := 1) E dX3_joined_71 (by decide) ?_
          refine aw_aload_n E dX3_joined_72 1 rfl ?_
          refine aw_getR (q := 6) E flX3_15 (Nat.le_of_ble_eq_true rfl) rfl rfl dX3_joined_73 ?_
          refine aw_iload E dX3_joined_76 6 rfl ?_
          obtain ⟨g110, hh⟩ := gi_e hh
          refine aw_iald E (Nat.le_of_ble_eq_true rfl) rfl g110 dX3_joined_78 ?_
          refine aw_ishl E dX3_joined_79 ?_
          refine aw_iconst (v := 1) E dX3_joined_80 (by decide) ?_
          refine aw_aload_n E dX3_joined_81 1 rfl ?_
          refine aw_getR (q := 7) E flX3_18 (Nat.le_of_ble_eq_true rfl) rfl rfl dX3_joined_82 ?_
          refine aw_iload E dX3_joined_85 6 rfl ?_
          obtain ⟨g111, hh⟩ := gi_e hh
          refine aw_iald E (Nat.le_of_ble_eq_true rfl) rfl g111 dX3_joined_87 ?_
          refine aw_ishl E dX3_joined_88 ?_
          refine aw_ior E dX3_joined_89 ?_
          refine aw_ior E dX3_joined_90 ?_
          obtain ⟨x112, e113, hh⟩ := lt_e hh
          refine aw_nmI e113 ?_
          refine aw_istore (L1 := [(4, .int x112), (7, .int q103), (0, .ref (wad (WX g) 4)), (2, .int p2), (3, .int p3), (5, .int p5), (6, .int p6)]) E dX3_joined_91 (Nat.le_of_ble_eq_true rfl) rfl ?_
          obtain ⟨x114, e115, hh⟩ := lt_e hh
          refine aw_iinc (v := x114) (L1 := [(6, .int x114), (4, .int x112), (7, .int q103), (0, .ref (wad (WX g) 4)), (2, .int p2), (3, .int p3), (5, .int p5)]) E dX3_joined_93 6 rfl e115 (Nat.le_of_ble_eq_true rfl) rfl ?_
          refine aw_goto (tgt := 16) E dX3_joined_96 rfl ?_
          refine aw_sub (L1 := [(0, .ref (wad (WX g) 4)), (2, .int p2), (3, .int p3), (4, .int x112), (5, .int p5), (6, .int x114)]) [3, 4, 5, 1, 6, 0] rfl ?_
          exact ih x112 x114 M _ hh kx
        have J109 : b106 = false → AW Y (WX g) r 8 1 93 [(7, .int q103), (0, .ref (wad (WX g) 4)), (2, .int p2), (3, .int p3), (4, .int p4), (5, .int p5), (6, .int p6)] [] M := fun hb => by
          replace hh := iq (bf hb) hh
          obtain ⟨x116, e117, hh⟩ := lt_e hh
          refine aw_iinc (v := x116) (L1 := [(6, .int x116), (7, .int q103), (0, .ref (wad (WX g) 4)), (2, .int p2), (3, .int p3), (4, .int p4), (5, .int p5)]) E dX3_joined_93 6 rfl e117 (Nat.le_of_ble_eq_true rfl) rfl ?_
          refine aw_goto (tgt := 16) E dX3_joined_96 rfl ?_
          refine aw_sub (L1 := [(0, .ref (wad (WX g) 4)), (2, .int p2), (3, .int p3), (4, .int p4), (5, .int p5), (6, .int x116)]) [2, 3, 4, 5, 6, 0] rfl ?_
          exact ih p4 x116 M _ hh kx
        refine aw_if_eq (tgt := 93) E dX3_joined_57 rfl (fun c57 => ?_) (fun c57 => ?_)
        ·
          replace e107 := ip c57 e107
          subst e107
          exact J109 rfl
        ·
          replace e107 := iq c57 e107
          refine aw_iload_n E dX3_joined_60 2 rfl ?_
          refine aw_iload E dX3_joined_61 6 rfl ?_
          refine aw_ishr E dX3_joined_63 ?_
          refine aw_iconst (v := 1) E dX3_joined_64 (by decide) ?_
          refine aw_iand E dX3_joined_65 ?_
          refine aw_if_eq (tgt := 93) E dX3_joined_66 rfl (fun c66 => ?_) (fun c66 => ?_)
          ·
            replace e107 := ip c66 e107
            subst e107
            exact J109 rfl
          ·
            replace e107 := iq c66 e107
            subst e107
            exact J108 rfl
      refine aw_if_eq (tgt := 52) E dX3_joined_45 rfl (fun c45 => ?_) (fun c45 => ?_)
      ·
        replace e104 := ip c45 e104
        refine aw_iconst (v := 0) E dX3_joined_52 (by decide) ?_
        refine aw_sub (L1 := [(0, .ref (wad (WX g) 4)), (2, .int p2), (3, .int p3), (4, .int p4), (5, .int p5), (6, .int p6)]) [0, 1, 2, 3, 4, 5] rfl ?_
        subst e104
        exact J105
      ·
        replace e104 := iq c45 e104
        refine aw_iconst (v := 1) E dX3_joined_48 (by decide) ?_
        refine aw_goto (tgt := 53) E dX3_joined_49 rfl ?_
        refine aw_sub (L1 := [(0, .ref (wad (WX g) 4)), (2, .int p2), (3, .int p3), (4, .int p4), (5, .int p5), (6, .int p6)]) [0, 1, 2, 3, 4, 5] rfl ?_
        subst e104
        exact J105
set_option maxHeartbeats 4000000 in
set_option maxRecDepth 100000 in
theorem lpX3_joined_6 {Y : CtxM} {g : CtxG} {r : Option Value × Mem} (E : EV Y (WX g) cX3_joined 8 (some .int) RX3) (p2 : Int32) (p3 : Int32) : ∀ (f : Nat) (p4 : Int32) (p5 : Int32) (M : Mem) (q : Int32), FX3_joined_L6 f p2 p3 p4 p5 M = some q → AW Y (WX g) r 8 1 105 [(4, .int q)] [] M → AW Y (WX g) r 8 1 6 [(0, .ref (wad (WX g) 4)), (2, .int p2), (3, .int p3), (4, .int p4), (5, .int p5)] [] M := by
  intro f
  induction f with
  | zero => intro p4 p5 M q hh; exact absurd hh (fun z => nomatch (show (none : Option (Int32)) = some q from z))
  | succ f ih =>
    intro p4 p5 M q hh kx
    rw [FX3_joined_L6] at hh
    refine aw_iload E dX3_joined_6 4 rfl ?_
    refine aw_bipush (v := 9) E dX3_joined_8 (by decide) ?_
    refine aw_icmp_ge (tgt := 105) E dX3_joined_10 rfl (fun c10 => ?_) (fun c10 => ?_)
    ·
      replace hh := ip c10 hh
      refine aw_sub (L1 := [(4, .int p4)]) [3] rfl ?_
      replace hh := Option.some.inj hh
      subst hh
      exact kx
    ·
      replace hh := iq c10 hh
      refine aw_iconst (v := 0) E dX3_joined_13 (by decide) ?_
      refine aw_istore (L1 := [(6, .int 0), (0, .ref (wad (WX g) 4)), (2, .int p2), (3, .int p3), (4, .int p4), (5, .int p5)]) E dX3_joined_14 (Nat.le_of_ble_eq_true rfl) rfl ?_
      obtain ⟨q101, e102, hh⟩ := bd_e hh
      refine aw_sub (L1 := [(0, .ref (wad (WX g) 4)), (2, .int p2), (3, .int p3), (4, .int p4), (5, .int p5), (6, .int 0)]) [1, 2, 3, 4, 5, 0] rfl ?_
      refine lpX3_joined_16 E   p2 p3 p5 FU p4 0 M q101 e102 ?_
      obtain ⟨x103, e104, hh⟩ := lt_e hh
      refine aw_iinc (v := x103) (L1 := [(5, .int x103), (0, .ref (wad (WX g) 4)), (2, .int p2), (3, .int p3), (4, .int q101)]) E dX3_joined_99 4 rfl e104 (Nat.le_of_ble_eq_true rfl) rfl ?_
      refine aw_goto (tgt := 6) E dX3_joined_102 rfl ?_
      refine aw_sub (L1 := [(0, .ref (wad (WX g) 4)), (2, .int p2), (3, .int p3), (4, .int q101), (5, .int x103)]) [1, 2, 3, 4, 0] rfl ?_
      exact ih q101 x103 M _ hh kx
set_option maxHeartbeats 4000000 in
set_option maxRecDepth 100000 in
theorem ctX3_joined (l : Launch) (g : CtxG) (a1 : Int32) (a2 : Int32) (a3 : Int32) (M : Mem) (r0 : Int32) (h : FX3_joined a1 a2 a3 M = some r0) : Ct l (WX g) yX3_joined cX3_joined 8 (some .int) 1 [.ref (wad (WX g) 4), .int a1, .int a2, .int a3] M (some (.int r0), M) := by
  refine Ct.of (by decide) (Nat.le_of_ble_eq_true rfl) (fun Y hY E => ?_)
  have E : EV Y (WX g) cX3_joined 8 (some .int) RX3 := E
  have h : FX3_joined a1 a2 a3 M = some r0 := h
  unfold FX3_joined at h
  show AW Y (WX g) _ 8 1 0 [(0, .ref (wad (WX g) 4)), (1, .int a1), (2, .int a2), (3, .int a3)] [] M
  obtain ⟨r, hr⟩ : ∃ r : Option Value × Mem, r = (some (.int r0), M) := ⟨_, rfl⟩
  rw [← hr]
  refine aw_iload_n E dX3_joined_0 1 rfl ?_
  refine aw_istore (L1 := [(4, .int a1), (0, .ref (wad (WX g) 4)), (1, .int a1), (2, .int a2), (3, .int a3)]) E dX3_joined_1 (Nat.le_of_ble_eq_true rfl) rfl ?_
  refine aw_iconst (v := 1) E dX3_joined_3 (by decide) ?_
  refine aw_istore (L1 := [(5, .int 1), (4, .int a1), (0, .ref (wad (WX g) 4)), (1, .int a1), (2, .int a2), (3, .int a3)]) E dX3_joined_4 (Nat.le_of_ble_eq_true rfl) rfl ?_
  obtain ⟨q1, e2, h⟩ := bd_e h
  refine aw_sub (L1 := [(0, .ref (wad (WX g) 4)), (2, .int a2), (3, .int a3), (4, .int a1), (5, .int 1)]) [2, 4, 5, 1, 0] rfl ?_
  refine lpX3_joined_6 E   a2 a3 FU a1 1 M q1 e2 ?_
  refine aw_iload E dX3_joined_105 0 rfl ?_
  replace h := Option.some.inj h
  subst h
  exact aw_iret E dX3_joined_107 hr
def FX3_bonds_L4 : Nat → Int32 → Int32 → Int32 → Mem → Option (Int32)
  | 0, _, _, _, _ => none
  | f + 1, p1, p2, p3, M =>
    if p1 ≤ p3 then
      some p2
    else
      gi p3 12 <|
      ob (FX3_joined ((1 : Int32) <<< ((M.1 6 (Int32.toNatClampNeg p3)) &&& 31)) (((1 : Int32) <<< (p3 &&& 31)) ^^^ (-1)) p1 M) fun q102 =>
      gi p3 12 <|
      if ((q102 >>> ((M.1 7 (Int32.toNatClampNeg p3)) &&& 31)) &&& 1) = 0 then
        lt (α := Int32) (p2 ||| ((1 : Int32) <<< (p3 &&& 31))) fun x107 =>
        lt (α := Int32) (p3 + 1) fun x109 =>
        FX3_bonds_L4 f p1 x107 x109 M
      else
        lt (α := Int32) (p3 + 1) fun x105 =>
        FX3_bonds_L4 f p1 p2 x105 M
def FX3_bonds (a1 : Int32) (M : Mem) : Option (Int32) :=
  ob (FX3_bonds_L4 FU a1 0 0 M) fun q1 =>
  some q1
set_option maxHeartbeats 4000000 in
set_option maxRecDepth 100000 in
theorem lpX3_bonds_4 {Y : CtxM} {g : CtxG} {r : Option Value × Mem} (E : EV Y (WX g) cX3_bonds 5 (some .int) RX3) (p1 : Int32) : ∀ (f : Nat) (p2 : Int32) (p3 : Int32) (M : Mem) (q : Int32), FX3_bonds_L4 f p1 p2 p3 M = some q → AW Y (WX g) r 5 2 55 [(2, .int q)] [] M → AW Y (WX g) r 5 2 4 [(0, .ref (wad (WX g) 4)), (1, .int p1), (2, .int p2), (3, .int p3)] [] M := by
  intro f
  induction f with
  | zero => intro p2 p3 M q hh; exact absurd hh (fun z => nomatch (show (none : Option (Int32)) = some q from z))
  | succ f ih =>
    intro p2 p3 M q hh kx
    rw [FX3_bonds_L4] at hh
    refine aw_iload_n E dX3_bonds_4 3 rfl ?_
    refine aw_iload_n E dX3_bonds_5 1 rfl ?_
    refine aw_icmp_ge (tgt := 55) E dX3_bonds_6 rfl (fun c6 => ?_) (fun c6 => ?_)
    ·
      replace hh := ip c6 hh
      refine aw_sub (L1 := [(2, .int p2)]) [2] rfl ?_
      replace hh := Option.some.inj hh
      subst hh
      exact kx
    ·
      replace hh := iq c6 hh
      refine aw_aload_n E dX3_bonds_9 0 rfl ?_
      refine aw_iconst (v := 1) E dX3_bonds_10 (by decide) ?_
      refine aw_aload_n E dX3_bonds_11 0 rfl ?_
      refine aw_getR (q := 6) E flX3_15 (Nat.le_of_ble_eq_true rfl) rfl rfl dX3_bonds_12 ?_
      refine aw_iload_n E dX3_bonds_15 3 rfl ?_
      obtain ⟨g101, hh⟩ := gi_e hh
      refine aw_iald E (Nat.le_of_ble_eq_true rfl) rfl g101 dX3_bonds_16 ?_
      refine aw_ishl E dX3_bonds_17 ?_
      refine aw_iconst (v := 1) E dX3_bonds_18 (by decide) ?_
      refine aw_iload_n E dX3_bonds_19 3 rfl ?_
      refine aw_ishl E dX3_bonds_20 ?_
      refine aw_iconst (v := (-1)) E dX3_bonds_21 (by decide) ?_
      refine aw_ixor E dX3_bonds_22 ?_
      refine aw_iload_n E dX3_bonds_23 1 rfl ?_
      obtain ⟨q102, e103, hh⟩ := bd_e hh
      refine aw_callVi (S := []) E mvX3_joined mlX3_40 (Nat.le_of_ble_eq_true rfl) rfl rfl rfl (ctX3_joined (yl Y) g ((1 : Int32) <<< ((M.1 6 (Int32.toNatClampNeg p3)) &&& 31)) (((1 : Int32) <<< (p3 &&& 31)) ^^^ (-1)) p1  M q102 e103) rfl (Nat.le_of_ble_eq_true rfl) (Nat.le_of_ble_eq_true rfl) dX3_bonds_24 ?_
      refine aw_istore (L1 := [(4, .int q102), (0, .ref (wad (WX g) 4)), (1, .int p1), (2, .int p2), (3, .int p3)]) E dX3_bonds_27 (Nat.le_of_ble_eq_true rfl) rfl ?_
      refine aw_iload E dX3_bonds_29 0 rfl ?_
      refine aw_aload_n E dX3_bonds_31 1 rfl ?_
      refine aw_getR (q := 7) E flX3_18 (Nat.le_of_ble_eq_true rfl) rfl rfl dX3_bonds_32 ?_
      refine aw_iload_n E dX3_bonds_35 4 rfl ?_
      obtain ⟨g104, hh⟩ := gi_e hh
      refine aw_iald E (Nat.le_of_ble_eq_true rfl) rfl g104 dX3_bonds_36 ?_
      refine aw_ishr E dX3_bonds_37 ?_
      refine aw_iconst (v := 1) E dX3_bonds_38 (by decide) ?_
      refine aw_iand E dX3_bonds_39 ?_
      refine aw_if_ne (tgt := 49) E dX3_bonds_40 rfl (fun c40 => ?_) (fun c40 => ?_)
      ·
        replace hh := iq c40 hh
        obtain ⟨x105, e106, hh⟩ := lt_e hh
        refine aw_iinc (v := x105) (L1 := [(3, .int x105), (4, .int q102), (0, .ref (wad (WX g) 4)), (1, .int p1), (2, .int p2)]) E dX3_bonds_49 4 rfl e106 (Nat.le_of_ble_eq_true rfl) rfl ?_
        refine aw_goto (tgt := 4) E dX3_bonds_52 rfl ?_
        refine aw_sub (L1 := [(0, .ref (wad (WX g) 4)), (1, .int p1), (2, .int p2), (3, .int x105)]) [2, 3, 4, 0] rfl ?_
        exact ih p2 x105 M _ hh kx
      ·
        replace hh := ip c40 hh
        refine aw_iload_n E dX3_bonds_43 3 rfl ?_
        refine aw_iconst (v := 1) E dX3_bonds_44 (by decide) ?_
        refine aw_iload_n E dX3_bonds_45 4 rfl ?_
        refine aw_ishl E dX3_bonds_46 ?_
        refine aw_ior E dX3_bonds_47 ?_
        obtain ⟨x107, e108, hh⟩ := lt_e hh
        refine aw_nmI e108 ?_
        refine aw_istore_n (L1 := [(2, .int x107), (4, .int q102), (0, .ref (wad (WX g) 4)), (1, .int p1), (3, .int p3)]) E dX3_bonds_48 (Nat.le_of_ble_eq_true rfl) rfl ?_
        obtain ⟨x109, e110, hh⟩ := lt_e hh
        refine aw_iinc (v := x109) (L1 := [(3, .int x109), (2, .int x107), (4, .int q102), (0, .ref (wad (WX g) 4)), (1, .int p1)]) E dX3_bonds_49 4 rfl e110 (Nat.le_of_ble_eq_true rfl) rfl ?_
        refine aw_goto (tgt := 4) E dX3_bonds_52 rfl ?_
        refine aw_sub (L1 := [(0, .ref (wad (WX g) 4)), (1, .int p1), (2, .int x107), (3, .int x109)]) [3, 4, 1, 0] rfl ?_
        exact ih x107 x109 M _ hh kx
set_option maxHeartbeats 4000000 in
set_option maxRecDepth 100000 in
theorem ctX3_bonds (l : Launch) (g : CtxG) (a1 : Int32) (M : Mem) (r0 : Int32) (h : FX3_bonds a1 M = some r0) : Ct l (WX g) yX3_bonds cX3_bonds 5 (some .int) 2 [.ref (wad (WX g) 4), .int a1] M (some (.int r0), M) := by
  refine Ct.of (by decide) (Nat.le_of_ble_eq_true rfl) (fun Y hY E => ?_)
  have E : EV Y (WX g) cX3_bonds 5 (some .int) RX3 := E
  have h : FX3_bonds a1 M = some r0 := h
  unfold FX3_bonds at h
  show AW Y (WX g) _ 5 2 0 [(0, .ref (wad (WX g) 4)), (1, .int a1)] [] M
  obtain ⟨r, hr⟩ : ∃ r : Option Value × Mem, r = (some (.int r0), M) := ⟨_, rfl⟩
  rw [← hr]
  refine aw_iconst (v := 0) E dX3_bonds_0 (by decide) ?_
  refine aw_istore_n (L1 := [(2, .int 0), (0, .ref (wad (WX g) 4)), (1, .int a1)]) E dX3_bonds_1 (Nat.le_of_ble_eq_true rfl) rfl ?_
  refine aw_iconst (v := 0) E dX3_bonds_2 (by decide) ?_
  refine aw_istore_n (L1 := [(3, .int 0), (2, .int 0), (0, .ref (wad (WX g) 4)), (1, .int a1)]) E dX3_bonds_3 (Nat.le_of_ble_eq_true rfl) rfl ?_
  obtain ⟨q1, e2, h⟩ := bd_e h
  refine aw_sub (L1 := [(0, .ref (wad (WX g) 4)), (1, .int a1), (2, .int 0), (3, .int 0)]) [2, 3, 1, 0] rfl ?_
  refine lpX3_bonds_4 E   a1 FU 0 0 M q1 e2 ?_
  refine aw_iload_n E dX3_bonds_55 0 rfl ?_
  replace h := Option.some.inj h
  subst h
  exact aw_iret E dX3_bonds_56 hr
def FX3_built_L4 : Nat → Int32 → Int32 → Int32 → Mem → Option (Int32)
  | 0, _, _, _, _ => none
  | f + 1, p1, p2, p3, M =>
    if p1 ≤ p3 then
      some p2
    else
      gi p3 12 <|
      gi p3 12 <|
      lt (α := Int32) (p2 ||| (((1 : Int32) <<< ((M.1 6 (Int32.toNatClampNeg p3)) &&& 31)) ||| ((1 : Int32) <<< ((M.1 7 (Int32.toNatClampNeg p3)) &&& 31)))) fun x103 =>
      lt (α := Int32) (p3 + 1) fun x105 =>
      FX3_built_L4 f p1 x103 x105 M
def FX3_built (a1 : Int32) (M : Mem) : Option (Int32) :=
  ob (FX3_built_L4 FU a1 0 0 M) fun q1 =>
  some q1
set_option maxHeartbeats 4000000 in
set_option maxRecDepth 100000 in
theorem lpX3_built_4 {Y : CtxM} {g : CtxG} {r : Option Value × Mem} (E : EV Y (WX g) cX3_built 4 (some .int) RX3) (p1 : Int32) : ∀ (f : Nat) (p2 : Int32) (p3 : Int32) (M : Mem) (q : Int32), FX3_built_L4 f p1 p2 p3 M = some q → AW Y (WX g) r 4 1 35 [(2, .int q)] [] M → AW Y (WX g) r 4 1 4 [(0, .ref (wad (WX g) 4)), (1, .int p1), (2, .int p2), (3, .int p3)] [] M := by
  intro f
  induction f with
  | zero => intro p2 p3 M q hh; exact absurd hh (fun z => nomatch (show (none : Option (Int32)) = some q from z))
  | succ f ih =>
    intro p2 p3 M q hh kx
    rw [FX3_built_L4] at hh
    refine aw_iload_n E dX3_built_4 3 rfl ?_
    refine aw_iload_n E dX3_built_5 1 rfl ?_
    refine aw_icmp_ge (tgt := 35) E dX3_built_6 rfl (fun c6 => ?_) (fun c6 => ?_)
    ·
      replace hh := ip c6 hh
      refine aw_sub (L1 := [(2, .int p2)]) [2] rfl ?_
      replace hh := Option.some.inj hh
      subst hh
      exact kx
    ·
      replace hh := iq c6 hh
      refine aw_iload_n E dX3_built_9 2 rfl ?_
      refine aw_iconst (v := 1) E dX3_built_10 (by decide) ?_
      refine aw_aload_n E dX3_built_11 0 rfl ?_
      refine aw_getR (q := 6) E flX3_15 (Nat.le_of_ble_eq_true rfl) rfl rfl dX3_built_12 ?_
      refine aw_iload_n E dX3_built_15 3 rfl ?_
      obtain ⟨g101, hh⟩ := gi_e hh
      refine aw_iald E (Nat.le_of_ble_eq_true rfl) rfl g101 dX3_built_16 ?_
      refine aw_ishl E dX3_built_17 ?_
      refine aw_iconst (v := 1) E dX3_built_18 (by decide) ?_
      refine aw_aload_n E dX3_built_19 0 rfl ?_
      refine aw_getR (q := 7) E flX3_18 (Nat.le_of_ble_eq_true rfl) rfl rfl dX3_built_20 ?_
      refine aw_iload_n E dX3_built_23 3 rfl ?_
      obtain ⟨g102, hh⟩ := gi_e hh
      refine aw_iald E (Nat.le_of_ble_eq_true rfl) rfl g102 dX3_built_24 ?_
      refine aw_ishl E dX3_built_25 ?_
      refine aw_ior E dX3_built_26 ?_
      refine aw_ior E dX3_built_27 ?_
      obtain ⟨x103, e104, hh⟩ := lt_e hh
      refine aw_nmI e104 ?_
      refine aw_istore_n (L1 := [(2, .int x103), (0, .ref (wad (WX g) 4)), (1, .int p1), (3, .int p3)]) E dX3_built_28 (Nat.le_of_ble_eq_true rfl) rfl ?_
      obtain ⟨x105, e106, hh⟩ := lt_e hh
      refine aw_iinc (v := x105) (L1 := [(3, .int x105), (2, .int x103), (0, .ref (wad (WX g) 4)), (1, .int p1)]) E dX3_built_29 3 rfl e106 (Nat.le_of_ble_eq_true rfl) rfl ?_
      refine aw_goto (tgt := 4) E dX3_built_32 rfl ?_
      refine aw_sub (L1 := [(0, .ref (wad (WX g) 4)), (1, .int p1), (2, .int x103), (3, .int x105)]) [2, 3, 1, 0] rfl ?_
      exact ih x103 x105 M _ hh kx
set_option maxHeartbeats 4000000 in
set_option maxRecDepth 100000 in
theorem ctX3_built (l : Launch) (g : CtxG) (a1 : Int32) (M : Mem) (r0 : Int32) (h : FX3_built a1 M = some r0) : Ct l (WX g) yX3_built cX3_built 4 (some .int) 1 [.ref (wad (WX g) 4), .int a1] M (some (.int r0), M) := by
  refine Ct.of (by decide) (Nat.le_of_ble_eq_true rfl) (fun Y hY E => ?_)
  have E : EV Y (WX g) cX3_built 4 (some .int) RX3 := E
  have h : FX3_built a1 M = some r0 := h
  unfold FX3_built at h
  show AW Y (WX g) _ 4 1 0 [(0, .ref (wad (WX g) 4)), (1, .int a1)] [] M
  obtain ⟨r, hr⟩ : ∃ r : Option Value × Mem, r = (some (.int r0), M) := ⟨_, rfl⟩
  rw [← hr]
  refine aw_iconst (v := 0) E dX3_built_0 (by decide) ?_
  refine aw_istore_n (L1 := [(2, .int 0), (0, .ref (wad (WX g) 4)), (1, .int a1)]) E dX3_built_1 (Nat.le_of_ble_eq_true rfl) rfl ?_
  refine aw_iconst (v := 0) E dX3_built_2 (by decide) ?_
  refine aw_istore_n (L1 := [(3, .int 0), (2, .int 0), (0, .ref (wad (WX g) 4)), (1, .int a1)]) E dX3_built_3 (Nat.le_of_ble_eq_true rfl) rfl ?_
  obtain ⟨q1, e2, h⟩ := bd_e h
  refine aw_sub (L1 := [(0, .ref (wad (WX g) 4)), (1, .int a1), (2, .int 0), (3, .int 0)]) [2, 3, 1, 0] rfl ?_
  refine lpX3_built_4 E   a1 FU 0 0 M q1 e2 ?_
  refine aw_iload_n E dX3_built_35 0 rfl ?_
  replace h := Option.some.inj h
  subst h
  exact aw_iret E dX3_built_36 hr
def FX3_ending_L6 : Nat → Int32 → Int32 → Int32 → Int32 → Int32 → Mem → Option (Int32)
  | 0, _, _, _, _, _, _ => none
  | f + 1, p1, p2, p3, p4, p5, M =>
    if p3 ≤ p5 then
      some p4
    else
      gi p5 12 <|
      gi p5 12 <|
      lt (α := Int32) (if (((p1 >>> ((M.1 6 (Int32.toNatClampNeg p5)) &&& 31)) ||| (p1 >>> ((M.1 7 (Int32.toNatClampNeg p5)) &&& 31))) &&& 1) = 0 then
        0
      else
        1) fun q103 =>
      lt (α := Bool) (if q103 = 0 then false else if ((p2 >>> (p5 &&& 31)) &&& 1) = 0 then false else true) fun b106 =>
      if b106 = true then
        lt (α := Int32) (p4 + 1) fun x110 =>
        lt (α := Int32) (p5 + 1) fun x112 =>
        FX3_ending_L6 f p1 p2 p3 x110 x112 M
      else
        lt (α := Int32) (p5 + 1) fun x114 =>
        FX3_ending_L6 f p1 p2 p3 p4 x114 M
def FX3_ending (a1 : Int32) (a2 : Int32) (a3 : Int32) (M : Mem) : Option (Int32) :=
  ob (FX3_ending_L6 FU a1 a2 a3 0 0 M) fun q1 =>
  some q1
set_option maxHeartbeats 4000000 in
set_option maxRecDepth 100000 in
theorem lpX3_ending_6 {Y : CtxM} {g : CtxG} {r : Option Value × Mem} (E : EV Y (WX g) cX3_ending 7 (some .int) RX3) (p1 : Int32) (p2 : Int32) (p3 : Int32) : ∀ (f : Nat) (p4 : Int32) (p5 : Int32) (M : Mem) (q : Int32), FX3_ending_L6 f p1 p2 p3 p4 p5 M = some q → AW Y (WX g) r 7 1 66 [(4, .int q)] [] M → AW Y (WX g) r 7 1 6 [(0, .ref (wad (WX g) 4)), (1, .int p1), (2, .int p2), (3, .int p3), (4, .int p4), (5, .int p5)] [] M := by
  intro f
  induction f with
  | zero => intro p4 p5 M q hh; exact absurd hh (fun z => nomatch (show (none : Option (Int32)) = some q from z))
  | succ f ih =>
    intro p4 p5 M q hh kx
    rw [FX3_ending_L6] at hh
    refine aw_iload E dX3_ending_6 5 rfl ?_
    refine aw_iload_n E dX3_ending_8 3 rfl ?_
    refine aw_icmp_ge (tgt := 66) E dX3_ending_9 rfl (fun c9 => ?_) (fun c9 => ?_)
    ·
      replace hh := ip c9 hh
      refine aw_sub (L1 := [(4, .int p4)]) [4] rfl ?_
      replace hh := Option.some.inj hh
      subst hh
      exact kx
    ·
      replace hh := iq c9 hh
      refine aw_iload_n E dX3_ending_12 1 rfl ?_
      refine aw_aload_n E dX3_ending_13 0 rfl ?_
      refine aw_getR (q := 6) E flX3_15 (Nat.le_of_ble_eq_true rfl) rfl rfl dX3_ending_14 ?_
      refine aw_iload E dX3_ending_17 5 rfl ?_
      obtain ⟨g101, hh⟩ := gi_e hh
      refine aw_iald E (Nat.le_of_ble_eq_true rfl) rfl g101 dX3_ending_19 ?_
      refine aw_ishr E dX3_ending_20 ?_
      refine aw_iload_n E dX3_ending_21 1 rfl ?_
      refine aw_aload_n E dX3_ending_22 0 rfl ?_
      refine aw_getR (q := 7) E flX3_18 (Nat.le_of_ble_eq_true rfl) rfl rfl dX3_ending_23 ?_
      refine aw_iload E dX3_ending_26 5 rfl ?_
      obtain ⟨g102, hh⟩ := gi_e hh
      refine aw_iald E (Nat.le_of_ble_eq_true rfl) rfl g102 dX3_ending_28 ?_
      refine aw_ishr E dX3_ending_29 ?_
      refine aw_ior E dX3_ending_30 ?_
      refine aw_iconst (v := 1) E dX3_ending_31 (by decide) ?_
      refine aw_iand E dX3_ending_32 ?_
      obtain ⟨q103, e104, hh⟩ := lt_e hh
      have J105 : AW Y (WX g) r 7 1 41 [(0, .ref (wad (WX g) 4)), (1, .int p1), (2, .int p2), (3, .int p3), (4, .int p4), (5, .int p5)] [.int q103] M := by
        refine aw_istore (L1 := [(6, .int q103), (0, .ref (wad (WX g) 4)), (1, .int p1), (2, .int p2), (3, .int p3), (4, .int p4), (5, .int p5)]) E dX3_ending_41 (Nat.le_of_ble_eq_true rfl) rfl ?_
        refine aw_iload E dX3_ending_43 0 rfl ?_
        obtain ⟨b106, e107, hh⟩ := lt_e hh
        have J108 : b106 = true → AW Y (WX g) r 7 1 57 [(6, .int q103), (0, .ref (wad (WX g) 4)), (1, .int p1), (2, .int p2), (3, .int p3), (4, .int p4), (5, .int p5)] [] M := fun hb => by
          replace hh := ip hb hh
          obtain ⟨x110, e111, hh⟩ := lt_e hh
          refine aw_iinc (v := x110) (L1 := [(4, .int x110), (6, .int q103), (0, .ref (wad (WX g) 4)), (1, .int p1), (2, .int p2), (3, .int p3), (5, .int p5)]) E dX3_ending_57 5 rfl e111 (Nat.le_of_ble_eq_true rfl) rfl ?_
          obtain ⟨x112, e113, hh⟩ := lt_e hh
          refine aw_iinc (v := x112) (L1 := [(5, .int x112), (4, .int x110), (6, .int q103), (0, .ref (wad (WX g) 4)), (1, .int p1), (2, .int p2), (3, .int p3)]) E dX3_ending_60 6 rfl e113 (Nat.le_of_ble_eq_true rfl) rfl ?_
          refine aw_goto (tgt := 6) E dX3_ending_63 rfl ?_
          refine aw_sub (L1 := [(0, .ref (wad (WX g) 4)), (1, .int p1), (2, .int p2), (3, .int p3), (4, .int x110), (5, .int x112)]) [3, 4, 5, 6, 1, 0] rfl ?_
          exact ih x110 x112 M _ hh kx
        have J109 : b106 = false → AW Y (WX g) r 7 1 60 [(6, .int q103), (0, .ref (wad (WX g) 4)), (1, .int p1), (2, .int p2), (3, .int p3), (4, .int p4), (5, .int p5)] [] M := fun hb => by
          replace hh := iq (bf hb) hh
          obtain ⟨x114, e115, hh⟩ := lt_e hh
          refine aw_iinc (v := x114) (L1 := [(5, .int x114), (6, .int q103), (0, .ref (wad (WX g) 4)), (1, .int p1), (2, .int p2), (3, .int p3), (4, .int p4)]) E dX3_ending_60 6 rfl e115 (Nat.le_of_ble_eq_true rfl) rfl ?_
          refine aw_goto (tgt := 6) E dX3_ending_63 rfl ?_
          refine aw_sub (L1 := [(0, .ref (wad (WX g) 4)), (1, .int p1), (2, .int p2), (3, .int p3), (4, .int p4), (5, .int x114)]) [2, 3, 4, 5, 6, 0] rfl ?_
          exact ih p4 x114 M _ hh kx
        refine aw_if_eq (tgt := 60) E dX3_ending_45 rfl (fun c45 => ?_) (fun c45 => ?_)
        ·
          replace e107 := ip c45 e107
          subst e107
          exact J109 rfl
        ·
          replace e107 := iq c45 e107
          refine aw_iload_n E dX3_ending_48 3 rfl ?_
          refine aw_iload E dX3_ending_49 6 rfl ?_
          refine aw_ishr E dX3_ending_51 ?_
          refine aw_iconst (v := 1) E dX3_ending_52 (by decide) ?_
          refine aw_iand E dX3_ending_53 ?_
          refine aw_if_eq (tgt := 60) E dX3_ending_54 rfl (fun c54 => ?_) (fun c54 => ?_)
          ·
            replace e107 := ip c54 e107
            subst e107
            exact J109 rfl
          ·
            replace e107 := iq c54 e107
            subst e107
            exact J108 rfl
      refine aw_if_eq (tgt := 40) E dX3_ending_33 rfl (fun c33 => ?_) (fun c33 => ?_)
      ·
        replace e104 := ip c33 e104
        refine aw_iconst (v := 0) E dX3_ending_40 (by decide) ?_
        refine aw_sub (L1 := [(0, .ref (wad (WX g) 4)), (1, .int p1), (2, .int p2), (3, .int p3), (4, .int p4), (5, .int p5)]) [0, 1, 2, 3, 4, 5] rfl ?_
        subst e104
        exact J105
      ·
        replace e104 := iq c33 e104
        refine aw_iconst (v := 1) E dX3_ending_36 (by decide) ?_
        refine aw_goto (tgt := 41) E dX3_ending_37 rfl ?_
        refine aw_sub (L1 := [(0, .ref (wad (WX g) 4)), (1, .int p1), (2, .int p2), (3, .int p3), (4, .int p4), (5, .int p5)]) [0, 1, 2, 3, 4, 5] rfl ?_
        subst e104
        exact J105
set_option maxHeartbeats 4000000 in
set_option maxRecDepth 100000 in
theorem ctX3_ending (l : Launch) (g : CtxG) (a1 : Int32) (a2 : Int32) (a3 : Int32) (M : Mem) (r0 : Int32) (h : FX3_ending a1 a2 a3 M = some r0) : Ct l (WX g) yX3_ending cX3_ending 7 (some .int) 1 [.ref (wad (WX g) 4), .int a1, .int a2, .int a3] M (some (.int r0), M) := by
  refine Ct.of (by decide) (Nat.le_of_ble_eq_true rfl) (fun Y hY E => ?_)
  have E : EV Y (WX g) cX3_ending 7 (some .int) RX3 := E
  have h : FX3_ending a1 a2 a3 M = some r0 := h
  unfold FX3_ending at h
  show AW Y (WX g) _ 7 1 0 [(0, .ref (wad (WX g) 4)), (1, .int a1), (2, .int a2), (3, .int a3)] [] M
  obtain ⟨r, hr⟩ : ∃ r : Option Value × Mem, r = (some (.int r0), M) := ⟨_, rfl⟩
  rw [← hr]
  refine aw_iconst (v := 0) E dX3_ending_0 (by decide) ?_
  refine aw_istore (L1 := [(4, .int 0), (0, .ref (wad (WX g) 4)), (1, .int a1), (2, .int a2), (3, .int a3)]) E dX3_ending_1 (Nat.le_of_ble_eq_true rfl) rfl ?_
  refine aw_iconst (v := 0) E dX3_ending_3 (by decide) ?_
  refine aw_istore (L1 := [(5, .int 0), (4, .int 0), (0, .ref (wad (WX g) 4)), (1, .int a1), (2, .int a2), (3, .int a3)]) E dX3_ending_4 (Nat.le_of_ble_eq_true rfl) rfl ?_
  obtain ⟨q1, e2, h⟩ := bd_e h
  refine aw_sub (L1 := [(0, .ref (wad (WX g) 4)), (1, .int a1), (2, .int a2), (3, .int a3), (4, .int 0), (5, .int 0)]) [2, 3, 4, 5, 1, 0] rfl ?_
  refine lpX3_ending_6 E   a1 a2 a3 FU 0 0 M q1 e2 ?_
  refine aw_iload E dX3_ending_66 0 rfl ?_
  replace h := Option.some.inj h
  subst h
  exact aw_iret E dX3_ending_68 hr
def FX3_endsAt (a1 : Int32) (a2 : Int32) (M : Mem) : Option (Int32) :=
  gi a1 12 <|
  ob (α := Bool) (if (M.1 6 (Int32.toNatClampNeg a1)) = a2 then
    some true
  else
    gi a1 12 <|
    if (M.1 7 (Int32.toNatClampNeg a1)) = a2 then some true else some false) fun b2 =>
  if b2 = true then
    some 1
  else
    some 0
set_option maxHeartbeats 4000000 in
set_option maxRecDepth 100000 in
theorem ctX3_endsAt (l : Launch) (g : CtxG) (a1 : Int32) (a2 : Int32) (M : Mem) (r0 : Int32) (h : FX3_endsAt a1 a2 M = some r0) : Ct l (WX g) yX3_endsAt cX3_endsAt 3 (some .boolean) 1 [.ref (wad (WX g) 4), .int a1, .int a2] M (some (.int r0), M) := by
  refine Ct.of (by decide) (Nat.le_of_ble_eq_true rfl) (fun Y hY E => ?_)
  have E : EV Y (WX g) cX3_endsAt 3 (some .boolean) RX3 := E
  have h : FX3_endsAt a1 a2 M = some r0 := h
  unfold FX3_endsAt at h
  show AW Y (WX g) _ 3 1 0 [(0, .ref (wad (WX g) 4)), (1, .int a1), (2, .int a2)] [] M
  obtain ⟨r, hr⟩ : ∃ r : Option Value × Mem, r = (some (.int r0), M) := ⟨_, rfl⟩
  rw [← hr]
  refine aw_aload_n E dX3_endsAt_0 0 rfl ?_
  refine aw_getR (q := 6) E flX3_15 (Nat.le_of_ble_eq_true rfl) rfl rfl dX3_endsAt_1 ?_
  refine aw_iload_n E dX3_endsAt_4 1 rfl ?_
  obtain ⟨g1, h⟩ := gi_e h
  refine aw_iald E (Nat.le_of_ble_eq_true rfl) rfl g1 dX3_endsAt_5 ?_
  refine aw_iload_n E dX3_endsAt_6 2 rfl ?_
  obtain ⟨b2, e3, h⟩ := bd_e h
  have J4 : b2 = true → AW Y (WX g) r 3 1 20 [(0, .ref (wad (WX g) 4)), (1, .int a1), (2, .int a2)] [] M := fun hb => by
    replace h := ip hb h
    refine aw_iconst (v := 1) E dX3_endsAt_20 (by decide) ?_
    refine aw_goto (tgt := 25) E dX3_endsAt_21 rfl ?_
    replace h := Option.some.inj h
    subst h
    exact aw_zret E (by decide) dX3_endsAt_25 hr
  have J5 : b2 = false → AW Y (WX g) r 3 1 24 [(0, .ref (wad (WX g) 4)), (1, .int a1), (2, .int a2)] [] M := fun hb => by
    replace h := iq (bf hb) h
    refine aw_iconst (v := 0) E dX3_endsAt_24 (by decide) ?_
    replace h := Option.some.inj h
    subst h
    exact aw_zret E (by decide) dX3_endsAt_25 hr
  refine aw_icmp_eq (tgt := 20) E dX3_endsAt_7 rfl (fun c7 => ?_) (fun c7 => ?_)
  ·
    replace e3 := ip c7 e3
    replace e3 := Option.some.inj e3
    subst e3
    exact J4 rfl
  ·
    replace e3 := iq c7 e3
    refine aw_aload_n E dX3_endsAt_10 0 rfl ?_
    refine aw_getR (q := 7) E flX3_18 (Nat.le_of_ble_eq_true rfl) rfl rfl dX3_endsAt_11 ?_
    refine aw_iload_n E dX3_endsAt_14 1 rfl ?_
    obtain ⟨g6, e3⟩ := gi_e e3
    refine aw_iald E (Nat.le_of_ble_eq_true rfl) rfl g6 dX3_endsAt_15 ?_
    refine aw_iload_n E dX3_endsAt_16 2 rfl ?_
    refine aw_icmp_ne (tgt := 24) E dX3_endsAt_17 rfl (fun c17 => ?_) (fun c17 => ?_)
    ·
      replace e3 := iq c17 e3
      replace e3 := Option.some.inj e3
      subst e3
      exact J5 rfl
    ·
      replace e3 := ip c17 e3
      replace e3 := Option.some.inj e3
      subst e3
      exact J4 rfl
def FX3_isA (a1 : Int32) (a2 : Int32) (M : Mem) : Option (Int32) :=
  ob (α := Bool) (if a2 = 0 then
    some false
  else
    gi a1 12 <|
    if (M.1 5 (Int32.toNatClampNeg a1)) = a2 then some false else some true) fun b1 =>
  if b1 = true then
    ob (α := Bool) (if a2 = 3 then
      gi a1 12 <|
      if (M.1 5 (Int32.toNatClampNeg a1)) = 5 then some true else some false
    else
      some false) fun b5 =>
    if b5 = true then
      some 1
    else
      some 0
  else
    some 1
set_option maxHeartbeats 4000000 in
set_option maxRecDepth 100000 in
theorem ctX3_isA (l : Launch) (g : CtxG) (a1 : Int32) (a2 : Int32) (M : Mem) (r0 : Int32) (h : FX3_isA a1 a2 M = some r0) : Ct l (WX g) yX3_isA cX3_isA 3 (some .boolean) 1 [.ref (wad (WX g) 4), .int a1, .int a2] M (some (.int r0), M) := by
  refine Ct.of (by decide) (Nat.le_of_ble_eq_true rfl) (fun Y hY E => ?_)
  have E : EV Y (WX g) cX3_isA 3 (some .boolean) RX3 := E
  have h : FX3_isA a1 a2 M = some r0 := h
  unfold FX3_isA at h
  show AW Y (WX g) _ 3 1 0 [(0, .ref (wad (WX g) 4)), (1, .int a1), (2, .int a2)] [] M
  obtain ⟨r, hr⟩ : ∃ r : Option Value × Mem, r = (some (.int r0), M) := ⟨_, rfl⟩
  rw [← hr]
  refine aw_iload_n E dX3_isA_0 2 rfl ?_
  obtain ⟨b1, e2, h⟩ := bd_e h
  have J3 : b1 = true → AW Y (WX g) r 3 1 14 [(0, .ref (wad (WX g) 4)), (1, .int a1), (2, .int a2)] [] M := fun hb => by
    replace h := ip hb h
    refine aw_iload_n E dX3_isA_14 2 rfl ?_
    refine aw_iconst (v := 3) E dX3_isA_15 (by decide) ?_
    obtain ⟨b5, e6, h⟩ := bd_e h
    have J7 : b5 = true → AW Y (WX g) r 3 1 29 [(0, .ref (wad (WX g) 4)), (1, .int a1), (2, .int a2)] [] M := fun hb => by
      replace h := ip hb h
      refine aw_iconst (v := 1) E dX3_isA_29 (by decide) ?_
      refine aw_goto (tgt := 34) E dX3_isA_30 rfl ?_
      replace h := Option.some.inj h
      subst h
      exact aw_zret E (by decide) dX3_isA_34 hr
    have J8 : b5 = false → AW Y (WX g) r 3 1 33 [(0, .ref (wad (WX g) 4)), (1, .int a1), (2, .int a2)] [] M := fun hb => by
      replace h := iq (bf hb) h
      refine aw_iconst (v := 0) E dX3_isA_33 (by decide) ?_
      replace h := Option.some.inj h
      subst h
      exact aw_zret E (by decide) dX3_isA_34 hr
    refine aw_icmp_ne (tgt := 33) E dX3_isA_16 rfl (fun c16 => ?_) (fun c16 => ?_)
    ·
      replace e6 := iq c16 e6
      replace e6 := Option.some.inj e6
      subst e6
      exact J8 rfl
    ·
      replace e6 := ip c16 e6
      refine aw_aload_n E dX3_isA_19 0 rfl ?_
      refine aw_getR (q := 5) E flX3_9 (Nat.le_of_ble_eq_true rfl) rfl rfl dX3_isA_20 ?_
      refine aw_iload_n E dX3_isA_23 1 rfl ?_
      obtain ⟨g9, e6⟩ := gi_e e6
      refine aw_iald E (Nat.le_of_ble_eq_true rfl) rfl g9 dX3_isA_24 ?_
      refine aw_iconst (v := 5) E dX3_isA_25 (by decide) ?_
      refine aw_icmp_ne (tgt := 33) E dX3_isA_26 rfl (fun c26 => ?_) (fun c26 => ?_)
      ·
        replace e6 := iq c26 e6
        replace e6 := Option.some.inj e6
        subst e6
        exact J8 rfl
      ·
        replace e6 := ip c26 e6
        replace e6 := Option.some.inj e6
        subst e6
        exact J7 rfl
  have J4 : b1 = false → AW Y (WX g) r 3 1 29 [(0, .ref (wad (WX g) 4)), (1, .int a1), (2, .int a2)] [] M := fun hb => by
    replace h := iq (bf hb) h
    refine aw_iconst (v := 1) E dX3_isA_29 (by decide) ?_
    refine aw_goto (tgt := 34) E dX3_isA_30 rfl ?_
    replace h := Option.some.inj h
    subst h
    exact aw_zret E (by decide) dX3_isA_34 hr
  refine aw_if_eq (tgt := 29) E dX3_isA_1 rfl (fun c1 => ?_) (fun c1 => ?_)
  ·
    replace e2 := ip c1 e2
    replace e2 := Option.some.inj e2
    subst e2
    exact J4 rfl
  ·
    replace e2 := iq c1 e2
    refine aw_aload_n E dX3_isA_4 0 rfl ?_
    refine aw_getR (q := 5) E flX3_9 (Nat.le_of_ble_eq_true rfl) rfl rfl dX3_isA_5 ?_
    refine aw_iload_n E dX3_isA_8 1 rfl ?_
    obtain ⟨g10, e2⟩ := gi_e e2
    refine aw_iald E (Nat.le_of_ble_eq_true rfl) rfl g10 dX3_isA_9 ?_
    refine aw_iload_n E dX3_isA_10 2 rfl ?_
    refine aw_icmp_eq (tgt := 29) E dX3_isA_11 rfl (fun c11 => ?_) (fun c11 => ?_)
    ·
      replace e2 := ip c11 e2
      replace e2 := Option.some.inj e2
      subst e2
      exact J4 rfl
    ·
      replace e2 := iq c11 e2
      replace e2 := Option.some.inj e2
      subst e2
      exact J3 rfl
def FX3_lasts (a1 : Int32) (a2 : Int32) (a3 : Int32) (a4 : Int32) (M : Mem) : Option (Int32) :=
  lt (α := Int32) ((if 1 < (if a3 < 99 then a3 else 99) then (if a3 < 99 then a3 else 99) else 1)) fun x1 =>
  gi a1 12 <|
  ob (α := Bool) (if (M.1 5 (Int32.toNatClampNeg a1)) = 2 then
    gi a1 12 <|
    if a2 = (M.1 7 (Int32.toNatClampNeg a1)) then some true else some false
  else
    some false) fun b4 =>
  lt (α := Int32) (if b4 = true then
    lt (α := Int32) (x1 * 2) fun x22 =>
    x22
  else
    x1) fun q6 =>
  gi a1 12 <|
  lt (α := Bool) (if (M.1 5 (Int32.toNatClampNeg a1)) = 4 then if a4 < 12 then false else true else false) fun b10 =>
  ob (α := Int32) (if b10 = true then
    gi a1 12 <|
    lt (α := Int32) (q6 + (M.1 9 (Int32.toNatClampNeg a1))) fun x18 =>
    some x18
  else
    some q6) fun q12 =>
  some (if q12 < 99 then q12 else 99)
set_option maxHeartbeats 4000000 in
set_option maxRecDepth 100000 in
theorem ctX3_lasts (l : Launch) (g : CtxG) (a1 : Int32) (a2 : Int32) (a3 : Int32) (a4 : Int32) (M : Mem) (r0 : Int32) (h : FX3_lasts a1 a2 a3 a4 M = some r0) : Ct l (WX g) yX3_lasts cX3_lasts 6 (some .int) 2 [.ref (wad (WX g) 4), .int a1, .int a2, .int a3, .int a4] M (some (.int r0), M) := by
  refine Ct.of (by decide) (Nat.le_of_ble_eq_true rfl) (fun Y hY E => ?_)
  have E : EV Y (WX g) cX3_lasts 6 (some .int) RX3 := E
  have h : FX3_lasts a1 a2 a3 a4 M = some r0 := h
  unfold FX3_lasts at h
  show AW Y (WX g) _ 6 2 0 [(0, .ref (wad (WX g) 4)), (1, .int a1), (2, .int a2), (3, .int a3), (4, .int a4)] [] M
  obtain ⟨r, hr⟩ : ∃ r : Option Value × Mem, r = (some (.int r0), M) := ⟨_, rfl⟩
  rw [← hr]
  refine aw_iconst (v := 1) E dX3_lasts_0 (by decide) ?_
  refine aw_bipush (v := 99) E dX3_lasts_1 (by decide) ?_
  refine aw_iload_n E dX3_lasts_3 3 rfl ?_
  refine aw_mmin E mlX3_31 (Nat.le_of_ble_eq_true rfl) (Nat.le_of_ble_eq_true rfl) dX3_lasts_4 ?_
  refine aw_mmax E mlX3_37 (Nat.le_of_ble_eq_true rfl) (Nat.le_of_ble_eq_true rfl) dX3_lasts_7 ?_
  obtain ⟨x1, e2, h⟩ := lt_e h
  refine aw_nmI e2 ?_
  refine aw_istore (L1 := [(5, .int x1), (0, .ref (wad (WX g) 4)), (1, .int a1), (2, .int a2), (3, .int a3), (4, .int a4)]) E dX3_lasts_10 (Nat.le_of_ble_eq_true rfl) rfl ?_
  refine aw_aload_n E dX3_lasts_12 1 rfl ?_
  refine aw_getR (q := 5) E flX3_9 (Nat.le_of_ble_eq_true rfl) rfl rfl dX3_lasts_13 ?_
  refine aw_iload_n E dX3_lasts_16 2 rfl ?_
  obtain ⟨g3, h⟩ := gi_e h
  refine aw_iald E (Nat.le_of_ble_eq_true rfl) rfl g3 dX3_lasts_17 ?_
  refine aw_iconst (v := 2) E dX3_lasts_18 (by decide) ?_
  obtain ⟨b4, e5, h⟩ := bd_e h
  obtain ⟨q6, e7, h⟩ := lt_e h
  have J8 : AW Y (WX g) r 6 2 38 [(0, .ref (wad (WX g) 4)), (1, .int a1), (4, .int a4), (5, .int q6)] [] M := by
    refine aw_aload_n E dX3_lasts_38 0 rfl ?_
    refine aw_getR (q := 5) E flX3_9 (Nat.le_of_ble_eq_true rfl) rfl rfl dX3_lasts_39 ?_
    refine aw_iload_n E dX3_lasts_42 1 rfl ?_
    obtain ⟨g9, h⟩ := gi_e h
    refine aw_iald E (Nat.le_of_ble_eq_true rfl) rfl g9 dX3_lasts_43 ?_
    refine aw_iconst (v := 4) E dX3_lasts_44 (by decide) ?_
    obtain ⟨b10, e11, h⟩ := lt_e h
    obtain ⟨q12, e13, h⟩ := bd_e h
    have J14 : AW Y (WX g) r 6 2 66 [(5, .int q12)] [] M := by
      refine aw_bipush (v := 99) E dX3_lasts_66 (by decide) ?_
      refine aw_iload E dX3_lasts_68 0 rfl ?_
      refine aw_mmin E mlX3_31 (Nat.le_of_ble_eq_true rfl) (Nat.le_of_ble_eq_true rfl) dX3_lasts_70 ?_
      replace h := Option.some.inj h
      subst h
      exact aw_iret E dX3_lasts_73 hr
    have J15 : b10 = true → AW Y (WX g) r 6 2 55 [(0, .ref (wad (WX g) 4)), (1, .int a1), (4, .int a4), (5, .int q6)] [] M := fun hb => by
      replace e13 := ip hb e13
      refine aw_iload E dX3_lasts_55 3 rfl ?_
      refine aw_aload_n E dX3_lasts_57 0 rfl ?_
      refine aw_getR (q := 9) E flX3_24 (Nat.le_of_ble_eq_true rfl) rfl rfl dX3_lasts_58 ?_
      refine aw_iload_n E dX3_lasts_61 1 rfl ?_
      obtain ⟨g17, e13⟩ := gi_e e13
      refine aw_iald E (Nat.le_of_ble_eq_true rfl) rfl g17 dX3_lasts_62 ?_
      refine aw_iadd E dX3_lasts_63 ?_
      obtain ⟨x18, e19, e13⟩ := lt_e e13
      refine aw_nmI e19 ?_
      refine aw_istore (L1 := [(5, .int x18), (0, .ref (wad (WX g) 4)), (1, .int a1), (4, .int a4)]) E dX3_lasts_64 (Nat.le_of_ble_eq_true rfl) rfl ?_
      refine aw_sub (L1 := [(5, .int x18)]) [0] rfl ?_
      replace e13 := Option.some.inj e13
      subst e13
      exact J14
    have J16 : b10 = false → AW Y (WX g) r 6 2 66 [(0, .ref (wad (WX g) 4)), (1, .int a1), (4, .int a4), (5, .int q6)] [] M := fun hb => by
      replace e13 := iq (bf hb) e13
      refine aw_sub (L1 := [(5, .int q6)]) [3] rfl ?_
      replace e13 := Option.some.inj e13
      subst e13
      exact J14
    refine aw_icmp_ne (tgt := 66) E dX3_lasts_45 rfl (fun c45 => ?_) (fun c45 => ?_)
    ·
      replace e11 := iq c45 e11
      subst e11
      exact J16 rfl
    ·
      replace e11 := ip c45 e11
      refine aw_iload E dX3_lasts_48 2 rfl ?_
      refine aw_bipush (v := 12) E dX3_lasts_50 (by decide) ?_
      refine aw_icmp_lt (tgt := 66) E dX3_lasts_52 rfl (fun c52 => ?_) (fun c52 => ?_)
      ·
        replace e11 := ip c52 e11
        subst e11
        exact J16 rfl
      ·
        replace e11 := iq c52 e11
        subst e11
        exact J15 rfl
  have J20 : b4 = true → AW Y (WX g) r 6 2 32 [(5, .int x1), (0, .ref (wad (WX g) 4)), (1, .int a1), (2, .int a2), (3, .int a3), (4, .int a4)] [] M := fun hb => by
    replace e7 := ip hb e7
    refine aw_iload E dX3_lasts_32 0 rfl ?_
    refine aw_iconst (v := 2) E dX3_lasts_34 (by decide) ?_
    refine aw_imul E dX3_lasts_35 ?_
    obtain ⟨x22, e23, e7⟩ := lt_e e7
    refine aw_nmI e23 ?_
    refine aw_istore (L1 := [(5, .int x22), (0, .ref (wad (WX g) 4)), (1, .int a1), (2, .int a2), (3, .int a3), (4, .int a4)]) E dX3_lasts_36 (Nat.le_of_ble_eq_true rfl) rfl ?_
    refine aw_sub (L1 := [(0, .ref (wad (WX g) 4)), (1, .int a1), (4, .int a4), (5, .int x22)]) [1, 2, 5, 0] rfl ?_
    subst e7
    exact J8
  have J21 : b4 = false → AW Y (WX g) r 6 2 38 [(5, .int x1), (0, .ref (wad (WX g) 4)), (1, .int a1), (2, .int a2), (3, .int a3), (4, .int a4)] [] M := fun hb => by
    replace e7 := iq (bf hb) e7
    refine aw_sub (L1 := [(0, .ref (wad (WX g) 4)), (1, .int a1), (4, .int a4), (5, .int x1)]) [1, 2, 5, 0] rfl ?_
    subst e7
    exact J8
  refine aw_icmp_ne (tgt := 38) E dX3_lasts_19 rfl (fun c19 => ?_) (fun c19 => ?_)
  ·
    replace e5 := iq c19 e5
    replace e5 := Option.some.inj e5
    subst e5
    exact J21 rfl
  ·
    replace e5 := ip c19 e5
    refine aw_iload_n E dX3_lasts_22 3 rfl ?_
    refine aw_aload_n E dX3_lasts_23 1 rfl ?_
    refine aw_getR (q := 7) E flX3_18 (Nat.le_of_ble_eq_true rfl) rfl rfl dX3_lasts_24 ?_
    refine aw_iload_n E dX3_lasts_27 2 rfl ?_
    obtain ⟨g24, e5⟩ := gi_e e5
    refine aw_iald E (Nat.le_of_ble_eq_true rfl) rfl g24 dX3_lasts_28 ?_
    refine aw_icmp_ne (tgt := 38) E dX3_lasts_29 rfl (fun c29 => ?_) (fun c29 => ?_)
    ·
      replace e5 := iq c29 e5
      replace e5 := Option.some.inj e5
      subst e5
      exact J21 rfl
    ·
      replace e5 := ip c29 e5
      replace e5 := Option.some.inj e5
      subst e5
      exact J20 rfl
def FX3_lets (a1 : Int32) (a2 : Int32) (a3 : Int32) (a4 : Int32) (M : Mem) : Option (Int32) :=
  gi a1 12 <|
  if (M.1 5 (Int32.toNatClampNeg a1)) = 1 then
    gi a1 12 <|
    if a2 = (M.1 6 (Int32.toNatClampNeg a1)) then
      some 1
    else
      some 0
  else if (M.1 5 (Int32.toNatClampNeg a1)) = 2 then
    if a3 = 0 then
      some 1
    else
      some 0
  else if (M.1 5 (Int32.toNatClampNeg a1)) = 3 then
    some 1
  else if (M.1 5 (Int32.toNatClampNeg a1)) = 4 then
    some 1
  else if (M.1 5 (Int32.toNatClampNeg a1)) = 5 then
    if 12 ≤ a4 then
      some 0
    else
      some 1
  else 
    some 1
set_option maxHeartbeats 4000000 in
set_option maxRecDepth 100000 in
theorem ctX3_lets (l : Launch) (g : CtxG) (a1 : Int32) (a2 : Int32) (a3 : Int32) (a4 : Int32) (M : Mem) (r0 : Int32) (h : FX3_lets a1 a2 a3 a4 M = some r0) : Ct l (WX g) yX3_lets cX3_lets 5 (some .boolean) 1 [.ref (wad (WX g) 4), .int a1, .int a2, .int a3, .int a4] M (some (.int r0), M) := by
  refine Ct.of (by decide) (Nat.le_of_ble_eq_true rfl) (fun Y hY E => ?_)
  have E : EV Y (WX g) cX3_lets 5 (some .boolean) RX3 := E
  have h : FX3_lets a1 a2 a3 a4 M = some r0 := h
  unfold FX3_lets at h
  show AW Y (WX g) _ 5 1 0 [(0, .ref (wad (WX g) 4)), (1, .int a1), (2, .int a2), (3, .int a3), (4, .int a4)] [] M
  obtain ⟨r, hr⟩ : ∃ r : Option Value × Mem, r = (some (.int r0), M) := ⟨_, rfl⟩
  rw [← hr]
  refine aw_aload_n E dX3_lets_0 0 rfl ?_
  refine aw_getR (q := 5) E flX3_9 (Nat.le_of_ble_eq_true rfl) rfl rfl dX3_lets_1 ?_
  refine aw_iload_n E dX3_lets_4 1 rfl ?_
  obtain ⟨g1, h⟩ := gi_e h
  refine aw_iald E (Nat.le_of_ble_eq_true rfl) rfl g1 dX3_lets_5 ?_
  by_cases c6_1 : (M.1 5 (Int32.toNatClampNeg a1)) = 1
  ·
    replace h := ip c6_1 h
    refine aw_tin (tgt := 40) (off := 34) E dX3_lets_6 (by rw [c6_1]; decide) (by rw [c6_1]; decide) (by rw [c6_1]; decide) (by decide) ?_
    refine aw_iload_n E dX3_lets_40 2 rfl ?_
    refine aw_aload_n E dX3_lets_41 0 rfl ?_
    refine aw_getR (q := 6) E flX3_15 (Nat.le_of_ble_eq_true rfl) rfl rfl dX3_lets_42 ?_
    refine aw_iload_n E dX3_lets_45 1 rfl ?_
    obtain ⟨g2, h⟩ := gi_e h
    refine aw_iald E (Nat.le_of_ble_eq_true rfl) rfl g2 dX3_lets_46 ?_
    refine aw_icmp_ne (tgt := 54) E dX3_lets_47 rfl (fun c47 => ?_) (fun c47 => ?_)
    ·
      replace h := iq c47 h
      refine aw_iconst (v := 0) E dX3_lets_54 (by decide) ?_
      replace h := Option.some.inj h
      subst h
      exact aw_zret E (by decide) dX3_lets_55 hr
    ·
      replace h := ip c47 h
      refine aw_iconst (v := 1) E dX3_lets_50 (by decide) ?_
      refine aw_goto (tgt := 55) E dX3_lets_51 rfl ?_
      replace h := Option.some.inj h
      subst h
      exact aw_zret E (by decide) dX3_lets_55 hr
  replace h := iq c6_1 h
  by_cases c6_2 : (M.1 5 (Int32.toNatClampNeg a1)) = 2
  ·
    replace h := ip c6_2 h
    refine aw_tin (tgt := 56) (off := 50) E dX3_lets_6 (by rw [c6_2]; decide) (by rw [c6_2]; decide) (by rw [c6_2]; decide) (by decide) ?_
    refine aw_iload_n E dX3_lets_56 3 rfl ?_
    refine aw_if_ne (tgt := 64) E dX3_lets_57 rfl (fun c57 => ?_) (fun c57 => ?_)
    ·
      replace h := iq c57 h
      refine aw_iconst (v := 0) E dX3_lets_64 (by decide) ?_
      replace h := Option.some.inj h
      subst h
      exact aw_zret E (by decide) dX3_lets_65 hr
    ·
      replace h := ip c57 h
      refine aw_iconst (v := 1) E dX3_lets_60 (by decide) ?_
      refine aw_goto (tgt := 65) E dX3_lets_61 rfl ?_
      replace h := Option.some.inj h
      subst h
      exact aw_zret E (by decide) dX3_lets_65 hr
  replace h := iq c6_2 h
  by_cases c6_3 : (M.1 5 (Int32.toNatClampNeg a1)) = 3
  ·
    replace h := ip c6_3 h
    refine aw_tin (tgt := 79) (off := 73) E dX3_lets_6 (by rw [c6_3]; decide) (by rw [c6_3]; decide) (by rw [c6_3]; decide) (by decide) ?_
    refine aw_iconst (v := 1) E dX3_lets_79 (by decide) ?_
    replace h := Option.some.inj h
    subst h
    exact aw_zret E (by decide) dX3_lets_80 hr
  replace h := iq c6_3 h
  by_cases c6_4 : (M.1 5 (Int32.toNatClampNeg a1)) = 4
  ·
    replace h := ip c6_4 h
    refine aw_tin (tgt := 79) (off := 73) E dX3_lets_6 (by rw [c6_4]; decide) (by rw [c6_4]; decide) (by rw [c6_4]; decide) (by decide) ?_
    refine aw_iconst (v := 1) E dX3_lets_79 (by decide) ?_
    replace h := Option.some.inj h
    subst h
    exact aw_zret E (by decide) dX3_lets_80 hr
  replace h := iq c6_4 h
  by_cases c6_5 : (M.1 5 (Int32.toNatClampNeg a1)) = 5
  ·
    replace h := ip c6_5 h
    refine aw_tin (tgt := 66) (off := 60) E dX3_lets_6 (by rw [c6_5]; decide) (by rw [c6_5]; decide) (by rw [c6_5]; decide) (by decide) ?_
    refine aw_iload E dX3_lets_66 4 rfl ?_
    refine aw_bipush (v := 12) E dX3_lets_68 (by decide) ?_
    refine aw_icmp_ge (tgt := 77) E dX3_lets_70 rfl (fun c70 => ?_) (fun c70 => ?_)
    ·
      replace h := ip c70 h
      refine aw_iconst (v := 0) E dX3_lets_77 (by decide) ?_
      replace h := Option.some.inj h
      subst h
      exact aw_zret E (by decide) dX3_lets_78 hr
    ·
      replace h := iq c70 h
      refine aw_iconst (v := 1) E dX3_lets_73 (by decide) ?_
      refine aw_goto (tgt := 78) E dX3_lets_74 rfl ?_
      replace h := Option.some.inj h
      subst h
      exact aw_zret E (by decide) dX3_lets_78 hr
  replace h := iq c6_5 h
  have nc6_1 := lv_neT (k := 1) (a := 1) c6_1 (by decide)
  have nc6_2 := lv_neT (k := 2) (a := 2) c6_2 (by decide)
  have nc6_3 := lv_neT (k := 3) (a := 3) c6_3 (by decide)
  have nc6_4 := lv_neT (k := 4) (a := 4) c6_4 (by decide)
  have nc6_5 := lv_neT (k := 5) (a := 5) c6_5 (by decide)
  refine aw_tout (tgt := 79) E dX3_lets_6 (by omega) (by decide) ?_
  refine aw_iconst (v := 1) E dX3_lets_79 (by decide) ?_
  replace h := Option.some.inj h
  subst h
  exact aw_zret E (by decide) dX3_lets_80 hr
def FX3_put (a1 : Int32) (a2 : Int32) (a3 : Int32) (a4 : Int32) (a5 : Int32) (a6 : Int32) (M : Mem) : Option (Mem) :=
  lt (α := Bool) (if a1 < 0 then true else if a1 < 12 then false else true) fun b1 =>
  if b1 = true then
    some M
  else
    gi a1 12 <|
    lt (wr M 5 (Int32.toNatClampNeg a1) a2) fun M6 =>
    gi a1 12 <|
    lt (wr M6 6 (Int32.toNatClampNeg a1) a3) fun M9 =>
    gi a1 12 <|
    lt (wr M9 7 (Int32.toNatClampNeg a1) a4) fun M12 =>
    gi a1 12 <|
    lt (wr M12 8 (Int32.toNatClampNeg a1) a5) fun M15 =>
    gi a1 12 <|
    lt (wr M15 9 (Int32.toNatClampNeg a1) a6) fun M18 =>
    some M18
set_option maxHeartbeats 4000000 in
set_option maxRecDepth 100000 in
theorem ctX3_put (l : Launch) (g : CtxG) (a1 : Int32) (a2 : Int32) (a3 : Int32) (a4 : Int32) (a5 : Int32) (a6 : Int32) (M : Mem) (r0 : Mem) (h : FX3_put a1 a2 a3 a4 a5 a6 M = some r0) : Ct l (WX g) yX3_put cX3_put 7 none 1 [.ref (wad (WX g) 4), .int a1, .int a2, .int a3, .int a4, .int a5, .int a6] M (none, r0) := by
  refine Ct.of (by decide) (Nat.le_of_ble_eq_true rfl) (fun Y hY E => ?_)
  have E : EV Y (WX g) cX3_put 7 none RX3 := E
  have h : FX3_put a1 a2 a3 a4 a5 a6 M = some r0 := h
  unfold FX3_put at h
  show AW Y (WX g) _ 7 1 0 [(0, .ref (wad (WX g) 4)), (1, .int a1), (2, .int a2), (3, .int a3), (4, .int a4), (5, .int a5), (6, .int a6)] [] M
  obtain ⟨r, hr⟩ : ∃ r : Option Value × Mem, r = (none, r0) := ⟨_, rfl⟩
  rw [← hr]
  refine aw_iload_n E dX3_put_0 1 rfl ?_
  obtain ⟨b1, e2, h⟩ := lt_e h
  have J3 : b1 = true → AW Y (WX g) r 7 1 10 [(0, .ref (wad (WX g) 4)), (1, .int a1), (2, .int a2), (3, .int a3), (4, .int a4), (5, .int a5), (6, .int a6)] [] M := fun hb => by
    replace h := ip hb h
    replace h := Option.some.inj h
    subst h
    exact aw_vret E dX3_put_10 hr
  have J4 : b1 = false → AW Y (WX g) r 7 1 11 [(0, .ref (wad (WX g) 4)), (1, .int a1), (2, .int a2), (3, .int a3), (4, .int a4), (5, .int a5), (6, .int a6)] [] M := fun hb => by
    replace h := iq (bf hb) h
    refine aw_aload_n E dX3_put_11 0 rfl ?_
    refine aw_getR (q := 5) E flX3_9 (Nat.le_of_ble_eq_true rfl) rfl rfl dX3_put_12 ?_
    refine aw_iload_n E dX3_put_15 1 rfl ?_
    refine aw_iload_n E dX3_put_16 2 rfl ?_
    obtain ⟨g5, h⟩ := gi_e h
    obtain ⟨M6, e7, h⟩ := lt_e h
    refine aw_iast1 e7 E (Nat.le_of_ble_eq_true rfl) rfl g5 dX3_put_17 ?_
    refine aw_aload_n E dX3_put_18 0 rfl ?_
    refine aw_getR (q := 6) E flX3_15 (Nat.le_of_ble_eq_true rfl) rfl rfl dX3_put_19 ?_
    refine aw_iload_n E dX3_put_22 1 rfl ?_
    refine aw_iload_n E dX3_put_23 3 rfl ?_
    obtain ⟨g8, h⟩ := gi_e h
    obtain ⟨M9, e10, h⟩ := lt_e h
    refine aw_iast1 e10 E (Nat.le_of_ble_eq_true rfl) rfl g8 dX3_put_24 ?_
    refine aw_aload_n E dX3_put_25 0 rfl ?_
    refine aw_getR (q := 7) E flX3_18 (Nat.le_of_ble_eq_true rfl) rfl rfl dX3_put_26 ?_
    refine aw_iload_n E dX3_put_29 1 rfl ?_
    refine aw_iload E dX3_put_30 4 rfl ?_
    obtain ⟨g11, h⟩ := gi_e h
    obtain ⟨M12, e13, h⟩ := lt_e h
    refine aw_iast1 e13 E (Nat.le_of_ble_eq_true rfl) rfl g11 dX3_put_32 ?_
    refine aw_aload_n E dX3_put_33 0 rfl ?_
    refine aw_getR (q := 8) E flX3_21 (Nat.le_of_ble_eq_true rfl) rfl rfl dX3_put_34 ?_
    refine aw_iload_n E dX3_put_37 1 rfl ?_
    refine aw_iload E dX3_put_38 5 rfl ?_
    obtain ⟨g14, h⟩ := gi_e h
    obtain ⟨M15, e16, h⟩ := lt_e h
    refine aw_iast1 e16 E (Nat.le_of_ble_eq_true rfl) rfl g14 dX3_put_40 ?_
    refine aw_aload_n E dX3_put_41 0 rfl ?_
    refine aw_getR (q := 9) E flX3_24 (Nat.le_of_ble_eq_true rfl) rfl rfl dX3_put_42 ?_
    refine aw_iload_n E dX3_put_45 1 rfl ?_
    refine aw_iload E dX3_put_46 6 rfl ?_
    obtain ⟨g17, h⟩ := gi_e h
    obtain ⟨M18, e19, h⟩ := lt_e h
    refine aw_iast1 e19 E (Nat.le_of_ble_eq_true rfl) rfl g17 dX3_put_48 ?_
    replace h := Option.some.inj h
    subst h
    exact aw_vret E dX3_put_49 hr
  refine aw_if_lt (tgt := 10) E dX3_put_1 rfl (fun c1 => ?_) (fun c1 => ?_)
  ·
    replace e2 := ip c1 e2
    subst e2
    exact J3 rfl
  ·
    replace e2 := iq c1 e2
    refine aw_iload_n E dX3_put_4 1 rfl ?_
    refine aw_bipush (v := 12) E dX3_put_5 (by decide) ?_
    refine aw_icmp_lt (tgt := 11) E dX3_put_7 rfl (fun c7 => ?_) (fun c7 => ?_)
    ·
      replace e2 := ip c7 e2
      subst e2
      exact J4 rfl
    ·
      replace e2 := iq c7 e2
      subst e2
      exact J3 rfl
def FX3_spentBy_L18 : Nat → Int32 → Int32 → Int32 → Int32 → Mem → Option (Int32)
  | 0, _, _, _, _, _ => none
  | f + 1, p1, p2, p3, p4, M =>
    if p2 ≤ p4 then
      some p3
    else
      ob (FX3_isA p4 3 M) fun q101 =>
      ob (α := Bool) (if q101 = 0 then
        some false
      else
        gi p4 12 <|
        gi p1 12 <|
        if (M.1 9 (Int32.toNatClampNeg p4)) = (M.1 9 (Int32.toNatClampNeg p1)) then some true else some false) fun b103 =>
      if b103 = true then
        lt (α := Int32) (p3 ||| ((1 : Int32) <<< (p4 &&& 31))) fun x107 =>
        lt (α := Int32) (p4 + 1) fun x109 =>
        FX3_spentBy_L18 f p1 p2 x107 x109 M
      else
        lt (α := Int32) (p4 + 1) fun x111 =>
        FX3_spentBy_L18 f p1 p2 p3 x111 M
def FX3_spentBy (a1 : Int32) (a2 : Int32) (M : Mem) : Option (Int32) :=
  lt (α := Int32) ((1 : Int32) <<< (a1 &&& 31)) fun x1 =>
  ob (FX3_isA a1 3 M) fun q3 =>
  if q3 = 0 then
    some x1
  else
    ob (FX3_spentBy_L18 FU a1 a2 x1 0 M) fun q5 =>
    some q5
set_option maxHeartbeats 4000000 in
set_option maxRecDepth 100000 in
theorem lpX3_spentBy_18 {Y : CtxM} {g : CtxG} {r : Option Value × Mem} (E : EV Y (WX g) cX3_spentBy 5 (some .int) RX3) (p1 : Int32) (p2 : Int32) : ∀ (f : Nat) (p3 : Int32) (p4 : Int32) (M : Mem) (q : Int32), FX3_spentBy_L18 f p1 p2 p3 p4 M = some q → AW Y (WX g) r 5 2 63 [(3, .int q)] [] M → AW Y (WX g) r 5 2 18 [(0, .ref (wad (WX g) 4)), (1, .int p1), (2, .int p2), (3, .int p3), (4, .int p4)] [] M := by
  intro f
  induction f with
  | zero => intro p3 p4 M q hh; exact absurd hh (fun z => nomatch (show (none : Option (Int32)) = some q from z))
  | succ f ih =>
    intro p3 p4 M q hh kx
    rw [FX3_spentBy_L18] at hh
    refine aw_iload E dX3_spentBy_18 4 rfl ?_
    refine aw_iload_n E dX3_spentBy_20 2 rfl ?_
    refine aw_icmp_ge (tgt := 63) E dX3_spentBy_21 rfl (fun c21 => ?_) (fun c21 => ?_)
    ·
      replace hh := ip c21 hh
      refine aw_sub (L1 := [(3, .int p3)]) [3] rfl ?_
      replace hh := Option.some.inj hh
      subst hh
      exact kx
    ·
      replace hh := iq c21 hh
      refine aw_aload_n E dX3_spentBy_24 0 rfl ?_
      refine aw_iload E dX3_spentBy_25 4 rfl ?_
      refine aw_iconst (v := 3) E dX3_spentBy_27 (by decide) ?_
      obtain ⟨q101, e102, hh⟩ := bd_e hh
      refine aw_callVi (S := []) E mvX3_isA mlX3_27 (Nat.le_of_ble_eq_true rfl) rfl rfl rfl (ctX3_isA (yl Y) g p4 3  M q101 e102) rfl (Nat.le_of_ble_eq_true rfl) (Nat.le_of_ble_eq_true rfl) dX3_spentBy_28 ?_
      obtain ⟨b103, e104, hh⟩ := bd_e hh
      have J105 : b103 = true → AW Y (WX g) r 5 2 50 [(0, .ref (wad (WX g) 4)), (1, .int p1), (2, .int p2), (3, .int p3), (4, .int p4)] [] M := fun hb => by
        replace hh := ip hb hh
        refine aw_iload_n E dX3_spentBy_50 3 rfl ?_
        refine aw_iconst (v := 1) E dX3_spentBy_51 (by decide) ?_
        refine aw_iload E dX3_spentBy_52 4 rfl ?_
        refine aw_ishl E dX3_spentBy_54 ?_
        refine aw_ior E dX3_spentBy_55 ?_
        obtain ⟨x107, e108, hh⟩ := lt_e hh
        refine aw_nmI e108 ?_
        refine aw_istore_n (L1 := [(3, .int x107), (0, .ref (wad (WX g) 4)), (1, .int p1), (2, .int p2), (4, .int p4)]) E dX3_spentBy_56 (Nat.le_of_ble_eq_true rfl) rfl ?_
        obtain ⟨x109, e110, hh⟩ := lt_e hh
        refine aw_iinc (v := x109) (L1 := [(4, .int x109), (3, .int x107), (0, .ref (wad (WX g) 4)), (1, .int p1), (2, .int p2)]) E dX3_spentBy_57 4 rfl e110 (Nat.le_of_ble_eq_true rfl) rfl ?_
        refine aw_goto (tgt := 18) E dX3_spentBy_60 rfl ?_
        refine aw_sub (L1 := [(0, .ref (wad (WX g) 4)), (1, .int p1), (2, .int p2), (3, .int x107), (4, .int x109)]) [2, 3, 4, 1, 0] rfl ?_
        exact ih x107 x109 M _ hh kx
      have J106 : b103 = false → AW Y (WX g) r 5 2 57 [(0, .ref (wad (WX g) 4)), (1, .int p1), (2, .int p2), (3, .int p3), (4, .int p4)] [] M := fun hb => by
        replace hh := iq (bf hb) hh
        obtain ⟨x111, e112, hh⟩ := lt_e hh
        refine aw_iinc (v := x111) (L1 := [(4, .int x111), (0, .ref (wad (WX g) 4)), (1, .int p1), (2, .int p2), (3, .int p3)]) E dX3_spentBy_57 4 rfl e112 (Nat.le_of_ble_eq_true rfl) rfl ?_
        refine aw_goto (tgt := 18) E dX3_spentBy_60 rfl ?_
        refine aw_sub (L1 := [(0, .ref (wad (WX g) 4)), (1, .int p1), (2, .int p2), (3, .int p3), (4, .int x111)]) [1, 2, 3, 4, 0] rfl ?_
        exact ih p3 x111 M _ hh kx
      refine aw_if_eq (tgt := 57) E dX3_spentBy_31 rfl (fun c31 => ?_) (fun c31 => ?_)
      ·
        replace e104 := ip c31 e104
        replace e104 := Option.some.inj e104
        subst e104
        exact J106 rfl
      ·
        replace e104 := iq c31 e104
        refine aw_aload_n E dX3_spentBy_34 0 rfl ?_
        refine aw_getR (q := 9) E flX3_24 (Nat.le_of_ble_eq_true rfl) rfl rfl dX3_spentBy_35 ?_
        refine aw_iload E dX3_spentBy_38 4 rfl ?_
        obtain ⟨g113, e104⟩ := gi_e e104
        refine aw_iald E (Nat.le_of_ble_eq_true rfl) rfl g113 dX3_spentBy_40 ?_
        refine aw_aload_n E dX3_spentBy_41 0 rfl ?_
        refine aw_getR (q := 9) E flX3_24 (Nat.le_of_ble_eq_true rfl) rfl rfl dX3_spentBy_42 ?_
        refine aw_iload_n E dX3_spentBy_45 1 rfl ?_
        obtain ⟨g114, e104⟩ := gi_e e104
        refine aw_iald E (Nat.le_of_ble_eq_true rfl) rfl g114 dX3_spentBy_46 ?_
        refine aw_icmp_ne (tgt := 57) E dX3_spentBy_47 rfl (fun c47 => ?_) (fun c47 => ?_)
        ·
          replace e104 := iq c47 e104
          replace e104 := Option.some.inj e104
          subst e104
          exact J106 rfl
        ·
          replace e104 := ip c47 e104
          replace e104 := Option.some.inj e104
          subst e104
          exact J105 rfl
set_option maxHeartbeats 4000000 in
set_option maxRecDepth 100000 in
theorem ctX3_spentBy (l : Launch) (g : CtxG) (a1 : Int32) (a2 : Int32) (M : Mem) (r0 : Int32) (h : FX3_spentBy a1 a2 M = some r0) : Ct l (WX g) yX3_spentBy cX3_spentBy 5 (some .int) 2 [.ref (wad (WX g) 4), .int a1, .int a2] M (some (.int r0), M) := by
  refine Ct.of (by decide) (Nat.le_of_ble_eq_true rfl) (fun Y hY E => ?_)
  have E : EV Y (WX g) cX3_spentBy 5 (some .int) RX3 := E
  have h : FX3_spentBy a1 a2 M = some r0 := h
  unfold FX3_spentBy at h
  show AW Y (WX g) _ 5 2 0 [(0, .ref (wad (WX g) 4)), (1, .int a1), (2, .int a2)] [] M
  obtain ⟨r, hr⟩ : ∃ r : Option Value × Mem, r = (some (.int r0), M) := ⟨_, rfl⟩
  rw [← hr]
  refine aw_iconst (v := 1) E dX3_spentBy_0 (by decide) ?_
  refine aw_iload_n E dX3_spentBy_1 1 rfl ?_
  refine aw_ishl E dX3_spentBy_2 ?_
  obtain ⟨x1, e2, h⟩ := lt_e h
  refine aw_nmI e2 ?_
  refine aw_istore_n (L1 := [(3, .int x1), (0, .ref (wad (WX g) 4)), (1, .int a1), (2, .int a2)]) E dX3_spentBy_3 (Nat.le_of_ble_eq_true rfl) rfl ?_
  refine aw_aload_n E dX3_spentBy_4 1 rfl ?_
  refine aw_iload_n E dX3_spentBy_5 2 rfl ?_
  refine aw_iconst (v := 3) E dX3_spentBy_6 (by decide) ?_
  obtain ⟨q3, e4, h⟩ := bd_e h
  refine aw_callVi (S := []) E mvX3_isA mlX3_27 (Nat.le_of_ble_eq_true rfl) rfl rfl rfl (ctX3_isA (yl Y) g a1 3  M q3 e4) rfl (Nat.le_of_ble_eq_true rfl) (Nat.le_of_ble_eq_true rfl) dX3_spentBy_7 ?_
  refine aw_if_ne (tgt := 15) E dX3_spentBy_10 rfl (fun c10 => ?_) (fun c10 => ?_)
  ·
    replace h := iq c10 h
    refine aw_iconst (v := 0) E dX3_spentBy_15 (by decide) ?_
    refine aw_istore (L1 := [(4, .int 0), (3, .int x1), (0, .ref (wad (WX g) 4)), (1, .int a1), (2, .int a2)]) E dX3_spentBy_16 (Nat.le_of_ble_eq_true rfl) rfl ?_
    obtain ⟨q5, e6, h⟩ := bd_e h
    refine aw_sub (L1 := [(0, .ref (wad (WX g) 4)), (1, .int a1), (2, .int a2), (3, .int x1), (4, .int 0)]) [2, 3, 4, 1, 0] rfl ?_
    refine lpX3_spentBy_18 E   a1 a2 FU x1 0 M q5 e6 ?_
    refine aw_iload_n E dX3_spentBy_63 0 rfl ?_
    replace h := Option.some.inj h
    subst h
    exact aw_iret E dX3_spentBy_64 hr
  ·
    replace h := ip c10 h
    refine aw_iload_n E dX3_spentBy_13 0 rfl ?_
    replace h := Option.some.inj h
    subst h
    exact aw_iret E dX3_spentBy_14 hr
