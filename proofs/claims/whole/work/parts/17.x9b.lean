/-! PRINTED by wip/gen: pure functions of the methods, and that the machine does what they say -/
def FX9_backward_L52 : Nat → Int32 → Int32 → Int32 → Int32 → Int32 → Int32 → Mem → Option (Mem)
  | 0, _, _, _, _, _, _, _ => none
  | f + 1, p1, p3, p4, p5, p6, p7, M =>
    if 9 ≤ p7 then
      some M
    else
      lt (α := Bool) (if p3 = 0 then false else if p7 = (M.1 0 0) then true else false) fun b101 =>
      lt (α := Int32) (if b101 = true then
        1
      else
        0) fun q103 =>
      ob (FX9_oddBy p3 M) fun q106 =>
      if (q106 ^^^ ((1 : Int32) <<< ((M.1 0 0) &&& 31))) = ((1 : Int32) <<< (p7 &&& 31)) then
        lt (α := Bool) (if q103 = 0 then false else if (p5 &&& p1) = p1 then true else false) fun b108 =>
        if b108 = true then
          gi ((9 * p3) + p7) 73728 <|
          lt (wr M 20 (Int32.toNatClampNeg ((9 * p3) + p7)) 0) fun M113 =>
          lt (α := Int32) (p7 + 1) fun x115 =>
          FX9_backward_L52 f p1 p3 p4 p5 p6 x115 M113
        else
          lt (α := Bool) (if q103 = 0 then false else if (M.1 0 2) = 1 then true else false) fun b117 =>
          ob (α := Int32) (if b117 = true then
            some (-1)
          else
            ob (FX9_restFrom p3 p7 p4 p5 p6 M) fun q129 =>
            some q129) fun q119 =>
          gi ((9 * p3) + p7) 73728 <|
          lt (wr M 20 (Int32.toNatClampNeg ((9 * p3) + p7)) q119) fun M123 =>
          lt (α := Int32) (p7 + 1) fun x125 =>
          FX9_backward_L52 f p1 p3 p4 p5 p6 x125 M123
      else
        gi ((9 * p3) + p7) 73728 <|
        lt (wr M 20 (Int32.toNatClampNeg ((9 * p3) + p7)) (-1)) fun M132 =>
        lt (α := Int32) (p7 + 1) fun x134 =>
        FX9_backward_L52 f p1 p3 p4 p5 p6 x134 M132
def FX9_backward_L9 : Nat → Int32 → Int32 → Int32 → Mem → Option (Mem)
  | 0, _, _, _, _ => none
  | f + 1, p1, p2, p3, M =>
    if p3 < 0 then
      some M
    else
      ob (FX9_spentBy p3 M) fun q101 =>
      ob (FX9_passedBy p3 M) fun q103 =>
      lt (α := Bool) (if p2 = (-1) then false else if ((q103 >>> (p2 &&& 31)) &&& 1) = 1 then true else false) fun b105 =>
      lt (α := Int32) (if b105 = true then
        1
      else
        0) fun q107 =>
      ob (FX9_backward_L52 FU p1 p3 q101 q103 q107 0 M) fun q110 =>
      lt (α := Int32) (p3 + (-1)) fun x112 =>
      FX9_backward_L9 f p1 p2 x112 q110
def FX9_backward (a1 : Int32) (a2 : Int32) (M : Mem) : Option (Mem) :=
  lt (α := Int32) (((1 : Int32) <<< ((M.1 0 40) &&& 31)) - 1) fun x1 =>
  ob (FX9_backward_L9 FU a1 a2 x1 M) fun q3 =>
  some q3
set_option maxHeartbeats 4000000 in
set_option maxRecDepth 100000 in
theorem lpX9_backward_52 {Y : CtxM} {g : CtxG} {r : Option Value × Mem} (E : EV Y (WY g) cX9_backward 9 none RX9) (p1 : Int32) (p2 : Int32) (p3 : Int32) (p4 : Int32) (p5 : Int32) (p6 : Int32) : ∀ (f : Nat) (p7 : Int32) (M : Mem) (q : Mem), FX9_backward_L52 f p1 p3 p4 p5 p6 p7 M = some q → AW Y (WY g) r 9 3 191 [(0, .ref (wad (WY g) 0)), (1, .int p1), (2, .int p2), (3, .int p3)] [] q → AW Y (WY g) r 9 3 52 [(0, .ref (wad (WY g) 0)), (1, .int p1), (2, .int p2), (3, .int p3), (4, .int p4), (5, .int p5), (6, .int p6), (7, .int p7)] [] M := by
  intro f
  induction f with
  | zero => intro p7 M q hh; exact absurd hh (fun z => nomatch (show (none : Option (Mem)) = some q from z))
  | succ f ih =>
    intro p7 M q hh kx
    rw [FX9_backward_L52] at hh
    refine aw_iload E dX9_backward_52 7 rfl ?_
    refine aw_bipush (v := 9) E dX9_backward_54 (by decide) ?_
    refine aw_icmp_ge (tgt := 191) E dX9_backward_56 rfl (fun c56 => ?_) (fun c56 => ?_)
    ·
      replace hh := ip c56 hh
      refine aw_sub (L1 := [(0, .ref (wad (WY g) 0)), (1, .int p1), (2, .int p2), (3, .int p3)]) [0, 1, 2, 3] rfl ?_
      replace hh := Option.some.inj hh
      subst hh
      exact kx
    ·
      replace hh := iq c56 hh
      refine aw_iload_n E dX9_backward_59 3 rfl ?_
      obtain ⟨b101, e102, hh⟩ := lt_e hh
      obtain ⟨q103, e104, hh⟩ := lt_e hh
      have J105 : AW Y (WY g) r 9 3 77 [(0, .ref (wad (WY g) 0)), (1, .int p1), (2, .int p2), (3, .int p3), (4, .int p4), (5, .int p5), (6, .int p6), (7, .int p7)] [.int q103] M := by
        refine aw_istore (L1 := [(8, .int q103), (0, .ref (wad (WY g) 0)), (1, .int p1), (2, .int p2), (3, .int p3), (4, .int p4), (5, .int p5), (6, .int p6), (7, .int p7)]) E dX9_backward_77 (Nat.le_of_ble_eq_true rfl) rfl ?_
        refine aw_aload_n E dX9_backward_79 1 rfl ?_
        refine aw_iload_n E dX9_backward_80 4 rfl ?_
        obtain ⟨q106, e107, hh⟩ := bd_e hh
        refine aw_callVi (S := []) E mvX9_oddBy mlX9_234 (Nat.le_of_ble_eq_true rfl) rfl rfl rfl (ctX9_oddBy (yl Y) g p3  M q106 e107) rfl (Nat.le_of_ble_eq_true rfl) (Nat.le_of_ble_eq_true rfl) dX9_backward_81 ?_
        refine aw_iconst (v := 1) E dX9_backward_84 (by decide) ?_
        refine aw_aload_n E dX9_backward_85 1 rfl ?_
        refine aw_getI E flX9_99 (Nat.le_of_ble_eq_true rfl) rfl rfl dX9_backward_86 ?_
        refine aw_ishl E dX9_backward_89 ?_
        refine aw_ixor E dX9_backward_90 ?_
        refine aw_iconst (v := 1) E dX9_backward_91 (by decide) ?_
        refine aw_iload E dX9_backward_92 8 rfl ?_
        refine aw_ishl E dX9_backward_94 ?_
        refine aw_icmp_eq (tgt := 114) E dX9_backward_95 rfl (fun c95 => ?_) (fun c95 => ?_)
        ·
          replace hh := ip c95 hh
          refine aw_iload E dX9_backward_114 0 rfl ?_
          obtain ⟨b108, e109, hh⟩ := lt_e hh
          have J110 : b108 = true → AW Y (WY g) r 9 3 127 [(8, .int q103), (0, .ref (wad (WY g) 0)), (1, .int p1), (2, .int p2), (3, .int p3), (4, .int p4), (5, .int p5), (6, .int p6), (7, .int p7)] [] M := fun hb => by
            replace hh := ip hb hh
            refine aw_aload_n E dX9_backward_127 1 rfl ?_
            refine aw_getR (q := 20) E flX9_72 (Nat.le_of_ble_eq_true rfl) rfl rfl dX9_backward_128 ?_
            refine aw_bipush (v := 9) E dX9_backward_131 (by decide) ?_
            refine aw_iload_n E dX9_backward_133 4 rfl ?_
            refine aw_imul E dX9_backward_134 ?_
            refine aw_iload E dX9_backward_135 8 rfl ?_
            refine aw_iadd E dX9_backward_137 ?_
            refine aw_iconst (v := 0) E dX9_backward_138 (by decide) ?_
            obtain ⟨g112, hh⟩ := gi_e hh
            obtain ⟨M113, e114, hh⟩ := lt_e hh
            refine aw_iast1 e114 E (Nat.le_of_ble_eq_true rfl) rfl g112 dX9_backward_139 ?_
            refine aw_goto (tgt := 185) E dX9_backward_140 rfl ?_
            obtain ⟨x115, e116, hh⟩ := lt_e hh
            refine aw_iinc (v := x115) (L1 := [(7, .int x115), (8, .int q103), (0, .ref (wad (WY g) 0)), (1, .int p1), (2, .int p2), (3, .int p3), (4, .int p4), (5, .int p5), (6, .int p6)]) E dX9_backward_185 8 rfl e116 (Nat.le_of_ble_eq_true rfl) rfl ?_
            refine aw_goto (tgt := 52) E dX9_backward_188 rfl ?_
            refine aw_sub (L1 := [(0, .ref (wad (WY g) 0)), (1, .int p1), (2, .int p2), (3, .int p3), (4, .int p4), (5, .int p5), (6, .int p6), (7, .int x115)]) [2, 3, 4, 5, 6, 7, 8, 0] rfl ?_
            exact ih x115 M113 _ hh kx
          have J111 : b108 = false → AW Y (WY g) r 9 3 143 [(8, .int q103), (0, .ref (wad (WY g) 0)), (1, .int p1), (2, .int p2), (3, .int p3), (4, .int p4), (5, .int p5), (6, .int p6), (7, .int p7)] [] M := fun hb => by
            replace hh := iq (bf hb) hh
            refine aw_aload_n E dX9_backward_143 1 rfl ?_
            refine aw_getR (q := 20) E flX9_72 (Nat.le_of_ble_eq_true rfl) rfl rfl dX9_backward_144 ?_
            refine aw_bipush (v := 9) E dX9_backward_147 (by decide) ?_
            refine aw_iload_n E dX9_backward_149 4 rfl ?_
            refine aw_imul E dX9_backward_150 ?_
            refine aw_iload E dX9_backward_151 8 rfl ?_
            refine aw_iadd E dX9_backward_153 ?_
            refine aw_iload E dX9_backward_154 0 rfl ?_
            obtain ⟨b117, e118, hh⟩ := lt_e hh
            obtain ⟨q119, e120, hh⟩ := bd_e hh
            have J121 : AW Y (WY g) r 9 3 184 [(0, .ref (wad (WY g) 0)), (1, .int p1), (2, .int p2), (3, .int p3), (4, .int p4), (5, .int p5), (6, .int p6), (7, .int p7)] [.int q119, .int ((9 * p3) + p7), .ref (wad (WY g) 20)] M := by
              obtain ⟨g122, hh⟩ := gi_e hh
              obtain ⟨M123, e124, hh⟩ := lt_e hh
              refine aw_iast1 e124 E (Nat.le_of_ble_eq_true rfl) rfl g122 dX9_backward_184 ?_
              obtain ⟨x125, e126, hh⟩ := lt_e hh
              refine aw_iinc (v := x125) (L1 := [(7, .int x125), (0, .ref (wad (WY g) 0)), (1, .int p1), (2, .int p2), (3, .int p3), (4, .int p4), (5, .int p5), (6, .int p6)]) E dX9_backward_185 7 rfl e126 (Nat.le_of_ble_eq_true rfl) rfl ?_
              refine aw_goto (tgt := 52) E dX9_backward_188 rfl ?_
              refine aw_sub (L1 := [(0, .ref (wad (WY g) 0)), (1, .int p1), (2, .int p2), (3, .int p3), (4, .int p4), (5, .int p5), (6, .int p6), (7, .int x125)]) [1, 2, 3, 4, 5, 6, 7, 0] rfl ?_
              exact ih x125 M123 _ hh kx
            have J127 : b117 = true → AW Y (WY g) r 9 3 167 [(8, .int q103), (0, .ref (wad (WY g) 0)), (1, .int p1), (2, .int p2), (3, .int p3), (4, .int p4), (5, .int p5), (6, .int p6), (7, .int p7)] [.int ((9 * p3) + p7), .ref (wad (WY g) 20)] M := fun hb => by
              replace e120 := ip hb e120
              refine aw_iconst (v := (-1)) E dX9_backward_167 (by decide) ?_
              refine aw_goto (tgt := 184) E dX9_backward_168 rfl ?_
              refine aw_sub (L1 := [(0, .ref (wad (WY g) 0)), (1, .int p1), (2, .int p2), (3, .int p3), (4, .int p4), (5, .int p5), (6, .int p6), (7, .int p7)]) [1, 2, 3, 4, 5, 6, 7, 8] rfl ?_
              replace e120 := Option.some.inj e120
              subst e120
              exact J121
            have J128 : b117 = false → AW Y (WY g) r 9 3 171 [(8, .int q103), (0, .ref (wad (WY g) 0)), (1, .int p1), (2, .int p2), (3, .int p3), (4, .int p4), (5, .int p5), (6, .int p6), (7, .int p7)] [.int ((9 * p3) + p7), .ref (wad (WY g) 20)] M := fun hb => by
              replace e120 := iq (bf hb) e120
              refine aw_aload_n E dX9_backward_171 1 rfl ?_
              refine aw_iload_n E dX9_backward_172 4 rfl ?_
              refine aw_iload E dX9_backward_173 8 rfl ?_
              refine aw_iload E dX9_backward_175 5 rfl ?_
              refine aw_iload E dX9_backward_177 6 rfl ?_
              refine aw_iload E dX9_backward_179 7 rfl ?_
              obtain ⟨q129, e130, e120⟩ := bd_e e120
              refine aw_callVi (S := [.int ((9 * p3) + p7), .ref (wad (WY g) 20)]) E mvX9_restFrom mlX9_237 (Nat.le_of_ble_eq_true rfl) rfl rfl rfl (ctX9_restFrom (yl Y) g p3 p7 p4 p5 p6  M q129 e130) rfl (Nat.le_of_ble_eq_true rfl) (Nat.le_of_ble_eq_true rfl) dX9_backward_181 ?_
              refine aw_sub (L1 := [(0, .ref (wad (WY g) 0)), (1, .int p1), (2, .int p2), (3, .int p3), (4, .int p4), (5, .int p5), (6, .int p6), (7, .int p7)]) [1, 2, 3, 4, 5, 6, 7, 8] rfl ?_
              replace e120 := Option.some.inj e120
              subst e120
              exact J121
            refine aw_if_eq (tgt := 171) E dX9_backward_156 rfl (fun c156 => ?_) (fun c156 => ?_)
            ·
              replace e118 := ip c156 e118
              subst e118
              exact J128 rfl
            ·
              replace e118 := iq c156 e118
              refine aw_aload_n E dX9_backward_159 1 rfl ?_
              refine aw_getI E flX9_102 (Nat.le_of_ble_eq_true rfl) rfl rfl dX9_backward_160 ?_
              refine aw_iconst (v := 1) E dX9_backward_163 (by decide) ?_
              refine aw_icmp_ne (tgt := 171) E dX9_backward_164 rfl (fun c164 => ?_) (fun c164 => ?_)
              ·
                replace e118 := iq c164 e118
                subst e118
                exact J128 rfl
              ·
                replace e118 := ip c164 e118
                subst e118
                exact J127 rfl
          refine aw_if_eq (tgt := 143) E dX9_backward_116 rfl (fun c116 => ?_) (fun c116 => ?_)
          ·
            replace e109 := ip c116 e109
            subst e109
            exact J111 rfl
          ·
            replace e109 := iq c116 e109
            refine aw_iload E dX9_backward_119 6 rfl ?_
            refine aw_iload_n E dX9_backward_121 2 rfl ?_
            refine aw_iand E dX9_backward_122 ?_
            refine aw_iload_n E dX9_backward_123 2 rfl ?_
            refine aw_icmp_ne (tgt := 143) E dX9_backward_124 rfl (fun c124 => ?_) (fun c124 => ?_)
            ·
              replace e109 := iq c124 e109
              subst e109
              exact J111 rfl
            ·
              replace e109 := ip c124 e109
              subst e109
              exact J110 rfl
        ·
          replace hh := iq c95 hh
          refine aw_aload_n E dX9_backward_98 1 rfl ?_
          refine aw_getR (q := 20) E flX9_72 (Nat.le_of_ble_eq_true rfl) rfl rfl dX9_backward_99 ?_
          refine aw_bipush (v := 9) E dX9_backward_102 (by decide) ?_
          refine aw_iload_n E dX9_backward_104 4 rfl ?_
          refine aw_imul E dX9_backward_105 ?_
          refine aw_iload E dX9_backward_106 8 rfl ?_
          refine aw_iadd E dX9_backward_108 ?_
          refine aw_iconst (v := (-1)) E dX9_backward_109 (by decide) ?_
          obtain ⟨g131, hh⟩ := gi_e hh
          obtain ⟨M132, e133, hh⟩ := lt_e hh
          refine aw_iast1 e133 E (Nat.le_of_ble_eq_true rfl) rfl g131 dX9_backward_110 ?_
          refine aw_goto (tgt := 185) E dX9_backward_111 rfl ?_
          obtain ⟨x134, e135, hh⟩ := lt_e hh
          refine aw_iinc (v := x134) (L1 := [(7, .int x134), (8, .int q103), (0, .ref (wad (WY g) 0)), (1, .int p1), (2, .int p2), (3, .int p3), (4, .int p4), (5, .int p5), (6, .int p6)]) E dX9_backward_185 8 rfl e135 (Nat.le_of_ble_eq_true rfl) rfl ?_
          refine aw_goto (tgt := 52) E dX9_backward_188 rfl ?_
          refine aw_sub (L1 := [(0, .ref (wad (WY g) 0)), (1, .int p1), (2, .int p2), (3, .int p3), (4, .int p4), (5, .int p5), (6, .int p6), (7, .int x134)]) [2, 3, 4, 5, 6, 7, 8, 0] rfl ?_
          exact ih x134 M132 _ hh kx
      have J136 : b101 = true → AW Y (WY g) r 9 3 72 [(0, .ref (wad (WY g) 0)), (1, .int p1), (2, .int p2), (3, .int p3), (4, .int p4), (5, .int p5), (6, .int p6), (7, .int p7)] [] M := fun hb => by
        replace e104 := ip hb e104
        refine aw_iconst (v := 1) E dX9_backward_72 (by decide) ?_
        refine aw_goto (tgt := 77) E dX9_backward_73 rfl ?_
        refine aw_sub (L1 := [(0, .ref (wad (WY g) 0)), (1, .int p1), (2, .int p2), (3, .int p3), (4, .int p4), (5, .int p5), (6, .int p6), (7, .int p7)]) [0, 1, 2, 3, 4, 5, 6, 7] rfl ?_
        subst e104
        exact J105
      have J137 : b101 = false → AW Y (WY g) r 9 3 76 [(0, .ref (wad (WY g) 0)), (1, .int p1), (2, .int p2), (3, .int p3), (4, .int p4), (5, .int p5), (6, .int p6), (7, .int p7)] [] M := fun hb => by
        replace e104 := iq (bf hb) e104
        refine aw_iconst (v := 0) E dX9_backward_76 (by decide) ?_
        refine aw_sub (L1 := [(0, .ref (wad (WY g) 0)), (1, .int p1), (2, .int p2), (3, .int p3), (4, .int p4), (5, .int p5), (6, .int p6), (7, .int p7)]) [0, 1, 2, 3, 4, 5, 6, 7] rfl ?_
        subst e104
        exact J105
      refine aw_if_eq (tgt := 76) E dX9_backward_60 rfl (fun c60 => ?_) (fun c60 => ?_)
      ·
        replace e102 := ip c60 e102
        subst e102
        exact J137 rfl
      ·
        replace e102 := iq c60 e102
        refine aw_iload E dX9_backward_63 7 rfl ?_
        refine aw_aload_n E dX9_backward_65 0 rfl ?_
        refine aw_getI E flX9_99 (Nat.le_of_ble_eq_true rfl) rfl rfl dX9_backward_66 ?_
        refine aw_icmp_ne (tgt := 76) E dX9_backward_69 rfl (fun c69 => ?_) (fun c69 => ?_)
        ·
          replace e102 := iq c69 e102
          subst e102
          exact J137 rfl
        ·
          replace e102 := ip c69 e102
          subst e102
          exact J136 rfl
set_option maxHeartbeats 4000000 in
set_option maxRecDepth 100000 in
theorem lpX9_backward_9 {Y : CtxM} {g : CtxG} {r : Option Value × Mem} (E : EV Y (WY g) cX9_backward 9 none RX9) (p1 : Int32) (p2 : Int32) : ∀ (f : Nat) (p3 : Int32) (M : Mem) (q : Mem), FX9_backward_L9 f p1 p2 p3 M = some q → AW Y (WY g) r 9 3 197 [] [] q → AW Y (WY g) r 9 3 9 [(0, .ref (wad (WY g) 0)), (1, .int p1), (2, .int p2), (3, .int p3)] [] M := by
  intro f
  induction f with
  | zero => intro p3 M q hh; exact absurd hh (fun z => nomatch (show (none : Option (Mem)) = some q from z))
  | succ f ih =>
    intro p3 M q hh kx
    rw [FX9_backward_L9] at hh
    refine aw_iload_n E dX9_backward_9 3 rfl ?_
    refine aw_if_lt (tgt := 197) E dX9_backward_10 rfl (fun c10 => ?_) (fun c10 => ?_)
    ·
      replace hh := ip c10 hh
      refine aw_sub (L1 := []) [] rfl ?_
      replace hh := Option.some.inj hh
      subst hh
      exact kx
    ·
      replace hh := iq c10 hh
      refine aw_aload_n E dX9_backward_13 0 rfl ?_
      refine aw_iload_n E dX9_backward_14 3 rfl ?_
      obtain ⟨q101, e102, hh⟩ := bd_e hh
      refine aw_callVi (S := []) E mvX9_spentBy mlX9_224 (Nat.le_of_ble_eq_true rfl) rfl rfl rfl (ctX9_spentBy (yl Y) g p3  M q101 e102) rfl (Nat.le_of_ble_eq_true rfl) (Nat.le_of_ble_eq_true rfl) dX9_backward_15 ?_
      refine aw_istore (L1 := [(4, .int q101), (0, .ref (wad (WY g) 0)), (1, .int p1), (2, .int p2), (3, .int p3)]) E dX9_backward_18 (Nat.le_of_ble_eq_true rfl) rfl ?_
      refine aw_aload_n E dX9_backward_20 1 rfl ?_
      refine aw_iload_n E dX9_backward_21 4 rfl ?_
      obtain ⟨q103, e104, hh⟩ := bd_e hh
      refine aw_callVi (S := []) E mvX9_passedBy mlX9_227 (Nat.le_of_ble_eq_true rfl) rfl rfl rfl (ctX9_passedBy (yl Y) g p3  M q103 e104) rfl (Nat.le_of_ble_eq_true rfl) (Nat.le_of_ble_eq_true rfl) dX9_backward_22 ?_
      refine aw_istore (L1 := [(5, .int q103), (4, .int q101), (0, .ref (wad (WY g) 0)), (1, .int p1), (2, .int p2), (3, .int p3)]) E dX9_backward_25 (Nat.le_of_ble_eq_true rfl) rfl ?_
      refine aw_iload_n E dX9_backward_27 4 rfl ?_
      refine aw_iconst (v := (-1)) E dX9_backward_28 (by decide) ?_
      obtain ⟨b105, e106, hh⟩ := lt_e hh
      obtain ⟨q107, e108, hh⟩ := lt_e hh
      have J109 : AW Y (WY g) r 9 3 47 [(0, .ref (wad (WY g) 0)), (1, .int p1), (2, .int p2), (3, .int p3), (4, .int q101), (5, .int q103)] [.int q107] M := by
        refine aw_istore (L1 := [(6, .int q107), (0, .ref (wad (WY g) 0)), (1, .int p1), (2, .int p2), (3, .int p3), (4, .int q101), (5, .int q103)]) E dX9_backward_47 (Nat.le_of_ble_eq_true rfl) rfl ?_
        refine aw_iconst (v := 0) E dX9_backward_49 (by decide) ?_
        refine aw_istore (L1 := [(7, .int 0), (6, .int q107), (0, .ref (wad (WY g) 0)), (1, .int p1), (2, .int p2), (3, .int p3), (4, .int q101), (5, .int q103)]) E dX9_backward_50 (Nat.le_of_ble_eq_true rfl) rfl ?_
        obtain ⟨q110, e111, hh⟩ := bd_e hh
        refine aw_sub (L1 := [(0, .ref (wad (WY g) 0)), (1, .int p1), (2, .int p2), (3, .int p3), (4, .int q101), (5, .int q103), (6, .int q107), (7, .int 0)]) [2, 3, 4, 5, 6, 7, 1, 0] rfl ?_
        refine lpX9_backward_52 E   p1 p2 p3 q101 q103 q107 FU 0 M q110 e111 ?_
        obtain ⟨x112, e113, hh⟩ := lt_e hh
        refine aw_iinc (v := x112) (L1 := [(3, .int x112), (0, .ref (wad (WY g) 0)), (1, .int p1), (2, .int p2)]) E dX9_backward_191 3 rfl e113 (Nat.le_of_ble_eq_true rfl) rfl ?_
        refine aw_goto (tgt := 9) E dX9_backward_194 rfl ?_
        refine aw_sub (L1 := [(0, .ref (wad (WY g) 0)), (1, .int p1), (2, .int p2), (3, .int x112)]) [1, 2, 3, 0] rfl ?_
        exact ih x112 q110 _ hh kx
      have J114 : b105 = true → AW Y (WY g) r 9 3 42 [(5, .int q103), (4, .int q101), (0, .ref (wad (WY g) 0)), (1, .int p1), (2, .int p2), (3, .int p3)] [] M := fun hb => by
        replace e108 := ip hb e108
        refine aw_iconst (v := 1) E dX9_backward_42 (by decide) ?_
        refine aw_goto (tgt := 47) E dX9_backward_43 rfl ?_
        refine aw_sub (L1 := [(0, .ref (wad (WY g) 0)), (1, .int p1), (2, .int p2), (3, .int p3), (4, .int q101), (5, .int q103)]) [2, 3, 4, 5, 1, 0] rfl ?_
        subst e108
        exact J109
      have J115 : b105 = false → AW Y (WY g) r 9 3 46 [(5, .int q103), (4, .int q101), (0, .ref (wad (WY g) 0)), (1, .int p1), (2, .int p2), (3, .int p3)] [] M := fun hb => by
        replace e108 := iq (bf hb) e108
        refine aw_iconst (v := 0) E dX9_backward_46 (by decide) ?_
        refine aw_sub (L1 := [(0, .ref (wad (WY g) 0)), (1, .int p1), (2, .int p2), (3, .int p3), (4, .int q101), (5, .int q103)]) [2, 3, 4, 5, 1, 0] rfl ?_
        subst e108
        exact J109
      refine aw_icmp_eq (tgt := 46) E dX9_backward_29 rfl (fun c29 => ?_) (fun c29 => ?_)
      ·
        replace e106 := ip c29 e106
        subst e106
        exact J115 rfl
      ·
        replace e106 := iq c29 e106
        refine aw_iload E dX9_backward_32 0 rfl ?_
        refine aw_iload_n E dX9_backward_34 4 rfl ?_
        refine aw_ishr E dX9_backward_35 ?_
        refine aw_iconst (v := 1) E dX9_backward_36 (by decide) ?_
        refine aw_iand E dX9_backward_37 ?_
        refine aw_iconst (v := 1) E dX9_backward_38 (by decide) ?_
        refine aw_icmp_ne (tgt := 46) E dX9_backward_39 rfl (fun c39 => ?_) (fun c39 => ?_)
        ·
          replace e106 := iq c39 e106
          subst e106
          exact J115 rfl
        ·
          replace e106 := ip c39 e106
          subst e106
          exact J114 rfl
set_option maxHeartbeats 4000000 in
set_option maxRecDepth 100000 in
theorem ctX9_backward (l : Launch) (g : CtxG) (a1 : Int32) (a2 : Int32) (M : Mem) (r0 : Mem) (h : FX9_backward a1 a2 M = some r0) : Ct l (WY g) yX9_backward cX9_backward 9 none 3 [.ref (wad (WY g) 0), .int a1, .int a2] M (none, r0) := by
  refine Ct.of (by decide) (Nat.le_of_ble_eq_true rfl) (fun Y hY E => ?_)
  have E : EV Y (WY g) cX9_backward 9 none RX9 := E
  have h : FX9_backward a1 a2 M = some r0 := h
  unfold FX9_backward at h
  show AW Y (WY g) _ 9 3 0 [(0, .ref (wad (WY g) 0)), (1, .int a1), (2, .int a2)] [] M
  obtain ⟨r, hr⟩ : ∃ r : Option Value × Mem, r = (none, r0) := ⟨_, rfl⟩
  rw [← hr]
  refine aw_iconst (v := 1) E dX9_backward_0 (by decide) ?_
  refine aw_aload_n E dX9_backward_1 0 rfl ?_
  refine aw_getI E flX9_211 (Nat.le_of_ble_eq_true rfl) rfl rfl dX9_backward_2 ?_
  refine aw_ishl E dX9_backward_5 ?_
  refine aw_iconst (v := 1) E dX9_backward_6 (by decide) ?_
  refine aw_isub E dX9_backward_7 ?_
  obtain ⟨x1, e2, h⟩ := lt_e h
  refine aw_nmI e2 ?_
  refine aw_istore_n (L1 := [(3, .int x1), (0, .ref (wad (WY g) 0)), (1, .int a1), (2, .int a2)]) E dX9_backward_8 (Nat.le_of_ble_eq_true rfl) rfl ?_
  obtain ⟨q3, e4, h⟩ := bd_e h
  refine aw_sub (L1 := [(0, .ref (wad (WY g) 0)), (1, .int a1), (2, .int a2), (3, .int x1)]) [1, 2, 3, 0] rfl ?_
  refine lpX9_backward_9 E   a1 a2 FU x1 M q3 e4 ?_
  replace h := Option.some.inj h
  subst h
  exact aw_vret E dX9_backward_197 hr
def FX9_isCorner (a0 : Int32) : Option (Int32) :=
  gd (FX9_in a0 0 8 = 0 ∨ FX9_in a0 0 8 = 1) <|
  some (FX9_in a0 0 8)
set_option maxHeartbeats 4000000 in
set_option maxRecDepth 100000 in
theorem ctX9_isCorner (l : Launch) (g : CtxG) (a0 : Int32) (M : Mem) (r0 : Int32) (h : FX9_isCorner a0 = some r0) : Ct l (WY g) yX9_isCorner cX9_isCorner 1 (some .boolean) 2 [.int a0] M (some (.int r0), M) := by
  refine Ct.of (by decide) (Nat.le_of_ble_eq_true rfl) (fun Y hY E => ?_)
  have E : EV Y (WY g) cX9_isCorner 1 (some .boolean) RX9 := E
  have h : FX9_isCorner a0 = some r0 := h
  unfold FX9_isCorner at h
  show AW Y (WY g) _ 1 2 0 [(0, .int a0)] [] M
  obtain ⟨r, hr⟩ : ∃ r : Option Value × Mem, r = (some (.int r0), M) := ⟨_, rfl⟩
  rw [← hr]
  refine aw_iload_n E dX9_isCorner_0 0 rfl ?_
  refine aw_iconst (v := 0) E dX9_isCorner_1 (by decide) ?_
  refine aw_bipush (v := 8) E dX9_isCorner_2 (by decide) ?_
  refine aw_callSi (S := []) E msX9_in mlX9_88 rfl (ctX9_in (yl Y) g a0 0 8  M ) rfl (Nat.le_of_ble_eq_true rfl) (Nat.le_of_ble_eq_true rfl) dX9_isCorner_4 ?_
  obtain ⟨g1, h⟩ := gd_e h
  replace h := Option.some.inj h
  subst h
  exact aw_zret E g1 dX9_isCorner_7 hr
def FX9_isOther (a1 : Int32) (M : Mem) : Option (Int32) :=
  ob (FX9_isCorner a1) fun q1 =>
  lt (α := Bool) (if q1 = 0 then false else if a1 = (M.1 0 0) then false else true) fun b3 =>
  if b3 = true then
    some 1
  else
    some 0
set_option maxHeartbeats 4000000 in
set_option maxRecDepth 100000 in
theorem ctX9_isOther (l : Launch) (g : CtxG) (a1 : Int32) (M : Mem) (r0 : Int32) (h : FX9_isOther a1 M = some r0) : Ct l (WY g) yX9_isOther cX9_isOther 2 (some .boolean) 3 [.ref (wad (WY g) 0), .int a1] M (some (.int r0), M) := by
  refine Ct.of (by decide) (Nat.le_of_ble_eq_true rfl) (fun Y hY E => ?_)
  have E : EV Y (WY g) cX9_isOther 2 (some .boolean) RX9 := E
  have h : FX9_isOther a1 M = some r0 := h
  unfold FX9_isOther at h
  show AW Y (WY g) _ 2 3 0 [(0, .ref (wad (WY g) 0)), (1, .int a1)] [] M
  obtain ⟨r, hr⟩ : ∃ r : Option Value × Mem, r = (some (.int r0), M) := ⟨_, rfl⟩
  rw [← hr]
  refine aw_iload_n E dX9_isOther_0 1 rfl ?_
  obtain ⟨q1, e2, h⟩ := bd_e h
  refine aw_callSi (S := []) E msX9_isCorner mlX9_254 rfl (ctX9_isCorner (yl Y) g a1  M q1 e2) rfl (Nat.le_of_ble_eq_true rfl) (Nat.le_of_ble_eq_true rfl) dX9_isOther_1 ?_
  obtain ⟨b3, e4, h⟩ := lt_e h
  have J5 : b3 = true → AW Y (WY g) r 2 3 15 [(0, .ref (wad (WY g) 0)), (1, .int a1)] [] M := fun hb => by
    replace h := ip hb h
    refine aw_iconst (v := 1) E dX9_isOther_15 (by decide) ?_
    refine aw_goto (tgt := 20) E dX9_isOther_16 rfl ?_
    replace h := Option.some.inj h
    subst h
    exact aw_zret E (by decide) dX9_isOther_20 hr
  have J6 : b3 = false → AW Y (WY g) r 2 3 19 [(0, .ref (wad (WY g) 0)), (1, .int a1)] [] M := fun hb => by
    replace h := iq (bf hb) h
    refine aw_iconst (v := 0) E dX9_isOther_19 (by decide) ?_
    replace h := Option.some.inj h
    subst h
    exact aw_zret E (by decide) dX9_isOther_20 hr
  refine aw_if_eq (tgt := 19) E dX9_isOther_4 rfl (fun c4 => ?_) (fun c4 => ?_)
  ·
    replace e4 := ip c4 e4
    subst e4
    exact J6 rfl
  ·
    replace e4 := iq c4 e4
    refine aw_iload_n E dX9_isOther_7 1 rfl ?_
    refine aw_aload_n E dX9_isOther_8 0 rfl ?_
    refine aw_getI E flX9_99 (Nat.le_of_ble_eq_true rfl) rfl rfl dX9_isOther_9 ?_
    refine aw_icmp_eq (tgt := 19) E dX9_isOther_12 rfl (fun c12 => ?_) (fun c12 => ?_)
    ·
      replace e4 := ip c12 e4
      subst e4
      exact J6 rfl
    ·
      replace e4 := iq c12 e4
      subst e4
      exact J5 rfl
def FX9_ringed_L4 : Nat → Int32 → Int32 → Int32 → Mem → Option (Int32)
  | 0, _, _, _, _ => none
  | f + 1, p1, p2, p3, M =>
    if ((1 : Int32) <<< ((M.1 0 40) &&& 31)) ≤ p3 then
      some p2
    else
      ob (α := Bool) (if (p3 &&& p1) = 0 then
        gi ((9 * p3) + (M.1 0 0)) 73728 <|
        if (M.1 19 (Int32.toNatClampNeg ((9 * p3) + (M.1 0 0)))) = (-1) then some false else some true
      else
        some false) fun b101 =>
      ob (α := Int32) (if b101 = true then
        ob (FX9_passedBy p3 M) fun q112 =>
        some q112
      else
        some 0) fun q103 =>
      lt (α := Int32) (p2 ||| q103) fun x106 =>
      lt (α := Int32) (p3 + 1) fun x108 =>
      FX9_ringed_L4 f p1 x106 x108 M
def FX9_ringed (a1 : Int32) (M : Mem) : Option (Int32) :=
  ob (FX9_ringed_L4 FU a1 0 1 M) fun q1 =>
  some (q1 &&& (((1 : Int32) <<< ((M.1 0 0) &&& 31)) ^^^ (-1)))
set_option maxHeartbeats 4000000 in
set_option maxRecDepth 100000 in
theorem lpX9_ringed_4 {Y : CtxM} {g : CtxG} {r : Option Value × Mem} (E : EV Y (WY g) cX9_ringed 4 (some .int) RX9) (p1 : Int32) : ∀ (f : Nat) (p2 : Int32) (p3 : Int32) (M : Mem) (q : Int32), FX9_ringed_L4 f p1 p2 p3 M = some q → AW Y (WY g) r 4 2 56 [(0, .ref (wad (WY g) 0)), (2, .int q)] [] M → AW Y (WY g) r 4 2 4 [(0, .ref (wad (WY g) 0)), (1, .int p1), (2, .int p2), (3, .int p3)] [] M := by
  intro f
  induction f with
  | zero => intro p2 p3 M q hh; exact absurd hh (fun z => nomatch (show (none : Option (Int32)) = some q from z))
  | succ f ih =>
    intro p2 p3 M q hh kx
    rw [FX9_ringed_L4] at hh
    refine aw_iload_n E dX9_ringed_4 3 rfl ?_
    refine aw_iconst (v := 1) E dX9_ringed_5 (by decide) ?_
    refine aw_aload_n E dX9_ringed_6 0 rfl ?_
    refine aw_getI E flX9_211 (Nat.le_of_ble_eq_true rfl) rfl rfl dX9_ringed_7 ?_
    refine aw_ishl E dX9_ringed_10 ?_
    refine aw_icmp_ge (tgt := 56) E dX9_ringed_11 rfl (fun c11 => ?_) (fun c11 => ?_)
    ·
      replace hh := ip c11 hh
      refine aw_sub (L1 := [(0, .ref (wad (WY g) 0)), (2, .int p2)]) [0, 2] rfl ?_
      replace hh := Option.some.inj hh
      subst hh
      exact kx
    ·
      replace hh := iq c11 hh
      refine aw_iload_n E dX9_ringed_14 2 rfl ?_
      refine aw_iload_n E dX9_ringed_15 3 rfl ?_
      refine aw_iload_n E dX9_ringed_16 1 rfl ?_
      refine aw_iand E dX9_ringed_17 ?_
      obtain ⟨b101, e102, hh⟩ := bd_e hh
      obtain ⟨q103, e104, hh⟩ := bd_e hh
      have J105 : AW Y (WY g) r 4 2 48 [(0, .ref (wad (WY g) 0)), (1, .int p1), (3, .int p3)] [.int q103, .int p2] M := by
        refine aw_ior E dX9_ringed_48 ?_
        obtain ⟨x106, e107, hh⟩ := lt_e hh
        refine aw_nmI e107 ?_
        refine aw_istore_n (L1 := [(2, .int x106), (0, .ref (wad (WY g) 0)), (1, .int p1), (3, .int p3)]) E dX9_ringed_49 (Nat.le_of_ble_eq_true rfl) rfl ?_
        obtain ⟨x108, e109, hh⟩ := lt_e hh
        refine aw_iinc (v := x108) (L1 := [(3, .int x108), (2, .int x106), (0, .ref (wad (WY g) 0)), (1, .int p1)]) E dX9_ringed_50 3 rfl e109 (Nat.le_of_ble_eq_true rfl) rfl ?_
        refine aw_goto (tgt := 4) E dX9_ringed_53 rfl ?_
        refine aw_sub (L1 := [(0, .ref (wad (WY g) 0)), (1, .int p1), (2, .int x106), (3, .int x108)]) [2, 3, 1, 0] rfl ?_
        exact ih x106 x108 M _ hh kx
      have J110 : b101 = true → AW Y (WY g) r 4 2 39 [(0, .ref (wad (WY g) 0)), (1, .int p1), (2, .int p2), (3, .int p3)] [.int p2] M := fun hb => by
        replace e104 := ip hb e104
        refine aw_aload_n E dX9_ringed_39 0 rfl ?_
        refine aw_iload_n E dX9_ringed_40 3 rfl ?_
        obtain ⟨q112, e113, e104⟩ := bd_e e104
        refine aw_callVi (S := [.int p2]) E mvX9_passedBy mlX9_227 (Nat.le_of_ble_eq_true rfl) rfl rfl rfl (ctX9_passedBy (yl Y) g p3  M q112 e113) rfl (Nat.le_of_ble_eq_true rfl) (Nat.le_of_ble_eq_true rfl) dX9_ringed_41 ?_
        refine aw_goto (tgt := 48) E dX9_ringed_44 rfl ?_
        refine aw_sub (L1 := [(0, .ref (wad (WY g) 0)), (1, .int p1), (3, .int p3)]) [0, 1, 3] rfl ?_
        replace e104 := Option.some.inj e104
        subst e104
        exact J105
      have J111 : b101 = false → AW Y (WY g) r 4 2 47 [(0, .ref (wad (WY g) 0)), (1, .int p1), (2, .int p2), (3, .int p3)] [.int p2] M := fun hb => by
        replace e104 := iq (bf hb) e104
        refine aw_iconst (v := 0) E dX9_ringed_47 (by decide) ?_
        refine aw_sub (L1 := [(0, .ref (wad (WY g) 0)), (1, .int p1), (3, .int p3)]) [0, 1, 3] rfl ?_
        replace e104 := Option.some.inj e104
        subst e104
        exact J105
      refine aw_if_ne (tgt := 47) E dX9_ringed_18 rfl (fun c18 => ?_) (fun c18 => ?_)
      ·
        replace e102 := iq c18 e102
        replace e102 := Option.some.inj e102
        subst e102
        exact J111 rfl
      ·
        replace e102 := ip c18 e102
        refine aw_aload_n E dX9_ringed_21 0 rfl ?_
        refine aw_getR (q := 19) E flX9_69 (Nat.le_of_ble_eq_true rfl) rfl rfl dX9_ringed_22 ?_
        refine aw_bipush (v := 9) E dX9_ringed_25 (by decide) ?_
        refine aw_iload_n E dX9_ringed_27 3 rfl ?_
        refine aw_imul E dX9_ringed_28 ?_
        refine aw_aload_n E dX9_ringed_29 0 rfl ?_
        refine aw_getI E flX9_99 (Nat.le_of_ble_eq_true rfl) rfl rfl dX9_ringed_30 ?_
        refine aw_iadd E dX9_ringed_33 ?_
        obtain ⟨g114, e102⟩ := gi_e e102
        refine aw_iald E (Nat.le_of_ble_eq_true rfl) rfl g114 dX9_ringed_34 ?_
        refine aw_iconst (v := (-1)) E dX9_ringed_35 (by decide) ?_
        refine aw_icmp_eq (tgt := 47) E dX9_ringed_36 rfl (fun c36 => ?_) (fun c36 => ?_)
        ·
          replace e102 := ip c36 e102
          replace e102 := Option.some.inj e102
          subst e102
          exact J111 rfl
        ·
          replace e102 := iq c36 e102
          replace e102 := Option.some.inj e102
          subst e102
          exact J110 rfl
set_option maxHeartbeats 4000000 in
set_option maxRecDepth 100000 in
theorem ctX9_ringed (l : Launch) (g : CtxG) (a1 : Int32) (M : Mem) (r0 : Int32) (h : FX9_ringed a1 M = some r0) : Ct l (WY g) yX9_ringed cX9_ringed 4 (some .int) 2 [.ref (wad (WY g) 0), .int a1] M (some (.int r0), M) := by
  refine Ct.of (by decide) (Nat.le_of_ble_eq_true rfl) (fun Y hY E => ?_)
  have E : EV Y (WY g) cX9_ringed 4 (some .int) RX9 := E
  have h : FX9_ringed a1 M = some r0 := h
  unfold FX9_ringed at h
  show AW Y (WY g) _ 4 2 0 [(0, .ref (wad (WY g) 0)), (1, .int a1)] [] M
  obtain ⟨r, hr⟩ : ∃ r : Option Value × Mem, r = (some (.int r0), M) := ⟨_, rfl⟩
  rw [← hr]
  refine aw_iconst (v := 0) E dX9_ringed_0 (by decide) ?_
  refine aw_istore_n (L1 := [(2, .int 0), (0, .ref (wad (WY g) 0)), (1, .int a1)]) E dX9_ringed_1 (Nat.le_of_ble_eq_true rfl) rfl ?_
  refine aw_iconst (v := 1) E dX9_ringed_2 (by decide) ?_
  refine aw_istore_n (L1 := [(3, .int 1), (2, .int 0), (0, .ref (wad (WY g) 0)), (1, .int a1)]) E dX9_ringed_3 (Nat.le_of_ble_eq_true rfl) rfl ?_
  obtain ⟨q1, e2, h⟩ := bd_e h
  refine aw_sub (L1 := [(0, .ref (wad (WY g) 0)), (1, .int a1), (2, .int 0), (3, .int 1)]) [2, 3, 1, 0] rfl ?_
  refine lpX9_ringed_4 E   a1 FU 0 1 M q1 e2 ?_
  refine aw_iload_n E dX9_ringed_56 1 rfl ?_
  refine aw_iconst (v := 1) E dX9_ringed_57 (by decide) ?_
  refine aw_aload_n E dX9_ringed_58 0 rfl ?_
  refine aw_getI E flX9_99 (Nat.le_of_ble_eq_true rfl) rfl rfl dX9_ringed_59 ?_
  refine aw_ishl E dX9_ringed_62 ?_
  refine aw_iconst (v := (-1)) E dX9_ringed_63 (by decide) ?_
  refine aw_ixor E dX9_ringed_64 ?_
  refine aw_iand E dX9_ringed_65 ?_
  replace h := Option.some.inj h
  subst h
  exact aw_iret E dX9_ringed_66 hr
def FX9_ringedNow  (M : Mem) : Option (Int32 × Mem) :=
  ob (FX9_looks 0 M) fun q1 =>
  ob (FX9_forward q1) fun q3 =>
  ob (FX9_ringed 0 q3) fun q5 =>
  some (q5, q3)
set_option maxHeartbeats 4000000 in
set_option maxRecDepth 100000 in
theorem ctX9_ringedNow (l : Launch) (g : CtxG)  (M : Mem) (r0 : Int32 × Mem) (h : FX9_ringedNow M = some r0) : Ct l (WY g) yX9_ringedNow cX9_ringedNow 1 (some .int) 5 [.ref (wad (WY g) 0)] M (some (.int r0.1), r0.2) := by
  refine Ct.of (by decide) (Nat.le_of_ble_eq_true rfl) (fun Y hY E => ?_)
  have E : EV Y (WY g) cX9_ringedNow 1 (some .int) RX9 := E
  have h : FX9_ringedNow  M = some r0 := h
  unfold FX9_ringedNow at h
  show AW Y (WY g) _ 1 5 0 [(0, .ref (wad (WY g) 0))] [] M
  obtain ⟨r, hr⟩ : ∃ r : Option Value × Mem, r = (some (.int r0.1), r0.2) := ⟨_, rfl⟩
  rw [← hr]
  refine aw_aload_n E dX9_ringedNow_0 0 rfl ?_
  refine aw_iconst (v := 0) E dX9_ringedNow_1 (by decide) ?_
  obtain ⟨q1, e2, h⟩ := bd_e h
  refine aw_callVv (S := []) E mvX9_looks mlX9_241 (Nat.le_of_ble_eq_true rfl) rfl rfl rfl (ctX9_looks (yl Y) g 0  M q1 e2) rfl (Nat.le_of_ble_eq_true rfl) (Nat.le_of_ble_eq_true rfl) dX9_ringedNow_2 ?_
  refine aw_aload_n E dX9_ringedNow_5 0 rfl ?_
  obtain ⟨q3, e4, h⟩ := bd_e h
  refine aw_callVv (S := []) E mvX9_forward mlX9_267 (Nat.le_of_ble_eq_true rfl) rfl rfl rfl (ctX9_forward (yl Y) g   q1 q3 e4) rfl (Nat.le_of_ble_eq_true rfl) (Nat.le_of_ble_eq_true rfl) dX9_ringedNow_6 ?_
  refine aw_aload_n E dX9_ringedNow_9 0 rfl ?_
  refine aw_iconst (v := 0) E dX9_ringedNow_10 (by decide) ?_
  obtain ⟨q5, e6, h⟩ := bd_e h
  refine aw_callVi (S := []) E mvX9_ringed mlX9_276 (Nat.le_of_ble_eq_true rfl) rfl rfl rfl (ctX9_ringed (yl Y) g 0  q3 q5 e6) rfl (Nat.le_of_ble_eq_true rfl) (Nat.le_of_ble_eq_true rfl) dX9_ringedNow_11 ?_
  replace h := Option.some.inj h
  subst h
  exact aw_iret E dX9_ringedNow_14 hr
def FX9_bars_L29 : Nat → Int32 → Int32 → Int32 → Mem → Option (Int32)
  | 0, _, _, _, _ => none
  | f + 1, p1, p2, p3, M =>
    if (M.1 0 3) ≤ p3 then
      some p2
    else
      ob (FX9_ringed ((1 : Int32) <<< (p3 &&& 31)) M) fun q101 =>
      lt (α := Int32) (if ((q101 >>> (p1 &&& 31)) &&& 1) = 0 then
        (1 : Int32) <<< (p3 &&& 31)
      else
        0) fun q103 =>
      lt (α := Int32) (p2 ||| q103) fun x106 =>
      lt (α := Int32) (p3 + 1) fun x108 =>
      FX9_bars_L29 f p1 x106 x108 M
def FX9_bars (a1 : Int32) (M : Mem) : Option (Int32 × Mem) :=
  ob (FX9_isOther a1 M) fun q1 =>
  if q1 = 0 then
    some ((-5), M)
  else
    ob (FX9_ringedNow M) fun q3 =>
    if ((q3.1 >>> (a1 &&& 31)) &&& 1) = 0 then
      some ((-3), q3.2)
    else
      ob (FX9_bars_L29 FU a1 0 0 q3.2) fun q5 =>
      some (q5, q3.2)
set_option maxHeartbeats 4000000 in
set_option maxRecDepth 100000 in
theorem lpX9_bars_29 {Y : CtxM} {g : CtxG} {r : Option Value × Mem} (E : EV Y (WY g) cX9_bars 4 (some .int) RX9) (p1 : Int32) : ∀ (f : Nat) (p2 : Int32) (p3 : Int32) (M : Mem) (q : Int32), FX9_bars_L29 f p1 p2 p3 M = some q → AW Y (WY g) r 4 6 67 [(2, .int q)] [] M → AW Y (WY g) r 4 6 29 [(0, .ref (wad (WY g) 0)), (1, .int p1), (2, .int p2), (3, .int p3)] [] M := by
  intro f
  induction f with
  | zero => intro p2 p3 M q hh; exact absurd hh (fun z => nomatch (show (none : Option (Int32)) = some q from z))
  | succ f ih =>
    intro p2 p3 M q hh kx
    rw [FX9_bars_L29] at hh
    refine aw_iload_n E dX9_bars_29 3 rfl ?_
    refine aw_aload_n E dX9_bars_30 0 rfl ?_
    refine aw_getI E flX9_92 (Nat.le_of_ble_eq_true rfl) rfl rfl dX9_bars_31 ?_
    refine aw_icmp_ge (tgt := 67) E dX9_bars_34 rfl (fun c34 => ?_) (fun c34 => ?_)
    ·
      replace hh := ip c34 hh
      refine aw_sub (L1 := [(2, .int p2)]) [2] rfl ?_
      replace hh := Option.some.inj hh
      subst hh
      exact kx
    ·
      replace hh := iq c34 hh
      refine aw_iload_n E dX9_bars_37 2 rfl ?_
      refine aw_aload_n E dX9_bars_38 0 rfl ?_
      refine aw_iconst (v := 1) E dX9_bars_39 (by decide) ?_
      refine aw_iload_n E dX9_bars_40 3 rfl ?_
      refine aw_ishl E dX9_bars_41 ?_
      obtain ⟨q101, e102, hh⟩ := bd_e hh
      refine aw_callVi (S := [.int p2]) E mvX9_ringed mlX9_276 (Nat.le_of_ble_eq_true rfl) rfl rfl rfl (ctX9_ringed (yl Y) g ((1 : Int32) <<< (p3 &&& 31))  M q101 e102) rfl (Nat.le_of_ble_eq_true rfl) (Nat.le_of_ble_eq_true rfl) dX9_bars_42 ?_
      refine aw_iload_n E dX9_bars_45 1 rfl ?_
      refine aw_ishr E dX9_bars_46 ?_
      refine aw_iconst (v := 1) E dX9_bars_47 (by decide) ?_
      refine aw_iand E dX9_bars_48 ?_
      obtain ⟨q103, e104, hh⟩ := lt_e hh
      have J105 : AW Y (WY g) r 4 6 59 [(0, .ref (wad (WY g) 0)), (1, .int p1), (3, .int p3)] [.int q103, .int p2] M := by
        refine aw_ior E dX9_bars_59 ?_
        obtain ⟨x106, e107, hh⟩ := lt_e hh
        refine aw_nmI e107 ?_
        refine aw_istore_n (L1 := [(2, .int x106), (0, .ref (wad (WY g) 0)), (1, .int p1), (3, .int p3)]) E dX9_bars_60 (Nat.le_of_ble_eq_true rfl) rfl ?_
        obtain ⟨x108, e109, hh⟩ := lt_e hh
        refine aw_iinc (v := x108) (L1 := [(3, .int x108), (2, .int x106), (0, .ref (wad (WY g) 0)), (1, .int p1)]) E dX9_bars_61 3 rfl e109 (Nat.le_of_ble_eq_true rfl) rfl ?_
        refine aw_goto (tgt := 29) E dX9_bars_64 rfl ?_
        refine aw_sub (L1 := [(0, .ref (wad (WY g) 0)), (1, .int p1), (2, .int x106), (3, .int x108)]) [2, 3, 1, 0] rfl ?_
        exact ih x106 x108 M _ hh kx
      refine aw_if_ne (tgt := 58) E dX9_bars_49 rfl (fun c49 => ?_) (fun c49 => ?_)
      ·
        replace e104 := iq c49 e104
        refine aw_iconst (v := 0) E dX9_bars_58 (by decide) ?_
        refine aw_sub (L1 := [(0, .ref (wad (WY g) 0)), (1, .int p1), (3, .int p3)]) [0, 1, 3] rfl ?_
        subst e104
        exact J105
      ·
        replace e104 := ip c49 e104
        refine aw_iconst (v := 1) E dX9_bars_52 (by decide) ?_
        refine aw_iload_n E dX9_bars_53 3 rfl ?_
        refine aw_ishl E dX9_bars_54 ?_
        refine aw_goto (tgt := 59) E dX9_bars_55 rfl ?_
        refine aw_sub (L1 := [(0, .ref (wad (WY g) 0)), (1, .int p1), (3, .int p3)]) [0, 1, 3] rfl ?_
        subst e104
        exact J105
set_option maxHeartbeats 4000000 in
set_option maxRecDepth 100000 in
theorem ctX9_bars (l : Launch) (g : CtxG) (a1 : Int32) (M : Mem) (r0 : Int32 × Mem) (h : FX9_bars a1 M = some r0) : Ct l (WY g) yX9_bars cX9_bars 4 (some .int) 6 [.ref (wad (WY g) 0), .int a1] M (some (.int r0.1), r0.2) := by
  refine Ct.of (by decide) (Nat.le_of_ble_eq_true rfl) (fun Y hY E => ?_)
  have E : EV Y (WY g) cX9_bars 4 (some .int) RX9 := E
  have h : FX9_bars a1 M = some r0 := h
  unfold FX9_bars at h
  show AW Y (WY g) _ 4 6 0 [(0, .ref (wad (WY g) 0)), (1, .int a1)] [] M
  obtain ⟨r, hr⟩ : ∃ r : Option Value × Mem, r = (some (.int r0.1), r0.2) := ⟨_, rfl⟩
  rw [← hr]
  refine aw_aload_n E dX9_bars_0 0 rfl ?_
  refine aw_iload_n E dX9_bars_1 1 rfl ?_
  obtain ⟨q1, e2, h⟩ := bd_e h
  refine aw_callVi (S := []) E mvX9_isOther mlX9_257 (Nat.le_of_ble_eq_true rfl) rfl rfl rfl (ctX9_isOther (yl Y) g a1  M q1 e2) rfl (Nat.le_of_ble_eq_true rfl) (Nat.le_of_ble_eq_true rfl) dX9_bars_2 ?_
  refine aw_if_ne (tgt := 11) E dX9_bars_5 rfl (fun c5 => ?_) (fun c5 => ?_)
  ·
    replace h := iq c5 h
    refine aw_aload_n E dX9_bars_11 0 rfl ?_
    obtain ⟨q3, e4, h⟩ := bd_e h
    refine aw_callVi (S := []) E mvX9_ringedNow mlX9_279 (Nat.le_of_ble_eq_true rfl) rfl rfl rfl (ctX9_ringedNow (yl Y) g   M q3 e4) rfl (Nat.le_of_ble_eq_true rfl) (Nat.le_of_ble_eq_true rfl) dX9_bars_12 ?_
    refine aw_iload_n E dX9_bars_15 1 rfl ?_
    refine aw_ishr E dX9_bars_16 ?_
    refine aw_iconst (v := 1) E dX9_bars_17 (by decide) ?_
    refine aw_iand E dX9_bars_18 ?_
    refine aw_if_ne (tgt := 25) E dX9_bars_19 rfl (fun c19 => ?_) (fun c19 => ?_)
    ·
      replace h := iq c19 h
      refine aw_iconst (v := 0) E dX9_bars_25 (by decide) ?_
      refine aw_istore_n (L1 := [(2, .int 0), (0, .ref (wad (WY g) 0)), (1, .int a1)]) E dX9_bars_26 (Nat.le_of_ble_eq_true rfl) rfl ?_
      refine aw_iconst (v := 0) E dX9_bars_27 (by decide) ?_
      refine aw_istore_n (L1 := [(3, .int 0), (2, .int 0), (0, .ref (wad (WY g) 0)), (1, .int a1)]) E dX9_bars_28 (Nat.le_of_ble_eq_true rfl) rfl ?_
      obtain ⟨q5, e6, h⟩ := bd_e h
      refine aw_sub (L1 := [(0, .ref (wad (WY g) 0)), (1, .int a1), (2, .int 0), (3, .int 0)]) [2, 3, 1, 0] rfl ?_
      refine lpX9_bars_29 E   a1 FU 0 0 q3.2 q5 e6 ?_
      refine aw_iload_n E dX9_bars_67 0 rfl ?_
      replace h := Option.some.inj h
      subst h
      exact aw_iret E dX9_bars_68 hr
    ·
      replace h := ip c19 h
      refine aw_bipush (v := (-3)) E dX9_bars_22 (by decide) ?_
      replace h := Option.some.inj h
      subst h
      exact aw_iret E dX9_bars_24 hr
  ·
    replace h := ip c5 h
    refine aw_bipush (v := (-5)) E dX9_bars_8 (by decide) ?_
    replace h := Option.some.inj h
    subst h
    exact aw_iret E dX9_bars_10 hr
def FX9_bears_L9 : Nat → Int32 → Int32 → Int32 → Mem → Option (Int32)
  | 0, _, _, _, _ => none
  | f + 1, p1, p2, p3, M =>
    if (M.1 0 3) ≤ p3 then
      some p2
    else
      ob (FX9_ringed ((1 : Int32) <<< (p3 &&& 31)) M) fun q101 =>
      lt (α := Int32) (if q101 = p1 then
        0
      else
        (1 : Int32) <<< (p3 &&& 31)) fun q103 =>
      lt (α := Int32) (p2 ||| q103) fun x106 =>
      lt (α := Int32) (p3 + 1) fun x108 =>
      FX9_bears_L9 f p1 x106 x108 M
def FX9_bears  (M : Mem) : Option (Int32 × Mem) :=
  ob (FX9_ringedNow M) fun q1 =>
  ob (FX9_bears_L9 FU q1.1 0 0 q1.2) fun q3 =>
  some (q3, q1.2)
set_option maxHeartbeats 4000000 in
set_option maxRecDepth 100000 in
theorem lpX9_bears_9 {Y : CtxM} {g : CtxG} {r : Option Value × Mem} (E : EV Y (WY g) cX9_bears 4 (some .int) RX9) (p1 : Int32) : ∀ (f : Nat) (p2 : Int32) (p3 : Int32) (M : Mem) (q : Int32), FX9_bears_L9 f p1 p2 p3 M = some q → AW Y (WY g) r 4 6 44 [(2, .int q)] [] M → AW Y (WY g) r 4 6 9 [(0, .ref (wad (WY g) 0)), (1, .int p1), (2, .int p2), (3, .int p3)] [] M := by
  intro f
  induction f with
  | zero => intro p2 p3 M q hh; exact absurd hh (fun z => nomatch (show (none : Option (Int32)) = some q from z))
  | succ f ih =>
    intro p2 p3 M q hh kx
    rw [FX9_bears_L9] at hh
    refine aw_iload_n E dX9_bears_9 3 rfl ?_
    refine aw_aload_n E dX9_bears_10 0 rfl ?_
    refine aw_getI E flX9_92 (Nat.le_of_ble_eq_true rfl) rfl rfl dX9_bears_11 ?_
    refine aw_icmp_ge (tgt := 44) E dX9_bears_14 rfl (fun c14 => ?_) (fun c14 => ?_)
    ·
      replace hh := ip c14 hh
      refine aw_sub (L1 := [(2, .int p2)]) [2] rfl ?_
      replace hh := Option.some.inj hh
      subst hh
      exact kx
    ·
      replace hh := iq c14 hh
      refine aw_iload_n E dX9_bears_17 2 rfl ?_
      refine aw_aload_n E dX9_bears_18 0 rfl ?_
      refine aw_iconst (v := 1) E dX9_bears_19 (by decide) ?_
      refine aw_iload_n E dX9_bears_20 3 rfl ?_
      refine aw_ishl E dX9_bears_21 ?_
      obtain ⟨q101, e102, hh⟩ := bd_e hh
      refine aw_callVi (S := [.int p2]) E mvX9_ringed mlX9_276 (Nat.le_of_ble_eq_true rfl) rfl rfl rfl (ctX9_ringed (yl Y) g ((1 : Int32) <<< (p3 &&& 31))  M q101 e102) rfl (Nat.le_of_ble_eq_true rfl) (Nat.le_of_ble_eq_true rfl) dX9_bears_22 ?_
      refine aw_iload_n E dX9_bears_25 1 rfl ?_
      obtain ⟨q103, e104, hh⟩ := lt_e hh
      have J105 : AW Y (WY g) r 4 6 36 [(0, .ref (wad (WY g) 0)), (1, .int p1), (3, .int p3)] [.int q103, .int p2] M := by
        refine aw_ior E dX9_bears_36 ?_
        obtain ⟨x106, e107, hh⟩ := lt_e hh
        refine aw_nmI e107 ?_
        refine aw_istore_n (L1 := [(2, .int x106), (0, .ref (wad (WY g) 0)), (1, .int p1), (3, .int p3)]) E dX9_bears_37 (Nat.le_of_ble_eq_true rfl) rfl ?_
        obtain ⟨x108, e109, hh⟩ := lt_e hh
        refine aw_iinc (v := x108) (L1 := [(3, .int x108), (2, .int x106), (0, .ref (wad (WY g) 0)), (1, .int p1)]) E dX9_bears_38 3 rfl e109 (Nat.le_of_ble_eq_true rfl) rfl ?_
        refine aw_goto (tgt := 9) E dX9_bears_41 rfl ?_
        refine aw_sub (L1 := [(0, .ref (wad (WY g) 0)), (1, .int p1), (2, .int x106), (3, .int x108)]) [2, 3, 1, 0] rfl ?_
        exact ih x106 x108 M _ hh kx
      refine aw_icmp_eq (tgt := 35) E dX9_bears_26 rfl (fun c26 => ?_) (fun c26 => ?_)
      ·
        replace e104 := ip c26 e104
        refine aw_iconst (v := 0) E dX9_bears_35 (by decide) ?_
        refine aw_sub (L1 := [(0, .ref (wad (WY g) 0)), (1, .int p1), (3, .int p3)]) [0, 1, 3] rfl ?_
        subst e104
        exact J105
      ·
        replace e104 := iq c26 e104
        refine aw_iconst (v := 1) E dX9_bears_29 (by decide) ?_
        refine aw_iload_n E dX9_bears_30 3 rfl ?_
        refine aw_ishl E dX9_bears_31 ?_
        refine aw_goto (tgt := 36) E dX9_bears_32 rfl ?_
        refine aw_sub (L1 := [(0, .ref (wad (WY g) 0)), (1, .int p1), (3, .int p3)]) [0, 1, 3] rfl ?_
        subst e104
        exact J105
set_option maxHeartbeats 4000000 in
set_option maxRecDepth 100000 in
theorem ctX9_bears (l : Launch) (g : CtxG)  (M : Mem) (r0 : Int32 × Mem) (h : FX9_bears M = some r0) : Ct l (WY g) yX9_bears cX9_bears 4 (some .int) 6 [.ref (wad (WY g) 0)] M (some (.int r0.1), r0.2) := by
  refine Ct.of (by decide) (Nat.le_of_ble_eq_true rfl) (fun Y hY E => ?_)
  have E : EV Y (WY g) cX9_bears 4 (some .int) RX9 := E
  have h : FX9_bears  M = some r0 := h
  unfold FX9_bears at h
  show AW Y (WY g) _ 4 6 0 [(0, .ref (wad (WY g) 0))] [] M
  obtain ⟨r, hr⟩ : ∃ r : Option Value × Mem, r = (some (.int r0.1), r0.2) := ⟨_, rfl⟩
  rw [← hr]
  refine aw_aload_n E dX9_bears_0 0 rfl ?_
  obtain ⟨q1, e2, h⟩ := bd_e h
  refine aw_callVi (S := []) E mvX9_ringedNow mlX9_279 (Nat.le_of_ble_eq_true rfl) rfl rfl rfl (ctX9_ringedNow (yl Y) g   M q1 e2) rfl (Nat.le_of_ble_eq_true rfl) (Nat.le_of_ble_eq_true rfl) dX9_bears_1 ?_
  refine aw_istore_n (L1 := [(1, .int q1.1), (0, .ref (wad (WY g) 0))]) E dX9_bears_4 (Nat.le_of_ble_eq_true rfl) rfl ?_
  refine aw_iconst (v := 0) E dX9_bears_5 (by decide) ?_
  refine aw_istore_n (L1 := [(2, .int 0), (1, .int q1.1), (0, .ref (wad (WY g) 0))]) E dX9_bears_6 (Nat.le_of_ble_eq_true rfl) rfl ?_
  refine aw_iconst (v := 0) E dX9_bears_7 (by decide) ?_
  refine aw_istore_n (L1 := [(3, .int 0), (2, .int 0), (1, .int q1.1), (0, .ref (wad (WY g) 0))]) E dX9_bears_8 (Nat.le_of_ble_eq_true rfl) rfl ?_
  obtain ⟨q3, e4, h⟩ := bd_e h
  refine aw_sub (L1 := [(0, .ref (wad (WY g) 0)), (1, .int q1.1), (2, .int 0), (3, .int 0)]) [3, 2, 1, 0] rfl ?_
  refine lpX9_bears_9 E   q1.1 FU 0 0 q1.2 q3 e4 ?_
  refine aw_iload_n E dX9_bears_44 0 rfl ?_
  replace h := Option.some.inj h
  subst h
  exact aw_iret E dX9_bears_45 hr
def FX9_rank (a0 : Int32) : Int32 :=
  if a0 = 0 then
    0
  else
    if a0 = 11 then
      1
    else
      if a0 = 12 then
        2
      else
        if a0 = 13 then
          3
        else
          if 15 < a0 then
            if 17 < a0 then
              if a0 = 18 then
                6
              else
                7
            else
              5
          else
            4
set_option maxHeartbeats 4000000 in
set_option maxRecDepth 100000 in
theorem ctX9_rank (l : Launch) (g : CtxG) (a0 : Int32) (M : Mem) : Ct l (WY g) yX9_rank cX9_rank 1 (some .int) 1 [.int a0] M (some (.int (FX9_rank a0)), M) := by
  obtain ⟨r0, h⟩ : ∃ r0, FX9_rank a0 = r0 := ⟨_, rfl⟩
  rw [h]
  refine Ct.of (by decide) (Nat.le_of_ble_eq_true rfl) (fun Y hY E => ?_)
  have E : EV Y (WY g) cX9_rank 1 (some .int) RX9 := E
  --generalize hr : ((some (Value.int r0), M) : Option Value × Mem) = r
  have h : FX9_rank a0 = r0 := h
  unfold FX9_rank at h
  show AW Y (WY g) _ 1 1 0 [(0, .int a0)] [] M
  obtain ⟨r, hr⟩ : ∃ r : Option Value × Mem, r = (some (.int r0), M) := ⟨_, rfl⟩
  rw [← hr]
  refine aw_iload_n E dX9_rank_0 0 rfl ?_
  refine aw_if_ne (tgt := 8) E dX9_rank_1 rfl (fun c1 => ?_) (fun c1 => ?_)
  ·
    replace h := iq c1 h
    refine aw_iload_n E dX9_rank_8 0 rfl ?_
    refine aw_bipush (v := 11) E dX9_rank_9 (by decide) ?_
    refine aw_icmp_ne (tgt := 18) E dX9_rank_11 rfl (fun c11 => ?_) (fun c11 => ?_)
    ·
      replace h := iq c11 h
      refine aw_iload_n E dX9_rank_18 0 rfl ?_
      refine aw_bipush (v := 12) E dX9_rank_19 (by decide) ?_
      refine aw_icmp_ne (tgt := 28) E dX9_rank_21 rfl (fun c21 => ?_) (fun c21 => ?_)
      ·
        replace h := iq c21 h
        refine aw_iload_n E dX9_rank_28 0 rfl ?_
        refine aw_bipush (v := 13) E dX9_rank_29 (by decide) ?_
        refine aw_icmp_ne (tgt := 38) E dX9_rank_31 rfl (fun c31 => ?_) (fun c31 => ?_)
        ·
          replace h := iq c31 h
          refine aw_iload_n E dX9_rank_38 0 rfl ?_
          refine aw_bipush (v := 15) E dX9_rank_39 (by decide) ?_
          refine aw_icmp_gt (tgt := 48) E dX9_rank_41 rfl (fun c41 => ?_) (fun c41 => ?_)
          ·
            replace h := ip c41 h
            refine aw_iload_n E dX9_rank_48 0 rfl ?_
            refine aw_bipush (v := 17) E dX9_rank_49 (by decide) ?_
            refine aw_icmp_gt (tgt := 58) E dX9_rank_51 rfl (fun c51 => ?_) (fun c51 => ?_)
            ·
              replace h := ip c51 h
              refine aw_iload_n E dX9_rank_58 0 rfl ?_
              refine aw_bipush (v := 18) E dX9_rank_59 (by decide) ?_
              refine aw_icmp_ne (tgt := 69) E dX9_rank_61 rfl (fun c61 => ?_) (fun c61 => ?_)
              ·
                replace h := iq c61 h
                refine aw_bipush (v := 7) E dX9_rank_69 (by decide) ?_
                subst h
                exact aw_iret E dX9_rank_71 hr
              ·
                replace h := ip c61 h
                refine aw_bipush (v := 6) E dX9_rank_64 (by decide) ?_
                refine aw_goto (tgt := 71) E dX9_rank_66 rfl ?_
                subst h
                exact aw_iret E dX9_rank_71 hr
            ·
              replace h := iq c51 h
              refine aw_iconst (v := 5) E dX9_rank_54 (by decide) ?_
              refine aw_goto (tgt := 71) E dX9_rank_55 rfl ?_
              subst h
              exact aw_iret E dX9_rank_71 hr
          ·
            replace h := iq c41 h
            refine aw_iconst (v := 4) E dX9_rank_44 (by decide) ?_
            refine aw_goto (tgt := 71) E dX9_rank_45 rfl ?_
            subst h
            exact aw_iret E dX9_rank_71 hr
        ·
          replace h := ip c31 h
          refine aw_iconst (v := 3) E dX9_rank_34 (by decide) ?_
          refine aw_goto (tgt := 71) E dX9_rank_35 rfl ?_
          subst h
          exact aw_iret E dX9_rank_71 hr
      ·
        replace h := ip c21 h
        refine aw_iconst (v := 2) E dX9_rank_24 (by decide) ?_
        refine aw_goto (tgt := 71) E dX9_rank_25 rfl ?_
        subst h
        exact aw_iret E dX9_rank_71 hr
    ·
      replace h := ip c11 h
      refine aw_iconst (v := 1) E dX9_rank_14 (by decide) ?_
      refine aw_goto (tgt := 71) E dX9_rank_15 rfl ?_
      subst h
      exact aw_iret E dX9_rank_71 hr
  ·
    replace h := ip c1 h
    refine aw_iconst (v := 0) E dX9_rank_4 (by decide) ?_
    refine aw_goto (tgt := 71) E dX9_rank_5 rfl ?_
    subst h
    exact aw_iret E dX9_rank_71 hr
def FX9_puts (a1 : Int32) (M : Mem) : Option (Mem) :=
  gi ((200 * (M.1 0 14)) + (M.1 0 35)) 1200 <|
  lt (wr M 7 (Int32.toNatClampNeg ((200 * (M.1 0 14)) + (M.1 0 35))) a1) fun M2 =>
  lt (wr M2 0 35 ((M2.1 0 35) + 1)) fun M4 =>
  some M4
set_option maxHeartbeats 4000000 in
set_option maxRecDepth 100000 in
theorem ctX9_puts (l : Launch) (g : CtxG) (a1 : Int32) (M : Mem) (r0 : Mem) (h : FX9_puts a1 M = some r0) : Ct l (WY g) yX9_puts cX9_puts 2 none 1 [.ref (wad (WY g) 0), .int a1] M (none, r0) := by
  refine Ct.of (by decide) (Nat.le_of_ble_eq_true rfl) (fun Y hY E => ?_)
  have E : EV Y (WY g) cX9_puts 2 none RX9 := E
  have h : FX9_puts a1 M = some r0 := h
  unfold FX9_puts at h
  show AW Y (WY g) _ 2 1 0 [(0, .ref (wad (WY g) 0)), (1, .int a1)] [] M
  obtain ⟨r, hr⟩ : ∃ r : Option Value × Mem, r = (none, r0) := ⟨_, rfl⟩
  rw [← hr]
  refine aw_aload_n E dX9_puts_0 0 rfl ?_
  refine aw_getR (q := 7) E flX9_32 (Nat.le_of_ble_eq_true rfl) rfl rfl dX9_puts_1 ?_
  refine aw_sipush (v := 200) E dX9_puts_4 (by decide) ?_
  refine aw_aload_n E dX9_puts_7 0 rfl ?_
  refine aw_getI E flX9_108 (Nat.le_of_ble_eq_true rfl) rfl rfl dX9_puts_8 ?_
  refine aw_imul E dX9_puts_11 ?_
  refine aw_aload_n E dX9_puts_12 0 rfl ?_
  refine aw_getI E flX9_134 (Nat.le_of_ble_eq_true rfl) rfl rfl dX9_puts_13 ?_
  refine aw_iadd E dX9_puts_16 ?_
  refine aw_iload_n E dX9_puts_17 1 rfl ?_
  obtain ⟨g1, h⟩ := gi_e h
  obtain ⟨M2, e3, h⟩ := lt_e h
  refine aw_iast1 e3 E (Nat.le_of_ble_eq_true rfl) rfl g1 dX9_puts_18 ?_
  refine aw_aload_n E dX9_puts_19 0 rfl ?_
  refine aw_dup E dX9_puts_20 rfl ?_
  refine aw_getI E flX9_134 (Nat.le_of_ble_eq_true rfl) rfl rfl dX9_puts_21 ?_
  refine aw_iconst (v := 1) E dX9_puts_24 (by decide) ?_
  refine aw_iadd E dX9_puts_25 ?_
  obtain ⟨M4, e5, h⟩ := lt_e h
  refine aw_putI1 e5 E flX9_134 (Nat.le_of_ble_eq_true rfl) rfl rfl nr_int dX9_puts_26 ?_
  replace h := Option.some.inj h
  subst h
  exact aw_vret E dX9_puts_29 hr
def FX9_unwinds_L0 : Nat → Int32 → Mem → Option (Mem)
  | 0, _, _ => none
  | f + 1, p1, M =>
    ob (α := Bool) (if (M.1 0 33) ≤ 0 then
      some false
    else
      gi ((M.1 0 33) - 1) 200 <|
      if (FX9_rank (M.1 14 (Int32.toNatClampNeg ((M.1 0 33) - 1)))) < p1 then some false else some true) fun b101 =>
    if b101 = true then
      lt (wr M 0 33 ((M.1 0 33) - 1)) fun M105 =>
      gi (M105.1 0 33) 200 <|
      lt (α := Int32) (M105.1 14 (Int32.toNatClampNeg (M105.1 0 33))) fun x108 =>
      lt (α := Bool) (if x108 = 13 then true else if x108 = 19 then true else false) fun b110 =>
      lt (α := Int32) (if b110 = true then
        1
      else
        0) fun q112 =>
      lt (wr M105 0 34 ((M105.1 0 34) - q112)) fun M115 =>
      ob (FX9_puts x108 M115) fun q117 =>
      FX9_unwinds_L0 f p1 q117
    else
      some M
def FX9_unwinds (a1 : Int32) (M : Mem) : Option (Mem) :=
  ob (FX9_unwinds_L0 FU a1 M) fun q1 =>
  some q1
set_option maxHeartbeats 4000000 in
set_option maxRecDepth 100000 in
theorem lpX9_unwinds_0 {Y : CtxM} {g : CtxG} {r : Option Value × Mem} (E : EV Y (WY g) cX9_unwinds 3 none RX9) (p1 : Int32) : ∀ (f : Nat)  (M : Mem) (q : Mem), FX9_unwinds_L0 f p1 M = some q → AW Y (WY g) r 3 2 79 [] [] q → AW Y (WY g) r 3 2 0 [(0, .ref (wad (WY g) 0)), (1, .int p1)] [] M := by
  intro f
  induction f with
  | zero => intro  M q hh; exact absurd hh (fun z => nomatch (show (none : Option (Mem)) = some q from z))
  | succ f ih =>
    intro  M q hh kx
    rw [FX9_unwinds_L0] at hh
    refine aw_aload_n E dX9_unwinds_0 0 rfl ?_
    refine aw_getI E flX9_137 (Nat.le_of_ble_eq_true rfl) rfl rfl dX9_unwinds_1 ?_
    obtain ⟨b101, e102, hh⟩ := bd_e hh
    have J103 : b101 = true → AW Y (WY g) r 3 2 25 [(0, .ref (wad (WY g) 0)), (1, .int p1)] [] M := fun hb => by
      replace hh := ip hb hh
      refine aw_aload_n E dX9_unwinds_25 0 rfl ?_
      refine aw_dup E dX9_unwinds_26 rfl ?_
      refine aw_getI E flX9_137 (Nat.le_of_ble_eq_true rfl) rfl rfl dX9_unwinds_27 ?_
      refine aw_iconst (v := 1) E dX9_unwinds_30 (by decide) ?_
      refine aw_isub E dX9_unwinds_31 ?_
      obtain ⟨M105, e106, hh⟩ := lt_e hh
      refine aw_putI1 e106 E flX9_137 (Nat.le_of_ble_eq_true rfl) rfl rfl nr_int dX9_unwinds_32 ?_
      refine aw_aload_n E dX9_unwinds_35 0 rfl ?_
      refine aw_getR (q := 14) E flX9_53 (Nat.le_of_ble_eq_true rfl) rfl rfl dX9_unwinds_36 ?_
      refine aw_aload_n E dX9_unwinds_39 0 rfl ?_
      refine aw_getI E flX9_137 (Nat.le_of_ble_eq_true rfl) rfl rfl dX9_unwinds_40 ?_
      obtain ⟨g107, hh⟩ := gi_e hh
      refine aw_iald E (Nat.le_of_ble_eq_true rfl) rfl g107 dX9_unwinds_43 ?_
      obtain ⟨x108, e109, hh⟩ := lt_e hh
      refine aw_nmI e109 ?_
      refine aw_istore_n (L1 := [(2, .int x108), (0, .ref (wad (WY g) 0)), (1, .int p1)]) E dX9_unwinds_44 (Nat.le_of_ble_eq_true rfl) rfl ?_
      refine aw_aload_n E dX9_unwinds_45 1 rfl ?_
      refine aw_dup E dX9_unwinds_46 rfl ?_
      refine aw_getI E flX9_143 (Nat.le_of_ble_eq_true rfl) rfl rfl dX9_unwinds_47 ?_
      refine aw_iload_n E dX9_unwinds_50 0 rfl ?_
      refine aw_bipush (v := 13) E dX9_unwinds_51 (by decide) ?_
      obtain ⟨b110, e111, hh⟩ := lt_e hh
      obtain ⟨q112, e113, hh⟩ := lt_e hh
      have J114 : AW Y (WY g) r 3 2 67 [(0, .ref (wad (WY g) 0)), (1, .int p1), (2, .int x108)] [.int q112, .int (M105.1 0 34), .ref (wad (WY g) 0)] M105 := by
        refine aw_isub E dX9_unwinds_67 ?_
        obtain ⟨M115, e116, hh⟩ := lt_e hh
        refine aw_putI1 e116 E flX9_143 (Nat.le_of_ble_eq_true rfl) rfl rfl nr_int dX9_unwinds_68 ?_
        refine aw_aload_n E dX9_unwinds_71 0 rfl ?_
        refine aw_iload_n E dX9_unwinds_72 2 rfl ?_
        obtain ⟨q117, e118, hh⟩ := bd_e hh
        refine aw_callVv (S := []) E mvX9_puts mlX9_146 (Nat.le_of_ble_eq_true rfl) rfl rfl rfl (ctX9_puts (yl Y) g x108  M115 q117 e118) rfl (Nat.le_of_ble_eq_true rfl) (Nat.le_of_ble_eq_true rfl) dX9_unwinds_73 ?_
        refine aw_goto (tgt := 0) E dX9_unwinds_76 rfl ?_
        refine aw_sub (L1 := [(0, .ref (wad (WY g) 0)), (1, .int p1)]) [0, 1] rfl ?_
        exact ih  q117 _ hh kx
      have J119 : b110 = true → AW Y (WY g) r 3 2 62 [(2, .int x108), (0, .ref (wad (WY g) 0)), (1, .int p1)] [.int (M105.1 0 34), .ref (wad (WY g) 0)] M105 := fun hb => by
        replace e113 := ip hb e113
        refine aw_iconst (v := 1) E dX9_unwinds_62 (by decide) ?_
        refine aw_goto (tgt := 67) E dX9_unwinds_63 rfl ?_
        refine aw_sub (L1 := [(0, .ref (wad (WY g) 0)), (1, .int p1), (2, .int x108)]) [1, 2, 0] rfl ?_
        subst e113
        exact J114
      have J120 : b110 = false → AW Y (WY g) r 3 2 66 [(2, .int x108), (0, .ref (wad (WY g) 0)), (1, .int p1)] [.int (M105.1 0 34), .ref (wad (WY g) 0)] M105 := fun hb => by
        replace e113 := iq (bf hb) e113
        refine aw_iconst (v := 0) E dX9_unwinds_66 (by decide) ?_
        refine aw_sub (L1 := [(0, .ref (wad (WY g) 0)), (1, .int p1), (2, .int x108)]) [1, 2, 0] rfl ?_
        subst e113
        exact J114
      refine aw_icmp_eq (tgt := 62) E dX9_unwinds_53 rfl (fun c53 => ?_) (fun c53 => ?_)
      ·
        replace e111 := ip c53 e111
        subst e111
        exact J119 rfl
      ·
        replace e111 := iq c53 e111
        refine aw_iload_n E dX9_unwinds_56 0 rfl ?_
        refine aw_bipush (v := 19) E dX9_unwinds_57 (by decide) ?_
        refine aw_icmp_ne (tgt := 66) E dX9_unwinds_59 rfl (fun c59 => ?_) (fun c59 => ?_)
        ·
          replace e111 := iq c59 e111
          subst e111
          exact J120 rfl
        ·
          replace e111 := ip c59 e111
          subst e111
          exact J119 rfl
    have J104 : b101 = false → AW Y (WY g) r 3 2 79 [(0, .ref (wad (WY g) 0)), (1, .int p1)] [] M := fun hb => by
      replace hh := iq (bf hb) hh
      refine aw_sub (L1 := []) [] rfl ?_
      replace hh := Option.some.inj hh
      subst hh
      exact kx
    refine aw_if_le (tgt := 79) E dX9_unwinds_4 rfl (fun c4 => ?_) (fun c4 => ?_)
    ·
      replace e102 := ip c4 e102
      replace e102 := Option.some.inj e102
      subst e102
      exact J104 rfl
    ·
      replace e102 := iq c4 e102
      refine aw_aload_n E dX9_unwinds_7 0 rfl ?_
      refine aw_getR (q := 14) E flX9_53 (Nat.le_of_ble_eq_true rfl) rfl rfl dX9_unwinds_8 ?_
      refine aw_aload_n E dX9_unwinds_11 0 rfl ?_
      refine aw_getI E flX9_137 (Nat.le_of_ble_eq_true rfl) rfl rfl dX9_unwinds_12 ?_
      refine aw_iconst (v := 1) E dX9_unwinds_15 (by decide) ?_
      refine aw_isub E dX9_unwinds_16 ?_
      obtain ⟨g121, e102⟩ := gi_e e102
      refine aw_iald E (Nat.le_of_ble_eq_true rfl) rfl g121 dX9_unwinds_17 ?_
      refine aw_callSi (S := []) E msX9_rank mlX9_140 rfl (ctX9_rank (yl Y) g (M.1 14 (Int32.toNatClampNeg ((M.1 0 33) - 1)))  M ) rfl (Nat.le_of_ble_eq_true rfl) (Nat.le_of_ble_eq_true rfl) dX9_unwinds_18 ?_
      refine aw_iload_n E dX9_unwinds_21 1 rfl ?_
      refine aw_icmp_lt (tgt := 79) E dX9_unwinds_22 rfl (fun c22 => ?_) (fun c22 => ?_)
      ·
        replace e102 := ip c22 e102
        replace e102 := Option.some.inj e102
        subst e102
        exact J104 rfl
      ·
        replace e102 := iq c22 e102
        replace e102 := Option.some.inj e102
        subst e102
        exact J103 rfl
set_option maxHeartbeats 4000000 in
set_option maxRecDepth 100000 in
theorem ctX9_unwinds (l : Launch) (g : CtxG) (a1 : Int32) (M : Mem) (r0 : Mem) (h : FX9_unwinds a1 M = some r0) : Ct l (WY g) yX9_unwinds cX9_unwinds 3 none 2 [.ref (wad (WY g) 0), .int a1] M (none, r0) := by
  refine Ct.of (by decide) (Nat.le_of_ble_eq_true rfl) (fun Y hY E => ?_)
  have E : EV Y (WY g) cX9_unwinds 3 none RX9 := E
  have h : FX9_unwinds a1 M = some r0 := h
  unfold FX9_unwinds at h
  show AW Y (WY g) _ 3 2 0 [(0, .ref (wad (WY g) 0)), (1, .int a1)] [] M
  obtain ⟨r, hr⟩ : ∃ r : Option Value × Mem, r = (none, r0) := ⟨_, rfl⟩
  rw [← hr]
  obtain ⟨q1, e2, h⟩ := bd_e h
  refine aw_sub (L1 := [(0, .ref (wad (WY g) 0)), (1, .int a1)]) [0, 1] rfl ?_
  refine lpX9_unwinds_0 E   a1 FU  M q1 e2 ?_
  replace h := Option.some.inj h
  subst h
  exact aw_vret E dX9_unwinds_79 hr
def FX9_holds (a1 : Int32) (M : Mem) : Option (Mem) :=
  gi (M.1 0 33) 200 <|
  lt (wr M 14 (Int32.toNatClampNeg (M.1 0 33)) a1) fun M2 =>
  lt (wr M2 0 33 ((M2.1 0 33) + 1)) fun M4 =>
  some M4
set_option maxHeartbeats 4000000 in
set_option maxRecDepth 100000 in
theorem ctX9_holds (l : Launch) (g : CtxG) (a1 : Int32) (M : Mem) (r0 : Mem) (h : FX9_holds a1 M = some r0) : Ct l (WY g) yX9_holds cX9_holds 2 none 1 [.ref (wad (WY g) 0), .int a1] M (none, r0) := by
  refine Ct.of (by decide) (Nat.le_of_ble_eq_true rfl) (fun Y hY E => ?_)
  have E : EV Y (WY g) cX9_holds 2 none RX9 := E
  have h : FX9_holds a1 M = some r0 := h
  unfold FX9_holds at h
  show AW Y (WY g) _ 2 1 0 [(0, .ref (wad (WY g) 0)), (1, .int a1)] [] M
  obtain ⟨r, hr⟩ : ∃ r : Option Value × Mem, r = (none, r0) := ⟨_, rfl⟩
  rw [← hr]
  refine aw_aload_n E dX9_holds_0 0 rfl ?_
  refine aw_getR (q := 14) E flX9_53 (Nat.le_of_ble_eq_true rfl) rfl rfl dX9_holds_1 ?_
  refine aw_aload_n E dX9_holds_4 0 rfl ?_
  refine aw_getI E flX9_137 (Nat.le_of_ble_eq_true rfl) rfl rfl dX9_holds_5 ?_
  refine aw_iload_n E dX9_holds_8 1 rfl ?_
  obtain ⟨g1, h⟩ := gi_e h
  obtain ⟨M2, e3, h⟩ := lt_e h
  refine aw_iast1 e3 E (Nat.le_of_ble_eq_true rfl) rfl g1 dX9_holds_9 ?_
  refine aw_aload_n E dX9_holds_10 0 rfl ?_
  refine aw_dup E dX9_holds_11 rfl ?_
  refine aw_getI E flX9_137 (Nat.le_of_ble_eq_true rfl) rfl rfl dX9_holds_12 ?_
  refine aw_iconst (v := 1) E dX9_holds_15 (by decide) ?_
  refine aw_iadd E dX9_holds_16 ?_
  obtain ⟨M4, e5, h⟩ := lt_e h
  refine aw_putI1 e5 E flX9_137 (Nat.le_of_ble_eq_true rfl) rfl rfl nr_int dX9_holds_17 ?_
  replace h := Option.some.inj h
  subst h
  exact aw_vret E dX9_holds_20 hr
def FX9_between (a1 : Int32) (M : Mem) : Option (Int32 × Mem) :=
  lt (α := Int32) (if (FX9_rank a1) = 4 then
    5
  else
    FX9_rank a1) fun q1 =>
  ob (FX9_unwinds q1 M) fun q4 =>
  ob (α := Bool) (if (FX9_rank a1) = 4 then
    if (q4.1 0 33) ≤ 0 then
      some false
    else
      gi ((q4.1 0 33) - 1) 200 <|
      if (FX9_rank (q4.1 14 (Int32.toNatClampNeg ((q4.1 0 33) - 1)))) = 4 then some true else some false
  else
    some false) fun b6 =>
  if b6 = true then
    some (0, q4)
  else
    ob (FX9_holds a1 q4) fun q10 =>
    some (1, q10)
set_option maxHeartbeats 4000000 in
set_option maxRecDepth 100000 in
theorem ctX9_between (l : Launch) (g : CtxG) (a1 : Int32) (M : Mem) (r0 : Int32 × Mem) (h : FX9_between a1 M = some r0) : Ct l (WY g) yX9_between cX9_between 2 (some .boolean) 3 [.ref (wad (WY g) 0), .int a1] M (some (.int r0.1), r0.2) := by
  refine Ct.of (by decide) (Nat.le_of_ble_eq_true rfl) (fun Y hY E => ?_)
  have E : EV Y (WY g) cX9_between 2 (some .boolean) RX9 := E
  have h : FX9_between a1 M = some r0 := h
  unfold FX9_between at h
  show AW Y (WY g) _ 2 3 0 [(0, .ref (wad (WY g) 0)), (1, .int a1)] [] M
  obtain ⟨r, hr⟩ : ∃ r : Option Value × Mem, r = (some (.int r0.1), r0.2) := ⟨_, rfl⟩
  rw [← hr]
  refine aw_aload_n E dX9_between_0 0 rfl ?_
  refine aw_iload_n E dX9_between_1 1 rfl ?_
  refine aw_callSi (S := [.ref (wad (WY g) 0)]) E msX9_rank mlX9_140 rfl (ctX9_rank (yl Y) g a1  M ) rfl (Nat.le_of_ble_eq_true rfl) (Nat.le_of_ble_eq_true rfl) dX9_between_2 ?_
  refine aw_iconst (v := 4) E dX9_between_5 (by decide) ?_
  obtain ⟨q1, e2, h⟩ := lt_e h
  have J3 : AW Y (WY g) r 2 3 17 [(0, .ref (wad (WY g) 0)), (1, .int a1)] [.int q1, .ref (wad (WY g) 0)] M := by
    obtain ⟨q4, e5, h⟩ := bd_e h
    refine aw_callVv (S := []) E mvX9_unwinds mlX9_153 (Nat.le_of_ble_eq_true rfl) rfl rfl rfl (ctX9_unwinds (yl Y) g q1  M q4 e5) rfl (Nat.le_of_ble_eq_true rfl) (Nat.le_of_ble_eq_true rfl) dX9_between_17 ?_
    refine aw_iload_n E dX9_between_20 1 rfl ?_
    refine aw_callSi (S := []) E msX9_rank mlX9_140 rfl (ctX9_rank (yl Y) g a1  q4 ) rfl (Nat.le_of_ble_eq_true rfl) (Nat.le_of_ble_eq_true rfl) dX9_between_21 ?_
    refine aw_iconst (v := 4) E dX9_between_24 (by decide) ?_
    obtain ⟨b6, e7, h⟩ := bd_e h
    have J8 : b6 = true → AW Y (WY g) r 2 3 53 [(0, .ref (wad (WY g) 0)), (1, .int a1)] [] q4 := fun hb => by
      replace h := ip hb h
      refine aw_iconst (v := 0) E dX9_between_53 (by decide) ?_
      replace h := Option.some.inj h
      subst h
      exact aw_zret E (by decide) dX9_between_54 hr
    have J9 : b6 = false → AW Y (WY g) r 2 3 55 [(0, .ref (wad (WY g) 0)), (1, .int a1)] [] q4 := fun hb => by
      replace h := iq (bf hb) h
      refine aw_aload_n E dX9_between_55 0 rfl ?_
      refine aw_iload_n E dX9_between_56 1 rfl ?_
      obtain ⟨q10, e11, h⟩ := bd_e h
      refine aw_callVv (S := []) E mvX9_holds mlX9_150 (Nat.le_of_ble_eq_true rfl) rfl rfl rfl (ctX9_holds (yl Y) g a1  q4 q10 e11) rfl (Nat.le_of_ble_eq_true rfl) (Nat.le_of_ble_eq_true rfl) dX9_between_57 ?_
      refine aw_iconst (v := 1) E dX9_between_60 (by decide) ?_
      replace h := Option.some.inj h
      subst h
      exact aw_zret E (by decide) dX9_between_61 hr
    refine aw_icmp_ne (tgt := 55) E dX9_between_25 rfl (fun c25 => ?_) (fun c25 => ?_)
    ·
      replace e7 := iq c25 e7
      replace e7 := Option.some.inj e7
      subst e7
      exact J9 rfl
    ·
      replace e7 := ip c25 e7
      refine aw_aload_n E dX9_between_28 0 rfl ?_
      refine aw_getI E flX9_137 (Nat.le_of_ble_eq_true rfl) rfl rfl dX9_between_29 ?_
      refine aw_if_le (tgt := 55) E dX9_between_32 rfl (fun c32 => ?_) (fun c32 => ?_)
      ·
        replace e7 := ip c32 e7
        replace e7 := Option.some.inj e7
        subst e7
        exact J9 rfl
      ·
        replace e7 := iq c32 e7
        refine aw_aload_n E dX9_between_35 0 rfl ?_
        refine aw_getR (q := 14) E flX9_53 (Nat.le_of_ble_eq_true rfl) rfl rfl dX9_between_36 ?_
        refine aw_aload_n E dX9_between_39 0 rfl ?_
        refine aw_getI E flX9_137 (Nat.le_of_ble_eq_true rfl) rfl rfl dX9_between_40 ?_
        refine aw_iconst (v := 1) E dX9_between_43 (by decide) ?_
        refine aw_isub E dX9_between_44 ?_
        obtain ⟨g12, e7⟩ := gi_e e7
        refine aw_iald E (Nat.le_of_ble_eq_true rfl) rfl g12 dX9_between_45 ?_
        refine aw_callSi (S := []) E msX9_rank mlX9_140 rfl (ctX9_rank (yl Y) g (q4.1 14 (Int32.toNatClampNeg ((q4.1 0 33) - 1)))  q4 ) rfl (Nat.le_of_ble_eq_true rfl) (Nat.le_of_ble_eq_true rfl) dX9_between_46 ?_
        refine aw_iconst (v := 4) E dX9_between_49 (by decide) ?_
        refine aw_icmp_ne (tgt := 55) E dX9_between_50 rfl (fun c50 => ?_) (fun c50 => ?_)
        ·
          replace e7 := iq c50 e7
          replace e7 := Option.some.inj e7
          subst e7
          exact J9 rfl
        ·
          replace e7 := ip c50 e7
          replace e7 := Option.some.inj e7
          subst e7
          exact J8 rfl
  refine aw_icmp_ne (tgt := 13) E dX9_between_6 rfl (fun c6 => ?_) (fun c6 => ?_)
  ·
    replace e2 := iq c6 e2
    refine aw_iload_n E dX9_between_13 1 rfl ?_
    refine aw_callSi (S := [.ref (wad (WY g) 0)]) E msX9_rank mlX9_140 rfl (ctX9_rank (yl Y) g a1  M ) rfl (Nat.le_of_ble_eq_true rfl) (Nat.le_of_ble_eq_true rfl) dX9_between_14 ?_
    refine aw_sub (L1 := [(0, .ref (wad (WY g) 0)), (1, .int a1)]) [0, 1] rfl ?_
    subst e2
    exact J3
  ·
    replace e2 := ip c6 e2
    refine aw_iconst (v := 5) E dX9_between_9 (by decide) ?_
    refine aw_goto (tgt := 17) E dX9_between_10 rfl ?_
    refine aw_sub (L1 := [(0, .ref (wad (WY g) 0)), (1, .int a1)]) [0, 1] rfl ?_
    subst e2
    exact J3
def FX9_joinedTo_L17 : Nat → Int32 → Int32 → Int32 → Mem → Option (Int32)
  | 0, _, _, _, _ => none
  | f + 1, p2, p3, p5, M =>
    if (M.1 0 3) ≤ p5 then
      some p3
    else
      ob (α := Bool) (if ((p2 >>> (p5 &&& 31)) &&& 1) = 0 then
        gi p5 13 <|
        gi p5 13 <|
        if (((p3 >>> ((M.1 2 (Int32.toNatClampNeg p5)) &&& 31)) ||| (p3 >>> ((M.1 3 (Int32.toNatClampNeg p5)) &&& 31))) &&& 1) = 1 then some true else some false
      else
        some false) fun b101 =>
      lt (α := Int32) (if b101 = true then
        1
      else
        0) fun q103 =>
      ob (α := Int32) (if q103 = 0 then
        some 0
      else
        gi p5 13 <|
        gi p5 13 <|
        some (((1 : Int32) <<< ((M.1 2 (Int32.toNatClampNeg p5)) &&& 31)) ||| ((1 : Int32) <<< ((M.1 3 (Int32.toNatClampNeg p5)) &&& 31)))) fun q106 =>
      lt (α := Int32) (p3 ||| q106) fun x109 =>
      lt (α := Int32) (p5 + 1) fun x111 =>
      FX9_joinedTo_L17 f p2 x109 x111 M
def FX9_joinedTo_L7 : Nat → Int32 → Int32 → Int32 → Mem → Option (Int32)
  | 0, _, _, _, _ => none
  | f + 1, p2, p3, p4, M =>
    if 9 ≤ p4 then
      some p3
    else
      ob (FX9_joinedTo_L17 FU p2 p3 0 M) fun q101 =>
      lt (α := Int32) (p4 + 1) fun x103 =>
      FX9_joinedTo_L7 f p2 q101 x103 M
def FX9_joinedTo (a1 : Int32) (a2 : Int32) (M : Mem) : Option (Int32) :=
  lt (α := Int32) ((1 : Int32) <<< (a1 &&& 31)) fun x1 =>
  ob (FX9_joinedTo_L7 FU a2 x1 0 M) fun q3 =>
  some q3
set_option maxHeartbeats 4000000 in
set_option maxRecDepth 100000 in
theorem lpX9_joinedTo_17 {Y : CtxM} {g : CtxG} {r : Option Value × Mem} (E : EV Y (WY g) cX9_joinedTo 7 (some .int) RX9) (p2 : Int32) (p4 : Int32) : ∀ (f : Nat) (p3 : Int32) (p5 : Int32) (M : Mem) (q : Int32), FX9_joinedTo_L17 f p2 p3 p5 M = some q → AW Y (WY g) r 7 1 104 [(0, .ref (wad (WY g) 0)), (2, .int p2), (3, .int q), (4, .int p4)] [] M → AW Y (WY g) r 7 1 17 [(0, .ref (wad (WY g) 0)), (2, .int p2), (3, .int p3), (4, .int p4), (5, .int p5)] [] M := by
  intro f
  induction f with
  | zero => intro p3 p5 M q hh; exact absurd hh (fun z => nomatch (show (none : Option (Int32)) = some q from z))
  | succ f ih =>
    intro p3 p5 M q hh kx
    rw [FX9_joinedTo_L17] at hh
    refine aw_iload E dX9_joinedTo_17 4 rfl ?_
    refine aw_aload_n E dX9_joinedTo_19 0 rfl ?_
    refine aw_getI E flX9_92 (Nat.le_of_ble_eq_true rfl) rfl rfl dX9_joinedTo_20 ?_
    refine aw_icmp_ge (tgt := 104) E dX9_joinedTo_23 rfl (fun c23 => ?_) (fun c23 => ?_)
    ·
      replace hh := ip c23 hh
      refine aw_sub (L1 := [(0, .ref (wad (WY g) 0)), (2, .int p2), (3, .int p3), (4, .int p4)]) [0, 1, 2, 3] rfl ?_
      replace hh := Option.some.inj hh
      subst hh
      exact kx
    ·
      replace hh := iq c23 hh
      refine aw_iload_n E dX9_joinedTo_26 1 rfl ?_
      refine aw_iload E dX9_joinedTo_27 4 rfl ?_
      refine aw_ishr E dX9_joinedTo_29 ?_
      refine aw_iconst (v := 1) E dX9_joinedTo_30 (by decide) ?_
      refine aw_iand E dX9_joinedTo_31 ?_
      obtain ⟨b101, e102, hh⟩ := bd_e hh
      obtain ⟨q103, e104, hh⟩ := lt_e hh
      have J105 : AW Y (WY g) r 7 1 65 [(0, .ref (wad (WY g) 0)), (2, .int p2), (3, .int p3), (4, .int p4), (5, .int p5)] [.int q103] M := by
        refine aw_istore (L1 := [(6, .int q103), (0, .ref (wad (WY g) 0)), (2, .int p2), (3, .int p3), (4, .int p4), (5, .int p5)]) E dX9_joinedTo_65 (Nat.le_of_ble_eq_true rfl) rfl ?_
        refine aw_iload_n E dX9_joinedTo_67 3 rfl ?_
        refine aw_iload E dX9_joinedTo_68 0 rfl ?_
        obtain ⟨q106, e107, hh⟩ := bd_e hh
        have J108 : AW Y (WY g) r 7 1 96 [(0, .ref (wad (WY g) 0)), (2, .int p2), (4, .int p4), (5, .int p5)] [.int q106, .int p3] M := by
          refine aw_ior E dX9_joinedTo_96 ?_
          obtain ⟨x109, e110, hh⟩ := lt_e hh
          refine aw_nmI e110 ?_
          refine aw_istore_n (L1 := [(3, .int x109), (0, .ref (wad (WY g) 0)), (2, .int p2), (4, .int p4), (5, .int p5)]) E dX9_joinedTo_97 (Nat.le_of_ble_eq_true rfl) rfl ?_
          obtain ⟨x111, e112, hh⟩ := lt_e hh
          refine aw_iinc (v := x111) (L1 := [(5, .int x111), (3, .int x109), (0, .ref (wad (WY g) 0)), (2, .int p2), (4, .int p4)]) E dX9_joinedTo_98 4 rfl e112 (Nat.le_of_ble_eq_true rfl) rfl ?_
          refine aw_goto (tgt := 17) E dX9_joinedTo_101 rfl ?_
          refine aw_sub (L1 := [(0, .ref (wad (WY g) 0)), (2, .int p2), (3, .int x109), (4, .int p4), (5, .int x111)]) [2, 3, 1, 4, 0] rfl ?_
          exact ih x109 x111 M _ hh kx
        refine aw_if_eq (tgt := 95) E dX9_joinedTo_70 rfl (fun c70 => ?_) (fun c70 => ?_)
        ·
          replace e107 := ip c70 e107
          refine aw_iconst (v := 0) E dX9_joinedTo_95 (by decide) ?_
          refine aw_sub (L1 := [(0, .ref (wad (WY g) 0)), (2, .int p2), (4, .int p4), (5, .int p5)]) [1, 2, 4, 5] rfl ?_
          replace e107 := Option.some.inj e107
          subst e107
          exact J108
        ·
          replace e107 := iq c70 e107
          refine aw_iconst (v := 1) E dX9_joinedTo_73 (by decide) ?_
          refine aw_aload_n E dX9_joinedTo_74 1 rfl ?_
          refine aw_getR (q := 2) E flX9_17 (Nat.le_of_ble_eq_true rfl) rfl rfl dX9_joinedTo_75 ?_
          refine aw_iload E dX9_joinedTo_78 5 rfl ?_
          obtain ⟨g113, e107⟩ := gi_e e107
          refine aw_iald E (Nat.le_of_ble_eq_true rfl) rfl g113 dX9_joinedTo_80 ?_
          refine aw_ishl E dX9_joinedTo_81 ?_
          refine aw_iconst (v := 1) E dX9_joinedTo_82 (by decide) ?_
          refine aw_aload_n E dX9_joinedTo_83 1 rfl ?_
          refine aw_getR (q := 3) E flX9_20 (Nat.le_of_ble_eq_true rfl) rfl rfl dX9_joinedTo_84 ?_
          refine aw_iload E dX9_joinedTo_87 5 rfl ?_
          obtain ⟨g114, e107⟩ := gi_e e107
          refine aw_iald E (Nat.le_of_ble_eq_true rfl) rfl g114 dX9_joinedTo_89 ?_
          refine aw_ishl E dX9_joinedTo_90 ?_
          refine aw_ior E dX9_joinedTo_91 ?_
          refine aw_goto (tgt := 96) E dX9_joinedTo_92 rfl ?_
          refine aw_sub (L1 := [(0, .ref (wad (WY g) 0)), (2, .int p2), (4, .int p4), (5, .int p5)]) [1, 2, 4, 5] rfl ?_
          replace e107 := Option.some.inj e107
          subst e107
          exact J108
      have J115 : b101 = true → AW Y (WY g) r 7 1 60 [(0, .ref (wad (WY g) 0)), (2, .int p2), (3, .int p3), (4, .int p4), (5, .int p5)] [] M := fun hb => by
        replace e104 := ip hb e104
        refine aw_iconst (v := 1) E dX9_joinedTo_60 (by decide) ?_
        refine aw_goto (tgt := 65) E dX9_joinedTo_61 rfl ?_
        refine aw_sub (L1 := [(0, .ref (wad (WY g) 0)), (2, .int p2), (3, .int p3), (4, .int p4), (5, .int p5)]) [0, 1, 2, 3, 4] rfl ?_
        subst e104
        exact J105
      have J116 : b101 = false → AW Y (WY g) r 7 1 64 [(0, .ref (wad (WY g) 0)), (2, .int p2), (3, .int p3), (4, .int p4), (5, .int p5)] [] M := fun hb => by
        replace e104 := iq (bf hb) e104
        refine aw_iconst (v := 0) E dX9_joinedTo_64 (by decide) ?_
        refine aw_sub (L1 := [(0, .ref (wad (WY g) 0)), (2, .int p2), (3, .int p3), (4, .int p4), (5, .int p5)]) [0, 1, 2, 3, 4] rfl ?_
        subst e104
        exact J105
      refine aw_if_ne (tgt := 64) E dX9_joinedTo_32 rfl (fun c32 => ?_) (fun c32 => ?_)
      ·
        replace e102 := iq c32 e102
        replace e102 := Option.some.inj e102
        subst e102
        exact J116 rfl
      ·
        replace e102 := ip c32 e102
        refine aw_iload_n E dX9_joinedTo_35 2 rfl ?_
        refine aw_aload_n E dX9_joinedTo_36 0 rfl ?_
        refine aw_getR (q := 2) E flX9_17 (Nat.le_of_ble_eq_true rfl) rfl rfl dX9_joinedTo_37 ?_
        refine aw_iload E dX9_joinedTo_40 4 rfl ?_
        obtain ⟨g117, e102⟩ := gi_e e102
        refine aw_iald E (Nat.le_of_ble_eq_true rfl) rfl g117 dX9_joinedTo_42 ?_
        refine aw_ishr E dX9_joinedTo_43 ?_
        refine aw_iload_n E dX9_joinedTo_44 2 rfl ?_
        refine aw_aload_n E dX9_joinedTo_45 0 rfl ?_
        refine aw_getR (q := 3) E flX9_20 (Nat.le_of_ble_eq_true rfl) rfl rfl dX9_joinedTo_46 ?_
        refine aw_iload E dX9_joinedTo_49 4 rfl ?_
        obtain ⟨g118, e102⟩ := gi_e e102
        refine aw_iald E (Nat.le_of_ble_eq_true rfl) rfl g118 dX9_joinedTo_51 ?_
        refine aw_ishr E dX9_joinedTo_52 ?_
        refine aw_ior E dX9_joinedTo_53 ?_
        refine aw_iconst (v := 1) E dX9_joinedTo_54 (by decide) ?_
        refine aw_iand E dX9_joinedTo_55 ?_
        refine aw_iconst (v := 1) E dX9_joinedTo_56 (by decide) ?_
        refine aw_icmp_ne (tgt := 64) E dX9_joinedTo_57 rfl (fun c57 => ?_) (fun c57 => ?_)
        ·
          replace e102 := iq c57 e102
          replace e102 := Option.some.inj e102
          subst e102
          exact J116 rfl
        ·
          replace e102 := ip c57 e102
          replace e102 := Option.some.inj e102
          subst e102
          exact J115 rfl
set_option maxHeartbeats 4000000 in
set_option maxRecDepth 100000 in
theorem lpX9_joinedTo_7 {Y : CtxM} {g : CtxG} {r : Option Value × Mem} (E : EV Y (WY g) cX9_joinedTo 7 (some .int) RX9) (p2 : Int32) : ∀ (f : Nat) (p3 : Int32) (p4 : Int32) (M : Mem) (q : Int32), FX9_joinedTo_L7 f p2 p3 p4 M = some q → AW Y (WY g) r 7 1 110 [(3, .int q)] [] M → AW Y (WY g) r 7 1 7 [(0, .ref (wad (WY g) 0)), (2, .int p2), (3, .int p3), (4, .int p4)] [] M := by
  intro f
  induction f with
  | zero => intro p3 p4 M q hh; exact absurd hh (fun z => nomatch (show (none : Option (Int32)) = some q from z))
  | succ f ih =>
    intro p3 p4 M q hh kx
    rw [FX9_joinedTo_L7] at hh
    refine aw_iload E dX9_joinedTo_7 3 rfl ?_
    refine aw_bipush (v := 9) E dX9_joinedTo_9 (by decide) ?_
    refine aw_icmp_ge (tgt := 110) E dX9_joinedTo_11 rfl (fun c11 => ?_) (fun c11 => ?_)
    ·
      replace hh := ip c11 hh
      refine aw_sub (L1 := [(3, .int p3)]) [2] rfl ?_
      replace hh := Option.some.inj hh
      subst hh
      exact kx
    ·
      replace hh := iq c11 hh
      refine aw_iconst (v := 0) E dX9_joinedTo_14 (by decide) ?_
      refine aw_istore (L1 := [(5, .int 0), (0, .ref (wad (WY g) 0)), (2, .int p2), (3, .int p3), (4, .int p4)]) E dX9_joinedTo_15 (Nat.le_of_ble_eq_true rfl) rfl ?_
      obtain ⟨q101, e102, hh⟩ := bd_e hh
      refine aw_sub (L1 := [(0, .ref (wad (WY g) 0)), (2, .int p2), (3, .int p3), (4, .int p4), (5, .int 0)]) [1, 2, 3, 4, 0] rfl ?_
      refine lpX9_joinedTo_17 E   p2 p4 FU p3 0 M q101 e102 ?_
      obtain ⟨x103, e104, hh⟩ := lt_e hh
      refine aw_iinc (v := x103) (L1 := [(4, .int x103), (0, .ref (wad (WY g) 0)), (2, .int p2), (3, .int q101)]) E dX9_joinedTo_104 3 rfl e104 (Nat.le_of_ble_eq_true rfl) rfl ?_
      refine aw_goto (tgt := 7) E dX9_joinedTo_107 rfl ?_
      refine aw_sub (L1 := [(0, .ref (wad (WY g) 0)), (2, .int p2), (3, .int q101), (4, .int x103)]) [1, 2, 3, 0] rfl ?_
      exact ih q101 x103 M _ hh kx
set_option maxHeartbeats 4000000 in
set_option maxRecDepth 100000 in
theorem ctX9_joinedTo (l : Launch) (g : CtxG) (a1 : Int32) (a2 : Int32) (M : Mem) (r0 : Int32) (h : FX9_joinedTo a1 a2 M = some r0) : Ct l (WY g) yX9_joinedTo cX9_joinedTo 7 (some .int) 1 [.ref (wad (WY g) 0), .int a1, .int a2] M (some (.int r0), M) := by
  refine Ct.of (by decide) (Nat.le_of_ble_eq_true rfl) (fun Y hY E => ?_)
  have E : EV Y (WY g) cX9_joinedTo 7 (some .int) RX9 := E
  have h : FX9_joinedTo a1 a2 M = some r0 := h
  unfold FX9_joinedTo at h
  show AW Y (WY g) _ 7 1 0 [(0, .ref (wad (WY g) 0)), (1, .int a1), (2, .int a2)] [] M
  obtain ⟨r, hr⟩ : ∃ r : Option Value × Mem, r = (some (.int r0), M) := ⟨_, rfl⟩
  rw [← hr]
  refine aw_iconst (v := 1) E dX9_joinedTo_0 (by decide) ?_
  refine aw_iload_n E dX9_joinedTo_1 1 rfl ?_
  refine aw_ishl E dX9_joinedTo_2 ?_
  obtain ⟨x1, e2, h⟩ := lt_e h
  refine aw_nmI e2 ?_
  refine aw_istore_n (L1 := [(3, .int x1), (0, .ref (wad (WY g) 0)), (1, .int a1), (2, .int a2)]) E dX9_joinedTo_3 (Nat.le_of_ble_eq_true rfl) rfl ?_
  refine aw_iconst (v := 0) E dX9_joinedTo_4 (by decide) ?_
  refine aw_istore (L1 := [(4, .int 0), (3, .int x1), (0, .ref (wad (WY g) 0)), (1, .int a1), (2, .int a2)]) E dX9_joinedTo_5 (Nat.le_of_ble_eq_true rfl) rfl ?_
  obtain ⟨q3, e4, h⟩ := bd_e h
  refine aw_sub (L1 := [(0, .ref (wad (WY g) 0)), (2, .int a2), (3, .int x1), (4, .int 0)]) [2, 4, 1, 0] rfl ?_
  refine lpX9_joinedTo_7 E   a2 FU x1 0 M q3 e4 ?_
  refine aw_iload_n E dX9_joinedTo_110 0 rfl ?_
  replace h := Option.some.inj h
  subst h
  exact aw_iret E dX9_joinedTo_111 hr
def FX9_bonds_L4 : Nat → Int32 → Int32 → Mem → Option (Int32)
  | 0, _, _, _ => none
  | f + 1, p1, p2, M =>
    if (M.1 0 3) ≤ p2 then
      some p1
    else
      gi p2 13 <|
      ob (FX9_joinedTo (M.1 2 (Int32.toNatClampNeg p2)) ((1 : Int32) <<< (p2 &&& 31)) M) fun q102 =>
      gi p2 13 <|
      lt (α := Int32) (if ((q102 >>> ((M.1 3 (Int32.toNatClampNeg p2)) &&& 31)) &&& 1) = 0 then
        (1 : Int32) <<< (p2 &&& 31)
      else
        0) fun q105 =>
      lt (α := Int32) (p1 ||| q105) fun x108 =>
      lt (α := Int32) (p2 + 1) fun x110 =>
      FX9_bonds_L4 f  x108 x110 M
def FX9_bonds  (M : Mem) : Option (Int32) :=
  ob (FX9_bonds_L4 FU 0 0 M) fun q1 =>
  some q1
set_option maxHeartbeats 4000000 in
set_option maxRecDepth 100000 in
theorem lpX9_bonds_4 {Y : CtxM} {g : CtxG} {r : Option Value × Mem} (E : EV Y (WY g) cX9_bonds 3 (some .int) RX9) : ∀ (f : Nat) (p1 : Int32) (p2 : Int32) (M : Mem) (q : Int32), FX9_bonds_L4 f  p1 p2 M = some q → AW Y (WY g) r 3 2 53 [(1, .int q)] [] M → AW Y (WY g) r 3 2 4 [(0, .ref (wad (WY g) 0)), (1, .int p1), (2, .int p2)] [] M := by
  intro f
  induction f with
  | zero => intro p1 p2 M q hh; exact absurd hh (fun z => nomatch (show (none : Option (Int32)) = some q from z))
  | succ f ih =>
    intro p1 p2 M q hh kx
    rw [FX9_bonds_L4] at hh
    refine aw_iload_n E dX9_bonds_4 2 rfl ?_
    refine aw_aload_n E dX9_bonds_5 0 rfl ?_
    refine aw_getI E flX9_92 (Nat.le_of_ble_eq_true rfl) rfl rfl dX9_bonds_6 ?_
    refine aw_icmp_ge (tgt := 53) E dX9_bonds_9 rfl (fun c9 => ?_) (fun c9 => ?_)
    ·
      replace hh := ip c9 hh
      refine aw_sub (L1 := [(1, .int p1)]) [1] rfl ?_
      replace hh := Option.some.inj hh
      subst hh
      exact kx
    ·
      replace hh := iq c9 hh
      refine aw_iload_n E dX9_bonds_12 1 rfl ?_
      refine aw_aload_n E dX9_bonds_13 0 rfl ?_
      refine aw_aload_n E dX9_bonds_14 0 rfl ?_
      refine aw_getR (q := 2) E flX9_17 (Nat.le_of_ble_eq_true rfl) rfl rfl dX9_bonds_15 ?_
      refine aw_iload_n E dX9_bonds_18 2 rfl ?_
      obtain ⟨g101, hh⟩ := gi_e hh
      refine aw_iald E (Nat.le_of_ble_eq_true rfl) rfl g101 dX9_bonds_19 ?_
      refine aw_iconst (v := 1) E dX9_bonds_20 (by decide) ?_
      refine aw_iload_n E dX9_bonds_21 2 rfl ?_
      refine aw_ishl E dX9_bonds_22 ?_
      obtain ⟨q102, e103, hh⟩ := bd_e hh
      refine aw_callVi (S := [.int p1]) E mvX9_joinedTo mlX9_291 (Nat.le_of_ble_eq_true rfl) rfl rfl rfl (ctX9_joinedTo (yl Y) g (M.1 2 (Int32.toNatClampNeg p2)) ((1 : Int32) <<< (p2 &&& 31))  M q102 e103) rfl (Nat.le_of_ble_eq_true rfl) (Nat.le_of_ble_eq_true rfl) dX9_bonds_23 ?_
      refine aw_aload_n E dX9_bonds_26 0 rfl ?_
      refine aw_getR (q := 3) E flX9_20 (Nat.le_of_ble_eq_true rfl) rfl rfl dX9_bonds_27 ?_
      refine aw_iload_n E dX9_bonds_30 2 rfl ?_
      obtain ⟨g104, hh⟩ := gi_e hh
      refine aw_iald E (Nat.le_of_ble_eq_true rfl) rfl g104 dX9_bonds_31 ?_
      refine aw_ishr E dX9_bonds_32 ?_
      refine aw_iconst (v := 1) E dX9_bonds_33 (by decide) ?_
      refine aw_iand E dX9_bonds_34 ?_
      obtain ⟨q105, e106, hh⟩ := lt_e hh
      have J107 : AW Y (WY g) r 3 2 45 [(0, .ref (wad (WY g) 0)), (2, .int p2)] [.int q105, .int p1] M := by
        refine aw_ior E dX9_bonds_45 ?_
        obtain ⟨x108, e109, hh⟩ := lt_e hh
        refine aw_nmI e109 ?_
        refine aw_istore_n (L1 := [(1, .int x108), (0, .ref (wad (WY g) 0)), (2, .int p2)]) E dX9_bonds_46 (Nat.le_of_ble_eq_true rfl) rfl ?_
        obtain ⟨x110, e111, hh⟩ := lt_e hh
        refine aw_iinc (v := x110) (L1 := [(2, .int x110), (1, .int x108), (0, .ref (wad (WY g) 0))]) E dX9_bonds_47 2 rfl e111 (Nat.le_of_ble_eq_true rfl) rfl ?_
        refine aw_goto (tgt := 4) E dX9_bonds_50 rfl ?_
        refine aw_sub (L1 := [(0, .ref (wad (WY g) 0)), (1, .int x108), (2, .int x110)]) [2, 1, 0] rfl ?_
        exact ih x108 x110 M _ hh kx
      refine aw_if_ne (tgt := 44) E dX9_bonds_35 rfl (fun c35 => ?_) (fun c35 => ?_)
      ·
        replace e106 := iq c35 e106
        refine aw_iconst (v := 0) E dX9_bonds_44 (by decide) ?_
        refine aw_sub (L1 := [(0, .ref (wad (WY g) 0)), (2, .int p2)]) [0, 2] rfl ?_
        subst e106
        exact J107
      ·
        replace e106 := ip c35 e106
        refine aw_iconst (v := 1) E dX9_bonds_38 (by decide) ?_
        refine aw_iload_n E dX9_bonds_39 2 rfl ?_
        refine aw_ishl E dX9_bonds_40 ?_
        refine aw_goto (tgt := 45) E dX9_bonds_41 rfl ?_
        refine aw_sub (L1 := [(0, .ref (wad (WY g) 0)), (2, .int p2)]) [0, 2] rfl ?_
        subst e106
        exact J107
set_option maxHeartbeats 4000000 in
set_option maxRecDepth 100000 in
theorem ctX9_bonds (l : Launch) (g : CtxG)  (M : Mem) (r0 : Int32) (h : FX9_bonds M = some r0) : Ct l (WY g) yX9_bonds cX9_bonds 3 (some .int) 2 [.ref (wad (WY g) 0)] M (some (.int r0), M) := by
  refine Ct.of (by decide) (Nat.le_of_ble_eq_true rfl) (fun Y hY E => ?_)
  have E : EV Y (WY g) cX9_bonds 3 (some .int) RX9 := E
  have h : FX9_bonds  M = some r0 := h
  unfold FX9_bonds at h
  show AW Y (WY g) _ 3 2 0 [(0, .ref (wad (WY g) 0))] [] M
  obtain ⟨r, hr⟩ : ∃ r : Option Value × Mem, r = (some (.int r0), M) := ⟨_, rfl⟩
  rw [← hr]
  refine aw_iconst (v := 0) E dX9_bonds_0 (by decide) ?_
  refine aw_istore_n (L1 := [(1, .int 0), (0, .ref (wad (WY g) 0))]) E dX9_bonds_1 (Nat.le_of_ble_eq_true rfl) rfl ?_
  refine aw_iconst (v := 0) E dX9_bonds_2 (by decide) ?_
  refine aw_istore_n (L1 := [(2, .int 0), (1, .int 0), (0, .ref (wad (WY g) 0))]) E dX9_bonds_3 (Nat.le_of_ble_eq_true rfl) rfl ?_
  obtain ⟨q1, e2, h⟩ := bd_e h
  refine aw_sub (L1 := [(0, .ref (wad (WY g) 0)), (1, .int 0), (2, .int 0)]) [2, 1, 0] rfl ?_
  refine lpX9_bonds_4 E    FU 0 0 M q1 e2 ?_
  refine aw_iload_n E dX9_bonds_53 0 rfl ?_
  replace h := Option.some.inj h
  subst h
  exact aw_iret E dX9_bonds_54 hr
def FX9_bond (a1 : Int32) (a2 : Int32) (M : Mem) : Option (Int32) :=
  ob (FX9_isCorner a1) fun q1 =>
  if q1 = 0 then
    some (-5)
  else
    if a2 = 0 then
      ob (FX9_bonds M) fun q7 =>
      some q7
    else
      if a2 = 1 then
        ob (FX9_bonds M) fun q3 =>
        ob (FX9_joinedTo a1 q3 M) fun q5 =>
        some q5
      else
        some (-7)
set_option maxHeartbeats 4000000 in
set_option maxRecDepth 100000 in
theorem ctX9_bond (l : Launch) (g : CtxG) (a1 : Int32) (a2 : Int32) (M : Mem) (r0 : Int32) (h : FX9_bond a1 a2 M = some r0) : Ct l (WY g) yX9_bond cX9_bond 3 (some .int) 3 [.ref (wad (WY g) 0), .int a1, .int a2] M (some (.int r0), M) := by
  refine Ct.of (by decide) (Nat.le_of_ble_eq_true rfl) (fun Y hY E => ?_)
  have E : EV Y (WY g) cX9_bond 3 (some .int) RX9 := E
  have h : FX9_bond a1 a2 M = some r0 := h
  unfold FX9_bond at h
  show AW Y (WY g) _ 3 3 0 [(0, .ref (wad (WY g) 0)), (1, .int a1), (2, .int a2)] [] M
  obtain ⟨r, hr⟩ : ∃ r : Option Value × Mem, r = (some (.int r0), M) := ⟨_, rfl⟩
  rw [← hr]
  refine aw_iload_n E dX9_bond_0 1 rfl ?_
  obtain ⟨q1, e2, h⟩ := bd_e h
  refine aw_callSi (S := []) E msX9_isCorner mlX9_254 rfl (ctX9_isCorner (yl Y) g a1  M q1 e2) rfl (Nat.le_of_ble_eq_true rfl) (Nat.le_of_ble_eq_true rfl) dX9_bond_1 ?_
  refine aw_if_ne (tgt := 10) E dX9_bond_4 rfl (fun c4 => ?_) (fun c4 => ?_)
  ·
    replace h := iq c4 h
    refine aw_iload_n E dX9_bond_10 2 rfl ?_
    refine aw_if_ne (tgt := 21) E dX9_bond_11 rfl (fun c11 => ?_) (fun c11 => ?_)
    ·
      replace h := iq c11 h
      refine aw_iload_n E dX9_bond_21 2 rfl ?_
      refine aw_iconst (v := 1) E dX9_bond_22 (by decide) ?_
      refine aw_icmp_ne (tgt := 38) E dX9_bond_23 rfl (fun c23 => ?_) (fun c23 => ?_)
      ·
        replace h := iq c23 h
        refine aw_bipush (v := (-7)) E dX9_bond_38 (by decide) ?_
        replace h := Option.some.inj h
        subst h
        exact aw_iret E dX9_bond_40 hr
      ·
        replace h := ip c23 h
        refine aw_aload_n E dX9_bond_26 0 rfl ?_
        refine aw_iload_n E dX9_bond_27 1 rfl ?_
        refine aw_aload_n E dX9_bond_28 0 rfl ?_
        obtain ⟨q3, e4, h⟩ := bd_e h
        refine aw_callVi (S := [.int a1, .ref (wad (WY g) 0)]) E mvX9_bonds mlX9_294 (Nat.le_of_ble_eq_true rfl) rfl rfl rfl (ctX9_bonds (yl Y) g   M q3 e4) rfl (Nat.le_of_ble_eq_true rfl) (Nat.le_of_ble_eq_true rfl) dX9_bond_29 ?_
        obtain ⟨q5, e6, h⟩ := bd_e h
        refine aw_callVi (S := []) E mvX9_joinedTo mlX9_291 (Nat.le_of_ble_eq_true rfl) rfl rfl rfl (ctX9_joinedTo (yl Y) g a1 q3  M q5 e6) rfl (Nat.le_of_ble_eq_true rfl) (Nat.le_of_ble_eq_true rfl) dX9_bond_32 ?_
        refine aw_goto (tgt := 40) E dX9_bond_35 rfl ?_
        replace h := Option.some.inj h
        subst h
        exact aw_iret E dX9_bond_40 hr
    ·
      replace h := ip c11 h
      refine aw_aload_n E dX9_bond_14 0 rfl ?_
      obtain ⟨q7, e8, h⟩ := bd_e h
      refine aw_callVi (S := []) E mvX9_bonds mlX9_294 (Nat.le_of_ble_eq_true rfl) rfl rfl rfl (ctX9_bonds (yl Y) g   M q7 e8) rfl (Nat.le_of_ble_eq_true rfl) (Nat.le_of_ble_eq_true rfl) dX9_bond_15 ?_
      refine aw_goto (tgt := 40) E dX9_bond_18 rfl ?_
      replace h := Option.some.inj h
      subst h
      exact aw_iret E dX9_bond_40 hr
  ·
    replace h := ip c4 h
    refine aw_bipush (v := (-5)) E dX9_bond_7 (by decide) ?_
    replace h := Option.some.inj h
    subst h
    exact aw_iret E dX9_bond_9 hr
def FX9_bondsAt_L5 : Nat → Int32 → Int32 → Int32 → Int32 → Mem → Option (Int32)
  | 0, _, _, _, _, _ => none
  | f + 1, p1, p2, p3, p4, M =>
    if (M.1 0 3) ≤ p4 then
      some p3
    else
      ob (α := Int32) (if ((p2 >>> (p4 &&& 31)) &&& 1) = 1 then
        gi p4 13 <|
        gi p4 13 <|
        some (((p1 >>> ((M.1 2 (Int32.toNatClampNeg p4)) &&& 31)) &&& 1) + ((p1 >>> ((M.1 3 (Int32.toNatClampNeg p4)) &&& 31)) &&& 1))
      else
        some 0) fun q101 =>
      lt (α := Int32) (p3 + q101) fun x104 =>
      lt (α := Int32) (p4 + 1) fun x106 =>
      FX9_bondsAt_L5 f p1 p2 x104 x106 M
def FX9_bondsAt (a1 : Int32) (a2 : Int32) (M : Mem) : Option (Int32) :=
  ob (FX9_bondsAt_L5 FU a1 a2 0 0 M) fun q1 =>
  some q1
set_option maxHeartbeats 4000000 in
set_option maxRecDepth 100000 in
theorem lpX9_bondsAt_5 {Y : CtxM} {g : CtxG} {r : Option Value × Mem} (E : EV Y (WY g) cX9_bondsAt 5 (some .int) RX9) (p1 : Int32) (p2 : Int32) : ∀ (f : Nat) (p3 : Int32) (p4 : Int32) (M : Mem) (q : Int32), FX9_bondsAt_L5 f p1 p2 p3 p4 M = some q → AW Y (WY g) r 5 1 60 [(3, .int q)] [] M → AW Y (WY g) r 5 1 5 [(0, .ref (wad (WY g) 0)), (1, .int p1), (2, .int p2), (3, .int p3), (4, .int p4)] [] M := by
  intro f
  induction f with
  | zero => intro p3 p4 M q hh; exact absurd hh (fun z => nomatch (show (none : Option (Int32)) = some q from z))
  | succ f ih =>
    intro p3 p4 M q hh kx
    rw [FX9_bondsAt_L5] at hh
    refine aw_iload E dX9_bondsAt_5 4 rfl ?_
    refine aw_aload_n E dX9_bondsAt_7 0 rfl ?_
    refine aw_getI E flX9_92 (Nat.le_of_ble_eq_true rfl) rfl rfl dX9_bondsAt_8 ?_
    refine aw_icmp_ge (tgt := 60) E dX9_bondsAt_11 rfl (fun c11 => ?_) (fun c11 => ?_)
    ·
      replace hh := ip c11 hh
      refine aw_sub (L1 := [(3, .int p3)]) [3] rfl ?_
      replace hh := Option.some.inj hh
      subst hh
      exact kx
    ·
      replace hh := iq c11 hh
      refine aw_iload_n E dX9_bondsAt_14 3 rfl ?_
      refine aw_iload_n E dX9_bondsAt_15 2 rfl ?_
      refine aw_iload E dX9_bondsAt_16 4 rfl ?_
      refine aw_ishr E dX9_bondsAt_18 ?_
      refine aw_iconst (v := 1) E dX9_bondsAt_19 (by decide) ?_
      refine aw_iand E dX9_bondsAt_20 ?_
      refine aw_iconst (v := 1) E dX9_bondsAt_21 (by decide) ?_
      obtain ⟨q101, e102, hh⟩ := bd_e hh
      have J103 : AW Y (WY g) r 5 1 52 [(0, .ref (wad (WY g) 0)), (1, .int p1), (2, .int p2), (4, .int p4)] [.int q101, .int p3] M := by
        refine aw_iadd E dX9_bondsAt_52 ?_
        obtain ⟨x104, e105, hh⟩ := lt_e hh
        refine aw_nmI e105 ?_
        refine aw_istore_n (L1 := [(3, .int x104), (0, .ref (wad (WY g) 0)), (1, .int p1), (2, .int p2), (4, .int p4)]) E dX9_bondsAt_53 (Nat.le_of_ble_eq_true rfl) rfl ?_
        obtain ⟨x106, e107, hh⟩ := lt_e hh
        refine aw_iinc (v := x106) (L1 := [(4, .int x106), (3, .int x104), (0, .ref (wad (WY g) 0)), (1, .int p1), (2, .int p2)]) E dX9_bondsAt_54 4 rfl e107 (Nat.le_of_ble_eq_true rfl) rfl ?_
        refine aw_goto (tgt := 5) E dX9_bondsAt_57 rfl ?_
        refine aw_sub (L1 := [(0, .ref (wad (WY g) 0)), (1, .int p1), (2, .int p2), (3, .int x104), (4, .int x106)]) [2, 3, 4, 1, 0] rfl ?_
        exact ih x104 x106 M _ hh kx
      refine aw_icmp_ne (tgt := 51) E dX9_bondsAt_22 rfl (fun c22 => ?_) (fun c22 => ?_)
      ·
        replace e102 := iq c22 e102
        refine aw_iconst (v := 0) E dX9_bondsAt_51 (by decide) ?_
        refine aw_sub (L1 := [(0, .ref (wad (WY g) 0)), (1, .int p1), (2, .int p2), (4, .int p4)]) [0, 1, 2, 4] rfl ?_
        replace e102 := Option.some.inj e102
        subst e102
        exact J103
      ·
        replace e102 := ip c22 e102
        refine aw_iload_n E dX9_bondsAt_25 1 rfl ?_
        refine aw_aload_n E dX9_bondsAt_26 0 rfl ?_
        refine aw_getR (q := 2) E flX9_17 (Nat.le_of_ble_eq_true rfl) rfl rfl dX9_bondsAt_27 ?_
        refine aw_iload E dX9_bondsAt_30 4 rfl ?_
        obtain ⟨g108, e102⟩ := gi_e e102
        refine aw_iald E (Nat.le_of_ble_eq_true rfl) rfl g108 dX9_bondsAt_32 ?_
        refine aw_ishr E dX9_bondsAt_33 ?_
        refine aw_iconst (v := 1) E dX9_bondsAt_34 (by decide) ?_
        refine aw_iand E dX9_bondsAt_35 ?_
        refine aw_iload_n E dX9_bondsAt_36 1 rfl ?_
        refine aw_aload_n E dX9_bondsAt_37 0 rfl ?_
        refine aw_getR (q := 3) E flX9_20 (Nat.le_of_ble_eq_true rfl) rfl rfl dX9_bondsAt_38 ?_
        refine aw_iload E dX9_bondsAt_41 4 rfl ?_
        obtain ⟨g109, e102⟩ := gi_e e102
        refine aw_iald E (Nat.le_of_ble_eq_true rfl) rfl g109 dX9_bondsAt_43 ?_
        refine aw_ishr E dX9_bondsAt_44 ?_
        refine aw_iconst (v := 1) E dX9_bondsAt_45 (by decide) ?_
        refine aw_iand E dX9_bondsAt_46 ?_
        refine aw_iadd E dX9_bondsAt_47 ?_
        refine aw_goto (tgt := 52) E dX9_bondsAt_48 rfl ?_
        refine aw_sub (L1 := [(0, .ref (wad (WY g) 0)), (1, .int p1), (2, .int p2), (4, .int p4)]) [0, 1, 2, 4] rfl ?_
        replace e102 := Option.some.inj e102
        subst e102
        exact J103
set_option maxHeartbeats 4000000 in
set_option maxRecDepth 100000 in
theorem ctX9_bondsAt (l : Launch) (g : CtxG) (a1 : Int32) (a2 : Int32) (M : Mem) (r0 : Int32) (h : FX9_bondsAt a1 a2 M = some r0) : Ct l (WY g) yX9_bondsAt cX9_bondsAt 5 (some .int) 1 [.ref (wad (WY g) 0), .int a1, .int a2] M (some (.int r0), M) := by
  refine Ct.of (by decide) (Nat.le_of_ble_eq_true rfl) (fun Y hY E => ?_)
  have E : EV Y (WY g) cX9_bondsAt 5 (some .int) RX9 := E
  have h : FX9_bondsAt a1 a2 M = some r0 := h
  unfold FX9_bondsAt at h
  show AW Y (WY g) _ 5 1 0 [(0, .ref (wad (WY g) 0)), (1, .int a1), (2, .int a2)] [] M
  obtain ⟨r, hr⟩ : ∃ r : Option Value × Mem, r = (some (.int r0), M) := ⟨_, rfl⟩
  rw [← hr]
  refine aw_iconst (v := 0) E dX9_bondsAt_0 (by decide) ?_
  refine aw_istore_n (L1 := [(3, .int 0), (0, .ref (wad (WY g) 0)), (1, .int a1), (2, .int a2)]) E dX9_bondsAt_1 (Nat.le_of_ble_eq_true rfl) rfl ?_
  refine aw_iconst (v := 0) E dX9_bondsAt_2 (by decide) ?_
  refine aw_istore (L1 := [(4, .int 0), (3, .int 0), (0, .ref (wad (WY g) 0)), (1, .int a1), (2, .int a2)]) E dX9_bondsAt_3 (Nat.le_of_ble_eq_true rfl) rfl ?_
  obtain ⟨q1, e2, h⟩ := bd_e h
  refine aw_sub (L1 := [(0, .ref (wad (WY g) 0)), (1, .int a1), (2, .int a2), (3, .int 0), (4, .int 0)]) [2, 3, 4, 1, 0] rfl ?_
  refine lpX9_bondsAt_5 E   a1 a2 FU 0 0 M q1 e2 ?_
  refine aw_iload_n E dX9_bondsAt_60 0 rfl ?_
  replace h := Option.some.inj h
  subst h
  exact aw_iret E dX9_bondsAt_61 hr
def FX9_built_L4 : Nat → Int32 → Int32 → Mem → Option (Int32)
  | 0, _, _, _ => none
  | f + 1, p1, p2, M =>
    if (M.1 0 3) ≤ p2 then
      some p1
    else
      gi p2 13 <|
      gi p2 13 <|
      lt (α := Int32) (p1 ||| (((1 : Int32) <<< ((M.1 2 (Int32.toNatClampNeg p2)) &&& 31)) ||| ((1 : Int32) <<< ((M.1 3 (Int32.toNatClampNeg p2)) &&& 31)))) fun x103 =>
      lt (α := Int32) (p2 + 1) fun x105 =>
      FX9_built_L4 f  x103 x105 M
def FX9_built  (M : Mem) : Option (Int32) :=
  ob (FX9_built_L4 FU 0 0 M) fun q1 =>
  some q1
set_option maxHeartbeats 4000000 in
set_option maxRecDepth 100000 in
theorem lpX9_built_4 {Y : CtxM} {g : CtxG} {r : Option Value × Mem} (E : EV Y (WY g) cX9_built 3 (some .int) RX9) : ∀ (f : Nat) (p1 : Int32) (p2 : Int32) (M : Mem) (q : Int32), FX9_built_L4 f  p1 p2 M = some q → AW Y (WY g) r 3 1 38 [(1, .int q)] [] M → AW Y (WY g) r 3 1 4 [(0, .ref (wad (WY g) 0)), (1, .int p1), (2, .int p2)] [] M := by
  intro f
  induction f with
  | zero => intro p1 p2 M q hh; exact absurd hh (fun z => nomatch (show (none : Option (Int32)) = some q from z))
  | succ f ih =>
    intro p1 p2 M q hh kx
    rw [FX9_built_L4] at hh
    refine aw_iload_n E dX9_built_4 2 rfl ?_
    refine aw_aload_n E dX9_built_5 0 rfl ?_
    refine aw_getI E flX9_92 (Nat.le_of_ble_eq_true rfl) rfl rfl dX9_built_6 ?_
    refine aw_icmp_ge (tgt := 38) E dX9_built_9 rfl (fun c9 => ?_) (fun c9 => ?_)
    ·
      replace hh := ip c9 hh
      refine aw_sub (L1 := [(1, .int p1)]) [1] rfl ?_
      replace hh := Option.some.inj hh
      subst hh
      exact kx
    ·
      replace hh := iq c9 hh
      refine aw_iload_n E dX9_built_12 1 rfl ?_
      refine aw_iconst (v := 1) E dX9_built_13 (by decide) ?_
      refine aw_aload_n E dX9_built_14 0 rfl ?_
      refine aw_getR (q := 2) E flX9_17 (Nat.le_of_ble_eq_true rfl) rfl rfl dX9_built_15 ?_
      refine aw_iload_n E dX9_built_18 2 rfl ?_
      obtain ⟨g101, hh⟩ := gi_e hh
      refine aw_iald E (Nat.le_of_ble_eq_true rfl) rfl g101 dX9_built_19 ?_
      refine aw_ishl E dX9_built_20 ?_
      refine aw_iconst (v := 1) E dX9_built_21 (by decide) ?_
      refine aw_aload_n E dX9_built_22 0 rfl ?_
      refine aw_getR (q := 3) E flX9_20 (Nat.le_of_ble_eq_true rfl) rfl rfl dX9_built_23 ?_
      refine aw_iload_n E dX9_built_26 2 rfl ?_
      obtain ⟨g102, hh⟩ := gi_e hh
      refine aw_iald E (Nat.le_of_ble_eq_true rfl) rfl g102 dX9_built_27 ?_
      refine aw_ishl E dX9_built_28 ?_
      refine aw_ior E dX9_built_29 ?_
      refine aw_ior E dX9_built_30 ?_
      obtain ⟨x103, e104, hh⟩ := lt_e hh
      refine aw_nmI e104 ?_
      refine aw_istore_n (L1 := [(1, .int x103), (0, .ref (wad (WY g) 0)), (2, .int p2)]) E dX9_built_31 (Nat.le_of_ble_eq_true rfl) rfl ?_
      obtain ⟨x105, e106, hh⟩ := lt_e hh
      refine aw_iinc (v := x105) (L1 := [(2, .int x105), (1, .int x103), (0, .ref (wad (WY g) 0))]) E dX9_built_32 2 rfl e106 (Nat.le_of_ble_eq_true rfl) rfl ?_
      refine aw_goto (tgt := 4) E dX9_built_35 rfl ?_
      refine aw_sub (L1 := [(0, .ref (wad (WY g) 0)), (1, .int x103), (2, .int x105)]) [2, 1, 0] rfl ?_
      exact ih x103 x105 M _ hh kx
set_option maxHeartbeats 4000000 in
set_option maxRecDepth 100000 in
theorem ctX9_built (l : Launch) (g : CtxG)  (M : Mem) (r0 : Int32) (h : FX9_built M = some r0) : Ct l (WY g) yX9_built cX9_built 3 (some .int) 1 [.ref (wad (WY g) 0)] M (some (.int r0), M) := by
  refine Ct.of (by decide) (Nat.le_of_ble_eq_true rfl) (fun Y hY E => ?_)
  have E : EV Y (WY g) cX9_built 3 (some .int) RX9 := E
  have h : FX9_built  M = some r0 := h
  unfold FX9_built at h
  show AW Y (WY g) _ 3 1 0 [(0, .ref (wad (WY g) 0))] [] M
  obtain ⟨r, hr⟩ : ∃ r : Option Value × Mem, r = (some (.int r0), M) := ⟨_, rfl⟩
  rw [← hr]
  refine aw_iconst (v := 0) E dX9_built_0 (by decide) ?_
  refine aw_istore_n (L1 := [(1, .int 0), (0, .ref (wad (WY g) 0))]) E dX9_built_1 (Nat.le_of_ble_eq_true rfl) rfl ?_
  refine aw_iconst (v := 0) E dX9_built_2 (by decide) ?_
  refine aw_istore_n (L1 := [(2, .int 0), (1, .int 0), (0, .ref (wad (WY g) 0))]) E dX9_built_3 (Nat.le_of_ble_eq_true rfl) rfl ?_
  obtain ⟨q1, e2, h⟩ := bd_e h
  refine aw_sub (L1 := [(0, .ref (wad (WY g) 0)), (1, .int 0), (2, .int 0)]) [2, 1, 0] rfl ?_
  refine lpX9_built_4 E    FU 0 0 M q1 e2 ?_
  refine aw_iload_n E dX9_built_38 0 rfl ?_
  replace h := Option.some.inj h
  subst h
  exact aw_iret E dX9_built_39 hr
def FX9_finds_L99 : Nat → Int32 → Int32 → Int32 → Int32 → Int32 → Int32 → Int32 → Mem → Option (Int32)
  | 0, _, _, _, _, _, _, _, _ => none
  | f + 1, p3, p4, p5, p6, p7, p8, p9, M =>
    if p9 < 0 then
      some p8
    else
      ob (α := Int32) (if ((p7 >>> (p9 &&& 31)) &&& 1) = 1 then
        some (-1)
      else
        ob (FX9_sideOf p9 p4 M) fun q131 =>
        some q131) fun q101 =>
      ob (α := Int32) (if q101 = (-1) then
        some 0
      else
        gi (((4 * p9) + (2 * p6)) + q101) 52 <|
        some (M.1 17 (Int32.toNatClampNeg (((4 * p9) + (2 * p6)) + q101)))) fun q104 =>
      ob (α := Bool) (if q104 ≤ 0 then
        some false
      else
        ob (FX9_beyond p9 q101 M) fun q128 =>
        if (FX9_mayCome q128 p5 M) = 0 then some false else some true) fun b107 =>
      if b107 = true then
        ob (FX9_beyond p9 q101 M) fun q111 =>
        gi ((9 * (p3 ||| ((1 : Int32) <<< (p9 &&& 31)))) + q111) 73728 <|
        lt (α := Int32) (M.1 20 (Int32.toNatClampNeg ((9 * (p3 ||| ((1 : Int32) <<< (p9 &&& 31)))) + q111))) fun x114 =>
        ob (α := Bool) (if x114 = (-1) then
          some false
        else
          gi ((9 * p3) + p4) 73728 <|
          if (x114 + q104) = (M.1 20 (Int32.toNatClampNeg ((9 * p3) + p4))) then some true else some false) fun b116 =>
        lt (α := Int32) (if b116 = true then
          p9
        else
          p8) fun q118 =>
        lt (α := Int32) (p9 + (-1)) fun x121 =>
        FX9_finds_L99 f p3 p4 p5 p6 p7 q118 x121 M
      else
        lt (α := Int32) (p9 + (-1)) fun x126 =>
        FX9_finds_L99 f p3 p4 p5 p6 p7 p8 x126 M
def FX9_finds_L37 : Nat → Int32 → Int32 → Int32 → Mem → Option (Mem)
  | 0, _, _, _, _ => none
  | f + 1, p2, p3, p4, M =>
    gi ((9 * p3) + p4) 73728 <|
    if (M.1 20 (Int32.toNatClampNeg ((9 * p3) + p4))) ≤ 0 then
      some M
    else
      ob (FX9_passedBy p3 M) fun q102 =>
      lt (α := Bool) (if p2 = (-1) then false else if ((q102 >>> (p2 &&& 31)) &&& 1) = 1 then true else false) fun b104 =>
      lt (α := Int32) (if b104 = true then
        1
      else
        0) fun q106 =>
      ob (FX9_spentBy p3 M) fun q109 =>
      lt (α := Int32) ((M.1 0 40) - 1) fun x111 =>
      ob (FX9_finds_L99 FU p3 p4 q102 q106 q109 (-1) x111 M) fun q113 =>
      gi (M.1 0 44) 12 <|
      lt (wr M 21 (Int32.toNatClampNeg (M.1 0 44)) q113) fun M116 =>
      lt (wr M116 0 44 ((M116.1 0 44) + 1)) fun M118 =>
      ob (FX9_sideOf q113 p4 M118) fun q120 =>
      ob (FX9_beyond q113 q120 M118) fun q122 =>
      lt (α := Int32) (p3 ||| ((1 : Int32) <<< (q113 &&& 31))) fun x124 =>
      FX9_finds_L37 f p2 x124 q122 M118
def FX9_finds (a1 : Int32) (a2 : Int32) (M : Mem) : Option (Int32 × Mem) :=
  ob (FX9_looks 0 M) fun q1 =>
  ob (FX9_backward a1 a2 q1) fun q3 =>
  lt (wr q3 0 44 0) fun M5 =>
  gi (M5.1 0 0) 73728 <|
  lt (wr M5 0 45 (M5.1 20 (Int32.toNatClampNeg (M5.1 0 0)))) fun M8 =>
  lt (α := Int32) (M8.1 0 0) fun x10 =>
  ob (FX9_finds_L37 FU a2 0 x10 M8) fun q12 =>
  if (q12.1 0 45) = (-1) then
    some (0, q12)
  else
    some (1, q12)
set_option maxHeartbeats 4000000 in
set_option maxRecDepth 100000 in
theorem lpX9_finds_99 {Y : CtxM} {g : CtxG} {r : Option Value × Mem} (E : EV Y (WY g) cX9_finds 13 (some .boolean) RX9) (p2 : Int32) (p3 : Int32) (p4 : Int32) (p5 : Int32) (p6 : Int32) (p7 : Int32) : ∀ (f : Nat) (p8 : Int32) (p9 : Int32) (M : Mem) (q : Int32), FX9_finds_L99 f p3 p4 p5 p6 p7 p8 p9 M = some q → AW Y (WY g) r 13 5 246 [(0, .ref (wad (WY g) 0)), (2, .int p2), (3, .int p3), (4, .int p4), (8, .int q)] [] M → AW Y (WY g) r 13 5 99 [(0, .ref (wad (WY g) 0)), (2, .int p2), (3, .int p3), (4, .int p4), (5, .int p5), (6, .int p6), (7, .int p7), (8, .int p8), (9, .int p9)] [] M := by
  intro f
  induction f with
  | zero => intro p8 p9 M q hh; exact absurd hh (fun z => nomatch (show (none : Option (Int32)) = some q from z))
  | succ f ih =>
    intro p8 p9 M q hh kx
    rw [FX9_finds_L99] at hh
    refine aw_iload E dX9_finds_99 8 rfl ?_
    refine aw_if_lt (tgt := 246) E dX9_finds_101 rfl (fun c101 => ?_) (fun c101 => ?_)
    ·
      replace hh := ip c101 hh
      refine aw_sub (L1 := [(0, .ref (wad (WY g) 0)), (2, .int p2), (3, .int p3), (4, .int p4), (8, .int p8)]) [0, 1, 2, 3, 7] rfl ?_
      replace hh := Option.some.inj hh
      subst hh
      exact kx
    ·
      replace hh := iq c101 hh
      refine aw_iload E dX9_finds_104 6 rfl ?_
      refine aw_iload E dX9_finds_106 8 rfl ?_
      refine aw_ishr E dX9_finds_108 ?_
      refine aw_iconst (v := 1) E dX9_finds_109 (by decide) ?_
      refine aw_iand E dX9_finds_110 ?_
      refine aw_iconst (v := 1) E dX9_finds_111 (by decide) ?_
      obtain ⟨q101, e102, hh⟩ := bd_e hh
      have J103 : AW Y (WY g) r 13 5 127 [(0, .ref (wad (WY g) 0)), (2, .int p2), (3, .int p3), (4, .int p4), (5, .int p5), (6, .int p6), (7, .int p7), (8, .int p8), (9, .int p9)] [.int q101] M := by
        refine aw_istore (L1 := [(10, .int q101), (0, .ref (wad (WY g) 0)), (2, .int p2), (3, .int p3), (4, .int p4), (5, .int p5), (6, .int p6), (7, .int p7), (8, .int p8), (9, .int p9)]) E dX9_finds_127 (Nat.le_of_ble_eq_true rfl) rfl ?_
        refine aw_iload E dX9_finds_129 0 rfl ?_
        refine aw_iconst (v := (-1)) E dX9_finds_131 (by decide) ?_
        obtain ⟨q104, e105, hh⟩ := bd_e hh
        have J106 : AW Y (WY g) r 13 5 156 [(0, .ref (wad (WY g) 0)), (2, .int p2), (3, .int p3), (4, .int p4), (5, .int p5), (6, .int p6), (7, .int p7), (8, .int p8), (9, .int p9), (10, .int q101)] [.int q104] M := by
          refine aw_istore (L1 := [(11, .int q104), (0, .ref (wad (WY g) 0)), (2, .int p2), (3, .int p3), (4, .int p4), (5, .int p5), (6, .int p6), (7, .int p7), (8, .int p8), (9, .int p9), (10, .int q101)]) E dX9_finds_156 (Nat.le_of_ble_eq_true rfl) rfl ?_
          refine aw_iload E dX9_finds_158 0 rfl ?_
          obtain ⟨b107, e108, hh⟩ := bd_e hh
          have J109 : b107 = true → AW Y (WY g) r 13 5 180 [(11, .int q104), (0, .ref (wad (WY g) 0)), (2, .int p2), (3, .int p3), (4, .int p4), (5, .int p5), (6, .int p6), (7, .int p7), (8, .int p8), (9, .int p9), (10, .int q101)] [] M := fun hb => by
            replace hh := ip hb hh
            refine aw_aload_n E dX9_finds_180 1 rfl ?_
            refine aw_getR (q := 20) E flX9_72 (Nat.le_of_ble_eq_true rfl) rfl rfl dX9_finds_181 ?_
            refine aw_bipush (v := 9) E dX9_finds_184 (by decide) ?_
            refine aw_iload_n E dX9_finds_186 3 rfl ?_
            refine aw_iconst (v := 1) E dX9_finds_187 (by decide) ?_
            refine aw_iload E dX9_finds_188 9 rfl ?_
            refine aw_ishl E dX9_finds_190 ?_
            refine aw_ior E dX9_finds_191 ?_
            refine aw_imul E dX9_finds_192 ?_
            refine aw_aload_n E dX9_finds_193 1 rfl ?_
            refine aw_iload E dX9_finds_194 9 rfl ?_
            refine aw_iload E dX9_finds_196 10 rfl ?_
            obtain ⟨q111, e112, hh⟩ := bd_e hh
            refine aw_callVi (S := [.int (9 * (p3 ||| ((1 : Int32) <<< (p9 &&& 31)))), .ref (wad (WY g) 20)]) E mvX9_beyond mlX9_217 (Nat.le_of_ble_eq_true rfl) rfl rfl rfl (ctX9_beyond (yl Y) g p9 q101  M q111 e112) rfl (Nat.le_of_ble_eq_true rfl) (Nat.le_of_ble_eq_true rfl) dX9_finds_198 ?_
            refine aw_iadd E dX9_finds_201 ?_
            obtain ⟨g113, hh⟩ := gi_e hh
            refine aw_iald E (Nat.le_of_ble_eq_true rfl) rfl g113 dX9_finds_202 ?_
            obtain ⟨x114, e115, hh⟩ := lt_e hh
            refine aw_nmI e115 ?_
            refine aw_istore (L1 := [(12, .int x114), (11, .int q104), (0, .ref (wad (WY g) 0)), (2, .int p2), (3, .int p3), (4, .int p4), (5, .int p5), (6, .int p6), (7, .int p7), (8, .int p8), (9, .int p9), (10, .int q101)]) E dX9_finds_203 (Nat.le_of_ble_eq_true rfl) rfl ?_
            refine aw_iload E dX9_finds_205 0 rfl ?_
            refine aw_iconst (v := (-1)) E dX9_finds_207 (by decide) ?_
            obtain ⟨b116, e117, hh⟩ := bd_e hh
            obtain ⟨q118, e119, hh⟩ := lt_e hh
            have J120 : AW Y (WY g) r 13 5 238 [(0, .ref (wad (WY g) 0)), (2, .int p2), (3, .int p3), (4, .int p4), (5, .int p5), (6, .int p6), (7, .int p7), (9, .int p9)] [.int q118] M := by
              refine aw_istore (L1 := [(8, .int q118), (0, .ref (wad (WY g) 0)), (2, .int p2), (3, .int p3), (4, .int p4), (5, .int p5), (6, .int p6), (7, .int p7), (9, .int p9)]) E dX9_finds_238 (Nat.le_of_ble_eq_true rfl) rfl ?_
              obtain ⟨x121, e122, hh⟩ := lt_e hh
              refine aw_iinc (v := x121) (L1 := [(9, .int x121), (8, .int q118), (0, .ref (wad (WY g) 0)), (2, .int p2), (3, .int p3), (4, .int p4), (5, .int p5), (6, .int p6), (7, .int p7)]) E dX9_finds_240 8 rfl e122 (Nat.le_of_ble_eq_true rfl) rfl ?_
              refine aw_goto (tgt := 99) E dX9_finds_243 rfl ?_
              refine aw_sub (L1 := [(0, .ref (wad (WY g) 0)), (2, .int p2), (3, .int p3), (4, .int p4), (5, .int p5), (6, .int p6), (7, .int p7), (8, .int q118), (9, .int x121)]) [2, 3, 4, 5, 6, 7, 8, 1, 0] rfl ?_
              exact ih q118 x121 M _ hh kx
            have J123 : b116 = true → AW Y (WY g) r 13 5 231 [(12, .int x114), (11, .int q104), (0, .ref (wad (WY g) 0)), (2, .int p2), (3, .int p3), (4, .int p4), (5, .int p5), (6, .int p6), (7, .int p7), (8, .int p8), (9, .int p9), (10, .int q101)] [] M := fun hb => by
              replace e119 := ip hb e119
              refine aw_iload E dX9_finds_231 10 rfl ?_
              refine aw_goto (tgt := 238) E dX9_finds_233 rfl ?_
              refine aw_sub (L1 := [(0, .ref (wad (WY g) 0)), (2, .int p2), (3, .int p3), (4, .int p4), (5, .int p5), (6, .int p6), (7, .int p7), (9, .int p9)]) [2, 3, 4, 5, 6, 7, 8, 10] rfl ?_
              subst e119
              exact J120
            have J124 : b116 = false → AW Y (WY g) r 13 5 236 [(12, .int x114), (11, .int q104), (0, .ref (wad (WY g) 0)), (2, .int p2), (3, .int p3), (4, .int p4), (5, .int p5), (6, .int p6), (7, .int p7), (8, .int p8), (9, .int p9), (10, .int q101)] [] M := fun hb => by
              replace e119 := iq (bf hb) e119
              refine aw_iload E dX9_finds_236 9 rfl ?_
              refine aw_sub (L1 := [(0, .ref (wad (WY g) 0)), (2, .int p2), (3, .int p3), (4, .int p4), (5, .int p5), (6, .int p6), (7, .int p7), (9, .int p9)]) [2, 3, 4, 5, 6, 7, 8, 10] rfl ?_
              subst e119
              exact J120
            refine aw_icmp_eq (tgt := 236) E dX9_finds_208 rfl (fun c208 => ?_) (fun c208 => ?_)
            ·
              replace e117 := ip c208 e117
              replace e117 := Option.some.inj e117
              subst e117
              exact J124 rfl
            ·
              replace e117 := iq c208 e117
              refine aw_iload E dX9_finds_211 0 rfl ?_
              refine aw_iload E dX9_finds_213 1 rfl ?_
              refine aw_iadd E dX9_finds_215 ?_
              refine aw_aload_n E dX9_finds_216 2 rfl ?_
              refine aw_getR (q := 20) E flX9_72 (Nat.le_of_ble_eq_true rfl) rfl rfl dX9_finds_217 ?_
              refine aw_bipush (v := 9) E dX9_finds_220 (by decide) ?_
              refine aw_iload_n E dX9_finds_222 4 rfl ?_
              refine aw_imul E dX9_finds_223 ?_
              refine aw_iload E dX9_finds_224 5 rfl ?_
              refine aw_iadd E dX9_finds_226 ?_
              obtain ⟨g125, e117⟩ := gi_e e117
              refine aw_iald E (Nat.le_of_ble_eq_true rfl) rfl g125 dX9_finds_227 ?_
              refine aw_icmp_ne (tgt := 236) E dX9_finds_228 rfl (fun c228 => ?_) (fun c228 => ?_)
              ·
                replace e117 := iq c228 e117
                replace e117 := Option.some.inj e117
                subst e117
                exact J124 rfl
              ·
                replace e117 := ip c228 e117
                replace e117 := Option.some.inj e117
                subst e117
                exact J123 rfl
          have J110 : b107 = false → AW Y (WY g) r 13 5 240 [(11, .int q104), (0, .ref (wad (WY g) 0)), (2, .int p2), (3, .int p3), (4, .int p4), (5, .int p5), (6, .int p6), (7, .int p7), (8, .int p8), (9, .int p9), (10, .int q101)] [] M := fun hb => by
            replace hh := iq (bf hb) hh
            obtain ⟨x126, e127, hh⟩ := lt_e hh
            refine aw_iinc (v := x126) (L1 := [(9, .int x126), (11, .int q104), (0, .ref (wad (WY g) 0)), (2, .int p2), (3, .int p3), (4, .int p4), (5, .int p5), (6, .int p6), (7, .int p7), (8, .int p8), (10, .int q101)]) E dX9_finds_240 9 rfl e127 (Nat.le_of_ble_eq_true rfl) rfl ?_
            refine aw_goto (tgt := 99) E dX9_finds_243 rfl ?_
            refine aw_sub (L1 := [(0, .ref (wad (WY g) 0)), (2, .int p2), (3, .int p3), (4, .int p4), (5, .int p5), (6, .int p6), (7, .int p7), (8, .int p8), (9, .int x126)]) [2, 3, 4, 5, 6, 7, 8, 9, 0] rfl ?_
            exact ih p8 x126 M _ hh kx
          refine aw_if_le (tgt := 240) E dX9_finds_160 rfl (fun c160 => ?_) (fun c160 => ?_)
          ·
            replace e108 := ip c160 e108
            replace e108 := Option.some.inj e108
            subst e108
            exact J110 rfl
          ·
            replace e108 := iq c160 e108
            refine aw_aload_n E dX9_finds_163 1 rfl ?_
            refine aw_aload_n E dX9_finds_164 1 rfl ?_
            refine aw_iload E dX9_finds_165 9 rfl ?_
            refine aw_iload E dX9_finds_167 10 rfl ?_
            obtain ⟨q128, e129, e108⟩ := bd_e e108
            refine aw_callVi (S := [.ref (wad (WY g) 0)]) E mvX9_beyond mlX9_217 (Nat.le_of_ble_eq_true rfl) rfl rfl rfl (ctX9_beyond (yl Y) g p9 q101  M q128 e129) rfl (Nat.le_of_ble_eq_true rfl) (Nat.le_of_ble_eq_true rfl) dX9_finds_169 ?_
            refine aw_iload E dX9_finds_172 5 rfl ?_
            refine aw_callVi (S := []) E mvX9_mayCome mlX9_220 (Nat.le_of_ble_eq_true rfl) rfl rfl rfl (ctX9_mayCome (yl Y) g q128 p5  M ) rfl (Nat.le_of_ble_eq_true rfl) (Nat.le_of_ble_eq_true rfl) dX9_finds_174 ?_
            refine aw_if_eq (tgt := 240) E dX9_finds_177 rfl (fun c177 => ?_) (fun c177 => ?_)
            ·
              replace e108 := ip c177 e108
              replace e108 := Option.some.inj e108
              subst e108
              exact J110 rfl
            ·
              replace e108 := iq c177 e108
              replace e108 := Option.some.inj e108
              subst e108
              exact J109 rfl
        refine aw_icmp_ne (tgt := 139) E dX9_finds_132 rfl (fun c132 => ?_) (fun c132 => ?_)
        ·
          replace e105 := iq c132 e105
          refine aw_aload_n E dX9_finds_139 1 rfl ?_
          refine aw_getR (q := 17) E flX9_62 (Nat.le_of_ble_eq_true rfl) rfl rfl dX9_finds_140 ?_
          refine aw_iconst (v := 4) E dX9_finds_143 (by decide) ?_
          refine aw_iload E dX9_finds_144 9 rfl ?_
          refine aw_imul E dX9_finds_146 ?_
          refine aw_iconst (v := 2) E dX9_finds_147 (by decide) ?_
          refine aw_iload E dX9_finds_148 6 rfl ?_
          refine aw_imul E dX9_finds_150 ?_
          refine aw_iadd E dX9_finds_151 ?_
          refine aw_iload E dX9_finds_152 0 rfl ?_
          refine aw_iadd E dX9_finds_154 ?_
          obtain ⟨g130, e105⟩ := gi_e e105
          refine aw_iald E (Nat.le_of_ble_eq_true rfl) rfl g130 dX9_finds_155 ?_
          refine aw_sub (L1 := [(0, .ref (wad (WY g) 0)), (2, .int p2), (3, .int p3), (4, .int p4), (5, .int p5), (6, .int p6), (7, .int p7), (8, .int p8), (9, .int p9), (10, .int q101)]) [1, 2, 3, 4, 5, 6, 7, 8, 9, 0] rfl ?_
          replace e105 := Option.some.inj e105
          subst e105
          exact J106
        ·
          replace e105 := ip c132 e105
          refine aw_iconst (v := 0) E dX9_finds_135 (by decide) ?_
          refine aw_goto (tgt := 156) E dX9_finds_136 rfl ?_
          refine aw_sub (L1 := [(0, .ref (wad (WY g) 0)), (2, .int p2), (3, .int p3), (4, .int p4), (5, .int p5), (6, .int p6), (7, .int p7), (8, .int p8), (9, .int p9), (10, .int q101)]) [1, 2, 3, 4, 5, 6, 7, 8, 9, 0] rfl ?_
          replace e105 := Option.some.inj e105
          subst e105
          exact J106
      refine aw_icmp_ne (tgt := 119) E dX9_finds_112 rfl (fun c112 => ?_) (fun c112 => ?_)
      ·
        replace e102 := iq c112 e102
        refine aw_aload_n E dX9_finds_119 0 rfl ?_
        refine aw_iload E dX9_finds_120 8 rfl ?_
        refine aw_iload E dX9_finds_122 3 rfl ?_
        obtain ⟨q131, e132, e102⟩ := bd_e e102
        refine aw_callVi (S := []) E mvX9_sideOf mlX9_214 (Nat.le_of_ble_eq_true rfl) rfl rfl rfl (ctX9_sideOf (yl Y) g p9 p4  M q131 e132) rfl (Nat.le_of_ble_eq_true rfl) (Nat.le_of_ble_eq_true rfl) dX9_finds_124 ?_
        refine aw_sub (L1 := [(0, .ref (wad (WY g) 0)), (2, .int p2), (3, .int p3), (4, .int p4), (5, .int p5), (6, .int p6), (7, .int p7), (8, .int p8), (9, .int p9)]) [0, 1, 2, 3, 4, 5, 6, 7, 8] rfl ?_
        replace e102 := Option.some.inj e102
        subst e102
        exact J103
      ·
        replace e102 := ip c112 e102
        refine aw_iconst (v := (-1)) E dX9_finds_115 (by decide) ?_
        refine aw_goto (tgt := 127) E dX9_finds_116 rfl ?_
        refine aw_sub (L1 := [(0, .ref (wad (WY g) 0)), (2, .int p2), (3, .int p3), (4, .int p4), (5, .int p5), (6, .int p6), (7, .int p7), (8, .int p8), (9, .int p9)]) [0, 1, 2, 3, 4, 5, 6, 7, 8] rfl ?_
        replace e102 := Option.some.inj e102
        subst e102
        exact J103
set_option maxHeartbeats 4000000 in
set_option maxRecDepth 100000 in
theorem lpX9_finds_37 {Y : CtxM} {g : CtxG} {r : Option Value × Mem} (E : EV Y (WY g) cX9_finds 13 (some .boolean) RX9) (p2 : Int32) : ∀ (f : Nat) (p3 : Int32) (p4 : Int32) (M : Mem) (q : Mem), FX9_finds_L37 f p2 p3 p4 M = some q → AW Y (WY g) r 13 5 293 [(0, .ref (wad (WY g) 0))] [] q → AW Y (WY g) r 13 5 37 [(0, .ref (wad (WY g) 0)), (2, .int p2), (3, .int p3), (4, .int p4)] [] M := by
  intro f
  induction f with
  | zero => intro p3 p4 M q hh; exact absurd hh (fun z => nomatch (show (none : Option (Mem)) = some q from z))
  | succ f ih =>
    intro p3 p4 M q hh kx
    rw [FX9_finds_L37] at hh
    refine aw_aload_n E dX9_finds_37 0 rfl ?_
    refine aw_getR (q := 20) E flX9_72 (Nat.le_of_ble_eq_true rfl) rfl rfl dX9_finds_38 ?_
    refine aw_bipush (v := 9) E dX9_finds_41 (by decide) ?_
    refine aw_iload_n E dX9_finds_43 2 rfl ?_
    refine aw_imul E dX9_finds_44 ?_
    refine aw_iload E dX9_finds_45 3 rfl ?_
    refine aw_iadd E dX9_finds_47 ?_
    obtain ⟨g101, hh⟩ := gi_e hh
    refine aw_iald E (Nat.le_of_ble_eq_true rfl) rfl g101 dX9_finds_48 ?_
    refine aw_if_le (tgt := 293) E dX9_finds_49 rfl (fun c49 => ?_) (fun c49 => ?_)
    ·
      replace hh := ip c49 hh
      refine aw_sub (L1 := [(0, .ref (wad (WY g) 0))]) [0] rfl ?_
      replace hh := Option.some.inj hh
      subst hh
      exact kx
    ·
      replace hh := iq c49 hh
      refine aw_aload_n E dX9_finds_52 0 rfl ?_
      refine aw_iload_n E dX9_finds_53 2 rfl ?_
      obtain ⟨q102, e103, hh⟩ := bd_e hh
      refine aw_callVi (S := []) E mvX9_passedBy mlX9_227 (Nat.le_of_ble_eq_true rfl) rfl rfl rfl (ctX9_passedBy (yl Y) g p3  M q102 e103) rfl (Nat.le_of_ble_eq_true rfl) (Nat.le_of_ble_eq_true rfl) dX9_finds_54 ?_
      refine aw_istore (L1 := [(5, .int q102), (0, .ref (wad (WY g) 0)), (2, .int p2), (3, .int p3), (4, .int p4)]) E dX9_finds_57 (Nat.le_of_ble_eq_true rfl) rfl ?_
      refine aw_iload_n E dX9_finds_59 2 rfl ?_
      refine aw_iconst (v := (-1)) E dX9_finds_60 (by decide) ?_
      obtain ⟨b104, e105, hh⟩ := lt_e hh
      obtain ⟨q106, e107, hh⟩ := lt_e hh
      have J108 : AW Y (WY g) r 13 5 79 [(0, .ref (wad (WY g) 0)), (2, .int p2), (3, .int p3), (4, .int p4), (5, .int q102)] [.int q106] M := by
        refine aw_istore (L1 := [(6, .int q106), (0, .ref (wad (WY g) 0)), (2, .int p2), (3, .int p3), (4, .int p4), (5, .int q102)]) E dX9_finds_79 (Nat.le_of_ble_eq_true rfl) rfl ?_
        refine aw_aload_n E dX9_finds_81 1 rfl ?_
        refine aw_iload_n E dX9_finds_82 3 rfl ?_
        obtain ⟨q109, e110, hh⟩ := bd_e hh
        refine aw_callVi (S := []) E mvX9_spentBy mlX9_224 (Nat.le_of_ble_eq_true rfl) rfl rfl rfl (ctX9_spentBy (yl Y) g p3  M q109 e110) rfl (Nat.le_of_ble_eq_true rfl) (Nat.le_of_ble_eq_true rfl) dX9_finds_83 ?_
        refine aw_istore (L1 := [(7, .int q109), (6, .int q106), (0, .ref (wad (WY g) 0)), (2, .int p2), (3, .int p3), (4, .int p4), (5, .int q102)]) E dX9_finds_86 (Nat.le_of_ble_eq_true rfl) rfl ?_
        refine aw_iconst (v := (-1)) E dX9_finds_88 (by decide) ?_
        refine aw_istore (L1 := [(8, .int (-1)), (7, .int q109), (6, .int q106), (0, .ref (wad (WY g) 0)), (2, .int p2), (3, .int p3), (4, .int p4), (5, .int q102)]) E dX9_finds_89 (Nat.le_of_ble_eq_true rfl) rfl ?_
        refine aw_aload_n E dX9_finds_91 3 rfl ?_
        refine aw_getI E flX9_211 (Nat.le_of_ble_eq_true rfl) rfl rfl dX9_finds_92 ?_
        refine aw_iconst (v := 1) E dX9_finds_95 (by decide) ?_
        refine aw_isub E dX9_finds_96 ?_
        obtain ⟨x111, e112, hh⟩ := lt_e hh
        refine aw_nmI e112 ?_
        refine aw_istore (L1 := [(9, .int x111), (8, .int (-1)), (7, .int q109), (6, .int q106), (0, .ref (wad (WY g) 0)), (2, .int p2), (3, .int p3), (4, .int p4), (5, .int q102)]) E dX9_finds_97 (Nat.le_of_ble_eq_true rfl) rfl ?_
        obtain ⟨q113, e114, hh⟩ := bd_e hh
        refine aw_sub (L1 := [(0, .ref (wad (WY g) 0)), (2, .int p2), (3, .int p3), (4, .int p4), (5, .int q102), (6, .int q106), (7, .int q109), (8, .int (-1)), (9, .int x111)]) [4, 5, 6, 7, 8, 3, 2, 1, 0] rfl ?_
        refine lpX9_finds_99 E   p2 p3 p4 q102 q106 q109 FU (-1) x111 M q113 e114 ?_
        refine aw_aload_n E dX9_finds_246 0 rfl ?_
        refine aw_getR (q := 21) E flX9_75 (Nat.le_of_ble_eq_true rfl) rfl rfl dX9_finds_247 ?_
        refine aw_aload_n E dX9_finds_250 0 rfl ?_
        refine aw_getI E flX9_248 (Nat.le_of_ble_eq_true rfl) rfl rfl dX9_finds_251 ?_
        refine aw_iload E dX9_finds_254 4 rfl ?_
        obtain ⟨g115, hh⟩ := gi_e hh
        obtain ⟨M116, e117, hh⟩ := lt_e hh
        refine aw_iast1 e117 E (Nat.le_of_ble_eq_true rfl) rfl g115 dX9_finds_256 ?_
        refine aw_aload_n E dX9_finds_257 0 rfl ?_
        refine aw_dup E dX9_finds_258 rfl ?_
        refine aw_getI E flX9_248 (Nat.le_of_ble_eq_true rfl) rfl rfl dX9_finds_259 ?_
        refine aw_iconst (v := 1) E dX9_finds_262 (by decide) ?_
        refine aw_iadd E dX9_finds_263 ?_
        obtain ⟨M118, e119, hh⟩ := lt_e hh
        refine aw_putI1 e119 E flX9_248 (Nat.le_of_ble_eq_true rfl) rfl rfl nr_int dX9_finds_264 ?_
        refine aw_aload_n E dX9_finds_267 0 rfl ?_
        refine aw_iload E dX9_finds_268 4 rfl ?_
        refine aw_aload_n E dX9_finds_270 0 rfl ?_
        refine aw_iload E dX9_finds_271 4 rfl ?_
        refine aw_iload E dX9_finds_273 3 rfl ?_
        obtain ⟨q120, e121, hh⟩ := bd_e hh
        refine aw_callVi (S := [.int q113, .ref (wad (WY g) 0)]) E mvX9_sideOf mlX9_214 (Nat.le_of_ble_eq_true rfl) rfl rfl rfl (ctX9_sideOf (yl Y) g q113 p4  M118 q120 e121) rfl (Nat.le_of_ble_eq_true rfl) (Nat.le_of_ble_eq_true rfl) dX9_finds_275 ?_
        obtain ⟨q122, e123, hh⟩ := bd_e hh
        refine aw_callVi (S := []) E mvX9_beyond mlX9_217 (Nat.le_of_ble_eq_true rfl) rfl rfl rfl (ctX9_beyond (yl Y) g q113 q120  M118 q122 e123) rfl (Nat.le_of_ble_eq_true rfl) (Nat.le_of_ble_eq_true rfl) dX9_finds_278 ?_
        refine aw_istore (L1 := [(4, .int q122), (0, .ref (wad (WY g) 0)), (2, .int p2), (3, .int p3), (8, .int q113)]) E dX9_finds_281 (Nat.le_of_ble_eq_true rfl) rfl ?_
        refine aw_iload_n E dX9_finds_283 3 rfl ?_
        refine aw_iconst (v := 1) E dX9_finds_284 (by decide) ?_
        refine aw_iload E dX9_finds_285 4 rfl ?_
        refine aw_ishl E dX9_finds_287 ?_
        refine aw_ior E dX9_finds_288 ?_
        obtain ⟨x124, e125, hh⟩ := lt_e hh
        refine aw_nmI e125 ?_
        refine aw_istore_n (L1 := [(3, .int x124), (4, .int q122), (0, .ref (wad (WY g) 0)), (2, .int p2), (8, .int q113)]) E dX9_finds_289 (Nat.le_of_ble_eq_true rfl) rfl ?_
        refine aw_goto (tgt := 37) E dX9_finds_290 rfl ?_
        refine aw_sub (L1 := [(0, .ref (wad (WY g) 0)), (2, .int p2), (3, .int x124), (4, .int q122)]) [2, 3, 0, 1] rfl ?_
        exact ih x124 q122 M118 _ hh kx
      have J126 : b104 = true → AW Y (WY g) r 13 5 74 [(5, .int q102), (0, .ref (wad (WY g) 0)), (2, .int p2), (3, .int p3), (4, .int p4)] [] M := fun hb => by
        replace e107 := ip hb e107
        refine aw_iconst (v := 1) E dX9_finds_74 (by decide) ?_
        refine aw_goto (tgt := 79) E dX9_finds_75 rfl ?_
        refine aw_sub (L1 := [(0, .ref (wad (WY g) 0)), (2, .int p2), (3, .int p3), (4, .int p4), (5, .int q102)]) [1, 2, 3, 4, 0] rfl ?_
        subst e107
        exact J108
      have J127 : b104 = false → AW Y (WY g) r 13 5 78 [(5, .int q102), (0, .ref (wad (WY g) 0)), (2, .int p2), (3, .int p3), (4, .int p4)] [] M := fun hb => by
        replace e107 := iq (bf hb) e107
        refine aw_iconst (v := 0) E dX9_finds_78 (by decide) ?_
        refine aw_sub (L1 := [(0, .ref (wad (WY g) 0)), (2, .int p2), (3, .int p3), (4, .int p4), (5, .int q102)]) [1, 2, 3, 4, 0] rfl ?_
        subst e107
        exact J108
      refine aw_icmp_eq (tgt := 78) E dX9_finds_61 rfl (fun c61 => ?_) (fun c61 => ?_)
      ·
        replace e105 := ip c61 e105
        subst e105
        exact J127 rfl
      ·
        replace e105 := iq c61 e105
        refine aw_iload E dX9_finds_64 0 rfl ?_
        refine aw_iload_n E dX9_finds_66 2 rfl ?_
        refine aw_ishr E dX9_finds_67 ?_
        refine aw_iconst (v := 1) E dX9_finds_68 (by decide) ?_
        refine aw_iand E dX9_finds_69 ?_
        refine aw_iconst (v := 1) E dX9_finds_70 (by decide) ?_
        refine aw_icmp_ne (tgt := 78) E dX9_finds_71 rfl (fun c71 => ?_) (fun c71 => ?_)
        ·
          replace e105 := iq c71 e105
          subst e105
          exact J127 rfl
        ·
          replace e105 := ip c71 e105
          subst e105
          exact J126 rfl
set_option maxHeartbeats 4000000 in
set_option maxRecDepth 100000 in
theorem ctX9_finds (l : Launch) (g : CtxG) (a1 : Int32) (a2 : Int32) (M : Mem) (r0 : Int32 × Mem) (h : FX9_finds a1 a2 M = some r0) : Ct l (WY g) yX9_finds cX9_finds 13 (some .boolean) 5 [.ref (wad (WY g) 0), .int a1, .int a2] M (some (.int r0.1), r0.2) := by
  refine Ct.of (by decide) (Nat.le_of_ble_eq_true rfl) (fun Y hY E => ?_)
  have E : EV Y (WY g) cX9_finds 13 (some .boolean) RX9 := E
  have h : FX9_finds a1 a2 M = some r0 := h
  unfold FX9_finds at h
  show AW Y (WY g) _ 13 5 0 [(0, .ref (wad (WY g) 0)), (1, .int a1), (2, .int a2)] [] M
  obtain ⟨r, hr⟩ : ∃ r : Option Value × Mem, r = (some (.int r0.1), r0.2) := ⟨_, rfl⟩
  rw [← hr]
  refine aw_aload_n E dX9_finds_0 0 rfl ?_
  refine aw_iconst (v := 0) E dX9_finds_1 (by decide) ?_
  obtain ⟨q1, e2, h⟩ := bd_e h
  refine aw_callVv (S := []) E mvX9_looks mlX9_241 (Nat.le_of_ble_eq_true rfl) rfl rfl rfl (ctX9_looks (yl Y) g 0  M q1 e2) rfl (Nat.le_of_ble_eq_true rfl) (Nat.le_of_ble_eq_true rfl) dX9_finds_2 ?_
  refine aw_aload_n E dX9_finds_5 0 rfl ?_
  refine aw_iload_n E dX9_finds_6 1 rfl ?_
  refine aw_iload_n E dX9_finds_7 2 rfl ?_
  obtain ⟨q3, e4, h⟩ := bd_e h
  refine aw_callVv (S := []) E mvX9_backward mlX9_245 (Nat.le_of_ble_eq_true rfl) rfl rfl rfl (ctX9_backward (yl Y) g a1 a2  q1 q3 e4) rfl (Nat.le_of_ble_eq_true rfl) (Nat.le_of_ble_eq_true rfl) dX9_finds_8 ?_
  refine aw_aload_n E dX9_finds_11 0 rfl ?_
  refine aw_iconst (v := 0) E dX9_finds_12 (by decide) ?_
  obtain ⟨M5, e6, h⟩ := lt_e h
  refine aw_putI1 e6 E flX9_248 (Nat.le_of_ble_eq_true rfl) rfl rfl nr_int dX9_finds_13 ?_
  refine aw_aload_n E dX9_finds_16 0 rfl ?_
  refine aw_aload_n E dX9_finds_17 0 rfl ?_
  refine aw_getR (q := 20) E flX9_72 (Nat.le_of_ble_eq_true rfl) rfl rfl dX9_finds_18 ?_
  refine aw_aload_n E dX9_finds_21 0 rfl ?_
  refine aw_getI E flX9_99 (Nat.le_of_ble_eq_true rfl) rfl rfl dX9_finds_22 ?_
  obtain ⟨g7, h⟩ := gi_e h
  refine aw_iald E (Nat.le_of_ble_eq_true rfl) rfl g7 dX9_finds_25 ?_
  obtain ⟨M8, e9, h⟩ := lt_e h
  refine aw_putI1 e9 E flX9_251 (Nat.le_of_ble_eq_true rfl) rfl rfl nr_int dX9_finds_26 ?_
  refine aw_iconst (v := 0) E dX9_finds_29 (by decide) ?_
  refine aw_istore_n (L1 := [(3, .int 0), (0, .ref (wad (WY g) 0)), (1, .int a1), (2, .int a2)]) E dX9_finds_30 (Nat.le_of_ble_eq_true rfl) rfl ?_
  refine aw_aload_n E dX9_finds_31 1 rfl ?_
  refine aw_getI E flX9_99 (Nat.le_of_ble_eq_true rfl) rfl rfl dX9_finds_32 ?_
  obtain ⟨x10, e11, h⟩ := lt_e h
  refine aw_nmI e11 ?_
  refine aw_istore (L1 := [(4, .int x10), (3, .int 0), (0, .ref (wad (WY g) 0)), (1, .int a1), (2, .int a2)]) E dX9_finds_35 (Nat.le_of_ble_eq_true rfl) rfl ?_
  obtain ⟨q12, e13, h⟩ := bd_e h
  refine aw_sub (L1 := [(0, .ref (wad (WY g) 0)), (2, .int a2), (3, .int 0), (4, .int x10)]) [2, 4, 1, 0] rfl ?_
  refine lpX9_finds_37 E   a2 FU 0 x10 M8 q12 e13 ?_
  refine aw_aload_n E dX9_finds_293 0 rfl ?_
  refine aw_getI E flX9_251 (Nat.le_of_ble_eq_true rfl) rfl rfl dX9_finds_294 ?_
  refine aw_iconst (v := (-1)) E dX9_finds_297 (by decide) ?_
  refine aw_icmp_eq (tgt := 305) E dX9_finds_298 rfl (fun c298 => ?_) (fun c298 => ?_)
  ·
    replace h := ip c298 h
    refine aw_iconst (v := 0) E dX9_finds_305 (by decide) ?_
    replace h := Option.some.inj h
    subst h
    exact aw_zret E (by decide) dX9_finds_306 hr
  ·
    replace h := iq c298 h
    refine aw_iconst (v := 1) E dX9_finds_301 (by decide) ?_
    refine aw_goto (tgt := 306) E dX9_finds_302 rfl ?_
    replace h := Option.some.inj h
    subst h
    exact aw_zret E (by decide) dX9_finds_306 hr
def FX9_told4_L11 : Nat → Int32 → Int32 → Mem → Option (Int32)
  | 0, _, _, _ => none
  | f + 1, p3, p4, M =>
    if (M.1 0 44) ≤ p4 then
      some p3
    else
      gi p4 12 <|
      lt (α := Int32) (p3 ||| ((1 : Int32) <<< ((M.1 21 (Int32.toNatClampNeg p4)) &&& 31))) fun x102 =>
      lt (α := Int32) (p4 + 1) fun x104 =>
      FX9_told4_L11 f  x102 x104 M
def FX9_told4 (a1 : Int32) (a2 : Int32) (M : Mem) : Option (Int32) :=
  if a1 = 0 then
    some (-1)
  else
    ob (FX9_told4_L11 FU 0 0 M) fun q1 =>
    if a2 = 0 then
      some (M.1 0 45)
    else
      if a2 = 1 then
        some q1
      else
        if a2 = 2 then
          gi 0 12 <|
          some (M.1 21 (Int32.toNatClampNeg 0))
        else
          some (M.1 0 44)
set_option maxHeartbeats 4000000 in
set_option maxRecDepth 100000 in
theorem lpX9_told4_11 {Y : CtxM} {g : CtxG} {r : Option Value × Mem} (E : EV Y (WY g) cX9_told4 5 (some .int) RX9) (p2 : Int32) : ∀ (f : Nat) (p3 : Int32) (p4 : Int32) (M : Mem) (q : Int32), FX9_told4_L11 f  p3 p4 M = some q → AW Y (WY g) r 5 1 38 [(0, .ref (wad (WY g) 0)), (2, .int p2), (3, .int q)] [] M → AW Y (WY g) r 5 1 11 [(0, .ref (wad (WY g) 0)), (2, .int p2), (3, .int p3), (4, .int p4)] [] M := by
  intro f
  induction f with
  | zero => intro p3 p4 M q hh; exact absurd hh (fun z => nomatch (show (none : Option (Int32)) = some q from z))
  | succ f ih =>
    intro p3 p4 M q hh kx
    rw [FX9_told4_L11] at hh
    refine aw_iload E dX9_told4_11 3 rfl ?_
    refine aw_aload_n E dX9_told4_13 0 rfl ?_
    refine aw_getI E flX9_248 (Nat.le_of_ble_eq_true rfl) rfl rfl dX9_told4_14 ?_
    refine aw_icmp_ge (tgt := 38) E dX9_told4_17 rfl (fun c17 => ?_) (fun c17 => ?_)
    ·
      replace hh := ip c17 hh
      refine aw_sub (L1 := [(0, .ref (wad (WY g) 0)), (2, .int p2), (3, .int p3)]) [0, 1, 2] rfl ?_
      replace hh := Option.some.inj hh
      subst hh
      exact kx
    ·
      replace hh := iq c17 hh
      refine aw_iload_n E dX9_told4_20 2 rfl ?_
      refine aw_iconst (v := 1) E dX9_told4_21 (by decide) ?_
      refine aw_aload_n E dX9_told4_22 0 rfl ?_
      refine aw_getR (q := 21) E flX9_75 (Nat.le_of_ble_eq_true rfl) rfl rfl dX9_told4_23 ?_
      refine aw_iload E dX9_told4_26 3 rfl ?_
      obtain ⟨g101, hh⟩ := gi_e hh
      refine aw_iald E (Nat.le_of_ble_eq_true rfl) rfl g101 dX9_told4_28 ?_
      refine aw_ishl E dX9_told4_29 ?_
      refine aw_ior E dX9_told4_30 ?_
      obtain ⟨x102, e103, hh⟩ := lt_e hh
      refine aw_nmI e103 ?_
      refine aw_istore_n (L1 := [(3, .int x102), (0, .ref (wad (WY g) 0)), (2, .int p2), (4, .int p4)]) E dX9_told4_31 (Nat.le_of_ble_eq_true rfl) rfl ?_
      obtain ⟨x104, e105, hh⟩ := lt_e hh
      refine aw_iinc (v := x104) (L1 := [(4, .int x104), (3, .int x102), (0, .ref (wad (WY g) 0)), (2, .int p2)]) E dX9_told4_32 3 rfl e105 (Nat.le_of_ble_eq_true rfl) rfl ?_
      refine aw_goto (tgt := 11) E dX9_told4_35 rfl ?_
      refine aw_sub (L1 := [(0, .ref (wad (WY g) 0)), (2, .int p2), (3, .int x102), (4, .int x104)]) [2, 3, 1, 0] rfl ?_
      exact ih x102 x104 M _ hh kx
set_option maxHeartbeats 4000000 in
set_option maxRecDepth 100000 in
theorem ctX9_told4 (l : Launch) (g : CtxG) (a1 : Int32) (a2 : Int32) (M : Mem) (r0 : Int32) (h : FX9_told4 a1 a2 M = some r0) : Ct l (WY g) yX9_told4 cX9_told4 5 (some .int) 1 [.ref (wad (WY g) 0), .int a1, .int a2] M (some (.int r0), M) := by
  refine Ct.of (by decide) (Nat.le_of_ble_eq_true rfl) (fun Y hY E => ?_)
  have E : EV Y (WY g) cX9_told4 5 (some .int) RX9 := E
  have h : FX9_told4 a1 a2 M = some r0 := h
  unfold FX9_told4 at h
  show AW Y (WY g) _ 5 1 0 [(0, .ref (wad (WY g) 0)), (1, .int a1), (2, .int a2)] [] M
  obtain ⟨r, hr⟩ : ∃ r : Option Value × Mem, r = (some (.int r0), M) := ⟨_, rfl⟩
  rw [← hr]
  refine aw_iload_n E dX9_told4_0 1 rfl ?_
  refine aw_if_ne (tgt := 6) E dX9_told4_1 rfl (fun c1 => ?_) (fun c1 => ?_)
  ·
    replace h := iq c1 h
    refine aw_iconst (v := 0) E dX9_told4_6 (by decide) ?_
    refine aw_istore_n (L1 := [(3, .int 0), (0, .ref (wad (WY g) 0)), (1, .int a1), (2, .int a2)]) E dX9_told4_7 (Nat.le_of_ble_eq_true rfl) rfl ?_
    refine aw_iconst (v := 0) E dX9_told4_8 (by decide) ?_
    refine aw_istore (L1 := [(4, .int 0), (3, .int 0), (0, .ref (wad (WY g) 0)), (1, .int a1), (2, .int a2)]) E dX9_told4_9 (Nat.le_of_ble_eq_true rfl) rfl ?_
    obtain ⟨q1, e2, h⟩ := bd_e h
    refine aw_sub (L1 := [(0, .ref (wad (WY g) 0)), (2, .int a2), (3, .int 0), (4, .int 0)]) [2, 4, 1, 0] rfl ?_
    refine lpX9_told4_11 E   a2 FU 0 0 M q1 e2 ?_
    refine aw_iload_n E dX9_told4_38 1 rfl ?_
    refine aw_if_ne (tgt := 49) E dX9_told4_39 rfl (fun c39 => ?_) (fun c39 => ?_)
    ·
      replace h := iq c39 h
      refine aw_iload_n E dX9_told4_49 1 rfl ?_
      refine aw_iconst (v := 1) E dX9_told4_50 (by decide) ?_
      refine aw_icmp_ne (tgt := 58) E dX9_told4_51 rfl (fun c51 => ?_) (fun c51 => ?_)
      ·
        replace h := iq c51 h
        refine aw_iload_n E dX9_told4_58 1 rfl ?_
        refine aw_iconst (v := 2) E dX9_told4_59 (by decide) ?_
        refine aw_icmp_ne (tgt := 72) E dX9_told4_60 rfl (fun c60 => ?_) (fun c60 => ?_)
        ·
          replace h := iq c60 h
          refine aw_aload_n E dX9_told4_72 0 rfl ?_
          refine aw_getI E flX9_248 (Nat.le_of_ble_eq_true rfl) rfl rfl dX9_told4_73 ?_
          replace h := Option.some.inj h
          subst h
          exact aw_iret E dX9_told4_76 hr
        ·
          replace h := ip c60 h
          refine aw_aload_n E dX9_told4_63 0 rfl ?_
          refine aw_getR (q := 21) E flX9_75 (Nat.le_of_ble_eq_true rfl) rfl rfl dX9_told4_64 ?_
          refine aw_iconst (v := 0) E dX9_told4_67 (by decide) ?_
          obtain ⟨g3, h⟩ := gi_e h
          refine aw_iald E (Nat.le_of_ble_eq_true rfl) rfl g3 dX9_told4_68 ?_
          refine aw_goto (tgt := 76) E dX9_told4_69 rfl ?_
          replace h := Option.some.inj h
          subst h
          exact aw_iret E dX9_told4_76 hr
      ·
        replace h := ip c51 h
        refine aw_iload_n E dX9_told4_54 2 rfl ?_
        refine aw_goto (tgt := 76) E dX9_told4_55 rfl ?_
        replace h := Option.some.inj h
        subst h
        exact aw_iret E dX9_told4_76 hr
    ·
      replace h := ip c39 h
      refine aw_aload_n E dX9_told4_42 0 rfl ?_
      refine aw_getI E flX9_251 (Nat.le_of_ble_eq_true rfl) rfl rfl dX9_told4_43 ?_
      refine aw_goto (tgt := 76) E dX9_told4_46 rfl ?_
      replace h := Option.some.inj h
      subst h
      exact aw_iret E dX9_told4_76 hr
  ·
    replace h := ip c1 h
    refine aw_iconst (v := (-1)) E dX9_told4_4 (by decide) ?_
    replace h := Option.some.inj h
    subst h
    exact aw_iret E dX9_told4_5 hr
def FX9_calls (a1 : Int32) (a2 : Int32) (a3 : Int32) (M : Mem) : Option (Int32 × Mem) :=
  if (FX9_in a1 0 511) = 0 then
    some ((-2), M)
  else
    lt (fun (_u : Unit) =>
      (if (FX9_in a3 0 3) = 0 then
      some ((-7), M)
    else
      ob (FX9_finds (a1 &&& (((1 : Int32) <<< ((M.1 0 0) &&& 31)) ^^^ (-1))) a2 M) fun q4 =>
      ob (FX9_told4 q4.1 a3 q4.2) fun q6 =>
      some (q6, q4.2) : Option (Int32 × Mem))) fun k1 =>
    if a2 = (-1) then
      k1 ()
    else
      ob (FX9_isOther a2 M) fun q8 =>
      lt (α := Bool) (if q8 = 0 then true else if ((a1 >>> (a2 &&& 31)) &&& 1) = 0 then true else false) fun b10 =>
      if b10 = true then
        some ((-5), M)
      else
        k1 ()
set_option maxHeartbeats 4000000 in
set_option maxRecDepth 100000 in
theorem ctX9_calls (l : Launch) (g : CtxG) (a1 : Int32) (a2 : Int32) (a3 : Int32) (M : Mem) (r0 : Int32 × Mem) (h : FX9_calls a1 a2 a3 M = some r0) : Ct l (WY g) yX9_calls cX9_calls 4 (some .int) 6 [.ref (wad (WY g) 0), .int a1, .int a2, .int a3] M (some (.int r0.1), r0.2) := by
  refine Ct.of (by decide) (Nat.le_of_ble_eq_true rfl) (fun Y hY E => ?_)
  have E : EV Y (WY g) cX9_calls 4 (some .int) RX9 := E
  have h : FX9_calls a1 a2 a3 M = some r0 := h
  unfold FX9_calls at h
  show AW Y (WY g) _ 4 6 0 [(0, .ref (wad (WY g) 0)), (1, .int a1), (2, .int a2), (3, .int a3)] [] M
  obtain ⟨r, hr⟩ : ∃ r : Option Value × Mem, r = (some (.int r0.1), r0.2) := ⟨_, rfl⟩
  rw [← hr]
  refine aw_iload_n E dX9_calls_0 1 rfl ?_
  refine aw_iconst (v := 0) E dX9_calls_1 (by decide) ?_
  refine aw_sipush (v := 511) E dX9_calls_2 (by decide) ?_
  refine aw_callSi (S := []) E msX9_in mlX9_88 rfl (ctX9_in (yl Y) g a1 0 511  M ) rfl (Nat.le_of_ble_eq_true rfl) (Nat.le_of_ble_eq_true rfl) dX9_calls_5 ?_
  refine aw_if_ne (tgt := 14) E dX9_calls_8 rfl (fun c8 => ?_) (fun c8 => ?_)
  ·
    replace h := iq c8 h
    refine aw_iload_n E dX9_calls_14 2 rfl ?_
    refine aw_iconst (v := (-1)) E dX9_calls_15 (by decide) ?_
    obtain ⟨k1, e2, h⟩ := lt_e h
    have J3 : ∀ (_u : Unit), k1 _u = some r0 → AW Y (WY g) r 4 6 38 [(0, .ref (wad (WY g) 0)), (1, .int a1), (2, .int a2), (3, .int a3)] [] M := by
      clear h
      intro _u h
      subst e2
      refine aw_iload_n E dX9_calls_38 3 rfl ?_
      refine aw_iconst (v := 0) E dX9_calls_39 (by decide) ?_
      refine aw_iconst (v := 3) E dX9_calls_40 (by decide) ?_
      refine aw_callSi (S := []) E msX9_in mlX9_88 rfl (ctX9_in (yl Y) g a3 0 3  M ) rfl (Nat.le_of_ble_eq_true rfl) (Nat.le_of_ble_eq_true rfl) dX9_calls_41 ?_
      refine aw_if_eq (tgt := 70) E dX9_calls_44 rfl (fun c44 => ?_) (fun c44 => ?_)
      ·
        replace h := ip c44 h
        refine aw_bipush (v := (-7)) E dX9_calls_70 (by decide) ?_
        replace h := Option.some.inj h
        subst h
        exact aw_iret E dX9_calls_72 hr
      ·
        replace h := iq c44 h
        refine aw_aload_n E dX9_calls_47 0 rfl ?_
        refine aw_aload_n E dX9_calls_48 0 rfl ?_
        refine aw_iload_n E dX9_calls_49 1 rfl ?_
        refine aw_iconst (v := 1) E dX9_calls_50 (by decide) ?_
        refine aw_aload_n E dX9_calls_51 0 rfl ?_
        refine aw_getI E flX9_99 (Nat.le_of_ble_eq_true rfl) rfl rfl dX9_calls_52 ?_
        refine aw_ishl E dX9_calls_55 ?_
        refine aw_iconst (v := (-1)) E dX9_calls_56 (by decide) ?_
        refine aw_ixor E dX9_calls_57 ?_
        refine aw_iand E dX9_calls_58 ?_
        refine aw_iload_n E dX9_calls_59 2 rfl ?_
        obtain ⟨q4, e5, h⟩ := bd_e h
        refine aw_callVi (S := [.ref (wad (WY g) 0)]) E mvX9_finds mlX9_260 (Nat.le_of_ble_eq_true rfl) rfl rfl rfl (ctX9_finds (yl Y) g (a1 &&& (((1 : Int32) <<< ((M.1 0 0) &&& 31)) ^^^ (-1))) a2  M q4 e5) rfl (Nat.le_of_ble_eq_true rfl) (Nat.le_of_ble_eq_true rfl) dX9_calls_60 ?_
        refine aw_iload_n E dX9_calls_63 3 rfl ?_
        obtain ⟨q6, e7, h⟩ := bd_e h
        refine aw_callVi (S := []) E mvX9_told4 mlX9_263 (Nat.le_of_ble_eq_true rfl) rfl rfl rfl (ctX9_told4 (yl Y) g q4.1 a3  q4.2 q6 e7) rfl (Nat.le_of_ble_eq_true rfl) (Nat.le_of_ble_eq_true rfl) dX9_calls_64 ?_
        refine aw_goto (tgt := 72) E dX9_calls_67 rfl ?_
        replace h := Option.some.inj h
        subst h
        exact aw_iret E dX9_calls_72 hr
    clear e2
    refine aw_icmp_eq (tgt := 38) E dX9_calls_16 rfl (fun c16 => ?_) (fun c16 => ?_)
    ·
      replace h := ip c16 h
      refine aw_sub (L1 := [(0, .ref (wad (WY g) 0)), (1, .int a1), (2, .int a2), (3, .int a3)]) [0, 1, 2, 3] rfl ?_
      exact J3 () h
    ·
      replace h := iq c16 h
      refine aw_aload_n E dX9_calls_19 0 rfl ?_
      refine aw_iload_n E dX9_calls_20 2 rfl ?_
      obtain ⟨q8, e9, h⟩ := bd_e h
      refine aw_callVi (S := []) E mvX9_isOther mlX9_257 (Nat.le_of_ble_eq_true rfl) rfl rfl rfl (ctX9_isOther (yl Y) g a2  M q8 e9) rfl (Nat.le_of_ble_eq_true rfl) (Nat.le_of_ble_eq_true rfl) dX9_calls_21 ?_
      obtain ⟨b10, e11, h⟩ := lt_e h
      have J12 : b10 = true → AW Y (WY g) r 4 6 35 [(0, .ref (wad (WY g) 0)), (1, .int a1), (2, .int a2), (3, .int a3)] [] M := fun hb => by
        replace h := ip hb h
        refine aw_bipush (v := (-5)) E dX9_calls_35 (by decide) ?_
        replace h := Option.some.inj h
        subst h
        exact aw_iret E dX9_calls_37 hr
      have J13 : b10 = false → AW Y (WY g) r 4 6 38 [(0, .ref (wad (WY g) 0)), (1, .int a1), (2, .int a2), (3, .int a3)] [] M := fun hb => by
        replace h := iq (bf hb) h
        refine aw_sub (L1 := [(0, .ref (wad (WY g) 0)), (1, .int a1), (2, .int a2), (3, .int a3)]) [0, 1, 2, 3] rfl ?_
        exact J3 () h
      refine aw_if_eq (tgt := 35) E dX9_calls_24 rfl (fun c24 => ?_) (fun c24 => ?_)
      ·
        replace e11 := ip c24 e11
        subst e11
        exact J12 rfl
      ·
        replace e11 := iq c24 e11
        refine aw_iload_n E dX9_calls_27 1 rfl ?_
        refine aw_iload_n E dX9_calls_28 2 rfl ?_
        refine aw_ishr E dX9_calls_29 ?_
        refine aw_iconst (v := 1) E dX9_calls_30 (by decide) ?_
        refine aw_iand E dX9_calls_31 ?_
        refine aw_if_ne (tgt := 38) E dX9_calls_32 rfl (fun c32 => ?_) (fun c32 => ?_)
        ·
          replace e11 := iq c32 e11
          subst e11
          exact J13 rfl
        ·
          replace e11 := ip c32 e11
          subst e11
          exact J12 rfl
  ·
    replace h := ip c8 h
    refine aw_bipush (v := (-2)) E dX9_calls_11 (by decide) ?_
    replace h := Option.some.inj h
    subst h
    exact aw_iret E dX9_calls_13 hr
def FX9_cell (a1 : Int32) (a2 : Int32) (a3 : Int32) (M : Mem) : Option (Int32 × Mem) :=
  if (FX9_in a1 0 3) = 0 then
    some ((-2), M)
  else
    gi a1 4 <|
    if (M.1 9 (Int32.toNatClampNeg a1)) = (-1) then
      some ((-11), M)
    else
      gi a1 4 <|
      if (FX9_in a2 0 ((M.1 10 (Int32.toNatClampNeg a1)) - 1)) = 0 then
        some ((-12), M)
      else
        gi a1 4 <|
        ob (α := Int32) (if (M.1 9 (Int32.toNatClampNeg a1)) = 0 then
          some (a3.toInt8.toInt32)
        else
          gi a1 4 <|
          if (M.1 9 (Int32.toNatClampNeg a1)) = 1 then
            some (a3.toInt16.toInt32)
          else
            some a3) fun q4 =>
        gi ((40 * a1) + a2) 160 <|
        lt (wr M 11 (Int32.toNatClampNeg ((40 * a1) + a2)) q4) fun M8 =>
        some (1, M8)
set_option maxHeartbeats 4000000 in
set_option maxRecDepth 100000 in
theorem ctX9_cell (l : Launch) (g : CtxG) (a1 : Int32) (a2 : Int32) (a3 : Int32) (M : Mem) (r0 : Int32 × Mem) (h : FX9_cell a1 a2 a3 M = some r0) : Ct l (WY g) yX9_cell cX9_cell 4 (some .int) 2 [.ref (wad (WY g) 0), .int a1, .int a2, .int a3] M (some (.int r0.1), r0.2) := by
  refine Ct.of (by decide) (Nat.le_of_ble_eq_true rfl) (fun Y hY E => ?_)
  have E : EV Y (WY g) cX9_cell 4 (some .int) RX9 := E
  have h : FX9_cell a1 a2 a3 M = some r0 := h
  unfold FX9_cell at h
  show AW Y (WY g) _ 4 2 0 [(0, .ref (wad (WY g) 0)), (1, .int a1), (2, .int a2), (3, .int a3)] [] M
  obtain ⟨r, hr⟩ : ∃ r : Option Value × Mem, r = (some (.int r0.1), r0.2) := ⟨_, rfl⟩
  rw [← hr]
  refine aw_iload_n E dX9_cell_0 1 rfl ?_
  refine aw_iconst (v := 0) E dX9_cell_1 (by decide) ?_
  refine aw_iconst (v := 3) E dX9_cell_2 (by decide) ?_
  refine aw_callSi (S := []) E msX9_in mlX9_88 rfl (ctX9_in (yl Y) g a1 0 3  M ) rfl (Nat.le_of_ble_eq_true rfl) (Nat.le_of_ble_eq_true rfl) dX9_cell_3 ?_
  refine aw_if_ne (tgt := 12) E dX9_cell_6 rfl (fun c6 => ?_) (fun c6 => ?_)
  ·
    replace h := iq c6 h
    refine aw_aload_n E dX9_cell_12 0 rfl ?_
    refine aw_getR (q := 9) E flX9_38 (Nat.le_of_ble_eq_true rfl) rfl rfl dX9_cell_13 ?_
    refine aw_iload_n E dX9_cell_16 1 rfl ?_
    obtain ⟨g1, h⟩ := gi_e h
    refine aw_iald E (Nat.le_of_ble_eq_true rfl) rfl g1 dX9_cell_17 ?_
    refine aw_iconst (v := (-1)) E dX9_cell_18 (by decide) ?_
    refine aw_icmp_ne (tgt := 25) E dX9_cell_19 rfl (fun c19 => ?_) (fun c19 => ?_)
    ·
      replace h := iq c19 h
      refine aw_iload_n E dX9_cell_25 2 rfl ?_
      refine aw_iconst (v := 0) E dX9_cell_26 (by decide) ?_
      refine aw_aload_n E dX9_cell_27 0 rfl ?_
      refine aw_getR (q := 10) E flX9_41 (Nat.le_of_ble_eq_true rfl) rfl rfl dX9_cell_28 ?_
      refine aw_iload_n E dX9_cell_31 1 rfl ?_
      obtain ⟨g2, h⟩ := gi_e h
      refine aw_iald E (Nat.le_of_ble_eq_true rfl) rfl g2 dX9_cell_32 ?_
      refine aw_iconst (v := 1) E dX9_cell_33 (by decide) ?_
      refine aw_isub E dX9_cell_34 ?_
      refine aw_callSi (S := []) E msX9_in mlX9_88 rfl (ctX9_in (yl Y) g a2 0 ((M.1 10 (Int32.toNatClampNeg a1)) - 1)  M ) rfl (Nat.le_of_ble_eq_true rfl) (Nat.le_of_ble_eq_true rfl) dX9_cell_35 ?_
      refine aw_if_ne (tgt := 44) E dX9_cell_38 rfl (fun c38 => ?_) (fun c38 => ?_)
      ·
        replace h := iq c38 h
        refine aw_aload_n E dX9_cell_44 0 rfl ?_
        refine aw_getR (q := 11) E flX9_44 (Nat.le_of_ble_eq_true rfl) rfl rfl dX9_cell_45 ?_
        refine aw_bipush (v := 40) E dX9_cell_48 (by decide) ?_
        refine aw_iload_n E dX9_cell_50 1 rfl ?_
        refine aw_imul E dX9_cell_51 ?_
        refine aw_iload_n E dX9_cell_52 2 rfl ?_
        refine aw_iadd E dX9_cell_53 ?_
        refine aw_aload_n E dX9_cell_54 0 rfl ?_
        refine aw_getR (q := 9) E flX9_38 (Nat.le_of_ble_eq_true rfl) rfl rfl dX9_cell_55 ?_
        refine aw_iload_n E dX9_cell_58 1 rfl ?_
        obtain ⟨g3, h⟩ := gi_e h
        refine aw_iald E (Nat.le_of_ble_eq_true rfl) rfl g3 dX9_cell_59 ?_
        obtain ⟨q4, e5, h⟩ := bd_e h
        have J6 : AW Y (WY g) r 4 2 84 [] [.int q4, .int ((40 * a1) + a2), .ref (wad (WY g) 11)] M := by
          obtain ⟨g7, h⟩ := gi_e h
          obtain ⟨M8, e9, h⟩ := lt_e h
          refine aw_iast1 e9 E (Nat.le_of_ble_eq_true rfl) rfl g7 dX9_cell_84 ?_
          refine aw_iconst (v := 1) E dX9_cell_85 (by decide) ?_
          replace h := Option.some.inj h
          subst h
          exact aw_iret E dX9_cell_86 hr
        refine aw_if_ne (tgt := 68) E dX9_cell_60 rfl (fun c60 => ?_) (fun c60 => ?_)
        ·
          replace e5 := iq c60 e5
          refine aw_aload_n E dX9_cell_68 0 rfl ?_
          refine aw_getR (q := 9) E flX9_38 (Nat.le_of_ble_eq_true rfl) rfl rfl dX9_cell_69 ?_
          refine aw_iload_n E dX9_cell_72 1 rfl ?_
          obtain ⟨g10, e5⟩ := gi_e e5
          refine aw_iald E (Nat.le_of_ble_eq_true rfl) rfl g10 dX9_cell_73 ?_
          refine aw_iconst (v := 1) E dX9_cell_74 (by decide) ?_
          refine aw_icmp_ne (tgt := 83) E dX9_cell_75 rfl (fun c75 => ?_) (fun c75 => ?_)
          ·
            replace e5 := iq c75 e5
            refine aw_iload_n E dX9_cell_83 3 rfl ?_
            refine aw_sub (L1 := []) [] rfl ?_
            replace e5 := Option.some.inj e5
            subst e5
            exact J6
          ·
            replace e5 := ip c75 e5
            refine aw_iload_n E dX9_cell_78 3 rfl ?_
            refine aw_i2s E dX9_cell_79 ?_
            refine aw_goto (tgt := 84) E dX9_cell_80 rfl ?_
            refine aw_sub (L1 := []) [] rfl ?_
            replace e5 := Option.some.inj e5
            subst e5
            exact J6
        ·
          replace e5 := ip c60 e5
          refine aw_iload_n E dX9_cell_63 3 rfl ?_
          refine aw_i2b E dX9_cell_64 ?_
          refine aw_goto (tgt := 84) E dX9_cell_65 rfl ?_
          refine aw_sub (L1 := []) [] rfl ?_
          replace e5 := Option.some.inj e5
          subst e5
          exact J6
      ·
        replace h := ip c38 h
        refine aw_bipush (v := (-12)) E dX9_cell_41 (by decide) ?_
        replace h := Option.some.inj h
        subst h
        exact aw_iret E dX9_cell_43 hr
    ·
      replace h := ip c19 h
      refine aw_bipush (v := (-11)) E dX9_cell_22 (by decide) ?_
      replace h := Option.some.inj h
      subst h
      exact aw_iret E dX9_cell_24 hr
  ·
    replace h := ip c6 h
    refine aw_bipush (v := (-2)) E dX9_cell_9 (by decide) ?_
    replace h := Option.some.inj h
    subst h
    exact aw_iret E dX9_cell_11 hr
def FX9_close  (M : Mem) : Option (Int32 × Mem) :=
  if (M.1 0 3) = 0 then
    some ((-3), M)
  else
    lt (wr M 0 3 ((M.1 0 3) - 1)) fun M1 =>
    lt (wr M1 0 9 ((M1.1 0 9) &&& (((1 : Int32) <<< ((M1.1 0 3) &&& 31)) - 1))) fun M3 =>
    lt (α := Bool) (if (M3.1 0 16) = 0 then false else if (M3.1 0 3) < (M3.1 0 21) then false else true) fun b5 =>
    lt (α := Int32) (if b5 = true then
      1
    else
      0) fun q7 =>
    gd (q7 = 0 ∨ q7 = 1) <|
    lt (wr M3 0 16 q7) fun M10 =>
    some (M10.1 0 3, M10)
set_option maxHeartbeats 4000000 in
set_option maxRecDepth 100000 in
theorem ctX9_close (l : Launch) (g : CtxG)  (M : Mem) (r0 : Int32 × Mem) (h : FX9_close M = some r0) : Ct l (WY g) yX9_close cX9_close 1 (some .int) 1 [.ref (wad (WY g) 0)] M (some (.int r0.1), r0.2) := by
  refine Ct.of (by decide) (Nat.le_of_ble_eq_true rfl) (fun Y hY E => ?_)
  have E : EV Y (WY g) cX9_close 1 (some .int) RX9 := E
  have h : FX9_close  M = some r0 := h
  unfold FX9_close at h
  show AW Y (WY g) _ 1 1 0 [(0, .ref (wad (WY g) 0))] [] M
  obtain ⟨r, hr⟩ : ∃ r : Option Value × Mem, r = (some (.int r0.1), r0.2) := ⟨_, rfl⟩
  rw [← hr]
  refine aw_aload_n E dX9_close_0 0 rfl ?_
  refine aw_getI E flX9_92 (Nat.le_of_ble_eq_true rfl) rfl rfl dX9_close_1 ?_
  refine aw_if_ne (tgt := 10) E dX9_close_4 rfl (fun c4 => ?_) (fun c4 => ?_)
  ·
    replace h := iq c4 h
    refine aw_aload_n E dX9_close_10 0 rfl ?_
    refine aw_dup E dX9_close_11 rfl ?_
    refine aw_getI E flX9_92 (Nat.le_of_ble_eq_true rfl) rfl rfl dX9_close_12 ?_
    refine aw_iconst (v := 1) E dX9_close_15 (by decide) ?_
    refine aw_isub E dX9_close_16 ?_
    obtain ⟨M1, e2, h⟩ := lt_e h
    refine aw_putI1 e2 E flX9_92 (Nat.le_of_ble_eq_true rfl) rfl rfl nr_int dX9_close_17 ?_
    refine aw_aload_n E dX9_close_20 0 rfl ?_
    refine aw_dup E dX9_close_21 rfl ?_
    refine aw_getI E flX9_105 (Nat.le_of_ble_eq_true rfl) rfl rfl dX9_close_22 ?_
    refine aw_iconst (v := 1) E dX9_close_25 (by decide) ?_
    refine aw_aload_n E dX9_close_26 0 rfl ?_
    refine aw_getI E flX9_92 (Nat.le_of_ble_eq_true rfl) rfl rfl dX9_close_27 ?_
    refine aw_ishl E dX9_close_30 ?_
    refine aw_iconst (v := 1) E dX9_close_31 (by decide) ?_
    refine aw_isub E dX9_close_32 ?_
    refine aw_iand E dX9_close_33 ?_
    obtain ⟨M3, e4, h⟩ := lt_e h
    refine aw_putI1 e4 E flX9_105 (Nat.le_of_ble_eq_true rfl) rfl rfl nr_int dX9_close_34 ?_
    refine aw_aload_n E dX9_close_37 0 rfl ?_
    refine aw_aload_n E dX9_close_38 0 rfl ?_
    refine aw_getI E flX9_177 (Nat.le_of_ble_eq_true rfl) rfl rfl dX9_close_39 ?_
    obtain ⟨b5, e6, h⟩ := lt_e h
    obtain ⟨q7, e8, h⟩ := lt_e h
    have J9 : AW Y (WY g) r 1 1 61 [(0, .ref (wad (WY g) 0))] [.int q7, .ref (wad (WY g) 0)] M3 := by
      obtain ⟨g12, h⟩ := gd_e h
      obtain ⟨M10, e11, h⟩ := lt_e h
      refine aw_putI1 e11 E flX9_177 (Nat.le_of_ble_eq_true rfl) rfl rfl (nr_bool g12) dX9_close_61 ?_
      refine aw_aload_n E dX9_close_64 0 rfl ?_
      refine aw_getI E flX9_92 (Nat.le_of_ble_eq_true rfl) rfl rfl dX9_close_65 ?_
      replace h := Option.some.inj h
      subst h
      exact aw_iret E dX9_close_68 hr
    have J13 : b5 = true → AW Y (WY g) r 1 1 56 [(0, .ref (wad (WY g) 0))] [.ref (wad (WY g) 0)] M3 := fun hb => by
      replace e8 := ip hb e8
      refine aw_iconst (v := 1) E dX9_close_56 (by decide) ?_
      refine aw_goto (tgt := 61) E dX9_close_57 rfl ?_
      refine aw_sub (L1 := [(0, .ref (wad (WY g) 0))]) [0] rfl ?_
      subst e8
      exact J9
    have J14 : b5 = false → AW Y (WY g) r 1 1 60 [(0, .ref (wad (WY g) 0))] [.ref (wad (WY g) 0)] M3 := fun hb => by
      replace e8 := iq (bf hb) e8
      refine aw_iconst (v := 0) E dX9_close_60 (by decide) ?_
      refine aw_sub (L1 := [(0, .ref (wad (WY g) 0))]) [0] rfl ?_
      subst e8
      exact J9
    refine aw_if_eq (tgt := 60) E dX9_close_42 rfl (fun c42 => ?_) (fun c42 => ?_)
    ·
      replace e6 := ip c42 e6
      subst e6
      exact J14 rfl
    ·
      replace e6 := iq c42 e6
      refine aw_aload_n E dX9_close_45 0 rfl ?_
      refine aw_getI E flX9_181 (Nat.le_of_ble_eq_true rfl) rfl rfl dX9_close_46 ?_
      refine aw_aload_n E dX9_close_49 0 rfl ?_
      refine aw_getI E flX9_92 (Nat.le_of_ble_eq_true rfl) rfl rfl dX9_close_50 ?_
      refine aw_icmp_gt (tgt := 60) E dX9_close_53 rfl (fun c53 => ?_) (fun c53 => ?_)
      ·
        replace e6 := ip c53 e6
        subst e6
        exact J14 rfl
      ·
        replace e6 := iq c53 e6
        subst e6
        exact J13 rfl
  ·
    replace h := ip c4 h
    refine aw_bipush (v := (-3)) E dX9_close_7 (by decide) ?_
    replace h := Option.some.inj h
    subst h
    exact aw_iret E dX9_close_9 hr
def FX9_copy_L147 : Nat → Int32 → Int32 → Int32 → Int32 → Mem → Option (Mem)
  | 0, _, _, _, _, _ => none
  | f + 1, p5, p6, p7, p8, M =>
    if p5 ≤ p8 then
      some M
    else
      lt (α := Int32) (if p7 ≤ p6 then
        p8
      else
        (p5 - 1) - p8) fun q101 =>
      gi (p6 + q101) 160 <|
      gi (p7 + q101) 160 <|
      lt (wr M 11 (Int32.toNatClampNeg (p7 + q101)) (M.1 11 (Int32.toNatClampNeg (p6 + q101)))) fun M106 =>
      lt (α := Int32) (p8 + 1) fun x108 =>
      FX9_copy_L147 f p5 p6 p7 x108 M106
def FX9_copy (a1 : Int32) (a2 : Int32) (a3 : Int32) (a4 : Int32) (a5 : Int32) (M : Mem) : Option (Int32 × Mem) :=
  lt (α := Bool) (if (FX9_in a1 0 3) = 0 then true else if (FX9_in a3 0 3) = 0 then true else false) fun b1 =>
  if b1 = true then
    some ((-2), M)
  else
    gi a1 4 <|
    ob (α := Bool) (if (M.1 9 (Int32.toNatClampNeg a1)) = (-1) then
      some true
    else
      gi a3 4 <|
      if (M.1 9 (Int32.toNatClampNeg a3)) = (-1) then some true else some false) fun b6 =>
    if b6 = true then
      some ((-11), M)
    else
      gi a1 4 <|
      gi a3 4 <|
      if (M.1 9 (Int32.toNatClampNeg a1)) = (M.1 9 (Int32.toNatClampNeg a3)) then
        ob (α := Bool) (if a5 < 0 then
          some true
        else
          if a2 < 0 then
            some true
          else
            if a4 < 0 then
              some true
            else
              gi a1 4 <|
              if (M.1 10 (Int32.toNatClampNeg a1)) < a2 then
                some true
              else
                gi a3 4 <|
                if (M.1 10 (Int32.toNatClampNeg a3)) < a4 then
                  some true
                else
                  gi a1 4 <|
                  if ((M.1 10 (Int32.toNatClampNeg a1)) - a2) < a5 then
                    some true
                  else
                    gi a3 4 <|
                    if a5 ≤ ((M.1 10 (Int32.toNatClampNeg a3)) - a4) then some false else some true) fun b12 =>
        if b12 = true then
          some ((-12), M)
        else
          lt (α := Int32) ((40 * a1) + a2) fun x16 =>
          lt (α := Int32) ((40 * a3) + a4) fun x18 =>
          ob (FX9_copy_L147 FU a5 x16 x18 0 M) fun q20 =>
          some (a5, q20)
      else
        some ((-13), M)
set_option maxHeartbeats 4000000 in
set_option maxRecDepth 100000 in
theorem lpX9_copy_147 {Y : CtxM} {g : CtxG} {r : Option Value × Mem} (E : EV Y (WY g) cX9_copy 10 (some .int) RX9) (p5 : Int32) (p6 : Int32) (p7 : Int32) : ∀ (f : Nat) (p8 : Int32) (M : Mem) (q : Mem), FX9_copy_L147 f p5 p6 p7 p8 M = some q → AW Y (WY g) r 10 2 201 [(5, .int p5)] [] q → AW Y (WY g) r 10 2 147 [(0, .ref (wad (WY g) 0)), (5, .int p5), (6, .int p6), (7, .int p7), (8, .int p8)] [] M := by
  intro f
  induction f with
  | zero => intro p8 M q hh; exact absurd hh (fun z => nomatch (show (none : Option (Mem)) = some q from z))
  | succ f ih =>
    intro p8 M q hh kx
    rw [FX9_copy_L147] at hh
    refine aw_iload E dX9_copy_147 4 rfl ?_
    refine aw_iload E dX9_copy_149 1 rfl ?_
    refine aw_icmp_ge (tgt := 201) E dX9_copy_151 rfl (fun c151 => ?_) (fun c151 => ?_)
    ·
      replace hh := ip c151 hh
      refine aw_sub (L1 := [(5, .int p5)]) [1] rfl ?_
      replace hh := Option.some.inj hh
      subst hh
      exact kx
    ·
      replace hh := iq c151 hh
      refine aw_iload E dX9_copy_154 2 rfl ?_
      refine aw_iload E dX9_copy_156 3 rfl ?_
      obtain ⟨q101, e102, hh⟩ := lt_e hh
      have J103 : AW Y (WY g) r 10 2 173 [(0, .ref (wad (WY g) 0)), (5, .int p5), (6, .int p6), (7, .int p7), (8, .int p8)] [.int q101] M := by
        refine aw_istore (L1 := [(9, .int q101), (0, .ref (wad (WY g) 0)), (5, .int p5), (6, .int p6), (7, .int p7), (8, .int p8)]) E dX9_copy_173 (Nat.le_of_ble_eq_true rfl) rfl ?_
        refine aw_aload_n E dX9_copy_175 1 rfl ?_
        refine aw_getR (q := 11) E flX9_44 (Nat.le_of_ble_eq_true rfl) rfl rfl dX9_copy_176 ?_
        refine aw_iload E dX9_copy_179 4 rfl ?_
        refine aw_iload E dX9_copy_181 0 rfl ?_
        refine aw_iadd E dX9_copy_183 ?_
        refine aw_aload_n E dX9_copy_184 1 rfl ?_
        refine aw_getR (q := 11) E flX9_44 (Nat.le_of_ble_eq_true rfl) rfl rfl dX9_copy_185 ?_
        refine aw_iload E dX9_copy_188 3 rfl ?_
        refine aw_iload E dX9_copy_190 0 rfl ?_
        refine aw_iadd E dX9_copy_192 ?_
        obtain ⟨g104, hh⟩ := gi_e hh
        refine aw_iald E (Nat.le_of_ble_eq_true rfl) rfl g104 dX9_copy_193 ?_
        obtain ⟨g105, hh⟩ := gi_e hh
        obtain ⟨M106, e107, hh⟩ := lt_e hh
        refine aw_iast1 e107 E (Nat.le_of_ble_eq_true rfl) rfl g105 dX9_copy_194 ?_
        obtain ⟨x108, e109, hh⟩ := lt_e hh
        refine aw_iinc (v := x108) (L1 := [(8, .int x108), (9, .int q101), (0, .ref (wad (WY g) 0)), (5, .int p5), (6, .int p6), (7, .int p7)]) E dX9_copy_195 5 rfl e109 (Nat.le_of_ble_eq_true rfl) rfl ?_
        refine aw_goto (tgt := 147) E dX9_copy_198 rfl ?_
        refine aw_sub (L1 := [(0, .ref (wad (WY g) 0)), (5, .int p5), (6, .int p6), (7, .int p7), (8, .int x108)]) [2, 3, 4, 5, 0] rfl ?_
        exact ih x108 M106 _ hh kx
      refine aw_icmp_ge (tgt := 171) E dX9_copy_158 rfl (fun c158 => ?_) (fun c158 => ?_)
      ·
        replace e102 := ip c158 e102
        refine aw_iload E dX9_copy_171 4 rfl ?_
        refine aw_sub (L1 := [(0, .ref (wad (WY g) 0)), (5, .int p5), (6, .int p6), (7, .int p7), (8, .int p8)]) [0, 1, 2, 3, 4] rfl ?_
        subst e102
        exact J103
      ·
        replace e102 := iq c158 e102
        refine aw_iload E dX9_copy_161 1 rfl ?_
        refine aw_iconst (v := 1) E dX9_copy_163 (by decide) ?_
        refine aw_isub E dX9_copy_164 ?_
        refine aw_iload E dX9_copy_165 4 rfl ?_
        refine aw_isub E dX9_copy_167 ?_
        refine aw_goto (tgt := 173) E dX9_copy_168 rfl ?_
        refine aw_sub (L1 := [(0, .ref (wad (WY g) 0)), (5, .int p5), (6, .int p6), (7, .int p7), (8, .int p8)]) [0, 1, 2, 3, 4] rfl ?_
        subst e102
        exact J103
set_option maxHeartbeats 4000000 in
set_option maxRecDepth 100000 in
theorem ctX9_copy (l : Launch) (g : CtxG) (a1 : Int32) (a2 : Int32) (a3 : Int32) (a4 : Int32) (a5 : Int32) (M : Mem) (r0 : Int32 × Mem) (h : FX9_copy a1 a2 a3 a4 a5 M = some r0) : Ct l (WY g) yX9_copy cX9_copy 10 (some .int) 2 [.ref (wad (WY g) 0), .int a1, .int a2, .int a3, .int a4, .int a5] M (some (.int r0.1), r0.2) := by
  refine Ct.of (by decide) (Nat.le_of_ble_eq_true rfl) (fun Y hY E => ?_)
  have E : EV Y (WY g) cX9_copy 10 (some .int) RX9 := E
  have h : FX9_copy a1 a2 a3 a4 a5 M = some r0 := h
  unfold FX9_copy at h
  show AW Y (WY g) _ 10 2 0 [(0, .ref (wad (WY g) 0)), (1, .int a1), (2, .int a2), (3, .int a3), (4, .int a4), (5, .int a5)] [] M
  obtain ⟨r, hr⟩ : ∃ r : Option Value × Mem, r = (some (.int r0.1), r0.2) := ⟨_, rfl⟩
  rw [← hr]
  refine aw_iload_n E dX9_copy_0 1 rfl ?_
  refine aw_iconst (v := 0) E dX9_copy_1 (by decide) ?_
  refine aw_iconst (v := 3) E dX9_copy_2 (by decide) ?_
  refine aw_callSi (S := []) E msX9_in mlX9_88 rfl (ctX9_in (yl Y) g a1 0 3  M ) rfl (Nat.le_of_ble_eq_true rfl) (Nat.le_of_ble_eq_true rfl) dX9_copy_3 ?_
  obtain ⟨b1, e2, h⟩ := lt_e h
  have J3 : b1 = true → AW Y (WY g) r 10 2 18 [(0, .ref (wad (WY g) 0)), (1, .int a1), (2, .int a2), (3, .int a3), (4, .int a4), (5, .int a5)] [] M := fun hb => by
    replace h := ip hb h
    refine aw_bipush (v := (-2)) E dX9_copy_18 (by decide) ?_
    replace h := Option.some.inj h
    subst h
    exact aw_iret E dX9_copy_20 hr
  have J4 : b1 = false → AW Y (WY g) r 10 2 21 [(0, .ref (wad (WY g) 0)), (1, .int a1), (2, .int a2), (3, .int a3), (4, .int a4), (5, .int a5)] [] M := fun hb => by
    replace h := iq (bf hb) h
    refine aw_aload_n E dX9_copy_21 0 rfl ?_
    refine aw_getR (q := 9) E flX9_38 (Nat.le_of_ble_eq_true rfl) rfl rfl dX9_copy_22 ?_
    refine aw_iload_n E dX9_copy_25 1 rfl ?_
    obtain ⟨g5, h⟩ := gi_e h
    refine aw_iald E (Nat.le_of_ble_eq_true rfl) rfl g5 dX9_copy_26 ?_
    refine aw_iconst (v := (-1)) E dX9_copy_27 (by decide) ?_
    obtain ⟨b6, e7, h⟩ := bd_e h
    have J8 : b6 = true → AW Y (WY g) r 10 2 41 [(0, .ref (wad (WY g) 0)), (1, .int a1), (2, .int a2), (3, .int a3), (4, .int a4), (5, .int a5)] [] M := fun hb => by
      replace h := ip hb h
      refine aw_bipush (v := (-11)) E dX9_copy_41 (by decide) ?_
      replace h := Option.some.inj h
      subst h
      exact aw_iret E dX9_copy_43 hr
    have J9 : b6 = false → AW Y (WY g) r 10 2 44 [(0, .ref (wad (WY g) 0)), (1, .int a1), (2, .int a2), (3, .int a3), (4, .int a4), (5, .int a5)] [] M := fun hb => by
      replace h := iq (bf hb) h
      refine aw_aload_n E dX9_copy_44 0 rfl ?_
      refine aw_getR (q := 9) E flX9_38 (Nat.le_of_ble_eq_true rfl) rfl rfl dX9_copy_45 ?_
      refine aw_iload_n E dX9_copy_48 1 rfl ?_
      obtain ⟨g10, h⟩ := gi_e h
      refine aw_iald E (Nat.le_of_ble_eq_true rfl) rfl g10 dX9_copy_49 ?_
      refine aw_aload_n E dX9_copy_50 0 rfl ?_
      refine aw_getR (q := 9) E flX9_38 (Nat.le_of_ble_eq_true rfl) rfl rfl dX9_copy_51 ?_
      refine aw_iload_n E dX9_copy_54 3 rfl ?_
      obtain ⟨g11, h⟩ := gi_e h
      refine aw_iald E (Nat.le_of_ble_eq_true rfl) rfl g11 dX9_copy_55 ?_
      refine aw_icmp_eq (tgt := 62) E dX9_copy_56 rfl (fun c56 => ?_) (fun c56 => ?_)
      ·
        replace h := ip c56 h
        refine aw_iload E dX9_copy_62 5 rfl ?_
        obtain ⟨b12, e13, h⟩ := bd_e h
        have J14 : b12 = true → AW Y (WY g) r 10 2 124 [(0, .ref (wad (WY g) 0)), (1, .int a1), (2, .int a2), (3, .int a3), (4, .int a4), (5, .int a5)] [] M := fun hb => by
          replace h := ip hb h
          refine aw_bipush (v := (-12)) E dX9_copy_124 (by decide) ?_
          replace h := Option.some.inj h
          subst h
          exact aw_iret E dX9_copy_126 hr
        have J15 : b12 = false → AW Y (WY g) r 10 2 127 [(0, .ref (wad (WY g) 0)), (1, .int a1), (2, .int a2), (3, .int a3), (4, .int a4), (5, .int a5)] [] M := fun hb => by
          replace h := iq (bf hb) h
          refine aw_bipush (v := 40) E dX9_copy_127 (by decide) ?_
          refine aw_iload_n E dX9_copy_129 1 rfl ?_
          refine aw_imul E dX9_copy_130 ?_
          refine aw_iload_n E dX9_copy_131 2 rfl ?_
          refine aw_iadd E dX9_copy_132 ?_
          obtain ⟨x16, e17, h⟩ := lt_e h
          refine aw_nmI e17 ?_
          refine aw_istore (L1 := [(6, .int x16), (0, .ref (wad (WY g) 0)), (1, .int a1), (2, .int a2), (3, .int a3), (4, .int a4), (5, .int a5)]) E dX9_copy_133 (Nat.le_of_ble_eq_true rfl) rfl ?_
          refine aw_bipush (v := 40) E dX9_copy_135 (by decide) ?_
          refine aw_iload_n E dX9_copy_137 4 rfl ?_
          refine aw_imul E dX9_copy_138 ?_
          refine aw_iload E dX9_copy_139 5 rfl ?_
          refine aw_iadd E dX9_copy_141 ?_
          obtain ⟨x18, e19, h⟩ := lt_e h
          refine aw_nmI e19 ?_
          refine aw_istore (L1 := [(7, .int x18), (6, .int x16), (0, .ref (wad (WY g) 0)), (1, .int a1), (2, .int a2), (3, .int a3), (4, .int a4), (5, .int a5)]) E dX9_copy_142 (Nat.le_of_ble_eq_true rfl) rfl ?_
          refine aw_iconst (v := 0) E dX9_copy_144 (by decide) ?_
          refine aw_istore (L1 := [(8, .int 0), (7, .int x18), (6, .int x16), (0, .ref (wad (WY g) 0)), (1, .int a1), (2, .int a2), (3, .int a3), (4, .int a4), (5, .int a5)]) E dX9_copy_145 (Nat.le_of_ble_eq_true rfl) rfl ?_
          obtain ⟨q20, e21, h⟩ := bd_e h
          refine aw_sub (L1 := [(0, .ref (wad (WY g) 0)), (5, .int a5), (6, .int x16), (7, .int x18), (8, .int 0)]) [3, 8, 2, 1, 0] rfl ?_
          refine lpX9_copy_147 E   a5 x16 x18 FU 0 M q20 e21 ?_
          refine aw_iload E dX9_copy_201 0 rfl ?_
          replace h := Option.some.inj h
          subst h
          exact aw_iret E dX9_copy_203 hr
        refine aw_if_lt (tgt := 124) E dX9_copy_64 rfl (fun c64 => ?_) (fun c64 => ?_)
        ·
          replace e13 := ip c64 e13
          replace e13 := Option.some.inj e13
          subst e13
          exact J14 rfl
        ·
          replace e13 := iq c64 e13
          refine aw_iload_n E dX9_copy_67 2 rfl ?_
          refine aw_if_lt (tgt := 124) E dX9_copy_68 rfl (fun c68 => ?_) (fun c68 => ?_)
          ·
            replace e13 := ip c68 e13
            replace e13 := Option.some.inj e13
            subst e13
            exact J14 rfl
          ·
            replace e13 := iq c68 e13
            refine aw_iload E dX9_copy_71 4 rfl ?_
            refine aw_if_lt (tgt := 124) E dX9_copy_73 rfl (fun c73 => ?_) (fun c73 => ?_)
            ·
              replace e13 := ip c73 e13
              replace e13 := Option.some.inj e13
              subst e13
              exact J14 rfl
            ·
              replace e13 := iq c73 e13
              refine aw_iload_n E dX9_copy_76 2 rfl ?_
              refine aw_aload_n E dX9_copy_77 0 rfl ?_
              refine aw_getR (q := 10) E flX9_41 (Nat.le_of_ble_eq_true rfl) rfl rfl dX9_copy_78 ?_
              refine aw_iload_n E dX9_copy_81 1 rfl ?_
              obtain ⟨g22, e13⟩ := gi_e e13
              refine aw_iald E (Nat.le_of_ble_eq_true rfl) rfl g22 dX9_copy_82 ?_
              refine aw_icmp_gt (tgt := 124) E dX9_copy_83 rfl (fun c83 => ?_) (fun c83 => ?_)
              ·
                replace e13 := ip c83 e13
                replace e13 := Option.some.inj e13
                subst e13
                exact J14 rfl
              ·
                replace e13 := iq c83 e13
                refine aw_iload E dX9_copy_86 4 rfl ?_
                refine aw_aload_n E dX9_copy_88 0 rfl ?_
                refine aw_getR (q := 10) E flX9_41 (Nat.le_of_ble_eq_true rfl) rfl rfl dX9_copy_89 ?_
                refine aw_iload_n E dX9_copy_92 3 rfl ?_
                obtain ⟨g23, e13⟩ := gi_e e13
                refine aw_iald E (Nat.le_of_ble_eq_true rfl) rfl g23 dX9_copy_93 ?_
                refine aw_icmp_gt (tgt := 124) E dX9_copy_94 rfl (fun c94 => ?_) (fun c94 => ?_)
                ·
                  replace e13 := ip c94 e13
                  replace e13 := Option.some.inj e13
                  subst e13
                  exact J14 rfl
                ·
                  replace e13 := iq c94 e13
                  refine aw_iload E dX9_copy_97 5 rfl ?_
                  refine aw_aload_n E dX9_copy_99 0 rfl ?_
                  refine aw_getR (q := 10) E flX9_41 (Nat.le_of_ble_eq_true rfl) rfl rfl dX9_copy_100 ?_
                  refine aw_iload_n E dX9_copy_103 1 rfl ?_
                  obtain ⟨g24, e13⟩ := gi_e e13
                  refine aw_iald E (Nat.le_of_ble_eq_true rfl) rfl g24 dX9_copy_104 ?_
                  refine aw_iload_n E dX9_copy_105 2 rfl ?_
                  refine aw_isub E dX9_copy_106 ?_
                  refine aw_icmp_gt (tgt := 124) E dX9_copy_107 rfl (fun c107 => ?_) (fun c107 => ?_)
                  ·
                    replace e13 := ip c107 e13
                    replace e13 := Option.some.inj e13
                    subst e13
                    exact J14 rfl
                  ·
                    replace e13 := iq c107 e13
                    refine aw_iload E dX9_copy_110 5 rfl ?_
                    refine aw_aload_n E dX9_copy_112 0 rfl ?_
                    refine aw_getR (q := 10) E flX9_41 (Nat.le_of_ble_eq_true rfl) rfl rfl dX9_copy_113 ?_
                    refine aw_iload_n E dX9_copy_116 3 rfl ?_
                    obtain ⟨g25, e13⟩ := gi_e e13
                    refine aw_iald E (Nat.le_of_ble_eq_true rfl) rfl g25 dX9_copy_117 ?_
                    refine aw_iload E dX9_copy_118 4 rfl ?_
                    refine aw_isub E dX9_copy_120 ?_
                    refine aw_icmp_le (tgt := 127) E dX9_copy_121 rfl (fun c121 => ?_) (fun c121 => ?_)
                    ·
                      replace e13 := ip c121 e13
                      replace e13 := Option.some.inj e13
                      subst e13
                      exact J15 rfl
                    ·
                      replace e13 := iq c121 e13
                      replace e13 := Option.some.inj e13
                      subst e13
                      exact J14 rfl
      ·
        replace h := iq c56 h
        refine aw_bipush (v := (-13)) E dX9_copy_59 (by decide) ?_
        replace h := Option.some.inj h
        subst h
        exact aw_iret E dX9_copy_61 hr
    refine aw_icmp_eq (tgt := 41) E dX9_copy_28 rfl (fun c28 => ?_) (fun c28 => ?_)
    ·
      replace e7 := ip c28 e7
      replace e7 := Option.some.inj e7
      subst e7
      exact J8 rfl
    ·
      replace e7 := iq c28 e7
      refine aw_aload_n E dX9_copy_31 0 rfl ?_
      refine aw_getR (q := 9) E flX9_38 (Nat.le_of_ble_eq_true rfl) rfl rfl dX9_copy_32 ?_
      refine aw_iload_n E dX9_copy_35 3 rfl ?_
      obtain ⟨g26, e7⟩ := gi_e e7
      refine aw_iald E (Nat.le_of_ble_eq_true rfl) rfl g26 dX9_copy_36 ?_
      refine aw_iconst (v := (-1)) E dX9_copy_37 (by decide) ?_
      refine aw_icmp_ne (tgt := 44) E dX9_copy_38 rfl (fun c38 => ?_) (fun c38 => ?_)
      ·
        replace e7 := iq c38 e7
        replace e7 := Option.some.inj e7
        subst e7
        exact J9 rfl
      ·
        replace e7 := ip c38 e7
        replace e7 := Option.some.inj e7
        subst e7
        exact J8 rfl
  refine aw_if_eq (tgt := 18) E dX9_copy_6 rfl (fun c6 => ?_) (fun c6 => ?_)
  ·
    replace e2 := ip c6 e2
    subst e2
    exact J3 rfl
  ·
    replace e2 := iq c6 e2
    refine aw_iload_n E dX9_copy_9 3 rfl ?_
    refine aw_iconst (v := 0) E dX9_copy_10 (by decide) ?_
    refine aw_iconst (v := 3) E dX9_copy_11 (by decide) ?_
    refine aw_callSi (S := []) E msX9_in mlX9_88 rfl (ctX9_in (yl Y) g a3 0 3  M ) rfl (Nat.le_of_ble_eq_true rfl) (Nat.le_of_ble_eq_true rfl) dX9_copy_12 ?_
    refine aw_if_ne (tgt := 21) E dX9_copy_15 rfl (fun c15 => ?_) (fun c15 => ?_)
    ·
      replace e2 := iq c15 e2
      subst e2
      exact J4 rfl
    ·
      replace e2 := ip c15 e2
      subst e2
      exact J3 rfl
def FX9_count (a1 : Int32) (M : Mem) : Int32 :=
  if a1 = 0 then
    M.1 0 0
  else if a1 = 1 then
    M.1 0 1
  else if a1 = 2 then
    M.1 0 2
  else if a1 = 3 then
    M.1 0 3
  else if a1 = 4 then
    M.1 0 9
  else if a1 = 5 then
    M.1 0 14
  else if a1 = 6 then
    M.1 0 15
  else if a1 = 7 then
    M.1 0 11
  else 
    (-2)
set_option maxHeartbeats 4000000 in
set_option maxRecDepth 100000 in
theorem ctX9_count (l : Launch) (g : CtxG) (a1 : Int32) (M : Mem) : Ct l (WY g) yX9_count cX9_count 2 (some .int) 1 [.ref (wad (WY g) 0), .int a1] M (some (.int (FX9_count a1 M)), M) := by
  obtain ⟨r0, h⟩ : ∃ r0, FX9_count a1 M = r0 := ⟨_, rfl⟩
  rw [h]
  refine Ct.of (by decide) (Nat.le_of_ble_eq_true rfl) (fun Y hY E => ?_)
  have E : EV Y (WY g) cX9_count 2 (some .int) RX9 := E
  --generalize hr : ((some (Value.int r0), M) : Option Value × Mem) = r
  have h : FX9_count a1 M = r0 := h
  unfold FX9_count at h
  show AW Y (WY g) _ 2 1 0 [(0, .ref (wad (WY g) 0)), (1, .int a1)] [] M
  obtain ⟨r, hr⟩ : ∃ r : Option Value × Mem, r = (some (.int r0), M) := ⟨_, rfl⟩
  rw [← hr]
  refine aw_iload_n E dX9_count_0 1 rfl ?_
  by_cases c1_0 : a1 = 0
  ·
    replace h := ip c1_0 h
    refine aw_tin (tgt := 48) (off := 47) E dX9_count_1 (by rw [c1_0]; decide) (by rw [c1_0]; decide) (by rw [c1_0]; decide) (by decide) ?_
    refine aw_aload_n E dX9_count_48 0 rfl ?_
    refine aw_getI E flX9_99 (Nat.le_of_ble_eq_true rfl) rfl rfl dX9_count_49 ?_
    subst h
    exact aw_iret E dX9_count_52 hr
  replace h := iq c1_0 h
  by_cases c1_1 : a1 = 1
  ·
    replace h := ip c1_1 h
    refine aw_tin (tgt := 53) (off := 52) E dX9_count_1 (by rw [c1_1]; decide) (by rw [c1_1]; decide) (by rw [c1_1]; decide) (by decide) ?_
    refine aw_aload_n E dX9_count_53 0 rfl ?_
    refine aw_getI E flX9_7 (Nat.le_of_ble_eq_true rfl) rfl rfl dX9_count_54 ?_
    subst h
    exact aw_iret E dX9_count_57 hr
  replace h := iq c1_1 h
  by_cases c1_2 : a1 = 2
  ·
    replace h := ip c1_2 h
    refine aw_tin (tgt := 58) (off := 57) E dX9_count_1 (by rw [c1_2]; decide) (by rw [c1_2]; decide) (by rw [c1_2]; decide) (by decide) ?_
    refine aw_aload_n E dX9_count_58 0 rfl ?_
    refine aw_getI E flX9_102 (Nat.le_of_ble_eq_true rfl) rfl rfl dX9_count_59 ?_
    subst h
    exact aw_iret E dX9_count_62 hr
  replace h := iq c1_2 h
  by_cases c1_3 : a1 = 3
  ·
    replace h := ip c1_3 h
    refine aw_tin (tgt := 63) (off := 62) E dX9_count_1 (by rw [c1_3]; decide) (by rw [c1_3]; decide) (by rw [c1_3]; decide) (by decide) ?_
    refine aw_aload_n E dX9_count_63 0 rfl ?_
    refine aw_getI E flX9_92 (Nat.le_of_ble_eq_true rfl) rfl rfl dX9_count_64 ?_
    subst h
    exact aw_iret E dX9_count_67 hr
  replace h := iq c1_3 h
  by_cases c1_4 : a1 = 4
  ·
    replace h := ip c1_4 h
    refine aw_tin (tgt := 68) (off := 67) E dX9_count_1 (by rw [c1_4]; decide) (by rw [c1_4]; decide) (by rw [c1_4]; decide) (by decide) ?_
    refine aw_aload_n E dX9_count_68 0 rfl ?_
    refine aw_getI E flX9_105 (Nat.le_of_ble_eq_true rfl) rfl rfl dX9_count_69 ?_
    subst h
    exact aw_iret E dX9_count_72 hr
  replace h := iq c1_4 h
  by_cases c1_5 : a1 = 5
  ·
    replace h := ip c1_5 h
    refine aw_tin (tgt := 73) (off := 72) E dX9_count_1 (by rw [c1_5]; decide) (by rw [c1_5]; decide) (by rw [c1_5]; decide) (by decide) ?_
    refine aw_aload_n E dX9_count_73 0 rfl ?_
    refine aw_getI E flX9_108 (Nat.le_of_ble_eq_true rfl) rfl rfl dX9_count_74 ?_
    subst h
    exact aw_iret E dX9_count_77 hr
  replace h := iq c1_5 h
  by_cases c1_6 : a1 = 6
  ·
    replace h := ip c1_6 h
    refine aw_tin (tgt := 78) (off := 77) E dX9_count_1 (by rw [c1_6]; decide) (by rw [c1_6]; decide) (by rw [c1_6]; decide) (by decide) ?_
    refine aw_aload_n E dX9_count_78 0 rfl ?_
    refine aw_getI E flX9_111 (Nat.le_of_ble_eq_true rfl) rfl rfl dX9_count_79 ?_
    subst h
    exact aw_iret E dX9_count_82 hr
  replace h := iq c1_6 h
  by_cases c1_7 : a1 = 7
  ·
    replace h := ip c1_7 h
    refine aw_tin (tgt := 83) (off := 82) E dX9_count_1 (by rw [c1_7]; decide) (by rw [c1_7]; decide) (by rw [c1_7]; decide) (by decide) ?_
    refine aw_aload_n E dX9_count_83 0 rfl ?_
    refine aw_getI E flX9_81 (Nat.le_of_ble_eq_true rfl) rfl rfl dX9_count_84 ?_
    subst h
    exact aw_iret E dX9_count_87 hr
  replace h := iq c1_7 h
  have nc1_0 := lv_neT (k := 0) (a := 0) c1_0 (by decide)
  have nc1_1 := lv_neT (k := 1) (a := 1) c1_1 (by decide)
  have nc1_2 := lv_neT (k := 2) (a := 2) c1_2 (by decide)
  have nc1_3 := lv_neT (k := 3) (a := 3) c1_3 (by decide)
  have nc1_4 := lv_neT (k := 4) (a := 4) c1_4 (by decide)
  have nc1_5 := lv_neT (k := 5) (a := 5) c1_5 (by decide)
  have nc1_6 := lv_neT (k := 6) (a := 6) c1_6 (by decide)
  have nc1_7 := lv_neT (k := 7) (a := 7) c1_7 (by decide)
  refine aw_tout (tgt := 88) E dX9_count_1 (by omega) (by decide) ?_
  refine aw_bipush (v := (-2)) E dX9_count_88 (by decide) ?_
  subst h
  exact aw_iret E dX9_count_90 hr
def FX9_sets  (M : Mem) : Option (Mem) :=
  ob (FX9_looks 0 M) fun q1 =>
  lt (wr q1 0 47 (q1.1 0 0)) fun M3 =>
  lt (wr M3 0 48 0) fun M5 =>
  lt (wr M5 0 49 0) fun M7 =>
  some M7
set_option maxHeartbeats 4000000 in
set_option maxRecDepth 100000 in
theorem ctX9_sets (l : Launch) (g : CtxG)  (M : Mem) (r0 : Mem) (h : FX9_sets M = some r0) : Ct l (WY g) yX9_sets cX9_sets 1 none 5 [.ref (wad (WY g) 0)] M (none, r0) := by
  refine Ct.of (by decide) (Nat.le_of_ble_eq_true rfl) (fun Y hY E => ?_)
  have E : EV Y (WY g) cX9_sets 1 none RX9 := E
  have h : FX9_sets  M = some r0 := h
  unfold FX9_sets at h
  show AW Y (WY g) _ 1 5 0 [(0, .ref (wad (WY g) 0))] [] M
  obtain ⟨r, hr⟩ : ∃ r : Option Value × Mem, r = (none, r0) := ⟨_, rfl⟩
  rw [← hr]
  refine aw_aload_n E dX9_sets_0 0 rfl ?_
  refine aw_iconst (v := 0) E dX9_sets_1 (by decide) ?_
  obtain ⟨q1, e2, h⟩ := bd_e h
  refine aw_callVv (S := []) E mvX9_looks mlX9_241 (Nat.le_of_ble_eq_true rfl) rfl rfl rfl (ctX9_looks (yl Y) g 0  M q1 e2) rfl (Nat.le_of_ble_eq_true rfl) (Nat.le_of_ble_eq_true rfl) dX9_sets_2 ?_
  refine aw_aload_n E dX9_sets_5 0 rfl ?_
  refine aw_aload_n E dX9_sets_6 0 rfl ?_
  refine aw_getI E flX9_99 (Nat.le_of_ble_eq_true rfl) rfl rfl dX9_sets_7 ?_
  obtain ⟨M3, e4, h⟩ := lt_e h
  refine aw_putI1 e4 E flX9_303 (Nat.le_of_ble_eq_true rfl) rfl rfl nr_int dX9_sets_10 ?_
  refine aw_aload_n E dX9_sets_13 0 rfl ?_
  refine aw_iconst (v := 0) E dX9_sets_14 (by decide) ?_
  obtain ⟨M5, e6, h⟩ := lt_e h
  refine aw_putI1 e6 E flX9_306 (Nat.le_of_ble_eq_true rfl) rfl rfl nr_int dX9_sets_15 ?_
  refine aw_aload_n E dX9_sets_18 0 rfl ?_
  refine aw_iconst (v := 0) E dX9_sets_19 (by decide) ?_
  obtain ⟨M7, e8, h⟩ := lt_e h
  refine aw_putI1 e8 E flX9_309 (Nat.le_of_ble_eq_true rfl) rfl rfl nr_int dX9_sets_20 ?_
  replace h := Option.some.inj h
  subst h
  exact aw_vret E dX9_sets_23 hr
def FX9_mayBeNext (a1 : Int32) (M : Mem) : Option (Int32) :=
  ob (FX9_isStreet a1 M) fun q1 =>
  if q1 = 0 then
    some 0
  else
    lt (α := Bool) (if (M.1 0 2) = 1 then if (M.1 0 48) = 0 then false else if (M.1 0 47) = (M.1 0 0) then true else false else false) fun b3 =>
    if b3 = true then
      some 0
    else
      ob (FX9_spentBy (M.1 0 48) M) fun q7 =>
      ob (α := Int32) (if ((q7 >>> (a1 &&& 31)) &&& 1) = 1 then
        some (-1)
      else
        ob (FX9_sideOf a1 (M.1 0 47) M) fun q21 =>
        some q21) fun q9 =>
      ob (α := Bool) (if q9 = (-1) then
        some false
      else
        gi ((4 * a1) + q9) 52 <|
        if (M.1 17 (Int32.toNatClampNeg ((4 * a1) + q9))) ≤ 0 then
          some false
        else
          ob (FX9_beyond a1 q9 M) fun q17 =>
          ob (FX9_passedBy (M.1 0 48) M) fun q19 =>
          if (FX9_mayCome q17 q19 M) = 0 then some false else some true) fun b12 =>
      if b12 = true then
        some 1
      else
        some 0
set_option maxHeartbeats 4000000 in
set_option maxRecDepth 100000 in
theorem ctX9_mayBeNext (l : Launch) (g : CtxG) (a1 : Int32) (M : Mem) (r0 : Int32) (h : FX9_mayBeNext a1 M = some r0) : Ct l (WY g) yX9_mayBeNext cX9_mayBeNext 3 (some .boolean) 3 [.ref (wad (WY g) 0), .int a1] M (some (.int r0), M) := by
  refine Ct.of (by decide) (Nat.le_of_ble_eq_true rfl) (fun Y hY E => ?_)
  have E : EV Y (WY g) cX9_mayBeNext 3 (some .boolean) RX9 := E
  have h : FX9_mayBeNext a1 M = some r0 := h
  unfold FX9_mayBeNext at h
  show AW Y (WY g) _ 3 3 0 [(0, .ref (wad (WY g) 0)), (1, .int a1)] [] M
  obtain ⟨r, hr⟩ : ∃ r : Option Value × Mem, r = (some (.int r0), M) := ⟨_, rfl⟩
  rw [← hr]
  refine aw_aload_n E dX9_mayBeNext_0 0 rfl ?_
  refine aw_iload_n E dX9_mayBeNext_1 1 rfl ?_
  obtain ⟨q1, e2, h⟩ := bd_e h
  refine aw_callVi (S := []) E mvX9_isStreet mlX9_187 (Nat.le_of_ble_eq_true rfl) rfl rfl rfl (ctX9_isStreet (yl Y) g a1  M q1 e2) rfl (Nat.le_of_ble_eq_true rfl) (Nat.le_of_ble_eq_true rfl) dX9_mayBeNext_2 ?_
  refine aw_if_eq (tgt := 34) E dX9_mayBeNext_5 rfl (fun c5 => ?_) (fun c5 => ?_)
  ·
    replace h := ip c5 h
    refine aw_iconst (v := 0) E dX9_mayBeNext_34 (by decide) ?_
    replace h := Option.some.inj h
    subst h
    exact aw_zret E (by decide) dX9_mayBeNext_35 hr
  ·
    replace h := iq c5 h
    refine aw_aload_n E dX9_mayBeNext_8 0 rfl ?_
    refine aw_getI E flX9_102 (Nat.le_of_ble_eq_true rfl) rfl rfl dX9_mayBeNext_9 ?_
    refine aw_iconst (v := 1) E dX9_mayBeNext_12 (by decide) ?_
    obtain ⟨b3, e4, h⟩ := lt_e h
    have J5 : b3 = true → AW Y (WY g) r 3 3 34 [(0, .ref (wad (WY g) 0)), (1, .int a1)] [] M := fun hb => by
      replace h := ip hb h
      refine aw_iconst (v := 0) E dX9_mayBeNext_34 (by decide) ?_
      replace h := Option.some.inj h
      subst h
      exact aw_zret E (by decide) dX9_mayBeNext_35 hr
    have J6 : b3 = false → AW Y (WY g) r 3 3 36 [(0, .ref (wad (WY g) 0)), (1, .int a1)] [] M := fun hb => by
      replace h := iq (bf hb) h
      refine aw_aload_n E dX9_mayBeNext_36 0 rfl ?_
      refine aw_aload_n E dX9_mayBeNext_37 0 rfl ?_
      refine aw_getI E flX9_306 (Nat.le_of_ble_eq_true rfl) rfl rfl dX9_mayBeNext_38 ?_
      obtain ⟨q7, e8, h⟩ := bd_e h
      refine aw_callVi (S := []) E mvX9_spentBy mlX9_224 (Nat.le_of_ble_eq_true rfl) rfl rfl rfl (ctX9_spentBy (yl Y) g (M.1 0 48)  M q7 e8) rfl (Nat.le_of_ble_eq_true rfl) (Nat.le_of_ble_eq_true rfl) dX9_mayBeNext_41 ?_
      refine aw_iload_n E dX9_mayBeNext_44 1 rfl ?_
      refine aw_ishr E dX9_mayBeNext_45 ?_
      refine aw_iconst (v := 1) E dX9_mayBeNext_46 (by decide) ?_
      refine aw_iand E dX9_mayBeNext_47 ?_
      refine aw_iconst (v := 1) E dX9_mayBeNext_48 (by decide) ?_
      obtain ⟨q9, e10, h⟩ := bd_e h
      have J11 : AW Y (WY g) r 3 3 65 [(0, .ref (wad (WY g) 0)), (1, .int a1)] [.int q9] M := by
        refine aw_istore_n (L1 := [(2, .int q9), (0, .ref (wad (WY g) 0)), (1, .int a1)]) E dX9_mayBeNext_65 (Nat.le_of_ble_eq_true rfl) rfl ?_
        refine aw_iload_n E dX9_mayBeNext_66 0 rfl ?_
        refine aw_iconst (v := (-1)) E dX9_mayBeNext_67 (by decide) ?_
        obtain ⟨b12, e13, h⟩ := bd_e h
        have J14 : b12 = true → AW Y (WY g) r 3 3 105 [(2, .int q9), (0, .ref (wad (WY g) 0)), (1, .int a1)] [] M := fun hb => by
          replace h := ip hb h
          refine aw_iconst (v := 1) E dX9_mayBeNext_105 (by decide) ?_
          refine aw_goto (tgt := 110) E dX9_mayBeNext_106 rfl ?_
          replace h := Option.some.inj h
          subst h
          exact aw_zret E (by decide) dX9_mayBeNext_110 hr
        have J15 : b12 = false → AW Y (WY g) r 3 3 109 [(2, .int q9), (0, .ref (wad (WY g) 0)), (1, .int a1)] [] M := fun hb => by
          replace h := iq (bf hb) h
          refine aw_iconst (v := 0) E dX9_mayBeNext_109 (by decide) ?_
          replace h := Option.some.inj h
          subst h
          exact aw_zret E (by decide) dX9_mayBeNext_110 hr
        refine aw_icmp_eq (tgt := 109) E dX9_mayBeNext_68 rfl (fun c68 => ?_) (fun c68 => ?_)
        ·
          replace e13 := ip c68 e13
          replace e13 := Option.some.inj e13
          subst e13
          exact J15 rfl
        ·
          replace e13 := iq c68 e13
          refine aw_aload_n E dX9_mayBeNext_71 1 rfl ?_
          refine aw_getR (q := 17) E flX9_62 (Nat.le_of_ble_eq_true rfl) rfl rfl dX9_mayBeNext_72 ?_
          refine aw_iconst (v := 4) E dX9_mayBeNext_75 (by decide) ?_
          refine aw_iload_n E dX9_mayBeNext_76 2 rfl ?_
          refine aw_imul E dX9_mayBeNext_77 ?_
          refine aw_iload_n E dX9_mayBeNext_78 0 rfl ?_
          refine aw_iadd E dX9_mayBeNext_79 ?_
          obtain ⟨g16, e13⟩ := gi_e e13
          refine aw_iald E (Nat.le_of_ble_eq_true rfl) rfl g16 dX9_mayBeNext_80 ?_
          refine aw_if_le (tgt := 109) E dX9_mayBeNext_81 rfl (fun c81 => ?_) (fun c81 => ?_)
          ·
            replace e13 := ip c81 e13
            replace e13 := Option.some.inj e13
            subst e13
            exact J15 rfl
          ·
            replace e13 := iq c81 e13
            refine aw_aload_n E dX9_mayBeNext_84 1 rfl ?_
            refine aw_aload_n E dX9_mayBeNext_85 1 rfl ?_
            refine aw_iload_n E dX9_mayBeNext_86 2 rfl ?_
            refine aw_iload_n E dX9_mayBeNext_87 0 rfl ?_
            obtain ⟨q17, e18, e13⟩ := bd_e e13
            refine aw_callVi (S := [.ref (wad (WY g) 0)]) E mvX9_beyond mlX9_217 (Nat.le_of_ble_eq_true rfl) rfl rfl rfl (ctX9_beyond (yl Y) g a1 q9  M q17 e18) rfl (Nat.le_of_ble_eq_true rfl) (Nat.le_of_ble_eq_true rfl) dX9_mayBeNext_88 ?_
            refine aw_aload_n E dX9_mayBeNext_91 1 rfl ?_
            refine aw_aload_n E dX9_mayBeNext_92 1 rfl ?_
            refine aw_getI E flX9_306 (Nat.le_of_ble_eq_true rfl) rfl rfl dX9_mayBeNext_93 ?_
            obtain ⟨q19, e20, e13⟩ := bd_e e13
            refine aw_callVi (S := [.int q17, .ref (wad (WY g) 0)]) E mvX9_passedBy mlX9_227 (Nat.le_of_ble_eq_true rfl) rfl rfl rfl (ctX9_passedBy (yl Y) g (M.1 0 48)  M q19 e20) rfl (Nat.le_of_ble_eq_true rfl) (Nat.le_of_ble_eq_true rfl) dX9_mayBeNext_96 ?_
            refine aw_callVi (S := []) E mvX9_mayCome mlX9_220 (Nat.le_of_ble_eq_true rfl) rfl rfl rfl (ctX9_mayCome (yl Y) g q17 q19  M ) rfl (Nat.le_of_ble_eq_true rfl) (Nat.le_of_ble_eq_true rfl) dX9_mayBeNext_99 ?_
            refine aw_if_eq (tgt := 109) E dX9_mayBeNext_102 rfl (fun c102 => ?_) (fun c102 => ?_)
            ·
              replace e13 := ip c102 e13
              replace e13 := Option.some.inj e13
              subst e13
              exact J15 rfl
            ·
              replace e13 := iq c102 e13
              replace e13 := Option.some.inj e13
              subst e13
              exact J14 rfl
      refine aw_icmp_ne (tgt := 56) E dX9_mayBeNext_49 rfl (fun c49 => ?_) (fun c49 => ?_)
      ·
        replace e10 := iq c49 e10
        refine aw_aload_n E dX9_mayBeNext_56 0 rfl ?_
        refine aw_iload_n E dX9_mayBeNext_57 1 rfl ?_
        refine aw_aload_n E dX9_mayBeNext_58 0 rfl ?_
        refine aw_getI E flX9_303 (Nat.le_of_ble_eq_true rfl) rfl rfl dX9_mayBeNext_59 ?_
        obtain ⟨q21, e22, e10⟩ := bd_e e10
        refine aw_callVi (S := []) E mvX9_sideOf mlX9_214 (Nat.le_of_ble_eq_true rfl) rfl rfl rfl (ctX9_sideOf (yl Y) g a1 (M.1 0 47)  M q21 e22) rfl (Nat.le_of_ble_eq_true rfl) (Nat.le_of_ble_eq_true rfl) dX9_mayBeNext_62 ?_
        refine aw_sub (L1 := [(0, .ref (wad (WY g) 0)), (1, .int a1)]) [0, 1] rfl ?_
        replace e10 := Option.some.inj e10
        subst e10
        exact J11
      ·
        replace e10 := ip c49 e10
        refine aw_iconst (v := (-1)) E dX9_mayBeNext_52 (by decide) ?_
        refine aw_goto (tgt := 65) E dX9_mayBeNext_53 rfl ?_
        refine aw_sub (L1 := [(0, .ref (wad (WY g) 0)), (1, .int a1)]) [0, 1] rfl ?_
        replace e10 := Option.some.inj e10
        subst e10
        exact J11
    refine aw_icmp_ne (tgt := 36) E dX9_mayBeNext_13 rfl (fun c13 => ?_) (fun c13 => ?_)
    ·
      replace e4 := iq c13 e4
      subst e4
      exact J6 rfl
    ·
      replace e4 := ip c13 e4
      refine aw_aload_n E dX9_mayBeNext_16 0 rfl ?_
      refine aw_getI E flX9_306 (Nat.le_of_ble_eq_true rfl) rfl rfl dX9_mayBeNext_17 ?_
      refine aw_if_eq (tgt := 36) E dX9_mayBeNext_20 rfl (fun c20 => ?_) (fun c20 => ?_)
      ·
        replace e4 := ip c20 e4
        subst e4
        exact J6 rfl
      ·
        replace e4 := iq c20 e4
        refine aw_aload_n E dX9_mayBeNext_23 0 rfl ?_
        refine aw_getI E flX9_303 (Nat.le_of_ble_eq_true rfl) rfl rfl dX9_mayBeNext_24 ?_
        refine aw_aload_n E dX9_mayBeNext_27 0 rfl ?_
        refine aw_getI E flX9_99 (Nat.le_of_ble_eq_true rfl) rfl rfl dX9_mayBeNext_28 ?_
        refine aw_icmp_ne (tgt := 36) E dX9_mayBeNext_31 rfl (fun c31 => ?_) (fun c31 => ?_)
        ·
          replace e4 := iq c31 e4
          subst e4
          exact J6 rfl
        ·
          replace e4 := ip c31 e4
          subst e4
          exact J5 rfl
def FX9_nextMany_L4 : Nat → Int32 → Int32 → Mem → Option (Int32)
  | 0, _, _, _ => none
  | f + 1, p1, p2, M =>
    if (M.1 0 3) ≤ p2 then
      some p1
    else
      ob (FX9_mayBeNext p2 M) fun q101 =>
      lt (α := Int32) (if q101 = 0 then
        0
      else
        1) fun q103 =>
      lt (α := Int32) (p1 + q103) fun x106 =>
      lt (α := Int32) (p2 + 1) fun x108 =>
      FX9_nextMany_L4 f  x106 x108 M
def FX9_nextMany  (M : Mem) : Option (Int32) :=
  ob (FX9_nextMany_L4 FU 0 0 M) fun q1 =>
  some q1
set_option maxHeartbeats 4000000 in
set_option maxRecDepth 100000 in
theorem lpX9_nextMany_4 {Y : CtxM} {g : CtxG} {r : Option Value × Mem} (E : EV Y (WY g) cX9_nextMany 3 (some .int) RX9) : ∀ (f : Nat) (p1 : Int32) (p2 : Int32) (M : Mem) (q : Int32), FX9_nextMany_L4 f  p1 p2 M = some q → AW Y (WY g) r 3 4 34 [(1, .int q)] [] M → AW Y (WY g) r 3 4 4 [(0, .ref (wad (WY g) 0)), (1, .int p1), (2, .int p2)] [] M := by
  intro f
  induction f with
  | zero => intro p1 p2 M q hh; exact absurd hh (fun z => nomatch (show (none : Option (Int32)) = some q from z))
  | succ f ih =>
    intro p1 p2 M q hh kx
    rw [FX9_nextMany_L4] at hh
    refine aw_iload_n E dX9_nextMany_4 2 rfl ?_
    refine aw_aload_n E dX9_nextMany_5 0 rfl ?_
    refine aw_getI E flX9_92 (Nat.le_of_ble_eq_true rfl) rfl rfl dX9_nextMany_6 ?_
    refine aw_icmp_ge (tgt := 34) E dX9_nextMany_9 rfl (fun c9 => ?_) (fun c9 => ?_)
    ·
      replace hh := ip c9 hh
      refine aw_sub (L1 := [(1, .int p1)]) [1] rfl ?_
      replace hh := Option.some.inj hh
      subst hh
      exact kx
    ·
      replace hh := iq c9 hh
      refine aw_iload_n E dX9_nextMany_12 1 rfl ?_
      refine aw_aload_n E dX9_nextMany_13 0 rfl ?_
      refine aw_iload_n E dX9_nextMany_14 2 rfl ?_
      obtain ⟨q101, e102, hh⟩ := bd_e hh
      refine aw_callVi (S := [.int p1]) E mvX9_mayBeNext mlX9_315 (Nat.le_of_ble_eq_true rfl) rfl rfl rfl (ctX9_mayBeNext (yl Y) g p2  M q101 e102) rfl (Nat.le_of_ble_eq_true rfl) (Nat.le_of_ble_eq_true rfl) dX9_nextMany_15 ?_
      obtain ⟨q103, e104, hh⟩ := lt_e hh
      have J105 : AW Y (WY g) r 3 4 26 [(0, .ref (wad (WY g) 0)), (2, .int p2)] [.int q103, .int p1] M := by
        refine aw_iadd E dX9_nextMany_26 ?_
        obtain ⟨x106, e107, hh⟩ := lt_e hh
        refine aw_nmI e107 ?_
        refine aw_istore_n (L1 := [(1, .int x106), (0, .ref (wad (WY g) 0)), (2, .int p2)]) E dX9_nextMany_27 (Nat.le_of_ble_eq_true rfl) rfl ?_
        obtain ⟨x108, e109, hh⟩ := lt_e hh
        refine aw_iinc (v := x108) (L1 := [(2, .int x108), (1, .int x106), (0, .ref (wad (WY g) 0))]) E dX9_nextMany_28 2 rfl e109 (Nat.le_of_ble_eq_true rfl) rfl ?_
        refine aw_goto (tgt := 4) E dX9_nextMany_31 rfl ?_
        refine aw_sub (L1 := [(0, .ref (wad (WY g) 0)), (1, .int x106), (2, .int x108)]) [2, 1, 0] rfl ?_
        exact ih x106 x108 M _ hh kx
      refine aw_if_eq (tgt := 25) E dX9_nextMany_18 rfl (fun c18 => ?_) (fun c18 => ?_)
      ·
        replace e104 := ip c18 e104
        refine aw_iconst (v := 0) E dX9_nextMany_25 (by decide) ?_
        refine aw_sub (L1 := [(0, .ref (wad (WY g) 0)), (2, .int p2)]) [0, 2] rfl ?_
        subst e104
        exact J105
      ·
        replace e104 := iq c18 e104
        refine aw_iconst (v := 1) E dX9_nextMany_21 (by decide) ?_
        refine aw_goto (tgt := 26) E dX9_nextMany_22 rfl ?_
        refine aw_sub (L1 := [(0, .ref (wad (WY g) 0)), (2, .int p2)]) [0, 2] rfl ?_
        subst e104
        exact J105
set_option maxHeartbeats 4000000 in
set_option maxRecDepth 100000 in
theorem ctX9_nextMany (l : Launch) (g : CtxG)  (M : Mem) (r0 : Int32) (h : FX9_nextMany M = some r0) : Ct l (WY g) yX9_nextMany cX9_nextMany 3 (some .int) 4 [.ref (wad (WY g) 0)] M (some (.int r0), M) := by
  refine Ct.of (by decide) (Nat.le_of_ble_eq_true rfl) (fun Y hY E => ?_)
  have E : EV Y (WY g) cX9_nextMany 3 (some .int) RX9 := E
  have h : FX9_nextMany  M = some r0 := h
  unfold FX9_nextMany at h
  show AW Y (WY g) _ 3 4 0 [(0, .ref (wad (WY g) 0))] [] M
  obtain ⟨r, hr⟩ : ∃ r : Option Value × Mem, r = (some (.int r0), M) := ⟨_, rfl⟩
  rw [← hr]
  refine aw_iconst (v := 0) E dX9_nextMany_0 (by decide) ?_
  refine aw_istore_n (L1 := [(1, .int 0), (0, .ref (wad (WY g) 0))]) E dX9_nextMany_1 (Nat.le_of_ble_eq_true rfl) rfl ?_
  refine aw_iconst (v := 0) E dX9_nextMany_2 (by decide) ?_
  refine aw_istore_n (L1 := [(2, .int 0), (1, .int 0), (0, .ref (wad (WY g) 0))]) E dX9_nextMany_3 (Nat.le_of_ble_eq_true rfl) rfl ?_
  obtain ⟨q1, e2, h⟩ := bd_e h
  refine aw_sub (L1 := [(0, .ref (wad (WY g) 0)), (1, .int 0), (2, .int 0)]) [2, 1, 0] rfl ?_
  refine lpX9_nextMany_4 E    FU 0 0 M q1 e2 ?_
  refine aw_iload_n E dX9_nextMany_34 0 rfl ?_
  replace h := Option.some.inj h
  subst h
  exact aw_iret E dX9_nextMany_35 hr
def FX9_nextOf_L4 : Nat → Int32 → Int32 → Mem → Option (Int32 ⊕ (Unit))
  | 0, _, _, _ => none
  | f + 1, p2, p3, M =>
    if (M.1 0 3) ≤ p3 then
      some (.inr (()))
    else
      ob (FX9_mayBeNext p3 M) fun q101 =>
      if q101 = 0 then
        lt (α := Int32) (p3 + 1) fun x103 =>
        FX9_nextOf_L4 f  p2 x103 M
      else
        if p2 = 0 then
          some (.inl p3)
        else
          lt (α := Int32) (p2 + (-1)) fun x105 =>
          lt (α := Int32) (p3 + 1) fun x107 =>
          FX9_nextOf_L4 f  x105 x107 M
def FX9_nextOf (a1 : Int32) (M : Mem) : Option (Int32) :=
  ob (FX9_nextOf_L4 FU a1 0 M) fun q1 => Sum.elim (fun v3 => some v3) (fun q5 =>
    some (-1)) q1
set_option maxHeartbeats 4000000 in
set_option maxRecDepth 100000 in
theorem lpX9_nextOf_4 {Y : CtxM} {g : CtxG} {r : Option Value × Mem} (E : EV Y (WY g) cX9_nextOf 4 (some .int) RX9) : ∀ (f : Nat) (p2 : Int32) (p3 : Int32) (M : Mem) (q : Int32 ⊕ (Unit)), FX9_nextOf_L4 f  p2 p3 M = some q → (∀ v, q = .inl v → r = (some (.int v), M)) → (∀ t, q = .inr t → AW Y (WY g) r 4 4 35 [] [] M) → AW Y (WY g) r 4 4 4 [(0, .ref (wad (WY g) 0)), (2, .int p2), (3, .int p3)] [] M := by
  intro f
  induction f with
  | zero => intro p2 p3 M q hh; exact absurd hh (fun z => nomatch (show (none : Option (Int32 ⊕ (Unit))) = some q from z))
  | succ f ih =>
    intro p2 p3 M q hh kr kx
    rw [FX9_nextOf_L4] at hh
    refine aw_iload_n E dX9_nextOf_4 2 rfl ?_
    refine aw_aload_n E dX9_nextOf_5 0 rfl ?_
    refine aw_getI E flX9_92 (Nat.le_of_ble_eq_true rfl) rfl rfl dX9_nextOf_6 ?_
    refine aw_icmp_ge (tgt := 35) E dX9_nextOf_9 rfl (fun c9 => ?_) (fun c9 => ?_)
    ·
      replace hh := ip c9 hh
      refine aw_sub (L1 := []) [] rfl ?_
      replace hh := Option.some.inj hh
      subst hh
      exact kx _ rfl
    ·
      replace hh := iq c9 hh
      refine aw_aload_n E dX9_nextOf_12 0 rfl ?_
      refine aw_iload_n E dX9_nextOf_13 2 rfl ?_
      obtain ⟨q101, e102, hh⟩ := bd_e hh
      refine aw_callVi (S := []) E mvX9_mayBeNext mlX9_315 (Nat.le_of_ble_eq_true rfl) rfl rfl rfl (ctX9_mayBeNext (yl Y) g p3  M q101 e102) rfl (Nat.le_of_ble_eq_true rfl) (Nat.le_of_ble_eq_true rfl) dX9_nextOf_14 ?_
      refine aw_if_eq (tgt := 29) E dX9_nextOf_17 rfl (fun c17 => ?_) (fun c17 => ?_)
      ·
        replace hh := ip c17 hh
        obtain ⟨x103, e104, hh⟩ := lt_e hh
        refine aw_iinc (v := x103) (L1 := [(3, .int x103), (0, .ref (wad (WY g) 0)), (2, .int p2)]) E dX9_nextOf_29 2 rfl e104 (Nat.le_of_ble_eq_true rfl) rfl ?_
        refine aw_goto (tgt := 4) E dX9_nextOf_32 rfl ?_
        refine aw_sub (L1 := [(0, .ref (wad (WY g) 0)), (2, .int p2), (3, .int x103)]) [1, 2, 0] rfl ?_
        exact ih p2 x103 M _ hh kr kx
      ·
        replace hh := iq c17 hh
        refine aw_iload_n E dX9_nextOf_20 1 rfl ?_
        refine aw_if_ne (tgt := 26) E dX9_nextOf_21 rfl (fun c21 => ?_) (fun c21 => ?_)
        ·
          replace hh := iq c21 hh
          obtain ⟨x105, e106, hh⟩ := lt_e hh
          refine aw_iinc (v := x105) (L1 := [(2, .int x105), (0, .ref (wad (WY g) 0)), (3, .int p3)]) E dX9_nextOf_26 1 rfl e106 (Nat.le_of_ble_eq_true rfl) rfl ?_
          obtain ⟨x107, e108, hh⟩ := lt_e hh
          refine aw_iinc (v := x107) (L1 := [(3, .int x107), (2, .int x105), (0, .ref (wad (WY g) 0))]) E dX9_nextOf_29 2 rfl e108 (Nat.le_of_ble_eq_true rfl) rfl ?_
          refine aw_goto (tgt := 4) E dX9_nextOf_32 rfl ?_
          refine aw_sub (L1 := [(0, .ref (wad (WY g) 0)), (2, .int x105), (3, .int x107)]) [2, 1, 0] rfl ?_
          exact ih x105 x107 M _ hh kr kx
        ·
          replace hh := ip c21 hh
          refine aw_iload_n E dX9_nextOf_24 2 rfl ?_
          replace hh := Option.some.inj hh
          subst hh
          exact aw_iret E dX9_nextOf_25 (kr _ rfl)
set_option maxHeartbeats 4000000 in
set_option maxRecDepth 100000 in
theorem ctX9_nextOf (l : Launch) (g : CtxG) (a1 : Int32) (M : Mem) (r0 : Int32) (h : FX9_nextOf a1 M = some r0) : Ct l (WY g) yX9_nextOf cX9_nextOf 4 (some .int) 4 [.ref (wad (WY g) 0), .int a1] M (some (.int r0), M) := by
  refine Ct.of (by decide) (Nat.le_of_ble_eq_true rfl) (fun Y hY E => ?_)
  have E : EV Y (WY g) cX9_nextOf 4 (some .int) RX9 := E
  have h : FX9_nextOf a1 M = some r0 := h
  unfold FX9_nextOf at h
  show AW Y (WY g) _ 4 4 0 [(0, .ref (wad (WY g) 0)), (1, .int a1)] [] M
  obtain ⟨r, hr⟩ : ∃ r : Option Value × Mem, r = (some (.int r0), M) := ⟨_, rfl⟩
  rw [← hr]
  refine aw_iload_n E dX9_nextOf_0 1 rfl ?_
  refine aw_istore_n (L1 := [(2, .int a1), (0, .ref (wad (WY g) 0)), (1, .int a1)]) E dX9_nextOf_1 (Nat.le_of_ble_eq_true rfl) rfl ?_
  refine aw_iconst (v := 0) E dX9_nextOf_2 (by decide) ?_
  refine aw_istore_n (L1 := [(3, .int 0), (2, .int a1), (0, .ref (wad (WY g) 0)), (1, .int a1)]) E dX9_nextOf_3 (Nat.le_of_ble_eq_true rfl) rfl ?_
  obtain ⟨q1, e2, h⟩ := bd_e h
  refine aw_sub (L1 := [(0, .ref (wad (WY g) 0)), (2, .int a1), (3, .int 0)]) [2, 1, 0] rfl ?_
  refine lpX9_nextOf_4 E    FU a1 0 M q1 e2 (fun v3 e4 => ?_) (fun q5 e6 => ?_)
  ·
    subst e4
    replace h := Option.some.inj h
    subst h
    exact hr
  ·
    subst e6
    refine aw_iconst (v := (-1)) E dX9_nextOf_35 (by decide) ?_
    replace h := Option.some.inj h
    subst h
    exact aw_iret E dX9_nextOf_36 hr
def FX9_steps (a1 : Int32) (M : Mem) : Option (Mem) :=
  ob (FX9_sideOf a1 (M.1 0 47) M) fun q1 =>
  gi ((4 * a1) + q1) 52 <|
  lt (wr M 0 49 ((M.1 0 49) + (M.1 17 (Int32.toNatClampNeg ((4 * a1) + q1))))) fun M4 =>
  ob (FX9_beyond a1 q1 M4) fun q6 =>
  lt (wr M4 0 47 q6) fun M8 =>
  lt (wr M8 0 48 ((M8.1 0 48) ||| ((1 : Int32) <<< (a1 &&& 31)))) fun M10 =>
  some M10
set_option maxHeartbeats 4000000 in
set_option maxRecDepth 100000 in
theorem ctX9_steps (l : Launch) (g : CtxG) (a1 : Int32) (M : Mem) (r0 : Mem) (h : FX9_steps a1 M = some r0) : Ct l (WY g) yX9_steps cX9_steps 3 none 2 [.ref (wad (WY g) 0), .int a1] M (none, r0) := by
  refine Ct.of (by decide) (Nat.le_of_ble_eq_true rfl) (fun Y hY E => ?_)
  have E : EV Y (WY g) cX9_steps 3 none RX9 := E
  have h : FX9_steps a1 M = some r0 := h
  unfold FX9_steps at h
  show AW Y (WY g) _ 3 2 0 [(0, .ref (wad (WY g) 0)), (1, .int a1)] [] M
  obtain ⟨r, hr⟩ : ∃ r : Option Value × Mem, r = (none, r0) := ⟨_, rfl⟩
  rw [← hr]
  refine aw_aload_n E dX9_steps_0 0 rfl ?_
  refine aw_iload_n E dX9_steps_1 1 rfl ?_
  refine aw_aload_n E dX9_steps_2 0 rfl ?_
  refine aw_getI E flX9_303 (Nat.le_of_ble_eq_true rfl) rfl rfl dX9_steps_3 ?_
  obtain ⟨q1, e2, h⟩ := bd_e h
  refine aw_callVi (S := []) E mvX9_sideOf mlX9_214 (Nat.le_of_ble_eq_true rfl) rfl rfl rfl (ctX9_sideOf (yl Y) g a1 (M.1 0 47)  M q1 e2) rfl (Nat.le_of_ble_eq_true rfl) (Nat.le_of_ble_eq_true rfl) dX9_steps_6 ?_
  refine aw_istore_n (L1 := [(2, .int q1), (0, .ref (wad (WY g) 0)), (1, .int a1)]) E dX9_steps_9 (Nat.le_of_ble_eq_true rfl) rfl ?_
  refine aw_aload_n E dX9_steps_10 1 rfl ?_
  refine aw_dup E dX9_steps_11 rfl ?_
  refine aw_getI E flX9_309 (Nat.le_of_ble_eq_true rfl) rfl rfl dX9_steps_12 ?_
  refine aw_aload_n E dX9_steps_15 1 rfl ?_
  refine aw_getR (q := 17) E flX9_62 (Nat.le_of_ble_eq_true rfl) rfl rfl dX9_steps_16 ?_
  refine aw_iconst (v := 4) E dX9_steps_19 (by decide) ?_
  refine aw_iload_n E dX9_steps_20 2 rfl ?_
  refine aw_imul E dX9_steps_21 ?_
  refine aw_iload_n E dX9_steps_22 0 rfl ?_
  refine aw_iadd E dX9_steps_23 ?_
  obtain ⟨g3, h⟩ := gi_e h
  refine aw_iald E (Nat.le_of_ble_eq_true rfl) rfl g3 dX9_steps_24 ?_
  refine aw_iadd E dX9_steps_25 ?_
  obtain ⟨M4, e5, h⟩ := lt_e h
  refine aw_putI1 e5 E flX9_309 (Nat.le_of_ble_eq_true rfl) rfl rfl nr_int dX9_steps_26 ?_
  refine aw_aload_n E dX9_steps_29 1 rfl ?_
  refine aw_aload_n E dX9_steps_30 1 rfl ?_
  refine aw_iload_n E dX9_steps_31 2 rfl ?_
  refine aw_iload_n E dX9_steps_32 0 rfl ?_
  obtain ⟨q6, e7, h⟩ := bd_e h
  refine aw_callVi (S := [.ref (wad (WY g) 0)]) E mvX9_beyond mlX9_217 (Nat.le_of_ble_eq_true rfl) rfl rfl rfl (ctX9_beyond (yl Y) g a1 q1  M4 q6 e7) rfl (Nat.le_of_ble_eq_true rfl) (Nat.le_of_ble_eq_true rfl) dX9_steps_33 ?_
  obtain ⟨M8, e9, h⟩ := lt_e h
  refine aw_putI1 e9 E flX9_303 (Nat.le_of_ble_eq_true rfl) rfl rfl nr_int dX9_steps_36 ?_
  refine aw_aload_n E dX9_steps_39 1 rfl ?_
  refine aw_dup E dX9_steps_40 rfl ?_
  refine aw_getI E flX9_306 (Nat.le_of_ble_eq_true rfl) rfl rfl dX9_steps_41 ?_
  refine aw_iconst (v := 1) E dX9_steps_44 (by decide) ?_
  refine aw_iload_n E dX9_steps_45 2 rfl ?_
  refine aw_ishl E dX9_steps_46 ?_
  refine aw_ior E dX9_steps_47 ?_
  obtain ⟨M10, e11, h⟩ := lt_e h
  refine aw_putI1 e11 E flX9_306 (Nat.le_of_ble_eq_true rfl) rfl rfl nr_int dX9_steps_48 ?_
  replace h := Option.some.inj h
  subst h
  exact aw_vret E dX9_steps_51 hr
