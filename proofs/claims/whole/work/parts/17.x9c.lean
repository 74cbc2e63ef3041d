/-! PRINTED by wip/gen: pure functions of the methods, and that the machine does what they say -/
def FX9_draws_L9 : Nat → Int64 → Mem → Option (Mem)
  | 0, _, _ => none
  | f + 1, p2, M =>
    ob (α := Bool) (if (M.1 0 48) = 0 then
      ob (FX9_nextMany M) fun q114 =>
      if q114 ≤ 0 then some false else some true
    else
      if (M.1 0 47) = (M.1 0 0) then
        some false
      else
        ob (FX9_nextMany M) fun q116 =>
        if q116 ≤ 0 then some false else some true) fun b101 =>
    if b101 = true then
      lt (α := Int64) ((p2 * 48271) - (p2 * 48271) / 2147483647 * 2147483647) fun x105 =>
      ob (FX9_nextMany M) fun q107 =>
      gd (¬ (q107.toInt64) = 0) <|
      ob (FX9_nextOf ((x105 - x105 / (q107.toInt64) * (q107.toInt64)).toInt32) M) fun q110 =>
      ob (FX9_steps q110 M) fun q112 =>
      FX9_draws_L9 f  x105 q112
    else
      some M
def FX9_draws (a1 : Int32) (M : Mem) : Option (Mem) :=
  ob (FX9_sets M) fun q1 =>
  lt (α := Int64) ((a1.toInt64) + 1) fun x3 =>
  ob (FX9_draws_L9 FU x3 q1) fun q5 =>
  some q5
set_option maxHeartbeats 4000000 in
set_option maxRecDepth 100000 in
theorem lpX9_draws_9 {Y : CtxM} {g : CtxG} {r : Option Value × Mem} (E : EV Y (WY g) cX9_draws 4 none RX9) : ∀ (f : Nat) (p2 : Int64) (M : Mem) (q : Mem), FX9_draws_L9 f  p2 M = some q → AW Y (WY g) r 4 6 63 [] [] q → AW Y (WY g) r 4 6 9 [(0, .ref (wad (WY g) 0)), (2, .long p2)] [] M := by
  intro f
  induction f with
  | zero => intro p2 M q hh; exact absurd hh (fun z => nomatch (show (none : Option (Mem)) = some q from z))
  | succ f ih =>
    intro p2 M q hh kx
    rw [FX9_draws_L9] at hh
    refine aw_aload_n E dX9_draws_9 0 rfl ?_
    refine aw_getI E flX9_306 (Nat.le_of_ble_eq_true rfl) rfl rfl dX9_draws_10 ?_
    obtain ⟨b101, e102, hh⟩ := bd_e hh
    have J103 : b101 = true → AW Y (WY g) r 4 6 34 [(0, .ref (wad (WY g) 0)), (2, .long p2)] [] M := fun hb => by
      replace hh := ip hb hh
      refine aw_lload_n E dX9_draws_34 1 rfl ?_
      refine aw_ldc2 (v := 48271) E kcX9_327 dX9_draws_35 ?_
      refine aw_lmul E dX9_draws_38 ?_
      refine aw_ldc2 (v := 2147483647) E kcX9_329 dX9_draws_39 ?_
      refine aw_lrem E dX9_draws_42 (by decide) ?_
      obtain ⟨x105, e106, hh⟩ := lt_e hh
      refine aw_nmJ e106 ?_
      refine aw_lstore_n (L1 := [(2, .long x105), (0, .ref (wad (WY g) 0))]) E dX9_draws_43 (Nat.le_of_ble_eq_true rfl) rfl ?_
      refine aw_aload_n E dX9_draws_44 1 rfl ?_
      refine aw_aload_n E dX9_draws_45 1 rfl ?_
      refine aw_lload_n E dX9_draws_46 0 rfl ?_
      refine aw_aload_n E dX9_draws_47 1 rfl ?_
      obtain ⟨q107, e108, hh⟩ := bd_e hh
      refine aw_callVi (S := [.long x105, .ref (wad (WY g) 0), .ref (wad (WY g) 0)]) E mvX9_nextMany mlX9_324 (Nat.le_of_ble_eq_true rfl) rfl rfl rfl (ctX9_nextMany (yl Y) g   M q107 e108) rfl (Nat.le_of_ble_eq_true rfl) (Nat.le_of_ble_eq_true rfl) dX9_draws_48 ?_
      refine aw_i2l E dX9_draws_51 ?_
      obtain ⟨g109, hh⟩ := gd_e hh
      refine aw_lrem E dX9_draws_52 g109 ?_
      refine aw_l2i E dX9_draws_53 ?_
      obtain ⟨q110, e111, hh⟩ := bd_e hh
      refine aw_callVi (S := [.ref (wad (WY g) 0)]) E mvX9_nextOf mlX9_331 (Nat.le_of_ble_eq_true rfl) rfl rfl rfl (ctX9_nextOf (yl Y) g ((x105 - x105 / (q107.toInt64) * (q107.toInt64)).toInt32)  M q110 e111) rfl (Nat.le_of_ble_eq_true rfl) (Nat.le_of_ble_eq_true rfl) dX9_draws_54 ?_
      obtain ⟨q112, e113, hh⟩ := bd_e hh
      refine aw_callVv (S := []) E mvX9_steps mlX9_318 (Nat.le_of_ble_eq_true rfl) rfl rfl rfl (ctX9_steps (yl Y) g q110  M q112 e113) rfl (Nat.le_of_ble_eq_true rfl) (Nat.le_of_ble_eq_true rfl) dX9_draws_57 ?_
      refine aw_goto (tgt := 9) E dX9_draws_60 rfl ?_
      refine aw_sub (L1 := [(0, .ref (wad (WY g) 0)), (2, .long x105)]) [1, 0] rfl ?_
      exact ih x105 q112 _ hh kx
    have J104 : b101 = false → AW Y (WY g) r 4 6 63 [(0, .ref (wad (WY g) 0)), (2, .long p2)] [] M := fun hb => by
      replace hh := iq (bf hb) hh
      refine aw_sub (L1 := []) [] rfl ?_
      replace hh := Option.some.inj hh
      subst hh
      exact kx
    refine aw_if_eq (tgt := 27) E dX9_draws_13 rfl (fun c13 => ?_) (fun c13 => ?_)
    ·
      replace e102 := ip c13 e102
      refine aw_aload_n E dX9_draws_27 0 rfl ?_
      obtain ⟨q114, e115, e102⟩ := bd_e e102
      refine aw_callVi (S := []) E mvX9_nextMany mlX9_324 (Nat.le_of_ble_eq_true rfl) rfl rfl rfl (ctX9_nextMany (yl Y) g   M q114 e115) rfl (Nat.le_of_ble_eq_true rfl) (Nat.le_of_ble_eq_true rfl) dX9_draws_28 ?_
      refine aw_if_le (tgt := 63) E dX9_draws_31 rfl (fun c31 => ?_) (fun c31 => ?_)
      ·
        replace e102 := ip c31 e102
        replace e102 := Option.some.inj e102
        subst e102
        exact J104 rfl
      ·
        replace e102 := iq c31 e102
        replace e102 := Option.some.inj e102
        subst e102
        exact J103 rfl
    ·
      replace e102 := iq c13 e102
      refine aw_aload_n E dX9_draws_16 0 rfl ?_
      refine aw_getI E flX9_303 (Nat.le_of_ble_eq_true rfl) rfl rfl dX9_draws_17 ?_
      refine aw_aload_n E dX9_draws_20 0 rfl ?_
      refine aw_getI E flX9_99 (Nat.le_of_ble_eq_true rfl) rfl rfl dX9_draws_21 ?_
      refine aw_icmp_eq (tgt := 63) E dX9_draws_24 rfl (fun c24 => ?_) (fun c24 => ?_)
      ·
        replace e102 := ip c24 e102
        replace e102 := Option.some.inj e102
        subst e102
        exact J104 rfl
      ·
        replace e102 := iq c24 e102
        refine aw_aload_n E dX9_draws_27 0 rfl ?_
        obtain ⟨q116, e117, e102⟩ := bd_e e102
        refine aw_callVi (S := []) E mvX9_nextMany mlX9_324 (Nat.le_of_ble_eq_true rfl) rfl rfl rfl (ctX9_nextMany (yl Y) g   M q116 e117) rfl (Nat.le_of_ble_eq_true rfl) (Nat.le_of_ble_eq_true rfl) dX9_draws_28 ?_
        refine aw_if_le (tgt := 63) E dX9_draws_31 rfl (fun c31 => ?_) (fun c31 => ?_)
        ·
          replace e102 := ip c31 e102
          replace e102 := Option.some.inj e102
          subst e102
          exact J104 rfl
        ·
          replace e102 := iq c31 e102
          replace e102 := Option.some.inj e102
          subst e102
          exact J103 rfl
set_option maxHeartbeats 4000000 in
set_option maxRecDepth 100000 in
theorem ctX9_draws (l : Launch) (g : CtxG) (a1 : Int32) (M : Mem) (r0 : Mem) (h : FX9_draws a1 M = some r0) : Ct l (WY g) yX9_draws cX9_draws 4 none 6 [.ref (wad (WY g) 0), .int a1] M (none, r0) := by
  refine Ct.of (by decide) (Nat.le_of_ble_eq_true rfl) (fun Y hY E => ?_)
  have E : EV Y (WY g) cX9_draws 4 none RX9 := E
  have h : FX9_draws a1 M = some r0 := h
  unfold FX9_draws at h
  show AW Y (WY g) _ 4 6 0 [(0, .ref (wad (WY g) 0)), (1, .int a1)] [] M
  obtain ⟨r, hr⟩ : ∃ r : Option Value × Mem, r = (none, r0) := ⟨_, rfl⟩
  rw [← hr]
  refine aw_aload_n E dX9_draws_0 0 rfl ?_
  obtain ⟨q1, e2, h⟩ := bd_e h
  refine aw_callVv (S := []) E mvX9_sets mlX9_312 (Nat.le_of_ble_eq_true rfl) rfl rfl rfl (ctX9_sets (yl Y) g   M q1 e2) rfl (Nat.le_of_ble_eq_true rfl) (Nat.le_of_ble_eq_true rfl) dX9_draws_1 ?_
  refine aw_iload_n E dX9_draws_4 1 rfl ?_
  refine aw_i2l E dX9_draws_5 ?_
  refine aw_lconst (v := 1) E dX9_draws_6 (by decide) ?_
  refine aw_ladd E dX9_draws_7 ?_
  obtain ⟨x3, e4, h⟩ := lt_e h
  refine aw_nmJ e4 ?_
  refine aw_lstore_n (L1 := [(2, .long x3), (0, .ref (wad (WY g) 0)), (1, .int a1)]) E dX9_draws_8 (Nat.le_of_ble_eq_true rfl) rfl ?_
  obtain ⟨q5, e6, h⟩ := bd_e h
  refine aw_sub (L1 := [(0, .ref (wad (WY g) 0)), (2, .long x3)]) [1, 0] rfl ?_
  refine lpX9_draws_9 E    FU x3 q1 q5 e6 ?_
  replace h := Option.some.inj h
  subst h
  exact aw_vret E dX9_draws_63 hr
def FX9_ones_L4 : Nat → Int32 → Int32 → Int32 → Option (Int32)
  | 0, _, _, _ => none
  | f + 1, p0, p1, p2 =>
    if 13 ≤ p2 then
      some p1
    else
      lt (α := Int32) (p1 + ((p0 >>> (p2 &&& 31)) &&& 1)) fun x101 =>
      lt (α := Int32) (p2 + 1) fun x103 =>
      FX9_ones_L4 f p0 x101 x103
def FX9_ones (a0 : Int32) : Option (Int32) :=
  ob (FX9_ones_L4 FU a0 0 0) fun q1 =>
  some q1
set_option maxHeartbeats 4000000 in
set_option maxRecDepth 100000 in
theorem lpX9_ones_4 {Y : CtxM} {g : CtxG} {r : Option Value × Mem} (E : EV Y (WY g) cX9_ones 3 (some .int) RX9) (p0 : Int32) : ∀ (f : Nat) (p1 : Int32) (p2 : Int32) (M : Mem) (q : Int32), FX9_ones_L4 f p0 p1 p2 = some q → AW Y (WY g) r 3 1 24 [(1, .int q)] [] M → AW Y (WY g) r 3 1 4 [(0, .int p0), (1, .int p1), (2, .int p2)] [] M := by
  intro f
  induction f with
  | zero => intro p1 p2 M q hh; exact absurd hh (fun z => nomatch (show (none : Option (Int32)) = some q from z))
  | succ f ih =>
    intro p1 p2 M q hh kx
    rw [FX9_ones_L4] at hh
    refine aw_iload_n E dX9_ones_4 2 rfl ?_
    refine aw_bipush (v := 13) E dX9_ones_5 (by decide) ?_
    refine aw_icmp_ge (tgt := 24) E dX9_ones_7 rfl (fun c7 => ?_) (fun c7 => ?_)
    ·
      replace hh := ip c7 hh
      refine aw_sub (L1 := [(1, .int p1)]) [1] rfl ?_
      replace hh := Option.some.inj hh
      subst hh
      exact kx
    ·
      replace hh := iq c7 hh
      refine aw_iload_n E dX9_ones_10 1 rfl ?_
      refine aw_iload_n E dX9_ones_11 0 rfl ?_
      refine aw_iload_n E dX9_ones_12 2 rfl ?_
      refine aw_ishr E dX9_ones_13 ?_
      refine aw_iconst (v := 1) E dX9_ones_14 (by decide) ?_
      refine aw_iand E dX9_ones_15 ?_
      refine aw_iadd E dX9_ones_16 ?_
      obtain ⟨x101, e102, hh⟩ := lt_e hh
      refine aw_nmI e102 ?_
      refine aw_istore_n (L1 := [(1, .int x101), (0, .int p0), (2, .int p2)]) E dX9_ones_17 (Nat.le_of_ble_eq_true rfl) rfl ?_
      obtain ⟨x103, e104, hh⟩ := lt_e hh
      refine aw_iinc (v := x103) (L1 := [(2, .int x103), (1, .int x101), (0, .int p0)]) E dX9_ones_18 2 rfl e104 (Nat.le_of_ble_eq_true rfl) rfl ?_
      refine aw_goto (tgt := 4) E dX9_ones_21 rfl ?_
      refine aw_sub (L1 := [(0, .int p0), (1, .int x101), (2, .int x103)]) [2, 1, 0] rfl ?_
      exact ih x101 x103 M _ hh kx
set_option maxHeartbeats 4000000 in
set_option maxRecDepth 100000 in
theorem ctX9_ones (l : Launch) (g : CtxG) (a0 : Int32) (M : Mem) (r0 : Int32) (h : FX9_ones a0 = some r0) : Ct l (WY g) yX9_ones cX9_ones 3 (some .int) 1 [.int a0] M (some (.int r0), M) := by
  refine Ct.of (by decide) (Nat.le_of_ble_eq_true rfl) (fun Y hY E => ?_)
  have E : EV Y (WY g) cX9_ones 3 (some .int) RX9 := E
  have h : FX9_ones a0 = some r0 := h
  unfold FX9_ones at h
  show AW Y (WY g) _ 3 1 0 [(0, .int a0)] [] M
  obtain ⟨r, hr⟩ : ∃ r : Option Value × Mem, r = (some (.int r0), M) := ⟨_, rfl⟩
  rw [← hr]
  refine aw_iconst (v := 0) E dX9_ones_0 (by decide) ?_
  refine aw_istore_n (L1 := [(1, .int 0), (0, .int a0)]) E dX9_ones_1 (Nat.le_of_ble_eq_true rfl) rfl ?_
  refine aw_iconst (v := 0) E dX9_ones_2 (by decide) ?_
  refine aw_istore_n (L1 := [(2, .int 0), (1, .int 0), (0, .int a0)]) E dX9_ones_3 (Nat.le_of_ble_eq_true rfl) rfl ?_
  obtain ⟨q1, e2, h⟩ := bd_e h
  refine aw_sub (L1 := [(0, .int a0), (1, .int 0), (2, .int 0)]) [2, 1, 0] rfl ?_
  refine lpX9_ones_4 E   a0 FU 0 0 M q1 e2 ?_
  refine aw_iload_n E dX9_ones_24 0 rfl ?_
  replace h := Option.some.inj h
  subst h
  exact aw_iret E dX9_ones_25 hr
def FX9_drawn (a1 : Int32) (a2 : Int32) (M : Mem) : Option (Int32 × Mem) :=
  lt (α := Bool) (if (FX9_in a1 0 99999) = 0 then true else if (FX9_in a2 0 2) = 0 then true else false) fun b1 =>
  if b1 = true then
    some ((-2), M)
  else
    ob (FX9_draws a1 M) fun q5 =>
    if a2 = 0 then
      some (q5.1 0 49, q5)
    else
      if a2 = 1 then
        some (q5.1 0 47, q5)
      else
        ob (FX9_ones (q5.1 0 48)) fun q7 =>
        some (q7, q5)
set_option maxHeartbeats 4000000 in
set_option maxRecDepth 100000 in
theorem ctX9_drawn (l : Launch) (g : CtxG) (a1 : Int32) (a2 : Int32) (M : Mem) (r0 : Int32 × Mem) (h : FX9_drawn a1 a2 M = some r0) : Ct l (WY g) yX9_drawn cX9_drawn 3 (some .int) 7 [.ref (wad (WY g) 0), .int a1, .int a2] M (some (.int r0.1), r0.2) := by
  refine Ct.of (by decide) (Nat.le_of_ble_eq_true rfl) (fun Y hY E => ?_)
  have E : EV Y (WY g) cX9_drawn 3 (some .int) RX9 := E
  have h : FX9_drawn a1 a2 M = some r0 := h
  unfold FX9_drawn at h
  show AW Y (WY g) _ 3 7 0 [(0, .ref (wad (WY g) 0)), (1, .int a1), (2, .int a2)] [] M
  obtain ⟨r, hr⟩ : ∃ r : Option Value × Mem, r = (some (.int r0.1), r0.2) := ⟨_, rfl⟩
  rw [← hr]
  refine aw_iload_n E dX9_drawn_0 1 rfl ?_
  refine aw_iconst (v := 0) E dX9_drawn_1 (by decide) ?_
  refine aw_ldcw (v := 99999) E kcX9_334 dX9_drawn_2 ?_
  refine aw_callSi (S := []) E msX9_in mlX9_88 rfl (ctX9_in (yl Y) g a1 0 99999  M ) rfl (Nat.le_of_ble_eq_true rfl) (Nat.le_of_ble_eq_true rfl) dX9_drawn_5 ?_
  obtain ⟨b1, e2, h⟩ := lt_e h
  have J3 : b1 = true → AW Y (WY g) r 3 7 20 [(0, .ref (wad (WY g) 0)), (1, .int a1), (2, .int a2)] [] M := fun hb => by
    replace h := ip hb h
    refine aw_bipush (v := (-2)) E dX9_drawn_20 (by decide) ?_
    replace h := Option.some.inj h
    subst h
    exact aw_iret E dX9_drawn_22 hr
  have J4 : b1 = false → AW Y (WY g) r 3 7 23 [(0, .ref (wad (WY g) 0)), (1, .int a1), (2, .int a2)] [] M := fun hb => by
    replace h := iq (bf hb) h
    refine aw_aload_n E dX9_drawn_23 0 rfl ?_
    refine aw_iload_n E dX9_drawn_24 1 rfl ?_
    obtain ⟨q5, e6, h⟩ := bd_e h
    refine aw_callVv (S := []) E mvX9_draws mlX9_335 (Nat.le_of_ble_eq_true rfl) rfl rfl rfl (ctX9_draws (yl Y) g a1  M q5 e6) rfl (Nat.le_of_ble_eq_true rfl) (Nat.le_of_ble_eq_true rfl) dX9_drawn_25 ?_
    refine aw_iload_n E dX9_drawn_28 2 rfl ?_
    refine aw_if_ne (tgt := 39) E dX9_drawn_29 rfl (fun c29 => ?_) (fun c29 => ?_)
    ·
      replace h := iq c29 h
      refine aw_iload_n E dX9_drawn_39 2 rfl ?_
      refine aw_iconst (v := 1) E dX9_drawn_40 (by decide) ?_
      refine aw_icmp_ne (tgt := 51) E dX9_drawn_41 rfl (fun c41 => ?_) (fun c41 => ?_)
      ·
        replace h := iq c41 h
        refine aw_aload_n E dX9_drawn_51 0 rfl ?_
        refine aw_getI E flX9_306 (Nat.le_of_ble_eq_true rfl) rfl rfl dX9_drawn_52 ?_
        obtain ⟨q7, e8, h⟩ := bd_e h
        refine aw_callSi (S := []) E msX9_ones mlX9_288 rfl (ctX9_ones (yl Y) g (q5.1 0 48)  q5 q7 e8) rfl (Nat.le_of_ble_eq_true rfl) (Nat.le_of_ble_eq_true rfl) dX9_drawn_55 ?_
        replace h := Option.some.inj h
        subst h
        exact aw_iret E dX9_drawn_58 hr
      ·
        replace h := ip c41 h
        refine aw_aload_n E dX9_drawn_44 0 rfl ?_
        refine aw_getI E flX9_303 (Nat.le_of_ble_eq_true rfl) rfl rfl dX9_drawn_45 ?_
        refine aw_goto (tgt := 58) E dX9_drawn_48 rfl ?_
        replace h := Option.some.inj h
        subst h
        exact aw_iret E dX9_drawn_58 hr
    ·
      replace h := ip c29 h
      refine aw_aload_n E dX9_drawn_32 0 rfl ?_
      refine aw_getI E flX9_309 (Nat.le_of_ble_eq_true rfl) rfl rfl dX9_drawn_33 ?_
      refine aw_goto (tgt := 58) E dX9_drawn_36 rfl ?_
      replace h := Option.some.inj h
      subst h
      exact aw_iret E dX9_drawn_58 hr
  refine aw_if_eq (tgt := 20) E dX9_drawn_8 rfl (fun c8 => ?_) (fun c8 => ?_)
  ·
    replace e2 := ip c8 e2
    subst e2
    exact J3 rfl
  ·
    replace e2 := iq c8 e2
    refine aw_iload_n E dX9_drawn_11 2 rfl ?_
    refine aw_iconst (v := 0) E dX9_drawn_12 (by decide) ?_
    refine aw_iconst (v := 2) E dX9_drawn_13 (by decide) ?_
    refine aw_callSi (S := []) E msX9_in mlX9_88 rfl (ctX9_in (yl Y) g a2 0 2  M ) rfl (Nat.le_of_ble_eq_true rfl) (Nat.le_of_ble_eq_true rfl) dX9_drawn_14 ?_
    refine aw_if_ne (tgt := 23) E dX9_drawn_17 rfl (fun c17 => ?_) (fun c17 => ?_)
    ·
      replace e2 := iq c17 e2
      subst e2
      exact J4 rfl
    ·
      replace e2 := ip c17 e2
      subst e2
      exact J3 rfl
def FX9_wordFrom_L26 : Nat → Int32 → Int32 → Int32 → Int32 → Int32 → Mem → Option (Int32)
  | 0, _, _, _, _, _, _ => none
  | f + 1, p1, p2, p3, p4, p5, M =>
    lt (α := Bool) (if 8 ≤ p5 then false else if p4 = 0 then false else true) fun b101 =>
    if b101 = true then
      gi ((8 * p3) + p5) 96 <|
      ob (α := Int32) (if p2 ≤ (p1 + p5) then
        some 32
      else
        gi (p1 + p5) 160 <|
        some (M.1 6 (Int32.toNatClampNeg (p1 + p5)))) fun q106 =>
      lt (α := Int32) (if (M.1 13 (Int32.toNatClampNeg ((8 * p3) + p5))) = q106 then
        1
      else
        0) fun q109 =>
      lt (α := Int32) (p5 + 1) fun x112 =>
      FX9_wordFrom_L26 f p1 p2 p3 q109 x112 M
    else
      some p4
def FX9_wordFrom_L2 : Nat → Int32 → Int32 → Int32 → Mem → Option (Int32 ⊕ (Unit))
  | 0, _, _, _, _ => none
  | f + 1, p1, p2, p3, M =>
    if 12 ≤ p3 then
      some (.inr (()))
    else
      lt (α := Int32) (if 8 < (p2 - p1) then
        0
      else
        1) fun q101 =>
      ob (FX9_wordFrom_L26 FU p1 p2 p3 q101 0 M) fun q104 =>
      if q104 = 0 then
        lt (α := Int32) (p3 + 1) fun x106 =>
        FX9_wordFrom_L2 f p1 p2 x106 M
      else
        some (.inl p3)
def FX9_wordFrom (a1 : Int32) (a2 : Int32) (M : Mem) : Option (Int32) :=
  ob (FX9_wordFrom_L2 FU a1 a2 0 M) fun q1 => Sum.elim (fun v3 => some v3) (fun q5 =>
    some 12) q1
set_option maxHeartbeats 4000000 in
set_option maxRecDepth 100000 in
theorem lpX9_wordFrom_26 {Y : CtxM} {g : CtxG} {r : Option Value × Mem} (E : EV Y (WY g) cX9_wordFrom 6 (some .int) RX9) (p1 : Int32) (p2 : Int32) (p3 : Int32) : ∀ (f : Nat) (p4 : Int32) (p5 : Int32) (M : Mem) (q : Int32), FX9_wordFrom_L26 f p1 p2 p3 p4 p5 M = some q → AW Y (WY g) r 6 1 88 [(0, .ref (wad (WY g) 0)), (1, .int p1), (2, .int p2), (3, .int p3), (4, .int q)] [] M → AW Y (WY g) r 6 1 26 [(0, .ref (wad (WY g) 0)), (1, .int p1), (2, .int p2), (3, .int p3), (4, .int p4), (5, .int p5)] [] M := by
  intro f
  induction f with
  | zero => intro p4 p5 M q hh; exact absurd hh (fun z => nomatch (show (none : Option (Int32)) = some q from z))
  | succ f ih =>
    intro p4 p5 M q hh kx
    rw [FX9_wordFrom_L26] at hh
    refine aw_iload E dX9_wordFrom_26 5 rfl ?_
    refine aw_bipush (v := 8) E dX9_wordFrom_28 (by decide) ?_
    obtain ⟨b101, e102, hh⟩ := lt_e hh
    have J103 : b101 = true → AW Y (WY g) r 6 1 38 [(0, .ref (wad (WY g) 0)), (1, .int p1), (2, .int p2), (3, .int p3), (4, .int p4), (5, .int p5)] [] M := fun hb => by
      replace hh := ip hb hh
      refine aw_aload_n E dX9_wordFrom_38 0 rfl ?_
      refine aw_getR (q := 13) E flX9_50 (Nat.le_of_ble_eq_true rfl) rfl rfl dX9_wordFrom_39 ?_
      refine aw_bipush (v := 8) E dX9_wordFrom_42 (by decide) ?_
      refine aw_iload_n E dX9_wordFrom_44 3 rfl ?_
      refine aw_imul E dX9_wordFrom_45 ?_
      refine aw_iload E dX9_wordFrom_46 5 rfl ?_
      refine aw_iadd E dX9_wordFrom_48 ?_
      obtain ⟨g105, hh⟩ := gi_e hh
      refine aw_iald E (Nat.le_of_ble_eq_true rfl) rfl g105 dX9_wordFrom_49 ?_
      refine aw_iload_n E dX9_wordFrom_50 1 rfl ?_
      refine aw_iload E dX9_wordFrom_51 5 rfl ?_
      refine aw_iadd E dX9_wordFrom_53 ?_
      refine aw_iload_n E dX9_wordFrom_54 2 rfl ?_
      obtain ⟨q106, e107, hh⟩ := bd_e hh
      have J108 : AW Y (WY g) r 6 1 72 [(0, .ref (wad (WY g) 0)), (1, .int p1), (2, .int p2), (3, .int p3), (5, .int p5)] [.int q106, .int (M.1 13 (Int32.toNatClampNeg ((8 * p3) + p5)))] M := by
        obtain ⟨q109, e110, hh⟩ := lt_e hh
        have J111 : AW Y (WY g) r 6 1 80 [(0, .ref (wad (WY g) 0)), (1, .int p1), (2, .int p2), (3, .int p3), (5, .int p5)] [.int q109] M := by
          refine aw_istore (L1 := [(4, .int q109), (0, .ref (wad (WY g) 0)), (1, .int p1), (2, .int p2), (3, .int p3), (5, .int p5)]) E dX9_wordFrom_80 (Nat.le_of_ble_eq_true rfl) rfl ?_
          obtain ⟨x112, e113, hh⟩ := lt_e hh
          refine aw_iinc (v := x112) (L1 := [(5, .int x112), (4, .int q109), (0, .ref (wad (WY g) 0)), (1, .int p1), (2, .int p2), (3, .int p3)]) E dX9_wordFrom_82 5 rfl e113 (Nat.le_of_ble_eq_true rfl) rfl ?_
          refine aw_goto (tgt := 26) E dX9_wordFrom_85 rfl ?_
          refine aw_sub (L1 := [(0, .ref (wad (WY g) 0)), (1, .int p1), (2, .int p2), (3, .int p3), (4, .int q109), (5, .int x112)]) [2, 3, 4, 5, 1, 0] rfl ?_
          exact ih q109 x112 M _ hh kx
        refine aw_icmp_ne (tgt := 79) E dX9_wordFrom_72 rfl (fun c72 => ?_) (fun c72 => ?_)
        ·
          replace e110 := iq c72 e110
          refine aw_iconst (v := 0) E dX9_wordFrom_79 (by decide) ?_
          refine aw_sub (L1 := [(0, .ref (wad (WY g) 0)), (1, .int p1), (2, .int p2), (3, .int p3), (5, .int p5)]) [0, 1, 2, 3, 4] rfl ?_
          subst e110
          exact J111
        ·
          replace e110 := ip c72 e110
          refine aw_iconst (v := 1) E dX9_wordFrom_75 (by decide) ?_
          refine aw_goto (tgt := 80) E dX9_wordFrom_76 rfl ?_
          refine aw_sub (L1 := [(0, .ref (wad (WY g) 0)), (1, .int p1), (2, .int p2), (3, .int p3), (5, .int p5)]) [0, 1, 2, 3, 4] rfl ?_
          subst e110
          exact J111
      refine aw_icmp_ge (tgt := 70) E dX9_wordFrom_55 rfl (fun c55 => ?_) (fun c55 => ?_)
      ·
        replace e107 := ip c55 e107
        refine aw_bipush (v := 32) E dX9_wordFrom_70 (by decide) ?_
        refine aw_sub (L1 := [(0, .ref (wad (WY g) 0)), (1, .int p1), (2, .int p2), (3, .int p3), (5, .int p5)]) [0, 1, 2, 3, 5] rfl ?_
        replace e107 := Option.some.inj e107
        subst e107
        exact J108
      ·
        replace e107 := iq c55 e107
        refine aw_aload_n E dX9_wordFrom_58 0 rfl ?_
        refine aw_getR (q := 6) E flX9_29 (Nat.le_of_ble_eq_true rfl) rfl rfl dX9_wordFrom_59 ?_
        refine aw_iload_n E dX9_wordFrom_62 1 rfl ?_
        refine aw_iload E dX9_wordFrom_63 5 rfl ?_
        refine aw_iadd E dX9_wordFrom_65 ?_
        obtain ⟨g114, e107⟩ := gi_e e107
        refine aw_iald E (Nat.le_of_ble_eq_true rfl) rfl g114 dX9_wordFrom_66 ?_
        refine aw_goto (tgt := 72) E dX9_wordFrom_67 rfl ?_
        refine aw_sub (L1 := [(0, .ref (wad (WY g) 0)), (1, .int p1), (2, .int p2), (3, .int p3), (5, .int p5)]) [0, 1, 2, 3, 5] rfl ?_
        replace e107 := Option.some.inj e107
        subst e107
        exact J108
    have J104 : b101 = false → AW Y (WY g) r 6 1 88 [(0, .ref (wad (WY g) 0)), (1, .int p1), (2, .int p2), (3, .int p3), (4, .int p4), (5, .int p5)] [] M := fun hb => by
      replace hh := iq (bf hb) hh
      refine aw_sub (L1 := [(0, .ref (wad (WY g) 0)), (1, .int p1), (2, .int p2), (3, .int p3), (4, .int p4)]) [0, 1, 2, 3, 4] rfl ?_
      replace hh := Option.some.inj hh
      subst hh
      exact kx
    refine aw_icmp_ge (tgt := 88) E dX9_wordFrom_30 rfl (fun c30 => ?_) (fun c30 => ?_)
    ·
      replace e102 := ip c30 e102
      subst e102
      exact J104 rfl
    ·
      replace e102 := iq c30 e102
      refine aw_iload E dX9_wordFrom_33 4 rfl ?_
      refine aw_if_eq (tgt := 88) E dX9_wordFrom_35 rfl (fun c35 => ?_) (fun c35 => ?_)
      ·
        replace e102 := ip c35 e102
        subst e102
        exact J104 rfl
      ·
        replace e102 := iq c35 e102
        subst e102
        exact J103 rfl
set_option maxHeartbeats 4000000 in
set_option maxRecDepth 100000 in
theorem lpX9_wordFrom_2 {Y : CtxM} {g : CtxG} {r : Option Value × Mem} (E : EV Y (WY g) cX9_wordFrom 6 (some .int) RX9) (p1 : Int32) (p2 : Int32) : ∀ (f : Nat) (p3 : Int32) (M : Mem) (q : Int32 ⊕ (Unit)), FX9_wordFrom_L2 f p1 p2 p3 M = some q → (∀ v, q = .inl v → r = (some (.int v), M)) → (∀ t, q = .inr t → AW Y (WY g) r 6 1 101 [] [] M) → AW Y (WY g) r 6 1 2 [(0, .ref (wad (WY g) 0)), (1, .int p1), (2, .int p2), (3, .int p3)] [] M := by
  intro f
  induction f with
  | zero => intro p3 M q hh; exact absurd hh (fun z => nomatch (show (none : Option (Int32 ⊕ (Unit))) = some q from z))
  | succ f ih =>
    intro p3 M q hh kr kx
    rw [FX9_wordFrom_L2] at hh
    refine aw_iload_n E dX9_wordFrom_2 3 rfl ?_
    refine aw_bipush (v := 12) E dX9_wordFrom_3 (by decide) ?_
    refine aw_icmp_ge (tgt := 101) E dX9_wordFrom_5 rfl (fun c5 => ?_) (fun c5 => ?_)
    ·
      replace hh := ip c5 hh
      refine aw_sub (L1 := []) [] rfl ?_
      replace hh := Option.some.inj hh
      subst hh
      exact kx _ rfl
    ·
      replace hh := iq c5 hh
      refine aw_iload_n E dX9_wordFrom_8 2 rfl ?_
      refine aw_iload_n E dX9_wordFrom_9 1 rfl ?_
      refine aw_isub E dX9_wordFrom_10 ?_
      refine aw_bipush (v := 8) E dX9_wordFrom_11 (by decide) ?_
      obtain ⟨q101, e102, hh⟩ := lt_e hh
      have J103 : AW Y (WY g) r 6 1 21 [(0, .ref (wad (WY g) 0)), (1, .int p1), (2, .int p2), (3, .int p3)] [.int q101] M := by
        refine aw_istore (L1 := [(4, .int q101), (0, .ref (wad (WY g) 0)), (1, .int p1), (2, .int p2), (3, .int p3)]) E dX9_wordFrom_21 (Nat.le_of_ble_eq_true rfl) rfl ?_
        refine aw_iconst (v := 0) E dX9_wordFrom_23 (by decide) ?_
        refine aw_istore (L1 := [(5, .int 0), (4, .int q101), (0, .ref (wad (WY g) 0)), (1, .int p1), (2, .int p2), (3, .int p3)]) E dX9_wordFrom_24 (Nat.le_of_ble_eq_true rfl) rfl ?_
        obtain ⟨q104, e105, hh⟩ := bd_e hh
        refine aw_sub (L1 := [(0, .ref (wad (WY g) 0)), (1, .int p1), (2, .int p2), (3, .int p3), (4, .int q101), (5, .int 0)]) [2, 3, 4, 5, 1, 0] rfl ?_
        refine lpX9_wordFrom_26 E   p1 p2 p3 FU q101 0 M q104 e105 ?_
        refine aw_iload E dX9_wordFrom_88 4 rfl ?_
        refine aw_if_eq (tgt := 95) E dX9_wordFrom_90 rfl (fun c90 => ?_) (fun c90 => ?_)
        ·
          replace hh := ip c90 hh
          obtain ⟨x106, e107, hh⟩ := lt_e hh
          refine aw_iinc (v := x106) (L1 := [(3, .int x106), (0, .ref (wad (WY g) 0)), (1, .int p1), (2, .int p2), (4, .int q104)]) E dX9_wordFrom_95 3 rfl e107 (Nat.le_of_ble_eq_true rfl) rfl ?_
          refine aw_goto (tgt := 2) E dX9_wordFrom_98 rfl ?_
          refine aw_sub (L1 := [(0, .ref (wad (WY g) 0)), (1, .int p1), (2, .int p2), (3, .int x106)]) [1, 2, 3, 0] rfl ?_
          exact ih x106 M _ hh kr kx
        ·
          replace hh := iq c90 hh
          refine aw_iload_n E dX9_wordFrom_93 3 rfl ?_
          replace hh := Option.some.inj hh
          subst hh
          exact aw_iret E dX9_wordFrom_94 (kr _ rfl)
      refine aw_icmp_gt (tgt := 20) E dX9_wordFrom_13 rfl (fun c13 => ?_) (fun c13 => ?_)
      ·
        replace e102 := ip c13 e102
        refine aw_iconst (v := 0) E dX9_wordFrom_20 (by decide) ?_
        refine aw_sub (L1 := [(0, .ref (wad (WY g) 0)), (1, .int p1), (2, .int p2), (3, .int p3)]) [0, 1, 2, 3] rfl ?_
        subst e102
        exact J103
      ·
        replace e102 := iq c13 e102
        refine aw_iconst (v := 1) E dX9_wordFrom_16 (by decide) ?_
        refine aw_goto (tgt := 21) E dX9_wordFrom_17 rfl ?_
        refine aw_sub (L1 := [(0, .ref (wad (WY g) 0)), (1, .int p1), (2, .int p2), (3, .int p3)]) [0, 1, 2, 3] rfl ?_
        subst e102
        exact J103
set_option maxHeartbeats 4000000 in
set_option maxRecDepth 100000 in
theorem ctX9_wordFrom (l : Launch) (g : CtxG) (a1 : Int32) (a2 : Int32) (M : Mem) (r0 : Int32) (h : FX9_wordFrom a1 a2 M = some r0) : Ct l (WY g) yX9_wordFrom cX9_wordFrom 6 (some .int) 1 [.ref (wad (WY g) 0), .int a1, .int a2] M (some (.int r0), M) := by
  refine Ct.of (by decide) (Nat.le_of_ble_eq_true rfl) (fun Y hY E => ?_)
  have E : EV Y (WY g) cX9_wordFrom 6 (some .int) RX9 := E
  have h : FX9_wordFrom a1 a2 M = some r0 := h
  unfold FX9_wordFrom at h
  show AW Y (WY g) _ 6 1 0 [(0, .ref (wad (WY g) 0)), (1, .int a1), (2, .int a2)] [] M
  obtain ⟨r, hr⟩ : ∃ r : Option Value × Mem, r = (some (.int r0), M) := ⟨_, rfl⟩
  rw [← hr]
  refine aw_iconst (v := 0) E dX9_wordFrom_0 (by decide) ?_
  refine aw_istore_n (L1 := [(3, .int 0), (0, .ref (wad (WY g) 0)), (1, .int a1), (2, .int a2)]) E dX9_wordFrom_1 (Nat.le_of_ble_eq_true rfl) rfl ?_
  obtain ⟨q1, e2, h⟩ := bd_e h
  refine aw_sub (L1 := [(0, .ref (wad (WY g) 0)), (1, .int a1), (2, .int a2), (3, .int 0)]) [1, 2, 3, 0] rfl ?_
  refine lpX9_wordFrom_2 E   a1 a2 FU 0 M q1 e2 (fun v3 e4 => ?_) (fun q5 e6 => ?_)
  ·
    subst e4
    replace h := Option.some.inj h
    subst h
    exact hr
  ·
    subst e6
    refine aw_bipush (v := 12) E dX9_wordFrom_101 (by decide) ?_
    replace h := Option.some.inj h
    subst h
    exact aw_iret E dX9_wordFrom_103 hr
def FX9_next_L0 : Nat → Mem → Option (Mem)
  | 0, _ => none
  | f + 1, M =>
    if (M.1 0 11) ≤ (M.1 0 27) then
      some M
    else
      gi (M.1 0 27) 160 <|
      ob (α := Bool) (if (M.1 6 (Int32.toNatClampNeg (M.1 0 27))) = 32 then
        some true
      else
        gi (M.1 0 27) 160 <|
        if (M.1 6 (Int32.toNatClampNeg (M.1 0 27))) = 10 then some true else some false) fun b102 =>
      if b102 = true then
        lt (wr M 0 27 ((M.1 0 27) + 1)) fun M106 =>
        FX9_next_L0 f M106
      else
        some M
def FX9_next_L230 : Nat → Int32 → Mem → Option (Int32 × Mem)
  | 0, _, _ => none
  | f + 1, p2, M =>
    ob (α := Bool) (if (M.1 0 11) ≤ (M.1 0 27) then
      some false
    else
      gi (M.1 0 27) 160 <|
      if (FX9_in (M.1 6 (Int32.toNatClampNeg (M.1 0 27))) 48 57) = 0 then some false else some true) fun b201 =>
    if b201 = true then
      ob (α := Int32) (if 4 ≤ p2 then
        some 0
      else
        gi (M.1 0 27) 160 <|
        some (((10 * (M.1 0 30)) + (M.1 6 (Int32.toNatClampNeg (M.1 0 27)))) - 48)) fun q205 =>
      lt (wr M 0 30 q205) fun M208 =>
      lt (α := Int32) (p2 + 1) fun x210 =>
      lt (wr M208 0 27 ((M208.1 0 27) + 1)) fun M212 =>
      FX9_next_L230 f  x210 M212
    else
      some (p2, M)
def FX9_next_L103 : Nat → Mem → Option (Mem)
  | 0, _ => none
  | f + 1, M =>
    ob (α := Bool) (if (M.1 0 11) ≤ (M.1 0 27) then
      some false
    else
      gi (M.1 0 27) 160 <|
      if (FX9_in (M.1 6 (Int32.toNatClampNeg (M.1 0 27))) 97 122) = 0 then some false else some true) fun b301 =>
    if b301 = true then
      lt (wr M 0 27 ((M.1 0 27) + 1)) fun M305 =>
      FX9_next_L103 f M305
    else
      some M
def FX9_next  (M : Mem) : Option (Mem) :=
  ob (FX9_next_L0 FU M) fun q1 =>
  lt (wr q1 0 28 (q1.1 0 27)) fun M3 =>
  lt (wr M3 0 29 0) fun M5 =>
  lt (wr M5 0 30 0) fun M7 =>
  if (M7.1 0 27) = (M7.1 0 11) then
    some M7
  else
    gi (M7.1 0 27) 160 <|
    lt (α := Int32) (M7.1 6 (Int32.toNatClampNeg (M7.1 0 27))) fun x10 =>
    if (FX9_in x10 97 122) = 0 then
      if (FX9_in x10 48 57) = 0 then
        lt (α := Bool) (if x10 = 40 then true else if x10 = 41 then true else if x10 = 59 then true else if x10 = 43 then true else if x10 = 45 then true else if x10 = 42 then true else if x10 = 60 then true else if x10 = 61 then true else false) fun b12 =>
        lt (α := Int32) (if b12 = true then
          1
        else
          0) fun q14 =>
        lt (α := Int32) (if q14 = 0 then
          (-1)
        else
          x10) fun q17 =>
        lt (wr M7 0 29 q17) fun M20 =>
        lt (wr M20 0 27 ((M20.1 0 27) + 1)) fun M22 =>
        some M22
      else
        ob (FX9_next_L230 FU 0 M7) fun q26 =>
        lt (α := Int32) (if q26.1 ≤ 4 then
          1
        else
          (-1)) fun q28 =>
        lt (wr q26.2 0 29 q28) fun M31 =>
        some M31
    else
      ob (FX9_next_L103 FU M7) fun q33 =>
      ob (FX9_wordFrom (q33.1 0 28) (q33.1 0 27) q33) fun q35 =>
      lt (α := Int32) (if 3 ≤ q35 then
        if 9 ≤ q35 then
          if q35 = 12 then
            (-1)
          else
            (4 + q35) - 9
        else
          2
      else
        3) fun q37 =>
      lt (wr q33 0 29 q37) fun M40 =>
      lt (α := Int32) (if 3 ≤ q35 then
        q35 - 3
      else
        q35) fun q42 =>
      lt (wr M40 0 30 q42) fun M45 =>
      some M45
set_option maxHeartbeats 4000000 in
set_option maxRecDepth 100000 in
theorem lpX9_next_0 {Y : CtxM} {g : CtxG} {r : Option Value × Mem} (E : EV Y (WY g) cX9_next 3 none RX9) : ∀ (f : Nat)  (M : Mem) (q : Mem), FX9_next_L0 f M = some q → AW Y (WY g) r 3 2 52 [(0, .ref (wad (WY g) 0))] [] q → AW Y (WY g) r 3 2 0 [(0, .ref (wad (WY g) 0))] [] M := by
  intro f
  induction f with
  | zero => intro  M q hh; exact absurd hh (fun z => nomatch (show (none : Option (Mem)) = some q from z))
  | succ f ih =>
    intro  M q hh kx
    rw [FX9_next_L0] at hh
    refine aw_aload_n E dX9_next_0 0 rfl ?_
    refine aw_getI E flX9_118 (Nat.le_of_ble_eq_true rfl) rfl rfl dX9_next_1 ?_
    refine aw_aload_n E dX9_next_4 0 rfl ?_
    refine aw_getI E flX9_81 (Nat.le_of_ble_eq_true rfl) rfl rfl dX9_next_5 ?_
    refine aw_icmp_ge (tgt := 52) E dX9_next_8 rfl (fun c8 => ?_) (fun c8 => ?_)
    ·
      replace hh := ip c8 hh
      refine aw_sub (L1 := [(0, .ref (wad (WY g) 0))]) [0] rfl ?_
      replace hh := Option.some.inj hh
      subst hh
      exact kx
    ·
      replace hh := iq c8 hh
      refine aw_aload_n E dX9_next_11 0 rfl ?_
      refine aw_getR (q := 6) E flX9_29 (Nat.le_of_ble_eq_true rfl) rfl rfl dX9_next_12 ?_
      refine aw_aload_n E dX9_next_15 0 rfl ?_
      refine aw_getI E flX9_118 (Nat.le_of_ble_eq_true rfl) rfl rfl dX9_next_16 ?_
      obtain ⟨g101, hh⟩ := gi_e hh
      refine aw_iald E (Nat.le_of_ble_eq_true rfl) rfl g101 dX9_next_19 ?_
      refine aw_bipush (v := 32) E dX9_next_20 (by decide) ?_
      obtain ⟨b102, e103, hh⟩ := bd_e hh
      have J104 : b102 = true → AW Y (WY g) r 3 2 39 [(0, .ref (wad (WY g) 0))] [] M := fun hb => by
        replace hh := ip hb hh
        refine aw_aload_n E dX9_next_39 0 rfl ?_
        refine aw_dup E dX9_next_40 rfl ?_
        refine aw_getI E flX9_118 (Nat.le_of_ble_eq_true rfl) rfl rfl dX9_next_41 ?_
        refine aw_iconst (v := 1) E dX9_next_44 (by decide) ?_
        refine aw_iadd E dX9_next_45 ?_
        obtain ⟨M106, e107, hh⟩ := lt_e hh
        refine aw_putI1 e107 E flX9_118 (Nat.le_of_ble_eq_true rfl) rfl rfl nr_int dX9_next_46 ?_
        refine aw_goto (tgt := 0) E dX9_next_49 rfl ?_
        refine aw_sub (L1 := [(0, .ref (wad (WY g) 0))]) [0] rfl ?_
        exact ih  M106 _ hh kx
      have J105 : b102 = false → AW Y (WY g) r 3 2 52 [(0, .ref (wad (WY g) 0))] [] M := fun hb => by
        replace hh := iq (bf hb) hh
        refine aw_sub (L1 := [(0, .ref (wad (WY g) 0))]) [0] rfl ?_
        replace hh := Option.some.inj hh
        subst hh
        exact kx
      refine aw_icmp_eq (tgt := 39) E dX9_next_22 rfl (fun c22 => ?_) (fun c22 => ?_)
      ·
        replace e103 := ip c22 e103
        replace e103 := Option.some.inj e103
        subst e103
        exact J104 rfl
      ·
        replace e103 := iq c22 e103
        refine aw_aload_n E dX9_next_25 0 rfl ?_
        refine aw_getR (q := 6) E flX9_29 (Nat.le_of_ble_eq_true rfl) rfl rfl dX9_next_26 ?_
        refine aw_aload_n E dX9_next_29 0 rfl ?_
        refine aw_getI E flX9_118 (Nat.le_of_ble_eq_true rfl) rfl rfl dX9_next_30 ?_
        obtain ⟨g108, e103⟩ := gi_e e103
        refine aw_iald E (Nat.le_of_ble_eq_true rfl) rfl g108 dX9_next_33 ?_
        refine aw_bipush (v := 10) E dX9_next_34 (by decide) ?_
        refine aw_icmp_ne (tgt := 52) E dX9_next_36 rfl (fun c36 => ?_) (fun c36 => ?_)
        ·
          replace e103 := iq c36 e103
          replace e103 := Option.some.inj e103
          subst e103
          exact J105 rfl
        ·
          replace e103 := ip c36 e103
          replace e103 := Option.some.inj e103
          subst e103
          exact J104 rfl
set_option maxHeartbeats 4000000 in
set_option maxRecDepth 100000 in
theorem lpX9_next_230 {Y : CtxM} {g : CtxG} {r : Option Value × Mem} (E : EV Y (WY g) cX9_next 3 none RX9) : ∀ (f : Nat) (p2 : Int32) (M : Mem) (q : Int32 × Mem), FX9_next_L230 f  p2 M = some q → AW Y (WY g) r 3 2 309 [(0, .ref (wad (WY g) 0)), (2, .int q.1)] [] q.2 → AW Y (WY g) r 3 2 230 [(0, .ref (wad (WY g) 0)), (2, .int p2)] [] M := by
  intro f
  induction f with
  | zero => intro p2 M q hh; exact absurd hh (fun z => nomatch (show (none : Option (Int32 × Mem)) = some q from z))
  | succ f ih =>
    intro p2 M q hh kx
    rw [FX9_next_L230] at hh
    refine aw_aload_n E dX9_next_230 0 rfl ?_
    refine aw_getI E flX9_118 (Nat.le_of_ble_eq_true rfl) rfl rfl dX9_next_231 ?_
    refine aw_aload_n E dX9_next_234 0 rfl ?_
    refine aw_getI E flX9_81 (Nat.le_of_ble_eq_true rfl) rfl rfl dX9_next_235 ?_
    obtain ⟨b201, e202, hh⟩ := bd_e hh
    have J203 : b201 = true → AW Y (WY g) r 3 2 260 [(0, .ref (wad (WY g) 0)), (2, .int p2)] [] M := fun hb => by
      replace hh := ip hb hh
      refine aw_aload_n E dX9_next_260 0 rfl ?_
      refine aw_iload_n E dX9_next_261 1 rfl ?_
      refine aw_iconst (v := 4) E dX9_next_262 (by decide) ?_
      obtain ⟨q205, e206, hh⟩ := bd_e hh
      have J207 : AW Y (WY g) r 3 2 290 [(0, .ref (wad (WY g) 0)), (2, .int p2)] [.int q205, .ref (wad (WY g) 0)] M := by
        obtain ⟨M208, e209, hh⟩ := lt_e hh
        refine aw_putI1 e209 E flX9_127 (Nat.le_of_ble_eq_true rfl) rfl rfl nr_int dX9_next_290 ?_
        obtain ⟨x210, e211, hh⟩ := lt_e hh
        refine aw_iinc (v := x210) (L1 := [(2, .int x210), (0, .ref (wad (WY g) 0))]) E dX9_next_293 1 rfl e211 (Nat.le_of_ble_eq_true rfl) rfl ?_
        refine aw_aload_n E dX9_next_296 1 rfl ?_
        refine aw_dup E dX9_next_297 rfl ?_
        refine aw_getI E flX9_118 (Nat.le_of_ble_eq_true rfl) rfl rfl dX9_next_298 ?_
        refine aw_iconst (v := 1) E dX9_next_301 (by decide) ?_
        refine aw_iadd E dX9_next_302 ?_
        obtain ⟨M212, e213, hh⟩ := lt_e hh
        refine aw_putI1 e213 E flX9_118 (Nat.le_of_ble_eq_true rfl) rfl rfl nr_int dX9_next_303 ?_
        refine aw_goto (tgt := 230) E dX9_next_306 rfl ?_
        refine aw_sub (L1 := [(0, .ref (wad (WY g) 0)), (2, .int x210)]) [1, 0] rfl ?_
        exact ih x210 M212 _ hh kx
      refine aw_icmp_ge (tgt := 289) E dX9_next_263 rfl (fun c263 => ?_) (fun c263 => ?_)
      ·
        replace e206 := ip c263 e206
        refine aw_iconst (v := 0) E dX9_next_289 (by decide) ?_
        refine aw_sub (L1 := [(0, .ref (wad (WY g) 0)), (2, .int p2)]) [0, 1] rfl ?_
        replace e206 := Option.some.inj e206
        subst e206
        exact J207
      ·
        replace e206 := iq c263 e206
        refine aw_bipush (v := 10) E dX9_next_266 (by decide) ?_
        refine aw_aload_n E dX9_next_268 0 rfl ?_
        refine aw_getI E flX9_127 (Nat.le_of_ble_eq_true rfl) rfl rfl dX9_next_269 ?_
        refine aw_imul E dX9_next_272 ?_
        refine aw_aload_n E dX9_next_273 0 rfl ?_
        refine aw_getR (q := 6) E flX9_29 (Nat.le_of_ble_eq_true rfl) rfl rfl dX9_next_274 ?_
        refine aw_aload_n E dX9_next_277 0 rfl ?_
        refine aw_getI E flX9_118 (Nat.le_of_ble_eq_true rfl) rfl rfl dX9_next_278 ?_
        obtain ⟨g214, e206⟩ := gi_e e206
        refine aw_iald E (Nat.le_of_ble_eq_true rfl) rfl g214 dX9_next_281 ?_
        refine aw_iadd E dX9_next_282 ?_
        refine aw_bipush (v := 48) E dX9_next_283 (by decide) ?_
        refine aw_isub E dX9_next_285 ?_
        refine aw_goto (tgt := 290) E dX9_next_286 rfl ?_
        refine aw_sub (L1 := [(0, .ref (wad (WY g) 0)), (2, .int p2)]) [0, 1] rfl ?_
        replace e206 := Option.some.inj e206
        subst e206
        exact J207
    have J204 : b201 = false → AW Y (WY g) r 3 2 309 [(0, .ref (wad (WY g) 0)), (2, .int p2)] [] M := fun hb => by
      replace hh := iq (bf hb) hh
      refine aw_sub (L1 := [(0, .ref (wad (WY g) 0)), (2, .int p2)]) [0, 1] rfl ?_
      replace hh := Option.some.inj hh
      subst hh
      exact kx
    refine aw_icmp_ge (tgt := 309) E dX9_next_238 rfl (fun c238 => ?_) (fun c238 => ?_)
    ·
      replace e202 := ip c238 e202
      replace e202 := Option.some.inj e202
      subst e202
      exact J204 rfl
    ·
      replace e202 := iq c238 e202
      refine aw_aload_n E dX9_next_241 0 rfl ?_
      refine aw_getR (q := 6) E flX9_29 (Nat.le_of_ble_eq_true rfl) rfl rfl dX9_next_242 ?_
      refine aw_aload_n E dX9_next_245 0 rfl ?_
      refine aw_getI E flX9_118 (Nat.le_of_ble_eq_true rfl) rfl rfl dX9_next_246 ?_
      obtain ⟨g215, e202⟩ := gi_e e202
      refine aw_iald E (Nat.le_of_ble_eq_true rfl) rfl g215 dX9_next_249 ?_
      refine aw_bipush (v := 48) E dX9_next_250 (by decide) ?_
      refine aw_bipush (v := 57) E dX9_next_252 (by decide) ?_
      refine aw_callSi (S := []) E msX9_in mlX9_88 rfl (ctX9_in (yl Y) g (M.1 6 (Int32.toNatClampNeg (M.1 0 27))) 48 57  M ) rfl (Nat.le_of_ble_eq_true rfl) (Nat.le_of_ble_eq_true rfl) dX9_next_254 ?_
      refine aw_if_eq (tgt := 309) E dX9_next_257 rfl (fun c257 => ?_) (fun c257 => ?_)
      ·
        replace e202 := ip c257 e202
        replace e202 := Option.some.inj e202
        subst e202
        exact J204 rfl
      ·
        replace e202 := iq c257 e202
        replace e202 := Option.some.inj e202
        subst e202
        exact J203 rfl
set_option maxHeartbeats 4000000 in
set_option maxRecDepth 100000 in
theorem lpX9_next_103 {Y : CtxM} {g : CtxG} {r : Option Value × Mem} (E : EV Y (WY g) cX9_next 3 none RX9) : ∀ (f : Nat)  (M : Mem) (q : Mem), FX9_next_L103 f M = some q → AW Y (WY g) r 3 2 146 [(0, .ref (wad (WY g) 0))] [] q → AW Y (WY g) r 3 2 103 [(0, .ref (wad (WY g) 0))] [] M := by
  intro f
  induction f with
  | zero => intro  M q hh; exact absurd hh (fun z => nomatch (show (none : Option (Mem)) = some q from z))
  | succ f ih =>
    intro  M q hh kx
    rw [FX9_next_L103] at hh
    refine aw_aload_n E dX9_next_103 0 rfl ?_
    refine aw_getI E flX9_118 (Nat.le_of_ble_eq_true rfl) rfl rfl dX9_next_104 ?_
    refine aw_aload_n E dX9_next_107 0 rfl ?_
    refine aw_getI E flX9_81 (Nat.le_of_ble_eq_true rfl) rfl rfl dX9_next_108 ?_
    obtain ⟨b301, e302, hh⟩ := bd_e hh
    have J303 : b301 = true → AW Y (WY g) r 3 2 133 [(0, .ref (wad (WY g) 0))] [] M := fun hb => by
      replace hh := ip hb hh
      refine aw_aload_n E dX9_next_133 0 rfl ?_
      refine aw_dup E dX9_next_134 rfl ?_
      refine aw_getI E flX9_118 (Nat.le_of_ble_eq_true rfl) rfl rfl dX9_next_135 ?_
      refine aw_iconst (v := 1) E dX9_next_138 (by decide) ?_
      refine aw_iadd E dX9_next_139 ?_
      obtain ⟨M305, e306, hh⟩ := lt_e hh
      refine aw_putI1 e306 E flX9_118 (Nat.le_of_ble_eq_true rfl) rfl rfl nr_int dX9_next_140 ?_
      refine aw_goto (tgt := 103) E dX9_next_143 rfl ?_
      refine aw_sub (L1 := [(0, .ref (wad (WY g) 0))]) [0] rfl ?_
      exact ih  M305 _ hh kx
    have J304 : b301 = false → AW Y (WY g) r 3 2 146 [(0, .ref (wad (WY g) 0))] [] M := fun hb => by
      replace hh := iq (bf hb) hh
      refine aw_sub (L1 := [(0, .ref (wad (WY g) 0))]) [0] rfl ?_
      replace hh := Option.some.inj hh
      subst hh
      exact kx
    refine aw_icmp_ge (tgt := 146) E dX9_next_111 rfl (fun c111 => ?_) (fun c111 => ?_)
    ·
      replace e302 := ip c111 e302
      replace e302 := Option.some.inj e302
      subst e302
      exact J304 rfl
    ·
      replace e302 := iq c111 e302
      refine aw_aload_n E dX9_next_114 0 rfl ?_
      refine aw_getR (q := 6) E flX9_29 (Nat.le_of_ble_eq_true rfl) rfl rfl dX9_next_115 ?_
      refine aw_aload_n E dX9_next_118 0 rfl ?_
      refine aw_getI E flX9_118 (Nat.le_of_ble_eq_true rfl) rfl rfl dX9_next_119 ?_
      obtain ⟨g307, e302⟩ := gi_e e302
      refine aw_iald E (Nat.le_of_ble_eq_true rfl) rfl g307 dX9_next_122 ?_
      refine aw_bipush (v := 97) E dX9_next_123 (by decide) ?_
      refine aw_bipush (v := 122) E dX9_next_125 (by decide) ?_
      refine aw_callSi (S := []) E msX9_in mlX9_88 rfl (ctX9_in (yl Y) g (M.1 6 (Int32.toNatClampNeg (M.1 0 27))) 97 122  M ) rfl (Nat.le_of_ble_eq_true rfl) (Nat.le_of_ble_eq_true rfl) dX9_next_127 ?_
      refine aw_if_eq (tgt := 146) E dX9_next_130 rfl (fun c130 => ?_) (fun c130 => ?_)
      ·
        replace e302 := ip c130 e302
        replace e302 := Option.some.inj e302
        subst e302
        exact J304 rfl
      ·
        replace e302 := iq c130 e302
        replace e302 := Option.some.inj e302
        subst e302
        exact J303 rfl
set_option maxHeartbeats 4000000 in
set_option maxRecDepth 100000 in
theorem ctX9_next (l : Launch) (g : CtxG)  (M : Mem) (r0 : Mem) (h : FX9_next M = some r0) : Ct l (WY g) yX9_next cX9_next 3 none 2 [.ref (wad (WY g) 0)] M (none, r0) := by
  refine Ct.of (by decide) (Nat.le_of_ble_eq_true rfl) (fun Y hY E => ?_)
  have E : EV Y (WY g) cX9_next 3 none RX9 := E
  have h : FX9_next  M = some r0 := h
  unfold FX9_next at h
  show AW Y (WY g) _ 3 2 0 [(0, .ref (wad (WY g) 0))] [] M
  obtain ⟨r, hr⟩ : ∃ r : Option Value × Mem, r = (none, r0) := ⟨_, rfl⟩
  rw [← hr]
  obtain ⟨q1, e2, h⟩ := bd_e h
  refine aw_sub (L1 := [(0, .ref (wad (WY g) 0))]) [0] rfl ?_
  refine lpX9_next_0 E    FU  M q1 e2 ?_
  refine aw_aload_n E dX9_next_52 0 rfl ?_
  refine aw_aload_n E dX9_next_53 0 rfl ?_
  refine aw_getI E flX9_118 (Nat.le_of_ble_eq_true rfl) rfl rfl dX9_next_54 ?_
  obtain ⟨M3, e4, h⟩ := lt_e h
  refine aw_putI1 e4 E flX9_121 (Nat.le_of_ble_eq_true rfl) rfl rfl nr_int dX9_next_57 ?_
  refine aw_aload_n E dX9_next_60 0 rfl ?_
  refine aw_iconst (v := 0) E dX9_next_61 (by decide) ?_
  obtain ⟨M5, e6, h⟩ := lt_e h
  refine aw_putI1 e6 E flX9_124 (Nat.le_of_ble_eq_true rfl) rfl rfl nr_int dX9_next_62 ?_
  refine aw_aload_n E dX9_next_65 0 rfl ?_
  refine aw_iconst (v := 0) E dX9_next_66 (by decide) ?_
  obtain ⟨M7, e8, h⟩ := lt_e h
  refine aw_putI1 e8 E flX9_127 (Nat.le_of_ble_eq_true rfl) rfl rfl nr_int dX9_next_67 ?_
  refine aw_aload_n E dX9_next_70 0 rfl ?_
  refine aw_getI E flX9_118 (Nat.le_of_ble_eq_true rfl) rfl rfl dX9_next_71 ?_
  refine aw_aload_n E dX9_next_74 0 rfl ?_
  refine aw_getI E flX9_81 (Nat.le_of_ble_eq_true rfl) rfl rfl dX9_next_75 ?_
  refine aw_icmp_ne (tgt := 82) E dX9_next_78 rfl (fun c78 => ?_) (fun c78 => ?_)
  ·
    replace h := iq c78 h
    refine aw_aload_n E dX9_next_82 0 rfl ?_
    refine aw_getR (q := 6) E flX9_29 (Nat.le_of_ble_eq_true rfl) rfl rfl dX9_next_83 ?_
    refine aw_aload_n E dX9_next_86 0 rfl ?_
    refine aw_getI E flX9_118 (Nat.le_of_ble_eq_true rfl) rfl rfl dX9_next_87 ?_
    obtain ⟨g9, h⟩ := gi_e h
    refine aw_iald E (Nat.le_of_ble_eq_true rfl) rfl g9 dX9_next_90 ?_
    obtain ⟨x10, e11, h⟩ := lt_e h
    refine aw_nmI e11 ?_
    refine aw_istore_n (L1 := [(1, .int x10), (0, .ref (wad (WY g) 0))]) E dX9_next_91 (Nat.le_of_ble_eq_true rfl) rfl ?_
    refine aw_iload_n E dX9_next_92 0 rfl ?_
    refine aw_bipush (v := 97) E dX9_next_93 (by decide) ?_
    refine aw_bipush (v := 122) E dX9_next_95 (by decide) ?_
    refine aw_callSi (S := []) E msX9_in mlX9_88 rfl (ctX9_in (yl Y) g x10 97 122  M7 ) rfl (Nat.le_of_ble_eq_true rfl) (Nat.le_of_ble_eq_true rfl) dX9_next_97 ?_
    refine aw_if_eq (tgt := 217) E dX9_next_100 rfl (fun c100 => ?_) (fun c100 => ?_)
    ·
      replace h := ip c100 h
      refine aw_iload_n E dX9_next_217 0 rfl ?_
      refine aw_bipush (v := 48) E dX9_next_218 (by decide) ?_
      refine aw_bipush (v := 57) E dX9_next_220 (by decide) ?_
      refine aw_callSi (S := []) E msX9_in mlX9_88 rfl (ctX9_in (yl Y) g x10 48 57  M7 ) rfl (Nat.le_of_ble_eq_true rfl) (Nat.le_of_ble_eq_true rfl) dX9_next_222 ?_
      refine aw_if_eq (tgt := 326) E dX9_next_225 rfl (fun c225 => ?_) (fun c225 => ?_)
      ·
        replace h := ip c225 h
        refine aw_iload_n E dX9_next_326 0 rfl ?_
        refine aw_bipush (v := 40) E dX9_next_327 (by decide) ?_
        obtain ⟨b12, e13, h⟩ := lt_e h
        obtain ⟨q14, e15, h⟩ := lt_e h
        have J16 : AW Y (WY g) r 3 2 379 [(0, .ref (wad (WY g) 0)), (1, .int x10)] [.int q14] M7 := by
          refine aw_istore_n (L1 := [(2, .int q14), (0, .ref (wad (WY g) 0)), (1, .int x10)]) E dX9_next_379 (Nat.le_of_ble_eq_true rfl) rfl ?_
          refine aw_aload_n E dX9_next_380 1 rfl ?_
          refine aw_iload_n E dX9_next_381 0 rfl ?_
          obtain ⟨q17, e18, h⟩ := lt_e h
          have J19 : AW Y (WY g) r 3 2 390 [(0, .ref (wad (WY g) 0))] [.int q17, .ref (wad (WY g) 0)] M7 := by
            obtain ⟨M20, e21, h⟩ := lt_e h
            refine aw_putI1 e21 E flX9_124 (Nat.le_of_ble_eq_true rfl) rfl rfl nr_int dX9_next_390 ?_
            refine aw_aload_n E dX9_next_393 0 rfl ?_
            refine aw_dup E dX9_next_394 rfl ?_
            refine aw_getI E flX9_118 (Nat.le_of_ble_eq_true rfl) rfl rfl dX9_next_395 ?_
            refine aw_iconst (v := 1) E dX9_next_398 (by decide) ?_
            refine aw_iadd E dX9_next_399 ?_
            obtain ⟨M22, e23, h⟩ := lt_e h
            refine aw_putI1 e23 E flX9_118 (Nat.le_of_ble_eq_true rfl) rfl rfl nr_int dX9_next_400 ?_
            replace h := Option.some.inj h
            subst h
            exact aw_vret E dX9_next_403 hr
          refine aw_if_eq (tgt := 389) E dX9_next_382 rfl (fun c382 => ?_) (fun c382 => ?_)
          ·
            replace e18 := ip c382 e18
            refine aw_iconst (v := (-1)) E dX9_next_389 (by decide) ?_
            refine aw_sub (L1 := [(0, .ref (wad (WY g) 0))]) [1] rfl ?_
            subst e18
            exact J19
          ·
            replace e18 := iq c382 e18
            refine aw_iload_n E dX9_next_385 2 rfl ?_
            refine aw_goto (tgt := 390) E dX9_next_386 rfl ?_
            refine aw_sub (L1 := [(0, .ref (wad (WY g) 0))]) [1] rfl ?_
            subst e18
            exact J19
        have J24 : b12 = true → AW Y (WY g) r 3 2 374 [(1, .int x10), (0, .ref (wad (WY g) 0))] [] M7 := fun hb => by
          replace e15 := ip hb e15
          refine aw_iconst (v := 1) E dX9_next_374 (by decide) ?_
          refine aw_goto (tgt := 379) E dX9_next_375 rfl ?_
          refine aw_sub (L1 := [(0, .ref (wad (WY g) 0)), (1, .int x10)]) [1, 0] rfl ?_
          subst e15
          exact J16
        have J25 : b12 = false → AW Y (WY g) r 3 2 378 [(1, .int x10), (0, .ref (wad (WY g) 0))] [] M7 := fun hb => by
          replace e15 := iq (bf hb) e15
          refine aw_iconst (v := 0) E dX9_next_378 (by decide) ?_
          refine aw_sub (L1 := [(0, .ref (wad (WY g) 0)), (1, .int x10)]) [1, 0] rfl ?_
          subst e15
          exact J16
        refine aw_icmp_eq (tgt := 374) E dX9_next_329 rfl (fun c329 => ?_) (fun c329 => ?_)
        ·
          replace e13 := ip c329 e13
          subst e13
          exact J24 rfl
        ·
          replace e13 := iq c329 e13
          refine aw_iload_n E dX9_next_332 0 rfl ?_
          refine aw_bipush (v := 41) E dX9_next_333 (by decide) ?_
          refine aw_icmp_eq (tgt := 374) E dX9_next_335 rfl (fun c335 => ?_) (fun c335 => ?_)
          ·
            replace e13 := ip c335 e13
            subst e13
            exact J24 rfl
          ·
            replace e13 := iq c335 e13
            refine aw_iload_n E dX9_next_338 0 rfl ?_
            refine aw_bipush (v := 59) E dX9_next_339 (by decide) ?_
            refine aw_icmp_eq (tgt := 374) E dX9_next_341 rfl (fun c341 => ?_) (fun c341 => ?_)
            ·
              replace e13 := ip c341 e13
              subst e13
              exact J24 rfl
            ·
              replace e13 := iq c341 e13
              refine aw_iload_n E dX9_next_344 0 rfl ?_
              refine aw_bipush (v := 43) E dX9_next_345 (by decide) ?_
              refine aw_icmp_eq (tgt := 374) E dX9_next_347 rfl (fun c347 => ?_) (fun c347 => ?_)
              ·
                replace e13 := ip c347 e13
                subst e13
                exact J24 rfl
              ·
                replace e13 := iq c347 e13
                refine aw_iload_n E dX9_next_350 0 rfl ?_
                refine aw_bipush (v := 45) E dX9_next_351 (by decide) ?_
                refine aw_icmp_eq (tgt := 374) E dX9_next_353 rfl (fun c353 => ?_) (fun c353 => ?_)
                ·
                  replace e13 := ip c353 e13
                  subst e13
                  exact J24 rfl
                ·
                  replace e13 := iq c353 e13
                  refine aw_iload_n E dX9_next_356 0 rfl ?_
                  refine aw_bipush (v := 42) E dX9_next_357 (by decide) ?_
                  refine aw_icmp_eq (tgt := 374) E dX9_next_359 rfl (fun c359 => ?_) (fun c359 => ?_)
                  ·
                    replace e13 := ip c359 e13
                    subst e13
                    exact J24 rfl
                  ·
                    replace e13 := iq c359 e13
                    refine aw_iload_n E dX9_next_362 0 rfl ?_
                    refine aw_bipush (v := 60) E dX9_next_363 (by decide) ?_
                    refine aw_icmp_eq (tgt := 374) E dX9_next_365 rfl (fun c365 => ?_) (fun c365 => ?_)
                    ·
                      replace e13 := ip c365 e13
                      subst e13
                      exact J24 rfl
                    ·
                      replace e13 := iq c365 e13
                      refine aw_iload_n E dX9_next_368 0 rfl ?_
                      refine aw_bipush (v := 61) E dX9_next_369 (by decide) ?_
                      refine aw_icmp_ne (tgt := 378) E dX9_next_371 rfl (fun c371 => ?_) (fun c371 => ?_)
                      ·
                        replace e13 := iq c371 e13
                        subst e13
                        exact J25 rfl
                      ·
                        replace e13 := ip c371 e13
                        subst e13
                        exact J24 rfl
      ·
        replace h := iq c225 h
        refine aw_iconst (v := 0) E dX9_next_228 (by decide) ?_
        refine aw_istore_n (L1 := [(2, .int 0), (1, .int x10), (0, .ref (wad (WY g) 0))]) E dX9_next_229 (Nat.le_of_ble_eq_true rfl) rfl ?_
        obtain ⟨q26, e27, h⟩ := bd_e h
        refine aw_sub (L1 := [(0, .ref (wad (WY g) 0)), (2, .int 0)]) [2, 0] rfl ?_
        refine lpX9_next_230 E    FU 0 M7 q26 e27 ?_
        refine aw_aload_n E dX9_next_309 0 rfl ?_
        refine aw_iload_n E dX9_next_310 1 rfl ?_
        refine aw_iconst (v := 4) E dX9_next_311 (by decide) ?_
        obtain ⟨q28, e29, h⟩ := lt_e h
        have J30 : AW Y (WY g) r 3 2 320 [] [.int q28, .ref (wad (WY g) 0)] q26.2 := by
          obtain ⟨M31, e32, h⟩ := lt_e h
          refine aw_putI1 e32 E flX9_124 (Nat.le_of_ble_eq_true rfl) rfl rfl nr_int dX9_next_320 ?_
          refine aw_goto (tgt := 403) E dX9_next_323 rfl ?_
          replace h := Option.some.inj h
          subst h
          exact aw_vret E dX9_next_403 hr
        refine aw_icmp_le (tgt := 319) E dX9_next_312 rfl (fun c312 => ?_) (fun c312 => ?_)
        ·
          replace e29 := ip c312 e29
          refine aw_iconst (v := 1) E dX9_next_319 (by decide) ?_
          refine aw_sub (L1 := []) [] rfl ?_
          subst e29
          exact J30
        ·
          replace e29 := iq c312 e29
          refine aw_iconst (v := (-1)) E dX9_next_315 (by decide) ?_
          refine aw_goto (tgt := 320) E dX9_next_316 rfl ?_
          refine aw_sub (L1 := []) [] rfl ?_
          subst e29
          exact J30
    ·
      replace h := iq c100 h
      obtain ⟨q33, e34, h⟩ := bd_e h
      refine aw_sub (L1 := [(0, .ref (wad (WY g) 0))]) [1] rfl ?_
      refine lpX9_next_103 E    FU  M7 q33 e34 ?_
      refine aw_aload_n E dX9_next_146 0 rfl ?_
      refine aw_aload_n E dX9_next_147 0 rfl ?_
      refine aw_getI E flX9_121 (Nat.le_of_ble_eq_true rfl) rfl rfl dX9_next_148 ?_
      refine aw_aload_n E dX9_next_151 0 rfl ?_
      refine aw_getI E flX9_118 (Nat.le_of_ble_eq_true rfl) rfl rfl dX9_next_152 ?_
      obtain ⟨q35, e36, h⟩ := bd_e h
      refine aw_callVi (S := []) E mvX9_wordFrom mlX9_130 (Nat.le_of_ble_eq_true rfl) rfl rfl rfl (ctX9_wordFrom (yl Y) g (q33.1 0 28) (q33.1 0 27)  q33 q35 e36) rfl (Nat.le_of_ble_eq_true rfl) (Nat.le_of_ble_eq_true rfl) dX9_next_155 ?_
      refine aw_istore_n (L1 := [(2, .int q35), (0, .ref (wad (WY g) 0))]) E dX9_next_158 (Nat.le_of_ble_eq_true rfl) rfl ?_
      refine aw_aload_n E dX9_next_159 1 rfl ?_
      refine aw_iload_n E dX9_next_160 0 rfl ?_
      refine aw_iconst (v := 3) E dX9_next_161 (by decide) ?_
      obtain ⟨q37, e38, h⟩ := lt_e h
      have J39 : AW Y (WY g) r 3 2 195 [(0, .ref (wad (WY g) 0)), (2, .int q35)] [.int q37, .ref (wad (WY g) 0)] q33 := by
        obtain ⟨M40, e41, h⟩ := lt_e h
        refine aw_putI1 e41 E flX9_124 (Nat.le_of_ble_eq_true rfl) rfl rfl nr_int dX9_next_195 ?_
        refine aw_aload_n E dX9_next_198 0 rfl ?_
        refine aw_iload_n E dX9_next_199 1 rfl ?_
        refine aw_iconst (v := 3) E dX9_next_200 (by decide) ?_
        obtain ⟨q42, e43, h⟩ := lt_e h
        have J44 : AW Y (WY g) r 3 2 211 [] [.int q42, .ref (wad (WY g) 0)] M40 := by
          obtain ⟨M45, e46, h⟩ := lt_e h
          refine aw_putI1 e46 E flX9_127 (Nat.le_of_ble_eq_true rfl) rfl rfl nr_int dX9_next_211 ?_
          refine aw_goto (tgt := 403) E dX9_next_214 rfl ?_
          replace h := Option.some.inj h
          subst h
          exact aw_vret E dX9_next_403 hr
        refine aw_icmp_ge (tgt := 208) E dX9_next_201 rfl (fun c201 => ?_) (fun c201 => ?_)
        ·
          replace e43 := ip c201 e43
          refine aw_iload_n E dX9_next_208 1 rfl ?_
          refine aw_iconst (v := 3) E dX9_next_209 (by decide) ?_
          refine aw_isub E dX9_next_210 ?_
          refine aw_sub (L1 := []) [] rfl ?_
          subst e43
          exact J44
        ·
          replace e43 := iq c201 e43
          refine aw_iload_n E dX9_next_204 1 rfl ?_
          refine aw_goto (tgt := 211) E dX9_next_205 rfl ?_
          refine aw_sub (L1 := []) [] rfl ?_
          subst e43
          exact J44
      refine aw_icmp_ge (tgt := 169) E dX9_next_162 rfl (fun c162 => ?_) (fun c162 => ?_)
      ·
        replace e38 := ip c162 e38
        refine aw_iload_n E dX9_next_169 0 rfl ?_
        refine aw_bipush (v := 9) E dX9_next_170 (by decide) ?_
        refine aw_icmp_ge (tgt := 179) E dX9_next_172 rfl (fun c172 => ?_) (fun c172 => ?_)
        ·
          replace e38 := ip c172 e38
          refine aw_iload_n E dX9_next_179 0 rfl ?_
          refine aw_bipush (v := 12) E dX9_next_180 (by decide) ?_
          refine aw_icmp_ne (tgt := 189) E dX9_next_182 rfl (fun c182 => ?_) (fun c182 => ?_)
          ·
            replace e38 := iq c182 e38
            refine aw_iconst (v := 4) E dX9_next_189 (by decide) ?_
            refine aw_iload_n E dX9_next_190 0 rfl ?_
            refine aw_iadd E dX9_next_191 ?_
            refine aw_bipush (v := 9) E dX9_next_192 (by decide) ?_
            refine aw_isub E dX9_next_194 ?_
            refine aw_sub (L1 := [(0, .ref (wad (WY g) 0)), (2, .int q35)]) [1, 0] rfl ?_
            subst e38
            exact J39
          ·
            replace e38 := ip c182 e38
            refine aw_iconst (v := (-1)) E dX9_next_185 (by decide) ?_
            refine aw_goto (tgt := 195) E dX9_next_186 rfl ?_
            refine aw_sub (L1 := [(0, .ref (wad (WY g) 0)), (2, .int q35)]) [1, 0] rfl ?_
            subst e38
            exact J39
        ·
          replace e38 := iq c172 e38
          refine aw_iconst (v := 2) E dX9_next_175 (by decide) ?_
          refine aw_goto (tgt := 195) E dX9_next_176 rfl ?_
          refine aw_sub (L1 := [(0, .ref (wad (WY g) 0)), (2, .int q35)]) [1, 0] rfl ?_
          subst e38
          exact J39
      ·
        replace e38 := iq c162 e38
        refine aw_iconst (v := 3) E dX9_next_165 (by decide) ?_
        refine aw_goto (tgt := 195) E dX9_next_166 rfl ?_
        refine aw_sub (L1 := [(0, .ref (wad (WY g) 0)), (2, .int q35)]) [1, 0] rfl ?_
        subst e38
        exact J39
  ·
    replace h := ip c78 h
    replace h := Option.some.inj h
    subst h
    exact aw_vret E dX9_next_81 hr
def FX9_opensOne (a1 : Int32) (M : Mem) : Option (Int32 × Mem) :=
  if (M.1 0 34) = 5 then
    some (0, M)
  else
    lt (wr M 0 34 ((M.1 0 34) + 1)) fun M1 =>
    ob (FX9_holds a1 M1) fun q3 =>
    some (1, q3)
set_option maxHeartbeats 4000000 in
set_option maxRecDepth 100000 in
theorem ctX9_opensOne (l : Launch) (g : CtxG) (a1 : Int32) (M : Mem) (r0 : Int32 × Mem) (h : FX9_opensOne a1 M = some r0) : Ct l (WY g) yX9_opensOne cX9_opensOne 2 (some .boolean) 2 [.ref (wad (WY g) 0), .int a1] M (some (.int r0.1), r0.2) := by
  refine Ct.of (by decide) (Nat.le_of_ble_eq_true rfl) (fun Y hY E => ?_)
  have E : EV Y (WY g) cX9_opensOne 2 (some .boolean) RX9 := E
  have h : FX9_opensOne a1 M = some r0 := h
  unfold FX9_opensOne at h
  show AW Y (WY g) _ 2 2 0 [(0, .ref (wad (WY g) 0)), (1, .int a1)] [] M
  obtain ⟨r, hr⟩ : ∃ r : Option Value × Mem, r = (some (.int r0.1), r0.2) := ⟨_, rfl⟩
  rw [← hr]
  refine aw_aload_n E dX9_opensOne_0 0 rfl ?_
  refine aw_getI E flX9_143 (Nat.le_of_ble_eq_true rfl) rfl rfl dX9_opensOne_1 ?_
  refine aw_iconst (v := 5) E dX9_opensOne_4 (by decide) ?_
  refine aw_icmp_ne (tgt := 10) E dX9_opensOne_5 rfl (fun c5 => ?_) (fun c5 => ?_)
  ·
    replace h := iq c5 h
    refine aw_aload_n E dX9_opensOne_10 0 rfl ?_
    refine aw_dup E dX9_opensOne_11 rfl ?_
    refine aw_getI E flX9_143 (Nat.le_of_ble_eq_true rfl) rfl rfl dX9_opensOne_12 ?_
    refine aw_iconst (v := 1) E dX9_opensOne_15 (by decide) ?_
    refine aw_iadd E dX9_opensOne_16 ?_
    obtain ⟨M1, e2, h⟩ := lt_e h
    refine aw_putI1 e2 E flX9_143 (Nat.le_of_ble_eq_true rfl) rfl rfl nr_int dX9_opensOne_17 ?_
    refine aw_aload_n E dX9_opensOne_20 0 rfl ?_
    refine aw_iload_n E dX9_opensOne_21 1 rfl ?_
    obtain ⟨q3, e4, h⟩ := bd_e h
    refine aw_callVv (S := []) E mvX9_holds mlX9_150 (Nat.le_of_ble_eq_true rfl) rfl rfl rfl (ctX9_holds (yl Y) g a1  M1 q3 e4) rfl (Nat.le_of_ble_eq_true rfl) (Nat.le_of_ble_eq_true rfl) dX9_opensOne_22 ?_
    refine aw_iconst (v := 1) E dX9_opensOne_25 (by decide) ?_
    replace h := Option.some.inj h
    subst h
    exact aw_zret E (by decide) dX9_opensOne_26 hr
  ·
    replace h := ip c5 h
    refine aw_iconst (v := 0) E dX9_opensOne_8 (by decide) ?_
    replace h := Option.some.inj h
    subst h
    exact aw_zret E (by decide) dX9_opensOne_9 hr
def FX9_signOf  (M : Mem) : Int32 :=
  if (M.1 0 29) = 4 then
    11
  else
    if (M.1 0 29) = 5 then
      12
    else
      if (M.1 0 29) = 60 then
        14
      else
        if (M.1 0 29) = 61 then
          15
        else
          if (M.1 0 29) = 43 then
            16
          else
            if (M.1 0 29) = 45 then
              17
            else
              if (M.1 0 29) = 42 then
                18
              else
                (-1)
set_option maxHeartbeats 4000000 in
set_option maxRecDepth 100000 in
theorem ctX9_signOf (l : Launch) (g : CtxG)  (M : Mem) : Ct l (WY g) yX9_signOf cX9_signOf 1 (some .int) 1 [.ref (wad (WY g) 0)] M (some (.int (FX9_signOf M)), M) := by
  obtain ⟨r0, h⟩ : ∃ r0, FX9_signOf M = r0 := ⟨_, rfl⟩
  rw [h]
  refine Ct.of (by decide) (Nat.le_of_ble_eq_true rfl) (fun Y hY E => ?_)
  have E : EV Y (WY g) cX9_signOf 1 (some .int) RX9 := E
  --generalize hr : ((some (Value.int r0), M) : Option Value × Mem) = r
  have h : FX9_signOf  M = r0 := h
  unfold FX9_signOf at h
  show AW Y (WY g) _ 1 1 0 [(0, .ref (wad (WY g) 0))] [] M
  obtain ⟨r, hr⟩ : ∃ r : Option Value × Mem, r = (some (.int r0), M) := ⟨_, rfl⟩
  rw [← hr]
  refine aw_aload_n E dX9_signOf_0 0 rfl ?_
  refine aw_getI E flX9_124 (Nat.le_of_ble_eq_true rfl) rfl rfl dX9_signOf_1 ?_
  refine aw_iconst (v := 4) E dX9_signOf_4 (by decide) ?_
  refine aw_icmp_ne (tgt := 13) E dX9_signOf_5 rfl (fun c5 => ?_) (fun c5 => ?_)
  ·
    replace h := iq c5 h
    refine aw_aload_n E dX9_signOf_13 0 rfl ?_
    refine aw_getI E flX9_124 (Nat.le_of_ble_eq_true rfl) rfl rfl dX9_signOf_14 ?_
    refine aw_iconst (v := 5) E dX9_signOf_17 (by decide) ?_
    refine aw_icmp_ne (tgt := 26) E dX9_signOf_18 rfl (fun c18 => ?_) (fun c18 => ?_)
    ·
      replace h := iq c18 h
      refine aw_aload_n E dX9_signOf_26 0 rfl ?_
      refine aw_getI E flX9_124 (Nat.le_of_ble_eq_true rfl) rfl rfl dX9_signOf_27 ?_
      refine aw_bipush (v := 60) E dX9_signOf_30 (by decide) ?_
      refine aw_icmp_ne (tgt := 40) E dX9_signOf_32 rfl (fun c32 => ?_) (fun c32 => ?_)
      ·
        replace h := iq c32 h
        refine aw_aload_n E dX9_signOf_40 0 rfl ?_
        refine aw_getI E flX9_124 (Nat.le_of_ble_eq_true rfl) rfl rfl dX9_signOf_41 ?_
        refine aw_bipush (v := 61) E dX9_signOf_44 (by decide) ?_
        refine aw_icmp_ne (tgt := 54) E dX9_signOf_46 rfl (fun c46 => ?_) (fun c46 => ?_)
        ·
          replace h := iq c46 h
          refine aw_aload_n E dX9_signOf_54 0 rfl ?_
          refine aw_getI E flX9_124 (Nat.le_of_ble_eq_true rfl) rfl rfl dX9_signOf_55 ?_
          refine aw_bipush (v := 43) E dX9_signOf_58 (by decide) ?_
          refine aw_icmp_ne (tgt := 68) E dX9_signOf_60 rfl (fun c60 => ?_) (fun c60 => ?_)
          ·
            replace h := iq c60 h
            refine aw_aload_n E dX9_signOf_68 0 rfl ?_
            refine aw_getI E flX9_124 (Nat.le_of_ble_eq_true rfl) rfl rfl dX9_signOf_69 ?_
            refine aw_bipush (v := 45) E dX9_signOf_72 (by decide) ?_
            refine aw_icmp_ne (tgt := 82) E dX9_signOf_74 rfl (fun c74 => ?_) (fun c74 => ?_)
            ·
              replace h := iq c74 h
              refine aw_aload_n E dX9_signOf_82 0 rfl ?_
              refine aw_getI E flX9_124 (Nat.le_of_ble_eq_true rfl) rfl rfl dX9_signOf_83 ?_
              refine aw_bipush (v := 42) E dX9_signOf_86 (by decide) ?_
              refine aw_icmp_ne (tgt := 96) E dX9_signOf_88 rfl (fun c88 => ?_) (fun c88 => ?_)
              ·
                replace h := iq c88 h
                refine aw_iconst (v := (-1)) E dX9_signOf_96 (by decide) ?_
                subst h
                exact aw_iret E dX9_signOf_97 hr
              ·
                replace h := ip c88 h
                refine aw_bipush (v := 18) E dX9_signOf_91 (by decide) ?_
                refine aw_goto (tgt := 97) E dX9_signOf_93 rfl ?_
                subst h
                exact aw_iret E dX9_signOf_97 hr
            ·
              replace h := ip c74 h
              refine aw_bipush (v := 17) E dX9_signOf_77 (by decide) ?_
              refine aw_goto (tgt := 97) E dX9_signOf_79 rfl ?_
              subst h
              exact aw_iret E dX9_signOf_97 hr
          ·
            replace h := ip c60 h
            refine aw_bipush (v := 16) E dX9_signOf_63 (by decide) ?_
            refine aw_goto (tgt := 97) E dX9_signOf_65 rfl ?_
            subst h
            exact aw_iret E dX9_signOf_97 hr
        ·
          replace h := ip c46 h
          refine aw_bipush (v := 15) E dX9_signOf_49 (by decide) ?_
          refine aw_goto (tgt := 97) E dX9_signOf_51 rfl ?_
          subst h
          exact aw_iret E dX9_signOf_97 hr
      ·
        replace h := ip c32 h
        refine aw_bipush (v := 14) E dX9_signOf_35 (by decide) ?_
        refine aw_goto (tgt := 97) E dX9_signOf_37 rfl ?_
        subst h
        exact aw_iret E dX9_signOf_97 hr
    ·
      replace h := ip c18 h
      refine aw_bipush (v := 12) E dX9_signOf_21 (by decide) ?_
      refine aw_goto (tgt := 97) E dX9_signOf_23 rfl ?_
      subst h
      exact aw_iret E dX9_signOf_97 hr
  ·
    replace h := ip c5 h
    refine aw_bipush (v := 11) E dX9_signOf_8 (by decide) ?_
    refine aw_goto (tgt := 97) E dX9_signOf_10 rfl ?_
    subst h
    exact aw_iret E dX9_signOf_97 hr
def FX9_eRead_L14 : Nat → Int32 → Int32 → Mem → Option (Int32 × Mem)
  | 0, _, _, _ => none
  | f + 1, p1, p2, M =>
    ob (FX9_next M) fun q101 =>
    if p1 = 0 then
      if (q101.1 0 29) = 59 then
        ob (FX9_unwinds 1 q101) fun q115 =>
        if (q115.1 0 33) = 0 then
          some (1, q115)
        else
          some (0, q115)
      else
        if (q101.1 0 29) = 41 then
          ob (FX9_unwinds 1 q101) fun q107 =>
          if (q107.1 0 33) = 0 then
            some (0, q107)
          else
            lt (wr q107 0 33 ((q107.1 0 33) - 1)) fun M109 =>
            lt (wr M109 0 34 ((M109.1 0 34) - 1)) fun M111 =>
            ob (FX9_unwinds 7 M111) fun q113 =>
            FX9_eRead_L14 f  p1 p2 q113
        else
          lt (α := Int32) (FX9_signOf q101) fun x103 =>
          if x103 = (-1) then
            some (0, q101)
          else
            ob (FX9_between x103 q101) fun q105 =>
            if q105.1 = 0 then
              some (0, q105.2)
            else
              if 12 < x103 then
                FX9_eRead_L14 f  1 0 q105.2
              else
                FX9_eRead_L14 f  1 1 q105.2
    else
      lt (α := Bool) (if (q101.1 0 29) = 1 then true else if (q101.1 0 29) = 2 then true else false) fun b117 =>
      if b117 = true then
        lt (α := Int32) (if (q101.1 0 29) = 1 then
          100000 + (q101.1 0 30)
        else
          q101.1 0 30) fun q121 =>
        ob (FX9_puts q121 q101) fun q124 =>
        ob (FX9_unwinds 7 q124) fun q126 =>
        FX9_eRead_L14 f  0 p2 q126
      else
        lt (α := Bool) (if (q101.1 0 29) = 6 then if p2 = 0 then false else true else false) fun b128 =>
        if b128 = true then
          ob (FX9_opensOne 13 q101) fun q132 =>
          if q132.1 = 0 then
            some (0, q132.2)
          else
            FX9_eRead_L14 f  p1 p2 q132.2
        else
          if (q101.1 0 29) = 45 then
            ob (FX9_opensOne 19 q101) fun q136 =>
            if q136.1 = 0 then
              some (0, q136.2)
            else
              FX9_eRead_L14 f  p1 0 q136.2
          else
            if (q101.1 0 29) = 40 then
              ob (FX9_opensOne 0 q101) fun q134 =>
              if q134.1 = 0 then
                some (0, q134.2)
              else
                FX9_eRead_L14 f  p1 1 q134.2
            else
              some (0, q101)
def FX9_eRead  (M : Mem) : Option (Int32 × Mem) :=
  lt (wr M 0 33 0) fun M1 =>
  lt (wr M1 0 34 0) fun M3 =>
  ob (FX9_eRead_L14 FU 1 1 M3) fun q5 => (fun v7 => some v7) q5
set_option maxHeartbeats 4000000 in
set_option maxRecDepth 100000 in
theorem lpX9_eRead_14 {Y : CtxM} {g : CtxG} {r : Option Value × Mem} (E : EV Y (WY g) cX9_eRead 4 (some .boolean) RX9) : ∀ (f : Nat) (p1 : Int32) (p2 : Int32) (M : Mem) (q : Int32 × Mem), FX9_eRead_L14 f  p1 p2 M = some q → (∀ v, q = v → r = (some (.int v.1), v.2)) → AW Y (WY g) r 4 4 14 [(0, .ref (wad (WY g) 0)), (1, .int p1), (2, .int p2)] [] M := by
  intro f
  induction f with
  | zero => intro p1 p2 M q hh; exact absurd hh (fun z => nomatch (show (none : Option (Int32 × Mem)) = some q from z))
  | succ f ih =>
    intro p1 p2 M q hh kr
    rw [FX9_eRead_L14] at hh
    refine aw_aload_n E dX9_eRead_14 0 rfl ?_
    obtain ⟨q101, e102, hh⟩ := bd_e hh
    refine aw_callVv (S := []) E mvX9_next mlX9_156 (Nat.le_of_ble_eq_true rfl) rfl rfl rfl (ctX9_next (yl Y) g   M q101 e102) rfl (Nat.le_of_ble_eq_true rfl) (Nat.le_of_ble_eq_true rfl) dX9_eRead_15 ?_
    refine aw_iload_n E dX9_eRead_18 1 rfl ?_
    refine aw_if_eq (tgt := 150) E dX9_eRead_19 rfl (fun c19 => ?_) (fun c19 => ?_)
    ·
      replace hh := ip c19 hh
      refine aw_aload_n E dX9_eRead_150 0 rfl ?_
      refine aw_getI E flX9_124 (Nat.le_of_ble_eq_true rfl) rfl rfl dX9_eRead_151 ?_
      refine aw_bipush (v := 59) E dX9_eRead_154 (by decide) ?_
      refine aw_icmp_ne (tgt := 177) E dX9_eRead_156 rfl (fun c156 => ?_) (fun c156 => ?_)
      ·
        replace hh := iq c156 hh
        refine aw_aload_n E dX9_eRead_177 0 rfl ?_
        refine aw_getI E flX9_124 (Nat.le_of_ble_eq_true rfl) rfl rfl dX9_eRead_178 ?_
        refine aw_bipush (v := 41) E dX9_eRead_181 (by decide) ?_
        refine aw_icmp_ne (tgt := 229) E dX9_eRead_183 rfl (fun c183 => ?_) (fun c183 => ?_)
        ·
          replace hh := iq c183 hh
          refine aw_aload_n E dX9_eRead_229 0 rfl ?_
          refine aw_callVi (S := []) E mvX9_signOf mlX9_163 (Nat.le_of_ble_eq_true rfl) rfl rfl rfl (ctX9_signOf (yl Y) g   q101 ) rfl (Nat.le_of_ble_eq_true rfl) (Nat.le_of_ble_eq_true rfl) dX9_eRead_230 ?_
          obtain ⟨x103, e104, hh⟩ := lt_e hh
          refine aw_nmI e104 ?_
          refine aw_istore_n (L1 := [(3, .int x103), (0, .ref (wad (WY g) 0)), (1, .int p1), (2, .int p2)]) E dX9_eRead_233 (Nat.le_of_ble_eq_true rfl) rfl ?_
          refine aw_iload_n E dX9_eRead_234 0 rfl ?_
          refine aw_iconst (v := (-1)) E dX9_eRead_235 (by decide) ?_
          refine aw_icmp_eq (tgt := 247) E dX9_eRead_236 rfl (fun c236 => ?_) (fun c236 => ?_)
          ·
            replace hh := ip c236 hh
            refine aw_iconst (v := 0) E dX9_eRead_247 (by decide) ?_
            replace hh := Option.some.inj hh
            subst hh
            exact aw_zret E (by decide) dX9_eRead_248 (kr _ rfl)
          ·
            replace hh := iq c236 hh
            refine aw_aload_n E dX9_eRead_239 1 rfl ?_
            refine aw_iload_n E dX9_eRead_240 0 rfl ?_
            obtain ⟨q105, e106, hh⟩ := bd_e hh
            refine aw_callVi (S := []) E mvX9_between mlX9_166 (Nat.le_of_ble_eq_true rfl) rfl rfl rfl (ctX9_between (yl Y) g x103  q101 q105 e106) rfl (Nat.le_of_ble_eq_true rfl) (Nat.le_of_ble_eq_true rfl) dX9_eRead_241 ?_
            refine aw_if_ne (tgt := 249) E dX9_eRead_244 rfl (fun c244 => ?_) (fun c244 => ?_)
            ·
              replace hh := iq c244 hh
              refine aw_iconst (v := 1) E dX9_eRead_249 (by decide) ?_
              refine aw_istore_n (L1 := [(1, .int 1), (3, .int x103), (0, .ref (wad (WY g) 0)), (2, .int p2)]) E dX9_eRead_250 (Nat.le_of_ble_eq_true rfl) rfl ?_
              refine aw_iload_n E dX9_eRead_251 1 rfl ?_
              refine aw_bipush (v := 12) E dX9_eRead_252 (by decide) ?_
              refine aw_icmp_gt (tgt := 261) E dX9_eRead_254 rfl (fun c254 => ?_) (fun c254 => ?_)
              ·
                replace hh := ip c254 hh
                refine aw_iconst (v := 0) E dX9_eRead_261 (by decide) ?_
                refine aw_istore_n (L1 := [(2, .int 0), (1, .int 1), (3, .int x103), (0, .ref (wad (WY g) 0))]) E dX9_eRead_262 (Nat.le_of_ble_eq_true rfl) rfl ?_
                refine aw_goto (tgt := 14) E dX9_eRead_263 rfl ?_
                refine aw_sub (L1 := [(0, .ref (wad (WY g) 0)), (1, .int 1), (2, .int 0)]) [3, 1, 0] rfl ?_
                exact ih 1 0 q105.2 _ hh kr
              ·
                replace hh := iq c254 hh
                refine aw_iconst (v := 1) E dX9_eRead_257 (by decide) ?_
                refine aw_goto (tgt := 262) E dX9_eRead_258 rfl ?_
                refine aw_istore_n (L1 := [(2, .int 1), (1, .int 1), (3, .int x103), (0, .ref (wad (WY g) 0))]) E dX9_eRead_262 (Nat.le_of_ble_eq_true rfl) rfl ?_
                refine aw_goto (tgt := 14) E dX9_eRead_263 rfl ?_
                refine aw_sub (L1 := [(0, .ref (wad (WY g) 0)), (1, .int 1), (2, .int 1)]) [3, 1, 0] rfl ?_
                exact ih 1 1 q105.2 _ hh kr
            ·
              replace hh := ip c244 hh
              refine aw_iconst (v := 0) E dX9_eRead_247 (by decide) ?_
              replace hh := Option.some.inj hh
              subst hh
              exact aw_zret E (by decide) dX9_eRead_248 (kr _ rfl)
        ·
          replace hh := ip c183 hh
          refine aw_aload_n E dX9_eRead_186 0 rfl ?_
          refine aw_iconst (v := 1) E dX9_eRead_187 (by decide) ?_
          obtain ⟨q107, e108, hh⟩ := bd_e hh
          refine aw_callVv (S := []) E mvX9_unwinds mlX9_153 (Nat.le_of_ble_eq_true rfl) rfl rfl rfl (ctX9_unwinds (yl Y) g 1  q101 q107 e108) rfl (Nat.le_of_ble_eq_true rfl) (Nat.le_of_ble_eq_true rfl) dX9_eRead_188 ?_
          refine aw_aload_n E dX9_eRead_191 0 rfl ?_
          refine aw_getI E flX9_137 (Nat.le_of_ble_eq_true rfl) rfl rfl dX9_eRead_192 ?_
          refine aw_if_ne (tgt := 200) E dX9_eRead_195 rfl (fun c195 => ?_) (fun c195 => ?_)
          ·
            replace hh := iq c195 hh
            refine aw_aload_n E dX9_eRead_200 0 rfl ?_
            refine aw_dup E dX9_eRead_201 rfl ?_
            refine aw_getI E flX9_137 (Nat.le_of_ble_eq_true rfl) rfl rfl dX9_eRead_202 ?_
            refine aw_iconst (v := 1) E dX9_eRead_205 (by decide) ?_
            refine aw_isub E dX9_eRead_206 ?_
            obtain ⟨M109, e110, hh⟩ := lt_e hh
            refine aw_putI1 e110 E flX9_137 (Nat.le_of_ble_eq_true rfl) rfl rfl nr_int dX9_eRead_207 ?_
            refine aw_aload_n E dX9_eRead_210 0 rfl ?_
            refine aw_dup E dX9_eRead_211 rfl ?_
            refine aw_getI E flX9_143 (Nat.le_of_ble_eq_true rfl) rfl rfl dX9_eRead_212 ?_
            refine aw_iconst (v := 1) E dX9_eRead_215 (by decide) ?_
            refine aw_isub E dX9_eRead_216 ?_
            obtain ⟨M111, e112, hh⟩ := lt_e hh
            refine aw_putI1 e112 E flX9_143 (Nat.le_of_ble_eq_true rfl) rfl rfl nr_int dX9_eRead_217 ?_
            refine aw_aload_n E dX9_eRead_220 0 rfl ?_
            refine aw_bipush (v := 7) E dX9_eRead_221 (by decide) ?_
            obtain ⟨q113, e114, hh⟩ := bd_e hh
            refine aw_callVv (S := []) E mvX9_unwinds mlX9_153 (Nat.le_of_ble_eq_true rfl) rfl rfl rfl (ctX9_unwinds (yl Y) g 7  M111 q113 e114) rfl (Nat.le_of_ble_eq_true rfl) (Nat.le_of_ble_eq_true rfl) dX9_eRead_223 ?_
            refine aw_goto (tgt := 14) E dX9_eRead_226 rfl ?_
            refine aw_sub (L1 := [(0, .ref (wad (WY g) 0)), (1, .int p1), (2, .int p2)]) [0, 1, 2] rfl ?_
            exact ih p1 p2 q113 _ hh kr
          ·
            replace hh := ip c195 hh
            refine aw_iconst (v := 0) E dX9_eRead_198 (by decide) ?_
            replace hh := Option.some.inj hh
            subst hh
            exact aw_zret E (by decide) dX9_eRead_199 (kr _ rfl)
      ·
        replace hh := ip c156 hh
        refine aw_aload_n E dX9_eRead_159 0 rfl ?_
        refine aw_iconst (v := 1) E dX9_eRead_160 (by decide) ?_
        obtain ⟨q115, e116, hh⟩ := bd_e hh
        refine aw_callVv (S := []) E mvX9_unwinds mlX9_153 (Nat.le_of_ble_eq_true rfl) rfl rfl rfl (ctX9_unwinds (yl Y) g 1  q101 q115 e116) rfl (Nat.le_of_ble_eq_true rfl) (Nat.le_of_ble_eq_true rfl) dX9_eRead_161 ?_
        refine aw_aload_n E dX9_eRead_164 0 rfl ?_
        refine aw_getI E flX9_137 (Nat.le_of_ble_eq_true rfl) rfl rfl dX9_eRead_165 ?_
        refine aw_if_ne (tgt := 175) E dX9_eRead_168 rfl (fun c168 => ?_) (fun c168 => ?_)
        ·
          replace hh := iq c168 hh
          refine aw_iconst (v := 0) E dX9_eRead_175 (by decide) ?_
          replace hh := Option.some.inj hh
          subst hh
          exact aw_zret E (by decide) dX9_eRead_176 (kr _ rfl)
        ·
          replace hh := ip c168 hh
          refine aw_iconst (v := 1) E dX9_eRead_171 (by decide) ?_
          refine aw_goto (tgt := 176) E dX9_eRead_172 rfl ?_
          replace hh := Option.some.inj hh
          subst hh
          exact aw_zret E (by decide) dX9_eRead_176 (kr _ rfl)
    ·
      replace hh := iq c19 hh
      refine aw_aload_n E dX9_eRead_22 0 rfl ?_
      refine aw_getI E flX9_124 (Nat.le_of_ble_eq_true rfl) rfl rfl dX9_eRead_23 ?_
      refine aw_iconst (v := 1) E dX9_eRead_26 (by decide) ?_
      obtain ⟨b117, e118, hh⟩ := lt_e hh
      have J119 : b117 = true → AW Y (WY g) r 4 4 38 [(0, .ref (wad (WY g) 0)), (1, .int p1), (2, .int p2)] [] q101 := fun hb => by
        replace hh := ip hb hh
        refine aw_aload_n E dX9_eRead_38 0 rfl ?_
        refine aw_aload_n E dX9_eRead_39 0 rfl ?_
        refine aw_getI E flX9_124 (Nat.le_of_ble_eq_true rfl) rfl rfl dX9_eRead_40 ?_
        refine aw_iconst (v := 1) E dX9_eRead_43 (by decide) ?_
        obtain ⟨q121, e122, hh⟩ := lt_e hh
        have J123 : AW Y (WY g) r 4 4 61 [(0, .ref (wad (WY g) 0)), (2, .int p2)] [.int q121, .ref (wad (WY g) 0)] q101 := by
          obtain ⟨q124, e125, hh⟩ := bd_e hh
          refine aw_callVv (S := []) E mvX9_puts mlX9_146 (Nat.le_of_ble_eq_true rfl) rfl rfl rfl (ctX9_puts (yl Y) g q121  q101 q124 e125) rfl (Nat.le_of_ble_eq_true rfl) (Nat.le_of_ble_eq_true rfl) dX9_eRead_61 ?_
          refine aw_aload_n E dX9_eRead_64 0 rfl ?_
          refine aw_bipush (v := 7) E dX9_eRead_65 (by decide) ?_
          obtain ⟨q126, e127, hh⟩ := bd_e hh
          refine aw_callVv (S := []) E mvX9_unwinds mlX9_153 (Nat.le_of_ble_eq_true rfl) rfl rfl rfl (ctX9_unwinds (yl Y) g 7  q124 q126 e127) rfl (Nat.le_of_ble_eq_true rfl) (Nat.le_of_ble_eq_true rfl) dX9_eRead_67 ?_
          refine aw_iconst (v := 0) E dX9_eRead_70 (by decide) ?_
          refine aw_istore_n (L1 := [(1, .int 0), (0, .ref (wad (WY g) 0)), (2, .int p2)]) E dX9_eRead_71 (Nat.le_of_ble_eq_true rfl) rfl ?_
          refine aw_goto (tgt := 14) E dX9_eRead_72 rfl ?_
          refine aw_sub (L1 := [(0, .ref (wad (WY g) 0)), (1, .int 0), (2, .int p2)]) [1, 0, 2] rfl ?_
          exact ih 0 p2 q126 _ hh kr
        refine aw_icmp_ne (tgt := 57) E dX9_eRead_44 rfl (fun c44 => ?_) (fun c44 => ?_)
        ·
          replace e122 := iq c44 e122
          refine aw_aload_n E dX9_eRead_57 0 rfl ?_
          refine aw_getI E flX9_127 (Nat.le_of_ble_eq_true rfl) rfl rfl dX9_eRead_58 ?_
          refine aw_sub (L1 := [(0, .ref (wad (WY g) 0)), (2, .int p2)]) [0, 2] rfl ?_
          subst e122
          exact J123
        ·
          replace e122 := ip c44 e122
          refine aw_ldc (v := 100000) E kcX9_159 dX9_eRead_47 ?_
          refine aw_aload_n E dX9_eRead_49 0 rfl ?_
          refine aw_getI E flX9_127 (Nat.le_of_ble_eq_true rfl) rfl rfl dX9_eRead_50 ?_
          refine aw_iadd E dX9_eRead_53 ?_
          refine aw_goto (tgt := 61) E dX9_eRead_54 rfl ?_
          refine aw_sub (L1 := [(0, .ref (wad (WY g) 0)), (2, .int p2)]) [0, 2] rfl ?_
          subst e122
          exact J123
      have J120 : b117 = false → AW Y (WY g) r 4 4 75 [(0, .ref (wad (WY g) 0)), (1, .int p1), (2, .int p2)] [] q101 := fun hb => by
        replace hh := iq (bf hb) hh
        refine aw_aload_n E dX9_eRead_75 0 rfl ?_
        refine aw_getI E flX9_124 (Nat.le_of_ble_eq_true rfl) rfl rfl dX9_eRead_76 ?_
        refine aw_bipush (v := 6) E dX9_eRead_79 (by decide) ?_
        obtain ⟨b128, e129, hh⟩ := lt_e hh
        have J130 : b128 = true → AW Y (WY g) r 4 4 88 [(0, .ref (wad (WY g) 0)), (1, .int p1), (2, .int p2)] [] q101 := fun hb => by
          replace hh := ip hb hh
          refine aw_aload_n E dX9_eRead_88 0 rfl ?_
          refine aw_bipush (v := 13) E dX9_eRead_89 (by decide) ?_
          obtain ⟨q132, e133, hh⟩ := bd_e hh
          refine aw_callVi (S := []) E mvX9_opensOne mlX9_160 (Nat.le_of_ble_eq_true rfl) rfl rfl rfl (ctX9_opensOne (yl Y) g 13  q101 q132 e133) rfl (Nat.le_of_ble_eq_true rfl) (Nat.le_of_ble_eq_true rfl) dX9_eRead_91 ?_
          refine aw_if_ne (tgt := 14) E dX9_eRead_94 rfl (fun c94 => ?_) (fun c94 => ?_)
          ·
            replace hh := iq c94 hh
            refine aw_sub (L1 := [(0, .ref (wad (WY g) 0)), (1, .int p1), (2, .int p2)]) [0, 1, 2] rfl ?_
            exact ih p1 p2 q132.2 _ hh kr
          ·
            replace hh := ip c94 hh
            refine aw_iconst (v := 0) E dX9_eRead_97 (by decide) ?_
            replace hh := Option.some.inj hh
            subst hh
            exact aw_zret E (by decide) dX9_eRead_98 (kr _ rfl)
        have J131 : b128 = false → AW Y (WY g) r 4 4 99 [(0, .ref (wad (WY g) 0)), (1, .int p1), (2, .int p2)] [] q101 := fun hb => by
          replace hh := iq (bf hb) hh
          refine aw_aload_n E dX9_eRead_99 0 rfl ?_
          refine aw_getI E flX9_124 (Nat.le_of_ble_eq_true rfl) rfl rfl dX9_eRead_100 ?_
          refine aw_bipush (v := 45) E dX9_eRead_103 (by decide) ?_
          refine aw_icmp_ne (tgt := 124) E dX9_eRead_105 rfl (fun c105 => ?_) (fun c105 => ?_)
          ·
            replace hh := iq c105 hh
            refine aw_aload_n E dX9_eRead_124 0 rfl ?_
            refine aw_getI E flX9_124 (Nat.le_of_ble_eq_true rfl) rfl rfl dX9_eRead_125 ?_
            refine aw_bipush (v := 40) E dX9_eRead_128 (by decide) ?_
            refine aw_icmp_ne (tgt := 148) E dX9_eRead_130 rfl (fun c130 => ?_) (fun c130 => ?_)
            ·
              replace hh := iq c130 hh
              refine aw_iconst (v := 0) E dX9_eRead_148 (by decide) ?_
              replace hh := Option.some.inj hh
              subst hh
              exact aw_zret E (by decide) dX9_eRead_149 (kr _ rfl)
            ·
              replace hh := ip c130 hh
              refine aw_aload_n E dX9_eRead_133 0 rfl ?_
              refine aw_iconst (v := 0) E dX9_eRead_134 (by decide) ?_
              obtain ⟨q134, e135, hh⟩ := bd_e hh
              refine aw_callVi (S := []) E mvX9_opensOne mlX9_160 (Nat.le_of_ble_eq_true rfl) rfl rfl rfl (ctX9_opensOne (yl Y) g 0  q101 q134 e135) rfl (Nat.le_of_ble_eq_true rfl) (Nat.le_of_ble_eq_true rfl) dX9_eRead_135 ?_
              refine aw_if_ne (tgt := 143) E dX9_eRead_138 rfl (fun c138 => ?_) (fun c138 => ?_)
              ·
                replace hh := iq c138 hh
                refine aw_iconst (v := 1) E dX9_eRead_143 (by decide) ?_
                refine aw_istore_n (L1 := [(2, .int 1), (0, .ref (wad (WY g) 0)), (1, .int p1)]) E dX9_eRead_144 (Nat.le_of_ble_eq_true rfl) rfl ?_
                refine aw_goto (tgt := 14) E dX9_eRead_145 rfl ?_
                refine aw_sub (L1 := [(0, .ref (wad (WY g) 0)), (1, .int p1), (2, .int 1)]) [1, 2, 0] rfl ?_
                exact ih p1 1 q134.2 _ hh kr
              ·
                replace hh := ip c138 hh
                refine aw_iconst (v := 0) E dX9_eRead_141 (by decide) ?_
                replace hh := Option.some.inj hh
                subst hh
                exact aw_zret E (by decide) dX9_eRead_142 (kr _ rfl)
          ·
            replace hh := ip c105 hh
            refine aw_aload_n E dX9_eRead_108 0 rfl ?_
            refine aw_bipush (v := 19) E dX9_eRead_109 (by decide) ?_
            obtain ⟨q136, e137, hh⟩ := bd_e hh
            refine aw_callVi (S := []) E mvX9_opensOne mlX9_160 (Nat.le_of_ble_eq_true rfl) rfl rfl rfl (ctX9_opensOne (yl Y) g 19  q101 q136 e137) rfl (Nat.le_of_ble_eq_true rfl) (Nat.le_of_ble_eq_true rfl) dX9_eRead_111 ?_
            refine aw_if_ne (tgt := 119) E dX9_eRead_114 rfl (fun c114 => ?_) (fun c114 => ?_)
            ·
              replace hh := iq c114 hh
              refine aw_iconst (v := 0) E dX9_eRead_119 (by decide) ?_
              refine aw_istore_n (L1 := [(2, .int 0), (0, .ref (wad (WY g) 0)), (1, .int p1)]) E dX9_eRead_120 (Nat.le_of_ble_eq_true rfl) rfl ?_
              refine aw_goto (tgt := 14) E dX9_eRead_121 rfl ?_
              refine aw_sub (L1 := [(0, .ref (wad (WY g) 0)), (1, .int p1), (2, .int 0)]) [1, 2, 0] rfl ?_
              exact ih p1 0 q136.2 _ hh kr
            ·
              replace hh := ip c114 hh
              refine aw_iconst (v := 0) E dX9_eRead_117 (by decide) ?_
              replace hh := Option.some.inj hh
              subst hh
              exact aw_zret E (by decide) dX9_eRead_118 (kr _ rfl)
        refine aw_icmp_ne (tgt := 99) E dX9_eRead_81 rfl (fun c81 => ?_) (fun c81 => ?_)
        ·
          replace e129 := iq c81 e129
          subst e129
          exact J131 rfl
        ·
          replace e129 := ip c81 e129
          refine aw_iload_n E dX9_eRead_84 2 rfl ?_
          refine aw_if_eq (tgt := 99) E dX9_eRead_85 rfl (fun c85 => ?_) (fun c85 => ?_)
          ·
            replace e129 := ip c85 e129
            subst e129
            exact J131 rfl
          ·
            replace e129 := iq c85 e129
            subst e129
            exact J130 rfl
      refine aw_icmp_eq (tgt := 38) E dX9_eRead_27 rfl (fun c27 => ?_) (fun c27 => ?_)
      ·
        replace e118 := ip c27 e118
        subst e118
        exact J119 rfl
      ·
        replace e118 := iq c27 e118
        refine aw_aload_n E dX9_eRead_30 0 rfl ?_
        refine aw_getI E flX9_124 (Nat.le_of_ble_eq_true rfl) rfl rfl dX9_eRead_31 ?_
        refine aw_iconst (v := 2) E dX9_eRead_34 (by decide) ?_
        refine aw_icmp_ne (tgt := 75) E dX9_eRead_35 rfl (fun c35 => ?_) (fun c35 => ?_)
        ·
          replace e118 := iq c35 e118
          subst e118
          exact J120 rfl
        ·
          replace e118 := ip c35 e118
          subst e118
          exact J119 rfl
set_option maxHeartbeats 4000000 in
set_option maxRecDepth 100000 in
theorem ctX9_eRead (l : Launch) (g : CtxG)  (M : Mem) (r0 : Int32 × Mem) (h : FX9_eRead M = some r0) : Ct l (WY g) yX9_eRead cX9_eRead 4 (some .boolean) 4 [.ref (wad (WY g) 0)] M (some (.int r0.1), r0.2) := by
  refine Ct.of (by decide) (Nat.le_of_ble_eq_true rfl) (fun Y hY E => ?_)
  have E : EV Y (WY g) cX9_eRead 4 (some .boolean) RX9 := E
  have h : FX9_eRead  M = some r0 := h
  unfold FX9_eRead at h
  show AW Y (WY g) _ 4 4 0 [(0, .ref (wad (WY g) 0))] [] M
  obtain ⟨r, hr⟩ : ∃ r : Option Value × Mem, r = (some (.int r0.1), r0.2) := ⟨_, rfl⟩
  rw [← hr]
  refine aw_aload_n E dX9_eRead_0 0 rfl ?_
  refine aw_iconst (v := 0) E dX9_eRead_1 (by decide) ?_
  obtain ⟨M1, e2, h⟩ := lt_e h
  refine aw_putI1 e2 E flX9_137 (Nat.le_of_ble_eq_true rfl) rfl rfl nr_int dX9_eRead_2 ?_
  refine aw_aload_n E dX9_eRead_5 0 rfl ?_
  refine aw_iconst (v := 0) E dX9_eRead_6 (by decide) ?_
  obtain ⟨M3, e4, h⟩ := lt_e h
  refine aw_putI1 e4 E flX9_143 (Nat.le_of_ble_eq_true rfl) rfl rfl nr_int dX9_eRead_7 ?_
  refine aw_iconst (v := 1) E dX9_eRead_10 (by decide) ?_
  refine aw_istore_n (L1 := [(1, .int 1), (0, .ref (wad (WY g) 0))]) E dX9_eRead_11 (Nat.le_of_ble_eq_true rfl) rfl ?_
  refine aw_iconst (v := 1) E dX9_eRead_12 (by decide) ?_
  refine aw_istore_n (L1 := [(2, .int 1), (1, .int 1), (0, .ref (wad (WY g) 0))]) E dX9_eRead_13 (Nat.le_of_ble_eq_true rfl) rfl ?_
  obtain ⟨q5, e6, h⟩ := bd_e h
  refine aw_sub (L1 := [(0, .ref (wad (WY g) 0)), (1, .int 1), (2, .int 1)]) [2, 1, 0] rfl ?_
  refine lpX9_eRead_14 E    FU 1 1 M3 q5 e6 (fun v7 e8 => ?_)
  subst e8
  replace h := Option.some.inj h
  subst h
  exact hr
def FX9_isByte (a0 : Int32) : Option (Int32) :=
  gd (FX9_in a0 0 255 = 0 ∨ FX9_in a0 0 255 = 1) <|
  some (FX9_in a0 0 255)
set_option maxHeartbeats 4000000 in
set_option maxRecDepth 100000 in
theorem ctX9_isByte (l : Launch) (g : CtxG) (a0 : Int32) (M : Mem) (r0 : Int32) (h : FX9_isByte a0 = some r0) : Ct l (WY g) yX9_isByte cX9_isByte 1 (some .boolean) 2 [.int a0] M (some (.int r0), M) := by
  refine Ct.of (by decide) (Nat.le_of_ble_eq_true rfl) (fun Y hY E => ?_)
  have E : EV Y (WY g) cX9_isByte 1 (some .boolean) RX9 := E
  have h : FX9_isByte a0 = some r0 := h
  unfold FX9_isByte at h
  show AW Y (WY g) _ 1 2 0 [(0, .int a0)] [] M
  obtain ⟨r, hr⟩ : ∃ r : Option Value × Mem, r = (some (.int r0), M) := ⟨_, rfl⟩
  rw [← hr]
  refine aw_iload_n E dX9_isByte_0 0 rfl ?_
  refine aw_iconst (v := 0) E dX9_isByte_1 (by decide) ?_
  refine aw_sipush (v := 255) E dX9_isByte_2 (by decide) ?_
  refine aw_callSi (S := []) E msX9_in mlX9_88 rfl (ctX9_in (yl Y) g a0 0 255  M ) rfl (Nat.le_of_ble_eq_true rfl) (Nat.le_of_ble_eq_true rfl) dX9_isByte_5 ?_
  obtain ⟨g1, h⟩ := gd_e h
  replace h := Option.some.inj h
  subst h
  exact aw_zret E g1 dX9_isByte_8 hr
def FX9_feed_L68 : Nat → Int32 → Int32 → Int32 → Int32 → Int32 → Int32 → Int32 → Mem → Option (Mem)
  | 0, _, _, _, _, _, _, _, _ => none
  | f + 1, p1, p2, p3, p4, p5, p6, p7, M =>
    if p1 ≤ p7 then
      some M
    else
      lt (α := Int32) (if p7 = 0 then
        p2
      else
        if p7 = 1 then
          p3
        else
          if p7 = 2 then
            p4
          else
            if p7 = 3 then
              p5
            else
              p6) fun q101 =>
      gi (M.1 0 11) 160 <|
      lt (wr M 6 (Int32.toNatClampNeg (M.1 0 11)) q101) fun M105 =>
      lt (wr M105 0 11 ((M105.1 0 11) + 1)) fun M107 =>
      lt (α := Int32) (p7 + 1) fun x109 =>
      FX9_feed_L68 f p1 p2 p3 p4 p5 p6 x109 M107
def FX9_feed (a1 : Int32) (a2 : Int32) (a3 : Int32) (a4 : Int32) (a5 : Int32) (a6 : Int32) (M : Mem) : Option (Int32 × Mem) :=
  ob (α := Bool) (if (FX9_in a1 1 5) = 0 then
    some true
  else
    ob (FX9_isByte a2) fun q7 =>
    if q7 = 0 then
      some true
    else
      ob (FX9_isByte a3) fun q9 =>
      if q9 = 0 then
        some true
      else
        ob (FX9_isByte a4) fun q11 =>
        if q11 = 0 then
          some true
        else
          ob (FX9_isByte a5) fun q13 =>
          if q13 = 0 then
            some true
          else
            ob (FX9_isByte a6) fun q15 =>
            if q15 = 0 then some true else some false) fun b1 =>
  if b1 = true then
    some ((-2), M)
  else
    if ((M.1 0 11) + a1) ≤ 160 then
      ob (FX9_feed_L68 FU a1 a2 a3 a4 a5 a6 0 M) fun q5 =>
      some (q5.1 0 11, q5)
    else
      some ((-4), M)
set_option maxHeartbeats 4000000 in
set_option maxRecDepth 100000 in
theorem lpX9_feed_68 {Y : CtxM} {g : CtxG} {r : Option Value × Mem} (E : EV Y (WY g) cX9_feed 8 (some .int) RX9) (p1 : Int32) (p2 : Int32) (p3 : Int32) (p4 : Int32) (p5 : Int32) (p6 : Int32) : ∀ (f : Nat) (p7 : Int32) (M : Mem) (q : Mem), FX9_feed_L68 f p1 p2 p3 p4 p5 p6 p7 M = some q → AW Y (WY g) r 8 3 142 [(0, .ref (wad (WY g) 0))] [] q → AW Y (WY g) r 8 3 68 [(0, .ref (wad (WY g) 0)), (1, .int p1), (2, .int p2), (3, .int p3), (4, .int p4), (5, .int p5), (6, .int p6), (7, .int p7)] [] M := by
  intro f
  induction f with
  | zero => intro p7 M q hh; exact absurd hh (fun z => nomatch (show (none : Option (Mem)) = some q from z))
  | succ f ih =>
    intro p7 M q hh kx
    rw [FX9_feed_L68] at hh
    refine aw_iload E dX9_feed_68 7 rfl ?_
    refine aw_iload_n E dX9_feed_70 1 rfl ?_
    refine aw_icmp_ge (tgt := 142) E dX9_feed_71 rfl (fun c71 => ?_) (fun c71 => ?_)
    ·
      replace hh := ip c71 hh
      refine aw_sub (L1 := [(0, .ref (wad (WY g) 0))]) [0] rfl ?_
      replace hh := Option.some.inj hh
      subst hh
      exact kx
    ·
      replace hh := iq c71 hh
      refine aw_aload_n E dX9_feed_74 0 rfl ?_
      refine aw_getR (q := 6) E flX9_29 (Nat.le_of_ble_eq_true rfl) rfl rfl dX9_feed_75 ?_
      refine aw_aload_n E dX9_feed_78 0 rfl ?_
      refine aw_getI E flX9_81 (Nat.le_of_ble_eq_true rfl) rfl rfl dX9_feed_79 ?_
      refine aw_iload E dX9_feed_82 7 rfl ?_
      obtain ⟨q101, e102, hh⟩ := lt_e hh
      have J103 : AW Y (WY g) r 8 3 125 [(0, .ref (wad (WY g) 0)), (1, .int p1), (2, .int p2), (3, .int p3), (4, .int p4), (5, .int p5), (6, .int p6), (7, .int p7)] [.int q101, .int (M.1 0 11), .ref (wad (WY g) 6)] M := by
        obtain ⟨g104, hh⟩ := gi_e hh
        obtain ⟨M105, e106, hh⟩ := lt_e hh
        refine aw_iast1 e106 E (Nat.le_of_ble_eq_true rfl) rfl g104 dX9_feed_125 ?_
        refine aw_aload_n E dX9_feed_126 0 rfl ?_
        refine aw_dup E dX9_feed_127 rfl ?_
        refine aw_getI E flX9_81 (Nat.le_of_ble_eq_true rfl) rfl rfl dX9_feed_128 ?_
        refine aw_iconst (v := 1) E dX9_feed_131 (by decide) ?_
        refine aw_iadd E dX9_feed_132 ?_
        obtain ⟨M107, e108, hh⟩ := lt_e hh
        refine aw_putI1 e108 E flX9_81 (Nat.le_of_ble_eq_true rfl) rfl rfl nr_int dX9_feed_133 ?_
        obtain ⟨x109, e110, hh⟩ := lt_e hh
        refine aw_iinc (v := x109) (L1 := [(7, .int x109), (0, .ref (wad (WY g) 0)), (1, .int p1), (2, .int p2), (3, .int p3), (4, .int p4), (5, .int p5), (6, .int p6)]) E dX9_feed_136 7 rfl e110 (Nat.le_of_ble_eq_true rfl) rfl ?_
        refine aw_goto (tgt := 68) E dX9_feed_139 rfl ?_
        refine aw_sub (L1 := [(0, .ref (wad (WY g) 0)), (1, .int p1), (2, .int p2), (3, .int p3), (4, .int p4), (5, .int p5), (6, .int p6), (7, .int x109)]) [1, 2, 3, 4, 5, 6, 7, 0] rfl ?_
        exact ih x109 M107 _ hh kx
      refine aw_if_ne (tgt := 91) E dX9_feed_84 rfl (fun c84 => ?_) (fun c84 => ?_)
      ·
        replace e102 := iq c84 e102
        refine aw_iload E dX9_feed_91 7 rfl ?_
        refine aw_iconst (v := 1) E dX9_feed_93 (by decide) ?_
        refine aw_icmp_ne (tgt := 101) E dX9_feed_94 rfl (fun c94 => ?_) (fun c94 => ?_)
        ·
          replace e102 := iq c94 e102
          refine aw_iload E dX9_feed_101 7 rfl ?_
          refine aw_iconst (v := 2) E dX9_feed_103 (by decide) ?_
          refine aw_icmp_ne (tgt := 112) E dX9_feed_104 rfl (fun c104 => ?_) (fun c104 => ?_)
          ·
            replace e102 := iq c104 e102
            refine aw_iload E dX9_feed_112 7 rfl ?_
            refine aw_iconst (v := 3) E dX9_feed_114 (by decide) ?_
            refine aw_icmp_ne (tgt := 123) E dX9_feed_115 rfl (fun c115 => ?_) (fun c115 => ?_)
            ·
              replace e102 := iq c115 e102
              refine aw_iload E dX9_feed_123 6 rfl ?_
              refine aw_sub (L1 := [(0, .ref (wad (WY g) 0)), (1, .int p1), (2, .int p2), (3, .int p3), (4, .int p4), (5, .int p5), (6, .int p6), (7, .int p7)]) [0, 1, 2, 3, 4, 5, 6, 7] rfl ?_
              subst e102
              exact J103
            ·
              replace e102 := ip c115 e102
              refine aw_iload E dX9_feed_118 5 rfl ?_
              refine aw_goto (tgt := 125) E dX9_feed_120 rfl ?_
              refine aw_sub (L1 := [(0, .ref (wad (WY g) 0)), (1, .int p1), (2, .int p2), (3, .int p3), (4, .int p4), (5, .int p5), (6, .int p6), (7, .int p7)]) [0, 1, 2, 3, 4, 5, 6, 7] rfl ?_
              subst e102
              exact J103
          ·
            replace e102 := ip c104 e102
            refine aw_iload E dX9_feed_107 4 rfl ?_
            refine aw_goto (tgt := 125) E dX9_feed_109 rfl ?_
            refine aw_sub (L1 := [(0, .ref (wad (WY g) 0)), (1, .int p1), (2, .int p2), (3, .int p3), (4, .int p4), (5, .int p5), (6, .int p6), (7, .int p7)]) [0, 1, 2, 3, 4, 5, 6, 7] rfl ?_
            subst e102
            exact J103
        ·
          replace e102 := ip c94 e102
          refine aw_iload_n E dX9_feed_97 3 rfl ?_
          refine aw_goto (tgt := 125) E dX9_feed_98 rfl ?_
          refine aw_sub (L1 := [(0, .ref (wad (WY g) 0)), (1, .int p1), (2, .int p2), (3, .int p3), (4, .int p4), (5, .int p5), (6, .int p6), (7, .int p7)]) [0, 1, 2, 3, 4, 5, 6, 7] rfl ?_
          subst e102
          exact J103
      ·
        replace e102 := ip c84 e102
        refine aw_iload_n E dX9_feed_87 2 rfl ?_
        refine aw_goto (tgt := 125) E dX9_feed_88 rfl ?_
        refine aw_sub (L1 := [(0, .ref (wad (WY g) 0)), (1, .int p1), (2, .int p2), (3, .int p3), (4, .int p4), (5, .int p5), (6, .int p6), (7, .int p7)]) [0, 1, 2, 3, 4, 5, 6, 7] rfl ?_
        subst e102
        exact J103
set_option maxHeartbeats 4000000 in
set_option maxRecDepth 100000 in
theorem ctX9_feed (l : Launch) (g : CtxG) (a1 : Int32) (a2 : Int32) (a3 : Int32) (a4 : Int32) (a5 : Int32) (a6 : Int32) (M : Mem) (r0 : Int32 × Mem) (h : FX9_feed a1 a2 a3 a4 a5 a6 M = some r0) : Ct l (WY g) yX9_feed cX9_feed 8 (some .int) 3 [.ref (wad (WY g) 0), .int a1, .int a2, .int a3, .int a4, .int a5, .int a6] M (some (.int r0.1), r0.2) := by
  refine Ct.of (by decide) (Nat.le_of_ble_eq_true rfl) (fun Y hY E => ?_)
  have E : EV Y (WY g) cX9_feed 8 (some .int) RX9 := E
  have h : FX9_feed a1 a2 a3 a4 a5 a6 M = some r0 := h
  unfold FX9_feed at h
  show AW Y (WY g) _ 8 3 0 [(0, .ref (wad (WY g) 0)), (1, .int a1), (2, .int a2), (3, .int a3), (4, .int a4), (5, .int a5), (6, .int a6)] [] M
  obtain ⟨r, hr⟩ : ∃ r : Option Value × Mem, r = (some (.int r0.1), r0.2) := ⟨_, rfl⟩
  rw [← hr]
  refine aw_iload_n E dX9_feed_0 1 rfl ?_
  refine aw_iconst (v := 1) E dX9_feed_1 (by decide) ?_
  refine aw_iconst (v := 5) E dX9_feed_2 (by decide) ?_
  refine aw_callSi (S := []) E msX9_in mlX9_88 rfl (ctX9_in (yl Y) g a1 1 5  M ) rfl (Nat.le_of_ble_eq_true rfl) (Nat.le_of_ble_eq_true rfl) dX9_feed_3 ?_
  obtain ⟨b1, e2, h⟩ := bd_e h
  have J3 : b1 = true → AW Y (WY g) r 8 3 47 [(0, .ref (wad (WY g) 0)), (1, .int a1), (2, .int a2), (3, .int a3), (4, .int a4), (5, .int a5), (6, .int a6)] [] M := fun hb => by
    replace h := ip hb h
    refine aw_bipush (v := (-2)) E dX9_feed_47 (by decide) ?_
    replace h := Option.some.inj h
    subst h
    exact aw_iret E dX9_feed_49 hr
  have J4 : b1 = false → AW Y (WY g) r 8 3 50 [(0, .ref (wad (WY g) 0)), (1, .int a1), (2, .int a2), (3, .int a3), (4, .int a4), (5, .int a5), (6, .int a6)] [] M := fun hb => by
    replace h := iq (bf hb) h
    refine aw_aload_n E dX9_feed_50 0 rfl ?_
    refine aw_getI E flX9_81 (Nat.le_of_ble_eq_true rfl) rfl rfl dX9_feed_51 ?_
    refine aw_iload_n E dX9_feed_54 1 rfl ?_
    refine aw_iadd E dX9_feed_55 ?_
    refine aw_sipush (v := 160) E dX9_feed_56 (by decide) ?_
    refine aw_icmp_le (tgt := 65) E dX9_feed_59 rfl (fun c59 => ?_) (fun c59 => ?_)
    ·
      replace h := ip c59 h
      refine aw_iconst (v := 0) E dX9_feed_65 (by decide) ?_
      refine aw_istore (L1 := [(7, .int 0), (0, .ref (wad (WY g) 0)), (1, .int a1), (2, .int a2), (3, .int a3), (4, .int a4), (5, .int a5), (6, .int a6)]) E dX9_feed_66 (Nat.le_of_ble_eq_true rfl) rfl ?_
      obtain ⟨q5, e6, h⟩ := bd_e h
      refine aw_sub (L1 := [(0, .ref (wad (WY g) 0)), (1, .int a1), (2, .int a2), (3, .int a3), (4, .int a4), (5, .int a5), (6, .int a6), (7, .int 0)]) [1, 2, 3, 4, 5, 6, 7, 0] rfl ?_
      refine lpX9_feed_68 E   a1 a2 a3 a4 a5 a6 FU 0 M q5 e6 ?_
      refine aw_aload_n E dX9_feed_142 0 rfl ?_
      refine aw_getI E flX9_81 (Nat.le_of_ble_eq_true rfl) rfl rfl dX9_feed_143 ?_
      replace h := Option.some.inj h
      subst h
      exact aw_iret E dX9_feed_146 hr
    ·
      replace h := iq c59 h
      refine aw_bipush (v := (-4)) E dX9_feed_62 (by decide) ?_
      replace h := Option.some.inj h
      subst h
      exact aw_iret E dX9_feed_64 hr
  refine aw_if_eq (tgt := 47) E dX9_feed_6 rfl (fun c6 => ?_) (fun c6 => ?_)
  ·
    replace e2 := ip c6 e2
    replace e2 := Option.some.inj e2
    subst e2
    exact J3 rfl
  ·
    replace e2 := iq c6 e2
    refine aw_iload_n E dX9_feed_9 2 rfl ?_
    obtain ⟨q7, e8, e2⟩ := bd_e e2
    refine aw_callSi (S := []) E msX9_isByte mlX9_114 rfl (ctX9_isByte (yl Y) g a2  M q7 e8) rfl (Nat.le_of_ble_eq_true rfl) (Nat.le_of_ble_eq_true rfl) dX9_feed_10 ?_
    refine aw_if_eq (tgt := 47) E dX9_feed_13 rfl (fun c13 => ?_) (fun c13 => ?_)
    ·
      replace e2 := ip c13 e2
      replace e2 := Option.some.inj e2
      subst e2
      exact J3 rfl
    ·
      replace e2 := iq c13 e2
      refine aw_iload_n E dX9_feed_16 3 rfl ?_
      obtain ⟨q9, e10, e2⟩ := bd_e e2
      refine aw_callSi (S := []) E msX9_isByte mlX9_114 rfl (ctX9_isByte (yl Y) g a3  M q9 e10) rfl (Nat.le_of_ble_eq_true rfl) (Nat.le_of_ble_eq_true rfl) dX9_feed_17 ?_
      refine aw_if_eq (tgt := 47) E dX9_feed_20 rfl (fun c20 => ?_) (fun c20 => ?_)
      ·
        replace e2 := ip c20 e2
        replace e2 := Option.some.inj e2
        subst e2
        exact J3 rfl
      ·
        replace e2 := iq c20 e2
        refine aw_iload E dX9_feed_23 4 rfl ?_
        obtain ⟨q11, e12, e2⟩ := bd_e e2
        refine aw_callSi (S := []) E msX9_isByte mlX9_114 rfl (ctX9_isByte (yl Y) g a4  M q11 e12) rfl (Nat.le_of_ble_eq_true rfl) (Nat.le_of_ble_eq_true rfl) dX9_feed_25 ?_
        refine aw_if_eq (tgt := 47) E dX9_feed_28 rfl (fun c28 => ?_) (fun c28 => ?_)
        ·
          replace e2 := ip c28 e2
          replace e2 := Option.some.inj e2
          subst e2
          exact J3 rfl
        ·
          replace e2 := iq c28 e2
          refine aw_iload E dX9_feed_31 5 rfl ?_
          obtain ⟨q13, e14, e2⟩ := bd_e e2
          refine aw_callSi (S := []) E msX9_isByte mlX9_114 rfl (ctX9_isByte (yl Y) g a5  M q13 e14) rfl (Nat.le_of_ble_eq_true rfl) (Nat.le_of_ble_eq_true rfl) dX9_feed_33 ?_
          refine aw_if_eq (tgt := 47) E dX9_feed_36 rfl (fun c36 => ?_) (fun c36 => ?_)
          ·
            replace e2 := ip c36 e2
            replace e2 := Option.some.inj e2
            subst e2
            exact J3 rfl
          ·
            replace e2 := iq c36 e2
            refine aw_iload E dX9_feed_39 6 rfl ?_
            obtain ⟨q15, e16, e2⟩ := bd_e e2
            refine aw_callSi (S := []) E msX9_isByte mlX9_114 rfl (ctX9_isByte (yl Y) g a6  M q15 e16) rfl (Nat.le_of_ble_eq_true rfl) (Nat.le_of_ble_eq_true rfl) dX9_feed_41 ?_
            refine aw_if_ne (tgt := 50) E dX9_feed_44 rfl (fun c44 => ?_) (fun c44 => ?_)
            ·
              replace e2 := iq c44 e2
              replace e2 := Option.some.inj e2
              subst e2
              exact J4 rfl
            ·
              replace e2 := ip c44 e2
              replace e2 := Option.some.inj e2
              subst e2
              exact J3 rfl
def FX9_follows_L6 : Nat → Int32 → Int32 → Mem → Option (Int32 × Mem ⊕ (Int32 × Mem))
  | 0, _, _, _ => none
  | f + 1, p1, p2, M =>
    gi p1 4 <|
    ob (α := Bool) (if (M.1 10 (Int32.toNatClampNeg p1)) ≤ p2 then
      some false
    else
      gi ((40 * p1) + p2) 160 <|
      ob (FX9_mayBeNext (M.1 11 (Int32.toNatClampNeg ((40 * p1) + p2))) M) fun q123 =>
      if q123 = 0 then some false else some true) fun b102 =>
    if b102 = true then
      gi ((40 * p1) + p2) 160 <|
      lt (α := Int32) (M.1 11 (Int32.toNatClampNeg ((40 * p1) + p2))) fun x107 =>
      ob (α := Bool) (if (M.1 0 2) = 1 then
        ob (FX9_sideOf x107 (M.1 0 47) M) fun q117 =>
        ob (FX9_beyond x107 q117 M) fun q119 =>
        if q119 = (M.1 0 0) then
          gi p1 4 <|
          if ((M.1 10 (Int32.toNatClampNeg p1)) - 1) ≤ p2 then some false else some true
        else
          some false
      else
        some false) fun b109 =>
      if b109 = true then
        some (.inl (p2, M))
      else
        ob (FX9_steps x107 M) fun q113 =>
        lt (α := Int32) (p2 + 1) fun x115 =>
        FX9_follows_L6 f p1 x115 q113
    else
      some (.inr (p2, M))
def FX9_follows (a1 : Int32) (M : Mem) : Option (Int32 × Mem) :=
  ob (FX9_sets M) fun q1 =>
  ob (FX9_follows_L6 FU a1 0 q1) fun q3 => Sum.elim (fun v5 => some v5) (fun q7 =>
    some (q7.1, q7.2)) q3
set_option maxHeartbeats 4000000 in
set_option maxRecDepth 100000 in
theorem lpX9_follows_6 {Y : CtxM} {g : CtxG} {r : Option Value × Mem} (E : EV Y (WY g) cX9_follows 4 (some .int) RX9) (p1 : Int32) : ∀ (f : Nat) (p2 : Int32) (M : Mem) (q : Int32 × Mem ⊕ (Int32 × Mem)), FX9_follows_L6 f p1 p2 M = some q → (∀ v, q = .inl v → r = (some (.int v.1), v.2)) → (∀ t, q = .inr t → AW Y (WY g) r 4 6 100 [(2, .int t.1)] [] t.2) → AW Y (WY g) r 4 6 6 [(0, .ref (wad (WY g) 0)), (1, .int p1), (2, .int p2)] [] M := by
  intro f
  induction f with
  | zero => intro p2 M q hh; exact absurd hh (fun z => nomatch (show (none : Option (Int32 × Mem ⊕ (Int32 × Mem))) = some q from z))
  | succ f ih =>
    intro p2 M q hh kr kx
    rw [FX9_follows_L6] at hh
    refine aw_iload_n E dX9_follows_6 2 rfl ?_
    refine aw_aload_n E dX9_follows_7 0 rfl ?_
    refine aw_getR (q := 10) E flX9_41 (Nat.le_of_ble_eq_true rfl) rfl rfl dX9_follows_8 ?_
    refine aw_iload_n E dX9_follows_11 1 rfl ?_
    obtain ⟨g101, hh⟩ := gi_e hh
    refine aw_iald E (Nat.le_of_ble_eq_true rfl) rfl g101 dX9_follows_12 ?_
    obtain ⟨b102, e103, hh⟩ := bd_e hh
    have J104 : b102 = true → AW Y (WY g) r 4 6 34 [(0, .ref (wad (WY g) 0)), (1, .int p1), (2, .int p2)] [] M := fun hb => by
      replace hh := ip hb hh
      refine aw_aload_n E dX9_follows_34 0 rfl ?_
      refine aw_getR (q := 11) E flX9_44 (Nat.le_of_ble_eq_true rfl) rfl rfl dX9_follows_35 ?_
      refine aw_bipush (v := 40) E dX9_follows_38 (by decide) ?_
      refine aw_iload_n E dX9_follows_40 1 rfl ?_
      refine aw_imul E dX9_follows_41 ?_
      refine aw_iload_n E dX9_follows_42 2 rfl ?_
      refine aw_iadd E dX9_follows_43 ?_
      obtain ⟨g106, hh⟩ := gi_e hh
      refine aw_iald E (Nat.le_of_ble_eq_true rfl) rfl g106 dX9_follows_44 ?_
      obtain ⟨x107, e108, hh⟩ := lt_e hh
      refine aw_nmI e108 ?_
      refine aw_istore_n (L1 := [(3, .int x107), (0, .ref (wad (WY g) 0)), (1, .int p1), (2, .int p2)]) E dX9_follows_45 (Nat.le_of_ble_eq_true rfl) rfl ?_
      refine aw_aload_n E dX9_follows_46 1 rfl ?_
      refine aw_getI E flX9_102 (Nat.le_of_ble_eq_true rfl) rfl rfl dX9_follows_47 ?_
      refine aw_iconst (v := 1) E dX9_follows_50 (by decide) ?_
      obtain ⟨b109, e110, hh⟩ := bd_e hh
      have J111 : b109 = true → AW Y (WY g) r 4 6 87 [(3, .int x107), (0, .ref (wad (WY g) 0)), (1, .int p1), (2, .int p2)] [] M := fun hb => by
        replace hh := ip hb hh
        refine aw_iload_n E dX9_follows_87 3 rfl ?_
        replace hh := Option.some.inj hh
        subst hh
        exact aw_iret E dX9_follows_88 (kr _ rfl)
      have J112 : b109 = false → AW Y (WY g) r 4 6 89 [(3, .int x107), (0, .ref (wad (WY g) 0)), (1, .int p1), (2, .int p2)] [] M := fun hb => by
        replace hh := iq (bf hb) hh
        refine aw_aload_n E dX9_follows_89 1 rfl ?_
        refine aw_iload_n E dX9_follows_90 0 rfl ?_
        obtain ⟨q113, e114, hh⟩ := bd_e hh
        refine aw_callVv (S := []) E mvX9_steps mlX9_318 (Nat.le_of_ble_eq_true rfl) rfl rfl rfl (ctX9_steps (yl Y) g x107  M q113 e114) rfl (Nat.le_of_ble_eq_true rfl) (Nat.le_of_ble_eq_true rfl) dX9_follows_91 ?_
        obtain ⟨x115, e116, hh⟩ := lt_e hh
        refine aw_iinc (v := x115) (L1 := [(2, .int x115), (3, .int x107), (0, .ref (wad (WY g) 0)), (1, .int p1)]) E dX9_follows_94 3 rfl e116 (Nat.le_of_ble_eq_true rfl) rfl ?_
        refine aw_goto (tgt := 6) E dX9_follows_97 rfl ?_
        refine aw_sub (L1 := [(0, .ref (wad (WY g) 0)), (1, .int p1), (2, .int x115)]) [2, 3, 0] rfl ?_
        exact ih x115 q113 _ hh kr kx
      refine aw_icmp_ne (tgt := 89) E dX9_follows_51 rfl (fun c51 => ?_) (fun c51 => ?_)
      ·
        replace e110 := iq c51 e110
        replace e110 := Option.some.inj e110
        subst e110
        exact J112 rfl
      ·
        replace e110 := ip c51 e110
        refine aw_aload_n E dX9_follows_54 1 rfl ?_
        refine aw_iload_n E dX9_follows_55 0 rfl ?_
        refine aw_aload_n E dX9_follows_56 1 rfl ?_
        refine aw_iload_n E dX9_follows_57 0 rfl ?_
        refine aw_aload_n E dX9_follows_58 1 rfl ?_
        refine aw_getI E flX9_303 (Nat.le_of_ble_eq_true rfl) rfl rfl dX9_follows_59 ?_
        obtain ⟨q117, e118, e110⟩ := bd_e e110
        refine aw_callVi (S := [.int x107, .ref (wad (WY g) 0)]) E mvX9_sideOf mlX9_214 (Nat.le_of_ble_eq_true rfl) rfl rfl rfl (ctX9_sideOf (yl Y) g x107 (M.1 0 47)  M q117 e118) rfl (Nat.le_of_ble_eq_true rfl) (Nat.le_of_ble_eq_true rfl) dX9_follows_62 ?_
        obtain ⟨q119, e120, e110⟩ := bd_e e110
        refine aw_callVi (S := []) E mvX9_beyond mlX9_217 (Nat.le_of_ble_eq_true rfl) rfl rfl rfl (ctX9_beyond (yl Y) g x107 q117  M q119 e120) rfl (Nat.le_of_ble_eq_true rfl) (Nat.le_of_ble_eq_true rfl) dX9_follows_65 ?_
        refine aw_aload_n E dX9_follows_68 1 rfl ?_
        refine aw_getI E flX9_99 (Nat.le_of_ble_eq_true rfl) rfl rfl dX9_follows_69 ?_
        refine aw_icmp_ne (tgt := 89) E dX9_follows_72 rfl (fun c72 => ?_) (fun c72 => ?_)
        ·
          replace e110 := iq c72 e110
          replace e110 := Option.some.inj e110
          subst e110
          exact J112 rfl
        ·
          replace e110 := ip c72 e110
          refine aw_iload_n E dX9_follows_75 3 rfl ?_
          refine aw_aload_n E dX9_follows_76 1 rfl ?_
          refine aw_getR (q := 10) E flX9_41 (Nat.le_of_ble_eq_true rfl) rfl rfl dX9_follows_77 ?_
          refine aw_iload_n E dX9_follows_80 2 rfl ?_
          obtain ⟨g121, e110⟩ := gi_e e110
          refine aw_iald E (Nat.le_of_ble_eq_true rfl) rfl g121 dX9_follows_81 ?_
          refine aw_iconst (v := 1) E dX9_follows_82 (by decide) ?_
          refine aw_isub E dX9_follows_83 ?_
          refine aw_icmp_ge (tgt := 89) E dX9_follows_84 rfl (fun c84 => ?_) (fun c84 => ?_)
          ·
            replace e110 := ip c84 e110
            replace e110 := Option.some.inj e110
            subst e110
            exact J112 rfl
          ·
            replace e110 := iq c84 e110
            replace e110 := Option.some.inj e110
            subst e110
            exact J111 rfl
    have J105 : b102 = false → AW Y (WY g) r 4 6 100 [(0, .ref (wad (WY g) 0)), (1, .int p1), (2, .int p2)] [] M := fun hb => by
      replace hh := iq (bf hb) hh
      refine aw_sub (L1 := [(2, .int p2)]) [2] rfl ?_
      replace hh := Option.some.inj hh
      subst hh
      exact kx _ rfl
    refine aw_icmp_ge (tgt := 100) E dX9_follows_13 rfl (fun c13 => ?_) (fun c13 => ?_)
    ·
      replace e103 := ip c13 e103
      replace e103 := Option.some.inj e103
      subst e103
      exact J105 rfl
    ·
      replace e103 := iq c13 e103
      refine aw_aload_n E dX9_follows_16 0 rfl ?_
      refine aw_aload_n E dX9_follows_17 0 rfl ?_
      refine aw_getR (q := 11) E flX9_44 (Nat.le_of_ble_eq_true rfl) rfl rfl dX9_follows_18 ?_
      refine aw_bipush (v := 40) E dX9_follows_21 (by decide) ?_
      refine aw_iload_n E dX9_follows_23 1 rfl ?_
      refine aw_imul E dX9_follows_24 ?_
      refine aw_iload_n E dX9_follows_25 2 rfl ?_
      refine aw_iadd E dX9_follows_26 ?_
      obtain ⟨g122, e103⟩ := gi_e e103
      refine aw_iald E (Nat.le_of_ble_eq_true rfl) rfl g122 dX9_follows_27 ?_
      obtain ⟨q123, e124, e103⟩ := bd_e e103
      refine aw_callVi (S := []) E mvX9_mayBeNext mlX9_315 (Nat.le_of_ble_eq_true rfl) rfl rfl rfl (ctX9_mayBeNext (yl Y) g (M.1 11 (Int32.toNatClampNeg ((40 * p1) + p2)))  M q123 e124) rfl (Nat.le_of_ble_eq_true rfl) (Nat.le_of_ble_eq_true rfl) dX9_follows_28 ?_
      refine aw_if_eq (tgt := 100) E dX9_follows_31 rfl (fun c31 => ?_) (fun c31 => ?_)
      ·
        replace e103 := ip c31 e103
        replace e103 := Option.some.inj e103
        subst e103
        exact J105 rfl
      ·
        replace e103 := iq c31 e103
        replace e103 := Option.some.inj e103
        subst e103
        exact J104 rfl
set_option maxHeartbeats 4000000 in
set_option maxRecDepth 100000 in
theorem ctX9_follows (l : Launch) (g : CtxG) (a1 : Int32) (M : Mem) (r0 : Int32 × Mem) (h : FX9_follows a1 M = some r0) : Ct l (WY g) yX9_follows cX9_follows 4 (some .int) 6 [.ref (wad (WY g) 0), .int a1] M (some (.int r0.1), r0.2) := by
  refine Ct.of (by decide) (Nat.le_of_ble_eq_true rfl) (fun Y hY E => ?_)
  have E : EV Y (WY g) cX9_follows 4 (some .int) RX9 := E
  have h : FX9_follows a1 M = some r0 := h
  unfold FX9_follows at h
  show AW Y (WY g) _ 4 6 0 [(0, .ref (wad (WY g) 0)), (1, .int a1)] [] M
  obtain ⟨r, hr⟩ : ∃ r : Option Value × Mem, r = (some (.int r0.1), r0.2) := ⟨_, rfl⟩
  rw [← hr]
  refine aw_aload_n E dX9_follows_0 0 rfl ?_
  obtain ⟨q1, e2, h⟩ := bd_e h
  refine aw_callVv (S := []) E mvX9_sets mlX9_312 (Nat.le_of_ble_eq_true rfl) rfl rfl rfl (ctX9_sets (yl Y) g   M q1 e2) rfl (Nat.le_of_ble_eq_true rfl) (Nat.le_of_ble_eq_true rfl) dX9_follows_1 ?_
  refine aw_iconst (v := 0) E dX9_follows_4 (by decide) ?_
  refine aw_istore_n (L1 := [(2, .int 0), (0, .ref (wad (WY g) 0)), (1, .int a1)]) E dX9_follows_5 (Nat.le_of_ble_eq_true rfl) rfl ?_
  obtain ⟨q3, e4, h⟩ := bd_e h
  refine aw_sub (L1 := [(0, .ref (wad (WY g) 0)), (1, .int a1), (2, .int 0)]) [1, 2, 0] rfl ?_
  refine lpX9_follows_6 E   a1 FU 0 q1 q3 e4 (fun v5 e6 => ?_) (fun q7 e8 => ?_)
  ·
    subst e6
    replace h := Option.some.inj h
    subst h
    exact hr
  ·
    subst e8
    refine aw_iload_n E dX9_follows_100 0 rfl ?_
    replace h := Option.some.inj h
    subst h
    exact aw_iret E dX9_follows_101 hr
def FX9_force (a1 : Int32) (M : Mem) : Option (Int32 × Mem) :=
  if (FX9_in a1 0 ((M.1 0 14) - 1)) = 0 then
    some ((-2), M)
  else
    lt (α := Int32) (M.1 0 15) fun x1 =>
    lt (wr M 0 15 a1) fun M3 =>
    some (x1, M3)
set_option maxHeartbeats 4000000 in
set_option maxRecDepth 100000 in
theorem ctX9_force (l : Launch) (g : CtxG) (a1 : Int32) (M : Mem) (r0 : Int32 × Mem) (h : FX9_force a1 M = some r0) : Ct l (WY g) yX9_force cX9_force 3 (some .int) 2 [.ref (wad (WY g) 0), .int a1] M (some (.int r0.1), r0.2) := by
  refine Ct.of (by decide) (Nat.le_of_ble_eq_true rfl) (fun Y hY E => ?_)
  have E : EV Y (WY g) cX9_force 3 (some .int) RX9 := E
  have h : FX9_force a1 M = some r0 := h
  unfold FX9_force at h
  show AW Y (WY g) _ 3 2 0 [(0, .ref (wad (WY g) 0)), (1, .int a1)] [] M
  obtain ⟨r, hr⟩ : ∃ r : Option Value × Mem, r = (some (.int r0.1), r0.2) := ⟨_, rfl⟩
  rw [← hr]
  refine aw_iload_n E dX9_force_0 1 rfl ?_
  refine aw_iconst (v := 0) E dX9_force_1 (by decide) ?_
  refine aw_aload_n E dX9_force_2 0 rfl ?_
  refine aw_getI E flX9_108 (Nat.le_of_ble_eq_true rfl) rfl rfl dX9_force_3 ?_
  refine aw_iconst (v := 1) E dX9_force_6 (by decide) ?_
  refine aw_isub E dX9_force_7 ?_
  refine aw_callSi (S := []) E msX9_in mlX9_88 rfl (ctX9_in (yl Y) g a1 0 ((M.1 0 14) - 1)  M ) rfl (Nat.le_of_ble_eq_true rfl) (Nat.le_of_ble_eq_true rfl) dX9_force_8 ?_
  refine aw_if_ne (tgt := 17) E dX9_force_11 rfl (fun c11 => ?_) (fun c11 => ?_)
  ·
    replace h := iq c11 h
    refine aw_aload_n E dX9_force_17 0 rfl ?_
    refine aw_getI E flX9_111 (Nat.le_of_ble_eq_true rfl) rfl rfl dX9_force_18 ?_
    obtain ⟨x1, e2, h⟩ := lt_e h
    refine aw_nmI e2 ?_
    refine aw_istore_n (L1 := [(2, .int x1), (0, .ref (wad (WY g) 0)), (1, .int a1)]) E dX9_force_21 (Nat.le_of_ble_eq_true rfl) rfl ?_
    refine aw_aload_n E dX9_force_22 1 rfl ?_
    refine aw_iload_n E dX9_force_23 2 rfl ?_
    obtain ⟨M3, e4, h⟩ := lt_e h
    refine aw_putI1 e4 E flX9_111 (Nat.le_of_ble_eq_true rfl) rfl rfl nr_int dX9_force_24 ?_
    refine aw_iload_n E dX9_force_27 0 rfl ?_
    replace h := Option.some.inj h
    subst h
    exact aw_iret E dX9_force_28 hr
  ·
    replace h := ip c11 h
    refine aw_bipush (v := (-2)) E dX9_force_14 (by decide) ?_
    replace h := Option.some.inj h
    subst h
    exact aw_iret E dX9_force_16 hr
def FX9_gap (a1 : Int32) (M : Mem) : Option (Int32 × Mem) :=
  ob (FX9_isOther a1 M) fun q1 =>
  if q1 = 0 then
    some ((-5), M)
  else
    ob (FX9_finds ((1 : Int32) <<< (a1 &&& 31)) (-1) M) fun q3 =>
    lt (α := Int32) (if q3.1 = 0 then
      (-1)
    else
      q3.2.1 0 45) fun q5 =>
    ob (FX9_finds ((1 : Int32) <<< (a1 &&& 31)) a1 q3.2) fun q8 =>
    lt (α := Int32) (if q8.1 = 0 then
      (-1)
    else
      q8.2.1 0 45) fun q10 =>
    lt (α := Bool) (if q5 = (-1) then true else if q10 = (-1) then true else false) fun b13 =>
    if b13 = true then
      some ((-1), q8.2)
    else
      some (q10 - q5, q8.2)
set_option maxHeartbeats 4000000 in
set_option maxRecDepth 100000 in
theorem ctX9_gap (l : Launch) (g : CtxG) (a1 : Int32) (M : Mem) (r0 : Int32 × Mem) (h : FX9_gap a1 M = some r0) : Ct l (WY g) yX9_gap cX9_gap 4 (some .int) 6 [.ref (wad (WY g) 0), .int a1] M (some (.int r0.1), r0.2) := by
  refine Ct.of (by decide) (Nat.le_of_ble_eq_true rfl) (fun Y hY E => ?_)
  have E : EV Y (WY g) cX9_gap 4 (some .int) RX9 := E
  have h : FX9_gap a1 M = some r0 := h
  unfold FX9_gap at h
  show AW Y (WY g) _ 4 6 0 [(0, .ref (wad (WY g) 0)), (1, .int a1)] [] M
  obtain ⟨r, hr⟩ : ∃ r : Option Value × Mem, r = (some (.int r0.1), r0.2) := ⟨_, rfl⟩
  rw [← hr]
  refine aw_aload_n E dX9_gap_0 0 rfl ?_
  refine aw_iload_n E dX9_gap_1 1 rfl ?_
  obtain ⟨q1, e2, h⟩ := bd_e h
  refine aw_callVi (S := []) E mvX9_isOther mlX9_257 (Nat.le_of_ble_eq_true rfl) rfl rfl rfl (ctX9_isOther (yl Y) g a1  M q1 e2) rfl (Nat.le_of_ble_eq_true rfl) (Nat.le_of_ble_eq_true rfl) dX9_gap_2 ?_
  refine aw_if_ne (tgt := 11) E dX9_gap_5 rfl (fun c5 => ?_) (fun c5 => ?_)
  ·
    replace h := iq c5 h
    refine aw_aload_n E dX9_gap_11 0 rfl ?_
    refine aw_iconst (v := 1) E dX9_gap_12 (by decide) ?_
    refine aw_iload_n E dX9_gap_13 1 rfl ?_
    refine aw_ishl E dX9_gap_14 ?_
    refine aw_iconst (v := (-1)) E dX9_gap_15 (by decide) ?_
    obtain ⟨q3, e4, h⟩ := bd_e h
    refine aw_callVi (S := []) E mvX9_finds mlX9_260 (Nat.le_of_ble_eq_true rfl) rfl rfl rfl (ctX9_finds (yl Y) g ((1 : Int32) <<< (a1 &&& 31)) (-1)  M q3 e4) rfl (Nat.le_of_ble_eq_true rfl) (Nat.le_of_ble_eq_true rfl) dX9_gap_16 ?_
    obtain ⟨q5, e6, h⟩ := lt_e h
    have J7 : AW Y (WY g) r 4 6 30 [(0, .ref (wad (WY g) 0)), (1, .int a1)] [.int q5] q3.2 := by
      refine aw_istore_n (L1 := [(2, .int q5), (0, .ref (wad (WY g) 0)), (1, .int a1)]) E dX9_gap_30 (Nat.le_of_ble_eq_true rfl) rfl ?_
      refine aw_aload_n E dX9_gap_31 1 rfl ?_
      refine aw_iconst (v := 1) E dX9_gap_32 (by decide) ?_
      refine aw_iload_n E dX9_gap_33 2 rfl ?_
      refine aw_ishl E dX9_gap_34 ?_
      refine aw_iload_n E dX9_gap_35 2 rfl ?_
      obtain ⟨q8, e9, h⟩ := bd_e h
      refine aw_callVi (S := []) E mvX9_finds mlX9_260 (Nat.le_of_ble_eq_true rfl) rfl rfl rfl (ctX9_finds (yl Y) g ((1 : Int32) <<< (a1 &&& 31)) a1  q3.2 q8 e9) rfl (Nat.le_of_ble_eq_true rfl) (Nat.le_of_ble_eq_true rfl) dX9_gap_36 ?_
      obtain ⟨q10, e11, h⟩ := lt_e h
      have J12 : AW Y (WY g) r 4 6 50 [(2, .int q5)] [.int q10] q8.2 := by
        refine aw_istore_n (L1 := [(3, .int q10), (2, .int q5)]) E dX9_gap_50 (Nat.le_of_ble_eq_true rfl) rfl ?_
        refine aw_iload_n E dX9_gap_51 1 rfl ?_
        refine aw_iconst (v := (-1)) E dX9_gap_52 (by decide) ?_
        obtain ⟨b13, e14, h⟩ := lt_e h
        have J15 : b13 = true → AW Y (WY g) r 4 6 61 [(3, .int q10), (2, .int q5)] [] q8.2 := fun hb => by
          replace h := ip hb h
          refine aw_iconst (v := (-1)) E dX9_gap_61 (by decide) ?_
          refine aw_goto (tgt := 68) E dX9_gap_62 rfl ?_
          replace h := Option.some.inj h
          subst h
          exact aw_iret E dX9_gap_68 hr
        have J16 : b13 = false → AW Y (WY g) r 4 6 65 [(3, .int q10), (2, .int q5)] [] q8.2 := fun hb => by
          replace h := iq (bf hb) h
          refine aw_iload_n E dX9_gap_65 0 rfl ?_
          refine aw_iload_n E dX9_gap_66 1 rfl ?_
          refine aw_isub E dX9_gap_67 ?_
          replace h := Option.some.inj h
          subst h
          exact aw_iret E dX9_gap_68 hr
        refine aw_icmp_eq (tgt := 61) E dX9_gap_53 rfl (fun c53 => ?_) (fun c53 => ?_)
        ·
          replace e14 := ip c53 e14
          subst e14
          exact J15 rfl
        ·
          replace e14 := iq c53 e14
          refine aw_iload_n E dX9_gap_56 0 rfl ?_
          refine aw_iconst (v := (-1)) E dX9_gap_57 (by decide) ?_
          refine aw_icmp_ne (tgt := 65) E dX9_gap_58 rfl (fun c58 => ?_) (fun c58 => ?_)
          ·
            replace e14 := iq c58 e14
            subst e14
            exact J16 rfl
          ·
            replace e14 := ip c58 e14
            subst e14
            exact J15 rfl
      refine aw_if_eq (tgt := 49) E dX9_gap_39 rfl (fun c39 => ?_) (fun c39 => ?_)
      ·
        replace e11 := ip c39 e11
        refine aw_iconst (v := (-1)) E dX9_gap_49 (by decide) ?_
        refine aw_sub (L1 := [(2, .int q5)]) [0] rfl ?_
        subst e11
        exact J12
      ·
        replace e11 := iq c39 e11
        refine aw_aload_n E dX9_gap_42 1 rfl ?_
        refine aw_getI E flX9_251 (Nat.le_of_ble_eq_true rfl) rfl rfl dX9_gap_43 ?_
        refine aw_goto (tgt := 50) E dX9_gap_46 rfl ?_
        refine aw_sub (L1 := [(2, .int q5)]) [0] rfl ?_
        subst e11
        exact J12
    refine aw_if_eq (tgt := 29) E dX9_gap_19 rfl (fun c19 => ?_) (fun c19 => ?_)
    ·
      replace e6 := ip c19 e6
      refine aw_iconst (v := (-1)) E dX9_gap_29 (by decide) ?_
      refine aw_sub (L1 := [(0, .ref (wad (WY g) 0)), (1, .int a1)]) [0, 1] rfl ?_
      subst e6
      exact J7
    ·
      replace e6 := iq c19 e6
      refine aw_aload_n E dX9_gap_22 0 rfl ?_
      refine aw_getI E flX9_251 (Nat.le_of_ble_eq_true rfl) rfl rfl dX9_gap_23 ?_
      refine aw_goto (tgt := 30) E dX9_gap_26 rfl ?_
      refine aw_sub (L1 := [(0, .ref (wad (WY g) 0)), (1, .int a1)]) [0, 1] rfl ?_
      subst e6
      exact J7
  ·
    replace h := ip c5 h
    refine aw_bipush (v := (-5)) E dX9_gap_8 (by decide) ?_
    replace h := Option.some.inj h
    subst h
    exact aw_iret E dX9_gap_10 hr
def FX9_gone (a1 : Int32) (M : Mem) : Option (Int32 × Mem) :=
  if (FX9_in a1 0 (((1 : Int32) <<< ((M.1 0 3) &&& 31)) - 1)) = 0 then
    some ((-2), M)
  else
    lt (α := Int32) (M.1 0 9) fun x1 =>
    lt (wr M 0 9 a1) fun M3 =>
    some (x1, M3)
set_option maxHeartbeats 4000000 in
set_option maxRecDepth 100000 in
theorem ctX9_gone (l : Launch) (g : CtxG) (a1 : Int32) (M : Mem) (r0 : Int32 × Mem) (h : FX9_gone a1 M = some r0) : Ct l (WY g) yX9_gone cX9_gone 3 (some .int) 2 [.ref (wad (WY g) 0), .int a1] M (some (.int r0.1), r0.2) := by
  refine Ct.of (by decide) (Nat.le_of_ble_eq_true rfl) (fun Y hY E => ?_)
  have E : EV Y (WY g) cX9_gone 3 (some .int) RX9 := E
  have h : FX9_gone a1 M = some r0 := h
  unfold FX9_gone at h
  show AW Y (WY g) _ 3 2 0 [(0, .ref (wad (WY g) 0)), (1, .int a1)] [] M
  obtain ⟨r, hr⟩ : ∃ r : Option Value × Mem, r = (some (.int r0.1), r0.2) := ⟨_, rfl⟩
  rw [← hr]
  refine aw_iload_n E dX9_gone_0 1 rfl ?_
  refine aw_iconst (v := 0) E dX9_gone_1 (by decide) ?_
  refine aw_iconst (v := 1) E dX9_gone_2 (by decide) ?_
  refine aw_aload_n E dX9_gone_3 0 rfl ?_
  refine aw_getI E flX9_92 (Nat.le_of_ble_eq_true rfl) rfl rfl dX9_gone_4 ?_
  refine aw_ishl E dX9_gone_7 ?_
  refine aw_iconst (v := 1) E dX9_gone_8 (by decide) ?_
  refine aw_isub E dX9_gone_9 ?_
  refine aw_callSi (S := []) E msX9_in mlX9_88 rfl (ctX9_in (yl Y) g a1 0 (((1 : Int32) <<< ((M.1 0 3) &&& 31)) - 1)  M ) rfl (Nat.le_of_ble_eq_true rfl) (Nat.le_of_ble_eq_true rfl) dX9_gone_10 ?_
  refine aw_if_ne (tgt := 19) E dX9_gone_13 rfl (fun c13 => ?_) (fun c13 => ?_)
  ·
    replace h := iq c13 h
    refine aw_aload_n E dX9_gone_19 0 rfl ?_
    refine aw_getI E flX9_105 (Nat.le_of_ble_eq_true rfl) rfl rfl dX9_gone_20 ?_
    obtain ⟨x1, e2, h⟩ := lt_e h
    refine aw_nmI e2 ?_
    refine aw_istore_n (L1 := [(2, .int x1), (0, .ref (wad (WY g) 0)), (1, .int a1)]) E dX9_gone_23 (Nat.le_of_ble_eq_true rfl) rfl ?_
    refine aw_aload_n E dX9_gone_24 1 rfl ?_
    refine aw_iload_n E dX9_gone_25 2 rfl ?_
    obtain ⟨M3, e4, h⟩ := lt_e h
    refine aw_putI1 e4 E flX9_105 (Nat.le_of_ble_eq_true rfl) rfl rfl nr_int dX9_gone_26 ?_
    refine aw_iload_n E dX9_gone_29 0 rfl ?_
    replace h := Option.some.inj h
    subst h
    exact aw_iret E dX9_gone_30 hr
  ·
    replace h := ip c13 h
    refine aw_bipush (v := (-2)) E dX9_gone_16 (by decide) ?_
    replace h := Option.some.inj h
    subst h
    exact aw_iret E dX9_gone_18 hr
def FX9_heavy (a1 : Int32) (a2 : Int32) (M : Mem) : Option (Int32 × Mem) :=
  ob (FX9_isOther a1 M) fun q1 =>
  if q1 = 0 then
    some ((-5), M)
  else
    if (FX9_in a2 0 3) = 0 then
      some ((-7), M)
    else
      ob (FX9_finds ((1 : Int32) <<< (a1 &&& 31)) a1 M) fun q3 =>
      ob (FX9_told4 q3.1 a2 q3.2) fun q5 =>
      some (q5, q3.2)
set_option maxHeartbeats 4000000 in
set_option maxRecDepth 100000 in
theorem ctX9_heavy (l : Launch) (g : CtxG) (a1 : Int32) (a2 : Int32) (M : Mem) (r0 : Int32 × Mem) (h : FX9_heavy a1 a2 M = some r0) : Ct l (WY g) yX9_heavy cX9_heavy 3 (some .int) 6 [.ref (wad (WY g) 0), .int a1, .int a2] M (some (.int r0.1), r0.2) := by
  refine Ct.of (by decide) (Nat.le_of_ble_eq_true rfl) (fun Y hY E => ?_)
  have E : EV Y (WY g) cX9_heavy 3 (some .int) RX9 := E
  have h : FX9_heavy a1 a2 M = some r0 := h
  unfold FX9_heavy at h
  show AW Y (WY g) _ 3 6 0 [(0, .ref (wad (WY g) 0)), (1, .int a1), (2, .int a2)] [] M
  obtain ⟨r, hr⟩ : ∃ r : Option Value × Mem, r = (some (.int r0.1), r0.2) := ⟨_, rfl⟩
  rw [← hr]
  refine aw_aload_n E dX9_heavy_0 0 rfl ?_
  refine aw_iload_n E dX9_heavy_1 1 rfl ?_
  obtain ⟨q1, e2, h⟩ := bd_e h
  refine aw_callVi (S := []) E mvX9_isOther mlX9_257 (Nat.le_of_ble_eq_true rfl) rfl rfl rfl (ctX9_isOther (yl Y) g a1  M q1 e2) rfl (Nat.le_of_ble_eq_true rfl) (Nat.le_of_ble_eq_true rfl) dX9_heavy_2 ?_
  refine aw_if_ne (tgt := 11) E dX9_heavy_5 rfl (fun c5 => ?_) (fun c5 => ?_)
  ·
    replace h := iq c5 h
    refine aw_iload_n E dX9_heavy_11 2 rfl ?_
    refine aw_iconst (v := 0) E dX9_heavy_12 (by decide) ?_
    refine aw_iconst (v := 3) E dX9_heavy_13 (by decide) ?_
    refine aw_callSi (S := []) E msX9_in mlX9_88 rfl (ctX9_in (yl Y) g a2 0 3  M ) rfl (Nat.le_of_ble_eq_true rfl) (Nat.le_of_ble_eq_true rfl) dX9_heavy_14 ?_
    refine aw_if_eq (tgt := 36) E dX9_heavy_17 rfl (fun c17 => ?_) (fun c17 => ?_)
    ·
      replace h := ip c17 h
      refine aw_bipush (v := (-7)) E dX9_heavy_36 (by decide) ?_
      replace h := Option.some.inj h
      subst h
      exact aw_iret E dX9_heavy_38 hr
    ·
      replace h := iq c17 h
      refine aw_aload_n E dX9_heavy_20 0 rfl ?_
      refine aw_aload_n E dX9_heavy_21 0 rfl ?_
      refine aw_iconst (v := 1) E dX9_heavy_22 (by decide) ?_
      refine aw_iload_n E dX9_heavy_23 1 rfl ?_
      refine aw_ishl E dX9_heavy_24 ?_
      refine aw_iload_n E dX9_heavy_25 1 rfl ?_
      obtain ⟨q3, e4, h⟩ := bd_e h
      refine aw_callVi (S := [.ref (wad (WY g) 0)]) E mvX9_finds mlX9_260 (Nat.le_of_ble_eq_true rfl) rfl rfl rfl (ctX9_finds (yl Y) g ((1 : Int32) <<< (a1 &&& 31)) a1  M q3 e4) rfl (Nat.le_of_ble_eq_true rfl) (Nat.le_of_ble_eq_true rfl) dX9_heavy_26 ?_
      refine aw_iload_n E dX9_heavy_29 2 rfl ?_
      obtain ⟨q5, e6, h⟩ := bd_e h
      refine aw_callVi (S := []) E mvX9_told4 mlX9_263 (Nat.le_of_ble_eq_true rfl) rfl rfl rfl (ctX9_told4 (yl Y) g q3.1 a2  q3.2 q5 e6) rfl (Nat.le_of_ble_eq_true rfl) (Nat.le_of_ble_eq_true rfl) dX9_heavy_30 ?_
      refine aw_goto (tgt := 38) E dX9_heavy_33 rfl ?_
      replace h := Option.some.inj h
      subst h
      exact aw_iret E dX9_heavy_38 hr
  ·
    replace h := ip c5 h
    refine aw_bipush (v := (-5)) E dX9_heavy_8 (by decide) ?_
    replace h := Option.some.inj h
    subst h
    exact aw_iret E dX9_heavy_10 hr
def FX9_hours_L40 : Nat → Int32 → Int32 → Int32 → Int32 → Int32 → Mem → Option (Int32 × Int32 × Mem)
  | 0, _, _, _, _, _, _ => none
  | f + 1, p1, p4, p5, p6, p7, M =>
    if 24 ≤ p7 then
      some (p4, p5, M)
    else
      lt (wr M 0 1 p7) fun M101 =>
      ob (FX9_looks 0 M101) fun q103 =>
      ob (FX9_forward q103) fun q105 =>
      ob (FX9_fewest ((1 : Int32) <<< (p1 &&& 31)) q105) fun q107 =>
      lt (α := Int32) (if q107 = (-1) then
        0
      else
        (1 : Int32) <<< (p7 &&& 31)) fun q109 =>
      lt (α := Int32) (p4 ||| q109) fun x112 =>
      if q107 = (-1) then
        lt (α := Int32) (p7 + 1) fun x114 =>
        FX9_hours_L40 f p1 x112 p5 p6 x114 q105
      else
        lt (α := Bool) (if p5 = (-1) then true else if p6 ≤ q107 then false else true) fun b116 =>
        if b116 = true then
          lt (α := Int32) (p7 + 1) fun x120 =>
          FX9_hours_L40 f p1 x112 p7 q107 x120 q105
        else
          lt (α := Int32) (p7 + 1) fun x122 =>
          FX9_hours_L40 f p1 x112 p5 p6 x122 q105
def FX9_hours (a1 : Int32) (a2 : Int32) (M : Mem) : Option (Int32 × Mem) :=
  ob (FX9_isOther a1 M) fun q1 =>
  if q1 = 0 then
    some ((-5), M)
  else
    if (FX9_in a2 0 1) = 0 then
      some ((-7), M)
    else
      lt (α := Int32) (M.1 0 1) fun x3 =>
      ob (FX9_hours_L40 FU a1 0 (-1) 0 0 M) fun q5 =>
      lt (wr q5.2.2 0 1 x3) fun M7 =>
      if a2 = 0 then
        some (q5.1, M7)
      else
        some (q5.2.1, M7)
set_option maxHeartbeats 4000000 in
set_option maxRecDepth 100000 in
theorem lpX9_hours_40 {Y : CtxM} {g : CtxG} {r : Option Value × Mem} (E : EV Y (WY g) cX9_hours 9 (some .int) RX9) (p1 : Int32) (p2 : Int32) (p3 : Int32) : ∀ (f : Nat) (p4 : Int32) (p5 : Int32) (p6 : Int32) (p7 : Int32) (M : Mem) (q : Int32 × Int32 × Mem), FX9_hours_L40 f p1 p4 p5 p6 p7 M = some q → AW Y (WY g) r 9 5 123 [(0, .ref (wad (WY g) 0)), (2, .int p2), (3, .int p3), (4, .int q.1), (5, .int q.2.1)] [] q.2.2 → AW Y (WY g) r 9 5 40 [(0, .ref (wad (WY g) 0)), (1, .int p1), (2, .int p2), (3, .int p3), (4, .int p4), (5, .int p5), (6, .int p6), (7, .int p7)] [] M := by
  intro f
  induction f with
  | zero => intro p4 p5 p6 p7 M q hh; exact absurd hh (fun z => nomatch (show (none : Option (Int32 × Int32 × Mem)) = some q from z))
  | succ f ih =>
    intro p4 p5 p6 p7 M q hh kx
    rw [FX9_hours_L40] at hh
    refine aw_iload E dX9_hours_40 7 rfl ?_
    refine aw_bipush (v := 24) E dX9_hours_42 (by decide) ?_
    refine aw_icmp_ge (tgt := 123) E dX9_hours_44 rfl (fun c44 => ?_) (fun c44 => ?_)
    ·
      replace hh := ip c44 hh
      refine aw_sub (L1 := [(0, .ref (wad (WY g) 0)), (2, .int p2), (3, .int p3), (4, .int p4), (5, .int p5)]) [0, 2, 3, 4, 5] rfl ?_
      replace hh := Option.some.inj hh
      subst hh
      exact kx
    ·
      replace hh := iq c44 hh
      refine aw_aload_n E dX9_hours_47 0 rfl ?_
      refine aw_iload E dX9_hours_48 7 rfl ?_
      obtain ⟨M101, e102, hh⟩ := lt_e hh
      refine aw_putI1 e102 E flX9_7 (Nat.le_of_ble_eq_true rfl) rfl rfl nr_int dX9_hours_50 ?_
      refine aw_aload_n E dX9_hours_53 0 rfl ?_
      refine aw_iconst (v := 0) E dX9_hours_54 (by decide) ?_
      obtain ⟨q103, e104, hh⟩ := bd_e hh
      refine aw_callVv (S := []) E mvX9_looks mlX9_241 (Nat.le_of_ble_eq_true rfl) rfl rfl rfl (ctX9_looks (yl Y) g 0  M101 q103 e104) rfl (Nat.le_of_ble_eq_true rfl) (Nat.le_of_ble_eq_true rfl) dX9_hours_55 ?_
      refine aw_aload_n E dX9_hours_58 0 rfl ?_
      obtain ⟨q105, e106, hh⟩ := bd_e hh
      refine aw_callVv (S := []) E mvX9_forward mlX9_267 (Nat.le_of_ble_eq_true rfl) rfl rfl rfl (ctX9_forward (yl Y) g   q103 q105 e106) rfl (Nat.le_of_ble_eq_true rfl) (Nat.le_of_ble_eq_true rfl) dX9_hours_59 ?_
      refine aw_aload_n E dX9_hours_62 0 rfl ?_
      refine aw_iconst (v := 1) E dX9_hours_63 (by decide) ?_
      refine aw_iload_n E dX9_hours_64 1 rfl ?_
      refine aw_ishl E dX9_hours_65 ?_
      obtain ⟨q107, e108, hh⟩ := bd_e hh
      refine aw_callVi (S := []) E mvX9_fewest mlX9_273 (Nat.le_of_ble_eq_true rfl) rfl rfl rfl (ctX9_fewest (yl Y) g ((1 : Int32) <<< (p1 &&& 31))  q105 q107 e108) rfl (Nat.le_of_ble_eq_true rfl) (Nat.le_of_ble_eq_true rfl) dX9_hours_66 ?_
      refine aw_istore (L1 := [(8, .int q107), (0, .ref (wad (WY g) 0)), (1, .int p1), (2, .int p2), (3, .int p3), (4, .int p4), (5, .int p5), (6, .int p6), (7, .int p7)]) E dX9_hours_69 (Nat.le_of_ble_eq_true rfl) rfl ?_
      refine aw_iload E dX9_hours_71 5 rfl ?_
      refine aw_iload E dX9_hours_73 0 rfl ?_
      refine aw_iconst (v := (-1)) E dX9_hours_75 (by decide) ?_
      obtain ⟨q109, e110, hh⟩ := lt_e hh
      have J111 : AW Y (WY g) r 9 5 87 [(0, .ref (wad (WY g) 0)), (1, .int p1), (2, .int p2), (3, .int p3), (5, .int p5), (6, .int p6), (7, .int p7), (8, .int q107)] [.int q109, .int p4] q105 := by
        refine aw_ior E dX9_hours_87 ?_
        obtain ⟨x112, e113, hh⟩ := lt_e hh
        refine aw_nmI e113 ?_
        refine aw_istore (L1 := [(4, .int x112), (0, .ref (wad (WY g) 0)), (1, .int p1), (2, .int p2), (3, .int p3), (5, .int p5), (6, .int p6), (7, .int p7), (8, .int q107)]) E dX9_hours_88 (Nat.le_of_ble_eq_true rfl) rfl ?_
        refine aw_iload E dX9_hours_90 8 rfl ?_
        refine aw_iconst (v := (-1)) E dX9_hours_92 (by decide) ?_
        refine aw_icmp_eq (tgt := 117) E dX9_hours_93 rfl (fun c93 => ?_) (fun c93 => ?_)
        ·
          replace hh := ip c93 hh
          obtain ⟨x114, e115, hh⟩ := lt_e hh
          refine aw_iinc (v := x114) (L1 := [(7, .int x114), (4, .int x112), (0, .ref (wad (WY g) 0)), (1, .int p1), (2, .int p2), (3, .int p3), (5, .int p5), (6, .int p6), (8, .int q107)]) E dX9_hours_117 7 rfl e115 (Nat.le_of_ble_eq_true rfl) rfl ?_
          refine aw_goto (tgt := 40) E dX9_hours_120 rfl ?_
          refine aw_sub (L1 := [(0, .ref (wad (WY g) 0)), (1, .int p1), (2, .int p2), (3, .int p3), (4, .int x112), (5, .int p5), (6, .int p6), (7, .int x114)]) [2, 3, 4, 5, 1, 6, 7, 0] rfl ?_
          exact ih x112 p5 p6 x114 q105 _ hh kx
        ·
          replace hh := iq c93 hh
          refine aw_iload E dX9_hours_96 5 rfl ?_
          refine aw_iconst (v := (-1)) E dX9_hours_98 (by decide) ?_
          obtain ⟨b116, e117, hh⟩ := lt_e hh
          have J118 : b116 = true → AW Y (WY g) r 9 5 109 [(4, .int x112), (0, .ref (wad (WY g) 0)), (1, .int p1), (2, .int p2), (3, .int p3), (5, .int p5), (6, .int p6), (7, .int p7), (8, .int q107)] [] q105 := fun hb => by
            replace hh := ip hb hh
            refine aw_iload E dX9_hours_109 7 rfl ?_
            refine aw_istore (L1 := [(5, .int p7), (4, .int x112), (0, .ref (wad (WY g) 0)), (1, .int p1), (2, .int p2), (3, .int p3), (6, .int p6), (7, .int p7), (8, .int q107)]) E dX9_hours_111 (Nat.le_of_ble_eq_true rfl) rfl ?_
            refine aw_iload E dX9_hours_113 8 rfl ?_
            refine aw_istore (L1 := [(6, .int q107), (5, .int p7), (4, .int x112), (0, .ref (wad (WY g) 0)), (1, .int p1), (2, .int p2), (3, .int p3), (7, .int p7), (8, .int q107)]) E dX9_hours_115 (Nat.le_of_ble_eq_true rfl) rfl ?_
            obtain ⟨x120, e121, hh⟩ := lt_e hh
            refine aw_iinc (v := x120) (L1 := [(7, .int x120), (6, .int q107), (5, .int p7), (4, .int x112), (0, .ref (wad (WY g) 0)), (1, .int p1), (2, .int p2), (3, .int p3), (8, .int q107)]) E dX9_hours_117 7 rfl e121 (Nat.le_of_ble_eq_true rfl) rfl ?_
            refine aw_goto (tgt := 40) E dX9_hours_120 rfl ?_
            refine aw_sub (L1 := [(0, .ref (wad (WY g) 0)), (1, .int p1), (2, .int p2), (3, .int p3), (4, .int x112), (5, .int p7), (6, .int q107), (7, .int x120)]) [4, 5, 6, 7, 3, 2, 1, 0] rfl ?_
            exact ih x112 p7 q107 x120 q105 _ hh kx
          have J119 : b116 = false → AW Y (WY g) r 9 5 117 [(4, .int x112), (0, .ref (wad (WY g) 0)), (1, .int p1), (2, .int p2), (3, .int p3), (5, .int p5), (6, .int p6), (7, .int p7), (8, .int q107)] [] q105 := fun hb => by
            replace hh := iq (bf hb) hh
            obtain ⟨x122, e123, hh⟩ := lt_e hh
            refine aw_iinc (v := x122) (L1 := [(7, .int x122), (4, .int x112), (0, .ref (wad (WY g) 0)), (1, .int p1), (2, .int p2), (3, .int p3), (5, .int p5), (6, .int p6), (8, .int q107)]) E dX9_hours_117 7 rfl e123 (Nat.le_of_ble_eq_true rfl) rfl ?_
            refine aw_goto (tgt := 40) E dX9_hours_120 rfl ?_
            refine aw_sub (L1 := [(0, .ref (wad (WY g) 0)), (1, .int p1), (2, .int p2), (3, .int p3), (4, .int x112), (5, .int p5), (6, .int p6), (7, .int x122)]) [2, 3, 4, 5, 1, 6, 7, 0] rfl ?_
            exact ih x112 p5 p6 x122 q105 _ hh kx
          refine aw_icmp_eq (tgt := 109) E dX9_hours_99 rfl (fun c99 => ?_) (fun c99 => ?_)
          ·
            replace e117 := ip c99 e117
            subst e117
            exact J118 rfl
          ·
            replace e117 := iq c99 e117
            refine aw_iload E dX9_hours_102 8 rfl ?_
            refine aw_iload E dX9_hours_104 6 rfl ?_
            refine aw_icmp_ge (tgt := 117) E dX9_hours_106 rfl (fun c106 => ?_) (fun c106 => ?_)
            ·
              replace e117 := ip c106 e117
              subst e117
              exact J119 rfl
            ·
              replace e117 := iq c106 e117
              subst e117
              exact J118 rfl
      refine aw_icmp_ne (tgt := 83) E dX9_hours_76 rfl (fun c76 => ?_) (fun c76 => ?_)
      ·
        replace e110 := iq c76 e110
        refine aw_iconst (v := 1) E dX9_hours_83 (by decide) ?_
        refine aw_iload E dX9_hours_84 8 rfl ?_
        refine aw_ishl E dX9_hours_86 ?_
        refine aw_sub (L1 := [(0, .ref (wad (WY g) 0)), (1, .int p1), (2, .int p2), (3, .int p3), (5, .int p5), (6, .int p6), (7, .int p7), (8, .int q107)]) [1, 2, 3, 4, 6, 7, 8, 0] rfl ?_
        subst e110
        exact J111
      ·
        replace e110 := ip c76 e110
        refine aw_iconst (v := 0) E dX9_hours_79 (by decide) ?_
        refine aw_goto (tgt := 87) E dX9_hours_80 rfl ?_
        refine aw_sub (L1 := [(0, .ref (wad (WY g) 0)), (1, .int p1), (2, .int p2), (3, .int p3), (5, .int p5), (6, .int p6), (7, .int p7), (8, .int q107)]) [1, 2, 3, 4, 6, 7, 8, 0] rfl ?_
        subst e110
        exact J111
set_option maxHeartbeats 4000000 in
set_option maxRecDepth 100000 in
theorem ctX9_hours (l : Launch) (g : CtxG) (a1 : Int32) (a2 : Int32) (M : Mem) (r0 : Int32 × Mem) (h : FX9_hours a1 a2 M = some r0) : Ct l (WY g) yX9_hours cX9_hours 9 (some .int) 5 [.ref (wad (WY g) 0), .int a1, .int a2] M (some (.int r0.1), r0.2) := by
  refine Ct.of (by decide) (Nat.le_of_ble_eq_true rfl) (fun Y hY E => ?_)
  have E : EV Y (WY g) cX9_hours 9 (some .int) RX9 := E
  have h : FX9_hours a1 a2 M = some r0 := h
  unfold FX9_hours at h
  show AW Y (WY g) _ 9 5 0 [(0, .ref (wad (WY g) 0)), (1, .int a1), (2, .int a2)] [] M
  obtain ⟨r, hr⟩ : ∃ r : Option Value × Mem, r = (some (.int r0.1), r0.2) := ⟨_, rfl⟩
  rw [← hr]
  refine aw_aload_n E dX9_hours_0 0 rfl ?_
  refine aw_iload_n E dX9_hours_1 1 rfl ?_
  obtain ⟨q1, e2, h⟩ := bd_e h
  refine aw_callVi (S := []) E mvX9_isOther mlX9_257 (Nat.le_of_ble_eq_true rfl) rfl rfl rfl (ctX9_isOther (yl Y) g a1  M q1 e2) rfl (Nat.le_of_ble_eq_true rfl) (Nat.le_of_ble_eq_true rfl) dX9_hours_2 ?_
  refine aw_if_ne (tgt := 11) E dX9_hours_5 rfl (fun c5 => ?_) (fun c5 => ?_)
  ·
    replace h := iq c5 h
    refine aw_iload_n E dX9_hours_11 2 rfl ?_
    refine aw_iconst (v := 0) E dX9_hours_12 (by decide) ?_
    refine aw_iconst (v := 1) E dX9_hours_13 (by decide) ?_
    refine aw_callSi (S := []) E msX9_in mlX9_88 rfl (ctX9_in (yl Y) g a2 0 1  M ) rfl (Nat.le_of_ble_eq_true rfl) (Nat.le_of_ble_eq_true rfl) dX9_hours_14 ?_
    refine aw_if_ne (tgt := 23) E dX9_hours_17 rfl (fun c17 => ?_) (fun c17 => ?_)
    ·
      replace h := iq c17 h
      refine aw_aload_n E dX9_hours_23 0 rfl ?_
      refine aw_getI E flX9_7 (Nat.le_of_ble_eq_true rfl) rfl rfl dX9_hours_24 ?_
      obtain ⟨x3, e4, h⟩ := lt_e h
      refine aw_nmI e4 ?_
      refine aw_istore_n (L1 := [(3, .int x3), (0, .ref (wad (WY g) 0)), (1, .int a1), (2, .int a2)]) E dX9_hours_27 (Nat.le_of_ble_eq_true rfl) rfl ?_
      refine aw_iconst (v := 0) E dX9_hours_28 (by decide) ?_
      refine aw_istore (L1 := [(4, .int 0), (3, .int x3), (0, .ref (wad (WY g) 0)), (1, .int a1), (2, .int a2)]) E dX9_hours_29 (Nat.le_of_ble_eq_true rfl) rfl ?_
      refine aw_iconst (v := (-1)) E dX9_hours_31 (by decide) ?_
      refine aw_istore (L1 := [(5, .int (-1)), (4, .int 0), (3, .int x3), (0, .ref (wad (WY g) 0)), (1, .int a1), (2, .int a2)]) E dX9_hours_32 (Nat.le_of_ble_eq_true rfl) rfl ?_
      refine aw_iconst (v := 0) E dX9_hours_34 (by decide) ?_
      refine aw_istore (L1 := [(6, .int 0), (5, .int (-1)), (4, .int 0), (3, .int x3), (0, .ref (wad (WY g) 0)), (1, .int a1), (2, .int a2)]) E dX9_hours_35 (Nat.le_of_ble_eq_true rfl) rfl ?_
      refine aw_iconst (v := 0) E dX9_hours_37 (by decide) ?_
      refine aw_istore (L1 := [(7, .int 0), (6, .int 0), (5, .int (-1)), (4, .int 0), (3, .int x3), (0, .ref (wad (WY g) 0)), (1, .int a1), (2, .int a2)]) E dX9_hours_38 (Nat.le_of_ble_eq_true rfl) rfl ?_
      obtain ⟨q5, e6, h⟩ := bd_e h
      refine aw_sub (L1 := [(0, .ref (wad (WY g) 0)), (1, .int a1), (2, .int a2), (3, .int x3), (4, .int 0), (5, .int (-1)), (6, .int 0), (7, .int 0)]) [5, 6, 7, 4, 3, 2, 1, 0] rfl ?_
      refine lpX9_hours_40 E   a1 a2 x3 FU 0 (-1) 0 0 M q5 e6 ?_
      refine aw_aload_n E dX9_hours_123 0 rfl ?_
      refine aw_iload_n E dX9_hours_124 2 rfl ?_
      obtain ⟨M7, e8, h⟩ := lt_e h
      refine aw_putI1 e8 E flX9_7 (Nat.le_of_ble_eq_true rfl) rfl rfl nr_int dX9_hours_125 ?_
      refine aw_iload_n E dX9_hours_128 1 rfl ?_
      refine aw_if_ne (tgt := 137) E dX9_hours_129 rfl (fun c129 => ?_) (fun c129 => ?_)
      ·
        replace h := iq c129 h
        refine aw_iload E dX9_hours_137 4 rfl ?_
        replace h := Option.some.inj h
        subst h
        exact aw_iret E dX9_hours_139 hr
      ·
        replace h := ip c129 h
        refine aw_iload E dX9_hours_132 3 rfl ?_
        refine aw_goto (tgt := 139) E dX9_hours_134 rfl ?_
        replace h := Option.some.inj h
        subst h
        exact aw_iret E dX9_hours_139 hr
    ·
      replace h := ip c17 h
      refine aw_bipush (v := (-7)) E dX9_hours_20 (by decide) ?_
      replace h := Option.some.inj h
      subst h
      exact aw_iret E dX9_hours_22 hr
  ·
    replace h := ip c5 h
    refine aw_bipush (v := (-5)) E dX9_hours_8 (by decide) ?_
    replace h := Option.some.inj h
    subst h
    exact aw_iret E dX9_hours_10 hr
def FX9_house_L34 : Nat → Int32 → Int32 → Int32 → Int32 → Mem → Option (Int32 × Int32 × Mem)
  | 0, _, _, _, _, _ => none
  | f + 1, p1, p3, p4, p5, M =>
    if 9 ≤ p5 then
      some (p3, p4, M)
    else
      ob (FX9_allFrom p5 p1 M) fun q101 =>
      if q101.1 = (-1) then
        lt (α := Int32) (p5 + 1) fun x103 =>
        FX9_house_L34 f p1 p3 p4 x103 q101.2
      else
        lt (α := Bool) (if p3 = (-1) then true else if p4 ≤ q101.1 then false else true) fun b105 =>
        if b105 = true then
          lt (α := Int32) (p5 + 1) fun x109 =>
          FX9_house_L34 f p1 p5 q101.1 x109 q101.2
        else
          lt (α := Int32) (p5 + 1) fun x111 =>
          FX9_house_L34 f p1 p3 p4 x111 q101.2
def FX9_house (a1 : Int32) (a2 : Int32) (M : Mem) : Option (Int32 × Mem) :=
  if (FX9_in a1 0 511) = 0 then
    some ((-2), M)
  else
    if (FX9_in a2 0 1) = 0 then
      some ((-7), M)
    else
      ob (FX9_house_L34 FU a1 (-1) (-1) 0 M) fun q1 =>
      if a2 = 0 then
        some (q1.1, q1.2.2)
      else
        some (q1.2.1, q1.2.2)
set_option maxHeartbeats 4000000 in
set_option maxRecDepth 100000 in
theorem lpX9_house_34 {Y : CtxM} {g : CtxG} {r : Option Value × Mem} (E : EV Y (WY g) cX9_house 7 (some .int) RX9) (p1 : Int32) (p2 : Int32) : ∀ (f : Nat) (p3 : Int32) (p4 : Int32) (p5 : Int32) (M : Mem) (q : Int32 × Int32 × Mem), FX9_house_L34 f p1 p3 p4 p5 M = some q → AW Y (WY g) r 7 6 81 [(2, .int p2), (3, .int q.1), (4, .int q.2.1)] [] q.2.2 → AW Y (WY g) r 7 6 34 [(0, .ref (wad (WY g) 0)), (1, .int p1), (2, .int p2), (3, .int p3), (4, .int p4), (5, .int p5)] [] M := by
  intro f
  induction f with
  | zero => intro p3 p4 p5 M q hh; exact absurd hh (fun z => nomatch (show (none : Option (Int32 × Int32 × Mem)) = some q from z))
  | succ f ih =>
    intro p3 p4 p5 M q hh kx
    rw [FX9_house_L34] at hh
    refine aw_iload E dX9_house_34 5 rfl ?_
    refine aw_bipush (v := 9) E dX9_house_36 (by decide) ?_
    refine aw_icmp_ge (tgt := 81) E dX9_house_38 rfl (fun c38 => ?_) (fun c38 => ?_)
    ·
      replace hh := ip c38 hh
      refine aw_sub (L1 := [(2, .int p2), (3, .int p3), (4, .int p4)]) [2, 3, 4] rfl ?_
      replace hh := Option.some.inj hh
      subst hh
      exact kx
    ·
      replace hh := iq c38 hh
      refine aw_aload_n E dX9_house_41 0 rfl ?_
      refine aw_iload E dX9_house_42 5 rfl ?_
      refine aw_iload_n E dX9_house_44 1 rfl ?_
      obtain ⟨q101, e102, hh⟩ := bd_e hh
      refine aw_callVi (S := []) E mvX9_allFrom mlX9_285 (Nat.le_of_ble_eq_true rfl) rfl rfl rfl (ctX9_allFrom (yl Y) g p5 p1  M q101 e102) rfl (Nat.le_of_ble_eq_true rfl) (Nat.le_of_ble_eq_true rfl) dX9_house_45 ?_
      refine aw_istore (L1 := [(6, .int q101.1), (0, .ref (wad (WY g) 0)), (1, .int p1), (2, .int p2), (3, .int p3), (4, .int p4), (5, .int p5)]) E dX9_house_48 (Nat.le_of_ble_eq_true rfl) rfl ?_
      refine aw_iload E dX9_house_50 0 rfl ?_
      refine aw_iconst (v := (-1)) E dX9_house_52 (by decide) ?_
      refine aw_icmp_eq (tgt := 75) E dX9_house_53 rfl (fun c53 => ?_) (fun c53 => ?_)
      ·
        replace hh := ip c53 hh
        obtain ⟨x103, e104, hh⟩ := lt_e hh
        refine aw_iinc (v := x103) (L1 := [(5, .int x103), (6, .int q101.1), (0, .ref (wad (WY g) 0)), (1, .int p1), (2, .int p2), (3, .int p3), (4, .int p4)]) E dX9_house_75 6 rfl e104 (Nat.le_of_ble_eq_true rfl) rfl ?_
        refine aw_goto (tgt := 34) E dX9_house_78 rfl ?_
        refine aw_sub (L1 := [(0, .ref (wad (WY g) 0)), (1, .int p1), (2, .int p2), (3, .int p3), (4, .int p4), (5, .int x103)]) [2, 3, 4, 5, 6, 0] rfl ?_
        exact ih p3 p4 x103 q101.2 _ hh kx
      ·
        replace hh := iq c53 hh
        refine aw_iload_n E dX9_house_56 4 rfl ?_
        refine aw_iconst (v := (-1)) E dX9_house_57 (by decide) ?_
        obtain ⟨b105, e106, hh⟩ := lt_e hh
        have J107 : b105 = true → AW Y (WY g) r 7 6 68 [(6, .int q101.1), (0, .ref (wad (WY g) 0)), (1, .int p1), (2, .int p2), (3, .int p3), (4, .int p4), (5, .int p5)] [] q101.2 := fun hb => by
          replace hh := ip hb hh
          refine aw_iload E dX9_house_68 6 rfl ?_
          refine aw_istore_n (L1 := [(3, .int p5), (6, .int q101.1), (0, .ref (wad (WY g) 0)), (1, .int p1), (2, .int p2), (4, .int p4), (5, .int p5)]) E dX9_house_70 (Nat.le_of_ble_eq_true rfl) rfl ?_
          refine aw_iload E dX9_house_71 1 rfl ?_
          refine aw_istore (L1 := [(4, .int q101.1), (3, .int p5), (6, .int q101.1), (0, .ref (wad (WY g) 0)), (1, .int p1), (2, .int p2), (5, .int p5)]) E dX9_house_73 (Nat.le_of_ble_eq_true rfl) rfl ?_
          obtain ⟨x109, e110, hh⟩ := lt_e hh
          refine aw_iinc (v := x109) (L1 := [(5, .int x109), (4, .int q101.1), (3, .int p5), (6, .int q101.1), (0, .ref (wad (WY g) 0)), (1, .int p1), (2, .int p2)]) E dX9_house_75 6 rfl e110 (Nat.le_of_ble_eq_true rfl) rfl ?_
          refine aw_goto (tgt := 34) E dX9_house_78 rfl ?_
          refine aw_sub (L1 := [(0, .ref (wad (WY g) 0)), (1, .int p1), (2, .int p2), (3, .int p5), (4, .int q101.1), (5, .int x109)]) [4, 5, 6, 2, 1, 0] rfl ?_
          exact ih p5 q101.1 x109 q101.2 _ hh kx
        have J108 : b105 = false → AW Y (WY g) r 7 6 75 [(6, .int q101.1), (0, .ref (wad (WY g) 0)), (1, .int p1), (2, .int p2), (3, .int p3), (4, .int p4), (5, .int p5)] [] q101.2 := fun hb => by
          replace hh := iq (bf hb) hh
          obtain ⟨x111, e112, hh⟩ := lt_e hh
          refine aw_iinc (v := x111) (L1 := [(5, .int x111), (6, .int q101.1), (0, .ref (wad (WY g) 0)), (1, .int p1), (2, .int p2), (3, .int p3), (4, .int p4)]) E dX9_house_75 6 rfl e112 (Nat.le_of_ble_eq_true rfl) rfl ?_
          refine aw_goto (tgt := 34) E dX9_house_78 rfl ?_
          refine aw_sub (L1 := [(0, .ref (wad (WY g) 0)), (1, .int p1), (2, .int p2), (3, .int p3), (4, .int p4), (5, .int x111)]) [2, 3, 4, 5, 6, 0] rfl ?_
          exact ih p3 p4 x111 q101.2 _ hh kx
        refine aw_icmp_eq (tgt := 68) E dX9_house_58 rfl (fun c58 => ?_) (fun c58 => ?_)
        ·
          replace e106 := ip c58 e106
          subst e106
          exact J107 rfl
        ·
          replace e106 := iq c58 e106
          refine aw_iload E dX9_house_61 0 rfl ?_
          refine aw_iload E dX9_house_63 5 rfl ?_
          refine aw_icmp_ge (tgt := 75) E dX9_house_65 rfl (fun c65 => ?_) (fun c65 => ?_)
          ·
            replace e106 := ip c65 e106
            subst e106
            exact J108 rfl
          ·
            replace e106 := iq c65 e106
            subst e106
            exact J107 rfl
set_option maxHeartbeats 4000000 in
set_option maxRecDepth 100000 in
theorem ctX9_house (l : Launch) (g : CtxG) (a1 : Int32) (a2 : Int32) (M : Mem) (r0 : Int32 × Mem) (h : FX9_house a1 a2 M = some r0) : Ct l (WY g) yX9_house cX9_house 7 (some .int) 6 [.ref (wad (WY g) 0), .int a1, .int a2] M (some (.int r0.1), r0.2) := by
  refine Ct.of (by decide) (Nat.le_of_ble_eq_true rfl) (fun Y hY E => ?_)
  have E : EV Y (WY g) cX9_house 7 (some .int) RX9 := E
  have h : FX9_house a1 a2 M = some r0 := h
  unfold FX9_house at h
  show AW Y (WY g) _ 7 6 0 [(0, .ref (wad (WY g) 0)), (1, .int a1), (2, .int a2)] [] M
  obtain ⟨r, hr⟩ : ∃ r : Option Value × Mem, r = (some (.int r0.1), r0.2) := ⟨_, rfl⟩
  rw [← hr]
  refine aw_iload_n E dX9_house_0 1 rfl ?_
  refine aw_iconst (v := 0) E dX9_house_1 (by decide) ?_
  refine aw_sipush (v := 511) E dX9_house_2 (by decide) ?_
  refine aw_callSi (S := []) E msX9_in mlX9_88 rfl (ctX9_in (yl Y) g a1 0 511  M ) rfl (Nat.le_of_ble_eq_true rfl) (Nat.le_of_ble_eq_true rfl) dX9_house_5 ?_
  refine aw_if_ne (tgt := 14) E dX9_house_8 rfl (fun c8 => ?_) (fun c8 => ?_)
  ·
    replace h := iq c8 h
    refine aw_iload_n E dX9_house_14 2 rfl ?_
    refine aw_iconst (v := 0) E dX9_house_15 (by decide) ?_
    refine aw_iconst (v := 1) E dX9_house_16 (by decide) ?_
    refine aw_callSi (S := []) E msX9_in mlX9_88 rfl (ctX9_in (yl Y) g a2 0 1  M ) rfl (Nat.le_of_ble_eq_true rfl) (Nat.le_of_ble_eq_true rfl) dX9_house_17 ?_
    refine aw_if_ne (tgt := 26) E dX9_house_20 rfl (fun c20 => ?_) (fun c20 => ?_)
    ·
      replace h := iq c20 h
      refine aw_iconst (v := (-1)) E dX9_house_26 (by decide) ?_
      refine aw_istore_n (L1 := [(3, .int (-1)), (0, .ref (wad (WY g) 0)), (1, .int a1), (2, .int a2)]) E dX9_house_27 (Nat.le_of_ble_eq_true rfl) rfl ?_
      refine aw_iconst (v := (-1)) E dX9_house_28 (by decide) ?_
      refine aw_istore (L1 := [(4, .int (-1)), (3, .int (-1)), (0, .ref (wad (WY g) 0)), (1, .int a1), (2, .int a2)]) E dX9_house_29 (Nat.le_of_ble_eq_true rfl) rfl ?_
      refine aw_iconst (v := 0) E dX9_house_31 (by decide) ?_
      refine aw_istore (L1 := [(5, .int 0), (4, .int (-1)), (3, .int (-1)), (0, .ref (wad (WY g) 0)), (1, .int a1), (2, .int a2)]) E dX9_house_32 (Nat.le_of_ble_eq_true rfl) rfl ?_
      obtain ⟨q1, e2, h⟩ := bd_e h
      refine aw_sub (L1 := [(0, .ref (wad (WY g) 0)), (1, .int a1), (2, .int a2), (3, .int (-1)), (4, .int (-1)), (5, .int 0)]) [3, 4, 5, 2, 1, 0] rfl ?_
      refine lpX9_house_34 E   a1 a2 FU (-1) (-1) 0 M q1 e2 ?_
      refine aw_iload_n E dX9_house_81 0 rfl ?_
      refine aw_if_ne (tgt := 89) E dX9_house_82 rfl (fun c82 => ?_) (fun c82 => ?_)
      ·
        replace h := iq c82 h
        refine aw_iload E dX9_house_89 2 rfl ?_
        replace h := Option.some.inj h
        subst h
        exact aw_iret E dX9_house_91 hr
      ·
        replace h := ip c82 h
        refine aw_iload_n E dX9_house_85 1 rfl ?_
        refine aw_goto (tgt := 91) E dX9_house_86 rfl ?_
        replace h := Option.some.inj h
        subst h
        exact aw_iret E dX9_house_91 hr
    ·
      replace h := ip c20 h
      refine aw_bipush (v := (-7)) E dX9_house_23 (by decide) ?_
      replace h := Option.some.inj h
      subst h
      exact aw_iret E dX9_house_25 hr
  ·
    replace h := ip c8 h
    refine aw_bipush (v := (-2)) E dX9_house_11 (by decide) ?_
    replace h := Option.some.inj h
    subst h
    exact aw_iret E dX9_house_13 hr
def FX9_image  (M : Mem) : Option (Int32 × Mem) :=
  lt (wr M 0 16 1) fun M1 =>
  lt (wr M1 0 17 (M1.1 0 0)) fun M3 =>
  lt (wr M3 0 18 (M3.1 0 1)) fun M5 =>
  lt (wr M5 0 19 (M5.1 0 2)) fun M7 =>
  lt (wr M7 0 20 (M7.1 0 9)) fun M9 =>
  lt (wr M9 0 21 (M9.1 0 3)) fun M11 =>
  lt (wr M11 0 22 (M11.1 0 15)) fun M13 =>
  some (M13.1 0 3, M13)
set_option maxHeartbeats 4000000 in
set_option maxRecDepth 100000 in
theorem ctX9_image (l : Launch) (g : CtxG)  (M : Mem) (r0 : Int32 × Mem) (h : FX9_image M = some r0) : Ct l (WY g) yX9_image cX9_image 1 (some .int) 1 [.ref (wad (WY g) 0)] M (some (.int r0.1), r0.2) := by
  refine Ct.of (by decide) (Nat.le_of_ble_eq_true rfl) (fun Y hY E => ?_)
  have E : EV Y (WY g) cX9_image 1 (some .int) RX9 := E
  have h : FX9_image  M = some r0 := h
  unfold FX9_image at h
  show AW Y (WY g) _ 1 1 0 [(0, .ref (wad (WY g) 0))] [] M
  obtain ⟨r, hr⟩ : ∃ r : Option Value × Mem, r = (some (.int r0.1), r0.2) := ⟨_, rfl⟩
  rw [← hr]
  refine aw_aload_n E dX9_image_0 0 rfl ?_
  refine aw_iconst (v := 1) E dX9_image_1 (by decide) ?_
  obtain ⟨M1, e2, h⟩ := lt_e h
  refine aw_putI1 e2 E flX9_177 (Nat.le_of_ble_eq_true rfl) rfl rfl (nr_bool (by decide)) dX9_image_2 ?_
  refine aw_aload_n E dX9_image_5 0 rfl ?_
  refine aw_aload_n E dX9_image_6 0 rfl ?_
  refine aw_getI E flX9_99 (Nat.le_of_ble_eq_true rfl) rfl rfl dX9_image_7 ?_
  obtain ⟨M3, e4, h⟩ := lt_e h
  refine aw_putI1 e4 E flX9_344 (Nat.le_of_ble_eq_true rfl) rfl rfl nr_int dX9_image_10 ?_
  refine aw_aload_n E dX9_image_13 0 rfl ?_
  refine aw_aload_n E dX9_image_14 0 rfl ?_
  refine aw_getI E flX9_7 (Nat.le_of_ble_eq_true rfl) rfl rfl dX9_image_15 ?_
  obtain ⟨M5, e6, h⟩ := lt_e h
  refine aw_putI1 e6 E flX9_347 (Nat.le_of_ble_eq_true rfl) rfl rfl nr_int dX9_image_18 ?_
  refine aw_aload_n E dX9_image_21 0 rfl ?_
  refine aw_aload_n E dX9_image_22 0 rfl ?_
  refine aw_getI E flX9_102 (Nat.le_of_ble_eq_true rfl) rfl rfl dX9_image_23 ?_
  obtain ⟨M7, e8, h⟩ := lt_e h
  refine aw_putI1 e8 E flX9_350 (Nat.le_of_ble_eq_true rfl) rfl rfl nr_int dX9_image_26 ?_
  refine aw_aload_n E dX9_image_29 0 rfl ?_
  refine aw_aload_n E dX9_image_30 0 rfl ?_
  refine aw_getI E flX9_105 (Nat.le_of_ble_eq_true rfl) rfl rfl dX9_image_31 ?_
  obtain ⟨M9, e10, h⟩ := lt_e h
  refine aw_putI1 e10 E flX9_353 (Nat.le_of_ble_eq_true rfl) rfl rfl nr_int dX9_image_34 ?_
  refine aw_aload_n E dX9_image_37 0 rfl ?_
  refine aw_aload_n E dX9_image_38 0 rfl ?_
  refine aw_getI E flX9_92 (Nat.le_of_ble_eq_true rfl) rfl rfl dX9_image_39 ?_
  obtain ⟨M11, e12, h⟩ := lt_e h
  refine aw_putI1 e12 E flX9_181 (Nat.le_of_ble_eq_true rfl) rfl rfl nr_int dX9_image_42 ?_
  refine aw_aload_n E dX9_image_45 0 rfl ?_
  refine aw_aload_n E dX9_image_46 0 rfl ?_
  refine aw_getI E flX9_111 (Nat.le_of_ble_eq_true rfl) rfl rfl dX9_image_47 ?_
  obtain ⟨M13, e14, h⟩ := lt_e h
  refine aw_putI1 e14 E flX9_356 (Nat.le_of_ble_eq_true rfl) rfl rfl nr_int dX9_image_50 ?_
  refine aw_aload_n E dX9_image_53 0 rfl ?_
  refine aw_getI E flX9_92 (Nat.le_of_ble_eq_true rfl) rfl rfl dX9_image_54 ?_
  replace h := Option.some.inj h
  subst h
  exact aw_iret E dX9_image_57 hr
def FX9_isUnder (a0 : Int32) (a1 : Int32) : Int32 :=
  lt (α := Bool) (if a1 = 0 then false else if a0 = a1 then false else true) fun b1 =>
  if b1 = true then
    lt (α := Bool) (if a1 = 3 then if a0 = 5 then true else false else false) fun b5 =>
    if b5 = true then
      1
    else
      0
  else
    1
set_option maxHeartbeats 4000000 in
set_option maxRecDepth 100000 in
theorem ctX9_isUnder (l : Launch) (g : CtxG) (a0 : Int32) (a1 : Int32) (M : Mem) : Ct l (WY g) yX9_isUnder cX9_isUnder 2 (some .boolean) 1 [.int a0, .int a1] M (some (.int (FX9_isUnder a0 a1)), M) := by
  obtain ⟨r0, h⟩ : ∃ r0, FX9_isUnder a0 a1 = r0 := ⟨_, rfl⟩
  rw [h]
  refine Ct.of (by decide) (Nat.le_of_ble_eq_true rfl) (fun Y hY E => ?_)
  have E : EV Y (WY g) cX9_isUnder 2 (some .boolean) RX9 := E
  --generalize hr : ((some (Value.int r0), M) : Option Value × Mem) = r
  have h : FX9_isUnder a0 a1 = r0 := h
  unfold FX9_isUnder at h
  show AW Y (WY g) _ 2 1 0 [(0, .int a0), (1, .int a1)] [] M
  obtain ⟨r, hr⟩ : ∃ r : Option Value × Mem, r = (some (.int r0), M) := ⟨_, rfl⟩
  rw [← hr]
  refine aw_iload_n E dX9_isUnder_0 1 rfl ?_
  obtain ⟨b1, e2, h⟩ := lt_e h
  have J3 : b1 = true → AW Y (WY g) r 2 1 9 [(0, .int a0), (1, .int a1)] [] M := fun hb => by
    replace h := ip hb h
    refine aw_iload_n E dX9_isUnder_9 1 rfl ?_
    refine aw_iconst (v := 3) E dX9_isUnder_10 (by decide) ?_
    obtain ⟨b5, e6, h⟩ := lt_e h
    have J7 : b5 = true → AW Y (WY g) r 2 1 19 [(0, .int a0), (1, .int a1)] [] M := fun hb => by
      replace h := ip hb h
      refine aw_iconst (v := 1) E dX9_isUnder_19 (by decide) ?_
      refine aw_goto (tgt := 24) E dX9_isUnder_20 rfl ?_
      subst h
      exact aw_zret E (by decide) dX9_isUnder_24 hr
    have J8 : b5 = false → AW Y (WY g) r 2 1 23 [(0, .int a0), (1, .int a1)] [] M := fun hb => by
      replace h := iq (bf hb) h
      refine aw_iconst (v := 0) E dX9_isUnder_23 (by decide) ?_
      subst h
      exact aw_zret E (by decide) dX9_isUnder_24 hr
    refine aw_icmp_ne (tgt := 23) E dX9_isUnder_11 rfl (fun c11 => ?_) (fun c11 => ?_)
    ·
      replace e6 := iq c11 e6
      subst e6
      exact J8 rfl
    ·
      replace e6 := ip c11 e6
      refine aw_iload_n E dX9_isUnder_14 0 rfl ?_
      refine aw_iconst (v := 5) E dX9_isUnder_15 (by decide) ?_
      refine aw_icmp_ne (tgt := 23) E dX9_isUnder_16 rfl (fun c16 => ?_) (fun c16 => ?_)
      ·
        replace e6 := iq c16 e6
        subst e6
        exact J8 rfl
      ·
        replace e6 := ip c16 e6
        subst e6
        exact J7 rfl
  have J4 : b1 = false → AW Y (WY g) r 2 1 19 [(0, .int a0), (1, .int a1)] [] M := fun hb => by
    replace h := iq (bf hb) h
    refine aw_iconst (v := 1) E dX9_isUnder_19 (by decide) ?_
    refine aw_goto (tgt := 24) E dX9_isUnder_20 rfl ?_
    subst h
    exact aw_zret E (by decide) dX9_isUnder_24 hr
  refine aw_if_eq (tgt := 19) E dX9_isUnder_1 rfl (fun c1 => ?_) (fun c1 => ?_)
  ·
    replace e2 := ip c1 e2
    subst e2
    exact J4 rfl
  ·
    replace e2 := iq c1 e2
    refine aw_iload_n E dX9_isUnder_4 0 rfl ?_
    refine aw_iload_n E dX9_isUnder_5 1 rfl ?_
    refine aw_icmp_eq (tgt := 19) E dX9_isUnder_6 rfl (fun c6 => ?_) (fun c6 => ?_)
    ·
      replace e2 := ip c6 e2
      subst e2
      exact J4 rfl
    ·
      replace e2 := iq c6 e2
      subst e2
      exact J3 rfl
def FX9_joined_L17 : Nat → Int32 → Int32 → Mem → Option (Int32)
  | 0, _, _, _ => none
  | f + 1, p1, p3, M =>
    if (M.1 0 40) ≤ p3 then
      some p1
    else
      if (((M.1 0 9) >>> (p3 &&& 31)) &&& 1) = 0 then
        gi p3 13 <|
        ob (α := Bool) (if ((p1 >>> ((M.1 2 (Int32.toNatClampNeg p3)) &&& 31)) &&& 1) = 1 then
          gi (4 * p3) 52 <|
          if (M.1 17 (Int32.toNatClampNeg (4 * p3))) ≤ 0 then some false else some true
        else
          some false) fun b104 =>
        ob (α := Int32) (if b104 = true then
          gi p3 13 <|
          some ((1 : Int32) <<< ((M.1 3 (Int32.toNatClampNeg p3)) &&& 31))
        else
          some 0) fun q106 =>
        lt (α := Int32) (p1 ||| q106) fun x109 =>
        gi p3 13 <|
        ob (α := Bool) (if ((x109 >>> ((M.1 3 (Int32.toNatClampNeg p3)) &&& 31)) &&& 1) = 1 then
          gi ((4 * p3) + 1) 52 <|
          if (M.1 17 (Int32.toNatClampNeg ((4 * p3) + 1))) ≤ 0 then some false else some true
        else
          some false) fun b112 =>
        ob (α := Int32) (if b112 = true then
          gi p3 13 <|
          some ((1 : Int32) <<< ((M.1 2 (Int32.toNatClampNeg p3)) &&& 31))
        else
          some 0) fun q114 =>
        lt (α := Int32) (x109 ||| q114) fun x117 =>
        lt (α := Int32) (p3 + 1) fun x119 =>
        FX9_joined_L17 f  x117 x119 M
      else
        lt (α := Int32) (p3 + 1) fun x101 =>
        FX9_joined_L17 f  p1 x101 M
def FX9_joined_L9 : Nat → Int32 → Int32 → Mem → Option (Int32)
  | 0, _, _, _ => none
  | f + 1, p1, p2, M =>
    if 9 ≤ p2 then
      some p1
    else
      ob (FX9_joined_L17 FU p1 0 M) fun q101 =>
      lt (α := Int32) (p2 + 1) fun x103 =>
      FX9_joined_L9 f  q101 x103 M
def FX9_joined  (M : Mem) : Option (Int32) :=
  lt (α := Int32) ((1 : Int32) <<< ((M.1 0 0) &&& 31)) fun x1 =>
  ob (FX9_joined_L9 FU x1 0 M) fun q3 =>
  some (q3 &&& (((1 : Int32) <<< ((M.1 0 0) &&& 31)) ^^^ (-1)))
set_option maxHeartbeats 4000000 in
set_option maxRecDepth 100000 in
theorem lpX9_joined_17 {Y : CtxM} {g : CtxG} {r : Option Value × Mem} (E : EV Y (WY g) cX9_joined 4 (some .int) RX9) (p2 : Int32) : ∀ (f : Nat) (p1 : Int32) (p3 : Int32) (M : Mem) (q : Int32), FX9_joined_L17 f  p1 p3 M = some q → AW Y (WY g) r 4 1 124 [(0, .ref (wad (WY g) 0)), (1, .int q), (2, .int p2)] [] M → AW Y (WY g) r 4 1 17 [(0, .ref (wad (WY g) 0)), (1, .int p1), (2, .int p2), (3, .int p3)] [] M := by
  intro f
  induction f with
  | zero => intro p1 p3 M q hh; exact absurd hh (fun z => nomatch (show (none : Option (Int32)) = some q from z))
  | succ f ih =>
    intro p1 p3 M q hh kx
    rw [FX9_joined_L17] at hh
    refine aw_iload_n E dX9_joined_17 3 rfl ?_
    refine aw_aload_n E dX9_joined_18 0 rfl ?_
    refine aw_getI E flX9_211 (Nat.le_of_ble_eq_true rfl) rfl rfl dX9_joined_19 ?_
    refine aw_icmp_ge (tgt := 124) E dX9_joined_22 rfl (fun c22 => ?_) (fun c22 => ?_)
    ·
      replace hh := ip c22 hh
      refine aw_sub (L1 := [(0, .ref (wad (WY g) 0)), (1, .int p1), (2, .int p2)]) [0, 1, 2] rfl ?_
      replace hh := Option.some.inj hh
      subst hh
      exact kx
    ·
      replace hh := iq c22 hh
      refine aw_aload_n E dX9_joined_25 0 rfl ?_
      refine aw_getI E flX9_105 (Nat.le_of_ble_eq_true rfl) rfl rfl dX9_joined_26 ?_
      refine aw_iload_n E dX9_joined_29 3 rfl ?_
      refine aw_ishr E dX9_joined_30 ?_
      refine aw_iconst (v := 1) E dX9_joined_31 (by decide) ?_
      refine aw_iand E dX9_joined_32 ?_
      refine aw_if_ne (tgt := 118) E dX9_joined_33 rfl (fun c33 => ?_) (fun c33 => ?_)
      ·
        replace hh := iq c33 hh
        obtain ⟨x101, e102, hh⟩ := lt_e hh
        refine aw_iinc (v := x101) (L1 := [(3, .int x101), (0, .ref (wad (WY g) 0)), (1, .int p1), (2, .int p2)]) E dX9_joined_118 3 rfl e102 (Nat.le_of_ble_eq_true rfl) rfl ?_
        refine aw_goto (tgt := 17) E dX9_joined_121 rfl ?_
        refine aw_sub (L1 := [(0, .ref (wad (WY g) 0)), (1, .int p1), (2, .int p2), (3, .int x101)]) [1, 2, 3, 0] rfl ?_
        exact ih p1 x101 M _ hh kx
      ·
        replace hh := ip c33 hh
        refine aw_iload_n E dX9_joined_36 1 rfl ?_
        refine aw_iload_n E dX9_joined_37 1 rfl ?_
        refine aw_aload_n E dX9_joined_38 0 rfl ?_
        refine aw_getR (q := 2) E flX9_17 (Nat.le_of_ble_eq_true rfl) rfl rfl dX9_joined_39 ?_
        refine aw_iload_n E dX9_joined_42 3 rfl ?_
        obtain ⟨g103, hh⟩ := gi_e hh
        refine aw_iald E (Nat.le_of_ble_eq_true rfl) rfl g103 dX9_joined_43 ?_
        refine aw_ishr E dX9_joined_44 ?_
        refine aw_iconst (v := 1) E dX9_joined_45 (by decide) ?_
        refine aw_iand E dX9_joined_46 ?_
        refine aw_iconst (v := 1) E dX9_joined_47 (by decide) ?_
        obtain ⟨b104, e105, hh⟩ := bd_e hh
        obtain ⟨q106, e107, hh⟩ := bd_e hh
        have J108 : AW Y (WY g) r 4 1 74 [(0, .ref (wad (WY g) 0)), (2, .int p2), (3, .int p3)] [.int q106, .int p1] M := by
          refine aw_ior E dX9_joined_74 ?_
          obtain ⟨x109, e110, hh⟩ := lt_e hh
          refine aw_nmI e110 ?_
          refine aw_istore_n (L1 := [(1, .int x109), (0, .ref (wad (WY g) 0)), (2, .int p2), (3, .int p3)]) E dX9_joined_75 (Nat.le_of_ble_eq_true rfl) rfl ?_
          refine aw_iload_n E dX9_joined_76 0 rfl ?_
          refine aw_iload_n E dX9_joined_77 0 rfl ?_
          refine aw_aload_n E dX9_joined_78 1 rfl ?_
          refine aw_getR (q := 3) E flX9_20 (Nat.le_of_ble_eq_true rfl) rfl rfl dX9_joined_79 ?_
          refine aw_iload_n E dX9_joined_82 3 rfl ?_
          obtain ⟨g111, hh⟩ := gi_e hh
          refine aw_iald E (Nat.le_of_ble_eq_true rfl) rfl g111 dX9_joined_83 ?_
          refine aw_ishr E dX9_joined_84 ?_
          refine aw_iconst (v := 1) E dX9_joined_85 (by decide) ?_
          refine aw_iand E dX9_joined_86 ?_
          refine aw_iconst (v := 1) E dX9_joined_87 (by decide) ?_
          obtain ⟨b112, e113, hh⟩ := bd_e hh
          obtain ⟨q114, e115, hh⟩ := bd_e hh
          have J116 : AW Y (WY g) r 4 1 116 [(0, .ref (wad (WY g) 0)), (2, .int p2), (3, .int p3)] [.int q114, .int x109] M := by
            refine aw_ior E dX9_joined_116 ?_
            obtain ⟨x117, e118, hh⟩ := lt_e hh
            refine aw_nmI e118 ?_
            refine aw_istore_n (L1 := [(1, .int x117), (0, .ref (wad (WY g) 0)), (2, .int p2), (3, .int p3)]) E dX9_joined_117 (Nat.le_of_ble_eq_true rfl) rfl ?_
            obtain ⟨x119, e120, hh⟩ := lt_e hh
            refine aw_iinc (v := x119) (L1 := [(3, .int x119), (1, .int x117), (0, .ref (wad (WY g) 0)), (2, .int p2)]) E dX9_joined_118 3 rfl e120 (Nat.le_of_ble_eq_true rfl) rfl ?_
            refine aw_goto (tgt := 17) E dX9_joined_121 rfl ?_
            refine aw_sub (L1 := [(0, .ref (wad (WY g) 0)), (1, .int x117), (2, .int p2), (3, .int x119)]) [2, 1, 3, 0] rfl ?_
            exact ih x117 x119 M _ hh kx
          have J121 : b112 = true → AW Y (WY g) r 4 1 104 [(1, .int x109), (0, .ref (wad (WY g) 0)), (2, .int p2), (3, .int p3)] [.int x109] M := fun hb => by
            replace e115 := ip hb e115
            refine aw_iconst (v := 1) E dX9_joined_104 (by decide) ?_
            refine aw_aload_n E dX9_joined_105 1 rfl ?_
            refine aw_getR (q := 2) E flX9_17 (Nat.le_of_ble_eq_true rfl) rfl rfl dX9_joined_106 ?_
            refine aw_iload_n E dX9_joined_109 3 rfl ?_
            obtain ⟨g123, e115⟩ := gi_e e115
            refine aw_iald E (Nat.le_of_ble_eq_true rfl) rfl g123 dX9_joined_110 ?_
            refine aw_ishl E dX9_joined_111 ?_
            refine aw_goto (tgt := 116) E dX9_joined_112 rfl ?_
            refine aw_sub (L1 := [(0, .ref (wad (WY g) 0)), (2, .int p2), (3, .int p3)]) [1, 2, 3] rfl ?_
            replace e115 := Option.some.inj e115
            subst e115
            exact J116
          have J122 : b112 = false → AW Y (WY g) r 4 1 115 [(1, .int x109), (0, .ref (wad (WY g) 0)), (2, .int p2), (3, .int p3)] [.int x109] M := fun hb => by
            replace e115 := iq (bf hb) e115
            refine aw_iconst (v := 0) E dX9_joined_115 (by decide) ?_
            refine aw_sub (L1 := [(0, .ref (wad (WY g) 0)), (2, .int p2), (3, .int p3)]) [1, 2, 3] rfl ?_
            replace e115 := Option.some.inj e115
            subst e115
            exact J116
          refine aw_icmp_ne (tgt := 115) E dX9_joined_88 rfl (fun c88 => ?_) (fun c88 => ?_)
          ·
            replace e113 := iq c88 e113
            replace e113 := Option.some.inj e113
            subst e113
            exact J122 rfl
          ·
            replace e113 := ip c88 e113
            refine aw_aload_n E dX9_joined_91 1 rfl ?_
            refine aw_getR (q := 17) E flX9_62 (Nat.le_of_ble_eq_true rfl) rfl rfl dX9_joined_92 ?_
            refine aw_iconst (v := 4) E dX9_joined_95 (by decide) ?_
            refine aw_iload_n E dX9_joined_96 3 rfl ?_
            refine aw_imul E dX9_joined_97 ?_
            refine aw_iconst (v := 1) E dX9_joined_98 (by decide) ?_
            refine aw_iadd E dX9_joined_99 ?_
            obtain ⟨g124, e113⟩ := gi_e e113
            refine aw_iald E (Nat.le_of_ble_eq_true rfl) rfl g124 dX9_joined_100 ?_
            refine aw_if_le (tgt := 115) E dX9_joined_101 rfl (fun c101 => ?_) (fun c101 => ?_)
            ·
              replace e113 := ip c101 e113
              replace e113 := Option.some.inj e113
              subst e113
              exact J122 rfl
            ·
              replace e113 := iq c101 e113
              replace e113 := Option.some.inj e113
              subst e113
              exact J121 rfl
        have J125 : b104 = true → AW Y (WY g) r 4 1 62 [(0, .ref (wad (WY g) 0)), (1, .int p1), (2, .int p2), (3, .int p3)] [.int p1] M := fun hb => by
          replace e107 := ip hb e107
          refine aw_iconst (v := 1) E dX9_joined_62 (by decide) ?_
          refine aw_aload_n E dX9_joined_63 0 rfl ?_
          refine aw_getR (q := 3) E flX9_20 (Nat.le_of_ble_eq_true rfl) rfl rfl dX9_joined_64 ?_
          refine aw_iload_n E dX9_joined_67 3 rfl ?_
          obtain ⟨g127, e107⟩ := gi_e e107
          refine aw_iald E (Nat.le_of_ble_eq_true rfl) rfl g127 dX9_joined_68 ?_
          refine aw_ishl E dX9_joined_69 ?_
          refine aw_goto (tgt := 74) E dX9_joined_70 rfl ?_
          refine aw_sub (L1 := [(0, .ref (wad (WY g) 0)), (2, .int p2), (3, .int p3)]) [0, 2, 3] rfl ?_
          replace e107 := Option.some.inj e107
          subst e107
          exact J108
        have J126 : b104 = false → AW Y (WY g) r 4 1 73 [(0, .ref (wad (WY g) 0)), (1, .int p1), (2, .int p2), (3, .int p3)] [.int p1] M := fun hb => by
          replace e107 := iq (bf hb) e107
          refine aw_iconst (v := 0) E dX9_joined_73 (by decide) ?_
          refine aw_sub (L1 := [(0, .ref (wad (WY g) 0)), (2, .int p2), (3, .int p3)]) [0, 2, 3] rfl ?_
          replace e107 := Option.some.inj e107
          subst e107
          exact J108
        refine aw_icmp_ne (tgt := 73) E dX9_joined_48 rfl (fun c48 => ?_) (fun c48 => ?_)
        ·
          replace e105 := iq c48 e105
          replace e105 := Option.some.inj e105
          subst e105
          exact J126 rfl
        ·
          replace e105 := ip c48 e105
          refine aw_aload_n E dX9_joined_51 0 rfl ?_
          refine aw_getR (q := 17) E flX9_62 (Nat.le_of_ble_eq_true rfl) rfl rfl dX9_joined_52 ?_
          refine aw_iconst (v := 4) E dX9_joined_55 (by decide) ?_
          refine aw_iload_n E dX9_joined_56 3 rfl ?_
          refine aw_imul E dX9_joined_57 ?_
          obtain ⟨g128, e105⟩ := gi_e e105
          refine aw_iald E (Nat.le_of_ble_eq_true rfl) rfl g128 dX9_joined_58 ?_
          refine aw_if_le (tgt := 73) E dX9_joined_59 rfl (fun c59 => ?_) (fun c59 => ?_)
          ·
            replace e105 := ip c59 e105
            replace e105 := Option.some.inj e105
            subst e105
            exact J126 rfl
          ·
            replace e105 := iq c59 e105
            replace e105 := Option.some.inj e105
            subst e105
            exact J125 rfl
set_option maxHeartbeats 4000000 in
set_option maxRecDepth 100000 in
theorem lpX9_joined_9 {Y : CtxM} {g : CtxG} {r : Option Value × Mem} (E : EV Y (WY g) cX9_joined 4 (some .int) RX9) : ∀ (f : Nat) (p1 : Int32) (p2 : Int32) (M : Mem) (q : Int32), FX9_joined_L9 f  p1 p2 M = some q → AW Y (WY g) r 4 1 130 [(0, .ref (wad (WY g) 0)), (1, .int q)] [] M → AW Y (WY g) r 4 1 9 [(0, .ref (wad (WY g) 0)), (1, .int p1), (2, .int p2)] [] M := by
  intro f
  induction f with
  | zero => intro p1 p2 M q hh; exact absurd hh (fun z => nomatch (show (none : Option (Int32)) = some q from z))
  | succ f ih =>
    intro p1 p2 M q hh kx
    rw [FX9_joined_L9] at hh
    refine aw_iload_n E dX9_joined_9 2 rfl ?_
    refine aw_bipush (v := 9) E dX9_joined_10 (by decide) ?_
    refine aw_icmp_ge (tgt := 130) E dX9_joined_12 rfl (fun c12 => ?_) (fun c12 => ?_)
    ·
      replace hh := ip c12 hh
      refine aw_sub (L1 := [(0, .ref (wad (WY g) 0)), (1, .int p1)]) [0, 1] rfl ?_
      replace hh := Option.some.inj hh
      subst hh
      exact kx
    ·
      replace hh := iq c12 hh
      refine aw_iconst (v := 0) E dX9_joined_15 (by decide) ?_
      refine aw_istore_n (L1 := [(3, .int 0), (0, .ref (wad (WY g) 0)), (1, .int p1), (2, .int p2)]) E dX9_joined_16 (Nat.le_of_ble_eq_true rfl) rfl ?_
      obtain ⟨q101, e102, hh⟩ := bd_e hh
      refine aw_sub (L1 := [(0, .ref (wad (WY g) 0)), (1, .int p1), (2, .int p2), (3, .int 0)]) [1, 2, 3, 0] rfl ?_
      refine lpX9_joined_17 E   p2 FU p1 0 M q101 e102 ?_
      obtain ⟨x103, e104, hh⟩ := lt_e hh
      refine aw_iinc (v := x103) (L1 := [(2, .int x103), (0, .ref (wad (WY g) 0)), (1, .int q101)]) E dX9_joined_124 2 rfl e104 (Nat.le_of_ble_eq_true rfl) rfl ?_
      refine aw_goto (tgt := 9) E dX9_joined_127 rfl ?_
      refine aw_sub (L1 := [(0, .ref (wad (WY g) 0)), (1, .int q101), (2, .int x103)]) [1, 2, 0] rfl ?_
      exact ih q101 x103 M _ hh kx
set_option maxHeartbeats 4000000 in
set_option maxRecDepth 100000 in
theorem ctX9_joined (l : Launch) (g : CtxG)  (M : Mem) (r0 : Int32) (h : FX9_joined M = some r0) : Ct l (WY g) yX9_joined cX9_joined 4 (some .int) 1 [.ref (wad (WY g) 0)] M (some (.int r0), M) := by
  refine Ct.of (by decide) (Nat.le_of_ble_eq_true rfl) (fun Y hY E => ?_)
  have E : EV Y (WY g) cX9_joined 4 (some .int) RX9 := E
  have h : FX9_joined  M = some r0 := h
  unfold FX9_joined at h
  show AW Y (WY g) _ 4 1 0 [(0, .ref (wad (WY g) 0))] [] M
  obtain ⟨r, hr⟩ : ∃ r : Option Value × Mem, r = (some (.int r0), M) := ⟨_, rfl⟩
  rw [← hr]
  refine aw_iconst (v := 1) E dX9_joined_0 (by decide) ?_
  refine aw_aload_n E dX9_joined_1 0 rfl ?_
  refine aw_getI E flX9_99 (Nat.le_of_ble_eq_true rfl) rfl rfl dX9_joined_2 ?_
  refine aw_ishl E dX9_joined_5 ?_
  obtain ⟨x1, e2, h⟩ := lt_e h
  refine aw_nmI e2 ?_
  refine aw_istore_n (L1 := [(1, .int x1), (0, .ref (wad (WY g) 0))]) E dX9_joined_6 (Nat.le_of_ble_eq_true rfl) rfl ?_
  refine aw_iconst (v := 0) E dX9_joined_7 (by decide) ?_
  refine aw_istore_n (L1 := [(2, .int 0), (1, .int x1), (0, .ref (wad (WY g) 0))]) E dX9_joined_8 (Nat.le_of_ble_eq_true rfl) rfl ?_
  obtain ⟨q3, e4, h⟩ := bd_e h
  refine aw_sub (L1 := [(0, .ref (wad (WY g) 0)), (1, .int x1), (2, .int 0)]) [2, 1, 0] rfl ?_
  refine lpX9_joined_9 E    FU x1 0 M q3 e4 ?_
  refine aw_iload_n E dX9_joined_130 1 rfl ?_
  refine aw_iconst (v := 1) E dX9_joined_131 (by decide) ?_
  refine aw_aload_n E dX9_joined_132 0 rfl ?_
  refine aw_getI E flX9_99 (Nat.le_of_ble_eq_true rfl) rfl rfl dX9_joined_133 ?_
  refine aw_ishl E dX9_joined_136 ?_
  refine aw_iconst (v := (-1)) E dX9_joined_137 (by decide) ?_
  refine aw_ixor E dX9_joined_138 ?_
  refine aw_iand E dX9_joined_139 ?_
  replace h := Option.some.inj h
  subst h
  exact aw_iret E dX9_joined_140 hr
def FX9_judge (a1 : Int32) (M : Mem) : Option (Int32 × Mem) :=
  if (FX9_in a1 0 3) = 0 then
    some ((-2), M)
  else
    gi a1 4 <|
    if (M.1 9 (Int32.toNatClampNeg a1)) = (-1) then
      some ((-11), M)
    else
      ob (FX9_follows a1 M) fun q2 =>
      gi a1 4 <|
      if q2.1 = (q2.2.1 10 (Int32.toNatClampNeg a1)) then
        some ((-1), q2.2)
      else
        some (q2.1, q2.2)
set_option maxHeartbeats 4000000 in
set_option maxRecDepth 100000 in
theorem ctX9_judge (l : Launch) (g : CtxG) (a1 : Int32) (M : Mem) (r0 : Int32 × Mem) (h : FX9_judge a1 M = some r0) : Ct l (WY g) yX9_judge cX9_judge 3 (some .int) 7 [.ref (wad (WY g) 0), .int a1] M (some (.int r0.1), r0.2) := by
  refine Ct.of (by decide) (Nat.le_of_ble_eq_true rfl) (fun Y hY E => ?_)
  have E : EV Y (WY g) cX9_judge 3 (some .int) RX9 := E
  have h : FX9_judge a1 M = some r0 := h
  unfold FX9_judge at h
  show AW Y (WY g) _ 3 7 0 [(0, .ref (wad (WY g) 0)), (1, .int a1)] [] M
  obtain ⟨r, hr⟩ : ∃ r : Option Value × Mem, r = (some (.int r0.1), r0.2) := ⟨_, rfl⟩
  rw [← hr]
  refine aw_iload_n E dX9_judge_0 1 rfl ?_
  refine aw_iconst (v := 0) E dX9_judge_1 (by decide) ?_
  refine aw_iconst (v := 3) E dX9_judge_2 (by decide) ?_
  refine aw_callSi (S := []) E msX9_in mlX9_88 rfl (ctX9_in (yl Y) g a1 0 3  M ) rfl (Nat.le_of_ble_eq_true rfl) (Nat.le_of_ble_eq_true rfl) dX9_judge_3 ?_
  refine aw_if_ne (tgt := 12) E dX9_judge_6 rfl (fun c6 => ?_) (fun c6 => ?_)
  ·
    replace h := iq c6 h
    refine aw_aload_n E dX9_judge_12 0 rfl ?_
    refine aw_getR (q := 9) E flX9_38 (Nat.le_of_ble_eq_true rfl) rfl rfl dX9_judge_13 ?_
    refine aw_iload_n E dX9_judge_16 1 rfl ?_
    obtain ⟨g1, h⟩ := gi_e h
    refine aw_iald E (Nat.le_of_ble_eq_true rfl) rfl g1 dX9_judge_17 ?_
    refine aw_iconst (v := (-1)) E dX9_judge_18 (by decide) ?_
    refine aw_icmp_ne (tgt := 25) E dX9_judge_19 rfl (fun c19 => ?_) (fun c19 => ?_)
    ·
      replace h := iq c19 h
      refine aw_aload_n E dX9_judge_25 0 rfl ?_
      refine aw_iload_n E dX9_judge_26 1 rfl ?_
      obtain ⟨q2, e3, h⟩ := bd_e h
      refine aw_callVi (S := []) E mvX9_follows mlX9_321 (Nat.le_of_ble_eq_true rfl) rfl rfl rfl (ctX9_follows (yl Y) g a1  M q2 e3) rfl (Nat.le_of_ble_eq_true rfl) (Nat.le_of_ble_eq_true rfl) dX9_judge_27 ?_
      refine aw_istore_n (L1 := [(2, .int q2.1), (0, .ref (wad (WY g) 0)), (1, .int a1)]) E dX9_judge_30 (Nat.le_of_ble_eq_true rfl) rfl ?_
      refine aw_iload_n E dX9_judge_31 0 rfl ?_
      refine aw_aload_n E dX9_judge_32 1 rfl ?_
      refine aw_getR (q := 10) E flX9_41 (Nat.le_of_ble_eq_true rfl) rfl rfl dX9_judge_33 ?_
      refine aw_iload_n E dX9_judge_36 2 rfl ?_
      obtain ⟨g4, h⟩ := gi_e h
      refine aw_iald E (Nat.le_of_ble_eq_true rfl) rfl g4 dX9_judge_37 ?_
      refine aw_icmp_ne (tgt := 45) E dX9_judge_38 rfl (fun c38 => ?_) (fun c38 => ?_)
      ·
        replace h := iq c38 h
        refine aw_iload_n E dX9_judge_45 0 rfl ?_
        replace h := Option.some.inj h
        subst h
        exact aw_iret E dX9_judge_46 hr
      ·
        replace h := ip c38 h
        refine aw_iconst (v := (-1)) E dX9_judge_41 (by decide) ?_
        refine aw_goto (tgt := 46) E dX9_judge_42 rfl ?_
        replace h := Option.some.inj h
        subst h
        exact aw_iret E dX9_judge_46 hr
    ·
      replace h := ip c19 h
      refine aw_bipush (v := (-11)) E dX9_judge_22 (by decide) ?_
      replace h := Option.some.inj h
      subst h
      exact aw_iret E dX9_judge_24 hr
  ·
    replace h := ip c6 h
    refine aw_bipush (v := (-2)) E dX9_judge_9 (by decide) ?_
    replace h := Option.some.inj h
    subst h
    exact aw_iret E dX9_judge_11 hr
def FX9_lane_L52 : Nat → Int32 → Int32 → Int32 → Int32 → Int32 → Mem → Option (Int32 × Int32 × Mem)
  | 0, _, _, _, _, _, _ => none
  | f + 1, p1, p5, p3, p4, p6, M =>
    if 9 ≤ p6 then
      some (p3, p4, M)
    else
      gi (M.1 0 3) 13 <|
      lt (wr M 1 (Int32.toNatClampNeg (M.1 0 3)) 0) fun M102 =>
      gi (M102.1 0 3) 13 <|
      lt (wr M102 2 (Int32.toNatClampNeg (M102.1 0 3)) p5) fun M105 =>
      gi (M105.1 0 3) 13 <|
      lt (wr M105 3 (Int32.toNatClampNeg (M105.1 0 3)) p6) fun M108 =>
      gi (M108.1 0 3) 13 <|
      lt (wr M108 4 (Int32.toNatClampNeg (M108.1 0 3)) p1) fun M111 =>
      ob (FX9_looks 1 M111) fun q113 =>
      ob (FX9_forward q113) fun q115 =>
      ob (FX9_ringed 0 q115) fun q117 =>
      ob (FX9_ones q117) fun q119 =>
      lt (α := Int32) (if q119 ≤ p4 then
        p3
      else
        (10 * p5) + p6) fun q121 =>
      lt (α := Int32) (if q119 ≤ p4 then
        p4
      else
        q119) fun q124 =>
      lt (α := Int32) (p6 + 1) fun x127 =>
      FX9_lane_L52 f p1 p5 q121 q124 x127 q115
def FX9_lane_L39 : Nat → Int32 → Int32 → Int32 → Int32 → Mem → Option (Int32 × Int32 × Mem)
  | 0, _, _, _, _, _ => none
  | f + 1, p1, p3, p4, p5, M =>
    if 9 ≤ p5 then
      some (p3, p4, M)
    else
      lt (α := Int32) (p5 + 1) fun x101 =>
      ob (FX9_lane_L52 FU p1 p5 p3 p4 x101 M) fun q103 =>
      lt (α := Int32) (p5 + 1) fun x105 =>
      FX9_lane_L39 f p1 q103.1 q103.2.1 x105 q103.2.2
def FX9_lane (a1 : Int32) (a2 : Int32) (M : Mem) : Option (Int32 × Mem) :=
  if (FX9_in a1 1 99) = 0 then
    some ((-2), M)
  else
    if (FX9_in a2 0 1) = 0 then
      some ((-7), M)
    else
      ob (FX9_ringedNow M) fun q1 =>
      ob (FX9_ones q1.1) fun q3 =>
      ob (FX9_lane_L39 FU a1 (-1) q3 0 q1.2) fun q5 =>
      if a2 = 0 then
        some (q5.1, q5.2.2)
      else
        some (q5.2.1, q5.2.2)
set_option maxHeartbeats 4000000 in
set_option maxRecDepth 100000 in
theorem lpX9_lane_52 {Y : CtxM} {g : CtxG} {r : Option Value × Mem} (E : EV Y (WY g) cX9_lane 8 (some .int) RX9) (p1 : Int32) (p2 : Int32) (p5 : Int32) : ∀ (f : Nat) (p3 : Int32) (p4 : Int32) (p6 : Int32) (M : Mem) (q : Int32 × Int32 × Mem), FX9_lane_L52 f p1 p5 p3 p4 p6 M = some q → AW Y (WY g) r 8 6 162 [(0, .ref (wad (WY g) 0)), (1, .int p1), (2, .int p2), (3, .int q.1), (4, .int q.2.1), (5, .int p5)] [] q.2.2 → AW Y (WY g) r 8 6 52 [(0, .ref (wad (WY g) 0)), (1, .int p1), (2, .int p2), (3, .int p3), (4, .int p4), (5, .int p5), (6, .int p6)] [] M := by
  intro f
  induction f with
  | zero => intro p3 p4 p6 M q hh; exact absurd hh (fun z => nomatch (show (none : Option (Int32 × Int32 × Mem)) = some q from z))
  | succ f ih =>
    intro p3 p4 p6 M q hh kx
    rw [FX9_lane_L52] at hh
    refine aw_iload E dX9_lane_52 6 rfl ?_
    refine aw_bipush (v := 9) E dX9_lane_54 (by decide) ?_
    refine aw_icmp_ge (tgt := 162) E dX9_lane_56 rfl (fun c56 => ?_) (fun c56 => ?_)
    ·
      replace hh := ip c56 hh
      refine aw_sub (L1 := [(0, .ref (wad (WY g) 0)), (1, .int p1), (2, .int p2), (3, .int p3), (4, .int p4), (5, .int p5)]) [0, 1, 2, 3, 4, 5] rfl ?_
      replace hh := Option.some.inj hh
      subst hh
      exact kx
    ·
      replace hh := iq c56 hh
      refine aw_aload_n E dX9_lane_59 0 rfl ?_
      refine aw_getR (q := 1) E flX9_13 (Nat.le_of_ble_eq_true rfl) rfl rfl dX9_lane_60 ?_
      refine aw_aload_n E dX9_lane_63 0 rfl ?_
      refine aw_getI E flX9_92 (Nat.le_of_ble_eq_true rfl) rfl rfl dX9_lane_64 ?_
      refine aw_iconst (v := 0) E dX9_lane_67 (by decide) ?_
      obtain ⟨g101, hh⟩ := gi_e hh
      obtain ⟨M102, e103, hh⟩ := lt_e hh
      refine aw_iast1 e103 E (Nat.le_of_ble_eq_true rfl) rfl g101 dX9_lane_68 ?_
      refine aw_aload_n E dX9_lane_69 0 rfl ?_
      refine aw_getR (q := 2) E flX9_17 (Nat.le_of_ble_eq_true rfl) rfl rfl dX9_lane_70 ?_
      refine aw_aload_n E dX9_lane_73 0 rfl ?_
      refine aw_getI E flX9_92 (Nat.le_of_ble_eq_true rfl) rfl rfl dX9_lane_74 ?_
      refine aw_iload E dX9_lane_77 5 rfl ?_
      obtain ⟨g104, hh⟩ := gi_e hh
      obtain ⟨M105, e106, hh⟩ := lt_e hh
      refine aw_iast1 e106 E (Nat.le_of_ble_eq_true rfl) rfl g104 dX9_lane_79 ?_
      refine aw_aload_n E dX9_lane_80 0 rfl ?_
      refine aw_getR (q := 3) E flX9_20 (Nat.le_of_ble_eq_true rfl) rfl rfl dX9_lane_81 ?_
      refine aw_aload_n E dX9_lane_84 0 rfl ?_
      refine aw_getI E flX9_92 (Nat.le_of_ble_eq_true rfl) rfl rfl dX9_lane_85 ?_
      refine aw_iload E dX9_lane_88 6 rfl ?_
      obtain ⟨g107, hh⟩ := gi_e hh
      obtain ⟨M108, e109, hh⟩ := lt_e hh
      refine aw_iast1 e109 E (Nat.le_of_ble_eq_true rfl) rfl g107 dX9_lane_90 ?_
      refine aw_aload_n E dX9_lane_91 0 rfl ?_
      refine aw_getR (q := 4) E flX9_23 (Nat.le_of_ble_eq_true rfl) rfl rfl dX9_lane_92 ?_
      refine aw_aload_n E dX9_lane_95 0 rfl ?_
      refine aw_getI E flX9_92 (Nat.le_of_ble_eq_true rfl) rfl rfl dX9_lane_96 ?_
      refine aw_iload_n E dX9_lane_99 1 rfl ?_
      obtain ⟨g110, hh⟩ := gi_e hh
      obtain ⟨M111, e112, hh⟩ := lt_e hh
      refine aw_iast1 e112 E (Nat.le_of_ble_eq_true rfl) rfl g110 dX9_lane_100 ?_
      refine aw_aload_n E dX9_lane_101 0 rfl ?_
      refine aw_iconst (v := 1) E dX9_lane_102 (by decide) ?_
      obtain ⟨q113, e114, hh⟩ := bd_e hh
      refine aw_callVv (S := []) E mvX9_looks mlX9_241 (Nat.le_of_ble_eq_true rfl) rfl rfl rfl (ctX9_looks (yl Y) g 1  M111 q113 e114) rfl (Nat.le_of_ble_eq_true rfl) (Nat.le_of_ble_eq_true rfl) dX9_lane_103 ?_
      refine aw_aload_n E dX9_lane_106 0 rfl ?_
      obtain ⟨q115, e116, hh⟩ := bd_e hh
      refine aw_callVv (S := []) E mvX9_forward mlX9_267 (Nat.le_of_ble_eq_true rfl) rfl rfl rfl (ctX9_forward (yl Y) g   q113 q115 e116) rfl (Nat.le_of_ble_eq_true rfl) (Nat.le_of_ble_eq_true rfl) dX9_lane_107 ?_
      refine aw_aload_n E dX9_lane_110 0 rfl ?_
      refine aw_iconst (v := 0) E dX9_lane_111 (by decide) ?_
      obtain ⟨q117, e118, hh⟩ := bd_e hh
      refine aw_callVi (S := []) E mvX9_ringed mlX9_276 (Nat.le_of_ble_eq_true rfl) rfl rfl rfl (ctX9_ringed (yl Y) g 0  q115 q117 e118) rfl (Nat.le_of_ble_eq_true rfl) (Nat.le_of_ble_eq_true rfl) dX9_lane_112 ?_
      obtain ⟨q119, e120, hh⟩ := bd_e hh
      refine aw_callSi (S := []) E msX9_ones mlX9_288 rfl (ctX9_ones (yl Y) g q117  q115 q119 e120) rfl (Nat.le_of_ble_eq_true rfl) (Nat.le_of_ble_eq_true rfl) dX9_lane_115 ?_
      refine aw_istore (L1 := [(7, .int q119), (0, .ref (wad (WY g) 0)), (1, .int p1), (2, .int p2), (3, .int p3), (4, .int p4), (5, .int p5), (6, .int p6)]) E dX9_lane_118 (Nat.le_of_ble_eq_true rfl) rfl ?_
      refine aw_iload E dX9_lane_120 0 rfl ?_
      refine aw_iload E dX9_lane_122 5 rfl ?_
      obtain ⟨q121, e122, hh⟩ := lt_e hh
      have J123 : AW Y (WY g) r 8 6 139 [(0, .ref (wad (WY g) 0)), (1, .int p1), (2, .int p2), (4, .int p4), (5, .int p5), (6, .int p6), (7, .int q119)] [.int q121] q115 := by
        refine aw_istore_n (L1 := [(3, .int q121), (0, .ref (wad (WY g) 0)), (1, .int p1), (2, .int p2), (4, .int p4), (5, .int p5), (6, .int p6), (7, .int q119)]) E dX9_lane_139 (Nat.le_of_ble_eq_true rfl) rfl ?_
        refine aw_iload E dX9_lane_140 7 rfl ?_
        refine aw_iload E dX9_lane_142 4 rfl ?_
        obtain ⟨q124, e125, hh⟩ := lt_e hh
        have J126 : AW Y (WY g) r 8 6 154 [(0, .ref (wad (WY g) 0)), (1, .int p1), (2, .int p2), (3, .int q121), (5, .int p5), (6, .int p6)] [.int q124] q115 := by
          refine aw_istore (L1 := [(4, .int q124), (0, .ref (wad (WY g) 0)), (1, .int p1), (2, .int p2), (3, .int q121), (5, .int p5), (6, .int p6)]) E dX9_lane_154 (Nat.le_of_ble_eq_true rfl) rfl ?_
          obtain ⟨x127, e128, hh⟩ := lt_e hh
          refine aw_iinc (v := x127) (L1 := [(6, .int x127), (4, .int q124), (0, .ref (wad (WY g) 0)), (1, .int p1), (2, .int p2), (3, .int q121), (5, .int p5)]) E dX9_lane_156 6 rfl e128 (Nat.le_of_ble_eq_true rfl) rfl ?_
          refine aw_goto (tgt := 52) E dX9_lane_159 rfl ?_
          refine aw_sub (L1 := [(0, .ref (wad (WY g) 0)), (1, .int p1), (2, .int p2), (3, .int q121), (4, .int q124), (5, .int p5), (6, .int x127)]) [2, 3, 4, 5, 1, 6, 0] rfl ?_
          exact ih q121 q124 x127 q115 _ hh kx
        refine aw_icmp_le (tgt := 152) E dX9_lane_144 rfl (fun c144 => ?_) (fun c144 => ?_)
        ·
          replace e125 := ip c144 e125
          refine aw_iload E dX9_lane_152 4 rfl ?_
          refine aw_sub (L1 := [(0, .ref (wad (WY g) 0)), (1, .int p1), (2, .int p2), (3, .int q121), (5, .int p5), (6, .int p6)]) [1, 2, 3, 0, 5, 6] rfl ?_
          subst e125
          exact J126
        ·
          replace e125 := iq c144 e125
          refine aw_iload E dX9_lane_147 7 rfl ?_
          refine aw_goto (tgt := 154) E dX9_lane_149 rfl ?_
          refine aw_sub (L1 := [(0, .ref (wad (WY g) 0)), (1, .int p1), (2, .int p2), (3, .int q121), (5, .int p5), (6, .int p6)]) [1, 2, 3, 0, 5, 6] rfl ?_
          subst e125
          exact J126
      refine aw_icmp_le (tgt := 138) E dX9_lane_124 rfl (fun c124 => ?_) (fun c124 => ?_)
      ·
        replace e122 := ip c124 e122
        refine aw_iload_n E dX9_lane_138 4 rfl ?_
        refine aw_sub (L1 := [(0, .ref (wad (WY g) 0)), (1, .int p1), (2, .int p2), (4, .int p4), (5, .int p5), (6, .int p6), (7, .int q119)]) [1, 2, 3, 5, 6, 7, 0] rfl ?_
        subst e122
        exact J123
      ·
        replace e122 := iq c124 e122
        refine aw_bipush (v := 10) E dX9_lane_127 (by decide) ?_
        refine aw_iload E dX9_lane_129 6 rfl ?_
        refine aw_imul E dX9_lane_131 ?_
        refine aw_iload E dX9_lane_132 7 rfl ?_
        refine aw_iadd E dX9_lane_134 ?_
        refine aw_goto (tgt := 139) E dX9_lane_135 rfl ?_
        refine aw_sub (L1 := [(0, .ref (wad (WY g) 0)), (1, .int p1), (2, .int p2), (4, .int p4), (5, .int p5), (6, .int p6), (7, .int q119)]) [1, 2, 3, 5, 6, 7, 0] rfl ?_
        subst e122
        exact J123
set_option maxHeartbeats 4000000 in
set_option maxRecDepth 100000 in
theorem lpX9_lane_39 {Y : CtxM} {g : CtxG} {r : Option Value × Mem} (E : EV Y (WY g) cX9_lane 8 (some .int) RX9) (p1 : Int32) (p2 : Int32) : ∀ (f : Nat) (p3 : Int32) (p4 : Int32) (p5 : Int32) (M : Mem) (q : Int32 × Int32 × Mem), FX9_lane_L39 f p1 p3 p4 p5 M = some q → AW Y (WY g) r 8 6 168 [(2, .int p2), (3, .int q.1), (4, .int q.2.1)] [] q.2.2 → AW Y (WY g) r 8 6 39 [(0, .ref (wad (WY g) 0)), (1, .int p1), (2, .int p2), (3, .int p3), (4, .int p4), (5, .int p5)] [] M := by
  intro f
  induction f with
  | zero => intro p3 p4 p5 M q hh; exact absurd hh (fun z => nomatch (show (none : Option (Int32 × Int32 × Mem)) = some q from z))
  | succ f ih =>
    intro p3 p4 p5 M q hh kx
    rw [FX9_lane_L39] at hh
    refine aw_iload E dX9_lane_39 5 rfl ?_
    refine aw_bipush (v := 9) E dX9_lane_41 (by decide) ?_
    refine aw_icmp_ge (tgt := 168) E dX9_lane_43 rfl (fun c43 => ?_) (fun c43 => ?_)
    ·
      replace hh := ip c43 hh
      refine aw_sub (L1 := [(2, .int p2), (3, .int p3), (4, .int p4)]) [2, 3, 4] rfl ?_
      replace hh := Option.some.inj hh
      subst hh
      exact kx
    ·
      replace hh := iq c43 hh
      refine aw_iload E dX9_lane_46 5 rfl ?_
      refine aw_iconst (v := 1) E dX9_lane_48 (by decide) ?_
      refine aw_iadd E dX9_lane_49 ?_
      obtain ⟨x101, e102, hh⟩ := lt_e hh
      refine aw_nmI e102 ?_
      refine aw_istore (L1 := [(6, .int x101), (0, .ref (wad (WY g) 0)), (1, .int p1), (2, .int p2), (3, .int p3), (4, .int p4), (5, .int p5)]) E dX9_lane_50 (Nat.le_of_ble_eq_true rfl) rfl ?_
      obtain ⟨q103, e104, hh⟩ := bd_e hh
      refine aw_sub (L1 := [(0, .ref (wad (WY g) 0)), (1, .int p1), (2, .int p2), (3, .int p3), (4, .int p4), (5, .int p5), (6, .int x101)]) [1, 2, 3, 4, 5, 6, 0] rfl ?_
      refine lpX9_lane_52 E   p1 p2 p5 FU p3 p4 x101 M q103 e104 ?_
      obtain ⟨x105, e106, hh⟩ := lt_e hh
      refine aw_iinc (v := x105) (L1 := [(5, .int x105), (0, .ref (wad (WY g) 0)), (1, .int p1), (2, .int p2), (3, .int q103.1), (4, .int q103.2.1)]) E dX9_lane_162 5 rfl e106 (Nat.le_of_ble_eq_true rfl) rfl ?_
      refine aw_goto (tgt := 39) E dX9_lane_165 rfl ?_
      refine aw_sub (L1 := [(0, .ref (wad (WY g) 0)), (1, .int p1), (2, .int p2), (3, .int q103.1), (4, .int q103.2.1), (5, .int x105)]) [1, 2, 3, 4, 5, 0] rfl ?_
      exact ih q103.1 q103.2.1 x105 q103.2.2 _ hh kx
set_option maxHeartbeats 4000000 in
set_option maxRecDepth 100000 in
theorem ctX9_lane (l : Launch) (g : CtxG) (a1 : Int32) (a2 : Int32) (M : Mem) (r0 : Int32 × Mem) (h : FX9_lane a1 a2 M = some r0) : Ct l (WY g) yX9_lane cX9_lane 8 (some .int) 6 [.ref (wad (WY g) 0), .int a1, .int a2] M (some (.int r0.1), r0.2) := by
  refine Ct.of (by decide) (Nat.le_of_ble_eq_true rfl) (fun Y hY E => ?_)
  have E : EV Y (WY g) cX9_lane 8 (some .int) RX9 := E
  have h : FX9_lane a1 a2 M = some r0 := h
  unfold FX9_lane at h
  show AW Y (WY g) _ 8 6 0 [(0, .ref (wad (WY g) 0)), (1, .int a1), (2, .int a2)] [] M
  obtain ⟨r, hr⟩ : ∃ r : Option Value × Mem, r = (some (.int r0.1), r0.2) := ⟨_, rfl⟩
  rw [← hr]
  refine aw_iload_n E dX9_lane_0 1 rfl ?_
  refine aw_iconst (v := 1) E dX9_lane_1 (by decide) ?_
  refine aw_bipush (v := 99) E dX9_lane_2 (by decide) ?_
  refine aw_callSi (S := []) E msX9_in mlX9_88 rfl (ctX9_in (yl Y) g a1 1 99  M ) rfl (Nat.le_of_ble_eq_true rfl) (Nat.le_of_ble_eq_true rfl) dX9_lane_4 ?_
  refine aw_if_ne (tgt := 13) E dX9_lane_7 rfl (fun c7 => ?_) (fun c7 => ?_)
  ·
    replace h := iq c7 h
    refine aw_iload_n E dX9_lane_13 2 rfl ?_
    refine aw_iconst (v := 0) E dX9_lane_14 (by decide) ?_
    refine aw_iconst (v := 1) E dX9_lane_15 (by decide) ?_
    refine aw_callSi (S := []) E msX9_in mlX9_88 rfl (ctX9_in (yl Y) g a2 0 1  M ) rfl (Nat.le_of_ble_eq_true rfl) (Nat.le_of_ble_eq_true rfl) dX9_lane_16 ?_
    refine aw_if_ne (tgt := 25) E dX9_lane_19 rfl (fun c19 => ?_) (fun c19 => ?_)
    ·
      replace h := iq c19 h
      refine aw_iconst (v := (-1)) E dX9_lane_25 (by decide) ?_
      refine aw_istore_n (L1 := [(3, .int (-1)), (0, .ref (wad (WY g) 0)), (1, .int a1), (2, .int a2)]) E dX9_lane_26 (Nat.le_of_ble_eq_true rfl) rfl ?_
      refine aw_aload_n E dX9_lane_27 1 rfl ?_
      obtain ⟨q1, e2, h⟩ := bd_e h
      refine aw_callVi (S := []) E mvX9_ringedNow mlX9_279 (Nat.le_of_ble_eq_true rfl) rfl rfl rfl (ctX9_ringedNow (yl Y) g   M q1 e2) rfl (Nat.le_of_ble_eq_true rfl) (Nat.le_of_ble_eq_true rfl) dX9_lane_28 ?_
      obtain ⟨q3, e4, h⟩ := bd_e h
      refine aw_callSi (S := []) E msX9_ones mlX9_288 rfl (ctX9_ones (yl Y) g q1.1  q1.2 q3 e4) rfl (Nat.le_of_ble_eq_true rfl) (Nat.le_of_ble_eq_true rfl) dX9_lane_31 ?_
      refine aw_istore (L1 := [(4, .int q3), (3, .int (-1)), (0, .ref (wad (WY g) 0)), (1, .int a1), (2, .int a2)]) E dX9_lane_34 (Nat.le_of_ble_eq_true rfl) rfl ?_
      refine aw_iconst (v := 0) E dX9_lane_36 (by decide) ?_
      refine aw_istore (L1 := [(5, .int 0), (4, .int q3), (3, .int (-1)), (0, .ref (wad (WY g) 0)), (1, .int a1), (2, .int a2)]) E dX9_lane_37 (Nat.le_of_ble_eq_true rfl) rfl ?_
      obtain ⟨q5, e6, h⟩ := bd_e h
      refine aw_sub (L1 := [(0, .ref (wad (WY g) 0)), (1, .int a1), (2, .int a2), (3, .int (-1)), (4, .int q3), (5, .int 0)]) [3, 4, 5, 2, 1, 0] rfl ?_
      refine lpX9_lane_39 E   a1 a2 FU (-1) q3 0 q1.2 q5 e6 ?_
      refine aw_iload_n E dX9_lane_168 0 rfl ?_
      refine aw_if_ne (tgt := 176) E dX9_lane_169 rfl (fun c169 => ?_) (fun c169 => ?_)
      ·
        replace h := iq c169 h
        refine aw_iload E dX9_lane_176 2 rfl ?_
        replace h := Option.some.inj h
        subst h
        exact aw_iret E dX9_lane_178 hr
      ·
        replace h := ip c169 h
        refine aw_iload_n E dX9_lane_172 1 rfl ?_
        refine aw_goto (tgt := 178) E dX9_lane_173 rfl ?_
        replace h := Option.some.inj h
        subst h
        exact aw_iret E dX9_lane_178 hr
    ·
      replace h := ip c19 h
      refine aw_bipush (v := (-7)) E dX9_lane_22 (by decide) ?_
      replace h := Option.some.inj h
      subst h
      exact aw_iret E dX9_lane_24 hr
  ·
    replace h := ip c7 h
    refine aw_bipush (v := (-2)) E dX9_lane_10 (by decide) ?_
    replace h := Option.some.inj h
    subst h
    exact aw_iret E dX9_lane_12 hr
def FX9_laws_L21 : Nat → Int32 → Int32 → Int32 → Mem → Option (Int32 × Mem)
  | 0, _, _, _, _ => none
  | f + 1, p1, p3, p4, M =>
    if (M.1 0 14) ≤ p4 then
      some (p3, M)
    else
      lt (wr M 0 15 p4) fun M101 =>
      ob (FX9_ringedNow M101) fun q103 =>
      lt (α := Int32) (if ((q103.1 >>> (p1 &&& 31)) &&& 1) = 1 then
        (1 : Int32) <<< (p4 &&& 31)
      else
        0) fun q105 =>
      lt (α := Int32) (p3 ||| q105) fun x108 =>
      lt (α := Int32) (p4 + 1) fun x110 =>
      FX9_laws_L21 f p1 x108 x110 q103.2
def FX9_laws (a1 : Int32) (M : Mem) : Option (Int32 × Mem) :=
  ob (FX9_isOther a1 M) fun q1 =>
  if q1 = 0 then
    some ((-5), M)
  else
    lt (α := Int32) (M.1 0 15) fun x3 =>
    ob (FX9_laws_L21 FU a1 0 0 M) fun q5 =>
    lt (wr q5.2 0 15 x3) fun M7 =>
    some (q5.1, M7)
set_option maxHeartbeats 4000000 in
set_option maxRecDepth 100000 in
theorem lpX9_laws_21 {Y : CtxM} {g : CtxG} {r : Option Value × Mem} (E : EV Y (WY g) cX9_laws 5 (some .int) RX9) (p1 : Int32) (p2 : Int32) : ∀ (f : Nat) (p3 : Int32) (p4 : Int32) (M : Mem) (q : Int32 × Mem), FX9_laws_L21 f p1 p3 p4 M = some q → AW Y (WY g) r 5 6 65 [(0, .ref (wad (WY g) 0)), (2, .int p2), (3, .int q.1)] [] q.2 → AW Y (WY g) r 5 6 21 [(0, .ref (wad (WY g) 0)), (1, .int p1), (2, .int p2), (3, .int p3), (4, .int p4)] [] M := by
  intro f
  induction f with
  | zero => intro p3 p4 M q hh; exact absurd hh (fun z => nomatch (show (none : Option (Int32 × Mem)) = some q from z))
  | succ f ih =>
    intro p3 p4 M q hh kx
    rw [FX9_laws_L21] at hh
    refine aw_iload E dX9_laws_21 4 rfl ?_
    refine aw_aload_n E dX9_laws_23 0 rfl ?_
    refine aw_getI E flX9_108 (Nat.le_of_ble_eq_true rfl) rfl rfl dX9_laws_24 ?_
    refine aw_icmp_ge (tgt := 65) E dX9_laws_27 rfl (fun c27 => ?_) (fun c27 => ?_)
    ·
      replace hh := ip c27 hh
      refine aw_sub (L1 := [(0, .ref (wad (WY g) 0)), (2, .int p2), (3, .int p3)]) [0, 2, 3] rfl ?_
      replace hh := Option.some.inj hh
      subst hh
      exact kx
    ·
      replace hh := iq c27 hh
      refine aw_aload_n E dX9_laws_30 0 rfl ?_
      refine aw_iload E dX9_laws_31 4 rfl ?_
      obtain ⟨M101, e102, hh⟩ := lt_e hh
      refine aw_putI1 e102 E flX9_111 (Nat.le_of_ble_eq_true rfl) rfl rfl nr_int dX9_laws_33 ?_
      refine aw_iload_n E dX9_laws_36 3 rfl ?_
      refine aw_aload_n E dX9_laws_37 0 rfl ?_
      obtain ⟨q103, e104, hh⟩ := bd_e hh
      refine aw_callVi (S := [.int p3]) E mvX9_ringedNow mlX9_279 (Nat.le_of_ble_eq_true rfl) rfl rfl rfl (ctX9_ringedNow (yl Y) g   M101 q103 e104) rfl (Nat.le_of_ble_eq_true rfl) (Nat.le_of_ble_eq_true rfl) dX9_laws_38 ?_
      refine aw_iload_n E dX9_laws_41 1 rfl ?_
      refine aw_ishr E dX9_laws_42 ?_
      refine aw_iconst (v := 1) E dX9_laws_43 (by decide) ?_
      refine aw_iand E dX9_laws_44 ?_
      refine aw_iconst (v := 1) E dX9_laws_45 (by decide) ?_
      obtain ⟨q105, e106, hh⟩ := lt_e hh
      have J107 : AW Y (WY g) r 5 6 57 [(0, .ref (wad (WY g) 0)), (1, .int p1), (2, .int p2), (4, .int p4)] [.int q105, .int p3] q103.2 := by
        refine aw_ior E dX9_laws_57 ?_
        obtain ⟨x108, e109, hh⟩ := lt_e hh
        refine aw_nmI e109 ?_
        refine aw_istore_n (L1 := [(3, .int x108), (0, .ref (wad (WY g) 0)), (1, .int p1), (2, .int p2), (4, .int p4)]) E dX9_laws_58 (Nat.le_of_ble_eq_true rfl) rfl ?_
        obtain ⟨x110, e111, hh⟩ := lt_e hh
        refine aw_iinc (v := x110) (L1 := [(4, .int x110), (3, .int x108), (0, .ref (wad (WY g) 0)), (1, .int p1), (2, .int p2)]) E dX9_laws_59 4 rfl e111 (Nat.le_of_ble_eq_true rfl) rfl ?_
        refine aw_goto (tgt := 21) E dX9_laws_62 rfl ?_
        refine aw_sub (L1 := [(0, .ref (wad (WY g) 0)), (1, .int p1), (2, .int p2), (3, .int x108), (4, .int x110)]) [2, 3, 4, 1, 0] rfl ?_
        exact ih x108 x110 q103.2 _ hh kx
      refine aw_icmp_ne (tgt := 56) E dX9_laws_46 rfl (fun c46 => ?_) (fun c46 => ?_)
      ·
        replace e106 := iq c46 e106
        refine aw_iconst (v := 0) E dX9_laws_56 (by decide) ?_
        refine aw_sub (L1 := [(0, .ref (wad (WY g) 0)), (1, .int p1), (2, .int p2), (4, .int p4)]) [0, 1, 2, 4] rfl ?_
        subst e106
        exact J107
      ·
        replace e106 := ip c46 e106
        refine aw_iconst (v := 1) E dX9_laws_49 (by decide) ?_
        refine aw_iload E dX9_laws_50 4 rfl ?_
        refine aw_ishl E dX9_laws_52 ?_
        refine aw_goto (tgt := 57) E dX9_laws_53 rfl ?_
        refine aw_sub (L1 := [(0, .ref (wad (WY g) 0)), (1, .int p1), (2, .int p2), (4, .int p4)]) [0, 1, 2, 4] rfl ?_
        subst e106
        exact J107
set_option maxHeartbeats 4000000 in
set_option maxRecDepth 100000 in
theorem ctX9_laws (l : Launch) (g : CtxG) (a1 : Int32) (M : Mem) (r0 : Int32 × Mem) (h : FX9_laws a1 M = some r0) : Ct l (WY g) yX9_laws cX9_laws 5 (some .int) 6 [.ref (wad (WY g) 0), .int a1] M (some (.int r0.1), r0.2) := by
  refine Ct.of (by decide) (Nat.le_of_ble_eq_true rfl) (fun Y hY E => ?_)
  have E : EV Y (WY g) cX9_laws 5 (some .int) RX9 := E
  have h : FX9_laws a1 M = some r0 := h
  unfold FX9_laws at h
  show AW Y (WY g) _ 5 6 0 [(0, .ref (wad (WY g) 0)), (1, .int a1)] [] M
  obtain ⟨r, hr⟩ : ∃ r : Option Value × Mem, r = (some (.int r0.1), r0.2) := ⟨_, rfl⟩
  rw [← hr]
  refine aw_aload_n E dX9_laws_0 0 rfl ?_
  refine aw_iload_n E dX9_laws_1 1 rfl ?_
  obtain ⟨q1, e2, h⟩ := bd_e h
  refine aw_callVi (S := []) E mvX9_isOther mlX9_257 (Nat.le_of_ble_eq_true rfl) rfl rfl rfl (ctX9_isOther (yl Y) g a1  M q1 e2) rfl (Nat.le_of_ble_eq_true rfl) (Nat.le_of_ble_eq_true rfl) dX9_laws_2 ?_
  refine aw_if_ne (tgt := 11) E dX9_laws_5 rfl (fun c5 => ?_) (fun c5 => ?_)
  ·
    replace h := iq c5 h
    refine aw_aload_n E dX9_laws_11 0 rfl ?_
    refine aw_getI E flX9_111 (Nat.le_of_ble_eq_true rfl) rfl rfl dX9_laws_12 ?_
    obtain ⟨x3, e4, h⟩ := lt_e h
    refine aw_nmI e4 ?_
    refine aw_istore_n (L1 := [(2, .int x3), (0, .ref (wad (WY g) 0)), (1, .int a1)]) E dX9_laws_15 (Nat.le_of_ble_eq_true rfl) rfl ?_
    refine aw_iconst (v := 0) E dX9_laws_16 (by decide) ?_
    refine aw_istore_n (L1 := [(3, .int 0), (2, .int x3), (0, .ref (wad (WY g) 0)), (1, .int a1)]) E dX9_laws_17 (Nat.le_of_ble_eq_true rfl) rfl ?_
    refine aw_iconst (v := 0) E dX9_laws_18 (by decide) ?_
    refine aw_istore (L1 := [(4, .int 0), (3, .int 0), (2, .int x3), (0, .ref (wad (WY g) 0)), (1, .int a1)]) E dX9_laws_19 (Nat.le_of_ble_eq_true rfl) rfl ?_
    obtain ⟨q5, e6, h⟩ := bd_e h
    refine aw_sub (L1 := [(0, .ref (wad (WY g) 0)), (1, .int a1), (2, .int x3), (3, .int 0), (4, .int 0)]) [3, 4, 2, 1, 0] rfl ?_
    refine lpX9_laws_21 E   a1 x3 FU 0 0 M q5 e6 ?_
    refine aw_aload_n E dX9_laws_65 0 rfl ?_
    refine aw_iload_n E dX9_laws_66 1 rfl ?_
    obtain ⟨M7, e8, h⟩ := lt_e h
    refine aw_putI1 e8 E flX9_111 (Nat.le_of_ble_eq_true rfl) rfl rfl nr_int dX9_laws_67 ?_
    refine aw_iload_n E dX9_laws_70 2 rfl ?_
    replace h := Option.some.inj h
    subst h
    exact aw_iret E dX9_laws_71 hr
  ·
    replace h := ip c5 h
    refine aw_bipush (v := (-5)) E dX9_laws_8 (by decide) ?_
    replace h := Option.some.inj h
    subst h
    exact aw_iret E dX9_laws_10 hr
