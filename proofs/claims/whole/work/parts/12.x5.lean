/-! PRINTED by wip/gen: pure functions of the methods, and that the machine does what they say -/
def FX5_at (a1 : Int32) (M : Mem) : Option (Int32) :=
  lt (α := Bool) (if a1 < 0 then false else if (M.1 10 1) ≤ a1 then false else true) fun b1 =>
  if b1 = true then
    gi a1 160 <|
    some (M.1 11 (Int32.toNatClampNeg a1))
  else
    some (-1)
set_option maxHeartbeats 4000000 in
set_option maxRecDepth 100000 in
theorem ctX5_at (l : Launch) (g : CtxG) (a1 : Int32) (M : Mem) (r0 : Int32) (h : FX5_at a1 M = some r0) : Ct l (WX g) yX5_at cX5_at 2 (some .int) 1 [.ref (wad (WX g) 10), .int a1] M (some (.int r0), M) := by
  refine Ct.of (by decide) (Nat.le_of_ble_eq_true rfl) (fun Y hY E => ?_)
  have E : EV Y (WX g) cX5_at 2 (some .int) RX5 := E
  have h : FX5_at a1 M = some r0 := h
  unfold FX5_at at h
  show AW Y (WX g) _ 2 1 0 [(0, .ref (wad (WX g) 10)), (1, .int a1)] [] M
  obtain ⟨r, hr⟩ : ∃ r : Option Value × Mem, r = (some (.int r0), M) := ⟨_, rfl⟩
  rw [← hr]
  refine aw_iload_n E dX5_at_0 1 rfl ?_
  obtain ⟨b1, e2, h⟩ := lt_e h
  have J3 : b1 = true → AW Y (WX g) r 2 1 12 [(0, .ref (wad (WX g) 10)), (1, .int a1)] [] M := fun hb => by
    replace h := ip hb h
    refine aw_aload_n E dX5_at_12 0 rfl ?_
    refine aw_getR (q := 11) E flX5_9 (Nat.le_of_ble_eq_true rfl) rfl rfl dX5_at_13 ?_
    refine aw_iload_n E dX5_at_16 1 rfl ?_
    obtain ⟨g5, h⟩ := gi_e h
    refine aw_iald E (Nat.le_of_ble_eq_true rfl) rfl g5 dX5_at_17 ?_
    refine aw_goto (tgt := 22) E dX5_at_18 rfl ?_
    replace h := Option.some.inj h
    subst h
    exact aw_iret E dX5_at_22 hr
  have J4 : b1 = false → AW Y (WX g) r 2 1 21 [(0, .ref (wad (WX g) 10)), (1, .int a1)] [] M := fun hb => by
    replace h := iq (bf hb) h
    refine aw_iconst (v := (-1)) E dX5_at_21 (by decide) ?_
    replace h := Option.some.inj h
    subst h
    exact aw_iret E dX5_at_22 hr
  refine aw_if_lt (tgt := 21) E dX5_at_1 rfl (fun c1 => ?_) (fun c1 => ?_)
  ·
    replace e2 := ip c1 e2
    subst e2
    exact J4 rfl
  ·
    replace e2 := iq c1 e2
    refine aw_iload_n E dX5_at_4 1 rfl ?_
    refine aw_aload_n E dX5_at_5 0 rfl ?_
    refine aw_getI E flX5_21 (Nat.le_of_ble_eq_true rfl) rfl rfl dX5_at_6 ?_
    refine aw_icmp_ge (tgt := 21) E dX5_at_9 rfl (fun c9 => ?_) (fun c9 => ?_)
    ·
      replace e2 := ip c9 e2
      subst e2
      exact J4 rfl
    ·
      replace e2 := iq c9 e2
      subst e2
      exact J3 rfl
def FX5_isLetter (a1 : Int32) (M : Mem) : Option (Int32) :=
  ob (FX5_at a1 M) fun q1 =>
  ob (α := Bool) (if q1 < 97 then
    some false
  else
    ob (FX5_at a1 M) fun q7 =>
    if 122 < q7 then some false else some true) fun b3 =>
  if b3 = true then
    some 1
  else
    some 0
set_option maxHeartbeats 4000000 in
set_option maxRecDepth 100000 in
theorem ctX5_isLetter (l : Launch) (g : CtxG) (a1 : Int32) (M : Mem) (r0 : Int32) (h : FX5_isLetter a1 M = some r0) : Ct l (WX g) yX5_isLetter cX5_isLetter 2 (some .boolean) 2 [.ref (wad (WX g) 10), .int a1] M (some (.int r0), M) := by
  refine Ct.of (by decide) (Nat.le_of_ble_eq_true rfl) (fun Y hY E => ?_)
  have E : EV Y (WX g) cX5_isLetter 2 (some .boolean) RX5 := E
  have h : FX5_isLetter a1 M = some r0 := h
  unfold FX5_isLetter at h
  show AW Y (WX g) _ 2 2 0 [(0, .ref (wad (WX g) 10)), (1, .int a1)] [] M
  obtain ⟨r, hr⟩ : ∃ r : Option Value × Mem, r = (some (.int r0), M) := ⟨_, rfl⟩
  rw [← hr]
  refine aw_aload_n E dX5_isLetter_0 0 rfl ?_
  refine aw_iload_n E dX5_isLetter_1 1 rfl ?_
  obtain ⟨q1, e2, h⟩ := bd_e h
  refine aw_callVi (S := []) E mvX5_at mlX5_53 (Nat.le_of_ble_eq_true rfl) rfl rfl rfl (ctX5_at (yl Y) g a1  M q1 e2) rfl (Nat.le_of_ble_eq_true rfl) (Nat.le_of_ble_eq_true rfl) dX5_isLetter_2 ?_
  refine aw_bipush (v := 97) E dX5_isLetter_5 (by decide) ?_
  obtain ⟨b3, e4, h⟩ := bd_e h
  have J5 : b3 = true → AW Y (WX g) r 2 2 20 [(0, .ref (wad (WX g) 10)), (1, .int a1)] [] M := fun hb => by
    replace h := ip hb h
    refine aw_iconst (v := 1) E dX5_isLetter_20 (by decide) ?_
    refine aw_goto (tgt := 25) E dX5_isLetter_21 rfl ?_
    replace h := Option.some.inj h
    subst h
    exact aw_zret E (by decide) dX5_isLetter_25 hr
  have J6 : b3 = false → AW Y (WX g) r 2 2 24 [(0, .ref (wad (WX g) 10)), (1, .int a1)] [] M := fun hb => by
    replace h := iq (bf hb) h
    refine aw_iconst (v := 0) E dX5_isLetter_24 (by decide) ?_
    replace h := Option.some.inj h
    subst h
    exact aw_zret E (by decide) dX5_isLetter_25 hr
  refine aw_icmp_lt (tgt := 24) E dX5_isLetter_7 rfl (fun c7 => ?_) (fun c7 => ?_)
  ·
    replace e4 := ip c7 e4
    replace e4 := Option.some.inj e4
    subst e4
    exact J6 rfl
  ·
    replace e4 := iq c7 e4
    refine aw_aload_n E dX5_isLetter_10 0 rfl ?_
    refine aw_iload_n E dX5_isLetter_11 1 rfl ?_
    obtain ⟨q7, e8, e4⟩ := bd_e e4
    refine aw_callVi (S := []) E mvX5_at mlX5_53 (Nat.le_of_ble_eq_true rfl) rfl rfl rfl (ctX5_at (yl Y) g a1  M q7 e8) rfl (Nat.le_of_ble_eq_true rfl) (Nat.le_of_ble_eq_true rfl) dX5_isLetter_12 ?_
    refine aw_bipush (v := 122) E dX5_isLetter_15 (by decide) ?_
    refine aw_icmp_gt (tgt := 24) E dX5_isLetter_17 rfl (fun c17 => ?_) (fun c17 => ?_)
    ·
      replace e4 := ip c17 e4
      replace e4 := Option.some.inj e4
      subst e4
      exact J6 rfl
    ·
      replace e4 := iq c17 e4
      replace e4 := Option.some.inj e4
      subst e4
      exact J5 rfl
def FX5_isWord_L36 : Nat → Int32 → Int32 → Int32 → Mem → Option (Int32 ⊕ (Unit))
  | 0, _, _, _, _ => none
  | f + 1, p1, p2, p3, M =>
    if p2 ≤ p3 then
      some (.inr (()))
    else
      gi p3 57 <|
      ob (FX5_at (((M.1 10 5) + p3) - p1) M) fun q102 =>
      if (sch 1 p3) = q102 then
        lt (α := Int32) (p3 + 1) fun x104 =>
        FX5_isWord_L36 f p1 p2 x104 M
      else
        some (.inl 0)
def FX5_isWord (a1 : Int32) (M : Mem) : Option (Int32) :=
  lt (α := Int32) ((a1 + (M.1 10 6)) - (M.1 10 5)) fun x1 =>
  ob (α := Bool) (if 57 ≤ x1 then
    some true
  else
    gi x1 57 <|
    if (sch 1 x1) = 32 then some false else some true) fun b3 =>
  if b3 = true then
    some 0
  else
    ob (FX5_isWord_L36 FU a1 x1 a1 M) fun q7 => Sum.elim (fun v9 => some v9) (fun q11 =>
      some 1) q7
set_option maxHeartbeats 4000000 in
set_option maxRecDepth 100000 in
theorem lpX5_isWord_36 {Y : CtxM} {g : CtxG} {r : Option Value × Mem} (E : EV Y (WX g) cX5_isWord 4 (some .boolean) RX5) (p1 : Int32) (p2 : Int32) : ∀ (f : Nat) (p3 : Int32) (M : Mem) (q : Int32 ⊕ (Unit)), FX5_isWord_L36 f p1 p2 p3 M = some q → (∀ v, q = .inl v → r = (some (.int v), M)) → (∀ t, q = .inr t → AW Y (WX g) r 4 8 70 [] [] M) → AW Y (WX g) r 4 8 36 [(0, .ref (wad (WX g) 10)), (1, .int p1), (2, .int p2), (3, .int p3)] [] M := by
  intro f
  induction f with
  | zero => intro p3 M q hh; exact absurd hh (fun z => nomatch (show (none : Option (Int32 ⊕ (Unit))) = some q from z))
  | succ f ih =>
    intro p3 M q hh kr kx
    rw [FX5_isWord_L36] at hh
    refine aw_iload_n E dX5_isWord_36 3 rfl ?_
    refine aw_iload_n E dX5_isWord_37 2 rfl ?_
    refine aw_icmp_ge (tgt := 70) E dX5_isWord_38 rfl (fun c38 => ?_) (fun c38 => ?_)
    ·
      replace hh := ip c38 hh
      refine aw_sub (L1 := []) [] rfl ?_
      replace hh := Option.some.inj hh
      subst hh
      exact kx _ rfl
    ·
      replace hh := iq c38 hh
      refine aw_ldcS (i := 1) E (by decide) rfl rfl dX5_isWord_41 ?_
      refine aw_iload_n E dX5_isWord_43 3 rfl ?_
      obtain ⟨g101, hh⟩ := gi_e hh
      refine aw_sch (i := 1) E mlX5_80 (by decide) g101 (Nat.le_of_ble_eq_true rfl) (Nat.le_of_ble_eq_true rfl) dX5_isWord_44 ?_
      refine aw_aload_n E dX5_isWord_47 0 rfl ?_
      refine aw_aload_n E dX5_isWord_48 0 rfl ?_
      refine aw_getI E flX5_50 (Nat.le_of_ble_eq_true rfl) rfl rfl dX5_isWord_49 ?_
      refine aw_iload_n E dX5_isWord_52 3 rfl ?_
      refine aw_iadd E dX5_isWord_53 ?_
      refine aw_iload_n E dX5_isWord_54 1 rfl ?_
      refine aw_isub E dX5_isWord_55 ?_
      obtain ⟨q102, e103, hh⟩ := bd_e hh
      refine aw_callVi (S := [.int (sch 1 p3)]) E mvX5_at mlX5_53 (Nat.le_of_ble_eq_true rfl) rfl rfl rfl (ctX5_at (yl Y) g (((M.1 10 5) + p3) - p1)  M q102 e103) rfl (Nat.le_of_ble_eq_true rfl) (Nat.le_of_ble_eq_true rfl) dX5_isWord_56 ?_
      refine aw_icmp_eq (tgt := 64) E dX5_isWord_59 rfl (fun c59 => ?_) (fun c59 => ?_)
      ·
        replace hh := ip c59 hh
        obtain ⟨x104, e105, hh⟩ := lt_e hh
        refine aw_iinc (v := x104) (L1 := [(3, .int x104), (0, .ref (wad (WX g) 10)), (1, .int p1), (2, .int p2)]) E dX5_isWord_64 3 rfl e105 (Nat.le_of_ble_eq_true rfl) rfl ?_
        refine aw_goto (tgt := 36) E dX5_isWord_67 rfl ?_
        refine aw_sub (L1 := [(0, .ref (wad (WX g) 10)), (1, .int p1), (2, .int p2), (3, .int x104)]) [1, 2, 3, 0] rfl ?_
        exact ih x104 M _ hh kr kx
      ·
        replace hh := iq c59 hh
        refine aw_iconst (v := 0) E dX5_isWord_62 (by decide) ?_
        replace hh := Option.some.inj hh
        subst hh
        exact aw_zret E (by decide) dX5_isWord_63 (kr _ rfl)
set_option maxHeartbeats 4000000 in
set_option maxRecDepth 100000 in
theorem ctX5_isWord (l : Launch) (g : CtxG) (a1 : Int32) (M : Mem) (r0 : Int32) (h : FX5_isWord a1 M = some r0) : Ct l (WX g) yX5_isWord cX5_isWord 4 (some .boolean) 8 [.ref (wad (WX g) 10), .int a1] M (some (.int r0), M) := by
  refine Ct.of (by decide) (Nat.le_of_ble_eq_true rfl) (fun Y hY E => ?_)
  have E : EV Y (WX g) cX5_isWord 4 (some .boolean) RX5 := E
  have h : FX5_isWord a1 M = some r0 := h
  unfold FX5_isWord at h
  show AW Y (WX g) _ 4 8 0 [(0, .ref (wad (WX g) 10)), (1, .int a1)] [] M
  obtain ⟨r, hr⟩ : ∃ r : Option Value × Mem, r = (some (.int r0), M) := ⟨_, rfl⟩
  rw [← hr]
  refine aw_iload_n E dX5_isWord_0 1 rfl ?_
  refine aw_aload_n E dX5_isWord_1 0 rfl ?_
  refine aw_getI E flX5_28 (Nat.le_of_ble_eq_true rfl) rfl rfl dX5_isWord_2 ?_
  refine aw_iadd E dX5_isWord_5 ?_
  refine aw_aload_n E dX5_isWord_6 0 rfl ?_
  refine aw_getI E flX5_50 (Nat.le_of_ble_eq_true rfl) rfl rfl dX5_isWord_7 ?_
  refine aw_isub E dX5_isWord_10 ?_
  obtain ⟨x1, e2, h⟩ := lt_e h
  refine aw_nmI e2 ?_
  refine aw_istore_n (L1 := [(2, .int x1), (0, .ref (wad (WX g) 10)), (1, .int a1)]) E dX5_isWord_11 (Nat.le_of_ble_eq_true rfl) rfl ?_
  refine aw_iload_n E dX5_isWord_12 0 rfl ?_
  refine aw_ldcS (i := 1) E (by decide) rfl rfl dX5_isWord_13 ?_
  refine aw_slen (i := 1) (v := 57) E mlX5_76 (by decide) rfl (Nat.le_of_ble_eq_true rfl) (Nat.le_of_ble_eq_true rfl) dX5_isWord_15 ?_
  obtain ⟨b3, e4, h⟩ := bd_e h
  have J5 : b3 = true → AW Y (WX g) r 4 8 32 [(2, .int x1), (0, .ref (wad (WX g) 10)), (1, .int a1)] [] M := fun hb => by
    replace h := ip hb h
    refine aw_iconst (v := 0) E dX5_isWord_32 (by decide) ?_
    replace h := Option.some.inj h
    subst h
    exact aw_zret E (by decide) dX5_isWord_33 hr
  have J6 : b3 = false → AW Y (WX g) r 4 8 34 [(2, .int x1), (0, .ref (wad (WX g) 10)), (1, .int a1)] [] M := fun hb => by
    replace h := iq (bf hb) h
    refine aw_iload_n E dX5_isWord_34 2 rfl ?_
    refine aw_istore_n (L1 := [(3, .int a1), (2, .int x1), (0, .ref (wad (WX g) 10)), (1, .int a1)]) E dX5_isWord_35 (Nat.le_of_ble_eq_true rfl) rfl ?_
    obtain ⟨q7, e8, h⟩ := bd_e h
    refine aw_sub (L1 := [(0, .ref (wad (WX g) 10)), (1, .int a1), (2, .int x1), (3, .int a1)]) [2, 3, 1, 0] rfl ?_
    refine lpX5_isWord_36 E   a1 x1 FU a1 M q7 e8 (fun v9 e10 => ?_) (fun q11 e12 => ?_)
    ·
      subst e10
      replace h := Option.some.inj h
      subst h
      exact hr
    ·
      subst e12
      refine aw_iconst (v := 1) E dX5_isWord_70 (by decide) ?_
      replace h := Option.some.inj h
      subst h
      exact aw_zret E (by decide) dX5_isWord_71 hr
  refine aw_icmp_ge (tgt := 32) E dX5_isWord_18 rfl (fun c18 => ?_) (fun c18 => ?_)
  ·
    replace e4 := ip c18 e4
    replace e4 := Option.some.inj e4
    subst e4
    exact J5 rfl
  ·
    replace e4 := iq c18 e4
    refine aw_ldcS (i := 1) E (by decide) rfl rfl dX5_isWord_21 ?_
    refine aw_iload_n E dX5_isWord_23 0 rfl ?_
    obtain ⟨g13, e4⟩ := gi_e e4
    refine aw_sch (i := 1) E mlX5_80 (by decide) g13 (Nat.le_of_ble_eq_true rfl) (Nat.le_of_ble_eq_true rfl) dX5_isWord_24 ?_
    refine aw_bipush (v := 32) E dX5_isWord_27 (by decide) ?_
    refine aw_icmp_eq (tgt := 34) E dX5_isWord_29 rfl (fun c29 => ?_) (fun c29 => ?_)
    ·
      replace e4 := ip c29 e4
      replace e4 := Option.some.inj e4
      subst e4
      exact J6 rfl
    ·
      replace e4 := iq c29 e4
      replace e4 := Option.some.inj e4
      subst e4
      exact J5 rfl
def FX5_wordToken_L0 : Nat → Mem → Option (Mem)
  | 0, _ => none
  | f + 1, M =>
    ob (α := Bool) (if (M.1 10 1) ≤ (M.1 10 6) then
      some false
    else
      ob (FX5_isLetter (M.1 10 6) M) fun q107 =>
      if q107 = 0 then some false else some true) fun b101 =>
    if b101 = true then
      lt (wr M 10 6 ((M.1 10 6) + 1)) fun M105 =>
      FX5_wordToken_L0 f M105
    else
      some M
def FX5_wordToken_L41 : Nat → Int32 → Int32 → Mem → Option (Int32 × Mem ⊕ (Unit))
  | 0, _, _, _ => none
  | f + 1, p1, p2, M =>
    if (57 - 1) ≤ p2 then
      some (.inr (()))
    else
      gi p2 57 <|
      if (sch 1 p2) = 32 then
        ob (FX5_isWord (p2 + 1) M) fun q202 =>
        if q202 = 0 then
          lt (α := Int32) (p1 + 1) fun x204 =>
          lt (α := Int32) (p2 + 1) fun x206 =>
          FX5_wordToken_L41 f  x204 x206 M
        else
          some (.inl (p1, M))
      else
        lt (α := Int32) (p2 + 1) fun x208 =>
        FX5_wordToken_L41 f  p1 x208 M
def FX5_wordToken  (M : Mem) : Option (Int32 × Mem) :=
  ob (FX5_wordToken_L0 FU M) fun q1 =>
  ob (FX5_wordToken_L41 FU 256 0 q1) fun q3 => Sum.elim (fun v5 => some v5) (fun q7 =>
    some (1, q1)) q3
set_option maxHeartbeats 4000000 in
set_option maxRecDepth 100000 in
theorem lpX5_wordToken_0 {Y : CtxM} {g : CtxG} {r : Option Value × Mem} (E : EV Y (WX g) cX5_wordToken 3 (some .int) RX5) : ∀ (f : Nat)  (M : Mem) (q : Mem), FX5_wordToken_L0 f M = some q → AW Y (WX g) r 3 9 35 [(0, .ref (wad (WX g) 10))] [] q → AW Y (WX g) r 3 9 0 [(0, .ref (wad (WX g) 10))] [] M := by
  intro f
  induction f with
  | zero => intro  M q hh; exact absurd hh (fun z => nomatch (show (none : Option (Mem)) = some q from z))
  | succ f ih =>
    intro  M q hh kx
    rw [FX5_wordToken_L0] at hh
    refine aw_aload_n E dX5_wordToken_0 0 rfl ?_
    refine aw_getI E flX5_28 (Nat.le_of_ble_eq_true rfl) rfl rfl dX5_wordToken_1 ?_
    refine aw_aload_n E dX5_wordToken_4 0 rfl ?_
    refine aw_getI E flX5_21 (Nat.le_of_ble_eq_true rfl) rfl rfl dX5_wordToken_5 ?_
    obtain ⟨b101, e102, hh⟩ := bd_e hh
    have J103 : b101 = true → AW Y (WX g) r 3 9 22 [(0, .ref (wad (WX g) 10))] [] M := fun hb => by
      replace hh := ip hb hh
      refine aw_aload_n E dX5_wordToken_22 0 rfl ?_
      refine aw_dup E dX5_wordToken_23 rfl ?_
      refine aw_getI E flX5_28 (Nat.le_of_ble_eq_true rfl) rfl rfl dX5_wordToken_24 ?_
      refine aw_iconst (v := 1) E dX5_wordToken_27 (by decide) ?_
      refine aw_iadd E dX5_wordToken_28 ?_
      obtain ⟨M105, e106, hh⟩ := lt_e hh
      refine aw_putI1 e106 E flX5_28 (Nat.le_of_ble_eq_true rfl) rfl rfl nr_int dX5_wordToken_29 ?_
      refine aw_goto (tgt := 0) E dX5_wordToken_32 rfl ?_
      refine aw_sub (L1 := [(0, .ref (wad (WX g) 10))]) [0] rfl ?_
      exact ih  M105 _ hh kx
    have J104 : b101 = false → AW Y (WX g) r 3 9 35 [(0, .ref (wad (WX g) 10))] [] M := fun hb => by
      replace hh := iq (bf hb) hh
      refine aw_sub (L1 := [(0, .ref (wad (WX g) 10))]) [0] rfl ?_
      replace hh := Option.some.inj hh
      subst hh
      exact kx
    refine aw_icmp_ge (tgt := 35) E dX5_wordToken_8 rfl (fun c8 => ?_) (fun c8 => ?_)
    ·
      replace e102 := ip c8 e102
      replace e102 := Option.some.inj e102
      subst e102
      exact J104 rfl
    ·
      replace e102 := iq c8 e102
      refine aw_aload_n E dX5_wordToken_11 0 rfl ?_
      refine aw_aload_n E dX5_wordToken_12 0 rfl ?_
      refine aw_getI E flX5_28 (Nat.le_of_ble_eq_true rfl) rfl rfl dX5_wordToken_13 ?_
      obtain ⟨q107, e108, e102⟩ := bd_e e102
      refine aw_callVi (S := []) E mvX5_isLetter mlX5_57 (Nat.le_of_ble_eq_true rfl) rfl rfl rfl (ctX5_isLetter (yl Y) g (M.1 10 6)  M q107 e108) rfl (Nat.le_of_ble_eq_true rfl) (Nat.le_of_ble_eq_true rfl) dX5_wordToken_16 ?_
      refine aw_if_eq (tgt := 35) E dX5_wordToken_19 rfl (fun c19 => ?_) (fun c19 => ?_)
      ·
        replace e102 := ip c19 e102
        replace e102 := Option.some.inj e102
        subst e102
        exact J104 rfl
      ·
        replace e102 := iq c19 e102
        replace e102 := Option.some.inj e102
        subst e102
        exact J103 rfl
set_option maxHeartbeats 4000000 in
set_option maxRecDepth 100000 in
theorem lpX5_wordToken_41 {Y : CtxM} {g : CtxG} {r : Option Value × Mem} (E : EV Y (WX g) cX5_wordToken 3 (some .int) RX5) : ∀ (f : Nat) (p1 : Int32) (p2 : Int32) (M : Mem) (q : Int32 × Mem ⊕ (Unit)), FX5_wordToken_L41 f  p1 p2 M = some q → (∀ v, q = .inl v → r = (some (.int v.1), v.2)) → (∀ t, q = .inr t → AW Y (WX g) r 3 9 87 [] [] M) → AW Y (WX g) r 3 9 41 [(0, .ref (wad (WX g) 10)), (1, .int p1), (2, .int p2)] [] M := by
  intro f
  induction f with
  | zero => intro p1 p2 M q hh; exact absurd hh (fun z => nomatch (show (none : Option (Int32 × Mem ⊕ (Unit))) = some q from z))
  | succ f ih =>
    intro p1 p2 M q hh kr kx
    rw [FX5_wordToken_L41] at hh
    refine aw_iload_n E dX5_wordToken_41 2 rfl ?_
    refine aw_ldcS (i := 1) E (by decide) rfl rfl dX5_wordToken_42 ?_
    refine aw_slen (i := 1) (v := 57) E mlX5_76 (by decide) rfl (Nat.le_of_ble_eq_true rfl) (Nat.le_of_ble_eq_true rfl) dX5_wordToken_44 ?_
    refine aw_iconst (v := 1) E dX5_wordToken_47 (by decide) ?_
    refine aw_isub E dX5_wordToken_48 ?_
    refine aw_icmp_ge (tgt := 87) E dX5_wordToken_49 rfl (fun c49 => ?_) (fun c49 => ?_)
    ·
      replace hh := ip c49 hh
      refine aw_sub (L1 := []) [] rfl ?_
      replace hh := Option.some.inj hh
      subst hh
      exact kx _ rfl
    ·
      replace hh := iq c49 hh
      refine aw_ldcS (i := 1) E (by decide) rfl rfl dX5_wordToken_52 ?_
      refine aw_iload_n E dX5_wordToken_54 2 rfl ?_
      obtain ⟨g201, hh⟩ := gi_e hh
      refine aw_sch (i := 1) E mlX5_80 (by decide) g201 (Nat.le_of_ble_eq_true rfl) (Nat.le_of_ble_eq_true rfl) dX5_wordToken_55 ?_
      refine aw_bipush (v := 32) E dX5_wordToken_58 (by decide) ?_
      refine aw_icmp_eq (tgt := 66) E dX5_wordToken_60 rfl (fun c60 => ?_) (fun c60 => ?_)
      ·
        replace hh := ip c60 hh
        refine aw_aload_n E dX5_wordToken_66 0 rfl ?_
        refine aw_iload_n E dX5_wordToken_67 2 rfl ?_
        refine aw_iconst (v := 1) E dX5_wordToken_68 (by decide) ?_
        refine aw_iadd E dX5_wordToken_69 ?_
        obtain ⟨q202, e203, hh⟩ := bd_e hh
        refine aw_callVi (S := []) E mvX5_isWord mlX5_84 (Nat.le_of_ble_eq_true rfl) rfl rfl rfl (ctX5_isWord (yl Y) g (p2 + 1)  M q202 e203) rfl (Nat.le_of_ble_eq_true rfl) (Nat.le_of_ble_eq_true rfl) dX5_wordToken_70 ?_
        refine aw_if_eq (tgt := 78) E dX5_wordToken_73 rfl (fun c73 => ?_) (fun c73 => ?_)
        ·
          replace hh := ip c73 hh
          obtain ⟨x204, e205, hh⟩ := lt_e hh
          refine aw_iinc (v := x204) (L1 := [(1, .int x204), (0, .ref (wad (WX g) 10)), (2, .int p2)]) E dX5_wordToken_78 1 rfl e205 (Nat.le_of_ble_eq_true rfl) rfl ?_
          obtain ⟨x206, e207, hh⟩ := lt_e hh
          refine aw_iinc (v := x206) (L1 := [(2, .int x206), (1, .int x204), (0, .ref (wad (WX g) 10))]) E dX5_wordToken_81 2 rfl e207 (Nat.le_of_ble_eq_true rfl) rfl ?_
          refine aw_goto (tgt := 41) E dX5_wordToken_84 rfl ?_
          refine aw_sub (L1 := [(0, .ref (wad (WX g) 10)), (1, .int x204), (2, .int x206)]) [2, 1, 0] rfl ?_
          exact ih x204 x206 M _ hh kr kx
        ·
          replace hh := iq c73 hh
          refine aw_iload_n E dX5_wordToken_76 1 rfl ?_
          replace hh := Option.some.inj hh
          subst hh
          exact aw_iret E dX5_wordToken_77 (kr _ rfl)
      ·
        replace hh := iq c60 hh
        refine aw_goto (tgt := 81) E dX5_wordToken_63 rfl ?_
        obtain ⟨x208, e209, hh⟩ := lt_e hh
        refine aw_iinc (v := x208) (L1 := [(2, .int x208), (0, .ref (wad (WX g) 10)), (1, .int p1)]) E dX5_wordToken_81 2 rfl e209 (Nat.le_of_ble_eq_true rfl) rfl ?_
        refine aw_goto (tgt := 41) E dX5_wordToken_84 rfl ?_
        refine aw_sub (L1 := [(0, .ref (wad (WX g) 10)), (1, .int p1), (2, .int x208)]) [1, 2, 0] rfl ?_
        exact ih p1 x208 M _ hh kr kx
set_option maxHeartbeats 4000000 in
set_option maxRecDepth 100000 in
theorem ctX5_wordToken (l : Launch) (g : CtxG)  (M : Mem) (r0 : Int32 × Mem) (h : FX5_wordToken M = some r0) : Ct l (WX g) yX5_wordToken cX5_wordToken 3 (some .int) 9 [.ref (wad (WX g) 10)] M (some (.int r0.1), r0.2) := by
  refine Ct.of (by decide) (Nat.le_of_ble_eq_true rfl) (fun Y hY E => ?_)
  have E : EV Y (WX g) cX5_wordToken 3 (some .int) RX5 := E
  have h : FX5_wordToken  M = some r0 := h
  unfold FX5_wordToken at h
  show AW Y (WX g) _ 3 9 0 [(0, .ref (wad (WX g) 10))] [] M
  obtain ⟨r, hr⟩ : ∃ r : Option Value × Mem, r = (some (.int r0.1), r0.2) := ⟨_, rfl⟩
  rw [← hr]
  obtain ⟨q1, e2, h⟩ := bd_e h
  refine aw_sub (L1 := [(0, .ref (wad (WX g) 10))]) [0] rfl ?_
  refine lpX5_wordToken_0 E    FU  M q1 e2 ?_
  refine aw_sipush (v := 256) E dX5_wordToken_35 (by decide) ?_
  refine aw_istore_n (L1 := [(1, .int 256), (0, .ref (wad (WX g) 10))]) E dX5_wordToken_38 (Nat.le_of_ble_eq_true rfl) rfl ?_
  refine aw_iconst (v := 0) E dX5_wordToken_39 (by decide) ?_
  refine aw_istore_n (L1 := [(2, .int 0), (1, .int 256), (0, .ref (wad (WX g) 10))]) E dX5_wordToken_40 (Nat.le_of_ble_eq_true rfl) rfl ?_
  obtain ⟨q3, e4, h⟩ := bd_e h
  refine aw_sub (L1 := [(0, .ref (wad (WX g) 10)), (1, .int 256), (2, .int 0)]) [2, 1, 0] rfl ?_
  refine lpX5_wordToken_41 E    FU 256 0 q1 q3 e4 (fun v5 e6 => ?_) (fun q7 e8 => ?_)
  ·
    subst e6
    replace h := Option.some.inj h
    subst h
    exact hr
  ·
    subst e8
    refine aw_iconst (v := 1) E dX5_wordToken_87 (by decide) ?_
    replace h := Option.some.inj h
    subst h
    exact aw_iret E dX5_wordToken_88 hr
def FX5_isDigit (a1 : Int32) (M : Mem) : Option (Int32) :=
  ob (FX5_at a1 M) fun q1 =>
  ob (α := Bool) (if q1 < 48 then
    some false
  else
    ob (FX5_at a1 M) fun q7 =>
    if 57 < q7 then some false else some true) fun b3 =>
  if b3 = true then
    some 1
  else
    some 0
set_option maxHeartbeats 4000000 in
set_option maxRecDepth 100000 in
theorem ctX5_isDigit (l : Launch) (g : CtxG) (a1 : Int32) (M : Mem) (r0 : Int32) (h : FX5_isDigit a1 M = some r0) : Ct l (WX g) yX5_isDigit cX5_isDigit 2 (some .boolean) 2 [.ref (wad (WX g) 10), .int a1] M (some (.int r0), M) := by
  refine Ct.of (by decide) (Nat.le_of_ble_eq_true rfl) (fun Y hY E => ?_)
  have E : EV Y (WX g) cX5_isDigit 2 (some .boolean) RX5 := E
  have h : FX5_isDigit a1 M = some r0 := h
  unfold FX5_isDigit at h
  show AW Y (WX g) _ 2 2 0 [(0, .ref (wad (WX g) 10)), (1, .int a1)] [] M
  obtain ⟨r, hr⟩ : ∃ r : Option Value × Mem, r = (some (.int r0), M) := ⟨_, rfl⟩
  rw [← hr]
  refine aw_aload_n E dX5_isDigit_0 0 rfl ?_
  refine aw_iload_n E dX5_isDigit_1 1 rfl ?_
  obtain ⟨q1, e2, h⟩ := bd_e h
  refine aw_callVi (S := []) E mvX5_at mlX5_53 (Nat.le_of_ble_eq_true rfl) rfl rfl rfl (ctX5_at (yl Y) g a1  M q1 e2) rfl (Nat.le_of_ble_eq_true rfl) (Nat.le_of_ble_eq_true rfl) dX5_isDigit_2 ?_
  refine aw_bipush (v := 48) E dX5_isDigit_5 (by decide) ?_
  obtain ⟨b3, e4, h⟩ := bd_e h
  have J5 : b3 = true → AW Y (WX g) r 2 2 20 [(0, .ref (wad (WX g) 10)), (1, .int a1)] [] M := fun hb => by
    replace h := ip hb h
    refine aw_iconst (v := 1) E dX5_isDigit_20 (by decide) ?_
    refine aw_goto (tgt := 25) E dX5_isDigit_21 rfl ?_
    replace h := Option.some.inj h
    subst h
    exact aw_zret E (by decide) dX5_isDigit_25 hr
  have J6 : b3 = false → AW Y (WX g) r 2 2 24 [(0, .ref (wad (WX g) 10)), (1, .int a1)] [] M := fun hb => by
    replace h := iq (bf hb) h
    refine aw_iconst (v := 0) E dX5_isDigit_24 (by decide) ?_
    replace h := Option.some.inj h
    subst h
    exact aw_zret E (by decide) dX5_isDigit_25 hr
  refine aw_icmp_lt (tgt := 24) E dX5_isDigit_7 rfl (fun c7 => ?_) (fun c7 => ?_)
  ·
    replace e4 := ip c7 e4
    replace e4 := Option.some.inj e4
    subst e4
    exact J6 rfl
  ·
    replace e4 := iq c7 e4
    refine aw_aload_n E dX5_isDigit_10 0 rfl ?_
    refine aw_iload_n E dX5_isDigit_11 1 rfl ?_
    obtain ⟨q7, e8, e4⟩ := bd_e e4
    refine aw_callVi (S := []) E mvX5_at mlX5_53 (Nat.le_of_ble_eq_true rfl) rfl rfl rfl (ctX5_at (yl Y) g a1  M q7 e8) rfl (Nat.le_of_ble_eq_true rfl) (Nat.le_of_ble_eq_true rfl) dX5_isDigit_12 ?_
    refine aw_bipush (v := 57) E dX5_isDigit_15 (by decide) ?_
    refine aw_icmp_gt (tgt := 24) E dX5_isDigit_17 rfl (fun c17 => ?_) (fun c17 => ?_)
    ·
      replace e4 := ip c17 e4
      replace e4 := Option.some.inj e4
      subst e4
      exact J6 rfl
    ·
      replace e4 := iq c17 e4
      replace e4 := Option.some.inj e4
      subst e4
      exact J5 rfl
def FX5_numberToken_L5 : Nat → Mem → Option (Mem)
  | 0, _ => none
  | f + 1, M =>
    ob (α := Bool) (if (M.1 10 1) ≤ (M.1 10 6) then
      some false
    else
      ob (FX5_isDigit (M.1 10 6) M) fun q111 =>
      if q111 = 0 then some false else some true) fun b101 =>
    if b101 = true then
      ob (FX5_at (M.1 10 6) M) fun q105 =>
      lt (wr M 10 8 ((((M.1 10 8) * 10) + q105) - 48)) fun M107 =>
      lt (wr M107 10 6 ((M107.1 10 6) + 1)) fun M109 =>
      FX5_numberToken_L5 f M109
    else
      some M
def FX5_numberToken  (M : Mem) : Option (Int32 × Mem) :=
  lt (wr M 10 8 0) fun M1 =>
  ob (FX5_numberToken_L5 FU M1) fun q3 =>
  if ((q3.1 10 6) - (q3.1 10 5)) ≤ 4 then
    some (2, q3)
  else
    some (1, q3)
set_option maxHeartbeats 4000000 in
set_option maxRecDepth 100000 in
theorem lpX5_numberToken_5 {Y : CtxM} {g : CtxG} {r : Option Value × Mem} (E : EV Y (WX g) cX5_numberToken 1 (some .int) RX5) : ∀ (f : Nat)  (M : Mem) (q : Mem), FX5_numberToken_L5 f M = some q → AW Y (WX g) r 1 3 63 [(0, .ref (wad (WX g) 10))] [] q → AW Y (WX g) r 1 3 5 [(0, .ref (wad (WX g) 10))] [] M := by
  intro f
  induction f with
  | zero => intro  M q hh; exact absurd hh (fun z => nomatch (show (none : Option (Mem)) = some q from z))
  | succ f ih =>
    intro  M q hh kx
    rw [FX5_numberToken_L5] at hh
    refine aw_aload_n E dX5_numberToken_5 0 rfl ?_
    refine aw_getI E flX5_28 (Nat.le_of_ble_eq_true rfl) rfl rfl dX5_numberToken_6 ?_
    refine aw_aload_n E dX5_numberToken_9 0 rfl ?_
    refine aw_getI E flX5_21 (Nat.le_of_ble_eq_true rfl) rfl rfl dX5_numberToken_10 ?_
    obtain ⟨b101, e102, hh⟩ := bd_e hh
    have J103 : b101 = true → AW Y (WX g) r 1 3 27 [(0, .ref (wad (WX g) 10))] [] M := fun hb => by
      replace hh := ip hb hh
      refine aw_aload_n E dX5_numberToken_27 0 rfl ?_
      refine aw_aload_n E dX5_numberToken_28 0 rfl ?_
      refine aw_getI E flX5_87 (Nat.le_of_ble_eq_true rfl) rfl rfl dX5_numberToken_29 ?_
      refine aw_bipush (v := 10) E dX5_numberToken_32 (by decide) ?_
      refine aw_imul E dX5_numberToken_34 ?_
      refine aw_aload_n E dX5_numberToken_35 0 rfl ?_
      refine aw_aload_n E dX5_numberToken_36 0 rfl ?_
      refine aw_getI E flX5_28 (Nat.le_of_ble_eq_true rfl) rfl rfl dX5_numberToken_37 ?_
      obtain ⟨q105, e106, hh⟩ := bd_e hh
      refine aw_callVi (S := [.int ((M.1 10 8) * 10), .ref (wad (WX g) 10)]) E mvX5_at mlX5_53 (Nat.le_of_ble_eq_true rfl) rfl rfl rfl (ctX5_at (yl Y) g (M.1 10 6)  M q105 e106) rfl (Nat.le_of_ble_eq_true rfl) (Nat.le_of_ble_eq_true rfl) dX5_numberToken_40 ?_
      refine aw_iadd E dX5_numberToken_43 ?_
      refine aw_bipush (v := 48) E dX5_numberToken_44 (by decide) ?_
      refine aw_isub E dX5_numberToken_46 ?_
      obtain ⟨M107, e108, hh⟩ := lt_e hh
      refine aw_putI1 e108 E flX5_87 (Nat.le_of_ble_eq_true rfl) rfl rfl nr_int dX5_numberToken_47 ?_
      refine aw_aload_n E dX5_numberToken_50 0 rfl ?_
      refine aw_dup E dX5_numberToken_51 rfl ?_
      refine aw_getI E flX5_28 (Nat.le_of_ble_eq_true rfl) rfl rfl dX5_numberToken_52 ?_
      refine aw_iconst (v := 1) E dX5_numberToken_55 (by decide) ?_
      refine aw_iadd E dX5_numberToken_56 ?_
      obtain ⟨M109, e110, hh⟩ := lt_e hh
      refine aw_putI1 e110 E flX5_28 (Nat.le_of_ble_eq_true rfl) rfl rfl nr_int dX5_numberToken_57 ?_
      refine aw_goto (tgt := 5) E dX5_numberToken_60 rfl ?_
      refine aw_sub (L1 := [(0, .ref (wad (WX g) 10))]) [0] rfl ?_
      exact ih  M109 _ hh kx
    have J104 : b101 = false → AW Y (WX g) r 1 3 63 [(0, .ref (wad (WX g) 10))] [] M := fun hb => by
      replace hh := iq (bf hb) hh
      refine aw_sub (L1 := [(0, .ref (wad (WX g) 10))]) [0] rfl ?_
      replace hh := Option.some.inj hh
      subst hh
      exact kx
    refine aw_icmp_ge (tgt := 63) E dX5_numberToken_13 rfl (fun c13 => ?_) (fun c13 => ?_)
    ·
      replace e102 := ip c13 e102
      replace e102 := Option.some.inj e102
      subst e102
      exact J104 rfl
    ·
      replace e102 := iq c13 e102
      refine aw_aload_n E dX5_numberToken_16 0 rfl ?_
      refine aw_aload_n E dX5_numberToken_17 0 rfl ?_
      refine aw_getI E flX5_28 (Nat.le_of_ble_eq_true rfl) rfl rfl dX5_numberToken_18 ?_
      obtain ⟨q111, e112, e102⟩ := bd_e e102
      refine aw_callVi (S := []) E mvX5_isDigit mlX5_65 (Nat.le_of_ble_eq_true rfl) rfl rfl rfl (ctX5_isDigit (yl Y) g (M.1 10 6)  M q111 e112) rfl (Nat.le_of_ble_eq_true rfl) (Nat.le_of_ble_eq_true rfl) dX5_numberToken_21 ?_
      refine aw_if_eq (tgt := 63) E dX5_numberToken_24 rfl (fun c24 => ?_) (fun c24 => ?_)
      ·
        replace e102 := ip c24 e102
        replace e102 := Option.some.inj e102
        subst e102
        exact J104 rfl
      ·
        replace e102 := iq c24 e102
        replace e102 := Option.some.inj e102
        subst e102
        exact J103 rfl
set_option maxHeartbeats 4000000 in
set_option maxRecDepth 100000 in
theorem ctX5_numberToken (l : Launch) (g : CtxG)  (M : Mem) (r0 : Int32 × Mem) (h : FX5_numberToken M = some r0) : Ct l (WX g) yX5_numberToken cX5_numberToken 1 (some .int) 3 [.ref (wad (WX g) 10)] M (some (.int r0.1), r0.2) := by
  refine Ct.of (by decide) (Nat.le_of_ble_eq_true rfl) (fun Y hY E => ?_)
  have E : EV Y (WX g) cX5_numberToken 1 (some .int) RX5 := E
  have h : FX5_numberToken  M = some r0 := h
  unfold FX5_numberToken at h
  show AW Y (WX g) _ 1 3 0 [(0, .ref (wad (WX g) 10))] [] M
  obtain ⟨r, hr⟩ : ∃ r : Option Value × Mem, r = (some (.int r0.1), r0.2) := ⟨_, rfl⟩
  rw [← hr]
  refine aw_aload_n E dX5_numberToken_0 0 rfl ?_
  refine aw_iconst (v := 0) E dX5_numberToken_1 (by decide) ?_
  obtain ⟨M1, e2, h⟩ := lt_e h
  refine aw_putI1 e2 E flX5_87 (Nat.le_of_ble_eq_true rfl) rfl rfl nr_int dX5_numberToken_2 ?_
  obtain ⟨q3, e4, h⟩ := bd_e h
  refine aw_sub (L1 := [(0, .ref (wad (WX g) 10))]) [0] rfl ?_
  refine lpX5_numberToken_5 E    FU  M1 q3 e4 ?_
  refine aw_aload_n E dX5_numberToken_63 0 rfl ?_
  refine aw_getI E flX5_28 (Nat.le_of_ble_eq_true rfl) rfl rfl dX5_numberToken_64 ?_
  refine aw_aload_n E dX5_numberToken_67 0 rfl ?_
  refine aw_getI E flX5_50 (Nat.le_of_ble_eq_true rfl) rfl rfl dX5_numberToken_68 ?_
  refine aw_isub E dX5_numberToken_71 ?_
  refine aw_iconst (v := 4) E dX5_numberToken_72 (by decide) ?_
  refine aw_icmp_le (tgt := 80) E dX5_numberToken_73 rfl (fun c73 => ?_) (fun c73 => ?_)
  ·
    replace h := ip c73 h
    refine aw_iconst (v := 2) E dX5_numberToken_80 (by decide) ?_
    replace h := Option.some.inj h
    subst h
    exact aw_iret E dX5_numberToken_81 hr
  ·
    replace h := iq c73 h
    refine aw_iconst (v := 1) E dX5_numberToken_76 (by decide) ?_
    refine aw_goto (tgt := 81) E dX5_numberToken_77 rfl ?_
    replace h := Option.some.inj h
    subst h
    exact aw_iret E dX5_numberToken_81 hr
def FX5_signToken_L12 : Nat → Int32 → Mem → Option (Int32 × Mem ⊕ (Unit))
  | 0, _, _ => none
  | f + 1, p1, M =>
    if 8 ≤ p1 then
      some (.inr (()))
    else
      gi p1 8 <|
      ob (FX5_at (M.1 10 5) M) fun q102 =>
      if (sch 2 p1) = q102 then
        ob (FX5_at (M.1 10 5) M) fun q106 =>
        some (.inl (q106, M))
      else
        lt (α := Int32) (p1 + 1) fun x104 =>
        FX5_signToken_L12 f  x104 M
def FX5_signToken  (M : Mem) : Option (Int32 × Mem) :=
  lt (wr M 10 6 ((M.1 10 6) + 1)) fun M1 =>
  ob (FX5_signToken_L12 FU 0 M1) fun q3 => Sum.elim (fun v5 => some v5) (fun q7 =>
    some (1, M1)) q3
set_option maxHeartbeats 4000000 in
set_option maxRecDepth 100000 in
theorem lpX5_signToken_12 {Y : CtxM} {g : CtxG} {r : Option Value × Mem} (E : EV Y (WX g) cX5_signToken 2 (some .int) RX5) : ∀ (f : Nat) (p1 : Int32) (M : Mem) (q : Int32 × Mem ⊕ (Unit)), FX5_signToken_L12 f  p1 M = some q → (∀ v, q = .inl v → r = (some (.int v.1), v.2)) → (∀ t, q = .inr t → AW Y (WX g) r 2 8 53 [] [] M) → AW Y (WX g) r 2 8 12 [(0, .ref (wad (WX g) 10)), (1, .int p1)] [] M := by
  intro f
  induction f with
  | zero => intro p1 M q hh; exact absurd hh (fun z => nomatch (show (none : Option (Int32 × Mem ⊕ (Unit))) = some q from z))
  | succ f ih =>
    intro p1 M q hh kr kx
    rw [FX5_signToken_L12] at hh
    refine aw_iload_n E dX5_signToken_12 1 rfl ?_
    refine aw_ldcS (i := 2) E (by decide) rfl rfl dX5_signToken_13 ?_
    refine aw_slen (i := 2) (v := 8) E mlX5_76 (by decide) rfl (Nat.le_of_ble_eq_true rfl) (Nat.le_of_ble_eq_true rfl) dX5_signToken_15 ?_
    refine aw_icmp_ge (tgt := 53) E dX5_signToken_18 rfl (fun c18 => ?_) (fun c18 => ?_)
    ·
      replace hh := ip c18 hh
      refine aw_sub (L1 := []) [] rfl ?_
      replace hh := Option.some.inj hh
      subst hh
      exact kx _ rfl
    ·
      replace hh := iq c18 hh
      refine aw_ldcS (i := 2) E (by decide) rfl rfl dX5_signToken_21 ?_
      refine aw_iload_n E dX5_signToken_23 1 rfl ?_
      obtain ⟨g101, hh⟩ := gi_e hh
      refine aw_sch (i := 2) E mlX5_80 (by decide) g101 (Nat.le_of_ble_eq_true rfl) (Nat.le_of_ble_eq_true rfl) dX5_signToken_24 ?_
      refine aw_aload_n E dX5_signToken_27 0 rfl ?_
      refine aw_aload_n E dX5_signToken_28 0 rfl ?_
      refine aw_getI E flX5_50 (Nat.le_of_ble_eq_true rfl) rfl rfl dX5_signToken_29 ?_
      obtain ⟨q102, e103, hh⟩ := bd_e hh
      refine aw_callVi (S := [.int (sch 2 p1)]) E mvX5_at mlX5_53 (Nat.le_of_ble_eq_true rfl) rfl rfl rfl (ctX5_at (yl Y) g (M.1 10 5)  M q102 e103) rfl (Nat.le_of_ble_eq_true rfl) (Nat.le_of_ble_eq_true rfl) dX5_signToken_32 ?_
      refine aw_icmp_ne (tgt := 47) E dX5_signToken_35 rfl (fun c35 => ?_) (fun c35 => ?_)
      ·
        replace hh := iq c35 hh
        obtain ⟨x104, e105, hh⟩ := lt_e hh
        refine aw_iinc (v := x104) (L1 := [(1, .int x104), (0, .ref (wad (WX g) 10))]) E dX5_signToken_47 1 rfl e105 (Nat.le_of_ble_eq_true rfl) rfl ?_
        refine aw_goto (tgt := 12) E dX5_signToken_50 rfl ?_
        refine aw_sub (L1 := [(0, .ref (wad (WX g) 10)), (1, .int x104)]) [1, 0] rfl ?_
        exact ih x104 M _ hh kr kx
      ·
        replace hh := ip c35 hh
        refine aw_aload_n E dX5_signToken_38 0 rfl ?_
        refine aw_aload_n E dX5_signToken_39 0 rfl ?_
        refine aw_getI E flX5_50 (Nat.le_of_ble_eq_true rfl) rfl rfl dX5_signToken_40 ?_
        obtain ⟨q106, e107, hh⟩ := bd_e hh
        refine aw_callVi (S := []) E mvX5_at mlX5_53 (Nat.le_of_ble_eq_true rfl) rfl rfl rfl (ctX5_at (yl Y) g (M.1 10 5)  M q106 e107) rfl (Nat.le_of_ble_eq_true rfl) (Nat.le_of_ble_eq_true rfl) dX5_signToken_43 ?_
        replace hh := Option.some.inj hh
        subst hh
        exact aw_iret E dX5_signToken_46 (kr _ rfl)
set_option maxHeartbeats 4000000 in
set_option maxRecDepth 100000 in
theorem ctX5_signToken (l : Launch) (g : CtxG)  (M : Mem) (r0 : Int32 × Mem) (h : FX5_signToken M = some r0) : Ct l (WX g) yX5_signToken cX5_signToken 2 (some .int) 8 [.ref (wad (WX g) 10)] M (some (.int r0.1), r0.2) := by
  refine Ct.of (by decide) (Nat.le_of_ble_eq_true rfl) (fun Y hY E => ?_)
  have E : EV Y (WX g) cX5_signToken 2 (some .int) RX5 := E
  have h : FX5_signToken  M = some r0 := h
  unfold FX5_signToken at h
  show AW Y (WX g) _ 2 8 0 [(0, .ref (wad (WX g) 10))] [] M
  obtain ⟨r, hr⟩ : ∃ r : Option Value × Mem, r = (some (.int r0.1), r0.2) := ⟨_, rfl⟩
  rw [← hr]
  refine aw_aload_n E dX5_signToken_0 0 rfl ?_
  refine aw_dup E dX5_signToken_1 rfl ?_
  refine aw_getI E flX5_28 (Nat.le_of_ble_eq_true rfl) rfl rfl dX5_signToken_2 ?_
  refine aw_iconst (v := 1) E dX5_signToken_5 (by decide) ?_
  refine aw_iadd E dX5_signToken_6 ?_
  obtain ⟨M1, e2, h⟩ := lt_e h
  refine aw_putI1 e2 E flX5_28 (Nat.le_of_ble_eq_true rfl) rfl rfl nr_int dX5_signToken_7 ?_
  refine aw_iconst (v := 0) E dX5_signToken_10 (by decide) ?_
  refine aw_istore_n (L1 := [(1, .int 0), (0, .ref (wad (WX g) 10))]) E dX5_signToken_11 (Nat.le_of_ble_eq_true rfl) rfl ?_
  obtain ⟨q3, e4, h⟩ := bd_e h
  refine aw_sub (L1 := [(0, .ref (wad (WX g) 10)), (1, .int 0)]) [1, 0] rfl ?_
  refine lpX5_signToken_12 E    FU 0 M1 q3 e4 (fun v5 e6 => ?_) (fun q7 e8 => ?_)
  ·
    subst e6
    replace h := Option.some.inj h
    subst h
    exact hr
  ·
    subst e8
    refine aw_iconst (v := 1) E dX5_signToken_53 (by decide) ?_
    replace h := Option.some.inj h
    subst h
    exact aw_iret E dX5_signToken_54 hr
def FX5_advance_L16 : Nat → Mem → Option (Mem)
  | 0, _ => none
  | f + 1, M =>
    if (M.1 10 1) ≤ (M.1 10 5) then
      some M
    else
      ob (FX5_at (M.1 10 5) M) fun q101 =>
      ob (α := Bool) (if q101 = 32 then
        some true
      else
        ob (FX5_at (M.1 10 5) M) fun q109 =>
        if q109 = 10 then some true else some false) fun b103 =>
      if b103 = true then
        lt (wr M 10 5 ((M.1 10 5) + 1)) fun M107 =>
        FX5_advance_L16 f M107
      else
        some M
def FX5_advance  (M : Mem) : Option (Mem) :=
  if (M.1 10 9) < 0 then
    lt (wr M 10 5 (M.1 10 6)) fun M1 =>
    ob (FX5_advance_L16 FU M1) fun q3 =>
    lt (wr q3 10 6 (q3.1 10 5)) fun M5 =>
    if (M5.1 10 5) < (M5.1 10 1) then
      ob (FX5_isLetter (M5.1 10 5) M5) fun q7 =>
      if q7 = 0 then
        ob (FX5_isDigit (M5.1 10 5) M5) fun q9 =>
        if q9 = 0 then
          ob (FX5_signToken M5) fun q11 =>
          lt (wr q11.2 10 7 q11.1) fun M13 =>
          some M13
        else
          ob (FX5_numberToken M5) fun q15 =>
          lt (wr q15.2 10 7 q15.1) fun M17 =>
          some M17
      else
        ob (FX5_wordToken M5) fun q19 =>
        lt (wr q19.2 10 7 q19.1) fun M21 =>
        some M21
    else
      lt (wr M5 10 7 0) fun M23 =>
      some M23
  else
    some M
set_option maxHeartbeats 4000000 in
set_option maxRecDepth 100000 in
theorem lpX5_advance_16 {Y : CtxM} {g : CtxG} {r : Option Value × Mem} (E : EV Y (WX g) cX5_advance 1 none RX5) : ∀ (f : Nat)  (M : Mem) (q : Mem), FX5_advance_L16 f M = some q → AW Y (WX g) r 1 10 66 [(0, .ref (wad (WX g) 10))] [] q → AW Y (WX g) r 1 10 16 [(0, .ref (wad (WX g) 10))] [] M := by
  intro f
  induction f with
  | zero => intro  M q hh; exact absurd hh (fun z => nomatch (show (none : Option (Mem)) = some q from z))
  | succ f ih =>
    intro  M q hh kx
    rw [FX5_advance_L16] at hh
    refine aw_aload_n E dX5_advance_16 0 rfl ?_
    refine aw_getI E flX5_50 (Nat.le_of_ble_eq_true rfl) rfl rfl dX5_advance_17 ?_
    refine aw_aload_n E dX5_advance_20 0 rfl ?_
    refine aw_getI E flX5_21 (Nat.le_of_ble_eq_true rfl) rfl rfl dX5_advance_21 ?_
    refine aw_icmp_ge (tgt := 66) E dX5_advance_24 rfl (fun c24 => ?_) (fun c24 => ?_)
    ·
      replace hh := ip c24 hh
      refine aw_sub (L1 := [(0, .ref (wad (WX g) 10))]) [0] rfl ?_
      replace hh := Option.some.inj hh
      subst hh
      exact kx
    ·
      replace hh := iq c24 hh
      refine aw_aload_n E dX5_advance_27 0 rfl ?_
      refine aw_aload_n E dX5_advance_28 0 rfl ?_
      refine aw_getI E flX5_50 (Nat.le_of_ble_eq_true rfl) rfl rfl dX5_advance_29 ?_
      obtain ⟨q101, e102, hh⟩ := bd_e hh
      refine aw_callVi (S := []) E mvX5_at mlX5_53 (Nat.le_of_ble_eq_true rfl) rfl rfl rfl (ctX5_at (yl Y) g (M.1 10 5)  M q101 e102) rfl (Nat.le_of_ble_eq_true rfl) (Nat.le_of_ble_eq_true rfl) dX5_advance_32 ?_
      refine aw_bipush (v := 32) E dX5_advance_35 (by decide) ?_
      obtain ⟨b103, e104, hh⟩ := bd_e hh
      have J105 : b103 = true → AW Y (WX g) r 1 10 53 [(0, .ref (wad (WX g) 10))] [] M := fun hb => by
        replace hh := ip hb hh
        refine aw_aload_n E dX5_advance_53 0 rfl ?_
        refine aw_dup E dX5_advance_54 rfl ?_
        refine aw_getI E flX5_50 (Nat.le_of_ble_eq_true rfl) rfl rfl dX5_advance_55 ?_
        refine aw_iconst (v := 1) E dX5_advance_58 (by decide) ?_
        refine aw_iadd E dX5_advance_59 ?_
        obtain ⟨M107, e108, hh⟩ := lt_e hh
        refine aw_putI1 e108 E flX5_50 (Nat.le_of_ble_eq_true rfl) rfl rfl nr_int dX5_advance_60 ?_
        refine aw_goto (tgt := 16) E dX5_advance_63 rfl ?_
        refine aw_sub (L1 := [(0, .ref (wad (WX g) 10))]) [0] rfl ?_
        exact ih  M107 _ hh kx
      have J106 : b103 = false → AW Y (WX g) r 1 10 66 [(0, .ref (wad (WX g) 10))] [] M := fun hb => by
        replace hh := iq (bf hb) hh
        refine aw_sub (L1 := [(0, .ref (wad (WX g) 10))]) [0] rfl ?_
        replace hh := Option.some.inj hh
        subst hh
        exact kx
      refine aw_icmp_eq (tgt := 53) E dX5_advance_37 rfl (fun c37 => ?_) (fun c37 => ?_)
      ·
        replace e104 := ip c37 e104
        replace e104 := Option.some.inj e104
        subst e104
        exact J105 rfl
      ·
        replace e104 := iq c37 e104
        refine aw_aload_n E dX5_advance_40 0 rfl ?_
        refine aw_aload_n E dX5_advance_41 0 rfl ?_
        refine aw_getI E flX5_50 (Nat.le_of_ble_eq_true rfl) rfl rfl dX5_advance_42 ?_
        obtain ⟨q109, e110, e104⟩ := bd_e e104
        refine aw_callVi (S := []) E mvX5_at mlX5_53 (Nat.le_of_ble_eq_true rfl) rfl rfl rfl (ctX5_at (yl Y) g (M.1 10 5)  M q109 e110) rfl (Nat.le_of_ble_eq_true rfl) (Nat.le_of_ble_eq_true rfl) dX5_advance_45 ?_
        refine aw_bipush (v := 10) E dX5_advance_48 (by decide) ?_
        refine aw_icmp_ne (tgt := 66) E dX5_advance_50 rfl (fun c50 => ?_) (fun c50 => ?_)
        ·
          replace e104 := iq c50 e104
          replace e104 := Option.some.inj e104
          subst e104
          exact J106 rfl
        ·
          replace e104 := ip c50 e104
          replace e104 := Option.some.inj e104
          subst e104
          exact J105 rfl
set_option maxHeartbeats 4000000 in
set_option maxRecDepth 100000 in
theorem ctX5_advance (l : Launch) (g : CtxG)  (M : Mem) (r0 : Mem) (h : FX5_advance M = some r0) : Ct l (WX g) yX5_advance cX5_advance 1 none 10 [.ref (wad (WX g) 10)] M (none, r0) := by
  refine Ct.of (by decide) (Nat.le_of_ble_eq_true rfl) (fun Y hY E => ?_)
  have E : EV Y (WX g) cX5_advance 1 none RX5 := E
  have h : FX5_advance  M = some r0 := h
  unfold FX5_advance at h
  show AW Y (WX g) _ 1 10 0 [(0, .ref (wad (WX g) 10))] [] M
  obtain ⟨r, hr⟩ : ∃ r : Option Value × Mem, r = (none, r0) := ⟨_, rfl⟩
  rw [← hr]
  refine aw_aload_n E dX5_advance_0 0 rfl ?_
  refine aw_getI E flX5_31 (Nat.le_of_ble_eq_true rfl) rfl rfl dX5_advance_1 ?_
  refine aw_if_lt (tgt := 8) E dX5_advance_4 rfl (fun c4 => ?_) (fun c4 => ?_)
  ·
    replace h := ip c4 h
    refine aw_aload_n E dX5_advance_8 0 rfl ?_
    refine aw_aload_n E dX5_advance_9 0 rfl ?_
    refine aw_getI E flX5_28 (Nat.le_of_ble_eq_true rfl) rfl rfl dX5_advance_10 ?_
    obtain ⟨M1, e2, h⟩ := lt_e h
    refine aw_putI1 e2 E flX5_50 (Nat.le_of_ble_eq_true rfl) rfl rfl nr_int dX5_advance_13 ?_
    obtain ⟨q3, e4, h⟩ := bd_e h
    refine aw_sub (L1 := [(0, .ref (wad (WX g) 10))]) [0] rfl ?_
    refine lpX5_advance_16 E    FU  M1 q3 e4 ?_
    refine aw_aload_n E dX5_advance_66 0 rfl ?_
    refine aw_aload_n E dX5_advance_67 0 rfl ?_
    refine aw_getI E flX5_50 (Nat.le_of_ble_eq_true rfl) rfl rfl dX5_advance_68 ?_
    obtain ⟨M5, e6, h⟩ := lt_e h
    refine aw_putI1 e6 E flX5_28 (Nat.le_of_ble_eq_true rfl) rfl rfl nr_int dX5_advance_71 ?_
    refine aw_aload_n E dX5_advance_74 0 rfl ?_
    refine aw_getI E flX5_50 (Nat.le_of_ble_eq_true rfl) rfl rfl dX5_advance_75 ?_
    refine aw_aload_n E dX5_advance_78 0 rfl ?_
    refine aw_getI E flX5_21 (Nat.le_of_ble_eq_true rfl) rfl rfl dX5_advance_79 ?_
    refine aw_icmp_lt (tgt := 93) E dX5_advance_82 rfl (fun c82 => ?_) (fun c82 => ?_)
    ·
      replace h := ip c82 h
      refine aw_aload_n E dX5_advance_93 0 rfl ?_
      refine aw_aload_n E dX5_advance_94 0 rfl ?_
      refine aw_getI E flX5_50 (Nat.le_of_ble_eq_true rfl) rfl rfl dX5_advance_95 ?_
      obtain ⟨q7, e8, h⟩ := bd_e h
      refine aw_callVi (S := []) E mvX5_isLetter mlX5_57 (Nat.le_of_ble_eq_true rfl) rfl rfl rfl (ctX5_isLetter (yl Y) g (M5.1 10 5)  M5 q7 e8) rfl (Nat.le_of_ble_eq_true rfl) (Nat.le_of_ble_eq_true rfl) dX5_advance_98 ?_
      refine aw_if_eq (tgt := 115) E dX5_advance_101 rfl (fun c101 => ?_) (fun c101 => ?_)
      ·
        replace h := ip c101 h
        refine aw_aload_n E dX5_advance_115 0 rfl ?_
        refine aw_aload_n E dX5_advance_116 0 rfl ?_
        refine aw_getI E flX5_50 (Nat.le_of_ble_eq_true rfl) rfl rfl dX5_advance_117 ?_
        obtain ⟨q9, e10, h⟩ := bd_e h
        refine aw_callVi (S := []) E mvX5_isDigit mlX5_65 (Nat.le_of_ble_eq_true rfl) rfl rfl rfl (ctX5_isDigit (yl Y) g (M5.1 10 5)  M5 q9 e10) rfl (Nat.le_of_ble_eq_true rfl) (Nat.le_of_ble_eq_true rfl) dX5_advance_120 ?_
        refine aw_if_eq (tgt := 137) E dX5_advance_123 rfl (fun c123 => ?_) (fun c123 => ?_)
        ·
          replace h := ip c123 h
          refine aw_aload_n E dX5_advance_137 0 rfl ?_
          refine aw_aload_n E dX5_advance_138 0 rfl ?_
          obtain ⟨q11, e12, h⟩ := bd_e h
          refine aw_callVi (S := [.ref (wad (WX g) 10)]) E mvX5_signToken mlX5_71 (Nat.le_of_ble_eq_true rfl) rfl rfl rfl (ctX5_signToken (yl Y) g   M5 q11 e12) rfl (Nat.le_of_ble_eq_true rfl) (Nat.le_of_ble_eq_true rfl) dX5_advance_139 ?_
          obtain ⟨M13, e14, h⟩ := lt_e h
          refine aw_putI1 e14 E flX5_44 (Nat.le_of_ble_eq_true rfl) rfl rfl nr_int dX5_advance_142 ?_
          replace h := Option.some.inj h
          subst h
          exact aw_vret E dX5_advance_145 hr
        ·
          replace h := iq c123 h
          refine aw_aload_n E dX5_advance_126 0 rfl ?_
          refine aw_aload_n E dX5_advance_127 0 rfl ?_
          obtain ⟨q15, e16, h⟩ := bd_e h
          refine aw_callVi (S := [.ref (wad (WX g) 10)]) E mvX5_numberToken mlX5_68 (Nat.le_of_ble_eq_true rfl) rfl rfl rfl (ctX5_numberToken (yl Y) g   M5 q15 e16) rfl (Nat.le_of_ble_eq_true rfl) (Nat.le_of_ble_eq_true rfl) dX5_advance_128 ?_
          obtain ⟨M17, e18, h⟩ := lt_e h
          refine aw_putI1 e18 E flX5_44 (Nat.le_of_ble_eq_true rfl) rfl rfl nr_int dX5_advance_131 ?_
          refine aw_goto (tgt := 145) E dX5_advance_134 rfl ?_
          replace h := Option.some.inj h
          subst h
          exact aw_vret E dX5_advance_145 hr
      ·
        replace h := iq c101 h
        refine aw_aload_n E dX5_advance_104 0 rfl ?_
        refine aw_aload_n E dX5_advance_105 0 rfl ?_
        obtain ⟨q19, e20, h⟩ := bd_e h
        refine aw_callVi (S := [.ref (wad (WX g) 10)]) E mvX5_wordToken mlX5_61 (Nat.le_of_ble_eq_true rfl) rfl rfl rfl (ctX5_wordToken (yl Y) g   M5 q19 e20) rfl (Nat.le_of_ble_eq_true rfl) (Nat.le_of_ble_eq_true rfl) dX5_advance_106 ?_
        obtain ⟨M21, e22, h⟩ := lt_e h
        refine aw_putI1 e22 E flX5_44 (Nat.le_of_ble_eq_true rfl) rfl rfl nr_int dX5_advance_109 ?_
        refine aw_goto (tgt := 145) E dX5_advance_112 rfl ?_
        replace h := Option.some.inj h
        subst h
        exact aw_vret E dX5_advance_145 hr
    ·
      replace h := iq c82 h
      refine aw_aload_n E dX5_advance_85 0 rfl ?_
      refine aw_iconst (v := 0) E dX5_advance_86 (by decide) ?_
      obtain ⟨M23, e24, h⟩ := lt_e h
      refine aw_putI1 e24 E flX5_44 (Nat.le_of_ble_eq_true rfl) rfl rfl nr_int dX5_advance_87 ?_
      refine aw_goto (tgt := 145) E dX5_advance_90 rfl ?_
      replace h := Option.some.inj h
      subst h
      exact aw_vret E dX5_advance_145 hr
  ·
    replace h := iq c4 h
    replace h := Option.some.inj h
    subst h
    exact aw_vret E dX5_advance_7 hr
def FX5_openers_L2 : Nat → Int32 → Int32 → Int32 → Mem → Option (Int32 × Mem)
  | 0, _, _, _, _ => none
  | f + 1, p1, p2, p3, M =>
    lt (α := Bool) (if (M.1 10 7) = p1 then if 5 ≤ (p2 + p3) then false else true else false) fun b101 =>
    if b101 = true then
      ob (FX5_advance M) fun q105 =>
      lt (α := Int32) (p3 + 1) fun x107 =>
      FX5_openers_L2 f p1 p2 x107 q105
    else
      some (p3, M)
def FX5_openers (a1 : Int32) (a2 : Int32) (M : Mem) : Option (Int32 × Mem) :=
  ob (FX5_openers_L2 FU a1 a2 0 M) fun q1 =>
  some (q1.1, q1.2)
set_option maxHeartbeats 4000000 in
set_option maxRecDepth 100000 in
theorem lpX5_openers_2 {Y : CtxM} {g : CtxG} {r : Option Value × Mem} (E : EV Y (WX g) cX5_openers 4 (some .int) RX5) (p1 : Int32) (p2 : Int32) : ∀ (f : Nat) (p3 : Int32) (M : Mem) (q : Int32 × Mem), FX5_openers_L2 f p1 p2 p3 M = some q → AW Y (WX g) r 4 11 27 [(3, .int q.1)] [] q.2 → AW Y (WX g) r 4 11 2 [(0, .ref (wad (WX g) 10)), (1, .int p1), (2, .int p2), (3, .int p3)] [] M := by
  intro f
  induction f with
  | zero => intro p3 M q hh; exact absurd hh (fun z => nomatch (show (none : Option (Int32 × Mem)) = some q from z))
  | succ f ih =>
    intro p3 M q hh kx
    rw [FX5_openers_L2] at hh
    refine aw_aload_n E dX5_openers_2 0 rfl ?_
    refine aw_getI E flX5_44 (Nat.le_of_ble_eq_true rfl) rfl rfl dX5_openers_3 ?_
    refine aw_iload_n E dX5_openers_6 1 rfl ?_
    obtain ⟨b101, e102, hh⟩ := lt_e hh
    have J103 : b101 = true → AW Y (WX g) r 4 11 17 [(0, .ref (wad (WX g) 10)), (1, .int p1), (2, .int p2), (3, .int p3)] [] M := fun hb => by
      replace hh := ip hb hh
      refine aw_aload_n E dX5_openers_17 0 rfl ?_
      obtain ⟨q105, e106, hh⟩ := bd_e hh
      refine aw_callVv (S := []) E mvX5_advance mlX5_34 (Nat.le_of_ble_eq_true rfl) rfl rfl rfl (ctX5_advance (yl Y) g   M q105 e106) rfl (Nat.le_of_ble_eq_true rfl) (Nat.le_of_ble_eq_true rfl) dX5_openers_18 ?_
      obtain ⟨x107, e108, hh⟩ := lt_e hh
      refine aw_iinc (v := x107) (L1 := [(3, .int x107), (0, .ref (wad (WX g) 10)), (1, .int p1), (2, .int p2)]) E dX5_openers_21 3 rfl e108 (Nat.le_of_ble_eq_true rfl) rfl ?_
      refine aw_goto (tgt := 2) E dX5_openers_24 rfl ?_
      refine aw_sub (L1 := [(0, .ref (wad (WX g) 10)), (1, .int p1), (2, .int p2), (3, .int x107)]) [1, 2, 3, 0] rfl ?_
      exact ih x107 q105 _ hh kx
    have J104 : b101 = false → AW Y (WX g) r 4 11 27 [(0, .ref (wad (WX g) 10)), (1, .int p1), (2, .int p2), (3, .int p3)] [] M := fun hb => by
      replace hh := iq (bf hb) hh
      refine aw_sub (L1 := [(3, .int p3)]) [3] rfl ?_
      replace hh := Option.some.inj hh
      subst hh
      exact kx
    refine aw_icmp_ne (tgt := 27) E dX5_openers_7 rfl (fun c7 => ?_) (fun c7 => ?_)
    ·
      replace e102 := iq c7 e102
      subst e102
      exact J104 rfl
    ·
      replace e102 := ip c7 e102
      refine aw_iload_n E dX5_openers_10 2 rfl ?_
      refine aw_iload_n E dX5_openers_11 3 rfl ?_
      refine aw_iadd E dX5_openers_12 ?_
      refine aw_iconst (v := 5) E dX5_openers_13 (by decide) ?_
      refine aw_icmp_ge (tgt := 27) E dX5_openers_14 rfl (fun c14 => ?_) (fun c14 => ?_)
      ·
        replace e102 := ip c14 e102
        subst e102
        exact J104 rfl
      ·
        replace e102 := iq c14 e102
        subst e102
        exact J103 rfl
set_option maxHeartbeats 4000000 in
set_option maxRecDepth 100000 in
theorem ctX5_openers (l : Launch) (g : CtxG) (a1 : Int32) (a2 : Int32) (M : Mem) (r0 : Int32 × Mem) (h : FX5_openers a1 a2 M = some r0) : Ct l (WX g) yX5_openers cX5_openers 4 (some .int) 11 [.ref (wad (WX g) 10), .int a1, .int a2] M (some (.int r0.1), r0.2) := by
  refine Ct.of (by decide) (Nat.le_of_ble_eq_true rfl) (fun Y hY E => ?_)
  have E : EV Y (WX g) cX5_openers 4 (some .int) RX5 := E
  have h : FX5_openers a1 a2 M = some r0 := h
  unfold FX5_openers at h
  show AW Y (WX g) _ 4 11 0 [(0, .ref (wad (WX g) 10)), (1, .int a1), (2, .int a2)] [] M
  obtain ⟨r, hr⟩ : ∃ r : Option Value × Mem, r = (some (.int r0.1), r0.2) := ⟨_, rfl⟩
  rw [← hr]
  refine aw_iconst (v := 0) E dX5_openers_0 (by decide) ?_
  refine aw_istore_n (L1 := [(3, .int 0), (0, .ref (wad (WX g) 10)), (1, .int a1), (2, .int a2)]) E dX5_openers_1 (Nat.le_of_ble_eq_true rfl) rfl ?_
  obtain ⟨q1, e2, h⟩ := bd_e h
  refine aw_sub (L1 := [(0, .ref (wad (WX g) 10)), (1, .int a1), (2, .int a2), (3, .int 0)]) [1, 2, 3, 0] rfl ?_
  refine lpX5_openers_2 E   a1 a2 FU 0 M q1 e2 ?_
  refine aw_iload_n E dX5_openers_27 0 rfl ?_
  replace h := Option.some.inj h
  subst h
  exact aw_iret E dX5_openers_28 hr
def FX5_emit (a1 : Int32) (M : Mem) : Option (Mem) :=
  if 160 ≤ (M.1 10 4) then
    some M
  else
    lt (wr M 10 4 ((M.1 10 4) + 1)) fun M1 =>
    gi (M.1 10 4) 160 <|
    lt (wr M1 12 (Int32.toNatClampNeg (M.1 10 4)) a1) fun M4 =>
    some M4
set_option maxHeartbeats 4000000 in
set_option maxRecDepth 100000 in
theorem ctX5_emit (l : Launch) (g : CtxG) (a1 : Int32) (M : Mem) (r0 : Mem) (h : FX5_emit a1 M = some r0) : Ct l (WX g) yX5_emit cX5_emit 2 none 1 [.ref (wad (WX g) 10), .int a1] M (none, r0) := by
  refine Ct.of (by decide) (Nat.le_of_ble_eq_true rfl) (fun Y hY E => ?_)
  have E : EV Y (WX g) cX5_emit 2 none RX5 := E
  have h : FX5_emit a1 M = some r0 := h
  unfold FX5_emit at h
  show AW Y (WX g) _ 2 1 0 [(0, .ref (wad (WX g) 10)), (1, .int a1)] [] M
  obtain ⟨r, hr⟩ : ∃ r : Option Value × Mem, r = (none, r0) := ⟨_, rfl⟩
  rw [← hr]
  refine aw_aload_n E dX5_emit_0 0 rfl ?_
  refine aw_getI E flX5_25 (Nat.le_of_ble_eq_true rfl) rfl rfl dX5_emit_1 ?_
  refine aw_sipush (v := 160) E dX5_emit_4 (by decide) ?_
  refine aw_icmp_ge (tgt := 27) E dX5_emit_7 rfl (fun c7 => ?_) (fun c7 => ?_)
  ·
    replace h := ip c7 h
    replace h := Option.some.inj h
    subst h
    exact aw_vret E dX5_emit_27 hr
  ·
    replace h := iq c7 h
    refine aw_aload_n E dX5_emit_10 0 rfl ?_
    refine aw_getR (q := 12) E flX5_15 (Nat.le_of_ble_eq_true rfl) rfl rfl dX5_emit_11 ?_
    refine aw_aload_n E dX5_emit_14 0 rfl ?_
    refine aw_dup E dX5_emit_15 rfl ?_
    refine aw_getI E flX5_25 (Nat.le_of_ble_eq_true rfl) rfl rfl dX5_emit_16 ?_
    refine aw_dup_x1 E dX5_emit_19 rfl rfl ?_
    refine aw_iconst (v := 1) E dX5_emit_20 (by decide) ?_
    refine aw_iadd E dX5_emit_21 ?_
    obtain ⟨M1, e2, h⟩ := lt_e h
    refine aw_putI1 e2 E flX5_25 (Nat.le_of_ble_eq_true rfl) rfl rfl nr_int dX5_emit_22 ?_
    refine aw_iload_n E dX5_emit_25 1 rfl ?_
    obtain ⟨g3, h⟩ := gi_e h
    obtain ⟨M4, e5, h⟩ := lt_e h
    refine aw_iast1 e5 E (Nat.le_of_ble_eq_true rfl) rfl g3 dX5_emit_26 ?_
    replace h := Option.some.inj h
    subst h
    exact aw_vret E dX5_emit_27 hr
def FX5_refuse  (M : Mem) : Option (Mem) :=
  lt (α := Mem) (if 0 ≤ (M.1 10 9) then
    M
  else
    lt (wr M 10 9 (M.1 10 5)) fun M6 =>
    M6) fun q1 =>
  lt (wr q1 10 7 1) fun M4 =>
  some M4
set_option maxHeartbeats 4000000 in
set_option maxRecDepth 100000 in
theorem ctX5_refuse (l : Launch) (g : CtxG)  (M : Mem) (r0 : Mem) (h : FX5_refuse M = some r0) : Ct l (WX g) yX5_refuse cX5_refuse 1 none 1 [.ref (wad (WX g) 10)] M (none, r0) := by
  refine Ct.of (by decide) (Nat.le_of_ble_eq_true rfl) (fun Y hY E => ?_)
  have E : EV Y (WX g) cX5_refuse 1 none RX5 := E
  have h : FX5_refuse  M = some r0 := h
  unfold FX5_refuse at h
  show AW Y (WX g) _ 1 1 0 [(0, .ref (wad (WX g) 10))] [] M
  obtain ⟨r, hr⟩ : ∃ r : Option Value × Mem, r = (none, r0) := ⟨_, rfl⟩
  rw [← hr]
  refine aw_aload_n E dX5_refuse_0 0 rfl ?_
  refine aw_getI E flX5_31 (Nat.le_of_ble_eq_true rfl) rfl rfl dX5_refuse_1 ?_
  obtain ⟨q1, e2, h⟩ := lt_e h
  have J3 : AW Y (WX g) r 1 1 15 [(0, .ref (wad (WX g) 10))] [] q1 := by
    refine aw_aload_n E dX5_refuse_15 0 rfl ?_
    refine aw_iconst (v := 1) E dX5_refuse_16 (by decide) ?_
    obtain ⟨M4, e5, h⟩ := lt_e h
    refine aw_putI1 e5 E flX5_44 (Nat.le_of_ble_eq_true rfl) rfl rfl nr_int dX5_refuse_17 ?_
    replace h := Option.some.inj h
    subst h
    exact aw_vret E dX5_refuse_20 hr
  refine aw_if_ge (tgt := 15) E dX5_refuse_4 rfl (fun c4 => ?_) (fun c4 => ?_)
  ·
    replace e2 := ip c4 e2
    refine aw_sub (L1 := [(0, .ref (wad (WX g) 10))]) [0] rfl ?_
    subst e2
    exact J3
  ·
    replace e2 := iq c4 e2
    refine aw_aload_n E dX5_refuse_7 0 rfl ?_
    refine aw_aload_n E dX5_refuse_8 0 rfl ?_
    refine aw_getI E flX5_50 (Nat.le_of_ble_eq_true rfl) rfl rfl dX5_refuse_9 ?_
    obtain ⟨M6, e7, e2⟩ := lt_e e2
    refine aw_putI1 e7 E flX5_31 (Nat.le_of_ble_eq_true rfl) rfl rfl nr_int dX5_refuse_12 ?_
    refine aw_sub (L1 := [(0, .ref (wad (WX g) 10))]) [0] rfl ?_
    subst e2
    exact J3
def FX5_expect (a1 : Int32) (M : Mem) : Option (Mem) :=
  if (M.1 10 7) = a1 then
    ob (FX5_advance M) fun q3 =>
    some q3
  else
    ob (FX5_refuse M) fun q1 =>
    some q1
set_option maxHeartbeats 4000000 in
set_option maxRecDepth 100000 in
theorem ctX5_expect (l : Launch) (g : CtxG) (a1 : Int32) (M : Mem) (r0 : Mem) (h : FX5_expect a1 M = some r0) : Ct l (WX g) yX5_expect cX5_expect 2 none 11 [.ref (wad (WX g) 10), .int a1] M (none, r0) := by
  refine Ct.of (by decide) (Nat.le_of_ble_eq_true rfl) (fun Y hY E => ?_)
  have E : EV Y (WX g) cX5_expect 2 none RX5 := E
  have h : FX5_expect a1 M = some r0 := h
  unfold FX5_expect at h
  show AW Y (WX g) _ 2 11 0 [(0, .ref (wad (WX g) 10)), (1, .int a1)] [] M
  obtain ⟨r, hr⟩ : ∃ r : Option Value × Mem, r = (none, r0) := ⟨_, rfl⟩
  rw [← hr]
  refine aw_aload_n E dX5_expect_0 0 rfl ?_
  refine aw_getI E flX5_44 (Nat.le_of_ble_eq_true rfl) rfl rfl dX5_expect_1 ?_
  refine aw_iload_n E dX5_expect_4 1 rfl ?_
  refine aw_icmp_ne (tgt := 15) E dX5_expect_5 rfl (fun c5 => ?_) (fun c5 => ?_)
  ·
    replace h := iq c5 h
    refine aw_aload_n E dX5_expect_15 0 rfl ?_
    obtain ⟨q1, e2, h⟩ := bd_e h
    refine aw_callVv (S := []) E mvX5_refuse mlX5_47 (Nat.le_of_ble_eq_true rfl) rfl rfl rfl (ctX5_refuse (yl Y) g   M q1 e2) rfl (Nat.le_of_ble_eq_true rfl) (Nat.le_of_ble_eq_true rfl) dX5_expect_16 ?_
    replace h := Option.some.inj h
    subst h
    exact aw_vret E dX5_expect_19 hr
  ·
    replace h := ip c5 h
    refine aw_aload_n E dX5_expect_8 0 rfl ?_
    obtain ⟨q3, e4, h⟩ := bd_e h
    refine aw_callVv (S := []) E mvX5_advance mlX5_34 (Nat.le_of_ble_eq_true rfl) rfl rfl rfl (ctX5_advance (yl Y) g   M q3 e4) rfl (Nat.le_of_ble_eq_true rfl) (Nat.le_of_ble_eq_true rfl) dX5_expect_9 ?_
    refine aw_goto (tgt := 19) E dX5_expect_12 rfl ?_
    replace h := Option.some.inj h
    subst h
    exact aw_vret E dX5_expect_19 hr
def FX5_put (a1 : Int32) (M : Mem) : Option (Mem) :=
  if 160 ≤ (M.1 10 1) then
    some M
  else
    lt (wr M 10 1 ((M.1 10 1) + 1)) fun M1 =>
    gi (M.1 10 1) 160 <|
    lt (wr M1 11 (Int32.toNatClampNeg (M.1 10 1)) a1) fun M4 =>
    some M4
set_option maxHeartbeats 4000000 in
set_option maxRecDepth 100000 in
theorem ctX5_put (l : Launch) (g : CtxG) (a1 : Int32) (M : Mem) (r0 : Mem) (h : FX5_put a1 M = some r0) : Ct l (WX g) yX5_put cX5_put 2 none 1 [.ref (wad (WX g) 10), .int a1] M (none, r0) := by
  refine Ct.of (by decide) (Nat.le_of_ble_eq_true rfl) (fun Y hY E => ?_)
  have E : EV Y (WX g) cX5_put 2 none RX5 := E
  have h : FX5_put a1 M = some r0 := h
  unfold FX5_put at h
  show AW Y (WX g) _ 2 1 0 [(0, .ref (wad (WX g) 10)), (1, .int a1)] [] M
  obtain ⟨r, hr⟩ : ∃ r : Option Value × Mem, r = (none, r0) := ⟨_, rfl⟩
  rw [← hr]
  refine aw_aload_n E dX5_put_0 0 rfl ?_
  refine aw_getI E flX5_21 (Nat.le_of_ble_eq_true rfl) rfl rfl dX5_put_1 ?_
  refine aw_sipush (v := 160) E dX5_put_4 (by decide) ?_
  refine aw_icmp_ge (tgt := 27) E dX5_put_7 rfl (fun c7 => ?_) (fun c7 => ?_)
  ·
    replace h := ip c7 h
    replace h := Option.some.inj h
    subst h
    exact aw_vret E dX5_put_27 hr
  ·
    replace h := iq c7 h
    refine aw_aload_n E dX5_put_10 0 rfl ?_
    refine aw_getR (q := 11) E flX5_9 (Nat.le_of_ble_eq_true rfl) rfl rfl dX5_put_11 ?_
    refine aw_aload_n E dX5_put_14 0 rfl ?_
    refine aw_dup E dX5_put_15 rfl ?_
    refine aw_getI E flX5_21 (Nat.le_of_ble_eq_true rfl) rfl rfl dX5_put_16 ?_
    refine aw_dup_x1 E dX5_put_19 rfl rfl ?_
    refine aw_iconst (v := 1) E dX5_put_20 (by decide) ?_
    refine aw_iadd E dX5_put_21 ?_
    obtain ⟨M1, e2, h⟩ := lt_e h
    refine aw_putI1 e2 E flX5_21 (Nat.le_of_ble_eq_true rfl) rfl rfl nr_int dX5_put_22 ?_
    refine aw_iload_n E dX5_put_25 1 rfl ?_
    obtain ⟨g3, h⟩ := gi_e h
    obtain ⟨M4, e5, h⟩ := lt_e h
    refine aw_iast1 e5 E (Nat.le_of_ble_eq_true rfl) rfl g3 dX5_put_26 ?_
    replace h := Option.some.inj h
    subst h
    exact aw_vret E dX5_put_27 hr
def FX5_single (GX5_either : Int32 → Mem → Option Mem) (a1 : Int32) (M : Mem) : Option (Mem) :=
  if (M.1 10 7) = 2 then
    ob (FX5_emit (M.1 10 8) M) fun q21 =>
    ob (FX5_advance q21) fun q23 =>
    some q23
  else
    lt (α := Bool) (if (M.1 10 7) < 262 then false else if 267 < (M.1 10 7) then false else true) fun b1 =>
    if b1 = true then
      ob (FX5_emit (-(M.1 10 7)) M) fun q5 =>
      ob (FX5_advance q5) fun q7 =>
      some q7
    else
      lt (α := Bool) (if (M.1 10 7) = 40 then if 5 ≤ a1 then false else true else false) fun b9 =>
      if b9 = true then
        ob (FX5_advance M) fun q13 =>
        ob (GX5_either (a1 + 1) q13) fun q15 =>
        ob (FX5_expect 41 q15) fun q17 =>
        some q17
      else
        ob (FX5_refuse M) fun q19 =>
        some q19
set_option maxHeartbeats 4000000 in
set_option maxRecDepth 100000 in
theorem ctX5_single (l : Launch) (g : CtxG) (dd : Nat) (GX5_either : Int32 → Mem → Option Mem) (hdd0 : 30 ≤ dd) (HX5_either : ∀ (l : Launch) (a : Int32) (M M1 : Mem), GX5_either a M = some M1 → Ct l (WX g) yX5_either cX5_either 3 none dd [.ref (wad (WX g) 10), .int a] M (none, M1)) (a1 : Int32) (M : Mem) (r0 : Mem) (h : FX5_single GX5_either a1 M = some r0) : Ct l (WX g) yX5_single cX5_single 2 none (dd + 1) [.ref (wad (WX g) 10), .int a1] M (none, r0) := by
  refine Ct.of (by decide) (Nat.le_of_ble_eq_true rfl) (fun Y hY E => ?_)
  have E : EV Y (WX g) cX5_single 2 none RX5 := E
  have h : FX5_single GX5_either a1 M = some r0 := h
  unfold FX5_single at h
  show AW Y (WX g) _ 2 (dd + 1) 0 [(0, .ref (wad (WX g) 10)), (1, .int a1)] [] M
  obtain ⟨r, hr⟩ : ∃ r : Option Value × Mem, r = (none, r0) := ⟨_, rfl⟩
  rw [← hr]
  refine aw_aload_n E dX5_single_0 0 rfl ?_
  refine aw_getI E flX5_44 (Nat.le_of_ble_eq_true rfl) rfl rfl dX5_single_1 ?_
  refine aw_iconst (v := 2) E dX5_single_4 (by decide) ?_
  refine aw_icmp_ne (tgt := 23) E dX5_single_5 rfl (fun c5 => ?_) (fun c5 => ?_)
  ·
    replace h := iq c5 h
    refine aw_aload_n E dX5_single_23 0 rfl ?_
    refine aw_getI E flX5_44 (Nat.le_of_ble_eq_true rfl) rfl rfl dX5_single_24 ?_
    refine aw_sipush (v := 262) E dX5_single_27 (by decide) ?_
    obtain ⟨b1, e2, h⟩ := lt_e h
    have J3 : b1 = true → AW Y (WX g) r 2 (dd + 1) 43 [(0, .ref (wad (WX g) 10)), (1, .int a1)] [] M := fun hb => by
      replace h := ip hb h
      refine aw_aload_n E dX5_single_43 0 rfl ?_
      refine aw_aload_n E dX5_single_44 0 rfl ?_
      refine aw_getI E flX5_44 (Nat.le_of_ble_eq_true rfl) rfl rfl dX5_single_45 ?_
      refine aw_ineg E dX5_single_48 ?_
      obtain ⟨q5, e6, h⟩ := bd_e h
      refine aw_callVv (S := []) E mvX5_emit mlX5_95 (Nat.le_of_ble_eq_true rfl) rfl rfl rfl (ctX5_emit (yl Y) g (-(M.1 10 7))  M q5 e6) rfl (Nat.le_of_ble_eq_true rfl) (Nat.le_trans (Nat.le_of_ble_eq_true rfl : 1 + 1 ≤ 30) (Nat.le_succ_of_le hdd0)) dX5_single_49 ?_
      refine aw_aload_n E dX5_single_52 0 rfl ?_
      obtain ⟨q7, e8, h⟩ := bd_e h
      refine aw_callVv (S := []) E mvX5_advance mlX5_34 (Nat.le_of_ble_eq_true rfl) rfl rfl rfl (ctX5_advance (yl Y) g   q5 q7 e8) rfl (Nat.le_of_ble_eq_true rfl) (Nat.le_trans (Nat.le_of_ble_eq_true rfl : 10 + 1 ≤ 30) (Nat.le_succ_of_le hdd0)) dX5_single_53 ?_
      refine aw_goto (tgt := 97) E dX5_single_56 rfl ?_
      replace h := Option.some.inj h
      subst h
      exact aw_vret E dX5_single_97 hr
    have J4 : b1 = false → AW Y (WX g) r 2 (dd + 1) 59 [(0, .ref (wad (WX g) 10)), (1, .int a1)] [] M := fun hb => by
      replace h := iq (bf hb) h
      refine aw_aload_n E dX5_single_59 0 rfl ?_
      refine aw_getI E flX5_44 (Nat.le_of_ble_eq_true rfl) rfl rfl dX5_single_60 ?_
      refine aw_bipush (v := 40) E dX5_single_63 (by decide) ?_
      obtain ⟨b9, e10, h⟩ := lt_e h
      have J11 : b9 = true → AW Y (WX g) r 2 (dd + 1) 73 [(0, .ref (wad (WX g) 10)), (1, .int a1)] [] M := fun hb => by
        replace h := ip hb h
        refine aw_aload_n E dX5_single_73 0 rfl ?_
        obtain ⟨q13, e14, h⟩ := bd_e h
        refine aw_callVv (S := []) E mvX5_advance mlX5_34 (Nat.le_of_ble_eq_true rfl) rfl rfl rfl (ctX5_advance (yl Y) g   M q13 e14) rfl (Nat.le_of_ble_eq_true rfl) (Nat.le_trans (Nat.le_of_ble_eq_true rfl : 10 + 1 ≤ 30) (Nat.le_succ_of_le hdd0)) dX5_single_74 ?_
        refine aw_aload_n E dX5_single_77 0 rfl ?_
        refine aw_iload_n E dX5_single_78 1 rfl ?_
        refine aw_iconst (v := 1) E dX5_single_79 (by decide) ?_
        refine aw_iadd E dX5_single_80 ?_
        obtain ⟨q15, e16, h⟩ := bd_e h
        refine aw_callVv (S := []) E mvX5_either mlX5_41 (Nat.le_of_ble_eq_true rfl) rfl rfl rfl (HX5_either (yl Y) (a1 + 1) q13 q15 e16) rfl (Nat.le_of_ble_eq_true rfl) (Nat.le_refl _) dX5_single_81 ?_
        refine aw_aload_n E dX5_single_84 0 rfl ?_
        refine aw_bipush (v := 41) E dX5_single_85 (by decide) ?_
        obtain ⟨q17, e18, h⟩ := bd_e h
        refine aw_callVv (S := []) E mvX5_expect mlX5_37 (Nat.le_of_ble_eq_true rfl) rfl rfl rfl (ctX5_expect (yl Y) g 41  q15 q17 e18) rfl (Nat.le_of_ble_eq_true rfl) (Nat.le_trans (Nat.le_of_ble_eq_true rfl : 11 + 1 ≤ 30) (Nat.le_succ_of_le hdd0)) dX5_single_87 ?_
        refine aw_goto (tgt := 97) E dX5_single_90 rfl ?_
        replace h := Option.some.inj h
        subst h
        exact aw_vret E dX5_single_97 hr
      have J12 : b9 = false → AW Y (WX g) r 2 (dd + 1) 93 [(0, .ref (wad (WX g) 10)), (1, .int a1)] [] M := fun hb => by
        replace h := iq (bf hb) h
        refine aw_aload_n E dX5_single_93 0 rfl ?_
        obtain ⟨q19, e20, h⟩ := bd_e h
        refine aw_callVv (S := []) E mvX5_refuse mlX5_47 (Nat.le_of_ble_eq_true rfl) rfl rfl rfl (ctX5_refuse (yl Y) g   M q19 e20) rfl (Nat.le_of_ble_eq_true rfl) (Nat.le_trans (Nat.le_of_ble_eq_true rfl : 1 + 1 ≤ 30) (Nat.le_succ_of_le hdd0)) dX5_single_94 ?_
        replace h := Option.some.inj h
        subst h
        exact aw_vret E dX5_single_97 hr
      refine aw_icmp_ne (tgt := 93) E dX5_single_65 rfl (fun c65 => ?_) (fun c65 => ?_)
      ·
        replace e10 := iq c65 e10
        subst e10
        exact J12 rfl
      ·
        replace e10 := ip c65 e10
        refine aw_iload_n E dX5_single_68 1 rfl ?_
        refine aw_iconst (v := 5) E dX5_single_69 (by decide) ?_
        refine aw_icmp_ge (tgt := 93) E dX5_single_70 rfl (fun c70 => ?_) (fun c70 => ?_)
        ·
          replace e10 := ip c70 e10
          subst e10
          exact J12 rfl
        ·
          replace e10 := iq c70 e10
          subst e10
          exact J11 rfl
    refine aw_icmp_lt (tgt := 59) E dX5_single_30 rfl (fun c30 => ?_) (fun c30 => ?_)
    ·
      replace e2 := ip c30 e2
      subst e2
      exact J4 rfl
    ·
      replace e2 := iq c30 e2
      refine aw_aload_n E dX5_single_33 0 rfl ?_
      refine aw_getI E flX5_44 (Nat.le_of_ble_eq_true rfl) rfl rfl dX5_single_34 ?_
      refine aw_sipush (v := 267) E dX5_single_37 (by decide) ?_
      refine aw_icmp_gt (tgt := 59) E dX5_single_40 rfl (fun c40 => ?_) (fun c40 => ?_)
      ·
        replace e2 := ip c40 e2
        subst e2
        exact J4 rfl
      ·
        replace e2 := iq c40 e2
        subst e2
        exact J3 rfl
  ·
    replace h := ip c5 h
    refine aw_aload_n E dX5_single_8 0 rfl ?_
    refine aw_aload_n E dX5_single_9 0 rfl ?_
    refine aw_getI E flX5_87 (Nat.le_of_ble_eq_true rfl) rfl rfl dX5_single_10 ?_
    obtain ⟨q21, e22, h⟩ := bd_e h
    refine aw_callVv (S := []) E mvX5_emit mlX5_95 (Nat.le_of_ble_eq_true rfl) rfl rfl rfl (ctX5_emit (yl Y) g (M.1 10 8)  M q21 e22) rfl (Nat.le_of_ble_eq_true rfl) (Nat.le_trans (Nat.le_of_ble_eq_true rfl : 1 + 1 ≤ 30) (Nat.le_succ_of_le hdd0)) dX5_single_13 ?_
    refine aw_aload_n E dX5_single_16 0 rfl ?_
    obtain ⟨q23, e24, h⟩ := bd_e h
    refine aw_callVv (S := []) E mvX5_advance mlX5_34 (Nat.le_of_ble_eq_true rfl) rfl rfl rfl (ctX5_advance (yl Y) g   q21 q23 e24) rfl (Nat.le_of_ble_eq_true rfl) (Nat.le_trans (Nat.le_of_ble_eq_true rfl : 10 + 1 ≤ 30) (Nat.le_succ_of_le hdd0)) dX5_single_17 ?_
    refine aw_goto (tgt := 97) E dX5_single_20 rfl ?_
    replace h := Option.some.inj h
    subst h
    exact aw_vret E dX5_single_97 hr
def FX5_signed_L17 (GX5_single : Int32 → Mem → Option Mem) : Nat → Int32 → Int32 → Mem → Option (Mem)
  | 0, _, _, _ => none
  | f + 1, p2, p3, M =>
    if p2 ≤ p3 then
      some M
    else
      ob (FX5_emit (-3) M) fun q101 =>
      lt (α := Int32) (p3 + 1) fun x103 =>
      FX5_signed_L17 GX5_single f p2 x103 q101
def FX5_signed (GX5_single : Int32 → Mem → Option Mem) (a1 : Int32) (M : Mem) : Option (Mem) :=
  ob (FX5_openers 45 a1 M) fun q1 =>
  ob (GX5_single (a1 + q1.1) q1.2) fun q3 =>
  ob (FX5_signed_L17 GX5_single FU q1.1 0 q3) fun q5 =>
  some q5
set_option maxHeartbeats 4000000 in
set_option maxRecDepth 100000 in
theorem lpX5_signed_17 {Y : CtxM} {g : CtxG} {r : Option Value × Mem} {dd : Nat} {GX5_single : Int32 → Mem → Option Mem} (E : EV Y (WX g) cX5_signed 4 none RX5) (hdd0 : 30 ≤ dd) (HX5_single : ∀ (l : Launch) (a : Int32) (M M1 : Mem), GX5_single a M = some M1 → Ct l (WX g) yX5_single cX5_single 2 none dd [.ref (wad (WX g) 10), .int a] M (none, M1)) (p2 : Int32) : ∀ (f : Nat) (p3 : Int32) (M : Mem) (q : Mem), FX5_signed_L17 GX5_single f p2 p3 M = some q → AW Y (WX g) r 4 (dd + 1) 34 [] [] q → AW Y (WX g) r 4 (dd + 1) 17 [(0, .ref (wad (WX g) 10)), (2, .int p2), (3, .int p3)] [] M := by
  intro f
  induction f with
  | zero => intro p3 M q hh; exact absurd hh (fun z => nomatch (show (none : Option (Mem)) = some q from z))
  | succ f ih =>
    intro p3 M q hh kx
    rw [FX5_signed_L17] at hh
    refine aw_iload_n E dX5_signed_17 2 rfl ?_
    refine aw_iload_n E dX5_signed_18 1 rfl ?_
    refine aw_icmp_ge (tgt := 34) E dX5_signed_19 rfl (fun c19 => ?_) (fun c19 => ?_)
    ·
      replace hh := ip c19 hh
      refine aw_sub (L1 := []) [] rfl ?_
      replace hh := Option.some.inj hh
      subst hh
      exact kx
    ·
      replace hh := iq c19 hh
      refine aw_aload_n E dX5_signed_22 0 rfl ?_
      refine aw_bipush (v := (-3)) E dX5_signed_23 (by decide) ?_
      obtain ⟨q101, e102, hh⟩ := bd_e hh
      refine aw_callVv (S := []) E mvX5_emit mlX5_95 (Nat.le_of_ble_eq_true rfl) rfl rfl rfl (ctX5_emit (yl Y) g (-3)  M q101 e102) rfl (Nat.le_of_ble_eq_true rfl) (Nat.le_trans (Nat.le_of_ble_eq_true rfl : 1 + 1 ≤ 30) (Nat.le_succ_of_le hdd0)) dX5_signed_25 ?_
      obtain ⟨x103, e104, hh⟩ := lt_e hh
      refine aw_iinc (v := x103) (L1 := [(3, .int x103), (0, .ref (wad (WX g) 10)), (2, .int p2)]) E dX5_signed_28 2 rfl e104 (Nat.le_of_ble_eq_true rfl) rfl ?_
      refine aw_goto (tgt := 17) E dX5_signed_31 rfl ?_
      refine aw_sub (L1 := [(0, .ref (wad (WX g) 10)), (2, .int p2), (3, .int x103)]) [1, 2, 0] rfl ?_
      exact ih x103 q101 _ hh kx
set_option maxHeartbeats 4000000 in
set_option maxRecDepth 100000 in
theorem ctX5_signed (l : Launch) (g : CtxG) (dd : Nat) (GX5_single : Int32 → Mem → Option Mem) (hdd0 : 30 ≤ dd) (HX5_single : ∀ (l : Launch) (a : Int32) (M M1 : Mem), GX5_single a M = some M1 → Ct l (WX g) yX5_single cX5_single 2 none dd [.ref (wad (WX g) 10), .int a] M (none, M1)) (a1 : Int32) (M : Mem) (r0 : Mem) (h : FX5_signed GX5_single a1 M = some r0) : Ct l (WX g) yX5_signed cX5_signed 4 none (dd + 1) [.ref (wad (WX g) 10), .int a1] M (none, r0) := by
  refine Ct.of (by decide) (Nat.le_of_ble_eq_true rfl) (fun Y hY E => ?_)
  have E : EV Y (WX g) cX5_signed 4 none RX5 := E
  have h : FX5_signed GX5_single a1 M = some r0 := h
  unfold FX5_signed at h
  show AW Y (WX g) _ 4 (dd + 1) 0 [(0, .ref (wad (WX g) 10)), (1, .int a1)] [] M
  obtain ⟨r, hr⟩ : ∃ r : Option Value × Mem, r = (none, r0) := ⟨_, rfl⟩
  rw [← hr]
  refine aw_aload_n E dX5_signed_0 0 rfl ?_
  refine aw_bipush (v := 45) E dX5_signed_1 (by decide) ?_
  refine aw_iload_n E dX5_signed_3 1 rfl ?_
  obtain ⟨q1, e2, h⟩ := bd_e h
  refine aw_callVi (S := []) E mvX5_openers mlX5_101 (Nat.le_of_ble_eq_true rfl) rfl rfl rfl (ctX5_openers (yl Y) g 45 a1  M q1 e2) rfl (Nat.le_of_ble_eq_true rfl) (Nat.le_trans (Nat.le_of_ble_eq_true rfl : 11 + 1 ≤ 30) (Nat.le_succ_of_le hdd0)) dX5_signed_4 ?_
  refine aw_istore_n (L1 := [(2, .int q1.1), (0, .ref (wad (WX g) 10)), (1, .int a1)]) E dX5_signed_7 (Nat.le_of_ble_eq_true rfl) rfl ?_
  refine aw_aload_n E dX5_signed_8 1 rfl ?_
  refine aw_iload_n E dX5_signed_9 2 rfl ?_
  refine aw_iload_n E dX5_signed_10 0 rfl ?_
  refine aw_iadd E dX5_signed_11 ?_
  obtain ⟨q3, e4, h⟩ := bd_e h
  refine aw_callVv (S := []) E mvX5_single mlX5_117 (Nat.le_of_ble_eq_true rfl) rfl rfl rfl (HX5_single (yl Y) (a1 + q1.1) q1.2 q3 e4) rfl (Nat.le_of_ble_eq_true rfl) (Nat.le_refl _) dX5_signed_12 ?_
  refine aw_iconst (v := 0) E dX5_signed_15 (by decide) ?_
  refine aw_istore_n (L1 := [(3, .int 0), (2, .int q1.1), (0, .ref (wad (WX g) 10)), (1, .int a1)]) E dX5_signed_16 (Nat.le_of_ble_eq_true rfl) rfl ?_
  obtain ⟨q5, e6, h⟩ := bd_e h
  refine aw_sub (L1 := [(0, .ref (wad (WX g) 10)), (2, .int q1.1), (3, .int 0)]) [2, 1, 0] rfl ?_
  refine lpX5_signed_17 E hdd0 HX5_single   q1.1 FU 0 q3 q5 e6 ?_
  replace h := Option.some.inj h
  subst h
  exact aw_vret E dX5_signed_34 hr
def FX5_product_L7 (GX5_signed : Int32 → Mem → Option Mem) : Nat → Int32 → Int32 → Mem → Option (Mem)
  | 0, _, _, _ => none
  | f + 1, p1, p2, M =>
    lt (α := Bool) (if 160 ≤ p2 then false else if (M.1 10 7) = 42 then true else false) fun b101 =>
    if b101 = true then
      ob (FX5_advance M) fun q105 =>
      ob (GX5_signed p1 q105) fun q107 =>
      ob (FX5_emit (-42) q107) fun q109 =>
      lt (α := Int32) (p2 + 1) fun x111 =>
      FX5_product_L7 GX5_signed f p1 x111 q109
    else
      some M
def FX5_product (GX5_signed : Int32 → Mem → Option Mem) (a1 : Int32) (M : Mem) : Option (Mem) :=
  ob (GX5_signed a1 M) fun q1 =>
  ob (FX5_product_L7 GX5_signed FU a1 0 q1) fun q3 =>
  some q3
set_option maxHeartbeats 4000000 in
set_option maxRecDepth 100000 in
theorem lpX5_product_7 {Y : CtxM} {g : CtxG} {r : Option Value × Mem} {dd : Nat} {GX5_signed : Int32 → Mem → Option Mem} (E : EV Y (WX g) cX5_product 3 none RX5) (hdd0 : 30 ≤ dd) (HX5_signed : ∀ (l : Launch) (a : Int32) (M M1 : Mem), GX5_signed a M = some M1 → Ct l (WX g) yX5_signed cX5_signed 4 none dd [.ref (wad (WX g) 10), .int a] M (none, M1)) (p1 : Int32) : ∀ (f : Nat) (p2 : Int32) (M : Mem) (q : Mem), FX5_product_L7 GX5_signed f p1 p2 M = some q → AW Y (WX g) r 3 (dd + 1) 44 [] [] q → AW Y (WX g) r 3 (dd + 1) 7 [(0, .ref (wad (WX g) 10)), (1, .int p1), (2, .int p2)] [] M := by
  intro f
  induction f with
  | zero => intro p2 M q hh; exact absurd hh (fun z => nomatch (show (none : Option (Mem)) = some q from z))
  | succ f ih =>
    intro p2 M q hh kx
    rw [FX5_product_L7] at hh
    refine aw_iload_n E dX5_product_7 2 rfl ?_
    refine aw_sipush (v := 160) E dX5_product_8 (by decide) ?_
    obtain ⟨b101, e102, hh⟩ := lt_e hh
    have J103 : b101 = true → AW Y (WX g) r 3 (dd + 1) 23 [(0, .ref (wad (WX g) 10)), (1, .int p1), (2, .int p2)] [] M := fun hb => by
      replace hh := ip hb hh
      refine aw_aload_n E dX5_product_23 0 rfl ?_
      obtain ⟨q105, e106, hh⟩ := bd_e hh
      refine aw_callVv (S := []) E mvX5_advance mlX5_34 (Nat.le_of_ble_eq_true rfl) rfl rfl rfl (ctX5_advance (yl Y) g   M q105 e106) rfl (Nat.le_of_ble_eq_true rfl) (Nat.le_trans (Nat.le_of_ble_eq_true rfl : 10 + 1 ≤ 30) (Nat.le_succ_of_le hdd0)) dX5_product_24 ?_
      refine aw_aload_n E dX5_product_27 0 rfl ?_
      refine aw_iload_n E dX5_product_28 1 rfl ?_
      obtain ⟨q107, e108, hh⟩ := bd_e hh
      refine aw_callVv (S := []) E mvX5_signed mlX5_114 (Nat.le_of_ble_eq_true rfl) rfl rfl rfl (HX5_signed (yl Y) p1 q105 q107 e108) rfl (Nat.le_of_ble_eq_true rfl) (Nat.le_refl _) dX5_product_29 ?_
      refine aw_aload_n E dX5_product_32 0 rfl ?_
      refine aw_bipush (v := (-42)) E dX5_product_33 (by decide) ?_
      obtain ⟨q109, e110, hh⟩ := bd_e hh
      refine aw_callVv (S := []) E mvX5_emit mlX5_95 (Nat.le_of_ble_eq_true rfl) rfl rfl rfl (ctX5_emit (yl Y) g (-42)  q107 q109 e110) rfl (Nat.le_of_ble_eq_true rfl) (Nat.le_trans (Nat.le_of_ble_eq_true rfl : 1 + 1 ≤ 30) (Nat.le_succ_of_le hdd0)) dX5_product_35 ?_
      obtain ⟨x111, e112, hh⟩ := lt_e hh
      refine aw_iinc (v := x111) (L1 := [(2, .int x111), (0, .ref (wad (WX g) 10)), (1, .int p1)]) E dX5_product_38 2 rfl e112 (Nat.le_of_ble_eq_true rfl) rfl ?_
      refine aw_goto (tgt := 7) E dX5_product_41 rfl ?_
      refine aw_sub (L1 := [(0, .ref (wad (WX g) 10)), (1, .int p1), (2, .int x111)]) [1, 2, 0] rfl ?_
      exact ih x111 q109 _ hh kx
    have J104 : b101 = false → AW Y (WX g) r 3 (dd + 1) 44 [(0, .ref (wad (WX g) 10)), (1, .int p1), (2, .int p2)] [] M := fun hb => by
      replace hh := iq (bf hb) hh
      refine aw_sub (L1 := []) [] rfl ?_
      replace hh := Option.some.inj hh
      subst hh
      exact kx
    refine aw_icmp_ge (tgt := 44) E dX5_product_11 rfl (fun c11 => ?_) (fun c11 => ?_)
    ·
      replace e102 := ip c11 e102
      subst e102
      exact J104 rfl
    ·
      replace e102 := iq c11 e102
      refine aw_aload_n E dX5_product_14 0 rfl ?_
      refine aw_getI E flX5_44 (Nat.le_of_ble_eq_true rfl) rfl rfl dX5_product_15 ?_
      refine aw_bipush (v := 42) E dX5_product_18 (by decide) ?_
      refine aw_icmp_ne (tgt := 44) E dX5_product_20 rfl (fun c20 => ?_) (fun c20 => ?_)
      ·
        replace e102 := iq c20 e102
        subst e102
        exact J104 rfl
      ·
        replace e102 := ip c20 e102
        subst e102
        exact J103 rfl
set_option maxHeartbeats 4000000 in
set_option maxRecDepth 100000 in
theorem ctX5_product (l : Launch) (g : CtxG) (dd : Nat) (GX5_signed : Int32 → Mem → Option Mem) (hdd0 : 30 ≤ dd) (HX5_signed : ∀ (l : Launch) (a : Int32) (M M1 : Mem), GX5_signed a M = some M1 → Ct l (WX g) yX5_signed cX5_signed 4 none dd [.ref (wad (WX g) 10), .int a] M (none, M1)) (a1 : Int32) (M : Mem) (r0 : Mem) (h : FX5_product GX5_signed a1 M = some r0) : Ct l (WX g) yX5_product cX5_product 3 none (dd + 1) [.ref (wad (WX g) 10), .int a1] M (none, r0) := by
  refine Ct.of (by decide) (Nat.le_of_ble_eq_true rfl) (fun Y hY E => ?_)
  have E : EV Y (WX g) cX5_product 3 none RX5 := E
  have h : FX5_product GX5_signed a1 M = some r0 := h
  unfold FX5_product at h
  show AW Y (WX g) _ 3 (dd + 1) 0 [(0, .ref (wad (WX g) 10)), (1, .int a1)] [] M
  obtain ⟨r, hr⟩ : ∃ r : Option Value × Mem, r = (none, r0) := ⟨_, rfl⟩
  rw [← hr]
  refine aw_aload_n E dX5_product_0 0 rfl ?_
  refine aw_iload_n E dX5_product_1 1 rfl ?_
  obtain ⟨q1, e2, h⟩ := bd_e h
  refine aw_callVv (S := []) E mvX5_signed mlX5_114 (Nat.le_of_ble_eq_true rfl) rfl rfl rfl (HX5_signed (yl Y) a1 M q1 e2) rfl (Nat.le_of_ble_eq_true rfl) (Nat.le_refl _) dX5_product_2 ?_
  refine aw_iconst (v := 0) E dX5_product_5 (by decide) ?_
  refine aw_istore_n (L1 := [(2, .int 0), (0, .ref (wad (WX g) 10)), (1, .int a1)]) E dX5_product_6 (Nat.le_of_ble_eq_true rfl) rfl ?_
  obtain ⟨q3, e4, h⟩ := bd_e h
  refine aw_sub (L1 := [(0, .ref (wad (WX g) 10)), (1, .int a1), (2, .int 0)]) [1, 2, 0] rfl ?_
  refine lpX5_product_7 E hdd0 HX5_signed   a1 FU 0 q1 q3 e4 ?_
  replace h := Option.some.inj h
  subst h
  exact aw_vret E dX5_product_44 hr
def FX5_sum_L7 (GX5_product : Int32 → Mem → Option Mem) : Nat → Int32 → Int32 → Mem → Option (Mem)
  | 0, _, _, _ => none
  | f + 1, p1, p2, M =>
    if 160 ≤ p2 then
      some M
    else
      lt (α := Bool) (if (M.1 10 7) = 43 then true else if (M.1 10 7) = 45 then true else false) fun b101 =>
      if b101 = true then
        lt (α := Int32) (M.1 10 7) fun x105 =>
        ob (FX5_advance M) fun q107 =>
        ob (GX5_product p1 q107) fun q109 =>
        ob (FX5_emit (-x105) q109) fun q111 =>
        lt (α := Int32) (p2 + 1) fun x113 =>
        FX5_sum_L7 GX5_product f p1 x113 q111
      else
        some M
def FX5_sum (GX5_product : Int32 → Mem → Option Mem) (a1 : Int32) (M : Mem) : Option (Mem) :=
  ob (GX5_product a1 M) fun q1 =>
  ob (FX5_sum_L7 GX5_product FU a1 0 q1) fun q3 =>
  some q3
set_option maxHeartbeats 4000000 in
set_option maxRecDepth 100000 in
theorem lpX5_sum_7 {Y : CtxM} {g : CtxG} {r : Option Value × Mem} {dd : Nat} {GX5_product : Int32 → Mem → Option Mem} (E : EV Y (WX g) cX5_sum 4 none RX5) (hdd0 : 30 ≤ dd) (HX5_product : ∀ (l : Launch) (a : Int32) (M M1 : Mem), GX5_product a M = some M1 → Ct l (WX g) yX5_product cX5_product 3 none dd [.ref (wad (WX g) 10), .int a] M (none, M1)) (p1 : Int32) : ∀ (f : Nat) (p2 : Int32) (M : Mem) (q : Mem), FX5_sum_L7 GX5_product f p1 p2 M = some q → AW Y (WX g) r 4 (dd + 1) 58 [] [] q → AW Y (WX g) r 4 (dd + 1) 7 [(0, .ref (wad (WX g) 10)), (1, .int p1), (2, .int p2)] [] M := by
  intro f
  induction f with
  | zero => intro p2 M q hh; exact absurd hh (fun z => nomatch (show (none : Option (Mem)) = some q from z))
  | succ f ih =>
    intro p2 M q hh kx
    rw [FX5_sum_L7] at hh
    refine aw_iload_n E dX5_sum_7 2 rfl ?_
    refine aw_sipush (v := 160) E dX5_sum_8 (by decide) ?_
    refine aw_icmp_ge (tgt := 58) E dX5_sum_11 rfl (fun c11 => ?_) (fun c11 => ?_)
    ·
      replace hh := ip c11 hh
      refine aw_sub (L1 := []) [] rfl ?_
      replace hh := Option.some.inj hh
      subst hh
      exact kx
    ·
      replace hh := iq c11 hh
      refine aw_aload_n E dX5_sum_14 0 rfl ?_
      refine aw_getI E flX5_44 (Nat.le_of_ble_eq_true rfl) rfl rfl dX5_sum_15 ?_
      refine aw_bipush (v := 43) E dX5_sum_18 (by decide) ?_
      obtain ⟨b101, e102, hh⟩ := lt_e hh
      have J103 : b101 = true → AW Y (WX g) r 4 (dd + 1) 32 [(0, .ref (wad (WX g) 10)), (1, .int p1), (2, .int p2)] [] M := fun hb => by
        replace hh := ip hb hh
        refine aw_aload_n E dX5_sum_32 0 rfl ?_
        refine aw_getI E flX5_44 (Nat.le_of_ble_eq_true rfl) rfl rfl dX5_sum_33 ?_
        obtain ⟨x105, e106, hh⟩ := lt_e hh
        refine aw_nmI e106 ?_
        refine aw_istore_n (L1 := [(3, .int x105), (0, .ref (wad (WX g) 10)), (1, .int p1), (2, .int p2)]) E dX5_sum_36 (Nat.le_of_ble_eq_true rfl) rfl ?_
        refine aw_aload_n E dX5_sum_37 1 rfl ?_
        obtain ⟨q107, e108, hh⟩ := bd_e hh
        refine aw_callVv (S := []) E mvX5_advance mlX5_34 (Nat.le_of_ble_eq_true rfl) rfl rfl rfl (ctX5_advance (yl Y) g   M q107 e108) rfl (Nat.le_of_ble_eq_true rfl) (Nat.le_trans (Nat.le_of_ble_eq_true rfl : 10 + 1 ≤ 30) (Nat.le_succ_of_le hdd0)) dX5_sum_38 ?_
        refine aw_aload_n E dX5_sum_41 1 rfl ?_
        refine aw_iload_n E dX5_sum_42 2 rfl ?_
        obtain ⟨q109, e110, hh⟩ := bd_e hh
        refine aw_callVv (S := []) E mvX5_product mlX5_111 (Nat.le_of_ble_eq_true rfl) rfl rfl rfl (HX5_product (yl Y) p1 q107 q109 e110) rfl (Nat.le_of_ble_eq_true rfl) (Nat.le_refl _) dX5_sum_43 ?_
        refine aw_aload_n E dX5_sum_46 1 rfl ?_
        refine aw_iload_n E dX5_sum_47 0 rfl ?_
        refine aw_ineg E dX5_sum_48 ?_
        obtain ⟨q111, e112, hh⟩ := bd_e hh
        refine aw_callVv (S := []) E mvX5_emit mlX5_95 (Nat.le_of_ble_eq_true rfl) rfl rfl rfl (ctX5_emit (yl Y) g (-x105)  q109 q111 e112) rfl (Nat.le_of_ble_eq_true rfl) (Nat.le_trans (Nat.le_of_ble_eq_true rfl : 1 + 1 ≤ 30) (Nat.le_succ_of_le hdd0)) dX5_sum_49 ?_
        obtain ⟨x113, e114, hh⟩ := lt_e hh
        refine aw_iinc (v := x113) (L1 := [(2, .int x113), (3, .int x105), (0, .ref (wad (WX g) 10)), (1, .int p1)]) E dX5_sum_52 3 rfl e114 (Nat.le_of_ble_eq_true rfl) rfl ?_
        refine aw_goto (tgt := 7) E dX5_sum_55 rfl ?_
        refine aw_sub (L1 := [(0, .ref (wad (WX g) 10)), (1, .int p1), (2, .int x113)]) [2, 3, 0] rfl ?_
        exact ih x113 q111 _ hh kx
      have J104 : b101 = false → AW Y (WX g) r 4 (dd + 1) 58 [(0, .ref (wad (WX g) 10)), (1, .int p1), (2, .int p2)] [] M := fun hb => by
        replace hh := iq (bf hb) hh
        refine aw_sub (L1 := []) [] rfl ?_
        replace hh := Option.some.inj hh
        subst hh
        exact kx
      refine aw_icmp_eq (tgt := 32) E dX5_sum_20 rfl (fun c20 => ?_) (fun c20 => ?_)
      ·
        replace e102 := ip c20 e102
        subst e102
        exact J103 rfl
      ·
        replace e102 := iq c20 e102
        refine aw_aload_n E dX5_sum_23 0 rfl ?_
        refine aw_getI E flX5_44 (Nat.le_of_ble_eq_true rfl) rfl rfl dX5_sum_24 ?_
        refine aw_bipush (v := 45) E dX5_sum_27 (by decide) ?_
        refine aw_icmp_ne (tgt := 58) E dX5_sum_29 rfl (fun c29 => ?_) (fun c29 => ?_)
        ·
          replace e102 := iq c29 e102
          subst e102
          exact J104 rfl
        ·
          replace e102 := ip c29 e102
          subst e102
          exact J103 rfl
set_option maxHeartbeats 4000000 in
set_option maxRecDepth 100000 in
theorem ctX5_sum (l : Launch) (g : CtxG) (dd : Nat) (GX5_product : Int32 → Mem → Option Mem) (hdd0 : 30 ≤ dd) (HX5_product : ∀ (l : Launch) (a : Int32) (M M1 : Mem), GX5_product a M = some M1 → Ct l (WX g) yX5_product cX5_product 3 none dd [.ref (wad (WX g) 10), .int a] M (none, M1)) (a1 : Int32) (M : Mem) (r0 : Mem) (h : FX5_sum GX5_product a1 M = some r0) : Ct l (WX g) yX5_sum cX5_sum 4 none (dd + 1) [.ref (wad (WX g) 10), .int a1] M (none, r0) := by
  refine Ct.of (by decide) (Nat.le_of_ble_eq_true rfl) (fun Y hY E => ?_)
  have E : EV Y (WX g) cX5_sum 4 none RX5 := E
  have h : FX5_sum GX5_product a1 M = some r0 := h
  unfold FX5_sum at h
  show AW Y (WX g) _ 4 (dd + 1) 0 [(0, .ref (wad (WX g) 10)), (1, .int a1)] [] M
  obtain ⟨r, hr⟩ : ∃ r : Option Value × Mem, r = (none, r0) := ⟨_, rfl⟩
  rw [← hr]
  refine aw_aload_n E dX5_sum_0 0 rfl ?_
  refine aw_iload_n E dX5_sum_1 1 rfl ?_
  obtain ⟨q1, e2, h⟩ := bd_e h
  refine aw_callVv (S := []) E mvX5_product mlX5_111 (Nat.le_of_ble_eq_true rfl) rfl rfl rfl (HX5_product (yl Y) a1 M q1 e2) rfl (Nat.le_of_ble_eq_true rfl) (Nat.le_refl _) dX5_sum_2 ?_
  refine aw_iconst (v := 0) E dX5_sum_5 (by decide) ?_
  refine aw_istore_n (L1 := [(2, .int 0), (0, .ref (wad (WX g) 10)), (1, .int a1)]) E dX5_sum_6 (Nat.le_of_ble_eq_true rfl) rfl ?_
  obtain ⟨q3, e4, h⟩ := bd_e h
  refine aw_sub (L1 := [(0, .ref (wad (WX g) 10)), (1, .int a1), (2, .int 0)]) [1, 2, 0] rfl ?_
  refine lpX5_sum_7 E hdd0 HX5_product   a1 FU 0 q1 q3 e4 ?_
  replace h := Option.some.inj h
  subst h
  exact aw_vret E dX5_sum_58 hr
def FX5_compared (GX5_sum : Int32 → Mem → Option Mem) (a1 : Int32) (M : Mem) : Option (Mem) :=
  ob (GX5_sum a1 M) fun q1 =>
  lt (α := Bool) (if (q1.1 10 7) = 60 then false else if (q1.1 10 7) = 61 then false else true) fun b3 =>
  if b3 = true then
    some q1
  else
    lt (α := Int32) (q1.1 10 7) fun x7 =>
    ob (FX5_advance q1) fun q9 =>
    ob (GX5_sum a1 q9) fun q11 =>
    ob (FX5_emit (-x7) q11) fun q13 =>
    some q13
set_option maxHeartbeats 4000000 in
set_option maxRecDepth 100000 in
theorem ctX5_compared (l : Launch) (g : CtxG) (dd : Nat) (GX5_sum : Int32 → Mem → Option Mem) (hdd0 : 30 ≤ dd) (HX5_sum : ∀ (l : Launch) (a : Int32) (M M1 : Mem), GX5_sum a M = some M1 → Ct l (WX g) yX5_sum cX5_sum 4 none dd [.ref (wad (WX g) 10), .int a] M (none, M1)) (a1 : Int32) (M : Mem) (r0 : Mem) (h : FX5_compared GX5_sum a1 M = some r0) : Ct l (WX g) yX5_compared cX5_compared 3 none (dd + 1) [.ref (wad (WX g) 10), .int a1] M (none, r0) := by
  refine Ct.of (by decide) (Nat.le_of_ble_eq_true rfl) (fun Y hY E => ?_)
  have E : EV Y (WX g) cX5_compared 3 none RX5 := E
  have h : FX5_compared GX5_sum a1 M = some r0 := h
  unfold FX5_compared at h
  show AW Y (WX g) _ 3 (dd + 1) 0 [(0, .ref (wad (WX g) 10)), (1, .int a1)] [] M
  obtain ⟨r, hr⟩ : ∃ r : Option Value × Mem, r = (none, r0) := ⟨_, rfl⟩
  rw [← hr]
  refine aw_aload_n E dX5_compared_0 0 rfl ?_
  refine aw_iload_n E dX5_compared_1 1 rfl ?_
  obtain ⟨q1, e2, h⟩ := bd_e h
  refine aw_callVv (S := []) E mvX5_sum mlX5_108 (Nat.le_of_ble_eq_true rfl) rfl rfl rfl (HX5_sum (yl Y) a1 M q1 e2) rfl (Nat.le_of_ble_eq_true rfl) (Nat.le_refl _) dX5_compared_2 ?_
  refine aw_aload_n E dX5_compared_5 0 rfl ?_
  refine aw_getI E flX5_44 (Nat.le_of_ble_eq_true rfl) rfl rfl dX5_compared_6 ?_
  refine aw_bipush (v := 60) E dX5_compared_9 (by decide) ?_
  obtain ⟨b3, e4, h⟩ := lt_e h
  have J5 : b3 = true → AW Y (WX g) r 3 (dd + 1) 23 [(0, .ref (wad (WX g) 10)), (1, .int a1)] [] q1 := fun hb => by
    replace h := ip hb h
    replace h := Option.some.inj h
    subst h
    exact aw_vret E dX5_compared_23 hr
  have J6 : b3 = false → AW Y (WX g) r 3 (dd + 1) 24 [(0, .ref (wad (WX g) 10)), (1, .int a1)] [] q1 := fun hb => by
    replace h := iq (bf hb) h
    refine aw_aload_n E dX5_compared_24 0 rfl ?_
    refine aw_getI E flX5_44 (Nat.le_of_ble_eq_true rfl) rfl rfl dX5_compared_25 ?_
    obtain ⟨x7, e8, h⟩ := lt_e h
    refine aw_nmI e8 ?_
    refine aw_istore_n (L1 := [(2, .int x7), (0, .ref (wad (WX g) 10)), (1, .int a1)]) E dX5_compared_28 (Nat.le_of_ble_eq_true rfl) rfl ?_
    refine aw_aload_n E dX5_compared_29 1 rfl ?_
    obtain ⟨q9, e10, h⟩ := bd_e h
    refine aw_callVv (S := []) E mvX5_advance mlX5_34 (Nat.le_of_ble_eq_true rfl) rfl rfl rfl (ctX5_advance (yl Y) g   q1 q9 e10) rfl (Nat.le_of_ble_eq_true rfl) (Nat.le_trans (Nat.le_of_ble_eq_true rfl : 10 + 1 ≤ 30) (Nat.le_succ_of_le hdd0)) dX5_compared_30 ?_
    refine aw_aload_n E dX5_compared_33 1 rfl ?_
    refine aw_iload_n E dX5_compared_34 2 rfl ?_
    obtain ⟨q11, e12, h⟩ := bd_e h
    refine aw_callVv (S := []) E mvX5_sum mlX5_108 (Nat.le_of_ble_eq_true rfl) rfl rfl rfl (HX5_sum (yl Y) a1 q9 q11 e12) rfl (Nat.le_of_ble_eq_true rfl) (Nat.le_refl _) dX5_compared_35 ?_
    refine aw_aload_n E dX5_compared_38 1 rfl ?_
    refine aw_iload_n E dX5_compared_39 0 rfl ?_
    refine aw_ineg E dX5_compared_40 ?_
    obtain ⟨q13, e14, h⟩ := bd_e h
    refine aw_callVv (S := []) E mvX5_emit mlX5_95 (Nat.le_of_ble_eq_true rfl) rfl rfl rfl (ctX5_emit (yl Y) g (-x7)  q11 q13 e14) rfl (Nat.le_of_ble_eq_true rfl) (Nat.le_trans (Nat.le_of_ble_eq_true rfl : 1 + 1 ≤ 30) (Nat.le_succ_of_le hdd0)) dX5_compared_41 ?_
    replace h := Option.some.inj h
    subst h
    exact aw_vret E dX5_compared_44 hr
  refine aw_icmp_eq (tgt := 24) E dX5_compared_11 rfl (fun c11 => ?_) (fun c11 => ?_)
  ·
    replace e4 := ip c11 e4
    subst e4
    exact J6 rfl
  ·
    replace e4 := iq c11 e4
    refine aw_aload_n E dX5_compared_14 0 rfl ?_
    refine aw_getI E flX5_44 (Nat.le_of_ble_eq_true rfl) rfl rfl dX5_compared_15 ?_
    refine aw_bipush (v := 61) E dX5_compared_18 (by decide) ?_
    refine aw_icmp_eq (tgt := 24) E dX5_compared_20 rfl (fun c20 => ?_) (fun c20 => ?_)
    ·
      replace e4 := ip c20 e4
      subst e4
      exact J6 rfl
    ·
      replace e4 := iq c20 e4
      subst e4
      exact J5 rfl
def FX5_denied_L18 (GX5_compared : Int32 → Mem → Option Mem) : Nat → Int32 → Int32 → Mem → Option (Mem)
  | 0, _, _, _ => none
  | f + 1, p2, p3, M =>
    if p2 ≤ p3 then
      some M
    else
      ob (FX5_emit (-261) M) fun q101 =>
      lt (α := Int32) (p3 + 1) fun x103 =>
      FX5_denied_L18 GX5_compared f p2 x103 q101
def FX5_denied (GX5_compared : Int32 → Mem → Option Mem) (a1 : Int32) (M : Mem) : Option (Mem) :=
  ob (FX5_openers 261 a1 M) fun q1 =>
  ob (GX5_compared (a1 + q1.1) q1.2) fun q3 =>
  ob (FX5_denied_L18 GX5_compared FU q1.1 0 q3) fun q5 =>
  some q5
set_option maxHeartbeats 4000000 in
set_option maxRecDepth 100000 in
theorem lpX5_denied_18 {Y : CtxM} {g : CtxG} {r : Option Value × Mem} {dd : Nat} {GX5_compared : Int32 → Mem → Option Mem} (E : EV Y (WX g) cX5_denied 4 none RX5) (hdd0 : 30 ≤ dd) (HX5_compared : ∀ (l : Launch) (a : Int32) (M M1 : Mem), GX5_compared a M = some M1 → Ct l (WX g) yX5_compared cX5_compared 3 none dd [.ref (wad (WX g) 10), .int a] M (none, M1)) (p2 : Int32) : ∀ (f : Nat) (p3 : Int32) (M : Mem) (q : Mem), FX5_denied_L18 GX5_compared f p2 p3 M = some q → AW Y (WX g) r 4 (dd + 1) 36 [] [] q → AW Y (WX g) r 4 (dd + 1) 18 [(0, .ref (wad (WX g) 10)), (2, .int p2), (3, .int p3)] [] M := by
  intro f
  induction f with
  | zero => intro p3 M q hh; exact absurd hh (fun z => nomatch (show (none : Option (Mem)) = some q from z))
  | succ f ih =>
    intro p3 M q hh kx
    rw [FX5_denied_L18] at hh
    refine aw_iload_n E dX5_denied_18 2 rfl ?_
    refine aw_iload_n E dX5_denied_19 1 rfl ?_
    refine aw_icmp_ge (tgt := 36) E dX5_denied_20 rfl (fun c20 => ?_) (fun c20 => ?_)
    ·
      replace hh := ip c20 hh
      refine aw_sub (L1 := []) [] rfl ?_
      replace hh := Option.some.inj hh
      subst hh
      exact kx
    ·
      replace hh := iq c20 hh
      refine aw_aload_n E dX5_denied_23 0 rfl ?_
      refine aw_sipush (v := (-261)) E dX5_denied_24 (by decide) ?_
      obtain ⟨q101, e102, hh⟩ := bd_e hh
      refine aw_callVv (S := []) E mvX5_emit mlX5_95 (Nat.le_of_ble_eq_true rfl) rfl rfl rfl (ctX5_emit (yl Y) g (-261)  M q101 e102) rfl (Nat.le_of_ble_eq_true rfl) (Nat.le_trans (Nat.le_of_ble_eq_true rfl : 1 + 1 ≤ 30) (Nat.le_succ_of_le hdd0)) dX5_denied_27 ?_
      obtain ⟨x103, e104, hh⟩ := lt_e hh
      refine aw_iinc (v := x103) (L1 := [(3, .int x103), (0, .ref (wad (WX g) 10)), (2, .int p2)]) E dX5_denied_30 2 rfl e104 (Nat.le_of_ble_eq_true rfl) rfl ?_
      refine aw_goto (tgt := 18) E dX5_denied_33 rfl ?_
      refine aw_sub (L1 := [(0, .ref (wad (WX g) 10)), (2, .int p2), (3, .int x103)]) [1, 2, 0] rfl ?_
      exact ih x103 q101 _ hh kx
set_option maxHeartbeats 4000000 in
set_option maxRecDepth 100000 in
theorem ctX5_denied (l : Launch) (g : CtxG) (dd : Nat) (GX5_compared : Int32 → Mem → Option Mem) (hdd0 : 30 ≤ dd) (HX5_compared : ∀ (l : Launch) (a : Int32) (M M1 : Mem), GX5_compared a M = some M1 → Ct l (WX g) yX5_compared cX5_compared 3 none dd [.ref (wad (WX g) 10), .int a] M (none, M1)) (a1 : Int32) (M : Mem) (r0 : Mem) (h : FX5_denied GX5_compared a1 M = some r0) : Ct l (WX g) yX5_denied cX5_denied 4 none (dd + 1) [.ref (wad (WX g) 10), .int a1] M (none, r0) := by
  refine Ct.of (by decide) (Nat.le_of_ble_eq_true rfl) (fun Y hY E => ?_)
  have E : EV Y (WX g) cX5_denied 4 none RX5 := E
  have h : FX5_denied GX5_compared a1 M = some r0 := h
  unfold FX5_denied at h
  show AW Y (WX g) _ 4 (dd + 1) 0 [(0, .ref (wad (WX g) 10)), (1, .int a1)] [] M
  obtain ⟨r, hr⟩ : ∃ r : Option Value × Mem, r = (none, r0) := ⟨_, rfl⟩
  rw [← hr]
  refine aw_aload_n E dX5_denied_0 0 rfl ?_
  refine aw_sipush (v := 261) E dX5_denied_1 (by decide) ?_
  refine aw_iload_n E dX5_denied_4 1 rfl ?_
  obtain ⟨q1, e2, h⟩ := bd_e h
  refine aw_callVi (S := []) E mvX5_openers mlX5_101 (Nat.le_of_ble_eq_true rfl) rfl rfl rfl (ctX5_openers (yl Y) g 261 a1  M q1 e2) rfl (Nat.le_of_ble_eq_true rfl) (Nat.le_trans (Nat.le_of_ble_eq_true rfl : 11 + 1 ≤ 30) (Nat.le_succ_of_le hdd0)) dX5_denied_5 ?_
  refine aw_istore_n (L1 := [(2, .int q1.1), (0, .ref (wad (WX g) 10)), (1, .int a1)]) E dX5_denied_8 (Nat.le_of_ble_eq_true rfl) rfl ?_
  refine aw_aload_n E dX5_denied_9 1 rfl ?_
  refine aw_iload_n E dX5_denied_10 2 rfl ?_
  refine aw_iload_n E dX5_denied_11 0 rfl ?_
  refine aw_iadd E dX5_denied_12 ?_
  obtain ⟨q3, e4, h⟩ := bd_e h
  refine aw_callVv (S := []) E mvX5_compared mlX5_105 (Nat.le_of_ble_eq_true rfl) rfl rfl rfl (HX5_compared (yl Y) (a1 + q1.1) q1.2 q3 e4) rfl (Nat.le_of_ble_eq_true rfl) (Nat.le_refl _) dX5_denied_13 ?_
  refine aw_iconst (v := 0) E dX5_denied_16 (by decide) ?_
  refine aw_istore_n (L1 := [(3, .int 0), (2, .int q1.1), (0, .ref (wad (WX g) 10)), (1, .int a1)]) E dX5_denied_17 (Nat.le_of_ble_eq_true rfl) rfl ?_
  obtain ⟨q5, e6, h⟩ := bd_e h
  refine aw_sub (L1 := [(0, .ref (wad (WX g) 10)), (2, .int q1.1), (3, .int 0)]) [2, 1, 0] rfl ?_
  refine lpX5_denied_18 E hdd0 HX5_compared   q1.1 FU 0 q3 q5 e6 ?_
  replace h := Option.some.inj h
  subst h
  exact aw_vret E dX5_denied_36 hr
def FX5_both_L7 (GX5_denied : Int32 → Mem → Option Mem) : Nat → Int32 → Int32 → Mem → Option (Mem)
  | 0, _, _, _ => none
  | f + 1, p1, p2, M =>
    lt (α := Bool) (if 160 ≤ p2 then false else if (M.1 10 7) = 260 then true else false) fun b101 =>
    if b101 = true then
      ob (FX5_advance M) fun q105 =>
      ob (GX5_denied p1 q105) fun q107 =>
      ob (FX5_emit (-260) q107) fun q109 =>
      lt (α := Int32) (p2 + 1) fun x111 =>
      FX5_both_L7 GX5_denied f p1 x111 q109
    else
      some M
def FX5_both (GX5_denied : Int32 → Mem → Option Mem) (a1 : Int32) (M : Mem) : Option (Mem) :=
  ob (GX5_denied a1 M) fun q1 =>
  ob (FX5_both_L7 GX5_denied FU a1 0 q1) fun q3 =>
  some q3
set_option maxHeartbeats 4000000 in
set_option maxRecDepth 100000 in
theorem lpX5_both_7 {Y : CtxM} {g : CtxG} {r : Option Value × Mem} {dd : Nat} {GX5_denied : Int32 → Mem → Option Mem} (E : EV Y (WX g) cX5_both 3 none RX5) (hdd0 : 30 ≤ dd) (HX5_denied : ∀ (l : Launch) (a : Int32) (M M1 : Mem), GX5_denied a M = some M1 → Ct l (WX g) yX5_denied cX5_denied 4 none dd [.ref (wad (WX g) 10), .int a] M (none, M1)) (p1 : Int32) : ∀ (f : Nat) (p2 : Int32) (M : Mem) (q : Mem), FX5_both_L7 GX5_denied f p1 p2 M = some q → AW Y (WX g) r 3 (dd + 1) 46 [] [] q → AW Y (WX g) r 3 (dd + 1) 7 [(0, .ref (wad (WX g) 10)), (1, .int p1), (2, .int p2)] [] M := by
  intro f
  induction f with
  | zero => intro p2 M q hh; exact absurd hh (fun z => nomatch (show (none : Option (Mem)) = some q from z))
  | succ f ih =>
    intro p2 M q hh kx
    rw [FX5_both_L7] at hh
    refine aw_iload_n E dX5_both_7 2 rfl ?_
    refine aw_sipush (v := 160) E dX5_both_8 (by decide) ?_
    obtain ⟨b101, e102, hh⟩ := lt_e hh
    have J103 : b101 = true → AW Y (WX g) r 3 (dd + 1) 24 [(0, .ref (wad (WX g) 10)), (1, .int p1), (2, .int p2)] [] M := fun hb => by
      replace hh := ip hb hh
      refine aw_aload_n E dX5_both_24 0 rfl ?_
      obtain ⟨q105, e106, hh⟩ := bd_e hh
      refine aw_callVv (S := []) E mvX5_advance mlX5_34 (Nat.le_of_ble_eq_true rfl) rfl rfl rfl (ctX5_advance (yl Y) g   M q105 e106) rfl (Nat.le_of_ble_eq_true rfl) (Nat.le_trans (Nat.le_of_ble_eq_true rfl : 10 + 1 ≤ 30) (Nat.le_succ_of_le hdd0)) dX5_both_25 ?_
      refine aw_aload_n E dX5_both_28 0 rfl ?_
      refine aw_iload_n E dX5_both_29 1 rfl ?_
      obtain ⟨q107, e108, hh⟩ := bd_e hh
      refine aw_callVv (S := []) E mvX5_denied mlX5_98 (Nat.le_of_ble_eq_true rfl) rfl rfl rfl (HX5_denied (yl Y) p1 q105 q107 e108) rfl (Nat.le_of_ble_eq_true rfl) (Nat.le_refl _) dX5_both_30 ?_
      refine aw_aload_n E dX5_both_33 0 rfl ?_
      refine aw_sipush (v := (-260)) E dX5_both_34 (by decide) ?_
      obtain ⟨q109, e110, hh⟩ := bd_e hh
      refine aw_callVv (S := []) E mvX5_emit mlX5_95 (Nat.le_of_ble_eq_true rfl) rfl rfl rfl (ctX5_emit (yl Y) g (-260)  q107 q109 e110) rfl (Nat.le_of_ble_eq_true rfl) (Nat.le_trans (Nat.le_of_ble_eq_true rfl : 1 + 1 ≤ 30) (Nat.le_succ_of_le hdd0)) dX5_both_37 ?_
      obtain ⟨x111, e112, hh⟩ := lt_e hh
      refine aw_iinc (v := x111) (L1 := [(2, .int x111), (0, .ref (wad (WX g) 10)), (1, .int p1)]) E dX5_both_40 2 rfl e112 (Nat.le_of_ble_eq_true rfl) rfl ?_
      refine aw_goto (tgt := 7) E dX5_both_43 rfl ?_
      refine aw_sub (L1 := [(0, .ref (wad (WX g) 10)), (1, .int p1), (2, .int x111)]) [1, 2, 0] rfl ?_
      exact ih x111 q109 _ hh kx
    have J104 : b101 = false → AW Y (WX g) r 3 (dd + 1) 46 [(0, .ref (wad (WX g) 10)), (1, .int p1), (2, .int p2)] [] M := fun hb => by
      replace hh := iq (bf hb) hh
      refine aw_sub (L1 := []) [] rfl ?_
      replace hh := Option.some.inj hh
      subst hh
      exact kx
    refine aw_icmp_ge (tgt := 46) E dX5_both_11 rfl (fun c11 => ?_) (fun c11 => ?_)
    ·
      replace e102 := ip c11 e102
      subst e102
      exact J104 rfl
    ·
      replace e102 := iq c11 e102
      refine aw_aload_n E dX5_both_14 0 rfl ?_
      refine aw_getI E flX5_44 (Nat.le_of_ble_eq_true rfl) rfl rfl dX5_both_15 ?_
      refine aw_sipush (v := 260) E dX5_both_18 (by decide) ?_
      refine aw_icmp_ne (tgt := 46) E dX5_both_21 rfl (fun c21 => ?_) (fun c21 => ?_)
      ·
        replace e102 := iq c21 e102
        subst e102
        exact J104 rfl
      ·
        replace e102 := ip c21 e102
        subst e102
        exact J103 rfl
set_option maxHeartbeats 4000000 in
set_option maxRecDepth 100000 in
theorem ctX5_both (l : Launch) (g : CtxG) (dd : Nat) (GX5_denied : Int32 → Mem → Option Mem) (hdd0 : 30 ≤ dd) (HX5_denied : ∀ (l : Launch) (a : Int32) (M M1 : Mem), GX5_denied a M = some M1 → Ct l (WX g) yX5_denied cX5_denied 4 none dd [.ref (wad (WX g) 10), .int a] M (none, M1)) (a1 : Int32) (M : Mem) (r0 : Mem) (h : FX5_both GX5_denied a1 M = some r0) : Ct l (WX g) yX5_both cX5_both 3 none (dd + 1) [.ref (wad (WX g) 10), .int a1] M (none, r0) := by
  refine Ct.of (by decide) (Nat.le_of_ble_eq_true rfl) (fun Y hY E => ?_)
  have E : EV Y (WX g) cX5_both 3 none RX5 := E
  have h : FX5_both GX5_denied a1 M = some r0 := h
  unfold FX5_both at h
  show AW Y (WX g) _ 3 (dd + 1) 0 [(0, .ref (wad (WX g) 10)), (1, .int a1)] [] M
  obtain ⟨r, hr⟩ : ∃ r : Option Value × Mem, r = (none, r0) := ⟨_, rfl⟩
  rw [← hr]
  refine aw_aload_n E dX5_both_0 0 rfl ?_
  refine aw_iload_n E dX5_both_1 1 rfl ?_
  obtain ⟨q1, e2, h⟩ := bd_e h
  refine aw_callVv (S := []) E mvX5_denied mlX5_98 (Nat.le_of_ble_eq_true rfl) rfl rfl rfl (HX5_denied (yl Y) a1 M q1 e2) rfl (Nat.le_of_ble_eq_true rfl) (Nat.le_refl _) dX5_both_2 ?_
  refine aw_iconst (v := 0) E dX5_both_5 (by decide) ?_
  refine aw_istore_n (L1 := [(2, .int 0), (0, .ref (wad (WX g) 10)), (1, .int a1)]) E dX5_both_6 (Nat.le_of_ble_eq_true rfl) rfl ?_
  obtain ⟨q3, e4, h⟩ := bd_e h
  refine aw_sub (L1 := [(0, .ref (wad (WX g) 10)), (1, .int a1), (2, .int 0)]) [1, 2, 0] rfl ?_
  refine lpX5_both_7 E hdd0 HX5_denied   a1 FU 0 q1 q3 e4 ?_
  replace h := Option.some.inj h
  subst h
  exact aw_vret E dX5_both_46 hr
def FX5_either_L7 (GX5_both : Int32 → Mem → Option Mem) : Nat → Int32 → Int32 → Mem → Option (Mem)
  | 0, _, _, _ => none
  | f + 1, p1, p2, M =>
    lt (α := Bool) (if 160 ≤ p2 then false else if (M.1 10 7) = 259 then true else false) fun b101 =>
    if b101 = true then
      ob (FX5_advance M) fun q105 =>
      ob (GX5_both p1 q105) fun q107 =>
      ob (FX5_emit (-259) q107) fun q109 =>
      lt (α := Int32) (p2 + 1) fun x111 =>
      FX5_either_L7 GX5_both f p1 x111 q109
    else
      some M
def FX5_either (GX5_both : Int32 → Mem → Option Mem) (a1 : Int32) (M : Mem) : Option (Mem) :=
  ob (GX5_both a1 M) fun q1 =>
  ob (FX5_either_L7 GX5_both FU a1 0 q1) fun q3 =>
  some q3
set_option maxHeartbeats 4000000 in
set_option maxRecDepth 100000 in
theorem lpX5_either_7 {Y : CtxM} {g : CtxG} {r : Option Value × Mem} {dd : Nat} {GX5_both : Int32 → Mem → Option Mem} (E : EV Y (WX g) cX5_either 3 none RX5) (hdd0 : 30 ≤ dd) (HX5_both : ∀ (l : Launch) (a : Int32) (M M1 : Mem), GX5_both a M = some M1 → Ct l (WX g) yX5_both cX5_both 3 none dd [.ref (wad (WX g) 10), .int a] M (none, M1)) (p1 : Int32) : ∀ (f : Nat) (p2 : Int32) (M : Mem) (q : Mem), FX5_either_L7 GX5_both f p1 p2 M = some q → AW Y (WX g) r 3 (dd + 1) 46 [] [] q → AW Y (WX g) r 3 (dd + 1) 7 [(0, .ref (wad (WX g) 10)), (1, .int p1), (2, .int p2)] [] M := by
  intro f
  induction f with
  | zero => intro p2 M q hh; exact absurd hh (fun z => nomatch (show (none : Option (Mem)) = some q from z))
  | succ f ih =>
    intro p2 M q hh kx
    rw [FX5_either_L7] at hh
    refine aw_iload_n E dX5_either_7 2 rfl ?_
    refine aw_sipush (v := 160) E dX5_either_8 (by decide) ?_
    obtain ⟨b101, e102, hh⟩ := lt_e hh
    have J103 : b101 = true → AW Y (WX g) r 3 (dd + 1) 24 [(0, .ref (wad (WX g) 10)), (1, .int p1), (2, .int p2)] [] M := fun hb => by
      replace hh := ip hb hh
      refine aw_aload_n E dX5_either_24 0 rfl ?_
      obtain ⟨q105, e106, hh⟩ := bd_e hh
      refine aw_callVv (S := []) E mvX5_advance mlX5_34 (Nat.le_of_ble_eq_true rfl) rfl rfl rfl (ctX5_advance (yl Y) g   M q105 e106) rfl (Nat.le_of_ble_eq_true rfl) (Nat.le_trans (Nat.le_of_ble_eq_true rfl : 10 + 1 ≤ 30) (Nat.le_succ_of_le hdd0)) dX5_either_25 ?_
      refine aw_aload_n E dX5_either_28 0 rfl ?_
      refine aw_iload_n E dX5_either_29 1 rfl ?_
      obtain ⟨q107, e108, hh⟩ := bd_e hh
      refine aw_callVv (S := []) E mvX5_both mlX5_92 (Nat.le_of_ble_eq_true rfl) rfl rfl rfl (HX5_both (yl Y) p1 q105 q107 e108) rfl (Nat.le_of_ble_eq_true rfl) (Nat.le_refl _) dX5_either_30 ?_
      refine aw_aload_n E dX5_either_33 0 rfl ?_
      refine aw_sipush (v := (-259)) E dX5_either_34 (by decide) ?_
      obtain ⟨q109, e110, hh⟩ := bd_e hh
      refine aw_callVv (S := []) E mvX5_emit mlX5_95 (Nat.le_of_ble_eq_true rfl) rfl rfl rfl (ctX5_emit (yl Y) g (-259)  q107 q109 e110) rfl (Nat.le_of_ble_eq_true rfl) (Nat.le_trans (Nat.le_of_ble_eq_true rfl : 1 + 1 ≤ 30) (Nat.le_succ_of_le hdd0)) dX5_either_37 ?_
      obtain ⟨x111, e112, hh⟩ := lt_e hh
      refine aw_iinc (v := x111) (L1 := [(2, .int x111), (0, .ref (wad (WX g) 10)), (1, .int p1)]) E dX5_either_40 2 rfl e112 (Nat.le_of_ble_eq_true rfl) rfl ?_
      refine aw_goto (tgt := 7) E dX5_either_43 rfl ?_
      refine aw_sub (L1 := [(0, .ref (wad (WX g) 10)), (1, .int p1), (2, .int x111)]) [1, 2, 0] rfl ?_
      exact ih x111 q109 _ hh kx
    have J104 : b101 = false → AW Y (WX g) r 3 (dd + 1) 46 [(0, .ref (wad (WX g) 10)), (1, .int p1), (2, .int p2)] [] M := fun hb => by
      replace hh := iq (bf hb) hh
      refine aw_sub (L1 := []) [] rfl ?_
      replace hh := Option.some.inj hh
      subst hh
      exact kx
    refine aw_icmp_ge (tgt := 46) E dX5_either_11 rfl (fun c11 => ?_) (fun c11 => ?_)
    ·
      replace e102 := ip c11 e102
      subst e102
      exact J104 rfl
    ·
      replace e102 := iq c11 e102
      refine aw_aload_n E dX5_either_14 0 rfl ?_
      refine aw_getI E flX5_44 (Nat.le_of_ble_eq_true rfl) rfl rfl dX5_either_15 ?_
      refine aw_sipush (v := 259) E dX5_either_18 (by decide) ?_
      refine aw_icmp_ne (tgt := 46) E dX5_either_21 rfl (fun c21 => ?_) (fun c21 => ?_)
      ·
        replace e102 := iq c21 e102
        subst e102
        exact J104 rfl
      ·
        replace e102 := ip c21 e102
        subst e102
        exact J103 rfl
set_option maxHeartbeats 4000000 in
set_option maxRecDepth 100000 in
theorem ctX5_either (l : Launch) (g : CtxG) (dd : Nat) (GX5_both : Int32 → Mem → Option Mem) (hdd0 : 30 ≤ dd) (HX5_both : ∀ (l : Launch) (a : Int32) (M M1 : Mem), GX5_both a M = some M1 → Ct l (WX g) yX5_both cX5_both 3 none dd [.ref (wad (WX g) 10), .int a] M (none, M1)) (a1 : Int32) (M : Mem) (r0 : Mem) (h : FX5_either GX5_both a1 M = some r0) : Ct l (WX g) yX5_either cX5_either 3 none (dd + 1) [.ref (wad (WX g) 10), .int a1] M (none, r0) := by
  refine Ct.of (by decide) (Nat.le_of_ble_eq_true rfl) (fun Y hY E => ?_)
  have E : EV Y (WX g) cX5_either 3 none RX5 := E
  have h : FX5_either GX5_both a1 M = some r0 := h
  unfold FX5_either at h
  show AW Y (WX g) _ 3 (dd + 1) 0 [(0, .ref (wad (WX g) 10)), (1, .int a1)] [] M
  obtain ⟨r, hr⟩ : ∃ r : Option Value × Mem, r = (none, r0) := ⟨_, rfl⟩
  rw [← hr]
  refine aw_aload_n E dX5_either_0 0 rfl ?_
  refine aw_iload_n E dX5_either_1 1 rfl ?_
  obtain ⟨q1, e2, h⟩ := bd_e h
  refine aw_callVv (S := []) E mvX5_both mlX5_92 (Nat.le_of_ble_eq_true rfl) rfl rfl rfl (HX5_both (yl Y) a1 M q1 e2) rfl (Nat.le_of_ble_eq_true rfl) (Nat.le_refl _) dX5_either_2 ?_
  refine aw_iconst (v := 0) E dX5_either_5 (by decide) ?_
  refine aw_istore_n (L1 := [(2, .int 0), (0, .ref (wad (WX g) 10)), (1, .int a1)]) E dX5_either_6 (Nat.le_of_ble_eq_true rfl) rfl ?_
  obtain ⟨q3, e4, h⟩ := bd_e h
  refine aw_sub (L1 := [(0, .ref (wad (WX g) 10)), (1, .int a1), (2, .int 0)]) [1, 2, 0] rfl ?_
  refine lpX5_either_7 E hdd0 HX5_both   a1 FU 0 q1 q3 e4 ?_
  replace h := Option.some.inj h
  subst h
  exact aw_vret E dX5_either_46 hr
/-- the reading of an expression, tied by how deep it may go -/
def ZX5 : Nat → Int32 → Mem → Option Mem
  | 0 => fun _ _ => none
  | n + 1 => FX5_either (FX5_both (FX5_denied (FX5_compared (FX5_sum (FX5_product (FX5_signed (FX5_single (ZX5 n))))))))
def FX5_eitherT : Int32 → Mem → Option Mem := ZX5 16
set_option maxHeartbeats 4000000 in
set_option maxRecDepth 100000 in
theorem ctX5_tie (g : CtxG) : ∀ n d : Nat, 30 + 8 * n ≤ d → ∀ l : Launch, ∀ (a : Int32) (M M1 : Mem), ZX5 n a M = some M1 → Ct l (WX g) yX5_either cX5_either 3 none d [.ref (wad (WX g) 10), .int a] M (none, M1) := by
  intro n
  induction n with
  | zero =>
    intro d hd l a M M1 h
    exact (nomatch (show (none : Option Mem) = some M1 from h))
  | succ n ih =>
    have S1 : ∀ d, 30 + 8 * n + 1 ≤ d → ∀ l : Launch, ∀ (a : Int32) (M M1 : Mem), FX5_single (ZX5 n) a M = some M1 → Ct l (WX g) yX5_single cX5_single 2 none d [.ref (wad (WX g) 10), .int a] M (none, M1) := by
      intro d hd l a M M1 h
      obtain ⟨k, rfl⟩ : ∃ k, d = k + 1 := ⟨d - 1, by omega⟩
      exact ctX5_single l g k _ (by omega) (fun l a M M1 h => ih k (by omega) l a M M1 h) a M M1 h
    have S2 : ∀ d, 30 + 8 * n + 2 ≤ d → ∀ l : Launch, ∀ (a : Int32) (M M1 : Mem), FX5_signed (FX5_single (ZX5 n)) a M = some M1 → Ct l (WX g) yX5_signed cX5_signed 4 none d [.ref (wad (WX g) 10), .int a] M (none, M1) := by
      intro d hd l a M M1 h
      obtain ⟨k, rfl⟩ : ∃ k, d = k + 1 := ⟨d - 1, by omega⟩
      exact ctX5_signed l g k _ (by omega) (fun l a M M1 h => S1 k (by omega) l a M M1 h) a M M1 h
    have S3 : ∀ d, 30 + 8 * n + 3 ≤ d → ∀ l : Launch, ∀ (a : Int32) (M M1 : Mem), FX5_product (FX5_signed (FX5_single (ZX5 n))) a M = some M1 → Ct l (WX g) yX5_product cX5_product 3 none d [.ref (wad (WX g) 10), .int a] M (none, M1) := by
      intro d hd l a M M1 h
      obtain ⟨k, rfl⟩ : ∃ k, d = k + 1 := ⟨d - 1, by omega⟩
      exact ctX5_product l g k _ (by omega) (fun l a M M1 h => S2 k (by omega) l a M M1 h) a M M1 h
    have S4 : ∀ d, 30 + 8 * n + 4 ≤ d → ∀ l : Launch, ∀ (a : Int32) (M M1 : Mem), FX5_sum (FX5_product (FX5_signed (FX5_single (ZX5 n)))) a M = some M1 → Ct l (WX g) yX5_sum cX5_sum 4 none d [.ref (wad (WX g) 10), .int a] M (none, M1) := by
      intro d hd l a M M1 h
      obtain ⟨k, rfl⟩ : ∃ k, d = k + 1 := ⟨d - 1, by omega⟩
      exact ctX5_sum l g k _ (by omega) (fun l a M M1 h => S3 k (by omega) l a M M1 h) a M M1 h
    have S5 : ∀ d, 30 + 8 * n + 5 ≤ d → ∀ l : Launch, ∀ (a : Int32) (M M1 : Mem), FX5_compared (FX5_sum (FX5_product (FX5_signed (FX5_single (ZX5 n))))) a M = some M1 → Ct l (WX g) yX5_compared cX5_compared 3 none d [.ref (wad (WX g) 10), .int a] M (none, M1) := by
      intro d hd l a M M1 h
      obtain ⟨k, rfl⟩ : ∃ k, d = k + 1 := ⟨d - 1, by omega⟩
      exact ctX5_compared l g k _ (by omega) (fun l a M M1 h => S4 k (by omega) l a M M1 h) a M M1 h
    have S6 : ∀ d, 30 + 8 * n + 6 ≤ d → ∀ l : Launch, ∀ (a : Int32) (M M1 : Mem), FX5_denied (FX5_compared (FX5_sum (FX5_product (FX5_signed (FX5_single (ZX5 n)))))) a M = some M1 → Ct l (WX g) yX5_denied cX5_denied 4 none d [.ref (wad (WX g) 10), .int a] M (none, M1) := by
      intro d hd l a M M1 h
      obtain ⟨k, rfl⟩ : ∃ k, d = k + 1 := ⟨d - 1, by omega⟩
      exact ctX5_denied l g k _ (by omega) (fun l a M M1 h => S5 k (by omega) l a M M1 h) a M M1 h
    have S7 : ∀ d, 30 + 8 * n + 7 ≤ d → ∀ l : Launch, ∀ (a : Int32) (M M1 : Mem), FX5_both (FX5_denied (FX5_compared (FX5_sum (FX5_product (FX5_signed (FX5_single (ZX5 n))))))) a M = some M1 → Ct l (WX g) yX5_both cX5_both 3 none d [.ref (wad (WX g) 10), .int a] M (none, M1) := by
      intro d hd l a M M1 h
      obtain ⟨k, rfl⟩ : ∃ k, d = k + 1 := ⟨d - 1, by omega⟩
      exact ctX5_both l g k _ (by omega) (fun l a M M1 h => S6 k (by omega) l a M M1 h) a M M1 h
    have S8 : ∀ d, 30 + 8 * n + 8 ≤ d → ∀ l : Launch, ∀ (a : Int32) (M M1 : Mem), FX5_either (FX5_both (FX5_denied (FX5_compared (FX5_sum (FX5_product (FX5_signed (FX5_single (ZX5 n)))))))) a M = some M1 → Ct l (WX g) yX5_either cX5_either 3 none d [.ref (wad (WX g) 10), .int a] M (none, M1) := by
      intro d hd l a M M1 h
      obtain ⟨k, rfl⟩ : ∃ k, d = k + 1 := ⟨d - 1, by omega⟩
      exact ctX5_either l g k _ (by omega) (fun l a M M1 h => S7 k (by omega) l a M M1 h) a M M1 h
    intro d hd l a M M1 h
    exact S8 d (by omega) l a M M1 h
theorem ctX5_eitherT (l : Launch) (g : CtxG) (a : Int32) (M M1 : Mem) (h : FX5_eitherT a M = some M1) : Ct l (WX g) yX5_either cX5_either 3 none 166 [.ref (wad (WX g) 10), .int a] M (none, M1) := ctX5_tie g 16 166 (by decide) l a M M1 h
def FX5_read_L21 : Nat → Int32 → Mem → Option (Mem)
  | 0, _, _ => none
  | f + 1, p1, M =>
    if 2 < p1 then
      some M
    else
      ob (FX5_expect (256 + p1) M) fun q101 =>
      ob (FX5_eitherT 0 q101) fun q103 =>
      ob (FX5_expect 59 q103) fun q105 =>
      gi p1 3 <|
      lt (wr q105 13 (Int32.toNatClampNeg p1) (q105.1 10 4)) fun M108 =>
      lt (α := Int32) (p1 + 1) fun x110 =>
      FX5_read_L21 f  x110 M108
def FX5_read  (M : Mem) : Option (Int32 × Mem) :=
  lt (wr M 10 4 0) fun M1 =>
  lt (wr M1 10 6 0) fun M3 =>
  lt (wr M3 10 9 (-1)) fun M5 =>
  ob (FX5_advance M5) fun q7 =>
  ob (FX5_read_L21 FU 0 q7) fun q9 =>
  ob (α := Mem) (if (q9.1 10 7) = 0 then
    some q9
  else
    ob (FX5_refuse q9) fun q14 =>
    some q14) fun q11 =>
  some (q11.1 10 9, q11)
set_option maxHeartbeats 4000000 in
set_option maxRecDepth 100000 in
theorem lpX5_read_21 {Y : CtxM} {g : CtxG} {r : Option Value × Mem} (E : EV Y (WX g) cX5_read 2 (some .int) RX5) : ∀ (f : Nat) (p1 : Int32) (M : Mem) (q : Mem), FX5_read_L21 f  p1 M = some q → AW Y (WX g) r 2 167 62 [(0, .ref (wad (WX g) 10))] [] q → AW Y (WX g) r 2 167 21 [(0, .ref (wad (WX g) 10)), (1, .int p1)] [] M := by
  intro f
  induction f with
  | zero => intro p1 M q hh; exact absurd hh (fun z => nomatch (show (none : Option (Mem)) = some q from z))
  | succ f ih =>
    intro p1 M q hh kx
    rw [FX5_read_L21] at hh
    refine aw_iload_n E dX5_read_21 1 rfl ?_
    refine aw_iconst (v := 2) E dX5_read_22 (by decide) ?_
    refine aw_icmp_gt (tgt := 62) E dX5_read_23 rfl (fun c23 => ?_) (fun c23 => ?_)
    ·
      replace hh := ip c23 hh
      refine aw_sub (L1 := [(0, .ref (wad (WX g) 10))]) [0] rfl ?_
      replace hh := Option.some.inj hh
      subst hh
      exact kx
    ·
      replace hh := iq c23 hh
      refine aw_aload_n E dX5_read_26 0 rfl ?_
      refine aw_sipush (v := 256) E dX5_read_27 (by decide) ?_
      refine aw_iload_n E dX5_read_30 1 rfl ?_
      refine aw_iadd E dX5_read_31 ?_
      obtain ⟨q101, e102, hh⟩ := bd_e hh
      refine aw_callVv (S := []) E mvX5_expect mlX5_37 (Nat.le_of_ble_eq_true rfl) rfl rfl rfl (ctX5_expect (yl Y) g (256 + p1)  M q101 e102) rfl (Nat.le_of_ble_eq_true rfl) (Nat.le_of_ble_eq_true rfl) dX5_read_32 ?_
      refine aw_aload_n E dX5_read_35 0 rfl ?_
      refine aw_iconst (v := 0) E dX5_read_36 (by decide) ?_
      obtain ⟨q103, e104, hh⟩ := bd_e hh
      refine aw_callVv (S := []) E mvX5_either mlX5_41 (Nat.le_of_ble_eq_true rfl) rfl rfl rfl (ctX5_eitherT (yl Y) g 0  q101 q103 e104) rfl (Nat.le_of_ble_eq_true rfl) (Nat.le_of_ble_eq_true rfl) dX5_read_37 ?_
      refine aw_aload_n E dX5_read_40 0 rfl ?_
      refine aw_bipush (v := 59) E dX5_read_41 (by decide) ?_
      obtain ⟨q105, e106, hh⟩ := bd_e hh
      refine aw_callVv (S := []) E mvX5_expect mlX5_37 (Nat.le_of_ble_eq_true rfl) rfl rfl rfl (ctX5_expect (yl Y) g 59  q103 q105 e106) rfl (Nat.le_of_ble_eq_true rfl) (Nat.le_of_ble_eq_true rfl) dX5_read_43 ?_
      refine aw_aload_n E dX5_read_46 0 rfl ?_
      refine aw_getR (q := 13) E flX5_18 (Nat.le_of_ble_eq_true rfl) rfl rfl dX5_read_47 ?_
      refine aw_iload_n E dX5_read_50 1 rfl ?_
      refine aw_aload_n E dX5_read_51 0 rfl ?_
      refine aw_getI E flX5_25 (Nat.le_of_ble_eq_true rfl) rfl rfl dX5_read_52 ?_
      obtain ⟨g107, hh⟩ := gi_e hh
      obtain ⟨M108, e109, hh⟩ := lt_e hh
      refine aw_iast1 e109 E (Nat.le_of_ble_eq_true rfl) rfl g107 dX5_read_55 ?_
      obtain ⟨x110, e111, hh⟩ := lt_e hh
      refine aw_iinc (v := x110) (L1 := [(1, .int x110), (0, .ref (wad (WX g) 10))]) E dX5_read_56 1 rfl e111 (Nat.le_of_ble_eq_true rfl) rfl ?_
      refine aw_goto (tgt := 21) E dX5_read_59 rfl ?_
      refine aw_sub (L1 := [(0, .ref (wad (WX g) 10)), (1, .int x110)]) [1, 0] rfl ?_
      exact ih x110 M108 _ hh kx
set_option maxHeartbeats 4000000 in
set_option maxRecDepth 100000 in
theorem ctX5_read (l : Launch) (g : CtxG)  (M : Mem) (r0 : Int32 × Mem) (h : FX5_read M = some r0) : Ct l (WX g) yX5_read cX5_read 2 (some .int) 167 [.ref (wad (WX g) 10)] M (some (.int r0.1), r0.2) := by
  refine Ct.of (by decide) (Nat.le_of_ble_eq_true rfl) (fun Y hY E => ?_)
  have E : EV Y (WX g) cX5_read 2 (some .int) RX5 := E
  have h : FX5_read  M = some r0 := h
  unfold FX5_read at h
  show AW Y (WX g) _ 2 167 0 [(0, .ref (wad (WX g) 10))] [] M
  obtain ⟨r, hr⟩ : ∃ r : Option Value × Mem, r = (some (.int r0.1), r0.2) := ⟨_, rfl⟩
  rw [← hr]
  refine aw_aload_n E dX5_read_0 0 rfl ?_
  refine aw_iconst (v := 0) E dX5_read_1 (by decide) ?_
  obtain ⟨M1, e2, h⟩ := lt_e h
  refine aw_putI1 e2 E flX5_25 (Nat.le_of_ble_eq_true rfl) rfl rfl nr_int dX5_read_2 ?_
  refine aw_aload_n E dX5_read_5 0 rfl ?_
  refine aw_iconst (v := 0) E dX5_read_6 (by decide) ?_
  obtain ⟨M3, e4, h⟩ := lt_e h
  refine aw_putI1 e4 E flX5_28 (Nat.le_of_ble_eq_true rfl) rfl rfl nr_int dX5_read_7 ?_
  refine aw_aload_n E dX5_read_10 0 rfl ?_
  refine aw_iconst (v := (-1)) E dX5_read_11 (by decide) ?_
  obtain ⟨M5, e6, h⟩ := lt_e h
  refine aw_putI1 e6 E flX5_31 (Nat.le_of_ble_eq_true rfl) rfl rfl nr_int dX5_read_12 ?_
  refine aw_aload_n E dX5_read_15 0 rfl ?_
  obtain ⟨q7, e8, h⟩ := bd_e h
  refine aw_callVv (S := []) E mvX5_advance mlX5_34 (Nat.le_of_ble_eq_true rfl) rfl rfl rfl (ctX5_advance (yl Y) g   M5 q7 e8) rfl (Nat.le_of_ble_eq_true rfl) (Nat.le_of_ble_eq_true rfl) dX5_read_16 ?_
  refine aw_iconst (v := 0) E dX5_read_19 (by decide) ?_
  refine aw_istore_n (L1 := [(1, .int 0), (0, .ref (wad (WX g) 10))]) E dX5_read_20 (Nat.le_of_ble_eq_true rfl) rfl ?_
  obtain ⟨q9, e10, h⟩ := bd_e h
  refine aw_sub (L1 := [(0, .ref (wad (WX g) 10)), (1, .int 0)]) [1, 0] rfl ?_
  refine lpX5_read_21 E    FU 0 q7 q9 e10 ?_
  refine aw_aload_n E dX5_read_62 0 rfl ?_
  refine aw_getI E flX5_44 (Nat.le_of_ble_eq_true rfl) rfl rfl dX5_read_63 ?_
  obtain ⟨q11, e12, h⟩ := bd_e h
  have J13 : AW Y (WX g) r 2 167 73 [(0, .ref (wad (WX g) 10))] [] q11 := by
    refine aw_aload_n E dX5_read_73 0 rfl ?_
    refine aw_getI E flX5_31 (Nat.le_of_ble_eq_true rfl) rfl rfl dX5_read_74 ?_
    replace h := Option.some.inj h
    subst h
    exact aw_iret E dX5_read_77 hr
  refine aw_if_eq (tgt := 73) E dX5_read_66 rfl (fun c66 => ?_) (fun c66 => ?_)
  ·
    replace e12 := ip c66 e12
    refine aw_sub (L1 := [(0, .ref (wad (WX g) 10))]) [0] rfl ?_
    replace e12 := Option.some.inj e12
    subst e12
    exact J13
  ·
    replace e12 := iq c66 e12
    refine aw_aload_n E dX5_read_69 0 rfl ?_
    obtain ⟨q14, e15, e12⟩ := bd_e e12
    refine aw_callVv (S := []) E mvX5_refuse mlX5_47 (Nat.le_of_ble_eq_true rfl) rfl rfl rfl (ctX5_refuse (yl Y) g   q9 q14 e15) rfl (Nat.le_of_ble_eq_true rfl) (Nat.le_of_ble_eq_true rfl) dX5_read_70 ?_
    refine aw_sub (L1 := [(0, .ref (wad (WX g) 10))]) [0] rfl ?_
    replace e12 := Option.some.inj e12
    subst e12
    exact J13
