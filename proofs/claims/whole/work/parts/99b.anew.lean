/-! AN: cells are made; fields; arrays. -/
theorem gt_obj : Cond.instanceMethod Lib.objectInit ∈ gt ∧ Cond.code Lib.objectInit ⟨#[0xb1]⟩ 1 none ∈ gt := by decide +kernel
theorem gt_arr : Cond.arrayClass .int ∈ gt ∧ Cond.arrayClass .long ∈ gt := by decide +kernel
section ANN
variable {Z : CtxZ} {nL cs sl pc : Nat} {L L1 : List (Nat × Value)} {S : List Value} {ws : va_W} {cc : ByteArray} {own : String}
theorem an_obj (E : EN Z cc nL own) {idx a : Nat} (hlk : Cond.methodLink own idx Lib.objectInit ∈ gt) (hd : decode cc pc = .ok (.invokespecial idx, 3)) (hf : 1 ≤ (zR Z).frames) (hr : (S.map fun v => v.category).sum + 12 ≤ (zR Z).locals) (k : AN Z nL cs sl (pc + 3) L S ws) : AN Z nL cs sl pc L (.ref a :: S) ws := fun H locs ls hP hD hS hl =>
  W.objInit E.1 E.2.1 E.2.2.2.1 (E.2.2.2.2.1 _ hlk) (E.2.2.2.2.1 _ gt_obj.1) (E.2.2.2.2.1 _ gt_obj.2) rfl (by rw [E.2.2.1]; exact hl.1) rfl hd hf (by show 2 * 0 + _ + 12 ≤ _; omega) (k H locs ls hP hD hS hl)
theorem an_new (E : EN Z cc nL own) {ci idx n : Nat} {C : String} {T : u_T} {tyf : Nat → FieldType} {fs : List Value} (hc : vwCl[ci]? = some (C, T, n)) (hin : ∀ z ∈ u_ws C T n, z ∈ gt) (hty : ∀ k, k < n → parseFieldDescriptor (T k).2.2.1 = some (tyf k)) (hw : Cond.classLink own idx C ∈ gt ∧ Cond.instantiable C n ∈ gt ∧ Cond.initialized C ∈ gt)
    (hfs : ∀ j, j < n → defaultValue (tyf j) = vp_V fs j) (h1 : cs + 1 ≤ (zR Z).cells) (h2 : sl + n ≤ (zR Z).slots) (hd : decode cc pc = .ok (.new idx, 3)) (kk : ∀ a, AN Z nL (cs + 1) (sl + n) (pc + 3) L (.ref a :: S) (ws ++ [(a, .inr (ci, fs))])) : AN Z nL cs sl pc L S ws := fun H locs ls hP hD hS hl =>
  va_new E.1 E.2.1 E.2.2.2.2.1 hin tyf hty E.2.2.2.1 (E.2.2.2.2.1 _ hw.1) (E.2.2.2.2.1 _ hw.2.1) (E.2.2.2.2.1 _ hw.2.2) E.2.2.2.2.2.1 hP hD hS E.2.2.2.2.2.2.1 hc hfs h1 h2 hd (fun a H1 hP1 hD1 hS1 => kk a H1 locs ls hP1 hD1 hS1 hl)
theorem an_newI (E : EN Z cc nL own) {n : Int32} {N : Nat} (hn : ¬ n < 0) (hN : n.toNatClampNeg = N) (hby : N * 4 ≤ 536870912) (h1 : cs + 1 ≤ (zR Z).cells) (h2 : sl + N ≤ (zR Z).slots) (hd : decode cc pc = .ok (.newarray .int, 2))
    (kk : ∀ a, AN Z nL (cs + 1) (sl + N) (pc + 2) L (.ref a :: S) (ws ++ [(a, .inl ((zg Z).2.1, N, .inl (fun _ => 0)))])) : AN Z nL cs sl pc L (.int n :: S) ws := fun H locs ls hP hD hS hl => by
  refine va_newa (atype := .int) (ty := .int) (a0 := (N, .inl (fun _ => 0))) E.1 E.2.1 (E.2.2.2.2.1 _ gt_arr.1) rfl E.2.2.2.2.2.1 hP hD hS E.2.2.2.2.2.2.1 (fun cA => rfl) hn hN hby h1 h2 hd (fun q cA H1 hK1 hP1 hD1 hS1 => ?_)
  have e1 := (hK1.2 4 (cA, .int) rfl).2
  have e2 := (E.2.2.2.2.2.1.2 0 ((zg Z).2.1, .int) rfl).2
  have ec : cA = (zg Z).2.1 := Option.some.inj (e1.symm.trans e2)
  rw [ec] at hP1 hD1
  exact kk q H1 locs ls hP1 hD1 hS1 hl
theorem an_newJ (E : EN Z cc nL own) {n : Int32} {N : Nat} (hn : ¬ n < 0) (hN : n.toNatClampNeg = N) (hby : N * 8 ≤ 536870912) (h1 : cs + 1 ≤ (zR Z).cells) (h2 : sl + N ≤ (zR Z).slots) (hd : decode cc pc = .ok (.newarray .long, 2))
    (kk : ∀ a, AN Z nL (cs + 1) (sl + N) (pc + 2) L (.ref a :: S) (ws ++ [(a, .inl ((zg Z).2.2.1, N, .inr (.inl (fun _ => 0))))])) : AN Z nL cs sl pc L (.int n :: S) ws := fun H locs ls hP hD hS hl => by
  refine va_newa (atype := .long) (ty := .long) (a0 := (N, .inr (.inl (fun _ => 0)))) E.1 E.2.1 (E.2.2.2.2.1 _ gt_arr.2) rfl E.2.2.2.2.2.1 hP hD hS E.2.2.2.2.2.2.1 (fun cA => rfl) hn hN hby h1 h2 hd (fun q cA H1 hK1 hP1 hD1 hS1 => ?_)
  have e1 := (hK1.2 4 (cA, .long) rfl).2
  have e2 := (E.2.2.2.2.2.1.2 1 ((zg Z).2.2.1, .long) rfl).2
  have ec : cA = (zg Z).2.2.1 := Option.some.inj (e1.symm.trans e2)
  rw [ec] at hP1 hD1
  exact kk q H1 locs ls hP1 hD1 hS1 hl
theorem an_newS (E : EN Z cc nL own) {idx : Nat} {n : Int32} {N : Nat} (hlk : Cond.classLink own idx "HomeByAnotherWay$Sheet" ∈ gt) (hn : ¬ n < 0) (hN : n.toNatClampNeg = N) (hby : N * 4 ≤ 536870912) (h1 : cs + 1 ≤ (zR Z).cells) (h2 : sl + N ≤ (zR Z).slots) (hd : decode cc pc = .ok (.anewarray idx, 3))
    (kk : ∀ a, AN Z nL (cs + 1) (sl + N) (pc + 3) L (.ref a :: S) (ws ++ [(a, .inl ((zg Z).2.2.2.1, N, .inr (.inr (.inr (.inr (fun _ => none))))))])) : AN Z nL cs sl pc L (.int n :: S) ws := fun H locs ls hP hD hS hl => by
  refine va_newq E.1 E.2.1 E.2.2.2.1 (E.2.2.2.2.1 _ hlk) E.2.2.2.2.2.2.2.1.2.1 E.2.2.2.2.2.1 hP hD hS E.2.2.2.2.2.2.1 hn hN hby h1 h2 hd (fun q cA H1 hK1 hP1 hD1 hS1 => ?_)
  obtain ⟨k1, m1, -, -, -, e1⟩ := (hK1.2 4 (cA, .object "HomeByAnotherWay$Sheet") rfl).2
  obtain ⟨k2, m2, -, -, -, e2⟩ := (E.2.2.2.2.2.1.2 2 ((zg Z).2.2.2.1, .object "HomeByAnotherWay$Sheet") rfl).2
  have ec : cA = (zg Z).2.2.2.1 := Option.some.inj (e1.symm.trans e2)
  rw [ec] at hP1 hD1
  exact kk q H1 locs ls hP1 hD1 hS1 hl
theorem an_putF (E : EN Z cc nL own) (hin : (yt (zY Z)).name = "<init>") {idx ci j a : Nat} {ty : FieldType} {fs : List Value} {v : Value} (F : FL own idx ci j true ty) (hdecl : (vwCl[ci]?).map (fun q => (q.2.1 j).1) = some own) (q0 : Nat) (he : ws[q0]? = some (a, .inr (ci, fs))) (hn : narrow ty v = v ∧ fits ty v = true) (hl' : j < fs.length) (hd : decode cc pc = .ok (.putfield idx, 3))
    (kk : AN Z nL cs sl (pc + 3) L S (ws.set q0 (a, .inr (ci, fs.set j v)))) : AN Z nL cs sl pc L (v :: .ref a :: S) ws := fun H locs ls hP hD hS hl => by
  obtain ⟨C, T, n, tyf, hc, hin', hj, hlk, hfin, hty, hnm, hd1⟩ := F
  rw [hc] at hdecl
  exact va_putF E.1 E.2.1 E.2.2.2.2.1 hin' tyf hty hnm E.2.2.2.1 E.2.2.2.2.2.1 hP hD hS q0 he hc j hj (E.2.2.2.2.1 _ hlk) (fun _ h => h) hfin hin (Option.some.inj hdecl) hd1 hn.1 hn.2 hl' hd (fun H1 locs1 hP1 hD1 hS1 => kk H1 locs1 ls hP1 hD1 hS1 hl)
theorem an_put (E : EN Z cc nL own) {idx ci j a : Nat} {ty : FieldType} {fs : List Value} {v : Value} (F : FL own idx ci j false ty) (q0 : Nat) (he : ws[q0]? = some (a, .inr (ci, fs))) (hn : narrow ty v = v ∧ fits ty v = true) (hl' : j < fs.length) (hd : decode cc pc = .ok (.putfield idx, 3))
    (kk : AN Z nL cs sl (pc + 3) L S (ws.set q0 (a, .inr (ci, fs.set j v)))) : AN Z nL cs sl pc L (v :: .ref a :: S) ws := fun H locs ls hP hD hS hl => by
  obtain ⟨C, T, n, tyf, hc, hin', hj, hlk, hfin, hty, hnm, hd1⟩ := F
  exact va_put E.1 E.2.1 E.2.2.2.2.1 hin' tyf hty hnm E.2.2.2.1 E.2.2.2.2.2.1 hP hD hS q0 he hc j hj (E.2.2.2.2.1 _ hlk) (fun _ h => h) hfin hd1 hn.1 hn.2 hl' hd (fun H1 locs1 hP1 hD1 hS1 => kk H1 locs1 ls hP1 hD1 hS1 hl)
theorem an_get (E : EN Z cc nL own) {idx ci j a : Nat} {fin : Bool} {ty : FieldType} {fs : List Value} {v : Value} (F : FL own idx ci j fin ty) (q0 : Nat) (he : ws[q0]? = some (a, .inr (ci, fs))) (hv : fs[j]? = some v) (hd : decode cc pc = .ok (.getfield idx, 3))
    (kk : AN Z nL cs sl (pc + 3) L (v :: S) ws) : AN Z nL cs sl pc L (.ref a :: S) ws := fun H locs ls hP hD hS hl => by
  obtain ⟨C, T, n, tyf, hc, hin', hj, hlk, -⟩ := F
  exact va_get E.1 E.2.1 E.2.2.2.2.1 hin' E.2.2.2.1 E.2.2.2.2.2.1 hP q0 he hc j hj (E.2.2.2.2.1 _ hlk) (fun _ h => h) hv hd (kk H locs ls hP hD hS hl)
theorem an_iast (E : EN Z cc nL own) (q0 : Nat) {a n : Nat} {f f' : Nat → Int32} {i x : Int32} (he : ws[q0]? = some (a, .inl ((zg Z).2.1, n, .inl f))) (hin : vp_in i n) (hf : upd f i.toNatClampNeg x = f') (hd : decode cc pc = .ok (.iastore, 1))
    (kk : AN Z nL cs sl (pc + 1) L S (ws.set q0 (a, .inl ((zg Z).2.1, n, .inl f')))) : AN Z nL cs sl pc L (.int x :: .int i :: .ref a :: S) ws := fun H locs ls hP hD hS hl => by
  subst hf
  exact va_iast E.1 E.2.1 E.2.2.2.2.2.1 hP hD hS q0 0 he rfl hin hd (fun H1 locs1 hP1 hD1 hS1 => kk H1 locs1 ls hP1 hD1 hS1 hl)
theorem an_iald (E : EN Z cc nL own) (q0 : Nat) {a n : Nat} {f : Nat → Int32} {i : Int32} (he : ws[q0]? = some (a, .inl ((zg Z).2.1, n, .inl f))) (hin : vp_in i n) (hd : decode cc pc = .ok (.iaload, 1))
    (kk : AN Z nL cs sl (pc + 1) L (.int (f i.toNatClampNeg) :: S) ws) : AN Z nL cs sl pc L (.int i :: .ref a :: S) ws := fun H locs ls hP hD hS hl =>
  va_iald E.1 E.2.1 E.2.2.2.2.2.1 hP q0 0 he rfl hin hd (kk H locs ls hP hD hS hl)
theorem an_astS (E : EN Z cc nL own) (q0 qk : Nat) {a v n : Nat} {vs : List Value} {f f' : Nat → Option Nat} {i : Int32} (he : ws[q0]? = some (a, .inl ((zg Z).2.2.2.1, n, .inr (.inr (.inr (.inr f)))))) (hv : ws[qk]? = some (v, .inr (2, vs))) (hin : vp_in i n) (hf : va_up f i.toNatClampNeg (some v) = f') (hd : decode cc pc = .ok (.aastore, 1))
    (kk : AN Z nL cs sl (pc + 1) L S (ws.set q0 (a, .inl ((zg Z).2.2.2.1, n, .inr (.inr (.inr (.inr f'))))))) : AN Z nL cs sl pc L (.ref v :: .int i :: .ref a :: S) ws := fun H locs ls hP hD hS hl => by
  subst hf
  exact va_astq (r := (RX2, TX2, 3)) E.1 E.2.1 E.2.2.2.2.2.1 hP hD hS q0 2 qk 2 he rfl hv rfl hin hd (fun H1 locs1 hP1 hD1 hS1 => kk H1 locs1 ls hP1 hD1 hS1 hl)
end ANN
