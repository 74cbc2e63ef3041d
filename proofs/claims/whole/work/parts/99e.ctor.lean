/-! Constructors: the way in and out; the small ones. -/
theorem CI.of {l : Launch} {g : CtxG} {y : MethodName} {cc : ByteArray} {nL : Nat} {rm : Room} {mc ms ci : Nat} {fs : List Value} {B : Nat → (Nat → Nat) → va_W} (hy : plainName y.cls = true) (hname : y.name = "<init>") (hn : 1 ≤ nL)
    (body : ∀ (Z : CtxZ) (h0 : Nat), yl (zY Z) = l → zg Z = g → zR Z = rm → EN Z cc nL y.cls → (yt (zY Z)).name = "<init>" → (∀ (pc : Nat) (L : List (Nat × Value)) (u : Nat → Nat), decode cc pc = .ok (.return_, 1) → AN Z nL mc ms pc L [] (B h0 u)) → AN Z nL 0 0 0 [(0, .ref h0)] [] [(h0, .inr (ci, fs))]) : CI l g y cc nL rm mc ms ci fs B := by
  intro h0 sz
  refine Met.ofW (cc := cc) (maxL := nL) (ret := none) hy rfl ?_
  intro p e s m args below meth c s₁ Bd hml hv
  obtain ⟨rfl, hsz, hP, hK, hE, hF⟩ := hv
  subst hsz
  have hts := atoms_spec (ws := gw y cc nL none) Bd.pre
  have hin : meth.name = "<init>" := ((name_of_methodNamed Bd.named Bd.method).1).trans hname
  have hD : va_D (va_A [(h0, .inr (ci, fs))] s.heap.size) [(h0, .inr (ci, fs))] := va_D.one (va_A.in (k := 0) (q := (h0, .inr (ci, fs))) rfl)
  have E : EN ((p, l, e, s, m, [Value.ref h0].toArray, below, meth, c), g, va_A [(h0, .inr (ci, fs))] s.heap.size, rm, MQ below (va_Qv (fun _ : Nat → Nat => True) (fun u t => va_P (gG g) vwCl (B h0 u) t.heap ∧ va_D (va_A [(h0, .inr (ci, fs))] s.heap.size) (B h0 u)) (va_A [(h0, .inr (ci, fs))] s.heap.size)) [Value.ref h0].toArray s mc ms (va_A [(h0, .inr (ci, fs))] s.heap.size)) cc nL y.cls :=
    ⟨Bd.exec, Bd.bytes, hml, findClass_of_methodNamed Bd.named, fun z hz => hts z (gw_gt z hz), hK, fun q hq => Or.inr hq, hE, hF⟩
  have h1 := body _ h0 rfl rfl rfl E hin (fun pc L u hd H locs ls hP hD hS hl => W.vret E.1 E.2.1 Bd.returns (fun t ht hW => ⟨⟨u, rfl, trivial, by rw [ht]; exact hP, hD⟩, hS.F ht⟩) hS.2.2 hd Bd.notSynchronized) s.heap [] _ hP hD va_S.rf (lv_entry [.ref h0] hn)
  rw [lg_entry_eq]
  exact h1
theorem gt_oX0 : Cond.methodLink RX0 3 Lib.objectInit ∈ gt := by decide +kernel
theorem gt_oX1 : Cond.methodLink RX1 1 Lib.objectInit ∈ gt := by decide +kernel
theorem gt_oX2 : Cond.methodLink RX2 3 Lib.objectInit ∈ gt := by decide +kernel
theorem gt_oX3 : Cond.methodLink RX3 3 Lib.objectInit ∈ gt := by decide +kernel
theorem gt_oX4 : Cond.methodLink RX4 1 Lib.objectInit ∈ gt := by decide +kernel
theorem gt_oX5 : Cond.methodLink RX5 3 Lib.objectInit ∈ gt := by decide +kernel
theorem gt_oX6 : Cond.methodLink RX6 3 Lib.objectInit ∈ gt := by decide +kernel
theorem gt_oX7 : Cond.methodLink RX7 3 Lib.objectInit ∈ gt := by decide +kernel
theorem gt_oX8 : Cond.methodLink RX8 3 Lib.objectInit ∈ gt := by decide +kernel
theorem gt_oX9 : Cond.methodLink RX9 1 Lib.objectInit ∈ gt := by decide +kernel
abbrev rmN (mc ms : Nat) : Room := { frames := 1, cells := mc, slots := ms, locals := 40 }
theorem nrw {ty : FieldType} {a : Nat} (h : narrow ty (.ref a) = .ref a ∧ fits ty (.ref a) = true) : narrow ty (.ref a) = .ref a ∧ fits ty (.ref a) = true := h
/-- Settings() -/
theorem ciX1 (l : Launch) (g : CtxG) : CI l g yX1_init cX1_init 1 (rmN 0 0) 0 0 1 [.int 0, .int 0, .int 0, .int 0, .int 0, .int 0] (fun h0 _ => [(h0, .inr (1, [.int 0, .int 0, .int 0, .int 0, .int 0, .int 0]))]) :=
  CI.of (by decide +kernel) rfl (by decide) fun Z h0 hl hg hR E hin hret => by
    refine an_aload_n E dX1_init_0 0 rfl ?_
    refine an_obj E gt_oX1 dX1_init_1 (by rw [hR]; decide) (by rw [hR]; decide) ?_
    exact hret 4 _ (fun _ => 0) dX1_init_4
/-- Stroll() -/
theorem ciX4 (l : Launch) (g : CtxG) : CI l g yX4_init cX4_init 1 (rmN 0 0) 0 0 4 [.int 0, .int 0, .int 0] (fun h0 _ => [(h0, .inr (4, [.int 0, .int 0, .int 0]))]) :=
  CI.of (by decide +kernel) rfl (by decide) fun Z h0 hl hg hR E hin hret => by
    refine an_aload_n E dX4_init_0 0 rfl ?_
    refine an_obj E gt_oX4 dX4_init_1 (by rw [hR]; decide) (by rw [hR]; decide) ?_
    exact hret 4 _ (fun _ => 0) dX4_init_4
/-- Sheet() -/
theorem ciX2 (l : Launch) (g : CtxG) : CI l g yX2_init cX2_init 1 (rmN 1 40) 1 40 2 [.null, .int 0, .int 0] (fun h0 u => [(h0, .inr (2, [.ref (u 0), .int (-1), .int 0])), (u 0, .inl (g.2.1, 40, .inl (fun _ => 0)))]) :=
  CI.of (by decide +kernel) rfl (by decide) fun Z h0 hl hg hR E hin hret => by
    subst hg
    refine an_aload_n E dX2_init_0 0 rfl ?_
    refine an_obj E gt_oX2 dX2_init_1 (by rw [hR]; decide) (by rw [hR]; decide) ?_
    refine an_aload_n E dX2_init_4 0 rfl ?_
    refine an_bipush (v := 40) E dX2_init_5 (by decide) ?_
    refine an_newI (N := 40) E (by decide) (by decide) (by decide) (by rw [hR]; decide) (by rw [hR]; decide) dX2_init_7 (fun a => ?_)
    refine an_putF E hin flX2_9 rfl 0 rfl ⟨rfl, rfl⟩ (by decide) dX2_init_9 ?_
    refine an_aload_n E dX2_init_12 0 rfl ?_
    refine an_iconst (v := -1) E dX2_init_13 (by decide) ?_
    refine an_put E flX2_15 0 rfl ⟨rfl, rfl⟩ (Nat.le_of_ble_eq_true rfl) dX2_init_14 ?_
    exact hret 17 _ (fun _ => a) dX2_init_17
