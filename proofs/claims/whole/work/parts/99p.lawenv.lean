/-! THE CLAIM OUT OF ONE WALK OF THE LAW'S BODY. Your part is whole_start (and what it stands on); all else here is the same for every law, but numbers. -/
def R_law : String := "HomeByAnotherWayLaw"
def lw_P (b : Addr) (xs : List Int32) (args : Array Value) (s : State) : Prop := args = #[.ref b] ∧ s.IntsAt b xs ∧ xs.length ≤ 3584 ∧ (Jvm.Cond.and given_1 narrow_1).before args s = true
def lw_Q (_ : Array Value) (s : State) (o : Outcome) (t : State) : Prop := o = .returned (some (.int 1)) ∧ Framed s o t [] 600000 7302249
def lw_Z (below : List Frame) (a : Array Value) (s : State) : State → Prop := fun t => ∃ o, t.status = .running ∧ Ended t below o ∧ lw_Q a s o t
/-- the law's own end, with 1 on the stack, nothing written that was there before, its room as the claim has it -/
theorem lw_ret {p : Program} {l : Launch} {e : Env} {s : State} {m : MethodId} {below : List Frame} {meth : Method} {c : Code} {b : Nat} (hx : p.tables.exec = Jvm.exec) (hb : c.code = code) (hr : meth.sig.returnType = ret) (hlocks : meth.locks = false) {pc : Nat} {H : Heap} {ls : Array Slot} (hdg : decode code pc = .ok (.ireturn, 1)) : W p l e room_1 s m #[Value.ref b] below meth c H [] 600000 7302249 (lw_Z below #[Value.ref b] s) (F0 m pc ls [.int 1]) := by
  intro T hT X
  obtain ⟨fs, hret, hrun, hended, hW, hframe⟩ := X.leave (v := some (.int 1)) (hlocks := hlocks) (fun h => by rw [hr] at h; cases h)
  have hmeth' : T.vm.method? m = some meth := X.method'
  refine ⟨T.setFrames fs, ?_, .returned (some (.int 1)), hrun, hended, rfl, ⟨_, rfl⟩, hW, hframe⟩
  jvm_step X.here [X.here.top, hx, hb, hdg, hmeth', hr, ret, narrow_b1]
  (try refine ⟨rfl, ?_⟩); (try refine ⟨rfl, ?_⟩)
  first | (intro acts; rw [hret _ acts rfl rfl rfl]) | rw [hret _ _ rfl rfl rfl]
  exact Steps.refl _
/-- what holds at the law's entry: the machine, the code, the tables' words (any of lw_tbl by 'hts w (by decide +kernel)'), the script of L ints xs at the cell b, what the Statement gives of the start (any of its parts by flat_of_before) -/
def lw_At (p : Program) (s : State) (m : MethodId) (meth : Method) (c : Code) (b L : Nat) (xs : Nat → Int32) : Prop :=
  p.tables.exec = Jvm.exec ∧ c.code = code ∧ meth.sig.returnType = ret ∧ c.maxLocals = 4 ∧ s.vm.findClass R_law = some m.cls ∧ (∀ w ∈ lw_tbl, w.before #[Value.ref b] s = true) ∧ va_X b L xs s s.heap ∧ b < s.heap.size ∧ meth.locks = false ∧ (Jvm.Cond.and given_1 narrow_1).before #[Value.ref b] s = true
/-! THE LAW: what the Statement gives of the start, in my words -/
theorem tl1 {w : Cond} (i : Nat) (h0 : tables_1_1[i]? = some w) : w ∈ lw_tbl := by
  have h : w ∈ tables_1_1 := List.mem_of_getElem? h0
  exact List.mem_append_right _ (List.mem_append_left _ h)
theorem tl2 {w : Cond} (i : Nat) (h0 : tables_1_2[i]? = some w) : w ∈ lw_tbl := by
  have h : w ∈ tables_1_2 := List.mem_of_getElem? h0
  exact List.mem_append_right _ (List.mem_append_right _ (List.mem_append_left _ h))
theorem arr_arr_spec {args : Array Value} {s : State} (h : (Cond.arrayOver (.array .int)).before args s = true) : ∃ comp c k, s.vm.findClass "[I" = some comp ∧ s.vm.classes[c]? = some k ∧ k.kind = .array comp (.array .int) ∧ s.vm.findClass "[[I" = some c := by
  have e1 : (FieldType.array FieldType.int).toString = "[I" := by decide +kernel
  have e2 : "[" ++ (FieldType.array FieldType.int).toString = "[[I" := by decide +kernel
  simp only [Cond.before, Cond.holds, Cond.value, beq_iff_eq, e1, e2] at h
  have e3 : "[" ++ "[I" = "[[I" := by decide +kernel
  try rw [e3] at h
  cases hc : s.vm.findClass "[I" with
  | none => simp [hc] at h
  | some comp =>
    simp only [hc, Option.bind_some, Option.bind_eq_some_iff, Option.map_eq_some_iff] at h
    obtain ⟨c, hi, k, hk, hb⟩ := h
    obtain ⟨hlt, hp, -⟩ := Array.findIdx?_eq_some_iff_getElem.mp hi
    have hkk : s.vm.classes[c] = k := (Array.getElem?_eq_some_iff.mp hk).2
    rw [hkk] at hp
    cases hkind : k.kind with
    | array component ty =>
      rw [hkind] at hb hp
      simp at hb hp
      exact ⟨comp, c, k, rfl, hk, by rw [hkind, hp, hb.1], by simpa using hb.2⟩
    | _ => rw [hkind] at hb; simp at hb
section LAWE
variable {s : State} {args : Array Value}
theorem law_cls (hts : ∀ w ∈ gt, w.before args s = true) : ∀ k : Nat, ∃ q : ClassId × (Nat → Nat), ∀ r : vw_C, vwCl[k]? = some r → u_Kn s r.1 r.2.1 r.2.2 q.1 q.2 := by
  intro k
  have go : ∀ (C : String) (T : u_T) (N : Nat), vwCl[k]? = some (C, T, N) → (∀ z ∈ u_ws C T N, z ∈ gt) → Cond.instantiable C N ∈ gt → ∃ q : ClassId × (Nat → Nat), ∀ r : vw_C, vwCl[k]? = some r → u_Kn s r.1 r.2.1 r.2.2 q.1 q.2 := fun C T N h h1 h2 => by
    obtain ⟨c, i, h3⟩ := u_known hts h1 (hts _ h2)
    exact ⟨(c, i), fun r hr => by rw [h] at hr; cases hr; exact h3⟩
  match k, go with
  | 0, go => exact go RX0 TX0 6 rfl ginX0 gt_nX0.2.1
  | 1, go => exact go RX1 TX1 6 rfl ginX1 gt_nX1.2.1
  | 2, go => exact go RX2 TX2 3 rfl ginX2 gt_nX2.2.1
  | 3, go => exact go RX3 TX3 5 rfl ginX3 gt_nX3.2.1
  | 4, go => exact go RX4 TX4 3 rfl ginX4 gt_nX4.2.1
  | 5, go => exact go RX5 TX5 10 rfl ginX5 gt_nX5.2.1
  | 6, go => exact go RX6 TX6 5 rfl ginX6 gt_nX6.2.1
  | 7, go => exact go RX7 TX7 9 rfl ginX7 gt_nX7.2.1
  | 8, go => exact go RX8 TX8 11 rfl ginX8 gt_nX8.2.1
  | 9, go => exact go RX9 TX9 50 rfl ginX9 gt_nX9.2.1
  | k + 10, _ => exact ⟨(0, fun _ => 0), fun r hr => absurd hr (by simp [vwCl])⟩
theorem law_tys (hts : ∀ w ∈ lw_tbl, w.before args s = true) : ∃ cI cJ cS cR : ClassId, (∀ (k : Nat) (q : ClassId × FieldType), ([(cI, .int), (cJ, .long), (cS, .object "HomeByAnotherWay$Sheet"), (cR, .array .int)] : List (ClassId × FieldType))[k]? = some q → ArrOfT s q.1 q.2 ∧ va_RA s q.1 q.2) ∧ ∃ k : Class, s.vm.classes[cR]? = some k ∧ k.kind = .array cI (.array .int) := by
  obtain ⟨cI, kI, mI, i1, i2, i3⟩ := Cond.arrayClass_spec (hts _ (gt_tbl gt_arr.1))
  obtain ⟨cJ, kJ, mJ, j1, j2, j3⟩ := Cond.arrayClass_spec (hts _ (gt_tbl gt_arr.2))
  obtain ⟨mS, cS, kS, s1, -, s2, s3, s4⟩ := Cond.arrayOver_spec (n := "HomeByAnotherWay$Sheet") (hts _ (tl2 3 (by decide +kernel)))
  obtain ⟨mR, cR, kR, r1, r2, r3, r4⟩ := arr_arr_spec (hts _ (tl1 143 (by decide +kernel)))
  have eI : "[" ++ FieldType.int.toString = "[I" := by decide +kernel
  have eR : "[" ++ (FieldType.array FieldType.int).toString = "[[I" := by decide +kernel
  have e : mR = cI := by rw [eI] at i1; exact Option.some.inj (r1.symm.trans i1)
  subst e
  refine ⟨mR, cJ, cS, cR, fun k q hk => ?_, kR, r2, r3⟩
  match k, hk with
  | 0, hk => cases hk; exact ⟨fun n z => ⟨fun k h => (by cases h), kI, i2, mI, i3⟩, i1⟩
  | 1, hk => cases hk; exact ⟨fun n z => ⟨fun k h => (by cases h), kJ, j2, mJ, j3⟩, j1⟩
  | 2, hk => cases hk; exact ⟨fun n z => ⟨fun k h => (by cases h), kS, s2, mS, s3⟩, kS, mS, s2, s3, s1, s4⟩
  | 3, hk => cases hk; exact ⟨fun n z => ⟨fun k h => (by cases h), kR, r2, mR, r3⟩, by show s.vm.findClass ("[" ++ (FieldType.array FieldType.int).toString) = some cR; rw [eR]; exact r4⟩
  | k + 4, hk => simp at hk
def tmS (i : Nat) : Term := .string (strOwn i).1 (strOwn i).2.1
theorem fl_S : ∀ i, i < 3 → Cond.exactly (tmS i) "java/lang/String" ∈ flatC (Jvm.Cond.and given_1 narrow_1) ∧ Cond.eq (.field (tmS i) "java/lang/String" "coder" "B") (.int 0) ∈ flatC (Jvm.Cond.and given_1 narrow_1) ∧ Cond.arrayOf (.field (tmS i) "java/lang/String" "value" "[B") .byte ∈ flatC (Jvm.Cond.and given_1 narrow_1) ∧ Cond.eq (.length (.field (tmS i) "java/lang/String" "value" "[B")) (.int (Int32.ofNat (lenS.getD i 0))) ∈ flatC (Jvm.Cond.and given_1 narrow_1) := by decide +kernel
theorem fl_B : ∀ i, i < 3 → ∀ j, j < lenS.getD i 0 → Cond.eq (.elem (.field (tmS i) "java/lang/String" "value" "[B") (.int (Int32.ofNat j))) (.int ((bytS.getD i []).getD j 0)) ∈ flatC (Jvm.Cond.and given_1 narrow_1) := by decide +kernel
theorem fl_N : ∀ i, i < 3 → ∀ j, j < 3 → i ≠ j → Cond.not (Cond.eq (tmS i) (tmS j)) ∈ flatC (Jvm.Cond.and given_1 narrow_1) ∨ Cond.not (Cond.eq (tmS j) (tmS i)) ∈ flatC (Jvm.Cond.and given_1 narrow_1) := by decide +kernel
theorem fl_Z : Cond.eq (.static "java/lang/String" "COMPACT_STRINGS" "Z") (.int 1) ∈ flatC (Jvm.Cond.and given_1 narrow_1) ∧ Cond.isRef (.static "jdk/internal/util/Preconditions" "SIOOBE_FORMATTER" "Ljava/util/function/BiFunction;") ∈ flatC (Jvm.Cond.and given_1 narrow_1) := by decide +kernel
theorem tl_ini : Cond.initialized "java/lang/String" ∈ gt ∧ Cond.initialized "jdk/internal/util/Preconditions" ∈ gt := by decide +kernel
theorem tl_str : ∀ i, i < 3 → Cond.stringRef (strOwn i).1 (strOwn i).2.1 (strOwn i).2.2 ∈ lw_tbl := by
  intro i hi
  match i, hi with
  | 0, _ => exact tl2 22 (by decide +kernel)
  | 1, _ => exact tl2 95 (by decide +kernel)
  | 2, _ => exact tl2 114 (by decide +kernel)
  | i + 3, h => omega
theorem law_str (hts : ∀ w ∈ lw_tbl, w.before args s = true) (hg : (Jvm.Cond.and given_1 narrow_1).before args s = true) {A : Nat → Prop} (hA : ∀ a : Nat, a < s.heap.size → ¬ A a) : ∃ kK kV : Nat → Nat, vk_S 3 lenS bytS kK kV A s s.heap ∧ (∀ i, i < 3 → vk_R (strOwn i).1 (strOwn i).2.1 (strOwn i).2.2 (kK i) s) ∧ va_Z "java/lang/String" "COMPACT_STRINGS" "Z" (.int 1) A s s.heap ∧ va_Zq "jdk/internal/util/Preconditions" "SIOOBE_FORMATTER" "Ljava/util/function/BiFunction;" A s s.heap := by
  have hs := flat_of_before _ hg
  obtain ⟨kK, kV, h1, h2⟩ := vk_Sof (N := 3) (tm := tmS) (len := lenS) (byt := bytS) (A := A) (by decide +kernel) (fun i hi => hs _ (fl_S i hi).1) (fun i hi => hs _ (fl_S i hi).2.1) (fun i hi => hs _ (fl_S i hi).2.2.1) (fun i hi => hs _ (fl_S i hi).2.2.2) (fun i hi j hj => hs _ (fl_B i hi j hj)) (fun i j hi hj hne => (fl_N i hi j hj hne).elim (fun h => Or.inl (hs _ h)) (fun h => Or.inr (hs _ h))) hA
  exact ⟨kK, kV, h1, fun i hi => vk_R.of (hts _ (tl_str i hi)) (h2 i hi), va_Zof (hts _ (tl2 32 (by decide +kernel))) (hts _ (gt_tbl tl_ini.1)) (va_eqt (hs _ fl_Z.1)) hA, va_Zqof (hts _ (tl2 48 (by decide +kernel))) (hts _ (gt_tbl tl_ini.2)) (hs _ fl_Z.2) hA⟩
theorem tl_nest : ∀ q ∈ nestI, Cond.methodLinkNest RX8 q.1 q.2 RX8 ∈ lw_tbl := List.forall_mem_cons.mpr ⟨tl1 29 (by decide +kernel), List.forall_mem_cons.mpr ⟨tl1 66 (by decide +kernel), List.forall_mem_cons.mpr ⟨tl1 98 (by decide +kernel), List.forall_mem_cons.mpr ⟨tl1 138 (by decide +kernel), List.forall_mem_cons.mpr ⟨tl1 163 (by decide +kernel), List.forall_mem_cons.mpr ⟨tl1 199 (by decide +kernel), List.forall_mem_cons.mpr ⟨tl1 225 (by decide +kernel), List.forall_mem_cons.mpr ⟨tl2 5 (by decide +kernel), fun _ h => absurd h List.not_mem_nil⟩⟩⟩⟩⟩⟩⟩⟩
theorem law_env (hts : ∀ w ∈ lw_tbl, w.before args s = true) (hg : (Jvm.Cond.and given_1 narrow_1).before args s = true) {A : Nat → Prop} (hA : ∀ a : Nat, a < s.heap.size → ¬ A a) : ∃ g : CtxG, va_K (gG g) vwCl (tysG g) s ∧ EX g s ∧ SFA g A s s.heap := by
  obtain ⟨d, hd⟩ := Classical.axiomOfChoice (law_cls fun w hw => hts w (gt_tbl hw))
  obtain ⟨cI, cJ, cS, cR, ht, hr⟩ := law_tys hts
  obtain ⟨kK, kV, hS⟩ := law_str hts hg hA
  exact ⟨((((fun k => (d k).1), fun k => (d k).2), (fun _ => 0), kK, kV), cI, cJ, cS, cR), ⟨fun c q hq => hd c q hq, ht⟩, ⟨hr, va_AO.of (hts _ (tl2 3 (by decide +kernel))), fun q hq => va_Nw.of rfl (hts _ (tl_nest q hq))⟩, hS⟩
end LAWE
