/-! AN: rows of rows; calls, and the frame rule. -/
theorem arrV_cg {c : ClassId} {N : Nat} {f f' : Nat → Value} (h : ∀ j, j < N → f j = f' j) : arrV c N f = arrV c N f' := by
  unfold arrV
  have : (fun j : Fin N => f j.val) = fun j : Fin N => f' j.val := funext fun j => h j.val j.isLt
  rw [this]
theorem va_D.one {A : Nat → Prop} {x : Nat × va_E} (h : A x.1) : va_D A [x] := by
  refine ⟨fun i j p q hi hj _ => ?_, fun k q hk => ?_⟩
  · have h1 : i < 1 := (List.getElem?_eq_some_iff.mp hi).1
    have h2 : j < 1 := (List.getElem?_eq_some_iff.mp hj).1
    omega
  · have h1 : k < 1 := (List.getElem?_eq_some_iff.mp hk).1
    rw [show k = 0 by omega] at hk
    cases hk
    exact h
theorem va_P.left {D : va_G} {cl : List vw_C} {a b : va_W} {H : Heap} (h : va_P D cl (a ++ b) H) : va_P D cl a H := fun k q hk => h k q (by rw [List.getElem?_append_left (List.getElem?_eq_some_iff.mp hk).1]; exact hk)
theorem va_P.right {D : va_G} {cl : List vw_C} {a b : va_W} {H : Heap} (h : va_P D cl (a ++ b) H) : va_P D cl b H := fun k q hk => h (a.length + k) q (by rw [List.getElem?_append_right (Nat.le_add_right _ _), Nat.add_sub_cancel_left]; exact hk)
theorem va_D.left {A : Nat → Prop} {a b : va_W} (h : va_D A (a ++ b)) : va_D A a := by
  have up : ∀ (k : Nat) (q : Nat × va_E), a[k]? = some q → (a ++ b)[k]? = some q := fun k q hk => by rw [List.getElem?_append_left (List.getElem?_eq_some_iff.mp hk).1]; exact hk
  exact ⟨fun i j p q hi hj e => h.1 i j p q (up i p hi) (up j q hj) e, fun k q hk => h.2 k q (up k q hk)⟩
theorem va_D.right {A : Nat → Prop} {a b : va_W} (h : va_D A (a ++ b)) : va_D A b := by
  have up : ∀ (k : Nat) (q : Nat × va_E), b[k]? = some q → (a ++ b)[a.length + k]? = some q := fun k q hk => by rw [List.getElem?_append_right (Nat.le_add_right _ _), Nat.add_sub_cancel_left]; exact hk
  exact ⟨fun i j p q hi hj e => Nat.add_left_cancel (h.1 _ _ p q (up i p hi) (up j q hj) e), fun k q hk => h.2 _ q (up k q hk)⟩
theorem an_frame {D : va_G} {cl : List vw_C} {A A1 : Nat → Prop} {pre sub sub' : va_W} {H H1 : Heap} (hP : va_P D cl (pre ++ sub) H) (hD : va_D A (pre ++ sub)) (hk : ∀ q : Nat, q < H.size → ¬ A1 q → H1[q]? = H[q]?) (hA1 : ∀ q : Nat, q < H.size → A1 q → ∃ (k : Nat) (e : va_E), sub[k]? = some (q, e)) (hP1 : va_P D cl sub' H1) (hD1 : va_D A1 sub') (hF : ∀ q, A1 q → A q) :
    va_P D cl (pre ++ sub') H1 ∧ va_D A (pre ++ sub') := by
  have hPp := hP.left
  have apart : ∀ (k : Nat) (p : Nat × va_E), pre[k]? = some p → p.1 < H.size ∧ ¬ A1 p.1 := by
    intro k p hk1
    have hlt := (hPp k p hk1).lt
    refine ⟨hlt, fun z => ?_⟩
    obtain ⟨k', e, h2⟩ := hA1 p.1 hlt z
    have hkl := (List.getElem?_eq_some_iff.mp hk1).1
    have h3 : (pre ++ sub)[pre.length + k']? = some (p.1, e) := by rw [List.getElem?_append_right (Nat.le_add_right _ _), Nat.add_sub_cancel_left]; exact h2
    have h4 : (pre ++ sub)[k]? = some p := by rw [List.getElem?_append_left hkl]; exact hk1
    have := hD.1 _ _ p (p.1, e) h4 h3 rfl
    omega
  refine ⟨(hPp.kept fun k p h => hk p.1 (apart k p h).1 (apart k p h).2).app hP1, (hD.left).app (hD1.weaken fun k q _ h => hF q.1 h) fun i j p q hi hj e => ?_⟩
  exact (apart i p hi).2 (by rw [e]; exact hD1.2 j q hj)
section ANC
variable {Z : CtxZ} {nL cs sl pc : Nat} {L L1 : List (Nat × Value)} {S : List Value} {ws : va_W} {cc : ByteArray} {own : String}
theorem an_multi (E : EN Z cc nL own) {idx : Nat} {n k : Int32} {N K : Nat} (hlk : Cond.classLink own idx "[[I" ∈ gt) (hn : ¬ n < 0) (hk : ¬ k < 0) (hN : n.toNatClampNeg = N) (hK : k.toNatClampNeg = K) (hb1 : N * 4 ≤ 536870912) (hb2 : K * 4 ≤ 536870912) (h1 : cs + (1 + N) ≤ (zR Z).cells) (h2 : sl + (N + N * K) ≤ (zR Z).slots) (hd : decode cc pc = .ok (.multianewarray idx 2, 4))
    (kk : ∀ (a : Nat) (r : Nat → Nat), AN Z nL (cs + 1 + N) (sl + N + N * K) (pc + 4) L (.ref a :: S) (ws ++ ((a, .inl ((zg Z).2.2.2.2, N, .inr (.inr (.inr (.inr (fun j => some (r j))))))) :: (List.range N).map fun j => (r j, .inl ((zg Z).2.1, K, .inl (fun _ => 0)))))) : AN Z nL cs sl pc L (.int k :: .int n :: S) ws := fun H locs ls hP hD hS hl => by
  subst hN; subst hK
  obtain ⟨kR, hkR, hkindR⟩ := E.2.2.2.2.2.2.2.1.1
  obtain ⟨-, kI, hkI, cm, hkindI⟩ := (E.2.2.2.2.2.1.2 0 ((zg Z).2.1, .int) rfl).1 0 (fun _ => .null)
  have hfR := (E.2.2.2.2.2.1.2 3 ((zg Z).2.2.2.2, .array .int) rfl).2
  refine xm_W E.1 E.2.1 E.2.2.2.1 (E.2.2.2.2.1 _ hlk) hfR hkR hkindR hkI hkindI rfl hd rfl hn hk hb1 hb2 h1 h2 (fun F e1 e2 e3 e4 => ?_)
  have hat : ∀ (i : Nat) (x : Nat × va_E), (((H.size, .inl ((zg Z).2.2.2.2, n.toNatClampNeg, .inr (.inr (.inr (.inr (fun j => some (H.size + 1 + j))))))) :: (List.range n.toNatClampNeg).map fun j => (H.size + 1 + j, .inl ((zg Z).2.1, k.toNatClampNeg, .inl (fun _ => 0)))) : va_W)[i]? = some x → x.1 = H.size + i ∧ va_at (gG (zg Z)) vwCl x F.heap := by
    intro i x hx
    cases i with
    | zero =>
      cases hx
      refine ⟨rfl, ?_⟩
      show F.heap[H.size]? = some (vp_cell _ _)
      rw [e3, vp_cell_q]
      exact congrArg some (arrV_cg fun j hj => by rw [if_pos hj])
    | succ i =>
      rw [List.getElem?_cons_succ, List.getElem?_map] at hx
      by_cases hi : i < n.toNatClampNeg
      · rw [List.getElem?_range hi] at hx
        cases hx
        refine ⟨by show H.size + 1 + i = _; omega, ?_⟩
        show F.heap[H.size + 1 + i]? = some (vp_cell _ _)
        rw [e4 i hi]
        rfl
      · rw [List.getElem?_eq_none (by rw [List.length_range]; omega)] at hx
        cases hx
  have hPn := (hP.kept fun k x hx => e1 x.1 ((hP k x hx).lt)).app fun i x hx => (hat i x hx).2
  have hDn := hD.app (w2 := (((H.size, .inl ((zg Z).2.2.2.2, n.toNatClampNeg, .inr (.inr (.inr (.inr (fun j => some (H.size + 1 + j))))))) :: (List.range n.toNatClampNeg).map fun j => (H.size + 1 + j, .inl ((zg Z).2.1, k.toNatClampNeg, .inl (fun _ => 0)))) : va_W)) ⟨fun i j p q hi hj e => by rw [(hat i p hi).1, (hat j q hj).1] at e; omega, fun i q hi => E.2.2.2.2.2.2.1 _ (by rw [(hat i q hi).1]; have := hS.1; omega)⟩ (fun i j p q hi hj e => by
    have := (hP i p hi).lt
    rw [e, (hat j q hj).1] at this
    omega)
  refine kk H.size (fun j => H.size + 1 + j) F.heap _ ls hPn hDn ⟨by rw [e2]; have := hS.1; omega, fun x h1 h2 => (e1 x (Nat.lt_of_lt_of_le h1 hS.1)).trans (hS.2.1 x h1 h2), fun q hq => ?_⟩ hl
  rcases List.mem_append.mp hq with h | h
  · exact hS.2.2 q h
  · obtain ⟨j, -, rfl⟩ := List.mem_map.mp h
    exact E.2.2.2.2.2.2.1 _ hS.1
/-- a constructor's contract -/
def CI (l : Launch) (g : CtxG) (y : MethodName) (cc : ByteArray) (nL : Nat) (rm : Room) (mc ms ci : Nat) (fs : List Value) (B : Nat → (Nat → Nat) → va_W) : Prop := ∀ (h0 sz : Nat),
  Met l y (gw y cc nL none) rm (va_Pc [.ref h0] (fun U => U.heap.size = sz ∧ va_P (gG g) vwCl [(h0, .inr (ci, fs))] U.heap ∧ va_K (gG g) vwCl (tysG g) U ∧ EX g U ∧ SFA g (va_A [(h0, .inr (ci, fs))] sz) U U.heap))
    (va_Qv (fun _ : Nat → Nat => True) (fun u t => va_P (gG g) vwCl (B h0 u) t.heap ∧ va_D (va_A [(h0, .inr (ci, fs))] sz) (B h0 u)) (va_A [(h0, .inr (ci, fs))] sz)) mc ms (va_A [(h0, .inr (ci, fs))] sz)
theorem CI_blind {g : CtxG} {h0 sz ci : Nat} {fs : List Value} : FrameBlind (va_Pc [.ref h0] (fun U => U.heap.size = sz ∧ va_P (gG g) vwCl [(h0, .inr (ci, fs))] U.heap ∧ va_K (gG g) vwCl (tysG g) U ∧ EX g U ∧ SFA g (va_A [(h0, .inr (ci, fs))] sz) U U.heap)) :=
  fun a U k mk q => ⟨q.1, q.2.1, q.2.2.1, va_K.moved (u := U) (U := U.calling k mk a) (Vm.Alike.refl U.vm) q.2.2.2.1, EX.same (s := U) (U := U.calling k mk a) rfl q.2.2.2.2.1, SFA.same (s := U) (U := U.calling k mk a) rfl q.2.2.2.2.2⟩
def MI (y : MethodName) (cc : ByteArray) (nL : Nat) : Prop := Cond.code y cc nL none ∈ gt ∧ Cond.instanceMethod y ∈ gt ∧ Cond.initialized y.cls ∈ gt ∧ y.name = "<init>" ∧ (y.cls ≠ "java/lang/invoke/MethodHandle" ∧ y.cls ≠ "java/lang/invoke/VarHandle" ∧ (parseMethodDescriptor y.desc).map (fun d => d.parameters.length) = some 0)
theorem an_callI {mc ms ci a : Nat} {fs : List Value} {B : Nat → (Nat → Nat) → va_W} {pre : va_W} (E : EN Z cc nL own)
    (hr : ∀ (H : Heap) (locs : List Loc) (ls : Array Slot), va_P (gG (zg Z)) vwCl [(a, .inr (ci, fs))] H → va_S (zA Z) (ys (zY Z)).heap H locs → lv_has ls nL L → (∀ q, va_A [(a, .inr (ci, fs))] H.size q → zA Z q) →
      va_Run (yp (zY Z)) (yl (zY Z)) (ye (zY Z)) (zR Z) (ys (zY Z)) (ym (zY Z)) (ya (zY Z)) (yb (zY Z)) (yt (zY Z)) (yc (zY Z)) H locs cs sl mc ms (F0 (ym (zY Z)) pc ls (.ref a :: S)) S
        (va_Qv (fun _ : Nat → Nat => True) (fun u t => va_P (gG (zg Z)) vwCl (B a u) t.heap ∧ va_D (va_A [(a, .inr (ci, fs))] H.size) (B a u)) (va_A [(a, .inr (ci, fs))] H.size) [Value.ref a].toArray) (va_A [(a, .inr (ci, fs))] H.size))
    (kk : ∀ u : Nat → Nat, AN Z nL (cs + mc) (sl + ms) (pc + 3) L S (pre ++ B a u)) : AN Z nL cs sl pc L (.ref a :: S) (pre ++ [(a, .inr (ci, fs))]) := fun H locs ls hP hD hS hl => by
  have hF : ∀ q, va_A [(a, .inr (ci, fs))] H.size q → zA Z q := fun q hq => by
    rcases hq with ⟨k, e, h⟩ | h
    · exact hD.right.2 k (q, e) h
    · exact E.2.2.2.2.2.2.1 q (Nat.le_trans hS.1 h)
  refine va_callv (hr H locs ls hP.right hS hl hF) hS (fun q _ h => hF q h) hF (fun u t H1 locs1 ht hvm hu hB hz hk hS1 => ?_)
  obtain ⟨hP1, hD1⟩ := hB
  rw [ht] at hP1
  obtain ⟨hP2, hD2⟩ := an_frame hP hD hk (fun q h1 h2 => by
    rcases h2 with ⟨k, e, h⟩ | h
    · exact ⟨k, e, h⟩
    · exact absurd h1 (Nat.not_lt.mpr h)) hP1 hD1 hF
  exact kk u H1 locs1 ls hP2 hD2 hS1 hl
theorem CI_pre (E : EN Z cc nL own) {a ci : Nat} {fs : List Value} {H : Heap} {locs : List Loc} (hP : va_P (gG (zg Z)) vwCl [(a, .inr (ci, fs))] H) (hS : va_S (zA Z) (ys (zY Z)).heap H locs) (hF : ∀ q, va_A [(a, .inr (ci, fs))] H.size q → zA Z q) : PreS (ys (zY Z)) H (va_Pc [.ref a] (fun U => U.heap.size = H.size ∧ va_P (gG (zg Z)) vwCl [(a, .inr (ci, fs))] U.heap ∧ va_K (gG (zg Z)) vwCl (tysG (zg Z)) U ∧ EX (zg Z) U ∧ SFA (zg Z) (va_A [(a, .inr (ci, fs))] H.size) U U.heap)) [.ref a] :=
  ⟨CI_blind, fun U hU hW => ⟨rfl, by rw [hU], by rw [hU]; exact hP, va_K.moved hW.alike E.2.2.2.2.2.1, EX.moved hW E.2.2.2.2.2.2.2.1, by rw [hU]; exact SFA.moved hW ((E.2.2.2.2.2.2.2.2.kept hS.2.1).narrow hF)⟩⟩
theorem an_callN {mc ms ci a idx nL' : Nat} {fs : List Value} {B : Nat → (Nat → Nat) → va_W} {pre : va_W} {y : MethodName} {cc' : ByteArray} {rm : Room} (E : EN Z cc nL own) (ho : own = RX8) (mi : MI y cc' nL') (hm : (idx, y) ∈ nestI) (C : CI (yl (zY Z)) (zg Z) y cc' nL' rm mc ms ci fs B) (hrc : rm.cells = mc ∧ rm.slots = ms) (hR : rm.frames + 1 ≤ (zR Z).frames ∧ 8 + (nL' + 11) + rm.locals ≤ (zR Z).locals) (hcat : (S.map fun v => v.category).sum ≤ 8)
    (hf : cs + mc ≤ (zR Z).cells ∧ sl + ms ≤ (zR Z).slots) (hd : decode cc pc = .ok (.invokespecial idx, 3)) (kk : ∀ u : Nat → Nat, AN Z nL (cs + mc) (sl + ms) (pc + 3) L S (pre ++ B a u)) : AN Z nL cs sl pc L (.ref a :: S) (pre ++ [(a, .inr (ci, fs))]) := by
  subst ho
  obtain ⟨m1, m2, m3, m4, m5⟩ := mi
  refine an_callI E (fun H locs ls hP hS hl hF => ?_) kk
  exact va_runIN (As := []) (rest := S) ⟨E.1, E.2.1, E.2.2.1, E.2.2.2.1, E.2.2.2.2.1⟩ (C a H.size) ⟨va_cnB 0 E.2.2.2.2.1 (gw_good (fun _ h => h) m1) rfl hrc.1 hrc.2 (E.2.2.2.2.2.2.2.1.2.2 _ hm) (E.2.2.2.2.1 _ m3) m5 hR, m4, E.2.2.2.2.1 _ m2⟩ (CI_pre E hP hS hF) rfl rfl hl.1 rfl (lv_room hcat) hd hf
theorem an_callP {mc ms ci a idx nL' : Nat} {fs : List Value} {B : Nat → (Nat → Nat) → va_W} {pre : va_W} {y : MethodName} {cc' : ByteArray} {rm : Room} (E : EN Z cc nL own) (mi : MI y cc' nL') (hm : Cond.methodLink own idx y ∈ gt) (C : CI (yl (zY Z)) (zg Z) y cc' nL' rm mc ms ci fs B) (hrc : rm.cells = mc ∧ rm.slots = ms) (hR : rm.frames + 1 ≤ (zR Z).frames ∧ 8 + (nL' + 11) + rm.locals ≤ (zR Z).locals) (hcat : (S.map fun v => v.category).sum ≤ 8)
    (hf : cs + mc ≤ (zR Z).cells ∧ sl + ms ≤ (zR Z).slots) (hd : decode cc pc = .ok (.invokespecial idx, 3)) (kk : ∀ u : Nat → Nat, AN Z nL (cs + mc) (sl + ms) (pc + 3) L S (pre ++ B a u)) : AN Z nL cs sl pc L (.ref a :: S) (pre ++ [(a, .inr (ci, fs))]) := by
  obtain ⟨m1, m2, m3, m4, m5⟩ := mi
  refine an_callI E (fun H locs ls hP hS hl hF => ?_) kk
  exact va_runI (As := []) (rest := S) ⟨E.1, E.2.1, E.2.2.1, E.2.2.2.1, E.2.2.2.2.1⟩ (C a H.size) (cwI 0 E.2.2.2.2.1 (gw_good (fun _ h => h) m1) rfl hrc.1 hrc.2 (E.2.2.2.2.1 _ m3) (E.2.2.2.2.1 _ hm) (E.2.2.2.2.1 _ m2) m4 m5 hR) (CI_pre E hP hS hF) rfl rfl hl.1 rfl (lv_room hcat) hd hf
end ANC
