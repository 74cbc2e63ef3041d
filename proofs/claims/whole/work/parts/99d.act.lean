/-! AN: a method's contract called among other cells; a world's cells read and written. -/
abbrev wZ (Z : CtxZ) (ad : Nat → Nat) (N : Nat) (sh : Nat → Shp) : CtxW := ((gG (zg Z), ad, gK (zg Z), gV (zg Z)), (zg Z).2, N, sh)
section AND
variable {Z : CtxZ} {nL cs sl pc : Nat} {L L1 : List (Nat × Value)} {S : List Value} {pre : va_W} {cc : ByteArray} {own : String} {ad : Nat → Nat} {N : Nat} {sh : Nat → Shp} {M : Mem}
theorem an_winj (hD : va_D (zA Z) (pre ++ wl (wZ Z ad N sh) M)) : winj (wZ Z ad N sh) ∧ ∀ q, wA (wZ Z ad N sh) q → zA Z q := by
  refine ⟨fun i j hi hj e => hD.right.1 i j _ _ (wl_get hi) (wl_get hj) e, fun q hq => ?_⟩
  obtain ⟨k, hk, rfl⟩ := hq
  exact hD.right.2 k _ (wl_get hk)
theorem an_pre (E : EN Z cc nL own) {As : List Value} {H : Heap} {locs : List Loc} (hP : va_P (gG (zg Z)) vwCl (pre ++ wl (wZ Z ad N sh) M) H) (hD : va_D (zA Z) (pre ++ wl (wZ Z ad N sh) M)) (hS : va_S (zA Z) (ys (zY Z)).heap H locs) : ∀ U : State, U.heap = H → (ys (zY Z)).WarmedH U.vm → va_Pc As (PiW (wZ Z ad N sh) M) As.toArray U := fun U hU hW => by
  have hSF : SFA (zg Z) (wA (wZ Z ad N sh)) U H := SFA.moved hW ((E.2.2.2.2.2.2.2.2.kept hS.2.1).narrow (an_winj hD).2)
  exact ⟨rfl, by rw [hU]; exact hP.right, va_K.moved hW.alike E.2.2.2.2.2.1, (an_winj hD).1, by rw [hU]; exact hSF⟩
theorem an_back (E : EN Z cc nL own) {v : Option Value} {M' : Mem} {St : List Value} {a : Array Value} (hr : ∀ (H : Heap) (locs : List Loc) (ls : Array Slot), va_P (gG (zg Z)) vwCl (pre ++ wl (wZ Z ad N sh) M) H → va_D (zA Z) (pre ++ wl (wZ Z ad N sh) M) → va_S (zA Z) (ys (zY Z)).heap H locs → lv_has ls nL L →
      va_Run (yp (zY Z)) (yl (zY Z)) (ye (zY Z)) (zR Z) (ys (zY Z)) (ym (zY Z)) (ya (zY Z)) (yb (zY Z)) (yt (zY Z)) (yc (zY Z)) H locs cs sl 0 0 (F0 (ym (zY Z)) pc ls St) S (QcD (wZ Z ad N sh) (v, M') a) (wA (wZ Z ad N sh)))
    (kk : AN Z nL cs sl (pc + 3) L (v.toList ++ S) (pre ++ wl (wZ Z ad N sh) M')) : AN Z nL cs sl pc L St (pre ++ wl (wZ Z ad N sh) M) := by
  intro H locs ls hP hD hS hl T hT X
  obtain ⟨v1, st₀, t, T', L1, h0, X', hL, e1, e2, ⟨hv, hP1, hz, hk⟩, st⟩ := hr H locs ls hP hD hS hl T hT X
  cases hv
  rw [h0] at hz hk
  obtain ⟨hP2, hD2⟩ := an_frame hP hD hk (fun q h1 h2 => by
    obtain ⟨k, hk, rfl⟩ := h2
    exact ⟨k, _, wl_get hk⟩) hP1 (wl_D (M := M') (an_winj hD).1) (an_winj hD).2
  obtain ⟨t2, a1, b1⟩ := kk T'.heap (locs ++ L1) ls (by rw [e1]; exact hP2) hD2
    ⟨Nat.le_trans hS.1 (by rw [e1]; exact hz), fun q h1 h2 => by rw [e1, hk q (Nat.lt_of_lt_of_le h1 hS.1) (fun z => h2 ((an_winj hD).2 q z))]; exact hS.2.1 q h1 h2, fun q hq => by
      rcases List.mem_append.mp hq with h | h
      · exact hS.2.2 q h
      · exact (an_winj hD).2 _ (hL q h)⟩ hl T' rfl X'
  exact ⟨t2, st t2 a1, b1⟩
theorem an_cw (E : EN Z cc nL own) {y : MethodName} {cc' : ByteArray} {nL' n d' idx : Nat} {rt' : Option FieldType} (mv : MV y cc' nL' rt' n) (hlk : Cond.methodLink own idx y ∈ gt) (hdd : d' + 1 ≤ (zR Z).frames ∧ 40 * d' + 40 ≤ (zR Z).locals) :
    CallW (zR Z) (ys (zY Z)) (ya (zY Z)) own y.cls idx y cc' nL' rt' (gw y cc' nL' rt') (rmD d') 0 0 n := by
  obtain ⟨m1, m2, m3, m4, m5, m6⟩ := mv
  have hG : GoodIn gt (wsV own idx y.cls y (gw y cc' nL' rt')) := by
    intro z hz
    unfold wsV at hz
    rcases List.mem_append.mp hz with h | h
    · have h1 : z ∈ gt := by
        simp only [List.mem_cons, List.not_mem_nil, or_false] at h
        rcases h with rfl | rfl | rfl | rfl <;> assumption
      exact ⟨h1, good_of_word (gt_good h1)⟩
    · exact gw_good (fun _ h => h) m1 z h
  exact cwV (mc := 0) (ms := 0) (rm := rmD d') n E.2.2.2.2.1 hG rfl rfl rfl ⟨rfl, m5⟩ ⟨hdd.1, by show 8 + (nL' + 11) + 40 * d' ≤ _; omega⟩
theorem an_callV (E : EN Z cc nL own) {y : MethodName} {cc' : ByteArray} {nL' n d' idx k ci b : Nat} {rt' : Option FieldType} {fl : List (Option Nat)} {As St : List Value} {v : Option Value} {M' : Mem} (mv : MV y cc' nL' rt' n) (hlk : Cond.methodLink own idx y ∈ gt) (hk : k < N) (hsk : sh k = (0, ci, b, fl)) (hcl : (vwCl[ci]?).map (fun q => q.1) = some y.cls) (hn : As.length = n)
    (C : Ct (yl (zY Z)) (wZ Z ad N sh) y cc' nL' rt' d' (.ref (ad k) :: As) M (v, M')) (hst : St = As.reverse ++ .ref (ad k) :: S) (hcat : (S.map fun v => v.category).sum ≤ 8) (hdd : d' + 1 ≤ (zR Z).frames ∧ 40 * d' + 40 ≤ (zR Z).locals) (hcs : cs ≤ (zR Z).cells ∧ sl ≤ (zR Z).slots) (hd : decode cc pc = .ok (.invokevirtual idx, 3)) (kk : AN Z nL cs sl (pc + 3) L (v.toList ++ S) (pre ++ wl (wZ Z ad N sh) M')) : AN Z nL cs sl pc L St (pre ++ wl (wZ Z ad N sh) M) := by
  refine an_back E (a := (Value.ref (ad k) :: As).toArray) (fun H locs ls hP hD hS hl => ?_) kk
  have he : (wl (wZ Z ad N sh) M)[k]? = some (ad k, .inr (ci, flv ad (M.1 k) 0 fl)) := by
    rw [wl_get hk]
    unfold wen
    rw [show wsh (wZ Z ad N sh) k = (0, ci, b, fl) from hsk]
    rfl
  obtain ⟨q, hq1, hq2⟩ := Option.map_eq_some_iff.mp hcl
  have hrecv := va_recv E.2.2.2.2.2.1 hP.right hq1 he
  rw [hq2] at hrecv
  exact va_runV (As := As) (rest := S) ⟨E.1, E.2.1, E.2.2.1, E.2.2.2.1, E.2.2.2.2.1⟩ C (an_cw E mv hlk hdd) ⟨Pi_blind, hrecv, an_pre E hP hD hS⟩ rfl hn hl.1 hst (lv_room hcat) hd hcs
theorem an_callS (E : EN Z cc nL own) {y : MethodName} {cc' : ByteArray} {nL' n d' idx i : Nat} {rt' : Option FieldType} {As St : List Value} {x : Int32} {M' : Mem} (mv : MV y cc' nL' rt' n) (hlk : Cond.methodLink own idx y ∈ gt) (hi : i < 3) (hcl : y.cls = "java/lang/String") (hn : As.length = n)
    (C : Ct (yl (zY Z)) (wZ Z ad N sh) y cc' nL' rt' d' (.ref (gK (zg Z) i) :: As) M (some (.int x), M')) (hst : St = As.reverse ++ .ref (gK (zg Z) i) :: S) (hcat : (S.map fun v => v.category).sum ≤ 8) (hdd : d' + 1 ≤ (zR Z).frames ∧ 40 * d' + 40 ≤ (zR Z).locals) (hcs : cs ≤ (zR Z).cells ∧ sl ≤ (zR Z).slots) (hd : decode cc pc = .ok (.invokevirtual idx, 3)) (kk : AN Z nL cs sl (pc + 3) L (.int x :: S) (pre ++ wl (wZ Z ad N sh) M')) : AN Z nL cs sl pc L St (pre ++ wl (wZ Z ad N sh) M) := by
  refine an_back E (v := some (.int x)) (a := (Value.ref (gK (zg Z) i) :: As).toArray) (fun H locs ls hP hD hS hl => ?_) kk
  have hrecv := vk_recv E.2.2.2.2.2.2.2.2.1 hi hS
  rw [← hcl] at hrecv
  exact va_runV (As := As) (rest := S) ⟨E.1, E.2.1, E.2.2.1, E.2.2.2.1, E.2.2.2.2.1⟩ C (an_cw E mv hlk hdd) ⟨Pi_blind, hrecv, an_pre E hP hD hS⟩ rfl hn hl.1 hst (lv_room hcat) hd hcs
-- a world's own cells (it stands alone)
theorem an_wgetR (E : EN Z cc nL own) {idx ci j b q : Nat} {fin : Bool} {ty : FieldType} {fl : List (Option Nat)} (F : FL own idx ci j fin ty) {k : Nat} (hk : k < N) (hs : sh k = (0, ci, b, fl)) (hf : fl[j]? = some (some q)) (hd : decode cc pc = .ok (.getfield idx, 3)) (kk : AN Z nL cs sl (pc + 3) L (.ref (ad q) :: S) ([] ++ wl (wZ Z ad N sh) M)) : AN Z nL cs sl pc L (.ref (ad k) :: S) ([] ++ wl (wZ Z ad N sh) M) := by
  have he : (wl (wZ Z ad N sh) M)[k]? = some (ad k, .inr (ci, flv ad (M.1 k) 0 fl)) := by
    rw [wl_get hk]
    unfold wen
    rw [show wsh (wZ Z ad N sh) k = (0, ci, b, fl) from hs]
    rfl
  exact an_get E F k he (flv_ref fl 0 j q hf) hd kk
theorem an_wput (E : EN Z cc nL own) {idx ci j b : Nat} {ty : FieldType} {fl : List (Option Nat)} (F : FL own idx ci j false ty) {k : Nat} (hk : k < N) (hs : sh k = (0, ci, b, fl)) (hf : fl[j]? = some none) {v : Int32} (hn : narrow ty (.int v) = .int v ∧ fits ty (.int v) = true) (hd : decode cc pc = .ok (.putfield idx, 3)) (kk : AN Z nL cs sl (pc + 3) L S ([] ++ wl (wZ Z ad N sh) (wr M k j v))) : AN Z nL cs sl pc L (.int v :: .ref (ad k) :: S) ([] ++ wl (wZ Z ad N sh) M) := by
  have he : (wl (wZ Z ad N sh) M)[k]? = some (ad k, .inr (ci, flv ad (M.1 k) 0 fl)) := by
    rw [wl_get hk]
    unfold wen
    rw [show wsh (wZ Z ad N sh) k = (0, ci, b, fl) from hs]
    rfl
  have hset : (wl (wZ Z ad N sh) M).set k (ad k, .inr (ci, (flv ad (M.1 k) 0 fl).set j (.int v))) = wl (wZ Z ad N sh) (wr M k j v) := by
    refine wl_set (w := wZ Z ad N sh) hk (fun k' h => setC_ne M _ h) (fun _ _ => rfl) ?_
    unfold wen
    rw [show wsh (wZ Z ad N sh) k = (0, ci, b, fl) from hs]
    simp only [wr, setC_eq]
    rw [flv_set fl 0 j hf, Nat.zero_add]
  refine an_put E F k he hn (by rw [flv_len]; exact (List.getElem?_eq_some_iff.mp hf).1) hd ?_
  show AN Z nL cs sl (pc + 3) L S ((wl (wZ Z ad N sh) M).set k _)
  rw [hset]
  exact kk
theorem an_wiald (E : EN Z cc nL own) {k n b : Nat} {fl : List (Option Nat)} {i : Int32} (hk : k < N) (hs : sh k = (1, n, b, fl)) (hin : vp_in i n) (hd : decode cc pc = .ok (.iaload, 1)) (kk : AN Z nL cs sl (pc + 1) L (.int (M.1 k i.toNatClampNeg) :: S) ([] ++ wl (wZ Z ad N sh) M)) : AN Z nL cs sl pc L (.int i :: .ref (ad k) :: S) ([] ++ wl (wZ Z ad N sh) M) := by
  have he : (wl (wZ Z ad N sh) M)[k]? = some (ad k, .inl ((zg Z).2.1, n, .inl (M.1 k))) := by
    rw [wl_get hk]
    unfold wen
    rw [show wsh (wZ Z ad N sh) k = (1, n, b, fl) from hs]
    rfl
  exact an_iald E k he hin hd kk
theorem an_wiast (E : EN Z cc nL own) {k n b : Nat} {fl : List (Option Nat)} {i v : Int32} (hk : k < N) (hs : sh k = (1, n, b, fl)) (hin : vp_in i n) (hd : decode cc pc = .ok (.iastore, 1)) (kk : AN Z nL cs sl (pc + 1) L S ([] ++ wl (wZ Z ad N sh) (wr M k i.toNatClampNeg v))) : AN Z nL cs sl pc L (.int v :: .int i :: .ref (ad k) :: S) ([] ++ wl (wZ Z ad N sh) M) := by
  have he : (wl (wZ Z ad N sh) M)[k]? = some (ad k, .inl ((zg Z).2.1, n, .inl (M.1 k))) := by
    rw [wl_get hk]
    unfold wen
    rw [show wsh (wZ Z ad N sh) k = (1, n, b, fl) from hs]
    rfl
  have hset : (wl (wZ Z ad N sh) M).set k (ad k, .inl ((zg Z).2.1, n, .inl (upd (M.1 k) i.toNatClampNeg v))) = wl (wZ Z ad N sh) (wr M k i.toNatClampNeg v) := by
    refine wl_set (w := wZ Z ad N sh) hk (fun k' h => setC_ne M _ h) (fun _ _ => rfl) ?_
    unfold wen
    rw [show wsh (wZ Z ad N sh) k = (1, n, b, fl) from hs]
    simp only [wr, setC_eq]
  refine an_iast E k he hin rfl hd ?_
  show AN Z nL cs sl (pc + 1) L S ((wl (wZ Z ad N sh) M).set k _)
  rw [hset]
  exact kk
end AND
