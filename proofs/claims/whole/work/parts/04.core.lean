/-! THE CORE: an abstract machine over a fixed world. A world is N cells at addresses 'ad k'; a memory gives each cell's numbers; the references never change. -/
-- the uniform words
def gt : List Cond := lw_tbl.filter goodWord
theorem gt_in {w : Cond} (h : w ∈ lw_tbl) (hg : goodWord w = true) : w ∈ gt := List.mem_filter.mpr ⟨h, hg⟩
theorem gt_tbl {w : Cond} (h : w ∈ gt) : w ∈ lw_tbl := (List.mem_filter.mp h).1
theorem gt_good {w : Cond} (h : w ∈ gt) : goodWord w = true := (List.mem_filter.mp h).2
def gw (y : MethodName) (cc : ByteArray) (nL : Nat) (rt : Option FieldType) : List Cond := .code y cc nL rt :: gt
theorem gw_gt {y : MethodName} {cc : ByteArray} {nL : Nat} {rt : Option FieldType} : ∀ w ∈ gt, w ∈ gw y cc nL rt := fun _ h => List.mem_cons_of_mem _ h
theorem gw_good {y : MethodName} {cc : ByteArray} {nL : Nat} {rt : Option FieldType} {big : List Cond} (hb : ∀ w ∈ gt, w ∈ big) (hc : Cond.code y cc nL rt ∈ gt) : GoodIn big (gw y cc nL rt) := by
  intro w hw
  have h1 : w ∈ gt := by
    rcases List.mem_cons.mp hw with h | h
    · rw [h]; exact hc
    · exact h
  exact ⟨hb w h1, good_of_word (gt_good h1)⟩
-- worlds
abbrev Mem : Type := (Nat → Nat → Int32) × (Nat → Nat → Int64)
abbrev Shp : Type := Nat × Nat × Nat × List (Option Nat)
abbrev CtxW : Type := (va_G × (Nat → Nat) × (Nat → Nat) × (Nat → Nat)) × (ClassId × ClassId × ClassId × ClassId) × Nat × (Nat → Shp)
abbrev wD (w : CtxW) : va_G := w.1.1
abbrev wad (w : CtxW) : Nat → Nat := w.1.2.1
abbrev wK (w : CtxW) : Nat → Nat := w.1.2.2.1
abbrev wV (w : CtxW) : Nat → Nat := w.1.2.2.2
abbrev wcI (w : CtxW) : ClassId := w.2.1.1
abbrev wcJ (w : CtxW) : ClassId := w.2.1.2.1
abbrev wcS (w : CtxW) : ClassId := w.2.1.2.2.1
abbrev wcR (w : CtxW) : ClassId := w.2.1.2.2.2
abbrev wN (w : CtxW) : Nat := w.2.2.1
abbrev wsh (w : CtxW) : Nat → Shp := w.2.2.2
def setC (M : Mem) (k : Nat) (f : Nat → Int32) : Mem := (fun k' => if k' = k then f else M.1 k', M.2)
def setL (M : Mem) (k : Nat) (f : Nat → Int64) : Mem := (M.1, fun k' => if k' = k then f else M.2 k')
def wr (M : Mem) (k j : Nat) (v : Int32) : Mem := setC M k (upd (M.1 k) j v)
def wrL (M : Mem) (k j : Nat) (v : Int64) : Mem := setL M k (vp_updL (M.2 k) j v)
theorem setC_eq (M : Mem) (k : Nat) (f : Nat → Int32) : (setC M k f).1 k = f := by simp [setC]
theorem setC_ne (M : Mem) {k k' : Nat} (f : Nat → Int32) (h : k' ≠ k) : (setC M k f).1 k' = M.1 k' := by simp [setC, h]
theorem setC_2 (M : Mem) (k : Nat) (f : Nat → Int32) : (setC M k f).2 = M.2 := rfl
theorem setL_eq (M : Mem) (k : Nat) (f : Nat → Int64) : (setL M k f).2 k = f := by simp [setL]
theorem setL_ne (M : Mem) {k k' : Nat} (f : Nat → Int64) (h : k' ≠ k) : (setL M k f).2 k' = M.2 k' := by simp [setL, h]
theorem setL_1 (M : Mem) (k : Nat) (f : Nat → Int64) : (setL M k f).1 = M.1 := rfl
def flv (ad : Nat → Nat) (f : Nat → Int32) : Nat → List (Option Nat) → List Value
  | _, [] => []
  | j, none :: r => .int (f j) :: flv ad f (j + 1) r
  | j, some q :: r => .ref (ad q) :: flv ad f (j + 1) r
theorem flv_int {ad : Nat → Nat} {f : Nat → Int32} : ∀ (l : List (Option Nat)) (i j : Nat), l[j]? = some none → (flv ad f i l)[j]? = some (.int (f (i + j)))
  | [], _, _, h => by simp at h
  | none :: r, i, 0, _ => by simp [flv]
  | some q :: r, i, 0, h => by simp at h
  | none :: r, i, j + 1, h => by
    have := flv_int (ad := ad) (f := f) r (i + 1) j (by simpa using h)
    simp only [flv, List.getElem?_cons_succ, this]
    rw [show i + 1 + j = i + (j + 1) by omega]
  | some q :: r, i, j + 1, h => by
    have := flv_int (ad := ad) (f := f) r (i + 1) j (by simpa using h)
    simp only [flv, List.getElem?_cons_succ, this]
    rw [show i + 1 + j = i + (j + 1) by omega]
theorem flv_ref {ad : Nat → Nat} {f : Nat → Int32} : ∀ (l : List (Option Nat)) (i j q : Nat), l[j]? = some (some q) → (flv ad f i l)[j]? = some (.ref (ad q))
  | [], _, _, _, h => by simp at h
  | none :: r, i, 0, _, h => by simp at h
  | some q :: r, i, 0, q', h => by
    simp at h
    simp [flv, h]
  | none :: r, i, j + 1, q, h => by
    have := flv_ref (ad := ad) (f := f) r (i + 1) j q (by simpa using h)
    simp only [flv, List.getElem?_cons_succ, this]
  | some _ :: r, i, j + 1, q, h => by
    have := flv_ref (ad := ad) (f := f) r (i + 1) j q (by simpa using h)
    simp only [flv, List.getElem?_cons_succ, this]
theorem flv_len {ad : Nat → Nat} {f : Nat → Int32} : ∀ (l : List (Option Nat)) (i : Nat), (flv ad f i l).length = l.length
  | [], _ => rfl
  | none :: r, i => by simp [flv, flv_len r (i + 1)]
  | some q :: r, i => by simp [flv, flv_len r (i + 1)]
theorem flv_off {ad : Nat → Nat} {f : Nat → Int32} {v : Int32} : ∀ (l : List (Option Nat)) (i j : Nat), j < i → flv ad (upd f j v) i l = flv ad f i l
  | [], _, _, _ => rfl
  | none :: r, i, j, h => by
    have e : upd f j v i = f i := by
      unfold upd
      rw [if_neg (by omega)]
    simp only [flv, e, flv_off r (i + 1) j (by omega)]
  | some q :: r, i, j, h => by simp only [flv, flv_off r (i + 1) j (by omega)]
theorem flv_set {ad : Nat → Nat} {f : Nat → Int32} {v : Int32} : ∀ (l : List (Option Nat)) (i j : Nat), l[j]? = some none → (flv ad f i l).set j (.int v) = flv ad (upd f (i + j) v) i l
  | [], _, _, h => by simp at h
  | none :: r, i, 0, _ => by
    simp only [flv, List.set_cons_zero, Nat.add_zero, flv_off r (i + 1) i (by omega)]
    simp [upd]
  | some q :: r, i, 0, h => by simp at h
  | none :: r, i, j + 1, h => by
    have := flv_set (ad := ad) (f := f) (v := v) r (i + 1) j (by simpa using h)
    simp only [flv, List.set_cons_succ, this]
    rw [show i + 1 + j = i + (j + 1) by omega]
    simp [upd]
  | some q :: r, i, j + 1, h => by
    have := flv_set (ad := ad) (f := f) (v := v) r (i + 1) j (by simpa using h)
    simp only [flv, List.set_cons_succ, this]
    rw [show i + 1 + j = i + (j + 1) by omega]
def wrf (w : CtxW) (b : Nat) : Nat → Option Nat := fun j => some (wad w (b + j))
def wen (w : CtxW) (M : Mem) (k : Nat) : va_E := match wsh w k with
  | (0, ci, _, fl) => .inr (ci, flv (wad w) (M.1 k) 0 fl)
  | (1, n, _, _) => .inl (wcI w, n, .inl (M.1 k))
  | (2, n, _, _) => .inl (wcJ w, n, .inr (.inl (M.2 k)))
  | (3, n, b, _) => .inl (wcS w, n, .inr (.inr (.inr (.inr (wrf w b)))))
  | (_, n, b, _) => .inl (wcR w, n, .inr (.inr (.inr (.inr (wrf w b)))))
theorem wen_eq {w : CtxW} {M M' : Mem} {k : Nat} (h1 : M'.1 k = M.1 k) (h2 : M'.2 k = M.2 k) : wen w M' k = wen w M k := by
  unfold wen
  rw [h1, h2]
def wl (w : CtxW) (M : Mem) : va_W := (List.range (wN w)).map fun k => (wad w k, wen w M k)
theorem wl_get {w : CtxW} {M : Mem} {k : Nat} (hk : k < wN w) : (wl w M)[k]? = some (wad w k, wen w M k) := by
  simp [wl, List.getElem?_range hk]
theorem wl_inv {w : CtxW} {M : Mem} {k : Nat} {q : Nat × va_E} (h : (wl w M)[k]? = some q) : k < wN w ∧ q = (wad w k, wen w M k) := by
  have hk : k < (wl w M).length := (List.getElem?_eq_some_iff.mp h).1
  have hk' : k < wN w := by simpa [wl] using hk
  rw [wl_get hk'] at h
  exact ⟨hk', (Option.some.inj h).symm⟩
def wA (w : CtxW) : Nat → Prop := fun q => ∃ k, k < wN w ∧ q = wad w k
def winj (w : CtxW) : Prop := ∀ i j, i < wN w → j < wN w → wad w i = wad w j → i = j
theorem wl_D {w : CtxW} {M : Mem} (h : winj w) : va_D (wA w) (wl w M) := by
  refine ⟨fun i j p q hi hj he => ?_, fun k q hk => ?_⟩
  · obtain ⟨h1, rfl⟩ := wl_inv hi
    obtain ⟨h2, rfl⟩ := wl_inv hj
    exact h i j h1 h2 he
  · obtain ⟨h1, rfl⟩ := wl_inv hk
    exact ⟨k, h1, rfl⟩
theorem wl_set {w : CtxW} {M M' : Mem} {k : Nat} {e : va_E} (hk : k < wN w) (h1 : ∀ k', k' ≠ k → M'.1 k' = M.1 k') (h2 : ∀ k', k' ≠ k → M'.2 k' = M.2 k') (he : wen w M' k = e) : (wl w M).set k (wad w k, e) = wl w M' := by
  apply List.ext_getElem?
  intro j
  by_cases hj : j = k
  · subst hj
    rw [wl_get hk, he, List.getElem?_set_self (by simpa [wl] using hk)]
  · rw [List.getElem?_set_ne (fun q => hj q.symm)]
    by_cases hjn : j < wN w
    · rw [wl_get hjn, wl_get hjn, wen_eq (h1 j hj) (h2 j hj)]
    · rw [List.getElem?_eq_none (by simp [wl]; omega), List.getElem?_eq_none (by simp [wl]; omega)]
def wtys (w : CtxW) : List (ClassId × FieldType) := [(wcI w, .int), (wcJ w, .long), (wcS w, .object "HomeByAnotherWay$Sheet"), (wcR w, .array .int)]
-- the string constants, and the statics of the JDK that their members read
def lenS : List Nat := [39, 57, 8]
def bytS : List (List Int32) := [[119, 97, 108, 107, 32, 98, 97, 115, 101, 32, 59, 32, 99, 97, 114, 114, 121, 32, 98, 97, 115, 101, 32, 43, 32, 109, 111, 114, 101, 32, 59, 32, 109, 97, 121, 32, 49, 32, 59], [32, 119, 97, 108, 107, 32, 99, 97, 114, 114, 121, 32, 109, 97, 121, 32, 111, 114, 32, 97, 110, 100, 32, 110, 111, 116, 32, 98, 97, 115, 101, 32, 109, 111, 114, 101, 32, 104, 111, 117, 114, 32, 102, 114, 111, 109, 32, 116, 111, 32, 115, 116, 114, 101, 101, 116, 32], [40, 41, 59, 43, 45, 42, 60, 61]]
def strOwn (i : Nat) : String × Nat × String := match i with
  | 0 => ("HomeByAnotherWay", 75, "walk base ; carry base + more ; may 1 ;")
  | 1 => ("HomeByAnotherWay$Tape", 74, " walk carry may or and not base more hour from to street ")
  | _ => ("HomeByAnotherWay$Tape", 90, "();+-*<=")
def SF (w : CtxW) (U : State) (H : Heap) : Prop := vk_S 3 lenS bytS (wK w) (wV w) (wA w) U H ∧ (∀ i, i < 3 → vk_R (strOwn i).1 (strOwn i).2.1 (strOwn i).2.2 (wK w i) U) ∧ va_Z "java/lang/String" "COMPACT_STRINGS" "Z" (.int 1) (wA w) U H ∧ va_Zq "jdk/internal/util/Preconditions" "SIOOBE_FORMATTER" "Ljava/util/function/BiFunction;" (wA w) U H
theorem SF.moved {w : CtxW} {s U : State} {H : Heap} (hW : s.WarmedH U.vm) (h : SF w s H) : SF w U H :=
  ⟨vk_S.moved hW.alike h.1, fun i hi => vk_R.warm hW (h.2.1 i hi), va_Z.moved hW.alike h.2.2.1, va_Zq.moved hW.alike h.2.2.2⟩
theorem SF.kept {w : CtxW} {U : State} {H H1 : Heap} (h : SF w U H) (hq : ∀ a : Nat, a < H.size → ¬ wA w a → H1[a]? = H[a]?) : SF w U H1 :=
  ⟨h.1.kept hq, h.2.1, h.2.2.1.kept hq, h.2.2.2.kept hq⟩
theorem SF.same {w : CtxW} {s U : State} {H : Heap} (hv : U.vm = s.vm) (h : SF w s H) : SF w U H :=
  ⟨vk_S.moved (by rw [hv]; exact Vm.Alike.refl _) h.1, fun i hi => vk_R.same hv (h.2.1 i hi), va_Z.moved (by rw [hv]; exact Vm.Alike.refl _) h.2.2.1, va_Zq.moved (by rw [hv]; exact Vm.Alike.refl _) h.2.2.2⟩
-- contracts
def rmD (d : Nat) : Room := { frames := d, cells := 0, slots := 0, locals := 40 * d }
def PiW (w : CtxW) (M : Mem) (U : State) : Prop := va_P (wD w) vwCl (wl w M) U.heap ∧ va_K (wD w) vwCl (wtys w) U ∧ winj w ∧ SF w U U.heap
def QcD (w : CtxW) (r : Option Value × Mem) : Array Value → State → Outcome → State → Prop := fun _ st o t =>
  o = .returned r.1 ∧ va_P (wD w) vwCl (wl w r.2) t.heap ∧ va_F (wA w) st t
def Ct (l : Launch) (w : CtxW) (y : MethodName) (cc : ByteArray) (nL : Nat) (rt : Option FieldType) (d : Nat) (As : List Value) (M : Mem) (r : Option Value × Mem) : Prop :=
  Met l y (gw y cc nL rt) (rmD d) (va_Pc As (PiW w M)) (QcD w r) 0 0 (wA w)
abbrev CtxM : Type := Program × Launch × Jvm.Env × State × MethodId × Array Value × List Frame × Method × Code
abbrev yp (Y : CtxM) : Program := Y.1
abbrev yl (Y : CtxM) : Launch := Y.2.1
abbrev ye (Y : CtxM) : Jvm.Env := Y.2.2.1
abbrev ys (Y : CtxM) : State := Y.2.2.2.1
abbrev ym (Y : CtxM) : MethodId := Y.2.2.2.2.1
abbrev ya (Y : CtxM) : Array Value := Y.2.2.2.2.2.1
abbrev yb (Y : CtxM) : List Frame := Y.2.2.2.2.2.2.1
abbrev yt (Y : CtxM) : Method := Y.2.2.2.2.2.2.2.1
abbrev yc (Y : CtxM) : Code := Y.2.2.2.2.2.2.2.2
def AW (Y : CtxM) (w : CtxW) (r : Option Value × Mem) (nL d pc : Nat) (L : List (Nat × Value)) (S : List Value) (M : Mem) : Prop :=
  ∀ (H : Heap) (locs : List Loc) (ls : Array Slot), va_P (wD w) vwCl (wl w M) H → va_S (wA w) (ys Y).heap H locs → lv_has ls nL L →
    W (yp Y) (yl Y) (ye Y) (rmD d) (ys Y) (ym Y) (ya Y) (yb Y) (yt Y) (yc Y) H locs 0 0 (MQ (yb Y) (QcD w r) (ya Y) (ys Y) 0 0 (wA w)) (F0 (ym Y) pc ls S)
def EV (Y : CtxM) (w : CtxW) (cc : ByteArray) (nL : Nat) (rt : Option FieldType) (own : String) : Prop :=
  (yp Y).tables.exec = Jvm.exec ∧ (yc Y).code = cc ∧ (yc Y).maxLocals = nL ∧ (ys Y).vm.findClass own = some (ym Y).cls ∧ (∀ z ∈ gt, z.before (ya Y) (ys Y) = true) ∧
  va_K (wD w) vwCl (wtys w) (ys Y) ∧ winj w ∧ SF w (ys Y) (ys Y).heap ∧ (yt Y).sig.returnType = rt ∧ (yt Y).locks = false
theorem Ct.of {l : Launch} {w : CtxW} {y : MethodName} {cc : ByteArray} {nL : Nat} {rt : Option FieldType} {d : Nat} {As : List Value} {M : Mem} {r : Option Value × Mem} (hy : plainName y.cls = true) (hn : (lg_sl As).length ≤ nL)
    (body : ∀ Y : CtxM, yl Y = l → EV Y w cc nL rt y.cls → AW Y w r nL d 0 (lv_args 0 As) [] M) : Ct l w y cc nL rt d As M r := by
  refine Met.ofW (cc := cc) (maxL := nL) (ret := rt) hy rfl ?_
  intro p e s m args below meth c s₁ B hml hv
  obtain ⟨rfl, hP, hK, hI, hF⟩ := hv
  have hts := atoms_spec (ws := gw y cc nL rt) B.pre
  have E : EV (p, l, e, s, m, As.toArray, below, meth, c) w cc nL rt y.cls := ⟨B.exec, B.bytes, hml, findClass_of_methodNamed B.named, fun z hz => hts z (gw_gt z hz), hK, hI, hF, B.returns, B.notSynchronized⟩
  have h1 := body (p, l, e, s, m, As.toArray, below, meth, c) rfl E s.heap [] _ hP va_S.rf (lv_entry As hn)
  rw [lg_entry_eq]
  exact h1
