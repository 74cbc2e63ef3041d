/-! new int[n][k]: a row of my own for multianewarray (the narrow library has none) -/
def xm_o (c : ClassId) (N h i : Nat) : Cell := arrV c N (fun j => va_rf (if j < i then some (h + 1 + j) else none))
def xm_i (c : ClassId) (K : Nat) : Cell := arrV c K (fun _ => .int 0)
def xm (T : State) (cR cI : ClassId) (N K : Nat) : Nat → State
  | 0 => T.pushCell (xm_o cR N T.heap.size 0)
  | i + 1 => ((xm T cR cI N K i).pushCell (xm_i cI K)).setCell T.heap.size (xm_o cR N T.heap.size (i + 1))
theorem xm_o_st (c : ClassId) (N h i : Nat) : (xm_o c N h i).setSlot i (.ref (h + 1 + i)) = xm_o c N h (i + 1) := by
  unfold xm_o
  rw [arrV_store]
  refine congrArg (arrV c N) (funext fun j => ?_)
  unfold updV
  show (if j = i then Value.ref (h + 1 + i) else va_rf (if j < i then some (h + 1 + j) else none)) = va_rf (if j < i + 1 then some (h + 1 + j) else none)
  by_cases e : j = i
  · rw [if_pos e, if_pos (by omega), e]
    rfl
  · rw [if_neg e]
    by_cases h1 : j < i
    · rw [if_pos h1, if_pos (by omega)]
    · rw [if_neg h1, if_neg (by omega)]
theorem xm_o_0 (c : ClassId) (N h : Nat) : xm_o c N h 0 = ({ cls := c, slots := Array.replicate N .null, vm := .none } : Cell) := by
  rw [arrV_new]
  unfold xm_o
  refine congrArg (arrV c N) (funext fun j => ?_)
  rw [if_neg (Nat.not_lt_zero j)]
  rfl
theorem xm_i_0 (c : ClassId) (K : Nat) : xm_i c K = ({ cls := c, slots := Array.replicate K (.int 0), vm := .none } : Cell) := by
  rw [arrV_new]
  rfl
theorem xm_size (T : State) (cR cI : ClassId) (N K : Nat) : ∀ i, (xm T cR cI N K i).heap.size = T.heap.size + 1 + i
  | 0 => by simp [xm]
  | i + 1 => by
    have h := xm_size T cR cI N K i
    simp [xm, State.setCell, h]
    omega
theorem xm_out (T : State) (cR cI : ClassId) (N K : Nat) : ∀ i, (xm T cR cI N K i).heap[T.heap.size]? = some (xm_o cR N T.heap.size i)
  | 0 => by simp [xm]
  | i + 1 => by
    have h := xm_size T cR cI N K i
    have hlt : T.heap.size < (xm T cR cI N K i).heap.size := by omega
    have hb' : ((xm T cR cI N K i).pushCell (xm_i cI K)).heap[T.heap.size]? = some (xm_o cR N T.heap.size i) := by
      rw [State.heap_pushCell_of_lt (h := hlt)]
      exact xm_out T cR cI N K i
    exact State.heap_setCell_self hb'
theorem xm_vm (T : State) (cR cI : ClassId) (N K : Nat) : ∀ i, (xm T cR cI N K i).vm = T.vm
  | 0 => rfl
  | i + 1 => by simp [xm, xm_vm T cR cI N K i]
theorem xm_used (T : State) (cR cI : ClassId) (N K : Nat) : ∀ i, (xm T cR cI N K i).slotsUsed = T.slotsUsed + N + i * K
  | 0 => by simp [xm, xm_o, arrV_size]
  | i + 1 => by
    simp [xm, xm_used T cR cI N K i, xm_i, arrV_size, Nat.succ_mul]
    omega
theorem xm_top (T : State) (f : JFrame) (cR cI : ClassId) (N K : Nat) : ∀ i, xm (T.setTop f) cR cI N K i = (xm T cR cI N K i).setTop f
  | 0 => rfl
  | i + 1 => by simp only [xm, xm_top T f cR cI N K i, State.heap_setTop, State.pushCell_setTop, State.setCell_setTop]
theorem xm_old (T : State) (cR cI : ClassId) (N K : Nat) {a : Addr} (ha : a < T.heap.size) : ∀ i, (xm T cR cI N K i).heap[a]? = T.heap[a]?
  | 0 => State.heap_pushCell_of_lt _ _ ha
  | i + 1 => by
    have h := xm_size T cR cI N K i
    have hlt : a < (xm T cR cI N K i).heap.size := Nat.lt_of_lt_of_le ha (by omega)
    show (((xm T cR cI N K i).pushCell (xm_i cI K)).setCell T.heap.size _).heap[a]? = _
    rw [State.heap_setCell_other (Nat.ne_of_gt ha), State.heap_pushCell_of_lt (h := hlt)]
    exact xm_old T cR cI N K ha i
theorem xm_in (T : State) (cR cI : ClassId) (N K : Nat) : ∀ i j, j < i → (xm T cR cI N K i).heap[T.heap.size + 1 + j]? = some (xm_i cI K)
  | 0, _, h => absurd h (Nat.not_lt_zero _)
  | i + 1, j, h => by
    have hz := xm_size T cR cI N K i
    show (((xm T cR cI N K i).pushCell (xm_i cI K)).setCell T.heap.size _).heap[T.heap.size + 1 + j]? = _
    rw [State.heap_setCell_other (show T.heap.size ≠ T.heap.size + 1 + j by omega)]
    by_cases hj : j < i
    · have hlt : T.heap.size + 1 + j < (xm T cR cI N K i).heap.size := by omega
      rw [State.heap_pushCell_of_lt (h := hlt)]
      exact xm_in T cR cI N K i j hj
    · have e : j = i := by omega
      rw [e, ← hz]
      exact State.heap_pushCell_size _ _
section XM
variable {E : CtlPost} {e : Jvm.Env} {d : Bool} {acts : List Action} {s : State}
theorem xm_new {c comp : ClassId} {k : Class} {type : FieldType} {len : Nat} {init : Value} (hk : s.vm.classes[c]? = some k) (hkind : k.kind = .array comp type)
    (hl : ¬ len > e.platform.arrayLengthLimit) (hh : ¬ len * componentBytes type > e.platform.maxHeapBytes) (hfit : fits type init = true) (hdef : init.isDefault = true) {Q : Addr → Jvm.Pre}
    (h1 : s.heap.size < e.platform.maxCells) (h2 : s.slotsUsed + len ≤ e.platform.maxSlots) (hq : Q s.heap.size d acts (s.pushCell { cls := c, slots := Array.replicate len init, vm := .none })) : wp (Jvm.newArray c len init) Q E e d acts s := by
  have hfits : ∀ i v, (Array.replicate len init)[i]? = some v → s.fitsSlot c .none i v = true := fun i v hv => by
    rw [Array.getElem?_replicate] at hv
    by_cases hi : i < len
    · rw [if_pos hi] at hv
      cases hv
      simp [State.fitsSlot, State.slotType?, hk, hkind, hfit]
    · rw [if_neg hi] at hv
      cases hv
  have hda : allocActs (Array.replicate len init) s.heap.size acts = acts := by
    have hall : ((Array.replicate len init).all (·.isDefault)) = true := by
      rw [Array.all_replicate]
      split <;> simp [hdef]
    unfold allocActs
    rw [if_pos hall]
  simp only [Jvm.newArray, Jvm.arrayFits, wp_bind', W.ask, W.ite, hl, if_false, wp_pure', W.theClass, hk, hkind, hh, W.alloc, W.stop, Option.some.injEq, exists_eq_left', Array.size_replicate, hda]
  rw [if_neg (by omega)]
  exact ⟨h1, h2, hfits, hq⟩
theorem xm_make1 {cI cc : ClassId} {kI : Class} {k : Int32} (hkc : s.vm.classes[cI]? = some kI) (hkindc : kI.kind = .array cc .int) (hk : ¬ k < 0) (hl : ¬ k.toNatClampNeg > e.platform.arrayLengthLimit) (hh : ¬ k.toNatClampNeg * 4 > e.platform.maxHeapBytes)
    (h1 : s.heap.size < e.platform.maxCells) (h2 : s.slotsUsed + k.toNatClampNeg ≤ e.platform.maxSlots) {Q : Addr → Jvm.Pre} (hq : Q s.heap.size d acts (s.pushCell (xm_i cI k.toNatClampNeg))) : wp (multianewarray.make cI [k]) Q E e d acts s := by
  rw [multianewarray.make]
  simp only [wp_bind', W.ite, hk, if_false, wp_pure', W.theClass, hkc, hkindc, Option.some.injEq, exists_eq_left']
  rw [xm_i_0] at hq
  exact xm_new hkc hkindc hl hh rfl rfl h1 h2 hq
end XM
