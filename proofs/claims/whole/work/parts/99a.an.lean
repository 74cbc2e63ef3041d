/-! AN: the machine over an explicit list of cells, where cells are made. -/
abbrev CtxZ : Type := CtxM × CtxG × (Nat → Prop) × Room × (State → Prop)
abbrev zY (Z : CtxZ) : CtxM := Z.1
abbrev zg (Z : CtxZ) : CtxG := Z.2.1
abbrev zA (Z : CtxZ) : Nat → Prop := Z.2.2.1
abbrev zR (Z : CtxZ) : Room := Z.2.2.2.1
abbrev zQ (Z : CtxZ) : State → Prop := Z.2.2.2.2
abbrev gG (g : CtxG) : va_G := g.1.1
abbrev gK (g : CtxG) : Nat → Nat := g.1.2.2.1
abbrev gV (g : CtxG) : Nat → Nat := g.1.2.2.2
def tysG (g : CtxG) : List (ClassId × FieldType) := [(g.2.1, .int), (g.2.2.1, .long), (g.2.2.2.1, .object "HomeByAnotherWay$Sheet"), (g.2.2.2.2, .array .int)]
def SFA (g : CtxG) (A : Nat → Prop) (U : State) (H : Heap) : Prop := vk_S 3 lenS bytS (gK g) (gV g) A U H ∧ (∀ i, i < 3 → vk_R (strOwn i).1 (strOwn i).2.1 (strOwn i).2.2 (gK g i) U) ∧ va_Z "java/lang/String" "COMPACT_STRINGS" "Z" (.int 1) A U H ∧ va_Zq "jdk/internal/util/Preconditions" "SIOOBE_FORMATTER" "Ljava/util/function/BiFunction;" A U H
theorem SFA.moved {g : CtxG} {A : Nat → Prop} {s U : State} {H : Heap} (hW : s.WarmedH U.vm) (h : SFA g A s H) : SFA g A U H :=
  ⟨vk_S.moved hW.alike h.1, fun i hi => vk_R.warm hW (h.2.1 i hi), va_Z.moved hW.alike h.2.2.1, va_Zq.moved hW.alike h.2.2.2⟩
theorem SFA.kept {g : CtxG} {A : Nat → Prop} {U : State} {H H1 : Heap} (h : SFA g A U H) (hq : ∀ a : Nat, a < H.size → ¬ A a → H1[a]? = H[a]?) : SFA g A U H1 :=
  ⟨h.1.kept hq, h.2.1, h.2.2.1.kept hq, h.2.2.2.kept hq⟩
theorem SFA.same {g : CtxG} {A : Nat → Prop} {s U : State} {H : Heap} (hv : U.vm = s.vm) (h : SFA g A s H) : SFA g A U H :=
  ⟨vk_S.moved (by rw [hv]; exact Vm.Alike.refl _) h.1, fun i hi => vk_R.same hv (h.2.1 i hi), va_Z.moved (by rw [hv]; exact Vm.Alike.refl _) h.2.2.1, va_Zq.moved (by rw [hv]; exact Vm.Alike.refl _) h.2.2.2⟩
theorem SFA.narrow {g : CtxG} {A B : Nat → Prop} {U : State} {H : Heap} (h : SFA g A U H) (hAB : ∀ q, B q → A q) : SFA g B U H :=
  ⟨h.1.narrow hAB, h.2.1, h.2.2.1.narrow hAB, h.2.2.2.narrow hAB⟩
/-- what the making of the class needs of the tables beside the words: rows of rows, nest mates' constructors -/
def nestI : List (Nat × MethodName) := [(11, yX1_init), (24, yX3_init), (31, yX5_init), (38, yX6_init), (45, yX7_init), (52, yX0_init), (59, yX4_init), (74, yX2_init)]
def XR (g : CtxG) (U : State) : Prop := ∃ k : Class, U.vm.classes[g.2.2.2.2]? = some k ∧ k.kind = .array g.2.1 (.array .int)
theorem XR.moved {g : CtxG} {u U : State} (hvm : u.vm.Alike U.vm) (h : XR g u) : XR g U := by
  obtain ⟨k, h1, h2⟩ := h
  obtain ⟨k', hk', he⟩ := hvm.2.2 _ _ h1
  exact ⟨k', hk', by rw [he]; exact h2⟩
def EX (g : CtxG) (U : State) : Prop := XR g U ∧ va_AO "HomeByAnotherWay$Sheet" U ∧ ∀ q ∈ nestI, va_Nw (.methodLinkNest RX8 q.1 q.2 RX8) U
theorem EX.moved {g : CtxG} {s U : State} (hW : s.WarmedH U.vm) (h : EX g s) : EX g U := ⟨h.1.moved hW.alike, h.2.1.moved hW.alike, fun q hq => (h.2.2 q hq).warmM hW⟩
theorem EX.same {g : CtxG} {s U : State} (hv : U.vm = s.vm) (h : EX g s) : EX g U := by
  obtain ⟨⟨k, h1, h2⟩, h3, h4⟩ := h
  exact ⟨⟨k, by rw [hv]; exact h1, h2⟩, h3.moved (by rw [hv]; exact Vm.Alike.refl _), fun q hq => va_Nw.same rfl hv.symm (h4 q hq)⟩
def EN (Z : CtxZ) (cc : ByteArray) (nL : Nat) (own : String) : Prop :=
  (yp (zY Z)).tables.exec = Jvm.exec ∧ (yc (zY Z)).code = cc ∧ (yc (zY Z)).maxLocals = nL ∧ (ys (zY Z)).vm.findClass own = some (ym (zY Z)).cls ∧ (∀ z ∈ gt, z.before (ya (zY Z)) (ys (zY Z)) = true) ∧
  va_K (gG (zg Z)) vwCl (tysG (zg Z)) (ys (zY Z)) ∧ (∀ q, (ys (zY Z)).heap.size ≤ q → zA Z q) ∧ EX (zg Z) (ys (zY Z)) ∧ SFA (zg Z) (zA Z) (ys (zY Z)) (ys (zY Z)).heap
def AN (Z : CtxZ) (nL cs sl pc : Nat) (L : List (Nat × Value)) (S : List Value) (ws : va_W) : Prop :=
  ∀ (H : Heap) (locs : List Loc) (ls : Array Slot), va_P (gG (zg Z)) vwCl ws H → va_D (zA Z) ws → va_S (zA Z) (ys (zY Z)).heap H locs → lv_has ls nL L →
    W (yp (zY Z)) (yl (zY Z)) (ye (zY Z)) (zR Z) (ys (zY Z)) (ym (zY Z)) (ya (zY Z)) (yb (zY Z)) (yt (zY Z)) (yc (zY Z)) H locs cs sl (zQ Z) (F0 (ym (zY Z)) pc ls S)
section ANS
variable {Z : CtxZ} {nL cs sl pc : Nat} {L L1 : List (Nat × Value)} {S : List Value} {ws : va_W} {cc : ByteArray} {own : String}
theorem an_iconst (E : EN Z cc nL own) {n : Int} {v : Int32} (hd : decode cc pc = .ok (.iconst n, 1)) (hv : Int32.ofInt n = v) (k : AN Z nL cs sl (pc + 1) L (.int v :: S) ws) : AN Z nL cs sl pc L S ws := fun H locs ls hP hD hS hl => lv_iconst E.1 E.2.1 hd hv (k H locs ls hP hD hS hl)
theorem an_bipush (E : EN Z cc nL own) {n : Int} {v : Int32} (hd : decode cc pc = .ok (.bipush n, 2)) (hv : (Int8.ofInt n).toInt32 = v) (k : AN Z nL cs sl (pc + 2) L (.int v :: S) ws) : AN Z nL cs sl pc L S ws := fun H locs ls hP hD hS hl => lv_bipush E.1 E.2.1 hd hv (k H locs ls hP hD hS hl)
theorem an_sipush (E : EN Z cc nL own) {n : Int} {v : Int32} (hd : decode cc pc = .ok (.sipush n, 3)) (hv : (Int16.ofInt n).toInt32 = v) (k : AN Z nL cs sl (pc + 3) L (.int v :: S) ws) : AN Z nL cs sl pc L S ws := fun H locs ls hP hD hS hl => lv_sipush E.1 E.2.1 hd hv (k H locs ls hP hD hS hl)
theorem an_ldc (E : EN Z cc nL own) {v : Int32} {i : Nat} (hc : Cond.constant own i v ∈ gt) (hd : decode cc pc = .ok (.ldc i, 2)) (k : AN Z nL cs sl (pc + 2) L (.int v :: S) ws) : AN Z nL cs sl pc L S ws := fun H locs ls hP hD hS hl => lv_ldc E.1 E.2.1 E.2.2.2.1 (E.2.2.2.2.1 _ hc) hd (k H locs ls hP hD hS hl)
theorem an_ldcS (E : EN Z cc nL own) {i j : Nat} (hi : i < 3) (ho : (strOwn i).1 = own) (hj : (strOwn i).2.1 = j) (hd : decode cc pc = .ok (.ldc j, 2)) (k : AN Z nL cs sl (pc + 2) L (.ref (gK (zg Z) i) :: S) ws) : AN Z nL cs sl pc L S ws := by
  subst ho; subst hj
  exact fun H locs ls hP hD hS hl => va_ldcS E.1 E.2.1 E.2.2.2.1 (E.2.2.2.2.2.2.2.2.2.1 i hi) hd (k H locs ls hP hD hS hl)
theorem an_iload_n (E : EN Z cc nL own) {i : Fin 4} {x : Int32} (hd : decode cc pc = .ok (.iload_n i, 1)) (q : Nat) (hq : L[q]? = some ((i : Nat), .int x)) (k : AN Z nL cs sl (pc + 1) L (.int x :: S) ws) : AN Z nL cs sl pc L S ws := fun H locs ls hP hD hS hl => lv_iload_n E.1 E.2.1 hd rfl (lv_at hl q hq) (k H locs ls hP hD hS hl)
theorem an_aload_n (E : EN Z cc nL own) {i : Fin 4} {x : Nat} (hd : decode cc pc = .ok (.aload_n i, 1)) (q : Nat) (hq : L[q]? = some ((i : Nat), .ref x)) (k : AN Z nL cs sl (pc + 1) L (.ref x :: S) ws) : AN Z nL cs sl pc L S ws := fun H locs ls hP hD hS hl => lv_aload_n E.1 E.2.1 hd rfl (lv_at hl q hq) (k H locs ls hP hD hS hl)
theorem an_istore_n (E : EN Z cc nL own) {i : Fin 4} {x : Int32} (hd : decode cc pc = .ok (.istore_n i, 1)) (hn : (i : Nat) < nL) (hl' : ((i : Nat), Value.int x) :: L.filter (fun q => !(q.1 == (i : Nat)) && !(q.1 + 1 == (i : Nat) && q.2.category == 2)) = L1) (k : AN Z nL cs sl (pc + 1) L1 S ws) : AN Z nL cs sl pc L (.int x :: S) ws := fun H locs ls hP hD hS hl => lv_istore_n E.1 E.2.1 hd rfl hl hn hl' (fun ls' h' => k H locs ls' hP hD hS h')
theorem an_astore_n (E : EN Z cc nL own) {i : Fin 4} {x : Nat} (hd : decode cc pc = .ok (.astore_n i, 1)) (hn : (i : Nat) < nL) (hl' : ((i : Nat), Value.ref x) :: L.filter (fun q => !(q.1 == (i : Nat)) && !(q.1 + 1 == (i : Nat) && q.2.category == 2)) = L1) (k : AN Z nL cs sl (pc + 1) L1 S ws) : AN Z nL cs sl pc L (.ref x :: S) ws := fun H locs ls hP hD hS hl => lv_astore_n E.1 E.2.1 hd rfl hl hn hl' (fun ls' h' => k H locs ls' hP hD hS h')
theorem an_iinc (E : EN Z cc nL own) {i k : Nat} {n : Int} {x v : Int32} (hd : decode cc pc = .ok (.iinc i n, 3)) (hk : L[k]? = some (i, .int x)) (hv : x + Int32.ofInt n = v) (hn : i < nL) (hl' : (i, Value.int v) :: L.filter (fun q => !(q.1 == i) && !(q.1 + 1 == i && q.2.category == 2)) = L1) (kk : AN Z nL cs sl (pc + 3) L1 S ws) : AN Z nL cs sl pc L S ws := fun H locs ls hP hD hS hl => lv_iinc E.1 E.2.1 hd hl hk hv hn hl' (fun ls' h' => kk H locs ls' hP hD hS h')
theorem an_dup (E : EN Z cc nL own) {a : Value} (hd : decode cc pc = .ok (.dup, 1)) (h1 : a.category = 1) (k : AN Z nL cs sl (pc + 1) L (a :: a :: S) ws) : AN Z nL cs sl pc L (a :: S) ws := fun H locs ls hP hD hS hl => lv_dup E.1 E.2.1 hd h1 (k H locs ls hP hD hS hl)
theorem an_pop (E : EN Z cc nL own) {a : Value} (hd : decode cc pc = .ok (.pop, 1)) (h1 : a.category = 1) (k : AN Z nL cs sl (pc + 1) L S ws) : AN Z nL cs sl pc L (a :: S) ws := fun H locs ls hP hD hS hl => lv_pop E.1 E.2.1 hd h1 (k H locs ls hP hD hS hl)
theorem an_goto (E : EN Z cc nL own) {off : Int} {tgt : Nat} (hd : decode cc pc = .ok (.goto off, 3)) (ht : (pc : Int) + off = (tgt : Int)) (k : AN Z nL cs sl tgt L S ws) : AN Z nL cs sl pc L S ws := fun H locs ls hP hD hS hl => lv_goto E.1 E.2.1 hd ht (k H locs ls hP hD hS hl)
theorem an_icmp_ge (E : EN Z cc nL own) {x y : Int32} {off : Int} {tgt : Nat} (hd : decode cc pc = .ok (.if_icmp .ge off, 3)) (ht : (pc : Int) + off = (tgt : Int)) (kt : y ≤ x → AN Z nL cs sl tgt L S ws) (kf : ¬ y ≤ x → AN Z nL cs sl (pc + 3) L S ws) : AN Z nL cs sl pc L (.int y :: .int x :: S) ws := fun H locs ls hP hD hS hl => lv_icmp_ge E.1 E.2.1 hd ht (fun q => kt q H locs ls hP hD hS hl) (fun q => kf q H locs ls hP hD hS hl)
theorem an_sub (ks : List Nat) (hL : lv_pick L ks = L1) (k : AN Z nL cs sl pc L1 S ws) : AN Z nL cs sl pc L S ws := fun H locs ls hP hD hS hl => k H locs ls hP hD hS (lv_sub hl ks hL)
theorem an_world {ws' : va_W} (h : ∀ H, va_P (gG (zg Z)) vwCl ws H → va_D (zA Z) ws → va_P (gG (zg Z)) vwCl ws' H ∧ va_D (zA Z) ws') (k : AN Z nL cs sl pc L S ws') : AN Z nL cs sl pc L S ws := fun H locs ls hP hD hS hl => k H locs ls (h H hP hD).1 (h H hP hD).2 hS hl
theorem an_widen {cs' sl' : Nat} (h1 : cs ≤ cs') (h2 : sl ≤ sl') (k : AN Z nL cs' sl' pc L S ws) : AN Z nL cs sl pc L S ws := fun H locs ls hP hD hS hl => W.widen h1 h2 (k H locs ls hP hD hS hl)
end ANS
