/-! THE ABSTRACT MACHINE: a row an instruction. -/
section AWS
variable {Y : CtxM} {w : CtxW} {r : Option Value × Mem} {nL d pc : Nat} {L L1 : List (Nat × Value)} {S : List Value} {M : Mem} {cc : ByteArray} {rt : Option FieldType} {own : String}
theorem aw_iconst (E : EV Y w cc nL rt own) {n : Int} {v : Int32} (hd : decode cc pc = .ok (.iconst n, 1)) (hv : Int32.ofInt n = v) (k : AW Y w r nL d (pc + 1) L (.int v :: S) M) : AW Y w r nL d pc L (S) M := fun H locs ls hP hS hl => lv_iconst E.1 E.2.1 hd hv (k H locs ls hP hS hl)
theorem aw_bipush (E : EV Y w cc nL rt own) {n : Int} {v : Int32} (hd : decode cc pc = .ok (.bipush n, 2)) (hv : (Int8.ofInt n).toInt32 = v) (k : AW Y w r nL d (pc + 2) L (.int v :: S) M) : AW Y w r nL d pc L (S) M := fun H locs ls hP hS hl => lv_bipush E.1 E.2.1 hd hv (k H locs ls hP hS hl)
theorem aw_sipush (E : EV Y w cc nL rt own) {n : Int} {v : Int32} (hd : decode cc pc = .ok (.sipush n, 3)) (hv : (Int16.ofInt n).toInt32 = v) (k : AW Y w r nL d (pc + 3) L (.int v :: S) M) : AW Y w r nL d pc L (S) M := fun H locs ls hP hS hl => lv_sipush E.1 E.2.1 hd hv (k H locs ls hP hS hl)
theorem aw_lconst (E : EV Y w cc nL rt own) {n : Fin 2} {v : Int64} (hd : decode cc pc = .ok (.lconst n, 1)) (hv : Int64.ofNat (n : Nat) = v) (k : AW Y w r nL d (pc + 1) L (.long v :: S) M) : AW Y w r nL d pc L (S) M := fun H locs ls hP hS hl => lv_lconst E.1 E.2.1 hd hv (k H locs ls hP hS hl)
theorem aw_iload_n (E : EV Y w cc nL rt own) {i : Fin 4} {x : Int32} (hd : decode cc pc = .ok (.iload_n i, 1)) (q : Nat) (hq : L[q]? = some ((i : Nat), .int x)) (k : AW Y w r nL d (pc + 1) L (.int x :: S) M) : AW Y w r nL d pc L (S) M := fun H locs ls hP hS hl => lv_iload_n E.1 E.2.1 hd rfl (lv_at hl q hq) (k H locs ls hP hS hl)
theorem aw_iload (E : EV Y w cc nL rt own) {i : Nat} {x : Int32} (hd : decode cc pc = .ok (.iload i, 2)) (q : Nat) (hq : L[q]? = some (i, .int x)) (k : AW Y w r nL d (pc + 2) L (.int x :: S) M) : AW Y w r nL d pc L (S) M := fun H locs ls hP hS hl => lv_iload E.1 E.2.1 hd (lv_at hl q hq) (k H locs ls hP hS hl)
theorem aw_lload_n (E : EV Y w cc nL rt own) {i : Fin 4} {x : Int64} (hd : decode cc pc = .ok (.lload_n i, 1)) (q : Nat) (hq : L[q]? = some ((i : Nat), .long x)) (k : AW Y w r nL d (pc + 1) L (.long x :: S) M) : AW Y w r nL d pc L (S) M := fun H locs ls hP hS hl => lv_lload_n E.1 E.2.1 hd rfl (lv_at hl q hq) (k H locs ls hP hS hl)
theorem aw_lload (E : EV Y w cc nL rt own) {i : Nat} {x : Int64} (hd : decode cc pc = .ok (.lload i, 2)) (q : Nat) (hq : L[q]? = some (i, .long x)) (k : AW Y w r nL d (pc + 2) L (.long x :: S) M) : AW Y w r nL d pc L (S) M := fun H locs ls hP hS hl => lv_lload E.1 E.2.1 hd (lv_at hl q hq) (k H locs ls hP hS hl)
theorem aw_aload_n (E : EV Y w cc nL rt own) {i : Fin 4} {x : Nat} (hd : decode cc pc = .ok (.aload_n i, 1)) (q : Nat) (hq : L[q]? = some ((i : Nat), .ref x)) (k : AW Y w r nL d (pc + 1) L (.ref x :: S) M) : AW Y w r nL d pc L (S) M := fun H locs ls hP hS hl => lv_aload_n E.1 E.2.1 hd rfl (lv_at hl q hq) (k H locs ls hP hS hl)
theorem aw_aload (E : EV Y w cc nL rt own) {i : Nat} {x : Nat} (hd : decode cc pc = .ok (.aload i, 2)) (q : Nat) (hq : L[q]? = some (i, .ref x)) (k : AW Y w r nL d (pc + 2) L (.ref x :: S) M) : AW Y w r nL d pc L (S) M := fun H locs ls hP hS hl => lv_aload E.1 E.2.1 hd (lv_at hl q hq) (k H locs ls hP hS hl)
theorem aw_istore (E : EV Y w cc nL rt own) {i : Nat} {x : Int32} (hd : decode cc pc = .ok (.istore i, 2)) (hn : i < nL) (hL : (i, Value.int x) :: L.filter (fun q => !(q.1 == i) && !(q.1 + 1 == i && q.2.category == 2)) = L1) (k : AW Y w r nL d (pc + 2) L1 (S) M) : AW Y w r nL d pc L (.int x :: S) M := fun H locs _ hP hS hl => lv_istore E.1 E.2.1 hd hl hn hL (fun ls hl => k H locs ls hP hS hl)
theorem aw_istore_n (E : EV Y w cc nL rt own) {i : Fin 4} {x : Int32} (hd : decode cc pc = .ok (.istore_n i, 1)) (hn : (i : Nat) < nL) (hL : ((i : Nat), Value.int x) :: L.filter (fun q => !(q.1 == (i : Nat)) && !(q.1 + 1 == (i : Nat) && q.2.category == 2)) = L1) (k : AW Y w r nL d (pc + 1) L1 (S) M) : AW Y w r nL d pc L (.int x :: S) M := fun H locs _ hP hS hl => lv_istore_n E.1 E.2.1 hd rfl hl hn hL (fun ls hl => k H locs ls hP hS hl)
theorem aw_lstore (E : EV Y w cc nL rt own) {i : Nat} {x : Int64} (hd : decode cc pc = .ok (.lstore i, 2)) (hn : i + 1 < nL) (hL : (i, Value.long x) :: L.filter (fun q => !(q.1 == i) && (!(q.1 == i + 1) && !(q.1 + 1 == i && q.2.category == 2))) = L1) (k : AW Y w r nL d (pc + 2) L1 (S) M) : AW Y w r nL d pc L (.long x :: S) M := fun H locs _ hP hS hl => lv_lstore E.1 E.2.1 hd hl hn hL (fun ls hl => k H locs ls hP hS hl)
theorem aw_lstore_n (E : EV Y w cc nL rt own) {i : Fin 4} {x : Int64} (hd : decode cc pc = .ok (.lstore_n i, 1)) (hn : (i : Nat) + 1 < nL) (hL : ((i : Nat), Value.long x) :: L.filter (fun q => !(q.1 == (i : Nat)) && (!(q.1 == (i : Nat) + 1) && !(q.1 + 1 == (i : Nat) && q.2.category == 2))) = L1) (k : AW Y w r nL d (pc + 1) L1 (S) M) : AW Y w r nL d pc L (.long x :: S) M := fun H locs _ hP hS hl => lv_lstore_n E.1 E.2.1 hd rfl hl hn hL (fun ls hl => k H locs ls hP hS hl)
theorem aw_astore (E : EV Y w cc nL rt own) {i : Nat} {x : Nat} (hd : decode cc pc = .ok (.astore i, 2)) (hn : i < nL) (hL : (i, Value.ref x) :: L.filter (fun q => !(q.1 == i) && !(q.1 + 1 == i && q.2.category == 2)) = L1) (k : AW Y w r nL d (pc + 2) L1 (S) M) : AW Y w r nL d pc L (.ref x :: S) M := fun H locs _ hP hS hl => lv_astore E.1 E.2.1 hd hl hn hL (fun ls hl => k H locs ls hP hS hl)
theorem aw_astore_n (E : EV Y w cc nL rt own) {i : Fin 4} {x : Nat} (hd : decode cc pc = .ok (.astore_n i, 1)) (hn : (i : Nat) < nL) (hL : ((i : Nat), Value.ref x) :: L.filter (fun q => !(q.1 == (i : Nat)) && !(q.1 + 1 == (i : Nat) && q.2.category == 2)) = L1) (k : AW Y w r nL d (pc + 1) L1 (S) M) : AW Y w r nL d pc L (.ref x :: S) M := fun H locs _ hP hS hl => lv_astore_n E.1 E.2.1 hd rfl hl hn hL (fun ls hl => k H locs ls hP hS hl)
theorem aw_iinc (E : EV Y w cc nL rt own) {i : Nat} {n : Int} {x v : Int32} (hd : decode cc pc = .ok (.iinc i n, 3)) (q : Nat) (hq : L[q]? = some (i, .int x)) (hv : x + Int32.ofInt n = v) (hn : i < nL) (hL : (i, Value.int v) :: L.filter (fun q => !(q.1 == i) && !(q.1 + 1 == i && q.2.category == 2)) = L1) (k : AW Y w r nL d (pc + 3) L1 (S) M) : AW Y w r nL d pc L (S) M := fun H locs _ hP hS hl => lv_iinc E.1 E.2.1 hd hl hq hv hn hL (fun ls hl => k H locs ls hP hS hl)
theorem aw_iadd (E : EV Y w cc nL rt own) {x y : Int32} (hd : decode cc pc = .ok (.iadd, 1))  (k : AW Y w r nL d (pc + 1) L (.int (x + y) :: S) M) : AW Y w r nL d pc L (.int y :: .int x :: S) M := fun H locs ls hP hS hl => lv_iadd E.1 E.2.1 hd  (k H locs ls hP hS hl)
theorem aw_isub (E : EV Y w cc nL rt own) {x y : Int32} (hd : decode cc pc = .ok (.isub, 1))  (k : AW Y w r nL d (pc + 1) L (.int (x - y) :: S) M) : AW Y w r nL d pc L (.int y :: .int x :: S) M := fun H locs ls hP hS hl => lv_isub E.1 E.2.1 hd  (k H locs ls hP hS hl)
theorem aw_imul (E : EV Y w cc nL rt own) {x y : Int32} (hd : decode cc pc = .ok (.imul, 1))  (k : AW Y w r nL d (pc + 1) L (.int (x * y) :: S) M) : AW Y w r nL d pc L (.int y :: .int x :: S) M := fun H locs ls hP hS hl => lv_imul E.1 E.2.1 hd  (k H locs ls hP hS hl)
theorem aw_iand (E : EV Y w cc nL rt own) {x y : Int32} (hd : decode cc pc = .ok (.iand, 1))  (k : AW Y w r nL d (pc + 1) L (.int (x &&& y) :: S) M) : AW Y w r nL d pc L (.int y :: .int x :: S) M := fun H locs ls hP hS hl => lv_iand E.1 E.2.1 hd  (k H locs ls hP hS hl)
theorem aw_ior (E : EV Y w cc nL rt own) {x y : Int32} (hd : decode cc pc = .ok (.ior, 1))  (k : AW Y w r nL d (pc + 1) L (.int (x ||| y) :: S) M) : AW Y w r nL d pc L (.int y :: .int x :: S) M := fun H locs ls hP hS hl => lv_ior E.1 E.2.1 hd  (k H locs ls hP hS hl)
theorem aw_ixor (E : EV Y w cc nL rt own) {x y : Int32} (hd : decode cc pc = .ok (.ixor, 1))  (k : AW Y w r nL d (pc + 1) L (.int (x ^^^ y) :: S) M) : AW Y w r nL d pc L (.int y :: .int x :: S) M := fun H locs ls hP hS hl => lv_ixor E.1 E.2.1 hd  (k H locs ls hP hS hl)
theorem aw_ishl (E : EV Y w cc nL rt own) {x y : Int32} (hd : decode cc pc = .ok (.ishl, 1))  (k : AW Y w r nL d (pc + 1) L (.int (x <<< (y &&& 31)) :: S) M) : AW Y w r nL d pc L (.int y :: .int x :: S) M := fun H locs ls hP hS hl => lv_ishl E.1 E.2.1 hd  (k H locs ls hP hS hl)
theorem aw_ishr (E : EV Y w cc nL rt own) {x y : Int32} (hd : decode cc pc = .ok (.ishr, 1))  (k : AW Y w r nL d (pc + 1) L (.int (x >>> (y &&& 31)) :: S) M) : AW Y w r nL d pc L (.int y :: .int x :: S) M := fun H locs ls hP hS hl => lv_ishr E.1 E.2.1 hd  (k H locs ls hP hS hl)
theorem aw_idiv (E : EV Y w cc nL rt own) {x y : Int32} (hd : decode cc pc = .ok (.idiv, 1)) (hne : ¬ y = 0) (k : AW Y w r nL d (pc + 1) L (.int (x / y) :: S) M) : AW Y w r nL d pc L (.int y :: .int x :: S) M := fun H locs ls hP hS hl => lv_idiv E.1 E.2.1 hd hne (k H locs ls hP hS hl)
theorem aw_irem (E : EV Y w cc nL rt own) {x y : Int32} (hd : decode cc pc = .ok (.irem, 1)) (hne : ¬ y = 0) (k : AW Y w r nL d (pc + 1) L (.int (x - x / y * y) :: S) M) : AW Y w r nL d pc L (.int y :: .int x :: S) M := fun H locs ls hP hS hl => lv_irem E.1 E.2.1 hd hne (k H locs ls hP hS hl)
theorem aw_ineg (E : EV Y w cc nL rt own) {x : Int32} (hd : decode cc pc = .ok (.ineg, 1))  (k : AW Y w r nL d (pc + 1) L (.int (-x) :: S) M) : AW Y w r nL d pc L (.int x :: S) M := fun H locs ls hP hS hl => lv_ineg E.1 E.2.1 hd  (k H locs ls hP hS hl)
theorem aw_iushr (E : EV Y w cc nL rt own) {x y v : Int32} (hd : decode cc pc = .ok (.iushr, 1)) (hv : (x.toUInt32 >>> (y.toUInt32 &&& Int32.toUInt32 31)).toInt32 = v) (k : AW Y w r nL d (pc + 1) L (.int v :: S) M) : AW Y w r nL d pc L (.int y :: .int x :: S) M := fun H locs ls hP hS hl => lv_iushr E.1 E.2.1 hd hv (k H locs ls hP hS hl)
theorem aw_ladd (E : EV Y w cc nL rt own) {x y : Int64} (hd : decode cc pc = .ok (.ladd, 1))  (k : AW Y w r nL d (pc + 1) L (.long (x + y) :: S) M) : AW Y w r nL d pc L (.long y :: .long x :: S) M := fun H locs ls hP hS hl => lv_ladd E.1 E.2.1 hd  (k H locs ls hP hS hl)
theorem aw_lmul (E : EV Y w cc nL rt own) {x y : Int64} (hd : decode cc pc = .ok (.lmul, 1))  (k : AW Y w r nL d (pc + 1) L (.long (x * y) :: S) M) : AW Y w r nL d pc L (.long y :: .long x :: S) M := fun H locs ls hP hS hl => lv_lmul E.1 E.2.1 hd  (k H locs ls hP hS hl)
theorem aw_ldiv (E : EV Y w cc nL rt own) {x y : Int64} (hd : decode cc pc = .ok (.ldiv, 1)) (hne : ¬ y = 0) (k : AW Y w r nL d (pc + 1) L (.long (x / y) :: S) M) : AW Y w r nL d pc L (.long y :: .long x :: S) M := fun H locs ls hP hS hl => lv_ldiv E.1 E.2.1 hd hne (k H locs ls hP hS hl)
theorem aw_lrem (E : EV Y w cc nL rt own) {x y : Int64} (hd : decode cc pc = .ok (.lrem, 1)) (hne : ¬ y = 0) (k : AW Y w r nL d (pc + 1) L (.long (x - x / y * y) :: S) M) : AW Y w r nL d pc L (.long y :: .long x :: S) M := fun H locs ls hP hS hl => lv_lrem E.1 E.2.1 hd hne (k H locs ls hP hS hl)
theorem aw_lshl (E : EV Y w cc nL rt own) {x v : Int64} {y : Int32} (hd : decode cc pc = .ok (.lshl, 1)) (hv : x <<< (y.toInt64 &&& 63) = v) (k : AW Y w r nL d (pc + 1) L (.long v :: S) M) : AW Y w r nL d pc L (.int y :: .long x :: S) M := fun H locs ls hP hS hl => lv_lshl E.1 E.2.1 hd hv (k H locs ls hP hS hl)
theorem aw_lushr (E : EV Y w cc nL rt own) {x v : Int64} {y : Int32} (hd : decode cc pc = .ok (.lushr, 1)) (hv : (x.toUInt64 >>> (y.toInt64.toUInt64 &&& Int64.toUInt64 63)).toInt64 = v) (k : AW Y w r nL d (pc + 1) L (.long v :: S) M) : AW Y w r nL d pc L (.int y :: .long x :: S) M := fun H locs ls hP hS hl => lv_lushr E.1 E.2.1 hd hv (k H locs ls hP hS hl)
theorem aw_i2l (E : EV Y w cc nL rt own) {x : Int32} (hd : decode cc pc = .ok (.i2l, 1))  (k : AW Y w r nL d (pc + 1) L (.long x.toInt64 :: S) M) : AW Y w r nL d pc L (.int x :: S) M := fun H locs ls hP hS hl => lv_i2l E.1 E.2.1 hd rfl (k H locs ls hP hS hl)
theorem aw_l2i (E : EV Y w cc nL rt own) {x : Int64} (hd : decode cc pc = .ok (.l2i, 1))  (k : AW Y w r nL d (pc + 1) L (.int x.toInt32 :: S) M) : AW Y w r nL d pc L (.long x :: S) M := fun H locs ls hP hS hl => lv_l2i E.1 E.2.1 hd rfl (k H locs ls hP hS hl)
theorem aw_i2b (E : EV Y w cc nL rt own) {x : Int32} (hd : decode cc pc = .ok (.i2b, 1))  (k : AW Y w r nL d (pc + 1) L (.int x.toInt8.toInt32 :: S) M) : AW Y w r nL d pc L (.int x :: S) M := fun H locs ls hP hS hl => lv_i2b E.1 E.2.1 hd rfl (k H locs ls hP hS hl)
theorem aw_i2s (E : EV Y w cc nL rt own) {x : Int32} (hd : decode cc pc = .ok (.i2s, 1))  (k : AW Y w r nL d (pc + 1) L (.int x.toInt16.toInt32 :: S) M) : AW Y w r nL d pc L (.int x :: S) M := fun H locs ls hP hS hl => lv_i2s E.1 E.2.1 hd rfl (k H locs ls hP hS hl)
theorem aw_lcmp (E : EV Y w cc nL rt own) {x y : Int64} (hd : decode cc pc = .ok (.lcmp, 1))  (k : AW Y w r nL d (pc + 1) L (.int (lg_cmp x y) :: S) M) : AW Y w r nL d pc L (.long y :: .long x :: S) M := fun H locs ls hP hS hl => W.lcmp E.1 E.2.1 hd  (k H locs ls hP hS hl)
theorem aw_dup (E : EV Y w cc nL rt own) {a : Value} (hd : decode cc pc = .ok (.dup, 1)) (h1 : a.category = 1) (k : AW Y w r nL d (pc + 1) L (a :: a :: S) M) : AW Y w r nL d pc L (a :: S) M := fun H locs ls hP hS hl => lv_dup E.1 E.2.1 hd h1 (k H locs ls hP hS hl)
theorem aw_pop (E : EV Y w cc nL rt own) {a : Value} (hd : decode cc pc = .ok (.pop, 1)) (h1 : a.category = 1) (k : AW Y w r nL d (pc + 1) L (S) M) : AW Y w r nL d pc L (a :: S) M := fun H locs ls hP hS hl => lv_pop E.1 E.2.1 hd h1 (k H locs ls hP hS hl)
theorem aw_dup_x1 (E : EV Y w cc nL rt own) {a b : Value} (hd : decode cc pc = .ok (.dup_x1, 1)) (h1 : a.category = 1) (h2 : b.category = 1) (k : AW Y w r nL d (pc + 1) L (a :: b :: a :: S) M) : AW Y w r nL d pc L (a :: b :: S) M := fun H locs ls hP hS hl => lv_dup_x1 E.1 E.2.1 hd h1 h2 (k H locs ls hP hS hl)
theorem aw_dup2 (E : EV Y w cc nL rt own) {a b : Value} (hd : decode cc pc = .ok (.dup2, 1)) (h1 : a.category = 1) (h2 : b.category = 1) (k : AW Y w r nL d (pc + 1) L (a :: b :: a :: b :: S) M) : AW Y w r nL d pc L (a :: b :: S) M := fun H locs ls hP hS hl => lv_dup2_11 E.1 E.2.1 hd h1 h2 (k H locs ls hP hS hl)
theorem aw_if_eq (E : EV Y w cc nL rt own) {x : Int32} {off : Int} {tgt : Nat} (hd : decode cc pc = .ok (.ifCond .eq off, 3)) (ht : (pc : Int) + off = (tgt : Int)) (kt : x = 0 → AW Y w r nL d tgt L (S) M) (kf : ¬ x = 0 → AW Y w r nL d (pc + 3) L (S) M) : AW Y w r nL d pc L (.int x :: S) M := fun H locs ls hP hS hl => lv_if_eq E.1 E.2.1 hd ht (fun c => kt c H locs ls hP hS hl) (fun c => kf c H locs ls hP hS hl)
theorem aw_icmp_eq (E : EV Y w cc nL rt own) {x y : Int32} {off : Int} {tgt : Nat} (hd : decode cc pc = .ok (.if_icmp .eq off, 3)) (ht : (pc : Int) + off = (tgt : Int)) (kt : x = y → AW Y w r nL d tgt L (S) M) (kf : ¬ x = y → AW Y w r nL d (pc + 3) L (S) M) : AW Y w r nL d pc L (.int y :: .int x :: S) M := fun H locs ls hP hS hl => lv_icmp_eq E.1 E.2.1 hd ht (fun c => kt c H locs ls hP hS hl) (fun c => kf c H locs ls hP hS hl)
theorem aw_if_ne (E : EV Y w cc nL rt own) {x : Int32} {off : Int} {tgt : Nat} (hd : decode cc pc = .ok (.ifCond .ne off, 3)) (ht : (pc : Int) + off = (tgt : Int)) (kt : ¬ x = 0 → AW Y w r nL d tgt L (S) M) (kf : x = 0 → AW Y w r nL d (pc + 3) L (S) M) : AW Y w r nL d pc L (.int x :: S) M := fun H locs ls hP hS hl => lv_if_ne E.1 E.2.1 hd ht (fun c => kt c H locs ls hP hS hl) (fun c => kf c H locs ls hP hS hl)
theorem aw_icmp_ne (E : EV Y w cc nL rt own) {x y : Int32} {off : Int} {tgt : Nat} (hd : decode cc pc = .ok (.if_icmp .ne off, 3)) (ht : (pc : Int) + off = (tgt : Int)) (kt : ¬ x = y → AW Y w r nL d tgt L (S) M) (kf : x = y → AW Y w r nL d (pc + 3) L (S) M) : AW Y w r nL d pc L (.int y :: .int x :: S) M := fun H locs ls hP hS hl => lv_icmp_ne E.1 E.2.1 hd ht (fun c => kt c H locs ls hP hS hl) (fun c => kf c H locs ls hP hS hl)
theorem aw_if_lt (E : EV Y w cc nL rt own) {x : Int32} {off : Int} {tgt : Nat} (hd : decode cc pc = .ok (.ifCond .lt off, 3)) (ht : (pc : Int) + off = (tgt : Int)) (kt : x < 0 → AW Y w r nL d tgt L (S) M) (kf : ¬ x < 0 → AW Y w r nL d (pc + 3) L (S) M) : AW Y w r nL d pc L (.int x :: S) M := fun H locs ls hP hS hl => lv_if_lt E.1 E.2.1 hd ht (fun c => kt c H locs ls hP hS hl) (fun c => kf c H locs ls hP hS hl)
theorem aw_icmp_lt (E : EV Y w cc nL rt own) {x y : Int32} {off : Int} {tgt : Nat} (hd : decode cc pc = .ok (.if_icmp .lt off, 3)) (ht : (pc : Int) + off = (tgt : Int)) (kt : x < y → AW Y w r nL d tgt L (S) M) (kf : ¬ x < y → AW Y w r nL d (pc + 3) L (S) M) : AW Y w r nL d pc L (.int y :: .int x :: S) M := fun H locs ls hP hS hl => lv_icmp_lt E.1 E.2.1 hd ht (fun c => kt c H locs ls hP hS hl) (fun c => kf c H locs ls hP hS hl)
theorem aw_if_ge (E : EV Y w cc nL rt own) {x : Int32} {off : Int} {tgt : Nat} (hd : decode cc pc = .ok (.ifCond .ge off, 3)) (ht : (pc : Int) + off = (tgt : Int)) (kt : 0 ≤ x → AW Y w r nL d tgt L (S) M) (kf : ¬ 0 ≤ x → AW Y w r nL d (pc + 3) L (S) M) : AW Y w r nL d pc L (.int x :: S) M := fun H locs ls hP hS hl => lv_if_ge E.1 E.2.1 hd ht (fun c => kt c H locs ls hP hS hl) (fun c => kf c H locs ls hP hS hl)
theorem aw_icmp_ge (E : EV Y w cc nL rt own) {x y : Int32} {off : Int} {tgt : Nat} (hd : decode cc pc = .ok (.if_icmp .ge off, 3)) (ht : (pc : Int) + off = (tgt : Int)) (kt : y ≤ x → AW Y w r nL d tgt L (S) M) (kf : ¬ y ≤ x → AW Y w r nL d (pc + 3) L (S) M) : AW Y w r nL d pc L (.int y :: .int x :: S) M := fun H locs ls hP hS hl => lv_icmp_ge E.1 E.2.1 hd ht (fun c => kt c H locs ls hP hS hl) (fun c => kf c H locs ls hP hS hl)
theorem aw_if_gt (E : EV Y w cc nL rt own) {x : Int32} {off : Int} {tgt : Nat} (hd : decode cc pc = .ok (.ifCond .gt off, 3)) (ht : (pc : Int) + off = (tgt : Int)) (kt : 0 < x → AW Y w r nL d tgt L (S) M) (kf : ¬ 0 < x → AW Y w r nL d (pc + 3) L (S) M) : AW Y w r nL d pc L (.int x :: S) M := fun H locs ls hP hS hl => lv_if_gt E.1 E.2.1 hd ht (fun c => kt c H locs ls hP hS hl) (fun c => kf c H locs ls hP hS hl)
theorem aw_icmp_gt (E : EV Y w cc nL rt own) {x y : Int32} {off : Int} {tgt : Nat} (hd : decode cc pc = .ok (.if_icmp .gt off, 3)) (ht : (pc : Int) + off = (tgt : Int)) (kt : y < x → AW Y w r nL d tgt L (S) M) (kf : ¬ y < x → AW Y w r nL d (pc + 3) L (S) M) : AW Y w r nL d pc L (.int y :: .int x :: S) M := fun H locs ls hP hS hl => lv_icmp_gt E.1 E.2.1 hd ht (fun c => kt c H locs ls hP hS hl) (fun c => kf c H locs ls hP hS hl)
theorem aw_if_le (E : EV Y w cc nL rt own) {x : Int32} {off : Int} {tgt : Nat} (hd : decode cc pc = .ok (.ifCond .le off, 3)) (ht : (pc : Int) + off = (tgt : Int)) (kt : x ≤ 0 → AW Y w r nL d tgt L (S) M) (kf : ¬ x ≤ 0 → AW Y w r nL d (pc + 3) L (S) M) : AW Y w r nL d pc L (.int x :: S) M := fun H locs ls hP hS hl => lv_if_le E.1 E.2.1 hd ht (fun c => kt c H locs ls hP hS hl) (fun c => kf c H locs ls hP hS hl)
theorem aw_icmp_le (E : EV Y w cc nL rt own) {x y : Int32} {off : Int} {tgt : Nat} (hd : decode cc pc = .ok (.if_icmp .le off, 3)) (ht : (pc : Int) + off = (tgt : Int)) (kt : x ≤ y → AW Y w r nL d tgt L (S) M) (kf : ¬ x ≤ y → AW Y w r nL d (pc + 3) L (S) M) : AW Y w r nL d pc L (.int y :: .int x :: S) M := fun H locs ls hP hS hl => lv_icmp_le E.1 E.2.1 hd ht (fun c => kt c H locs ls hP hS hl) (fun c => kf c H locs ls hP hS hl)
theorem aw_goto (E : EV Y w cc nL rt own) {off : Int} {tgt : Nat} (hd : decode cc pc = .ok (.goto off, 3)) (ht : (pc : Int) + off = (tgt : Int)) (k : AW Y w r nL d tgt L (S) M) : AW Y w r nL d pc L (S) M := fun H locs ls hP hS hl => lv_goto E.1 E.2.1 hd ht (k H locs ls hP hS hl)
theorem aw_tout (E : EV Y w cc nL rt own) {x : Int32} {dflt lo hi : Int} {offs : Array Int} {len tgt : Nat} (hd : decode cc pc = .ok (.tableswitch dflt lo hi offs, len)) (h : x.toInt < lo ∨ hi < x.toInt) (ht : (pc : Int) + dflt = (tgt : Int)) (k : AW Y w r nL d tgt L (S) M) : AW Y w r nL d pc L (.int x :: S) M := fun H locs ls hP hS hl => lv_tableOut E.1 E.2.1 hd h ht (k H locs ls hP hS hl)
theorem aw_tin (E : EV Y w cc nL rt own) {x : Int32} {dflt lo hi off : Int} {offs : Array Int} {len tgt : Nat} (hd : decode cc pc = .ok (.tableswitch dflt lo hi offs, len)) (h1 : ¬ x.toInt < lo) (h2 : ¬ hi < x.toInt) (ho : offs[(x.toInt - lo).toNat]? = some off) (ht : (pc : Int) + off = (tgt : Int)) (k : AW Y w r nL d tgt L (S) M) : AW Y w r nL d pc L (.int x :: S) M := fun H locs ls hP hS hl => lv_tableIn E.1 E.2.1 hd h1 h2 ho ht (k H locs ls hP hS hl)
theorem aw_look (E : EV Y w cc nL rt own) {x : Int32} {dflt off : Int} {ps : Array (Int × Int)} {len tgt : Nat} (hd : decode cc pc = .ok (.lookupswitch dflt ps, len)) (hp : (ps.toList.zip (ps.toList.drop 1)).all (fun (a, next) => a.1 < next.1) = true) (ho : Op.lookupswitch.offset ps.toList dflt x.toInt = off) (ht : (pc : Int) + off = (tgt : Int)) (k : AW Y w r nL d tgt L (S) M) : AW Y w r nL d pc L (.int x :: S) M := fun H locs ls hP hS hl => lv_lookup E.1 E.2.1 hd hp ho ht (k H locs ls hP hS hl)
theorem aw_sub (ks : List Nat) (hL : lv_pick L ks = L1) (k : AW Y w r nL d pc L1 (S) M) : AW Y w r nL d pc L (S) M := fun H locs ls hP hS hl => k H locs ls hP hS (lv_sub hl ks hL)
theorem aw_ldc (E : EV Y w cc nL rt own) {v : Int32} {i : Nat} (hc : Cond.constant own i v ∈ gt) (hd : decode cc pc = .ok (.ldc i, 2)) (k : AW Y w r nL d (pc + 2) L (.int v :: S) M) : AW Y w r nL d pc L (S) M := fun H locs ls hP hS hl => lv_ldc E.1 E.2.1 E.2.2.2.1 (E.2.2.2.2.1 _ hc) hd (k H locs ls hP hS hl)
theorem aw_ldcw (E : EV Y w cc nL rt own) {v : Int32} {i : Nat} (hc : Cond.constant own i v ∈ gt) (hd : decode cc pc = .ok (.ldc_w i, 3)) (k : AW Y w r nL d (pc + 3) L (.int v :: S) M) : AW Y w r nL d pc L (S) M := fun H locs ls hP hS hl => lv_ldcw E.1 E.2.1 E.2.2.2.1 (E.2.2.2.2.1 _ hc) hd (k H locs ls hP hS hl)
theorem aw_ldc2 (E : EV Y w cc nL rt own) {v : Int64} {i : Nat} (hc : Cond.constantLong own i v ∈ gt) (hd : decode cc pc = .ok (.ldc2_w i, 3)) (k : AW Y w r nL d (pc + 3) L (.long v :: S) M) : AW Y w r nL d pc L (S) M := fun H locs ls hP hS hl => lv_ldc2 E.1 E.2.1 E.2.2.2.1 (E.2.2.2.2.1 _ hc) hd (k H locs ls hP hS hl)
theorem aw_ldcS (E : EV Y w cc nL rt own) {i j : Nat} (hi : i < 3) (ho : (strOwn i).1 = own) (hj : (strOwn i).2.1 = j) (hd : decode cc pc = .ok (.ldc j, 2)) (k : AW Y w r nL d (pc + 2) L (.ref (wK w i) :: S) M) : AW Y w r nL d pc L (S) M := by
  subst ho; subst hj
  exact fun H locs ls hP hS hl => va_ldcS E.1 E.2.1 E.2.2.2.1 (E.2.2.2.2.2.2.2.1.2.1 i hi) hd (k H locs ls hP hS hl)
-- fields
def FL (own : String) (idx ci j : Nat) (fin : Bool) (ty : FieldType) : Prop := ∃ (C : String) (T : u_T) (n : Nat) (tyf : Nat → FieldType), vwCl[ci]? = some (C, T, n) ∧ (∀ z ∈ u_ws C T n, z ∈ gt) ∧ j < n ∧ Cond.fieldLink own idx (T j).1 (T j).2.1 (T j).2.2.1 ∈ gt ∧ (T j).2.2.2 = fin ∧
  (∀ k, k < n → parseFieldDescriptor (T k).2.2.1 = some (tyf k)) ∧ (∀ a, a < n → ∀ b, b < n → a ≠ b → (T a).2.1 ≠ (T b).2.1) ∧ parseFieldDescriptor (T j).2.2.1 = some ty
theorem aw_getI (E : EV Y w cc nL rt own) {idx ci j b : Nat} {fin : Bool} {ty : FieldType} {fl : List (Option Nat)} (F : FL own idx ci j fin ty) {k : Nat} (hk : k < wN w) (hs : wsh w k = (0, ci, b, fl)) (hf : fl[j]? = some none) (hd : decode cc pc = .ok (.getfield idx, 3))
    (kk : AW Y w r nL d (pc + 3) L (.int (M.1 k j) :: S) M) : AW Y w r nL d pc L (.ref (wad w k) :: S) M := by
  obtain ⟨C, T, n, tyf, hc, hin, hj, hlk, -⟩ := F
  refine fun H locs ls hP hS hl => ?_
  have he : (wl w M)[k]? = some (wad w k, .inr (ci, flv (wad w) (M.1 k) 0 fl)) := by
    rw [wl_get hk]
    unfold wen
    rw [hs]
    rfl
  have hv : (flv (wad w) (M.1 k) 0 fl)[j]? = some (.int (M.1 k j)) := by rw [flv_int fl 0 j hf, Nat.zero_add]
  exact va_get E.1 E.2.1 E.2.2.2.2.1 hin E.2.2.2.1 E.2.2.2.2.2.1 hP k he hc j hj (E.2.2.2.2.1 _ hlk) (fun _ h => h) hv hd (kk H locs ls hP hS hl)
theorem aw_getR (E : EV Y w cc nL rt own) {idx ci j b q : Nat} {fin : Bool} {ty : FieldType} {fl : List (Option Nat)} (F : FL own idx ci j fin ty) {k : Nat} (hk : k < wN w) (hs : wsh w k = (0, ci, b, fl)) (hf : fl[j]? = some (some q)) (hd : decode cc pc = .ok (.getfield idx, 3))
    (kk : AW Y w r nL d (pc + 3) L (.ref (wad w q) :: S) M) : AW Y w r nL d pc L (.ref (wad w k) :: S) M := by
  obtain ⟨C, T, n, tyf, hc, hin, hj, hlk, -⟩ := F
  refine fun H locs ls hP hS hl => ?_
  have he : (wl w M)[k]? = some (wad w k, .inr (ci, flv (wad w) (M.1 k) 0 fl)) := by
    rw [wl_get hk]
    unfold wen
    rw [hs]
    rfl
  exact va_get E.1 E.2.1 E.2.2.2.2.1 hin E.2.2.2.1 E.2.2.2.2.2.1 hP k he hc j hj (E.2.2.2.2.1 _ hlk) (fun _ h => h) (flv_ref fl 0 j q hf) hd (kk H locs ls hP hS hl)
theorem aw_putI (E : EV Y w cc nL rt own) {idx ci j b : Nat} {ty : FieldType} {fl : List (Option Nat)} (F : FL own idx ci j false ty) {k : Nat} (hk : k < wN w) (hs : wsh w k = (0, ci, b, fl)) (hf : fl[j]? = some none) {v : Int32} (hn : narrow ty (.int v) = .int v ∧ fits ty (.int v) = true) (hd : decode cc pc = .ok (.putfield idx, 3))
    (kk : AW Y w r nL d (pc + 3) L S (wr M k j v)) : AW Y w r nL d pc L (.int v :: .ref (wad w k) :: S) M := by
  obtain ⟨C, T, n, tyf, hc, hin, hj, hlk, hfin, hty, hnm, hd1⟩ := F
  refine fun H locs ls hP hS hl => ?_
  have he : (wl w M)[k]? = some (wad w k, .inr (ci, flv (wad w) (M.1 k) 0 fl)) := by
    rw [wl_get hk]
    unfold wen
    rw [hs]
    rfl
  have hset : (wl w M).set k (wad w k, .inr (ci, (flv (wad w) (M.1 k) 0 fl).set j (.int v))) = wl w (wr M k j v) := by
    refine wl_set hk (fun k' h => setC_ne M _ h) (fun _ _ => rfl) ?_
    unfold wen
    rw [hs]
    simp only [wr, setC_eq]
    rw [flv_set fl 0 j hf, Nat.zero_add]
  have hjl : j < fl.length := (List.getElem?_eq_some_iff.mp hf).1
  refine va_put E.1 E.2.1 E.2.2.2.2.1 hin tyf hty hnm E.2.2.2.1 E.2.2.2.2.2.1 hP (wl_D E.2.2.2.2.2.2.1) hS k he hc j hj (E.2.2.2.2.1 _ hlk) (fun _ h => h) hfin hd1 hn.1 hn.2 (by rw [flv_len]; exact hjl) hd (fun H1 locs1 hP1 _ hS1 => ?_)
  rw [hset] at hP1
  exact kk H1 locs1 ls hP1 hS1 hl
theorem nr_int {v : Int32} : narrow .int (.int v) = .int v ∧ fits .int (.int v) = true := ⟨rfl, rfl⟩
theorem nr_bool {v : Int32} (h : v = 0 ∨ v = 1) : narrow .boolean (.int v) = .int v ∧ fits .boolean (.int v) = true := by
  rcases h with rfl | rfl <;> exact ⟨rfl, rfl⟩
-- arrays
theorem aw_alen (E : EV Y w cc nL rt own) {k n b : Nat} {fl : List (Option Nat)} {v : Int32} (hk : k < wN w) (hs : wsh w k = (1, n, b, fl)) (hv : Int32.ofNat n = v) (hd : decode cc pc = .ok (.arraylength, 1))
    (kk : AW Y w r nL d (pc + 1) L (.int v :: S) M) : AW Y w r nL d pc L (.ref (wad w k) :: S) M := by
  refine fun H locs ls hP hS hl => ?_
  have he : (wl w M)[k]? = some (wad w k, .inl (wcI w, n, .inl (M.1 k))) := by
    rw [wl_get hk]
    unfold wen
    rw [hs]
    rfl
  exact va_alen E.1 E.2.1 E.2.2.2.2.2.1 hP k 0 he (ty := .int) rfl hv hd (kk H locs ls hP hS hl)
theorem aw_iald (E : EV Y w cc nL rt own) {k n b : Nat} {fl : List (Option Nat)} {i : Int32} (hk : k < wN w) (hs : wsh w k = (1, n, b, fl)) (hin : vp_in i n) (hd : decode cc pc = .ok (.iaload, 1))
    (kk : AW Y w r nL d (pc + 1) L (.int (M.1 k i.toNatClampNeg) :: S) M) : AW Y w r nL d pc L (.int i :: .ref (wad w k) :: S) M := by
  refine fun H locs ls hP hS hl => ?_
  have he : (wl w M)[k]? = some (wad w k, .inl (wcI w, n, .inl (M.1 k))) := by
    rw [wl_get hk]
    unfold wen
    rw [hs]
    rfl
  exact va_iald E.1 E.2.1 E.2.2.2.2.2.1 hP k 0 he rfl hin hd (kk H locs ls hP hS hl)
theorem aw_lald (E : EV Y w cc nL rt own) {k n b : Nat} {fl : List (Option Nat)} {i : Int32} (hk : k < wN w) (hs : wsh w k = (2, n, b, fl)) (hin : vp_in i n) (hd : decode cc pc = .ok (.laload, 1))
    (kk : AW Y w r nL d (pc + 1) L (.long (M.2 k i.toNatClampNeg) :: S) M) : AW Y w r nL d pc L (.int i :: .ref (wad w k) :: S) M := by
  refine fun H locs ls hP hS hl => ?_
  have he : (wl w M)[k]? = some (wad w k, .inl (wcJ w, n, .inr (.inl (M.2 k)))) := by
    rw [wl_get hk]
    unfold wen
    rw [hs]
    rfl
  exact va_lald E.1 E.2.1 E.2.2.2.2.2.1 hP k 1 he rfl hin hd (kk H locs ls hP hS hl)
theorem aw_iast (E : EV Y w cc nL rt own) {k n b : Nat} {fl : List (Option Nat)} {i v : Int32} (hk : k < wN w) (hs : wsh w k = (1, n, b, fl)) (hin : vp_in i n) (hd : decode cc pc = .ok (.iastore, 1))
    (kk : AW Y w r nL d (pc + 1) L S (wr M k i.toNatClampNeg v)) : AW Y w r nL d pc L (.int v :: .int i :: .ref (wad w k) :: S) M := by
  refine fun H locs ls hP hS hl => ?_
  have he : (wl w M)[k]? = some (wad w k, .inl (wcI w, n, .inl (M.1 k))) := by
    rw [wl_get hk]
    unfold wen
    rw [hs]
    rfl
  have hset : (wl w M).set k (wad w k, .inl (wcI w, n, .inl (upd (M.1 k) i.toNatClampNeg v))) = wl w (wr M k i.toNatClampNeg v) := by
    refine wl_set hk (fun k' h => setC_ne M _ h) (fun _ _ => rfl) ?_
    unfold wen
    rw [hs]
    simp only [wr, setC_eq]
  refine va_iast E.1 E.2.1 E.2.2.2.2.2.1 hP (wl_D E.2.2.2.2.2.2.1) hS k 0 he rfl hin hd (fun H1 locs1 hP1 _ hS1 => ?_)
  rw [hset] at hP1
  exact kk H1 locs1 ls hP1 hS1 hl
theorem aw_last (E : EV Y w cc nL rt own) {k n b : Nat} {fl : List (Option Nat)} {i : Int32} {v : Int64} (hk : k < wN w) (hs : wsh w k = (2, n, b, fl)) (hin : vp_in i n) (hd : decode cc pc = .ok (.lastore, 1))
    (kk : AW Y w r nL d (pc + 1) L S (wrL M k i.toNatClampNeg v)) : AW Y w r nL d pc L (.long v :: .int i :: .ref (wad w k) :: S) M := by
  refine fun H locs ls hP hS hl => ?_
  have he : (wl w M)[k]? = some (wad w k, .inl (wcJ w, n, .inr (.inl (M.2 k)))) := by
    rw [wl_get hk]
    unfold wen
    rw [hs]
    rfl
  have hset : (wl w M).set k (wad w k, .inl (wcJ w, n, .inr (.inl (vp_updL (M.2 k) i.toNatClampNeg v)))) = wl w (wrL M k i.toNatClampNeg v) := by
    refine wl_set hk (fun _ _ => rfl) (fun k' h => setL_ne M _ h) ?_
    unfold wen
    rw [hs]
    simp only [wrL, setL_eq]
  refine va_last E.1 E.2.1 E.2.2.2.2.2.1 hP (wl_D E.2.2.2.2.2.2.1) hS k 1 he rfl hin hd (fun H1 locs1 hP1 _ hS1 => ?_)
  rw [hset] at hP1
  exact kk H1 locs1 ls hP1 hS1 hl
theorem aw_aldS (E : EV Y w cc nL rt own) {k n b : Nat} {fl : List (Option Nat)} {i : Int32} (hk : k < wN w) (hs : wsh w k = (3, n, b, fl)) (hin : vp_in i n) (hd : decode cc pc = .ok (.aaload, 1))
    (kk : AW Y w r nL d (pc + 1) L (.ref (wad w (b + i.toNatClampNeg)) :: S) M) : AW Y w r nL d pc L (.int i :: .ref (wad w k) :: S) M := by
  refine fun H locs ls hP hS hl => ?_
  have he : (wl w M)[k]? = some (wad w k, .inl (wcS w, n, .inr (.inr (.inr (.inr (wrf w b)))))) := by
    rw [wl_get hk]
    unfold wen
    rw [hs]
    rfl
  exact va_aldq E.1 E.2.1 E.2.2.2.2.2.1 hP k 2 he rfl hin hd (kk H locs ls hP hS hl)
theorem W.aaldA {p : Program} {l : Launch} {e : Jvm.Env} {R : Room} {s : State} {m : MethodId} {args : Array Value} {below : List Frame} {meth : Method} {c : Code} {H : Heap} {locs : List Loc} {cells slots : Nat} {Q : State → Prop} {cc : ByteArray} {pc : Nat} {ls : Array Slot} {rest : List Value} {D : va_G} {cl : List vw_C} {a : Nat} {tys : List (ClassId × FieldType)} {ws : va_W}
    (hexec : p.tables.exec = Jvm.exec) (hb : c.code = cc) (hK : va_K D cl tys s) (hP : va_P D cl ws H) (q0 t0 : Nat) {cA : ClassId} {ty : FieldType} {n : Nat} {f : Nat → Option Nat} (ha : ws[q0]? = some (a, .inl (cA, n, .inr (.inr (.inr (.inr f)))))) (ht : tys[t0]? = some (cA, .array ty)) {i : Int32} (hin : vp_in i n) (hdg : decode cc pc = .ok (.aaload, 1))
    (kk : W p l e R s m args below meth c H locs cells slots Q (F0 m (pc + 1) ls (va_rf (f i.toNatClampNeg) :: rest))) : W p l e R s m args below meth c H locs cells slots Q (F0 m pc ls (.int i :: .ref a :: rest)) := by
  have hlt : i.toNatClampNeg < n := Nat.not_le.mp fun q => hin (Or.inr q)
  exact W.aald (v := va_rf (f i.toNatClampNeg)) (ty := .array ty) hexec hb (hP q0 _ ha) ((hK.2 t0 _ ht).1 n (fun j => va_rf (f j))) rfl (fun q => by cases q) (by show ¬ (i < 0 ∨ (arrV _ _ _).slots.size ≤ _); rw [arrV_size]; exact hin) (by show (arrV _ _ _).slots[_]? = _; rw [arrV_read _ _ hlt]) rfl rfl hdg kk
theorem aw_aldR (E : EV Y w cc nL rt own) {k n b : Nat} {fl : List (Option Nat)} {i : Int32} (hk : k < wN w) (hs : wsh w k = (4, n, b, fl)) (hin : vp_in i n) (hd : decode cc pc = .ok (.aaload, 1))
    (kk : AW Y w r nL d (pc + 1) L (.ref (wad w (b + i.toNatClampNeg)) :: S) M) : AW Y w r nL d pc L (.int i :: .ref (wad w k) :: S) M := by
  refine fun H locs ls hP hS hl => ?_
  have he : (wl w M)[k]? = some (wad w k, .inl (wcR w, n, .inr (.inr (.inr (.inr (wrf w b)))))) := by
    rw [wl_get hk]
    unfold wen
    rw [hs]
    rfl
  exact W.aaldA E.1 E.2.1 E.2.2.2.2.2.1 hP k 3 he rfl hin hd (kk H locs ls hP hS hl)
-- ends
theorem aw_iret (E : EV Y w cc nL (some .int) own) {v : Int32} (hd : decode cc pc = .ok (.ireturn, 1)) (hr : r = (some (.int v), M)) : AW Y w r nL d pc L [.int v] M := by
  subst hr
  exact fun H locs ls hP hS hl => W.iret E.1 E.2.1 E.2.2.2.2.2.2.2.2.1 (fun t ht hW => ⟨rfl, by rw [ht]; exact hP, hS.F ht⟩) hS.2.2 hd E.2.2.2.2.2.2.2.2.2
theorem aw_zret (E : EV Y w cc nL (some .boolean) own) {v : Int32} (hv : v = 0 ∨ v = 1) (hd : decode cc pc = .ok (.ireturn, 1)) (hr : r = (some (.int v), M)) : AW Y w r nL d pc L [.int v] M := by
  subst hr
  exact fun H locs ls hP hS hl => W.zret E.1 E.2.1 E.2.2.2.2.2.2.2.2.1 (nr_bool hv).1 (fun t ht hW => ⟨rfl, by rw [ht]; exact hP, hS.F ht⟩) hS.2.2 hd E.2.2.2.2.2.2.2.2.2
theorem aw_lret (E : EV Y w cc nL (some .long) own) {v : Int64} (hd : decode cc pc = .ok (.lreturn, 1)) (hr : r = (some (.long v), M)) : AW Y w r nL d pc L [.long v] M := by
  subst hr
  exact fun H locs ls hP hS hl => W.lret E.1 E.2.1 E.2.2.2.2.2.2.2.2.1 (fun t ht hW => ⟨rfl, by rw [ht]; exact hP, hS.F ht⟩) hS.2.2 hd E.2.2.2.2.2.2.2.2.2
theorem aw_vret (E : EV Y w cc nL none own) (hd : decode cc pc = .ok (.return_, 1)) (hr : r = (none, M)) : AW Y w r nL d pc L [] M := by
  subst hr
  exact fun H locs ls hP hS hl => W.vret E.1 E.2.1 E.2.2.2.2.2.2.2.2.1 (fun t ht hW => ⟨rfl, by rw [ht]; exact hP, hS.F ht⟩) hS.2.2 hd E.2.2.2.2.2.2.2.2.2
-- calls
theorem Pi_blind {As : List Value} : FrameBlind (va_Pc As (PiW w M)) := fun a U g mk q => ⟨q.1, q.2.1, va_K.moved (u := U) (U := U.calling g mk a) (Vm.Alike.refl U.vm) q.2.2.1, q.2.2.2.1, SF.same (s := U) (U := U.calling g mk a) rfl q.2.2.2.2⟩
def MV (y : MethodName) (cc : ByteArray) (nL : Nat) (rt : Option FieldType) (n : Nat) : Prop := Cond.code y cc nL rt ∈ gt ∧ Cond.instanceMethod y ∈ gt ∧ Cond.selects y.cls y y ∈ gt ∧ Cond.initialized y.cls ∈ gt ∧ (y.cls ≠ "java/lang/invoke/MethodHandle" ∧ y.cls ≠ "java/lang/invoke/VarHandle" ∧ (parseMethodDescriptor y.desc).map (fun d => d.parameters.length) = some n) ∧ nL ≤ 20
def MS (y : MethodName) (cc : ByteArray) (nL : Nat) (rt : Option FieldType) (n : Nat) : Prop := Cond.code y cc nL rt ∈ gt ∧ Cond.static y ∈ gt ∧ Cond.initialized y.cls ∈ gt ∧ (y.cls ≠ "java/lang/invoke/MethodHandle" ∧ y.cls ≠ "java/lang/invoke/VarHandle" ∧ (parseMethodDescriptor y.desc).map (fun d => d.parameters.length) = some n) ∧ nL ≤ 20
theorem aw_back {v : Option Value} {M' : Mem} {St : List Value} {a : Array Value} (hr : ∀ (H : Heap) (locs : List Loc) (ls : Array Slot), va_P (wD w) vwCl (wl w M) H → va_S (wA w) (ys Y).heap H locs → lv_has ls nL L → va_Run (yp Y) (yl Y) (ye Y) (rmD d) (ys Y) (ym Y) (ya Y) (yb Y) (yt Y) (yc Y) H locs 0 0 0 0 (F0 (ym Y) pc ls St) S (QcD w (v, M') a) (wA w))
    (kk : AW Y w r nL d (pc + 3) L (v.toList ++ S) M') : AW Y w r nL d pc L St M := by
  intro H locs ls hP hS hl T hT X
  obtain ⟨v1, st₀, t, T', L1, h0, X', hL, e1, e2, ⟨hv, hP1, hz, hk⟩, st⟩ := hr H locs ls hP hS hl T hT X
  cases hv
  rw [h0] at hz hk
  obtain ⟨t2, a1, b1⟩ := kk T'.heap (locs ++ L1) ls (by rw [e1]; exact hP1)
    ⟨Nat.le_trans hS.1 (by rw [e1]; exact hz), fun q h1 h2 => by rw [e1, hk q (Nat.lt_of_lt_of_le h1 hS.1) h2]; exact hS.2.1 q h1 h2, fun q hq => by
      rcases List.mem_append.mp hq with h | h
      · exact hS.2.2 q h
      · exact hL q h⟩ hl T' rfl X'
  exact ⟨t2, st t2 a1, b1⟩
theorem aw_pre (E : EV Y w cc nL rt own) {As : List Value} {H : Heap} {locs : List Loc} (hP : va_P (wD w) vwCl (wl w M) H) (hS : va_S (wA w) (ys Y).heap H locs) : ∀ U : State, U.heap = H → (ys Y).WarmedH U.vm → va_Pc As (PiW w M) As.toArray U := fun U hU hW =>
  ⟨rfl, by rw [hU]; exact hP, va_K.moved hW.alike E.2.2.2.2.2.1, E.2.2.2.2.2.2.1, by rw [hU]; exact SF.moved hW (E.2.2.2.2.2.2.2.1.kept hS.2.1)⟩
theorem rm_ok {nL' d' : Nat} (h : d' + 1 ≤ d) (hn : nL' ≤ 20) : (rmD d').frames + 1 ≤ (rmD d).frames ∧ 8 + (nL' + 11) + (rmD d').locals ≤ (rmD d).locals := by
  simp only [rmD]
  omega
theorem aw_callV (E : EV Y w cc nL rt own) {y : MethodName} {cc' : ByteArray} {nL' n d' idx k ci b : Nat} {rt' : Option FieldType} {fl : List (Option Nat)} {As St : List Value} {v : Option Value} {M' : Mem} (mv : MV y cc' nL' rt' n) (hlk : Cond.methodLink own idx y ∈ gt) (hk : k < wN w) (hsk : wsh w k = (0, ci, b, fl)) (hcl : (vwCl[ci]?).map (fun q => q.1) = some y.cls) (hn : As.length = n)
    (C : Ct (yl Y) w y cc' nL' rt' d' (.ref (wad w k) :: As) M (v, M')) (hst : St = As.reverse ++ .ref (wad w k) :: S) (hcat : (S.map fun v => v.category).sum ≤ 8) (hdd : d' + 1 ≤ d) (hd : decode cc pc = .ok (.invokevirtual idx, 3)) (kk : AW Y w r nL d (pc + 3) L (v.toList ++ S) M') : AW Y w r nL d pc L St M := by
  refine aw_back (a := (Value.ref (wad w k) :: As).toArray) (fun H locs ls hP hS hl => ?_) kk
  obtain ⟨m1, m2, m3, m4, m5, m6⟩ := mv
  have hG : GoodIn gt (wsV own idx y.cls y (gw y cc' nL' rt')) := by
    intro z hz
    unfold wsV at hz
    rcases List.mem_append.mp hz with h | h
    · have h1 : z ∈ gt := by
        simp only [List.mem_cons, List.not_mem_nil, or_false] at h
        rcases h with rfl | rfl | rfl | rfl <;> assumption
      exact ⟨h1, good_of_word (gt_good h1)⟩
    · exact gw_good (fun _ h => h) m1 z h
  have hcw := cwV (R := rmD d) (mc := 0) (ms := 0) (rm := rmD d') n E.2.2.2.2.1 hG rfl rfl rfl ⟨rfl, m5⟩ (rm_ok hdd m6)
  have he : (wl w M)[k]? = some (wad w k, .inr (ci, flv (wad w) (M.1 k) 0 fl)) := by
    rw [wl_get hk]
    unfold wen
    rw [hsk]
    rfl
  obtain ⟨q, hq1, hq2⟩ := Option.map_eq_some_iff.mp hcl
  have hrecv := va_recv E.2.2.2.2.2.1 hP hq1 he
  rw [hq2] at hrecv
  exact va_runV (As := As) (rest := S) ⟨E.1, E.2.1, E.2.2.1, E.2.2.2.1, E.2.2.2.2.1⟩ C hcw ⟨Pi_blind, hrecv, aw_pre E hP hS⟩ rfl hn hl.1 hst (lv_room hcat) hd ⟨Nat.le_refl _, Nat.le_refl _⟩
theorem aw_callS (E : EV Y w cc nL rt own) {y : MethodName} {cc' : ByteArray} {nL' n d' idx : Nat} {rt' : Option FieldType} {As St : List Value} {v : Option Value} {M' : Mem} (mv : MS y cc' nL' rt' n) (hlk : Cond.methodLink own idx y ∈ gt) (hn : As.length = n)
    (C : Ct (yl Y) w y cc' nL' rt' d' As M (v, M')) (hst : St = As.reverse ++ S) (hcat : (S.map fun v => v.category).sum ≤ 8) (hdd : d' + 1 ≤ d) (hd : decode cc pc = .ok (.invokestatic idx, 3)) (kk : AW Y w r nL d (pc + 3) L (v.toList ++ S) M') : AW Y w r nL d pc L St M := by
  refine aw_back (a := As.toArray) (fun H locs ls hP hS hl => ?_) kk
  obtain ⟨m1, m2, m3, m5, m6⟩ := mv
  have hG : GoodIn gt (va_wsS own idx y (gw y cc' nL' rt')) := by
    intro z hz
    unfold va_wsS at hz
    rcases List.mem_append.mp hz with h | h
    · have h1 : z ∈ gt := by
        simp only [List.mem_cons, List.not_mem_nil, or_false] at h
        rcases h with rfl | rfl | rfl <;> assumption
      exact ⟨h1, good_of_word (gt_good h1)⟩
    · exact gw_good (fun _ h => h) m1 z h
  have hcw := va_cwS (R := rmD d) (mc := 0) (ms := 0) (rm := rmD d') n E.2.2.2.2.1 hG rfl rfl rfl m5 (rm_ok hdd m6)
  exact va_runS (As := As) (rest := S) ⟨E.1, E.2.1, E.2.2.1, E.2.2.2.1, E.2.2.2.2.1⟩ C hcw ⟨Pi_blind, aw_pre E hP hS⟩ rfl hn hl.1 hst (lv_room hcat) hd ⟨Nat.le_refl _, Nat.le_refl _⟩
-- Math.max, Math.min
theorem gt_math : Cond.initialized "java/lang/Math" ∈ gt ∧ Cond.static Lib.Math.max.name ∈ gt ∧ Cond.static Lib.Math.min.name ∈ gt ∧ Cond.static Lib.MathLoose.min_long.x ∈ gt ∧ Cond.code Lib.Math.max.name Lib.Math.max.code 2 (some .int) ∈ gt ∧ Cond.code Lib.Math.min.name Lib.Math.min.code 2 (some .int) ∈ gt ∧ Cond.code Lib.MathLoose.min_long.x Lib.MathLoose.min_long.code 4 (some .long) ∈ gt := by decide +kernel
theorem aw_mmax (E : EV Y w cc nL rt own) {x y : Int32} {idx : Nat} (hlk : Cond.methodLink own idx Lib.Math.max.name ∈ gt) (hcat : (S.map fun v => v.category).sum ≤ 8) (hdd : 1 ≤ d) (hd : decode cc pc = .ok (.invokestatic idx, 3))
    (kk : AW Y w r nL d (pc + 3) L (.int (if x < y then y else x) :: S) M) : AW Y w r nL d pc L (.int y :: .int x :: S) M := fun H locs ls hP hS hl =>
  va_mmax E.1 E.2.1 (by rw [E.2.2.1]; exact hl.1.symm) E.2.2.2.1 (E.2.2.2.2.1 _ hlk) (E.2.2.2.2.1 _ gt_math.2.1) (E.2.2.2.2.1 _ gt_math.1) (E.2.2.2.2.1 _ gt_math.2.2.2.2.1) hdd (by simp only [rmD]; omega) (Nat.zero_le _) (Nat.zero_le _) hd (kk H locs ls hP hS hl)
theorem aw_mmin (E : EV Y w cc nL rt own) {x y : Int32} {idx : Nat} (hlk : Cond.methodLink own idx Lib.Math.min.name ∈ gt) (hcat : (S.map fun v => v.category).sum ≤ 8) (hdd : 1 ≤ d) (hd : decode cc pc = .ok (.invokestatic idx, 3))
    (kk : AW Y w r nL d (pc + 3) L (.int (if y < x then y else x) :: S) M) : AW Y w r nL d pc L (.int y :: .int x :: S) M := fun H locs ls hP hS hl =>
  va_mmin E.1 E.2.1 (by rw [E.2.2.1]; exact hl.1.symm) E.2.2.2.1 (E.2.2.2.2.1 _ hlk) (E.2.2.2.2.1 _ gt_math.2.2.1) (E.2.2.2.2.1 _ gt_math.1) (E.2.2.2.2.1 _ gt_math.2.2.2.2.2.1) hdd (by simp only [rmD]; omega) (Nat.zero_le _) (Nat.zero_le _) hd (kk H locs ls hP hS hl)
theorem aw_mminL (E : EV Y w cc nL rt own) {x y : Int64} {idx : Nat} (hlk : Cond.methodLink own idx Lib.MathLoose.min_long.x ∈ gt) (hcat : (S.map fun v => v.category).sum ≤ 8) (hdd : 1 ≤ d) (hd : decode cc pc = .ok (.invokestatic idx, 3))
    (kk : AW Y w r nL d (pc + 3) L (.long (if y < x then y else x) :: S) M) : AW Y w r nL d pc L (.long y :: .long x :: S) M := fun H locs ls hP hS hl =>
  va_mmin_long E.1 E.2.1 (by rw [E.2.2.1]; exact hl.1.symm) E.2.2.2.1 (E.2.2.2.2.1 _ hlk) (E.2.2.2.2.1 _ gt_math.2.2.2.1) (E.2.2.2.2.1 _ gt_math.1) (E.2.2.2.2.1 _ gt_math.2.2.2.2.2.2) hdd (by simp only [rmD]; omega) (Nat.zero_le _) (Nat.zero_le _) hd (kk H locs ls hP hS hl)
-- System.arraycopy of ints
theorem gt_copy : Cond.native arraycopyName ∈ gt ∧ Cond.static arraycopyName ∈ gt ∧ Cond.initialized "java/lang/System" ∈ gt := by decide +kernel
theorem aw_acopy (E : EV Y w cc nL rt own) {idx k0 k1 n0 n1 b0 b1 : Nat} {f0 f1 : List (Option Nat)} {sp dp n : Int32} (hlk : Cond.methodLink own idx arraycopyName ∈ gt) (hk0 : k0 < wN w) (hs0 : wsh w k0 = (1, n0, b0, f0)) (hk1 : k1 < wN w) (hs1 : wsh w k1 = (1, n1, b1, f1))
    (hg : ¬ sp < 0 ∧ ¬ dp < 0 ∧ ¬ n < 0 ∧ sp.toNatClampNeg + n.toNatClampNeg ≤ n0 ∧ dp.toNatClampNeg + n.toNatClampNeg ≤ n1) (hcat : (S.map fun v => v.category).sum ≤ 8) (hdd : 1 ≤ d) (hd : decode cc pc = .ok (.invokestatic idx, 3))
    (kk : AW Y w r nL d (pc + 3) L S (setC M k1 (va_cpy (M.1 k0) (M.1 k1) sp.toNatClampNeg dp.toNatClampNeg n.toNatClampNeg))) : AW Y w r nL d pc L (.int n :: .int dp :: .ref (wad w k1) :: .int sp :: .ref (wad w k0) :: S) M := by
  refine fun H locs ls hP hS hl => ?_
  have he0 : (wl w M)[k0]? = some (wad w k0, .inl (wcI w, n0, .inl (M.1 k0))) := by
    rw [wl_get hk0]
    unfold wen
    rw [hs0]
    rfl
  have he1 : (wl w M)[k1]? = some (wad w k1, .inl (wcI w, n1, .inl (M.1 k1))) := by
    rw [wl_get hk1]
    unfold wen
    rw [hs1]
    rfl
  have hset : (wl w M).set k1 (wad w k1, .inl (wcI w, n1, .inl (va_cpy (M.1 k0) (M.1 k1) sp.toNatClampNeg dp.toNatClampNeg n.toNatClampNeg))) = wl w (setC M k1 (va_cpy (M.1 k0) (M.1 k1) sp.toNatClampNeg dp.toNatClampNeg n.toNatClampNeg)) := by
    refine wl_set hk1 (fun k' h => setC_ne M _ h) (fun _ _ => rfl) ?_
    unfold wen
    rw [hs1]
    simp only [setC_eq]
  refine va_copyi E.1 E.2.1 (by rw [E.2.2.1]; exact hl.1.symm) E.2.2.2.1 (E.2.2.2.2.1 _ hlk) (E.2.2.2.2.1 _ gt_copy.1) (E.2.2.2.2.1 _ gt_copy.2.1) (E.2.2.2.2.1 _ gt_copy.2.2) E.2.2.2.2.2.1 hP (wl_D E.2.2.2.2.2.2.1) hS k0 k1 0 0 he0 he1 (ty := .int) rfl rfl rfl hg.1 hg.2.1 hg.2.2.1 hg.2.2.2.1 hg.2.2.2.2 (fun _ _ => rfl) hdd ?_ hd (fun H1 locs1 hP1 _ hS1 => ?_)
  · have e : nativeFrameWords "java/lang/System" "arraycopy" 5 ≤ 12 := by decide +kernel
    simp only [rmD]
    omega
  · rw [hset] at hP1
    exact kk H1 locs1 ls hP1 hS1 hl
end AWS
