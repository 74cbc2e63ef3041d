/-! STRING CONSTANTS: length and charAt, out of the JDK's own bytecode -/
theorem ksV : Cond.fieldLink RJ0 9 "java/lang/String" "value" "[B" ∈ gt := tb6 238 (by decide +kernel) (by decide +kernel)
theorem ksC : Cond.fieldLink RJ0 15 "java/lang/String" "coder" "B" ∈ gt := tb6 239 (by decide +kernel) (by decide +kernel)
theorem ksZ : Cond.fieldLink RJ0 38 "java/lang/String" "COMPACT_STRINGS" "Z" ∈ gt := tb2 31 (by decide +kernel) (by decide +kernel)
theorem ksQ : Cond.fieldLink RJ0 1053 "jdk/internal/util/Preconditions" "SIOOBE_FORMATTER" "Ljava/util/function/BiFunction;" ∈ gt := tb2 47 (by decide +kernel) (by decide +kernel)
theorem str_all : ∀ i, i < 3 → lenS.getD i 0 < 2 ^ 31 ∧ ((Int32.ofNat (lenS.getD i 0)) >>> ((0 : Int32) &&& 31) = Int32.ofNat (lenS.getD i 0)) ∧ ∀ k, k < lenS.getD i 0 → (((((bytS.getD i []).getD k 0) &&& 255).toUInt32 % 65536).toInt32 = (bytS.getD i []).getD k 0 ∧ narrow .char (.int ((bytS.getD i []).getD k 0)) = .int ((bytS.getD i []).getD k 0)) := by decide +kernel
section AWStr
variable {Y : CtxM} {w : CtxW} {r : Option Value × Mem} {nL d pc : Nat} {L L1 : List (Nat × Value)} {S : List Value} {M : Mem} {cc : ByteArray} {rt : Option FieldType} {own : String}
theorem aw_retT (E : EV Y w cc nL rt own) {ty : FieldType} (ht : rt = some ty) {v : Int32} (hv : narrow ty (.int v) = .int v) (hd : decode cc pc = .ok (.ireturn, 1)) (hr : r = (some (.int v), M)) : AW Y w r nL d pc L [.int v] M := by
  subst hr
  subst ht
  exact fun H locs ls hP hS hl => W.zret E.1 E.2.1 E.2.2.2.2.2.2.2.2.1 hv (fun t ht hW => ⟨rfl, by rw [ht]; exact hP, hS.F ht⟩) hS.2.2 hd E.2.2.2.2.2.2.2.2.2
theorem aw_getZ (E : EV Y w cc nL rt own) {idx : Nat} (hlk : Cond.fieldLink own idx "java/lang/String" "COMPACT_STRINGS" "Z" ∈ gt) (hd : decode cc pc = .ok (.getstatic idx, 3))
    (kk : AW Y w r nL d (pc + 3) L (.int 1 :: S) M) : AW Y w r nL d pc L S M := fun H locs ls hP hS hl =>
  va_gets E.1 E.2.1 E.2.2.2.2.2.2.2.1.2.2.1 hS E.2.2.2.1 (E.2.2.2.2.1 _ hlk) (fun _ h => h) hd (kk H locs ls hP hS hl)
theorem aw_getQ (E : EV Y w cc nL rt own) {idx : Nat} (hlk : Cond.fieldLink own idx "jdk/internal/util/Preconditions" "SIOOBE_FORMATTER" "Ljava/util/function/BiFunction;" ∈ gt) (hd : decode cc pc = .ok (.getstatic idx, 3))
    (k0 : AW Y w r nL d (pc + 3) L (.null :: S) M) (k1 : ∀ t, AW Y w r nL d (pc + 3) L (.ref t :: S) M) : AW Y w r nL d pc L S M := fun H locs ls hP hS hl => by
  rcases E.2.2.2.2.2.2.2.1.2.2.2 with h | ⟨t, h⟩
  · exact va_gets E.1 E.2.1 h hS E.2.2.2.1 (E.2.2.2.2.1 _ hlk) (fun _ h => h) hd (k0 H locs ls hP hS hl)
  · exact va_gets E.1 E.2.1 h hS E.2.2.2.1 (E.2.2.2.2.1 _ hlk) (fun _ h => h) hd (k1 t H locs ls hP hS hl)
theorem aw_gsV (E : EV Y w cc nL rt own) {i idx : Nat} (hi : i < 3) (hlk : Cond.fieldLink own idx "java/lang/String" "value" "[B" ∈ gt) (hd : decode cc pc = .ok (.getfield idx, 3))
    (kk : AW Y w r nL d (pc + 3) L (.ref (wV w i) :: S) M) : AW Y w r nL d pc L (.ref (wK w i) :: S) M := fun H locs ls hP hS hl =>
  vk_getf E.1 E.2.1 (E.2.2.2.2.2.2.2.1.1.1 i hi).2.2.1 hS E.2.2.2.1 (E.2.2.2.2.1 _ hlk) (fun _ h => h) hd (kk H locs ls hP hS hl)
theorem aw_gsC (E : EV Y w cc nL rt own) {i idx : Nat} (hi : i < 3) (hlk : Cond.fieldLink own idx "java/lang/String" "coder" "B" ∈ gt) (hd : decode cc pc = .ok (.getfield idx, 3))
    (kk : AW Y w r nL d (pc + 3) L (.int 0 :: S) M) : AW Y w r nL d pc L (.ref (wK w i) :: S) M := fun H locs ls hP hS hl =>
  vk_getf E.1 E.2.1 (E.2.2.2.2.2.2.2.1.1.1 i hi).2.1 hS E.2.2.2.1 (E.2.2.2.2.1 _ hlk) (fun _ h => h) hd (kk H locs ls hP hS hl)
theorem aw_tlen (E : EV Y w cc nL rt own) {i : Nat} (hi : i < 3) (hd : decode cc pc = .ok (.arraylength, 1))
    (kk : AW Y w r nL d (pc + 1) L (.int (Int32.ofNat (lenS.getD i 0)) :: S) M) : AW Y w r nL d pc L (.ref (wV w i) :: S) M := fun H locs ls hP hS hl =>
  va_tlen E.1 E.2.1 (E.2.2.2.2.2.2.2.1.1.1 i hi).2.2.2 hS rfl hd (kk H locs ls hP hS hl)
theorem aw_tb (E : EV Y w cc nL rt own) {i : Nat} {x : Int32} (hi : i < 3) (hin : vp_in x (lenS.getD i 0)) (hd : decode cc pc = .ok (.baload, 1))
    (kk : AW Y w r nL d (pc + 1) L (.int ((bytS.getD i []).getD x.toNatClampNeg 0) :: S) M) : AW Y w r nL d pc L (.int x :: .ref (wV w i) :: S) M := fun H locs ls hP hS hl =>
  va_tb E.1 E.2.1 (E.2.2.2.2.2.2.2.1.1.1 i hi).2.2.2 hS hin rfl hd (kk H locs ls hP hS hl)
theorem aw_callVs (E : EV Y w cc nL rt own) {y : MethodName} {cc' : ByteArray} {nL' n d' idx i : Nat} {rt' : Option FieldType} {As St : List Value} {x : Int32} {M' : Mem} (mv : MV y cc' nL' rt' n) (hlk : Cond.methodLink own idx y ∈ gt) (hi : i < 3) (hcl : y.cls = "java/lang/String") (hn : As.length = n)
    (C : Ct (yl Y) w y cc' nL' rt' d' (.ref (wK w i) :: As) M (some (.int x), M')) (hst : St = As.reverse ++ .ref (wK w i) :: S) (hcat : (S.map fun v => v.category).sum ≤ 8) (hdd : d' + 1 ≤ d) (hd : decode cc pc = .ok (.invokevirtual idx, 3)) (kk : AW Y w r nL d (pc + 3) L (.int x :: S) M') : AW Y w r nL d pc L St M := by
  refine aw_back (v := some (.int x)) (a := (Value.ref (wK w i) :: As).toArray) (fun H locs ls hP hS hl => ?_) kk
  obtain ⟨m1, m2, m3, m4, m5, m6⟩ := mv
  have hG : GoodIn gt (wsV own idx y.cls y (gw y cc' nL' rt')) := by
    intro z hz
    unfold wsV at hz
    rcases List.mem_append.mp hz with h | h
    · have h1 : z ∈ gt := by
        simp only [List.mem_cons, List.not_mem_nil, or_false] at h
        rcases h with rfl | rfl | rfl | rfl <;> assumption
      exact ⟨h1, good_of_word (gt_good h1)⟩
    · exact gw_good (fun _ h => h) m1 z h
  have hcw := cwV (R := rmD d) (mc := 0) (ms := 0) (rm := rmD d') n E.2.2.2.2.1 hG rfl rfl rfl ⟨rfl, m5⟩ (rm_ok hdd m6)
  have hrecv := vk_recv (E.2.2.2.2.2.2.2.1.1) hi hS
  rw [← hcl] at hrecv
  exact va_runV (As := As) (rest := S) ⟨E.1, E.2.1, E.2.2.1, E.2.2.2.1, E.2.2.2.2.1⟩ C hcw ⟨Pi_blind, hrecv, aw_pre E hP hS⟩ rfl hn hl.1 hst (lv_room hcat) hd ⟨Nat.le_refl _, Nat.le_refl _⟩
theorem ctJ0_coder (l : Launch) (w : CtxW) {i : Nat} (hi : i < 3) (M : Mem) : Ct l w yJ0_coder_7d493 cJ0_coder_7d493 1 (some .byte) 1 [.ref (wK w i)] M (some (.int 0), M) := by
  refine Ct.of (by decide) (Nat.le_of_ble_eq_true rfl) (fun Y hY E => ?_)
  have E : EV Y w cJ0_coder_7d493 1 (some .byte) RJ0 := E
  show AW Y w _ 1 1 0 [(0, .ref (wK w i))] [] M
  refine aw_getZ E ksZ dJ0_coder_7d493_0 ?_
  refine aw_if_eq (tgt := 13) E dJ0_coder_7d493_3 rfl (fun c => absurd c (by decide)) (fun c => ?_)
  refine aw_aload_n E dJ0_coder_7d493_6 0 rfl ?_
  refine aw_gsC E hi ksC dJ0_coder_7d493_7 ?_
  refine aw_goto (tgt := 14) E dJ0_coder_7d493_10 rfl ?_
  exact aw_retT E rfl rfl dJ0_coder_7d493_14 rfl
theorem ctJ0_isLatin1 (l : Launch) (w : CtxW) {i : Nat} (hi : i < 3) (M : Mem) : Ct l w yJ0_isLatin1_aae02 cJ0_isLatin1_aae02 1 (some .boolean) 1 [.ref (wK w i)] M (some (.int 1), M) := by
  refine Ct.of (by decide) (Nat.le_of_ble_eq_true rfl) (fun Y hY E => ?_)
  have E : EV Y w cJ0_isLatin1_aae02 1 (some .boolean) RJ0 := E
  show AW Y w _ 1 1 0 [(0, .ref (wK w i))] [] M
  refine aw_getZ E ksZ dJ0_isLatin1_aae02_0 ?_
  refine aw_if_eq (tgt := 17) E dJ0_isLatin1_aae02_3 rfl (fun c => absurd c (by decide)) (fun c => ?_)
  refine aw_aload_n E dJ0_isLatin1_aae02_6 0 rfl ?_
  refine aw_gsC E hi ksC dJ0_isLatin1_aae02_7 ?_
  refine aw_if_ne (tgt := 17) E dJ0_isLatin1_aae02_10 rfl (fun c => absurd rfl c) (fun c => ?_)
  refine aw_iconst (v := 1) E dJ0_isLatin1_aae02_13 (by decide) ?_
  refine aw_goto (tgt := 18) E dJ0_isLatin1_aae02_14 rfl ?_
  exact aw_retT E rfl rfl dJ0_isLatin1_aae02_18 rfl
theorem ctJ0_length (l : Launch) (w : CtxW) {i : Nat} (hi : i < 3) (M : Mem) : Ct l w yJ0_length_8abf5 cJ0_length_8abf5 1 (some .int) 2 [.ref (wK w i)] M (some (.int (Int32.ofNat (lenS.getD i 0))), M) := by
  refine Ct.of (by decide) (Nat.le_of_ble_eq_true rfl) (fun Y hY E => ?_)
  have E : EV Y w cJ0_length_8abf5 1 (some .int) RJ0 := E
  show AW Y w _ 1 2 0 [(0, .ref (wK w i))] [] M
  refine aw_aload_n E dJ0_length_8abf5_0 0 rfl ?_
  refine aw_gsV E hi ksV dJ0_length_8abf5_1 ?_
  refine aw_tlen E hi dJ0_length_8abf5_4 ?_
  refine aw_aload_n E dJ0_length_8abf5_5 0 rfl ?_
  refine aw_callVs (S := [.int (Int32.ofNat (lenS.getD i 0))]) E mvJ0_coder_7d493 mlJ0_335 hi rfl rfl (ctJ0_coder (yl Y) w hi M) rfl (Nat.le_of_ble_eq_true rfl) (Nat.le_of_ble_eq_true rfl) dJ0_length_8abf5_6 ?_
  refine aw_ishr E dJ0_length_8abf5_9 ?_
  rw [(str_all i hi).2.1]
  exact aw_iret E dJ0_length_8abf5_10 rfl
theorem ctJ3_check (l : Launch) (w : CtxW) (x n : Int32) (h0 : ¬ x < 0) (h1 : x < n) (v : Value) (hv : v = .null ∨ ∃ t, v = .ref t) (M : Mem) : Ct l w yJ3_checkIndex_8e157 cJ3_checkIndex_8e157 3 (some .int) 1 [.int x, .int n, v] M (some (.int x), M) := by
  have body : ∀ (Y : CtxM) (L : List (Nat × Value)), L = [(0, .int x), (1, .int n), (2, v)] → EV Y w cJ3_checkIndex_8e157 3 (some .int) RJ3 → AW Y w (some (.int x), M) 3 1 0 L [] M := by
    intro Y L hL E
    subst hL
    refine aw_iload_n E dJ3_checkIndex_8e157_0 0 rfl ?_
    refine aw_if_lt (tgt := 9) E dJ3_checkIndex_8e157_1 rfl (fun c => absurd c h0) (fun c => ?_)
    refine aw_iload_n E dJ3_checkIndex_8e157_4 0 rfl ?_
    refine aw_iload_n E dJ3_checkIndex_8e157_5 1 rfl ?_
    refine aw_icmp_lt (tgt := 16) E dJ3_checkIndex_8e157_6 rfl (fun c => ?_) (fun c => absurd h1 c)
    refine aw_iload_n E dJ3_checkIndex_8e157_16 0 rfl ?_
    exact aw_iret E dJ3_checkIndex_8e157_17 rfl
  rcases hv with rfl | ⟨t, rfl⟩
  · exact Ct.of (by decide) (Nat.le_of_ble_eq_true rfl) (fun Y hY E => body Y _ rfl E)
  · exact Ct.of (by decide) (Nat.le_of_ble_eq_true rfl) (fun Y hY E => body Y _ rfl E)
theorem ctJ0_check (l : Launch) (w : CtxW) (x n : Int32) (h0 : ¬ x < 0) (h1 : x < n) (M : Mem) : Ct l w yJ0_checkIndex_df160 cJ0_checkIndex_df160 2 none 2 [.int x, .int n] M (none, M) := by
  refine Ct.of (by decide) (Nat.le_of_ble_eq_true rfl) (fun Y hY E => ?_)
  have E : EV Y w cJ0_checkIndex_df160 2 none RJ0 := E
  show AW Y w _ 2 2 0 [(0, .int x), (1, .int n)] [] M
  refine aw_iload_n E dJ0_checkIndex_df160_0 0 rfl ?_
  refine aw_iload_n E dJ0_checkIndex_df160_1 1 rfl ?_
  refine aw_getQ E ksQ dJ0_checkIndex_df160_2 ?_ (fun t => ?_)
  · refine aw_callSi (S := []) E msJ3_checkIndex_8e157 mlJ0_1059 rfl (ctJ3_check (yl Y) w x n h0 h1 .null (Or.inl rfl) M) rfl (Nat.le_of_ble_eq_true rfl) (Nat.le_of_ble_eq_true rfl) dJ0_checkIndex_df160_5 ?_
    refine aw_pop E dJ0_checkIndex_df160_8 rfl ?_
    exact aw_vret E dJ0_checkIndex_df160_9 rfl
  · refine aw_callSi (S := []) E msJ3_checkIndex_8e157 mlJ0_1059 rfl (ctJ3_check (yl Y) w x n h0 h1 (.ref t) (Or.inr ⟨t, rfl⟩) M) rfl (Nat.le_of_ble_eq_true rfl) (Nat.le_of_ble_eq_true rfl) dJ0_checkIndex_df160_5 ?_
    refine aw_pop E dJ0_checkIndex_df160_8 rfl ?_
    exact aw_vret E dJ0_checkIndex_df160_9 rfl
theorem in_lt {x : Int32} {n : Nat} (hn : n < 2 ^ 31) (h : vp_in x n) : ¬ x < 0 ∧ x < Int32.ofNat n := by
  obtain ⟨j, hj, rfl⟩ := vp_in_of h hn
  exact ⟨nI_pos (by omega), nI_lt hj hn⟩
theorem ctJ1_charAt (l : Launch) (w : CtxW) {i : Nat} (hi : i < 3) (x : Int32) (hin : vp_in x (lenS.getD i 0)) (M : Mem) : Ct l w yJ1_charAt_3b067 cJ1_charAt_3b067 2 (some .char) 3 [.ref (wV w i), .int x] M (some (.int (sch i x)), M) := by
  refine Ct.of (by decide) (Nat.le_of_ble_eq_true rfl) (fun Y hY E => ?_)
  have E : EV Y w cJ1_charAt_3b067 2 (some .char) RJ1 := E
  show AW Y w _ 2 3 0 [(0, .ref (wV w i)), (1, .int x)] [] M
  obtain ⟨h0, h1⟩ := in_lt (str_all i hi).1 hin
  obtain ⟨e1, e2⟩ := (str_all i hi).2.2 x.toNatClampNeg (vp_in_cases hin)
  refine aw_iload_n E dJ1_charAt_3b067_0 1 rfl ?_
  refine aw_aload_n E dJ1_charAt_3b067_1 0 rfl ?_
  refine aw_tlen E hi dJ1_charAt_3b067_2 ?_
  refine aw_callSv (S := []) E msJ0_checkIndex_df160 mlJ1_9 rfl (ctJ0_check (yl Y) w x _ h0 h1 M) rfl (Nat.le_of_ble_eq_true rfl) (Nat.le_of_ble_eq_true rfl) dJ1_charAt_3b067_3 ?_
  refine aw_aload_n E dJ1_charAt_3b067_6 0 rfl ?_
  refine aw_iload_n E dJ1_charAt_3b067_7 1 rfl ?_
  refine aw_tb E hi hin dJ1_charAt_3b067_8 ?_
  refine aw_sipush (v := 255) E dJ1_charAt_3b067_9 (by decide) ?_
  refine aw_iand E dJ1_charAt_3b067_12 ?_
  refine fun H locs ls hP hS hl => lv_i2c (v := sch i x) E.1 E.2.1 dJ1_charAt_3b067_13 ?_ (aw_retT E rfl ?_ dJ1_charAt_3b067_14 rfl H locs ls hP hS hl)
  · exact e1
  · exact e2
theorem ctJ0_charAt (l : Launch) (w : CtxW) {i : Nat} (hi : i < 3) (x : Int32) (hin : vp_in x (lenS.getD i 0)) (M : Mem) : Ct l w yJ0_charAt_5068e cJ0_charAt_5068e 2 (some .char) 4 [.ref (wK w i), .int x] M (some (.int (sch i x)), M) := by
  refine Ct.of (by decide) (Nat.le_of_ble_eq_true rfl) (fun Y hY E => ?_)
  have E : EV Y w cJ0_charAt_5068e 2 (some .char) RJ0 := E
  show AW Y w _ 2 4 0 [(0, .ref (wK w i)), (1, .int x)] [] M
  have e2 := ((str_all i hi).2.2 x.toNatClampNeg (vp_in_cases hin)).2
  refine aw_aload_n E dJ0_charAt_5068e_0 0 rfl ?_
  refine aw_callVs (S := []) E mvJ0_isLatin1_aae02 mlJ0_492 hi rfl rfl (ctJ0_isLatin1 (yl Y) w hi M) rfl (Nat.le_of_ble_eq_true rfl) (Nat.le_of_ble_eq_true rfl) dJ0_charAt_5068e_1 ?_
  refine aw_if_eq (tgt := 16) E dJ0_charAt_5068e_4 rfl (fun c => absurd c (by decide)) (fun c => ?_)
  refine aw_aload_n E dJ0_charAt_5068e_7 0 rfl ?_
  refine aw_gsV E hi ksV dJ0_charAt_5068e_8 ?_
  refine aw_iload_n E dJ0_charAt_5068e_11 1 rfl ?_
  refine aw_callSi (S := []) E msJ1_charAt_3b067 mlJ0_495 rfl (ctJ1_charAt (yl Y) w hi x hin M) rfl (Nat.le_of_ble_eq_true rfl) (Nat.le_of_ble_eq_true rfl) dJ0_charAt_5068e_12 ?_
  exact aw_retT E rfl e2 dJ0_charAt_5068e_15 rfl
theorem aw_slen (E : EV Y w cc nL rt own) {i idx : Nat} {v : Int32} (hlk : Cond.methodLink own idx yJ0_length_8abf5 ∈ gt) (hi : i < 3) (hv : Int32.ofNat (lenS.getD i 0) = v) (hcat : (S.map fun v => v.category).sum ≤ 8) (hdd : 7 ≤ d) (hd : decode cc pc = .ok (.invokevirtual idx, 3))
    (kk : AW Y w r nL d (pc + 3) L (.int v :: S) M) : AW Y w r nL d pc L (.ref (wK w i) :: S) M := by
  subst hv
  exact aw_callVs (S := S) E mvJ0_length_8abf5 hlk hi rfl rfl (ctJ0_length (yl Y) w hi M) rfl hcat (Nat.le_trans (Nat.le_of_ble_eq_true rfl) hdd) hd kk
theorem aw_sch (E : EV Y w cc nL rt own) {i idx : Nat} {x : Int32} (hlk : Cond.methodLink own idx yJ0_charAt_5068e ∈ gt) (hi : i < 3) (hin : vp_in x (lenS.getD i 0)) (hcat : (S.map fun v => v.category).sum ≤ 8) (hdd : 7 ≤ d) (hd : decode cc pc = .ok (.invokevirtual idx, 3))
    (kk : AW Y w r nL d (pc + 3) L (.int (sch i x) :: S) M) : AW Y w r nL d pc L (.int x :: .ref (wK w i) :: S) M :=
  aw_callVs (S := S) E mvJ0_charAt_5068e hlk hi rfl rfl (ctJ0_charAt (yl Y) w hi x hin M) rfl hcat (Nat.le_trans (Nat.le_of_ble_eq_true rfl) hdd) hd kk
end AWStr
