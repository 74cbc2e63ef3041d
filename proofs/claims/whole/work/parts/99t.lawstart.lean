/-! THE LAW, from its entry -/
abbrev ZL (p : Program) (l : Launch) (e : Jvm.Env) (s : State) (m : MethodId) (b : Nat) (below : List Frame) (meth : Method) (c : Code) (g : CtxG) : CtxZ := ((p, l, e, s, m, #[Value.ref b], below, meth, c), g, (fun q => s.heap.size ≤ q), room_1, lw_Z below #[Value.ref b] s)
set_option maxHeartbeats 4000000 in
set_option maxRecDepth 100000 in
theorem law_made {p : Program} {l : Launch} {e : Jvm.Env} {s : State} {m : MethodId} {below : List Frame} {meth : Method} {c : Code} {g : CtxG} {b L : Nat} {xs : Nat → Int32} (hh : LZ (ZL p l e s m b below meth c g) b L xs) (out : ∀ (adX adY : Nat → Nat) (i : Nat) (MX MY : Mem), AN (ZL p l e s m b below meth c g) 4 75 184778 1423 (LL b i adX adY) [] (WB (ZL p l e s m b below meth c g) adX adY MX MY)) :
    AN (ZL p l e s m b below meth c g) 4 0 0 0 [(0, .ref b)] [] [] := by
  obtain ⟨hR, E, hX, hbl, hA, hL⟩ := id hh
  obtain ⟨r1, r2, r3, M1, M2, B, t1, t2, t3, t4⟩ := start_all
  refine an_new (ci := 8) (fs := [.null, .null, .null, .int 0, .null, .null, .null, .null, .null, .null, .null]) E rfl ginX8 tyX8_ok gt_nX8 (by decide) (Nat.le_of_ble_eq_true rfl) (Nat.le_of_ble_eq_true rfl) dL_law_0 (fun q0 => ?_)
  refine an_dup E dL_law_3 rfl ?_
  refine an_callP (S := [.ref q0]) E miX8 mlL_9 (ciX8 l g t1 t2) ⟨rfl, rfl⟩ ⟨(Nat.le_of_ble_eq_true rfl), (Nat.le_of_ble_eq_true rfl)⟩ (Nat.le_of_ble_eq_true rfl) ⟨(Nat.le_of_ble_eq_true rfl), (Nat.le_of_ble_eq_true rfl)⟩ dL_law_4 (fun u => ?_)
  refine an_astore_n (L1 := [(1, .ref q0), (0, .ref b)]) E dL_law_7 (by decide) rfl ?_
  refine an_new (ci := 9) (fs := [.int 0, .int 0, .int 0, .int 0, .null, .null, .null, .null, .null, .int 0, .null, .int 0, .null, .null, .int 0, .int 0, .int 0, .int 0, .int 0, .int 0, .int 0, .int 0, .int 0, .null, .null, .null, .null, .int 0, .int 0, .int 0, .int 0, .null, .null, .int 0, .int 0, .int 0, .null, .null, .null, .null, .int 0, .null, .null, .null, .int 0, .int 0, .null, .int 0, .int 0, .int 0]) E rfl ginX9 tyX9_ok gt_nX9 (by decide +kernel) (Nat.le_of_ble_eq_true rfl) (Nat.le_of_ble_eq_true rfl) dL_law_8 (fun q1 => ?_)
  refine an_dup E dL_law_11 rfl ?_
  refine an_callP (S := [.ref q1]) E miX9 mlL_12 (ciX9 l g t3) ⟨rfl, rfl⟩ ⟨(Nat.le_of_ble_eq_true rfl), (Nat.le_of_ble_eq_true rfl)⟩ (Nat.le_of_ble_eq_true rfl) ⟨(Nat.le_of_ble_eq_true rfl), (Nat.le_of_ble_eq_true rfl)⟩ dL_law_12 (fun w => ?_)
  refine an_astore_n (L1 := [(2, .ref q1), (1, .ref q0), (0, .ref b)]) E dL_law_15 (by decide) rfl ?_
  refine an_iconst (v := 0) E dL_law_16 (by decide) ?_
  refine an_istore_n (L1 := [(3, .int (nI 0)), (2, .ref q1), (1, .ref q0), (0, .ref b)]) E dL_law_17 (by decide) rfl ?_
  rw [List.nil_append]
  exact la_loop (adX := fun k => if k = 0 then q0 else u k) (adY := fun k => if k = 0 then q1 else w k) hh (out _ _) (L + 1) 0 _ _ (by omega) (by omega) t4
/-- YOUR PART: from the entry, for every script of at most 3584 ints, the law comes to its end with true ('hflags': the launch's flags, for a law that throws: no stack traces) -/
theorem whole_start {p : Program} {e : Env} {s : State} {m : MethodId} {below : List Frame} {meth : Method} {c : Code} (l : Launch) (hflags : l.flags = flags0) {b L : Nat} {xs : Nat → Int32} (hL : L ≤ 3584) (C0 : lw_At p s m meth c b L xs) : W p l e room_1 s m #[Value.ref b] below meth c s.heap [] 0 0 (lw_Z below #[Value.ref b] s) (entryFrame m ([Value.ref b] : List Value).toArray 4) := by
  obtain ⟨hx, hb, hr, hml, hown, hts, hX, hbl, hlocks, hgv⟩ := id C0
  obtain ⟨g, hK, hE, hS⟩ := law_env (A := fun q => s.heap.size ≤ q) hts hgv (fun a h => Nat.not_le.mpr h)
  have E : EN (ZL p l e s m b below meth c g) cL_law 4 RL := ⟨hx, hb, hml, hown, fun z hz => hts z (gt_tbl hz), hK, fun q h => h, hE, hS⟩
  have hh : LZ (ZL p l e s m b below meth c g) b L xs := ⟨rfl, E, hX, hbl, Nat.not_le.mpr hbl, hL⟩
  have h1 := law_made hh (fun adX adY i MX MY => an_iconst (v := 1) E dL_law_1423 (by decide) (fun H locs ls hP hD hS1 hl => va_forget hS1.2.2 (W.widen (Nat.le_of_ble_eq_true rfl) (Nat.le_of_ble_eq_true rfl) (lw_ret hx hb hr hlocks dL_law_1424)))) s.heap [] _ (fun k q h => by simp at h) ⟨fun i j p q h => by simp at h, fun k q h => by simp at h⟩ va_S.rf (lv_entry ([.ref b]) (n := 4) (Nat.le_of_ble_eq_true rfl))
  rw [lg_entry_eq]
  exact h1
