/-! rows of references: what lies behind their end doesn't count; the words of the constructors; Texts() -/
section ACG
variable {Z : CtxZ} {nL cs sl pc : Nat} {L : List (Nat × Value)} {S : List Value} {ws : va_W}
theorem va_P.cg {D : va_G} {cl : List vw_C} {ws : va_W} {H : Heap} {k a n : Nat} {c : ClassId} {f f' : Nat → Option Nat} (h : va_P D cl ws H) (hk : ws[k]? = some (a, .inl (c, n, .inr (.inr (.inr (.inr f)))))) (hf : ∀ j, j < n → f j = f' j) : va_P D cl (ws.set k (a, .inl (c, n, .inr (.inr (.inr (.inr f')))))) H := by
  intro i q hq
  by_cases hi : i = k
  · subst hi
    rw [List.getElem?_set_self (List.getElem?_eq_some_iff.mp hk).1] at hq
    cases hq
    have h1 : H[a]? = some (vp_cell c (n, .inr (.inr (.inr (.inr f))))) := h i _ hk
    show H[a]? = some (vp_cell c (n, .inr (.inr (.inr (.inr f')))))
    rw [h1, vp_cell_q, vp_cell_q]
    exact congrArg some (arrV_cg fun j hj => by rw [hf j hj])
  · rw [List.getElem?_set_ne (fun z => hi z.symm)] at hq
    exact h i q hq
theorem an_cg (k : Nat) {a n : Nat} {c : ClassId} {f f' : Nat → Option Nat} (hk : ws[k]? = some (a, .inl (c, n, .inr (.inr (.inr (.inr f)))))) (hf : ∀ j, j < n → f j = f' j) (kk : AN Z nL cs sl pc L S (ws.set k (a, .inl (c, n, .inr (.inr (.inr (.inr f'))))))) : AN Z nL cs sl pc L S ws :=
  an_world (fun _ hP hD => ⟨hP.cg hk hf, hD.set hk⟩) kk
end ACG
theorem gt_cX6 : Cond.classLink RX6 9 "[[I" ∈ gt := by decide +kernel
theorem gt_cX8 : Cond.classLink RX8 64 "HomeByAnotherWay$Sheet" ∈ gt := by decide +kernel
theorem gt_nX0 : Cond.classLink RX8 50 RX0 ∈ gt ∧ Cond.instantiable RX0 6 ∈ gt ∧ Cond.initialized RX0 ∈ gt := by decide +kernel
theorem gt_nX1 : Cond.classLink RX8 9 RX1 ∈ gt ∧ Cond.instantiable RX1 6 ∈ gt ∧ Cond.initialized RX1 ∈ gt := by decide +kernel
theorem gt_nX2 : Cond.classLink RX8 64 RX2 ∈ gt ∧ Cond.instantiable RX2 3 ∈ gt ∧ Cond.initialized RX2 ∈ gt := by decide +kernel
theorem gt_nX3 : Cond.classLink RX8 22 RX3 ∈ gt ∧ Cond.instantiable RX3 5 ∈ gt ∧ Cond.initialized RX3 ∈ gt := by decide +kernel
theorem gt_nX4 : Cond.classLink RX8 57 RX4 ∈ gt ∧ Cond.instantiable RX4 3 ∈ gt ∧ Cond.initialized RX4 ∈ gt := by decide +kernel
theorem gt_nX5 : Cond.classLink RX8 29 RX5 ∈ gt ∧ Cond.instantiable RX5 10 ∈ gt ∧ Cond.initialized RX5 ∈ gt := by decide +kernel
theorem gt_nX6 : Cond.classLink RX8 36 RX6 ∈ gt ∧ Cond.instantiable RX6 5 ∈ gt ∧ Cond.initialized RX6 ∈ gt := by decide +kernel
theorem gt_nX7 : Cond.classLink RX8 43 RX7 ∈ gt ∧ Cond.instantiable RX7 9 ∈ gt ∧ Cond.initialized RX7 ∈ gt := by decide +kernel
theorem gt_nX8 : Cond.classLink RL 7 RX8 ∈ gt ∧ Cond.instantiable RX8 11 ∈ gt ∧ Cond.initialized RX8 ∈ gt := by decide +kernel
theorem gt_nX9 : Cond.classLink RL 10 RX9 ∈ gt ∧ Cond.instantiable RX9 50 ∈ gt ∧ Cond.initialized RX9 ∈ gt := by decide +kernel
theorem miX0 : MI yX0_init cX0_init 1 := ⟨tb1 201 (by decide +kernel) (by decide +kernel), tb1 200 (by decide +kernel) (by decide +kernel), tb1 7 (by decide +kernel) (by decide +kernel), rfl, by decide +kernel⟩
theorem miX1 : MI yX1_init cX1_init 1 := ⟨tb1 31 (by decide +kernel) (by decide +kernel), tb1 30 (by decide +kernel) (by decide +kernel), tb1 2 (by decide +kernel) (by decide +kernel), rfl, by decide +kernel⟩
theorem miX2 : MI yX2_init cX2_init 1 := ⟨tb2 7 (by decide +kernel) (by decide +kernel), tb2 6 (by decide +kernel) (by decide +kernel), tb1 9 (by decide +kernel) (by decide +kernel), rfl, by decide +kernel⟩
theorem miX3 : MI yX3_init cX3_init 1 := ⟨tb1 68 (by decide +kernel) (by decide +kernel), tb1 67 (by decide +kernel) (by decide +kernel), tb1 3 (by decide +kernel) (by decide +kernel), rfl, by decide +kernel⟩
theorem miX4 : MI yX4_init cX4_init 1 := ⟨tb1 227 (by decide +kernel) (by decide +kernel), tb1 226 (by decide +kernel) (by decide +kernel), tb1 8 (by decide +kernel) (by decide +kernel), rfl, by decide +kernel⟩
theorem miX5 : MI yX5_init cX5_init 1 := ⟨tb1 100 (by decide +kernel) (by decide +kernel), tb1 99 (by decide +kernel) (by decide +kernel), tb1 4 (by decide +kernel) (by decide +kernel), rfl, by decide +kernel⟩
theorem miX6 : MI yX6_init cX6_init 1 := ⟨tb1 140 (by decide +kernel) (by decide +kernel), tb1 139 (by decide +kernel) (by decide +kernel), tb1 5 (by decide +kernel) (by decide +kernel), rfl, by decide +kernel⟩
theorem miX7 : MI yX7_init cX7_init 1 := ⟨tb1 165 (by decide +kernel) (by decide +kernel), tb1 164 (by decide +kernel) (by decide +kernel), tb1 6 (by decide +kernel) (by decide +kernel), rfl, by decide +kernel⟩
theorem miX8 : MI yX8_init cX8_init 2 := ⟨tb1 23 (by decide +kernel) (by decide +kernel), tb1 22 (by decide +kernel) (by decide +kernel), tb1 1 (by decide +kernel) (by decide +kernel), rfl, by decide +kernel⟩
set_option maxRecDepth 100000 in
theorem miX9 : MI yX9_init cX9_init 2 := ⟨tb4 189 rfl rfl, tb4 188 (by decide +kernel) (by decide +kernel), tb1 15 (by decide +kernel) (by decide +kernel), rfl, by decide +kernel⟩
set_option maxRecDepth 20000 in
/-- Texts() -/
theorem ciX6 (l : Launch) (g : CtxG) : CI l g yX6_init cX6_init 1 (rmN 16 1156) 16 1156 6 [.null, .null, .null, .null, .int 0] (fun h0 u => [(h0, .inr (6, [.ref (u 0), .ref (u 7), .ref (u 14), .ref (u 15), .int 0])), (u 0, .inl (g.2.2.2.2, 6, .inr (.inr (.inr (.inr (fun j => some (u (1 + j)))))))), (u 1, .inl (g.2.1, 160, .inl (fun _ => 0))), (u 2, .inl (g.2.1, 160, .inl (fun _ => 0))), (u 3, .inl (g.2.1, 160, .inl (fun _ => 0))), (u 4, .inl (g.2.1, 160, .inl (fun _ => 0))), (u 5, .inl (g.2.1, 160, .inl (fun _ => 0))), (u 6, .inl (g.2.1, 160, .inl (fun _ => 0))), (u 7, .inl (g.2.2.2.2, 6, .inr (.inr (.inr (.inr (fun j => some (u (8 + j)))))))), (u 8, .inl (g.2.1, 3, .inl (fun _ => 0))), (u 9, .inl (g.2.1, 3, .inl (fun _ => 0))), (u 10, .inl (g.2.1, 3, .inl (fun _ => 0))), (u 11, .inl (g.2.1, 3, .inl (fun _ => 0))), (u 12, .inl (g.2.1, 3, .inl (fun _ => 0))), (u 13, .inl (g.2.1, 3, .inl (fun _ => 0))), (u 14, .inl (g.2.1, 160, .inl (fun _ => 0))), (u 15, .inl (g.2.1, 6, .inl (fun _ => 0)))]) :=
  CI.of (by decide +kernel) rfl (by decide) fun Z h0 hl hg hR E hin hret => by
    subst hg
    refine an_aload_n E dX6_init_0 0 rfl ?_
    refine an_obj E gt_oX6 dX6_init_1 (by rw [hR]; decide) (by rw [hR]; decide) ?_
    refine an_aload_n E dX6_init_4 0 rfl ?_
    refine an_bipush (v := 6) E dX6_init_5 (by decide) ?_
    refine an_sipush (v := 160) E dX6_init_7 (by decide) ?_
    refine an_multi (N := 6) (K := 160) E gt_cX6 (by decide) (by decide) (by decide) (by decide) (by decide) (by decide) (by rw [hR]; exact Nat.le_of_ble_eq_true rfl) (by rw [hR]; exact Nat.le_of_ble_eq_true rfl) dX6_init_10 (fun a0 r0 => ?_)
    refine an_putF E hin flX6_11 rfl 0 rfl ⟨rfl, rfl⟩ (Nat.le_of_ble_eq_true rfl) dX6_init_14 ?_
    refine an_aload_n E dX6_init_17 0 rfl ?_
    refine an_bipush (v := 6) E dX6_init_18 (by decide) ?_
    refine an_iconst (v := 3) E dX6_init_20 (by decide) ?_
    refine an_multi (N := 6) (K := 3) E gt_cX6 (by decide) (by decide) (by decide) (by decide) (by decide) (by decide) (by rw [hR]; exact Nat.le_of_ble_eq_true rfl) (by rw [hR]; exact Nat.le_of_ble_eq_true rfl) dX6_init_21 (fun a7 r7 => ?_)
    refine an_putF E hin flX6_16 rfl 0 rfl ⟨rfl, rfl⟩ (Nat.le_of_ble_eq_true rfl) dX6_init_25 ?_
    refine an_aload_n E dX6_init_28 0 rfl ?_
    refine an_sipush (v := 160) E dX6_init_29 (by decide) ?_
    refine an_newI (N := 160) E (by decide) (by decide) (by decide) (by rw [hR]; exact Nat.le_of_ble_eq_true rfl) (by rw [hR]; exact Nat.le_of_ble_eq_true rfl) dX6_init_32 (fun a14 => ?_)
    refine an_putF E hin flX6_19 rfl 0 rfl ⟨rfl, rfl⟩ (Nat.le_of_ble_eq_true rfl) dX6_init_34 ?_
    refine an_aload_n E dX6_init_37 0 rfl ?_
    refine an_bipush (v := 6) E dX6_init_38 (by decide) ?_
    refine an_newI (N := 6) E (by decide) (by decide) (by decide) (by rw [hR]; exact Nat.le_of_ble_eq_true rfl) (by rw [hR]; exact Nat.le_of_ble_eq_true rfl) dX6_init_40 (fun a15 => ?_)
    refine an_putF E hin flX6_25 rfl 0 rfl ⟨rfl, rfl⟩ (Nat.le_of_ble_eq_true rfl) dX6_init_42 ?_
    refine an_cg 1 (f' := fun j => some ((fun k => [a0, r0 0, r0 1, r0 2, r0 3, r0 4, r0 5, a7, r7 0, r7 1, r7 2, r7 3, r7 4, r7 5, a14, a15].getD k 0) (1 + j))) rfl (by intro j hj; match j, hj with | 0, _ => rfl | 1, _ => rfl | 2, _ => rfl | 3, _ => rfl | 4, _ => rfl | 5, _ => rfl | j + 6, h => omega) ?_
    refine an_cg 8 (f' := fun j => some ((fun k => [a0, r0 0, r0 1, r0 2, r0 3, r0 4, r0 5, a7, r7 0, r7 1, r7 2, r7 3, r7 4, r7 5, a14, a15].getD k 0) (8 + j))) rfl (by intro j hj; match j, hj with | 0, _ => rfl | 1, _ => rfl | 2, _ => rfl | 3, _ => rfl | 4, _ => rfl | 5, _ => rfl | j + 6, h => omega) ?_
    exact hret 45 _ (fun k => [a0, r0 0, r0 1, r0 2, r0 3, r0 4, r0 5, a7, r7 0, r7 1, r7 2, r7 3, r7 4, r7 5, a14, a15].getD k 0) dX6_init_45
