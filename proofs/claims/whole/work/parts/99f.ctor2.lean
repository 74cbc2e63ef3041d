/-! Constructors: rows made (printed by wip/gen/mk_ctor.py) -/
set_option maxRecDepth 20000 in
/-- Streets() -/
theorem ciX3 (l : Launch) (g : CtxG) : CI l g yX3_init cX3_init 1 (rmN 5 60) 5 60 3 [.null, .null, .null, .null, .null] (fun h0 u => [(h0, .inr (3, [.ref (u 0), .ref (u 1), .ref (u 2), .ref (u 3), .ref (u 4)])), (u 0, .inl (g.2.1, 12, .inl (fun _ => 0))), (u 1, .inl (g.2.1, 12, .inl (fun _ => 0))), (u 2, .inl (g.2.1, 12, .inl (fun _ => 0))), (u 3, .inl (g.2.1, 12, .inl (fun _ => 0))), (u 4, .inl (g.2.1, 12, .inl (fun _ => 0)))]) :=
  CI.of (by decide +kernel) rfl (by decide) fun Z h0 hl hg hR E hin hret => by
    subst hg
    refine an_aload_n E dX3_init_0 0 rfl ?_
    refine an_obj E gt_oX3 dX3_init_1 (by rw [hR]; decide) (by rw [hR]; decide) ?_
    refine an_aload_n E dX3_init_4 0 rfl ?_
    refine an_bipush (v := 12) E dX3_init_5 (by decide) ?_
    refine an_newI (N := 12) E (by decide) (by decide) (by decide) (by rw [hR]; exact Nat.le_of_ble_eq_true rfl) (by rw [hR]; exact Nat.le_of_ble_eq_true rfl) dX3_init_7 (fun a0 => ?_)
    refine an_putF E hin flX3_9 rfl 0 rfl ⟨rfl, rfl⟩ (Nat.le_of_ble_eq_true rfl) dX3_init_9 ?_
    refine an_aload_n E dX3_init_12 0 rfl ?_
    refine an_bipush (v := 12) E dX3_init_13 (by decide) ?_
    refine an_newI (N := 12) E (by decide) (by decide) (by decide) (by rw [hR]; exact Nat.le_of_ble_eq_true rfl) (by rw [hR]; exact Nat.le_of_ble_eq_true rfl) dX3_init_15 (fun a1 => ?_)
    refine an_putF E hin flX3_15 rfl 0 rfl ⟨rfl, rfl⟩ (Nat.le_of_ble_eq_true rfl) dX3_init_17 ?_
    refine an_aload_n E dX3_init_20 0 rfl ?_
    refine an_bipush (v := 12) E dX3_init_21 (by decide) ?_
    refine an_newI (N := 12) E (by decide) (by decide) (by decide) (by rw [hR]; exact Nat.le_of_ble_eq_true rfl) (by rw [hR]; exact Nat.le_of_ble_eq_true rfl) dX3_init_23 (fun a2 => ?_)
    refine an_putF E hin flX3_18 rfl 0 rfl ⟨rfl, rfl⟩ (Nat.le_of_ble_eq_true rfl) dX3_init_25 ?_
    refine an_aload_n E dX3_init_28 0 rfl ?_
    refine an_bipush (v := 12) E dX3_init_29 (by decide) ?_
    refine an_newI (N := 12) E (by decide) (by decide) (by decide) (by rw [hR]; exact Nat.le_of_ble_eq_true rfl) (by rw [hR]; exact Nat.le_of_ble_eq_true rfl) dX3_init_31 (fun a3 => ?_)
    refine an_putF E hin flX3_21 rfl 0 rfl ⟨rfl, rfl⟩ (Nat.le_of_ble_eq_true rfl) dX3_init_33 ?_
    refine an_aload_n E dX3_init_36 0 rfl ?_
    refine an_bipush (v := 12) E dX3_init_37 (by decide) ?_
    refine an_newI (N := 12) E (by decide) (by decide) (by decide) (by rw [hR]; exact Nat.le_of_ble_eq_true rfl) (by rw [hR]; exact Nat.le_of_ble_eq_true rfl) dX3_init_39 (fun a4 => ?_)
    refine an_putF E hin flX3_24 rfl 0 rfl ⟨rfl, rfl⟩ (Nat.le_of_ble_eq_true rfl) dX3_init_41 ?_
    exact hret 44 _ (fun k => [a0, a1, a2, a3, a4].getD k 0) dX3_init_44
set_option maxRecDepth 20000 in
/-- Tape() -/
theorem ciX5 (l : Launch) (g : CtxG) : CI l g yX5_init cX5_init 1 (rmN 3 323) 3 323 5 [.null, .int 0, .null, .null, .int 0, .int 0, .int 0, .int 0, .int 0, .int 0] (fun h0 u => [(h0, .inr (5, [.ref (u 0), .int 0, .ref (u 1), .ref (u 2), .int 0, .int 0, .int 0, .int 0, .int 0, .int 0])), (u 0, .inl (g.2.1, 160, .inl (fun _ => 0))), (u 1, .inl (g.2.1, 160, .inl (fun _ => 0))), (u 2, .inl (g.2.1, 3, .inl (fun _ => 0)))]) :=
  CI.of (by decide +kernel) rfl (by decide) fun Z h0 hl hg hR E hin hret => by
    subst hg
    refine an_aload_n E dX5_init_0 0 rfl ?_
    refine an_obj E gt_oX5 dX5_init_1 (by rw [hR]; decide) (by rw [hR]; decide) ?_
    refine an_aload_n E dX5_init_4 0 rfl ?_
    refine an_sipush (v := 160) E dX5_init_5 (by decide) ?_
    refine an_newI (N := 160) E (by decide) (by decide) (by decide) (by rw [hR]; exact Nat.le_of_ble_eq_true rfl) (by rw [hR]; exact Nat.le_of_ble_eq_true rfl) dX5_init_8 (fun a0 => ?_)
    refine an_putF E hin flX5_9 rfl 0 rfl ⟨rfl, rfl⟩ (Nat.le_of_ble_eq_true rfl) dX5_init_10 ?_
    refine an_aload_n E dX5_init_13 0 rfl ?_
    refine an_sipush (v := 160) E dX5_init_14 (by decide) ?_
    refine an_newI (N := 160) E (by decide) (by decide) (by decide) (by rw [hR]; exact Nat.le_of_ble_eq_true rfl) (by rw [hR]; exact Nat.le_of_ble_eq_true rfl) dX5_init_17 (fun a1 => ?_)
    refine an_putF E hin flX5_15 rfl 0 rfl ⟨rfl, rfl⟩ (Nat.le_of_ble_eq_true rfl) dX5_init_19 ?_
    refine an_aload_n E dX5_init_22 0 rfl ?_
    refine an_iconst (v := 3) E dX5_init_23 (by decide) ?_
    refine an_newI (N := 3) E (by decide) (by decide) (by decide) (by rw [hR]; exact Nat.le_of_ble_eq_true rfl) (by rw [hR]; exact Nat.le_of_ble_eq_true rfl) dX5_init_24 (fun a2 => ?_)
    refine an_putF E hin flX5_18 rfl 0 rfl ⟨rfl, rfl⟩ (Nat.le_of_ble_eq_true rfl) dX5_init_26 ?_
    exact hret 29 _ (fun k => [a0, a1, a2].getD k 0) dX5_init_29
set_option maxRecDepth 20000 in
/-- Ways() -/
theorem ciX7 (l : Launch) (g : CtxG) : CI l g yX7_init cX7_init 1 (rmN 5 487) 5 487 7 [.int 0, .int 0, .int 0, .int 0, .null, .null, .null, .null, .null] (fun h0 u => [(h0, .inr (7, [.int 0, .int 0, .int 0, .int 0, .ref (u 0), .ref (u 1), .ref (u 2), .ref (u 3), .ref (u 4)])), (u 0, .inl (g.2.1, 13, .inl (fun _ => 0))), (u 1, .inl (g.2.1, 13, .inl (fun _ => 0))), (u 2, .inl (g.2.1, 13, .inl (fun _ => 0))), (u 3, .inl (g.2.1, 32, .inl (fun _ => 0))), (u 4, .inl (g.2.1, 416, .inl (fun _ => 0)))]) :=
  CI.of (by decide +kernel) rfl (by decide) fun Z h0 hl hg hR E hin hret => by
    subst hg
    refine an_aload_n E dX7_init_0 0 rfl ?_
    refine an_obj E gt_oX7 dX7_init_1 (by rw [hR]; decide) (by rw [hR]; decide) ?_
    refine an_aload_n E dX7_init_4 0 rfl ?_
    refine an_bipush (v := 13) E dX7_init_5 (by decide) ?_
    refine an_newI (N := 13) E (by decide) (by decide) (by decide) (by rw [hR]; exact Nat.le_of_ble_eq_true rfl) (by rw [hR]; exact Nat.le_of_ble_eq_true rfl) dX7_init_7 (fun a0 => ?_)
    refine an_putF E hin flX7_9 rfl 0 rfl ⟨rfl, rfl⟩ (Nat.le_of_ble_eq_true rfl) dX7_init_9 ?_
    refine an_aload_n E dX7_init_12 0 rfl ?_
    refine an_bipush (v := 13) E dX7_init_13 (by decide) ?_
    refine an_newI (N := 13) E (by decide) (by decide) (by decide) (by rw [hR]; exact Nat.le_of_ble_eq_true rfl) (by rw [hR]; exact Nat.le_of_ble_eq_true rfl) dX7_init_15 (fun a1 => ?_)
    refine an_putF E hin flX7_15 rfl 0 rfl ⟨rfl, rfl⟩ (Nat.le_of_ble_eq_true rfl) dX7_init_17 ?_
    refine an_aload_n E dX7_init_20 0 rfl ?_
    refine an_bipush (v := 13) E dX7_init_21 (by decide) ?_
    refine an_newI (N := 13) E (by decide) (by decide) (by decide) (by rw [hR]; exact Nat.le_of_ble_eq_true rfl) (by rw [hR]; exact Nat.le_of_ble_eq_true rfl) dX7_init_23 (fun a2 => ?_)
    refine an_putF E hin flX7_18 rfl 0 rfl ⟨rfl, rfl⟩ (Nat.le_of_ble_eq_true rfl) dX7_init_25 ?_
    refine an_aload_n E dX7_init_28 0 rfl ?_
    refine an_bipush (v := 32) E dX7_init_29 (by decide) ?_
    refine an_newI (N := 32) E (by decide) (by decide) (by decide) (by rw [hR]; exact Nat.le_of_ble_eq_true rfl) (by rw [hR]; exact Nat.le_of_ble_eq_true rfl) dX7_init_31 (fun a3 => ?_)
    refine an_putF E hin flX7_21 rfl 0 rfl ⟨rfl, rfl⟩ (Nat.le_of_ble_eq_true rfl) dX7_init_33 ?_
    refine an_aload_n E dX7_init_36 0 rfl ?_
    refine an_sipush (v := 416) E dX7_init_37 (by decide) ?_
    refine an_newI (N := 416) E (by decide) (by decide) (by decide) (by rw [hR]; exact Nat.le_of_ble_eq_true rfl) (by rw [hR]; exact Nat.le_of_ble_eq_true rfl) dX7_init_40 (fun a4 => ?_)
    refine an_putF E hin flX7_24 rfl 0 rfl ⟨rfl, rfl⟩ (Nat.le_of_ble_eq_true rfl) dX7_init_42 ?_
    exact hret 45 _ (fun k => [a0, a1, a2, a3, a4].getD k 0) dX7_init_45
set_option maxRecDepth 20000 in
/-- Search() -/
theorem ciX0 (l : Launch) (g : CtxG) : CI l g yX0_init cX0_init 1 (rmN 4 28672) 4 28672 0 [.null, .null, .null, .null, .int 0, .int 0] (fun h0 u => [(h0, .inr (0, [.ref (u 0), .ref (u 1), .ref (u 2), .ref (u 3), .int 0, .int 0])), (u 0, .inl (g.2.2.1, 8192, .inr (.inl (fun _ => 0)))), (u 1, .inl (g.2.1, 8192, .inl (fun _ => 0))), (u 2, .inl (g.2.1, 8192, .inl (fun _ => 0))), (u 3, .inl (g.2.1, 4096, .inl (fun _ => 0)))]) :=
  CI.of (by decide +kernel) rfl (by decide) fun Z h0 hl hg hR E hin hret => by
    subst hg
    refine an_aload_n E dX0_init_0 0 rfl ?_
    refine an_obj E gt_oX0 dX0_init_1 (by rw [hR]; decide) (by rw [hR]; decide) ?_
    refine an_aload_n E dX0_init_4 0 rfl ?_
    refine an_sipush (v := 8192) E dX0_init_5 (by decide) ?_
    refine an_newJ (N := 8192) E (by decide) (by decide) (by decide) (by rw [hR]; exact Nat.le_of_ble_eq_true rfl) (by rw [hR]; exact Nat.le_of_ble_eq_true rfl) dX0_init_8 (fun a0 => ?_)
    refine an_putF E hin flX0_11 rfl 0 rfl ⟨rfl, rfl⟩ (Nat.le_of_ble_eq_true rfl) dX0_init_10 ?_
    refine an_aload_n E dX0_init_13 0 rfl ?_
    refine an_sipush (v := 8192) E dX0_init_14 (by decide) ?_
    refine an_newI (N := 8192) E (by decide) (by decide) (by decide) (by rw [hR]; exact Nat.le_of_ble_eq_true rfl) (by rw [hR]; exact Nat.le_of_ble_eq_true rfl) dX0_init_17 (fun a1 => ?_)
    refine an_putF E hin flX0_15 rfl 0 rfl ⟨rfl, rfl⟩ (Nat.le_of_ble_eq_true rfl) dX0_init_19 ?_
    refine an_aload_n E dX0_init_22 0 rfl ?_
    refine an_sipush (v := 8192) E dX0_init_23 (by decide) ?_
    refine an_newI (N := 8192) E (by decide) (by decide) (by decide) (by rw [hR]; exact Nat.le_of_ble_eq_true rfl) (by rw [hR]; exact Nat.le_of_ble_eq_true rfl) dX0_init_26 (fun a2 => ?_)
    refine an_putF E hin flX0_19 rfl 0 rfl ⟨rfl, rfl⟩ (Nat.le_of_ble_eq_true rfl) dX0_init_28 ?_
    refine an_aload_n E dX0_init_31 0 rfl ?_
    refine an_sipush (v := 4096) E dX0_init_32 (by decide) ?_
    refine an_newI (N := 4096) E (by decide) (by decide) (by decide) (by rw [hR]; exact Nat.le_of_ble_eq_true rfl) (by rw [hR]; exact Nat.le_of_ble_eq_true rfl) dX0_init_35 (fun a3 => ?_)
    refine an_putF E hin flX0_22 rfl 0 rfl ⟨rfl, rfl⟩ (Nat.le_of_ble_eq_true rfl) dX0_init_37 ?_
    exact hret 40 _ (fun k => [a0, a1, a2, a3].getD k 0) dX0_init_40
