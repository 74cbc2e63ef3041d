/-! HomeByAnotherWay(): the sheets; all cells as a world (printed by wip/gen/mk_ctor8.py) -/
set_option maxHeartbeats 4000000 in
set_option maxRecDepth 100000 in
theorem x8_first {Z : CtxZ} {h0 : Nat} (hR : zR Z = rm8) (E : EN Z cX8_init 2 RX8) (hin : (yt (zY Z)).name = "<init>")
    (rest : ∀ ad : Nat → Nat, ad 0 = h0 → AN Z 2 51 30930 146 [(1, .int (nI 4)), (0, .ref h0)] [] ([] ++ wl (wZ Z ad 52 shX) MX0)) :
    AN Z 2 0 0 0 [(0, .ref h0)] [] [(h0, .inr (8, [.null, .null, .null, .int 0, .null, .null, .null, .null, .null, .null, .null]))] := by
  refine x8_A hR E hin (fun q0 u0 q1 u1 q2 u2 q3 u3 q4 u4 q5 u5 q6 u6 q7 u7 q8 u8 q43 => ?_)
  refine an_iconst (v := 0) E dX8_init_120 (by decide) ?_
  refine an_istore_n (L1 := [(1, .int (nI 0)), (0, .ref h0)]) E dX8_init_121 (by decide) rfl ?_
  refine an_iload_n E dX8_init_122 0 rfl ?_
  refine an_iconst (v := 4) E dX8_init_123 (by decide) ?_
  refine an_icmp_ge (tgt := 146) E dX8_init_124 (by decide) (fun z => absurd z (by decide)) (fun _ => ?_)
  refine x8_sheet hR E (i := 0) (by decide) rfl rfl rfl ⟨Nat.le_of_ble_eq_true rfl, Nat.le_of_ble_eq_true rfl⟩ (fun s0 v0 => ?_)
  refine an_iinc (v := nI 1) (L1 := [(1, .int (nI 1)), (0, .ref h0)]) E dX8_init_140 (k := 0) rfl (by decide) (by decide) rfl ?_
  refine an_goto (tgt := 122) E dX8_init_143 (by decide) ?_
  refine an_iload_n E dX8_init_122 0 rfl ?_
  refine an_iconst (v := 4) E dX8_init_123 (by decide) ?_
  refine an_icmp_ge (tgt := 146) E dX8_init_124 (by decide) (fun z => absurd z (by decide)) (fun _ => ?_)
  refine x8_sheet hR E (i := 1) (by decide) rfl rfl rfl ⟨Nat.le_of_ble_eq_true rfl, Nat.le_of_ble_eq_true rfl⟩ (fun s1 v1 => ?_)
  refine an_iinc (v := nI 2) (L1 := [(1, .int (nI 2)), (0, .ref h0)]) E dX8_init_140 (k := 0) rfl (by decide) (by decide) rfl ?_
  refine an_goto (tgt := 122) E dX8_init_143 (by decide) ?_
  refine an_iload_n E dX8_init_122 0 rfl ?_
  refine an_iconst (v := 4) E dX8_init_123 (by decide) ?_
  refine an_icmp_ge (tgt := 146) E dX8_init_124 (by decide) (fun z => absurd z (by decide)) (fun _ => ?_)
  refine x8_sheet hR E (i := 2) (by decide) rfl rfl rfl ⟨Nat.le_of_ble_eq_true rfl, Nat.le_of_ble_eq_true rfl⟩ (fun s2 v2 => ?_)
  refine an_iinc (v := nI 3) (L1 := [(1, .int (nI 3)), (0, .ref h0)]) E dX8_init_140 (k := 0) rfl (by decide) (by decide) rfl ?_
  refine an_goto (tgt := 122) E dX8_init_143 (by decide) ?_
  refine an_iload_n E dX8_init_122 0 rfl ?_
  refine an_iconst (v := 4) E dX8_init_123 (by decide) ?_
  refine an_icmp_ge (tgt := 146) E dX8_init_124 (by decide) (fun z => absurd z (by decide)) (fun _ => ?_)
  refine x8_sheet hR E (i := 3) (by decide) rfl rfl rfl ⟨Nat.le_of_ble_eq_true rfl, Nat.le_of_ble_eq_true rfl⟩ (fun s3 v3 => ?_)
  refine an_iinc (v := nI 4) (L1 := [(1, .int (nI 4)), (0, .ref h0)]) E dX8_init_140 (k := 0) rfl (by decide) (by decide) rfl ?_
  refine an_goto (tgt := 122) E dX8_init_143 (by decide) ?_
  refine an_iload_n E dX8_init_122 0 rfl ?_
  refine an_iconst (v := 4) E dX8_init_123 (by decide) ?_
  refine an_icmp_ge (tgt := 146) E dX8_init_124 (by decide) (fun _ => ?_) (fun z => absurd (by decide) z)
  refine an_cg 16 (f' := fun j => some ((fun k => [h0, q0, q1, q2, q3, u3 0, u3 1, u3 2, u3 3, u3 4, q4, u4 0, u4 1, u4 2, q5, u5 0, u5 1, u5 2, u5 3, u5 4, u5 5, u5 6, u5 7, u5 8, u5 9, u5 10, u5 11, u5 12, u5 13, u5 14, u5 15, q6, u6 0, u6 1, u6 2, u6 3, u6 4, q7, u7 0, u7 1, u7 2, u7 3, q8, q43, s0, s1, s2, s3, v0 0, v1 0, v2 0, v3 0].getD k 0) (16 + j))) rfl (by intro j hj; match j, hj with | 0, _ => rfl | 1, _ => rfl | 2, _ => rfl | 3, _ => rfl | 4, _ => rfl | 5, _ => rfl | j + 6, h => omega) ?_
  refine an_cg 23 (f' := fun j => some ((fun k => [h0, q0, q1, q2, q3, u3 0, u3 1, u3 2, u3 3, u3 4, q4, u4 0, u4 1, u4 2, q5, u5 0, u5 1, u5 2, u5 3, u5 4, u5 5, u5 6, u5 7, u5 8, u5 9, u5 10, u5 11, u5 12, u5 13, u5 14, u5 15, q6, u6 0, u6 1, u6 2, u6 3, u6 4, q7, u7 0, u7 1, u7 2, u7 3, q8, q43, s0, s1, s2, s3, v0 0, v1 0, v2 0, v3 0].getD k 0) (23 + j))) rfl (by intro j hj; match j, hj with | 0, _ => rfl | 1, _ => rfl | 2, _ => rfl | 3, _ => rfl | 4, _ => rfl | 5, _ => rfl | j + 6, h => omega) ?_
  refine an_cg 1 (f' := fun j => some ((fun k => [h0, q0, q1, q2, q3, u3 0, u3 1, u3 2, u3 3, u3 4, q4, u4 0, u4 1, u4 2, q5, u5 0, u5 1, u5 2, u5 3, u5 4, u5 5, u5 6, u5 7, u5 8, u5 9, u5 10, u5 11, u5 12, u5 13, u5 14, u5 15, q6, u6 0, u6 1, u6 2, u6 3, u6 4, q7, u7 0, u7 1, u7 2, u7 3, q8, q43, s0, s1, s2, s3, v0 0, v1 0, v2 0, v3 0].getD k 0) (44 + j))) rfl (by intro j hj; match j, hj with | 0, _ => rfl | 1, _ => rfl | 2, _ => rfl | 3, _ => rfl | j + 4, h => omega) ?_
  exact an_world (ws' := [] ++ wl (wZ Z (fun k => [h0, q0, q1, q2, q3, u3 0, u3 1, u3 2, u3 3, u3 4, q4, u4 0, u4 1, u4 2, q5, u5 0, u5 1, u5 2, u5 3, u5 4, u5 5, u5 6, u5 7, u5 8, u5 9, u5 10, u5 11, u5 12, u5 13, u5 14, u5 15, q6, u6 0, u6 1, u6 2, u6 3, u6 4, q7, u7 0, u7 1, u7 2, u7 3, q8, q43, s0, s1, s2, s3, v0 0, v1 0, v2 0, v3 0].getD k 0) 52 shX) MX0) (fun H hP hD => ⟨hP.sub [0, 2, 3, 4, 5, 6, 7, 8, 9, 10, 11, 12, 13, 14, 15, 16, 17, 18, 19, 20, 21, 22, 23, 24, 25, 26, 27, 28, 29, 30, 31, 32, 33, 34, 35, 36, 37, 38, 39, 40, 41, 42, 43, 1, 44, 46, 48, 50, 45, 47, 49, 51] rfl, hD.sub [0, 2, 3, 4, 5, 6, 7, 8, 9, 10, 11, 12, 13, 14, 15, 16, 17, 18, 19, 20, 21, 22, 23, 24, 25, 26, 27, 28, 29, 30, 31, 32, 33, 34, 35, 36, 37, 38, 39, 40, 41, 42, 43, 1, 44, 46, 48, 50, 45, 47, 49, 51] (by decide) rfl⟩) (rest (fun k => [h0, q0, q1, q2, q3, u3 0, u3 1, u3 2, u3 3, u3 4, q4, u4 0, u4 1, u4 2, q5, u5 0, u5 1, u5 2, u5 3, u5 4, u5 5, u5 6, u5 7, u5 8, u5 9, u5 10, u5 11, u5 12, u5 13, u5 14, u5 15, q6, u6 0, u6 1, u6 2, u6 3, u6 4, q7, u7 0, u7 1, u7 2, u7 3, q8, q43, s0, s1, s2, s3, v0 0, v1 0, v2 0, v3 0].getD k 0) rfl)
