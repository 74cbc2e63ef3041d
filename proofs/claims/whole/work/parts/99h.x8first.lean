/-! HomeByAnotherWay(): its cells are made (printed by wip/gen/mk_ctor8.py) -/
/-- the class's memory when its cells stand -/
def MX0 : Mem := (fun k => match k with | 1 => (fun j => if j = 1 then 8 else 0) | 44 => (fun j => if j = 1 then -1 else 0) | 45 => (fun j => if j = 1 then -1 else 0) | 46 => (fun j => if j = 1 then -1 else 0) | 47 => (fun j => if j = 1 then -1 else 0) | _ => (fun _ => 0), fun _ _ => 0)
abbrev rm8 : Room := { frames := 200, cells := 51, slots := 30930, locals := 9000 }
set_option maxHeartbeats 4000000 in
set_option maxRecDepth 100000 in
theorem x8_first {Z : CtxZ} {h0 : Nat} (hR : zR Z = rm8) (E : EN Z cX8_init 2 RX8) (hin : (yt (zY Z)).name = "<init>")
    (rest : ∀ ad : Nat → Nat, ad 0 = h0 → AN Z 2 51 30930 146 [(1, .int 4), (0, .ref h0)] [] ([] ++ wl (wZ Z ad 52 shX) MX0)) :
    AN Z 2 0 0 0 [(0, .ref h0)] [] [(h0, .inr (8, [.null, .null, .null, .int 0, .null, .null, .null, .null, .null, .null, .null]))] := by
  refine an_aload_n E dX8_init_0 0 rfl ?_
  refine an_obj E gt_oX8 dX8_init_1 (by rw [hR]; exact Nat.le_of_ble_eq_true rfl) (by rw [hR]; exact Nat.le_of_ble_eq_true rfl) ?_
  refine an_aload_n E dX8_init_4 0 rfl ?_
  refine an_new (ci := 1) (fs := [.int 0, .int 0, .int 0, .int 0, .int 0, .int 0]) E rfl ginX1 tyX1_ok gt_nX1 (by decide) (by rw [hR]; exact Nat.le_of_ble_eq_true rfl) (by rw [hR]; exact Nat.le_of_ble_eq_true rfl) dX8_init_5 (fun q0 => ?_)
  refine an_dup E dX8_init_8 rfl ?_
  refine an_callN E rfl miX1 (by decide +kernel) (ciX1 (yl (zY Z)) (zg Z)) ⟨rfl, rfl⟩ ⟨(by rw [hR]; exact Nat.le_of_ble_eq_true rfl), (by rw [hR]; exact Nat.le_of_ble_eq_true rfl)⟩ (Nat.le_of_ble_eq_true rfl) ⟨(by rw [hR]; exact Nat.le_of_ble_eq_true rfl), (by rw [hR]; exact Nat.le_of_ble_eq_true rfl)⟩ dX8_init_9 (fun u0 => ?_)
  refine an_putF E hin flX8_12 rfl 0 rfl ⟨rfl, rfl⟩ (Nat.le_of_ble_eq_true rfl) dX8_init_12 ?_
  refine an_aload_n E dX8_init_15 0 rfl ?_
  refine an_new (ci := 1) (fs := [.int 0, .int 0, .int 0, .int 0, .int 0, .int 0]) E rfl ginX1 tyX1_ok gt_nX1 (by decide) (by rw [hR]; exact Nat.le_of_ble_eq_true rfl) (by rw [hR]; exact Nat.le_of_ble_eq_true rfl) dX8_init_16 (fun q1 => ?_)
  refine an_dup E dX8_init_19 rfl ?_
  refine an_callN E rfl miX1 (by decide +kernel) (ciX1 (yl (zY Z)) (zg Z)) ⟨rfl, rfl⟩ ⟨(by rw [hR]; exact Nat.le_of_ble_eq_true rfl), (by rw [hR]; exact Nat.le_of_ble_eq_true rfl)⟩ (Nat.le_of_ble_eq_true rfl) ⟨(by rw [hR]; exact Nat.le_of_ble_eq_true rfl), (by rw [hR]; exact Nat.le_of_ble_eq_true rfl)⟩ dX8_init_20 (fun u1 => ?_)
  refine an_putF E hin flX8_16 rfl 0 rfl ⟨rfl, rfl⟩ (Nat.le_of_ble_eq_true rfl) dX8_init_23 ?_
  refine an_aload_n E dX8_init_26 0 rfl ?_
  refine an_new (ci := 1) (fs := [.int 0, .int 0, .int 0, .int 0, .int 0, .int 0]) E rfl ginX1 tyX1_ok gt_nX1 (by decide) (by rw [hR]; exact Nat.le_of_ble_eq_true rfl) (by rw [hR]; exact Nat.le_of_ble_eq_true rfl) dX8_init_27 (fun q2 => ?_)
  refine an_dup E dX8_init_30 rfl ?_
  refine an_callN E rfl miX1 (by decide +kernel) (ciX1 (yl (zY Z)) (zg Z)) ⟨rfl, rfl⟩ ⟨(by rw [hR]; exact Nat.le_of_ble_eq_true rfl), (by rw [hR]; exact Nat.le_of_ble_eq_true rfl)⟩ (Nat.le_of_ble_eq_true rfl) ⟨(by rw [hR]; exact Nat.le_of_ble_eq_true rfl), (by rw [hR]; exact Nat.le_of_ble_eq_true rfl)⟩ dX8_init_31 (fun u2 => ?_)
  refine an_putF E hin flX8_19 rfl 0 rfl ⟨rfl, rfl⟩ (Nat.le_of_ble_eq_true rfl) dX8_init_34 ?_
  refine an_aload_n E dX8_init_37 0 rfl ?_
  refine an_new (ci := 3) (fs := [.null, .null, .null, .null, .null]) E rfl ginX3 tyX3_ok gt_nX3 (by decide) (by rw [hR]; exact Nat.le_of_ble_eq_true rfl) (by rw [hR]; exact Nat.le_of_ble_eq_true rfl) dX8_init_38 (fun q3 => ?_)
  refine an_dup E dX8_init_41 rfl ?_
  refine an_callN E rfl miX3 (by decide +kernel) (ciX3 (yl (zY Z)) (zg Z)) ⟨rfl, rfl⟩ ⟨(by rw [hR]; exact Nat.le_of_ble_eq_true rfl), (by rw [hR]; exact Nat.le_of_ble_eq_true rfl)⟩ (Nat.le_of_ble_eq_true rfl) ⟨(by rw [hR]; exact Nat.le_of_ble_eq_true rfl), (by rw [hR]; exact Nat.le_of_ble_eq_true rfl)⟩ dX8_init_42 (fun u3 => ?_)
  refine an_putF E hin flX8_25 rfl 0 rfl ⟨rfl, rfl⟩ (Nat.le_of_ble_eq_true rfl) dX8_init_45 ?_
  refine an_aload_n E dX8_init_48 0 rfl ?_
  refine an_new (ci := 5) (fs := [.null, .int 0, .null, .null, .int 0, .int 0, .int 0, .int 0, .int 0, .int 0]) E rfl ginX5 tyX5_ok gt_nX5 (by decide) (by rw [hR]; exact Nat.le_of_ble_eq_true rfl) (by rw [hR]; exact Nat.le_of_ble_eq_true rfl) dX8_init_49 (fun q4 => ?_)
  refine an_dup E dX8_init_52 rfl ?_
  refine an_callN E rfl miX5 (by decide +kernel) (ciX5 (yl (zY Z)) (zg Z)) ⟨rfl, rfl⟩ ⟨(by rw [hR]; exact Nat.le_of_ble_eq_true rfl), (by rw [hR]; exact Nat.le_of_ble_eq_true rfl)⟩ (Nat.le_of_ble_eq_true rfl) ⟨(by rw [hR]; exact Nat.le_of_ble_eq_true rfl), (by rw [hR]; exact Nat.le_of_ble_eq_true rfl)⟩ dX8_init_53 (fun u4 => ?_)
  refine an_putF E hin flX8_32 rfl 0 rfl ⟨rfl, rfl⟩ (Nat.le_of_ble_eq_true rfl) dX8_init_56 ?_
  refine an_aload_n E dX8_init_59 0 rfl ?_
  refine an_new (ci := 6) (fs := [.null, .null, .null, .null, .int 0]) E rfl ginX6 tyX6_ok gt_nX6 (by decide) (by rw [hR]; exact Nat.le_of_ble_eq_true rfl) (by rw [hR]; exact Nat.le_of_ble_eq_true rfl) dX8_init_60 (fun q5 => ?_)
  refine an_dup E dX8_init_63 rfl ?_
  refine an_callN E rfl miX6 (by decide +kernel) (ciX6 (yl (zY Z)) (zg Z)) ⟨rfl, rfl⟩ ⟨(by rw [hR]; exact Nat.le_of_ble_eq_true rfl), (by rw [hR]; exact Nat.le_of_ble_eq_true rfl)⟩ (Nat.le_of_ble_eq_true rfl) ⟨(by rw [hR]; exact Nat.le_of_ble_eq_true rfl), (by rw [hR]; exact Nat.le_of_ble_eq_true rfl)⟩ dX8_init_64 (fun u5 => ?_)
  refine an_putF E hin flX8_39 rfl 0 rfl ⟨rfl, rfl⟩ (Nat.le_of_ble_eq_true rfl) dX8_init_67 ?_
  refine an_aload_n E dX8_init_70 0 rfl ?_
  refine an_new (ci := 7) (fs := [.int 0, .int 0, .int 0, .int 0, .null, .null, .null, .null, .null]) E rfl ginX7 tyX7_ok gt_nX7 (by decide) (by rw [hR]; exact Nat.le_of_ble_eq_true rfl) (by rw [hR]; exact Nat.le_of_ble_eq_true rfl) dX8_init_71 (fun q6 => ?_)
  refine an_dup E dX8_init_74 rfl ?_
  refine an_callN E rfl miX7 (by decide +kernel) (ciX7 (yl (zY Z)) (zg Z)) ⟨rfl, rfl⟩ ⟨(by rw [hR]; exact Nat.le_of_ble_eq_true rfl), (by rw [hR]; exact Nat.le_of_ble_eq_true rfl)⟩ (Nat.le_of_ble_eq_true rfl) ⟨(by rw [hR]; exact Nat.le_of_ble_eq_true rfl), (by rw [hR]; exact Nat.le_of_ble_eq_true rfl)⟩ dX8_init_75 (fun u6 => ?_)
  refine an_putF E hin flX8_46 rfl 0 rfl ⟨rfl, rfl⟩ (Nat.le_of_ble_eq_true rfl) dX8_init_78 ?_
  refine an_aload_n E dX8_init_81 0 rfl ?_
  refine an_new (ci := 0) (fs := [.null, .null, .null, .null, .int 0, .int 0]) E rfl ginX0 tyX0_ok gt_nX0 (by decide) (by rw [hR]; exact Nat.le_of_ble_eq_true rfl) (by rw [hR]; exact Nat.le_of_ble_eq_true rfl) dX8_init_82 (fun q7 => ?_)
  refine an_dup E dX8_init_85 rfl ?_
  refine an_callN E rfl miX0 (by decide +kernel) (ciX0 (yl (zY Z)) (zg Z)) ⟨rfl, rfl⟩ ⟨(by rw [hR]; exact Nat.le_of_ble_eq_true rfl), (by rw [hR]; exact Nat.le_of_ble_eq_true rfl)⟩ (Nat.le_of_ble_eq_true rfl) ⟨(by rw [hR]; exact Nat.le_of_ble_eq_true rfl), (by rw [hR]; exact Nat.le_of_ble_eq_true rfl)⟩ dX8_init_86 (fun u7 => ?_)
  refine an_putF E hin flX8_53 rfl 0 rfl ⟨rfl, rfl⟩ (Nat.le_of_ble_eq_true rfl) dX8_init_89 ?_
  refine an_aload_n E dX8_init_92 0 rfl ?_
  refine an_new (ci := 4) (fs := [.int 0, .int 0, .int 0]) E rfl ginX4 tyX4_ok gt_nX4 (by decide) (by rw [hR]; exact Nat.le_of_ble_eq_true rfl) (by rw [hR]; exact Nat.le_of_ble_eq_true rfl) dX8_init_93 (fun q8 => ?_)
  refine an_dup E dX8_init_96 rfl ?_
  refine an_callN E rfl miX4 (by decide +kernel) (ciX4 (yl (zY Z)) (zg Z)) ⟨rfl, rfl⟩ ⟨(by rw [hR]; exact Nat.le_of_ble_eq_true rfl), (by rw [hR]; exact Nat.le_of_ble_eq_true rfl)⟩ (Nat.le_of_ble_eq_true rfl) ⟨(by rw [hR]; exact Nat.le_of_ble_eq_true rfl), (by rw [hR]; exact Nat.le_of_ble_eq_true rfl)⟩ dX8_init_97 (fun u8 => ?_)
  refine an_putF E hin flX8_60 rfl 0 rfl ⟨rfl, rfl⟩ (Nat.le_of_ble_eq_true rfl) dX8_init_100 ?_
  refine an_aload_n E dX8_init_103 0 rfl ?_
  refine an_iconst (v := 4) E dX8_init_104 (by decide) ?_
  refine an_newS (N := 4) E gt_cX8 (by decide) (by decide) (by decide) (by rw [hR]; exact Nat.le_of_ble_eq_true rfl) (by rw [hR]; exact Nat.le_of_ble_eq_true rfl) dX8_init_105 (fun q43 => ?_)
  refine an_putF E hin flX8_66 rfl 0 rfl ⟨rfl, rfl⟩ (Nat.le_of_ble_eq_true rfl) dX8_init_108 ?_
  refine an_aload_n E dX8_init_111 0 rfl ?_
  refine an_get E flX8_12 0 rfl rfl dX8_init_112 ?_
  refine an_bipush (v := 8) E dX8_init_115 (by decide) ?_
  refine an_put E flX8_70 1 rfl ⟨rfl, rfl⟩ (Nat.le_of_ble_eq_true rfl) dX8_init_117 ?_
  refine an_iconst (v := 0) E dX8_init_120 (by decide) ?_
  refine an_istore_n (L1 := [(1, .int 0), (0, .ref h0)]) E dX8_init_121 (by decide) rfl ?_
  refine an_iload_n E dX8_init_122 0 rfl ?_
  refine an_iconst (v := 4) E dX8_init_123 (by decide) ?_
  refine an_icmp_ge (tgt := 146) E dX8_init_124 (by decide) (fun z => absurd z (by decide)) (fun _ => ?_)
  refine an_aload_n E dX8_init_127 1 rfl ?_
  refine an_get E flX8_66 0 rfl rfl dX8_init_128 ?_
  refine an_iload_n E dX8_init_131 0 rfl ?_
  refine an_new (ci := 2) (fs := [.null, .int 0, .int 0]) E rfl ginX2 tyX2_ok gt_nX2 (by decide) (by rw [hR]; exact Nat.le_of_ble_eq_true rfl) (by rw [hR]; exact Nat.le_of_ble_eq_true rfl) dX8_init_132 (fun q9 => ?_)
  refine an_dup E dX8_init_135 rfl ?_
  refine an_callN E rfl miX2 (by decide +kernel) (ciX2 (yl (zY Z)) (zg Z)) ⟨rfl, rfl⟩ ⟨(by rw [hR]; exact Nat.le_of_ble_eq_true rfl), (by rw [hR]; exact Nat.le_of_ble_eq_true rfl)⟩ (Nat.le_of_ble_eq_true rfl) ⟨(by rw [hR]; exact Nat.le_of_ble_eq_true rfl), (by rw [hR]; exact Nat.le_of_ble_eq_true rfl)⟩ dX8_init_136 (fun u9 => ?_)
  refine an_astS E 43 44 rfl rfl (by unfold vp_in; decide) rfl dX8_init_139 ?_
  refine an_iinc (v := 1) (L1 := [(1, .int 1), (0, .ref h0)]) E dX8_init_140 (k := 0) rfl (by decide) (by decide) rfl ?_
  refine an_goto (tgt := 122) E dX8_init_143 (by decide) ?_
  refine an_iload_n E dX8_init_122 0 rfl ?_
  refine an_iconst (v := 4) E dX8_init_123 (by decide) ?_
  refine an_icmp_ge (tgt := 146) E dX8_init_124 (by decide) (fun z => absurd z (by decide)) (fun _ => ?_)
  refine an_aload_n E dX8_init_127 1 rfl ?_
  refine an_get E flX8_66 0 rfl rfl dX8_init_128 ?_
  refine an_iload_n E dX8_init_131 0 rfl ?_
  refine an_new (ci := 2) (fs := [.null, .int 0, .int 0]) E rfl ginX2 tyX2_ok gt_nX2 (by decide) (by rw [hR]; exact Nat.le_of_ble_eq_true rfl) (by rw [hR]; exact Nat.le_of_ble_eq_true rfl) dX8_init_132 (fun q10 => ?_)
  refine an_dup E dX8_init_135 rfl ?_
  refine an_callN E rfl miX2 (by decide +kernel) (ciX2 (yl (zY Z)) (zg Z)) ⟨rfl, rfl⟩ ⟨(by rw [hR]; exact Nat.le_of_ble_eq_true rfl), (by rw [hR]; exact Nat.le_of_ble_eq_true rfl)⟩ (Nat.le_of_ble_eq_true rfl) ⟨(by rw [hR]; exact Nat.le_of_ble_eq_true rfl), (by rw [hR]; exact Nat.le_of_ble_eq_true rfl)⟩ dX8_init_136 (fun u10 => ?_)
  refine an_astS E 43 46 rfl rfl (by unfold vp_in; decide) rfl dX8_init_139 ?_
  refine an_iinc (v := 2) (L1 := [(1, .int 2), (0, .ref h0)]) E dX8_init_140 (k := 0) rfl (by decide) (by decide) rfl ?_
  refine an_goto (tgt := 122) E dX8_init_143 (by decide) ?_
  refine an_iload_n E dX8_init_122 0 rfl ?_
  refine an_iconst (v := 4) E dX8_init_123 (by decide) ?_
  refine an_icmp_ge (tgt := 146) E dX8_init_124 (by decide) (fun z => absurd z (by decide)) (fun _ => ?_)
  refine an_aload_n E dX8_init_127 1 rfl ?_
  refine an_get E flX8_66 0 rfl rfl dX8_init_128 ?_
  refine an_iload_n E dX8_init_131 0 rfl ?_
  refine an_new (ci := 2) (fs := [.null, .int 0, .int 0]) E rfl ginX2 tyX2_ok gt_nX2 (by decide) (by rw [hR]; exact Nat.le_of_ble_eq_true rfl) (by rw [hR]; exact Nat.le_of_ble_eq_true rfl) dX8_init_132 (fun q11 => ?_)
  refine an_dup E dX8_init_135 rfl ?_
  refine an_callN E rfl miX2 (by decide +kernel) (ciX2 (yl (zY Z)) (zg Z)) ⟨rfl, rfl⟩ ⟨(by rw [hR]; exact Nat.le_of_ble_eq_true rfl), (by rw [hR]; exact Nat.le_of_ble_eq_true rfl)⟩ (Nat.le_of_ble_eq_true rfl) ⟨(by rw [hR]; exact Nat.le_of_ble_eq_true rfl), (by rw [hR]; exact Nat.le_of_ble_eq_true rfl)⟩ dX8_init_136 (fun u11 => ?_)
  refine an_astS E 43 48 rfl rfl (by unfold vp_in; decide) rfl dX8_init_139 ?_
  refine an_iinc (v := 3) (L1 := [(1, .int 3), (0, .ref h0)]) E dX8_init_140 (k := 0) rfl (by decide) (by decide) rfl ?_
  refine an_goto (tgt := 122) E dX8_init_143 (by decide) ?_
  refine an_iload_n E dX8_init_122 0 rfl ?_
  refine an_iconst (v := 4) E dX8_init_123 (by decide) ?_
  refine an_icmp_ge (tgt := 146) E dX8_init_124 (by decide) (fun z => absurd z (by decide)) (fun _ => ?_)
  refine an_aload_n E dX8_init_127 1 rfl ?_
  refine an_get E flX8_66 0 rfl rfl dX8_init_128 ?_
  refine an_iload_n E dX8_init_131 0 rfl ?_
  refine an_new (ci := 2) (fs := [.null, .int 0, .int 0]) E rfl ginX2 tyX2_ok gt_nX2 (by decide) (by rw [hR]; exact Nat.le_of_ble_eq_true rfl) (by rw [hR]; exact Nat.le_of_ble_eq_true rfl) dX8_init_132 (fun q12 => ?_)
  refine an_dup E dX8_init_135 rfl ?_
  refine an_callN E rfl miX2 (by decide +kernel) (ciX2 (yl (zY Z)) (zg Z)) ⟨rfl, rfl⟩ ⟨(by rw [hR]; exact Nat.le_of_ble_eq_true rfl), (by rw [hR]; exact Nat.le_of_ble_eq_true rfl)⟩ (Nat.le_of_ble_eq_true rfl) ⟨(by rw [hR]; exact Nat.le_of_ble_eq_true rfl), (by rw [hR]; exact Nat.le_of_ble_eq_true rfl)⟩ dX8_init_136 (fun u12 => ?_)
  refine an_astS E 43 50 rfl rfl (by unfold vp_in; decide) rfl dX8_init_139 ?_
  refine an_iinc (v := 4) (L1 := [(1, .int 4), (0, .ref h0)]) E dX8_init_140 (k := 0) rfl (by decide) (by decide) rfl ?_
  refine an_goto (tgt := 122) E dX8_init_143 (by decide) ?_
  refine an_iload_n E dX8_init_122 0 rfl ?_
  refine an_iconst (v := 4) E dX8_init_123 (by decide) ?_
  refine an_icmp_ge (tgt := 146) E dX8_init_124 (by decide) (fun _ => ?_) (fun z => absurd (by decide) z)
  refine an_cg 15 (f' := fun j => some ((fun k => [h0, q0, q1, q2, q3, u3 0, u3 1, u3 2, u3 3, u3 4, q4, u4 0, u4 1, u4 2, q5, u5 0, u5 1, u5 2, u5 3, u5 4, u5 5, u5 6, u5 7, u5 8, u5 9, u5 10, u5 11, u5 12, u5 13, u5 14, u5 15, q6, u6 0, u6 1, u6 2, u6 3, u6 4, q7, u7 0, u7 1, u7 2, u7 3, q8, q43, q9, q10, q11, q12, u9 0, u10 0, u11 0, u12 0].getD k 0) (16 + j))) rfl (by intro j hj; match j, hj with | 0, _ => rfl | 1, _ => rfl | 2, _ => rfl | 3, _ => rfl | 4, _ => rfl | 5, _ => rfl | j + 6, h => omega) ?_
  refine an_cg 22 (f' := fun j => some ((fun k => [h0, q0, q1, q2, q3, u3 0, u3 1, u3 2, u3 3, u3 4, q4, u4 0, u4 1, u4 2, q5, u5 0, u5 1, u5 2, u5 3, u5 4, u5 5, u5 6, u5 7, u5 8, u5 9, u5 10, u5 11, u5 12, u5 13, u5 14, u5 15, q6, u6 0, u6 1, u6 2, u6 3, u6 4, q7, u7 0, u7 1, u7 2, u7 3, q8, q43, q9, q10, q11, q12, u9 0, u10 0, u11 0, u12 0].getD k 0) (23 + j))) rfl (by intro j hj; match j, hj with | 0, _ => rfl | 1, _ => rfl | 2, _ => rfl | 3, _ => rfl | 4, _ => rfl | 5, _ => rfl | j + 6, h => omega) ?_
  refine an_cg 43 (f' := fun j => some ((fun k => [h0, q0, q1, q2, q3, u3 0, u3 1, u3 2, u3 3, u3 4, q4, u4 0, u4 1, u4 2, q5, u5 0, u5 1, u5 2, u5 3, u5 4, u5 5, u5 6, u5 7, u5 8, u5 9, u5 10, u5 11, u5 12, u5 13, u5 14, u5 15, q6, u6 0, u6 1, u6 2, u6 3, u6 4, q7, u7 0, u7 1, u7 2, u7 3, q8, q43, q9, q10, q11, q12, u9 0, u10 0, u11 0, u12 0].getD k 0) (44 + j))) rfl (by intro j hj; match j, hj with | 0, _ => rfl | 1, _ => rfl | 2, _ => rfl | 3, _ => rfl | j + 4, h => omega) ?_
  refine an_world (ws' := [] ++ wl (wZ Z (fun k => [h0, q0, q1, q2, q3, u3 0, u3 1, u3 2, u3 3, u3 4, q4, u4 0, u4 1, u4 2, q5, u5 0, u5 1, u5 2, u5 3, u5 4, u5 5, u5 6, u5 7, u5 8, u5 9, u5 10, u5 11, u5 12, u5 13, u5 14, u5 15, q6, u6 0, u6 1, u6 2, u6 3, u6 4, q7, u7 0, u7 1, u7 2, u7 3, q8, q43, q9, q10, q11, q12, u9 0, u10 0, u11 0, u12 0].getD k 0) 52 shX) MX0) (fun H hP hD => ⟨hP.sub [0, 1, 2, 3, 4, 5, 6, 7, 8, 9, 10, 11, 12, 13, 14, 15, 16, 17, 18, 19, 20, 21, 22, 23, 24, 25, 26, 27, 28, 29, 30, 31, 32, 33, 34, 35, 36, 37, 38, 39, 40, 41, 42, 43, 44, 46, 48, 50, 45, 47, 49, 51] rfl, hD.sub [0, 1, 2, 3, 4, 5, 6, 7, 8, 9, 10, 11, 12, 13, 14, 15, 16, 17, 18, 19, 20, 21, 22, 23, 24, 25, 26, 27, 28, 29, 30, 31, 32, 33, 34, 35, 36, 37, 38, 39, 40, 41, 42, 43, 44, 46, 48, 50, 45, 47, 49, 51] (by decide) rfl⟩) ?_
  exact rest (fun k => [h0, q0, q1, q2, q3, u3 0, u3 1, u3 2, u3 3, u3 4, q4, u4 0, u4 1, u4 2, q5, u5 0, u5 1, u5 2, u5 3, u5 4, u5 5, u5 6, u5 7, u5 8, u5 9, u5 10, u5 11, u5 12, u5 13, u5 14, u5 15, q6, u6 0, u6 1, u6 2, u6 3, u6 4, q7, u7 0, u7 1, u7 2, u7 3, q8, q43, q9, q10, q11, q12, u9 0, u10 0, u11 0, u12 0].getD k 0) rfl
