/-! HomeByAnotherWayModel(): all cells as a world (printed by wip/gen/mk_ctor9.py) -/
set_option maxHeartbeats 4000000 in
set_option maxRecDepth 100000 in
theorem y9_first {Z : CtxZ} {h0 : Nat} (hR : zR Z = rm9) (E : EN Z cX9_init 2 RX9) (hin : (yt (zY Z)).name = "<init>")
    (rest : ∀ ad : Nat → Nat, ad 0 = h0 → AN Z 2 22 153787 1004 [(0, .ref h0)] [] ([] ++ wl (wZ Z ad 23 shY) MY0)) :
    AN Z 2 0 0 0 [(0, .ref h0)] [] [(h0, .inr (9, [.int 0, .int 0, .int 0, .int 0, .null, .null, .null, .null, .null, .int 0, .null, .int 0, .null, .null, .int 0, .int 0, .int 0, .int 0, .int 0, .int 0, .int 0, .int 0, .int 0, .null, .null, .null, .null, .int 0, .int 0, .int 0, .int 0, .null, .null, .int 0, .int 0, .int 0, .null, .null, .null, .null, .int 0, .null, .null, .null, .int 0, .int 0, .null, .int 0, .int 0, .int 0]))] := by
  refine an_aload_n E dX9_init_0 0 rfl ?_
  refine an_obj E gt_oX9 dX9_init_1 (by rw [hR]; exact Nat.le_of_ble_eq_true rfl) (by rw [hR]; exact Nat.le_of_ble_eq_true rfl) ?_
  refine an_aload_n E dX9_init_4 0 rfl ?_
  refine an_bipush (v := 8) E dX9_init_5 (by decide) ?_
  refine an_put E flX9_7 0 rfl ⟨rfl, rfl⟩ (Nat.le_of_ble_eq_true rfl) dX9_init_7 ?_
  refine an_aload_n E dX9_init_10 0 rfl ?_
  refine an_bipush (v := 13) E dX9_init_11 (by decide) ?_
  refine an_newI (N := 13) E (by decide) (by decide) (by decide) (by rw [hR]; exact Nat.le_of_ble_eq_true rfl) (by rw [hR]; exact Nat.le_of_ble_eq_true rfl) dX9_init_13 (fun a1 => ?_)
  refine an_putF E hin flX9_13 rfl 0 rfl ⟨rfl, rfl⟩ (Nat.le_of_ble_eq_true rfl) dX9_init_15 ?_
  refine an_aload_n E dX9_init_18 0 rfl ?_
  refine an_bipush (v := 13) E dX9_init_19 (by decide) ?_
  refine an_newI (N := 13) E (by decide) (by decide) (by decide) (by rw [hR]; exact Nat.le_of_ble_eq_true rfl) (by rw [hR]; exact Nat.le_of_ble_eq_true rfl) dX9_init_21 (fun a2 => ?_)
  refine an_putF E hin flX9_17 rfl 0 rfl ⟨rfl, rfl⟩ (Nat.le_of_ble_eq_true rfl) dX9_init_23 ?_
  refine an_aload_n E dX9_init_26 0 rfl ?_
  refine an_bipush (v := 13) E dX9_init_27 (by decide) ?_
  refine an_newI (N := 13) E (by decide) (by decide) (by decide) (by rw [hR]; exact Nat.le_of_ble_eq_true rfl) (by rw [hR]; exact Nat.le_of_ble_eq_true rfl) dX9_init_29 (fun a3 => ?_)
  refine an_putF E hin flX9_20 rfl 0 rfl ⟨rfl, rfl⟩ (Nat.le_of_ble_eq_true rfl) dX9_init_31 ?_
  refine an_aload_n E dX9_init_34 0 rfl ?_
  refine an_bipush (v := 13) E dX9_init_35 (by decide) ?_
  refine an_newI (N := 13) E (by decide) (by decide) (by decide) (by rw [hR]; exact Nat.le_of_ble_eq_true rfl) (by rw [hR]; exact Nat.le_of_ble_eq_true rfl) dX9_init_37 (fun a4 => ?_)
  refine an_putF E hin flX9_23 rfl 0 rfl ⟨rfl, rfl⟩ (Nat.le_of_ble_eq_true rfl) dX9_init_39 ?_
  refine an_aload_n E dX9_init_42 0 rfl ?_
  refine an_bipush (v := 13) E dX9_init_43 (by decide) ?_
  refine an_newI (N := 13) E (by decide) (by decide) (by decide) (by rw [hR]; exact Nat.le_of_ble_eq_true rfl) (by rw [hR]; exact Nat.le_of_ble_eq_true rfl) dX9_init_45 (fun a5 => ?_)
  refine an_putF E hin flX9_26 rfl 0 rfl ⟨rfl, rfl⟩ (Nat.le_of_ble_eq_true rfl) dX9_init_47 ?_
  refine an_aload_n E dX9_init_50 0 rfl ?_
  refine an_sipush (v := 160) E dX9_init_51 (by decide) ?_
  refine an_newI (N := 160) E (by decide) (by decide) (by decide) (by rw [hR]; exact Nat.le_of_ble_eq_true rfl) (by rw [hR]; exact Nat.le_of_ble_eq_true rfl) dX9_init_54 (fun a6 => ?_)
  refine an_putF E hin flX9_29 rfl 0 rfl ⟨rfl, rfl⟩ (Nat.le_of_ble_eq_true rfl) dX9_init_56 ?_
  refine an_aload_n E dX9_init_59 0 rfl ?_
  refine an_sipush (v := 1200) E dX9_init_60 (by decide) ?_
  refine an_newI (N := 1200) E (by decide) (by decide) (by decide) (by rw [hR]; exact Nat.le_of_ble_eq_true rfl) (by rw [hR]; exact Nat.le_of_ble_eq_true rfl) dX9_init_63 (fun a7 => ?_)
  refine an_putF E hin flX9_32 rfl 0 rfl ⟨rfl, rfl⟩ (Nat.le_of_ble_eq_true rfl) dX9_init_65 ?_
  refine an_aload_n E dX9_init_68 0 rfl ?_
  refine an_bipush (v := 24) E dX9_init_69 (by decide) ?_
  refine an_newI (N := 24) E (by decide) (by decide) (by decide) (by rw [hR]; exact Nat.le_of_ble_eq_true rfl) (by rw [hR]; exact Nat.le_of_ble_eq_true rfl) dX9_init_71 (fun a8 => ?_)
  refine an_putF E hin flX9_35 rfl 0 rfl ⟨rfl, rfl⟩ (Nat.le_of_ble_eq_true rfl) dX9_init_73 ?_
  refine an_aload_n E dX9_init_76 0 rfl ?_
  refine an_iconst (v := 4) E dX9_init_77 (by decide) ?_
  refine an_newI (N := 4) E (by decide) (by decide) (by decide) (by rw [hR]; exact Nat.le_of_ble_eq_true rfl) (by rw [hR]; exact Nat.le_of_ble_eq_true rfl) dX9_init_78 (fun a9 => ?_)
  refine y9_st E rfl dX9_init_80 (fun _ _ h => an_iconst (v := nI 0) E dX9_init_81 (by decide) h) (fun _ _ h => an_iconst (v := -1) E dX9_init_82 (by decide) h) dX9_init_83 (by decide) (by decide) ?_
  refine y9_st E rfl dX9_init_84 (fun _ _ h => an_iconst (v := nI 1) E dX9_init_85 (by decide) h) (fun _ _ h => an_iconst (v := -1) E dX9_init_86 (by decide) h) dX9_init_87 (by decide) (by decide) ?_
  refine y9_st E rfl dX9_init_88 (fun _ _ h => an_iconst (v := nI 2) E dX9_init_89 (by decide) h) (fun _ _ h => an_iconst (v := -1) E dX9_init_90 (by decide) h) dX9_init_91 (by decide) (by decide) ?_
  refine y9_st E rfl dX9_init_92 (fun _ _ h => an_iconst (v := nI 3) E dX9_init_93 (by decide) h) (fun _ _ h => an_iconst (v := -1) E dX9_init_94 (by decide) h) dX9_init_95 (by decide) (by decide) ?_
  refine an_putF E hin flX9_38 rfl 0 rfl ⟨rfl, rfl⟩ (Nat.le_of_ble_eq_true rfl) dX9_init_96 ?_
  refine an_aload_n E dX9_init_99 0 rfl ?_
  refine an_iconst (v := 4) E dX9_init_100 (by decide) ?_
  refine an_newI (N := 4) E (by decide) (by decide) (by decide) (by rw [hR]; exact Nat.le_of_ble_eq_true rfl) (by rw [hR]; exact Nat.le_of_ble_eq_true rfl) dX9_init_101 (fun a10 => ?_)
  refine an_putF E hin flX9_41 rfl 0 rfl ⟨rfl, rfl⟩ (Nat.le_of_ble_eq_true rfl) dX9_init_103 ?_
  refine an_aload_n E dX9_init_106 0 rfl ?_
  refine an_sipush (v := 160) E dX9_init_107 (by decide) ?_
  refine an_newI (N := 160) E (by decide) (by decide) (by decide) (by rw [hR]; exact Nat.le_of_ble_eq_true rfl) (by rw [hR]; exact Nat.le_of_ble_eq_true rfl) dX9_init_110 (fun a11 => ?_)
  refine an_putF E hin flX9_44 rfl 0 rfl ⟨rfl, rfl⟩ (Nat.le_of_ble_eq_true rfl) dX9_init_112 ?_
  refine an_aload_n E dX9_init_115 0 rfl ?_
  refine an_bipush (v := 39) E dX9_init_116 (by decide) ?_
  refine an_newI (N := 39) E (by decide) (by decide) (by decide) (by rw [hR]; exact Nat.le_of_ble_eq_true rfl) (by rw [hR]; exact Nat.le_of_ble_eq_true rfl) dX9_init_118 (fun a12 => ?_)
  refine y9_fill E rfl 120 39 lawN y9_lawNA y9_lawNB (by decide) (by decide) ?_
  refine an_putF E hin flX9_47 rfl 0 rfl ⟨rfl, rfl⟩ (Nat.le_of_ble_eq_true rfl) dX9_init_348 ?_
  refine an_aload_n E dX9_init_351 0 rfl ?_
  refine an_bipush (v := 96) E dX9_init_352 (by decide) ?_
  refine an_newI (N := 96) E (by decide) (by decide) (by decide) (by rw [hR]; exact Nat.le_of_ble_eq_true rfl) (by rw [hR]; exact Nat.le_of_ble_eq_true rfl) dX9_init_354 (fun a13 => ?_)
  refine y9_fill E rfl 356 96 wdN y9_wdNA y9_wdNB (by decide) (by decide) ?_
  refine an_putF E hin flX9_50 rfl 0 rfl ⟨rfl, rfl⟩ (Nat.le_of_ble_eq_true rfl) dX9_init_926 ?_
  refine an_aload_n E dX9_init_929 0 rfl ?_
  refine an_sipush (v := 200) E dX9_init_930 (by decide) ?_
  refine an_newI (N := 200) E (by decide) (by decide) (by decide) (by rw [hR]; exact Nat.le_of_ble_eq_true rfl) (by rw [hR]; exact Nat.le_of_ble_eq_true rfl) dX9_init_933 (fun a14 => ?_)
  refine an_putF E hin flX9_53 rfl 0 rfl ⟨rfl, rfl⟩ (Nat.le_of_ble_eq_true rfl) dX9_init_935 ?_
  refine an_aload_n E dX9_init_938 0 rfl ?_
  refine an_sipush (v := 200) E dX9_init_939 (by decide) ?_
  refine an_newI (N := 200) E (by decide) (by decide) (by decide) (by rw [hR]; exact Nat.le_of_ble_eq_true rfl) (by rw [hR]; exact Nat.le_of_ble_eq_true rfl) dX9_init_942 (fun a15 => ?_)
  refine an_putF E hin flX9_56 rfl 0 rfl ⟨rfl, rfl⟩ (Nat.le_of_ble_eq_true rfl) dX9_init_944 ?_
  refine an_aload_n E dX9_init_947 0 rfl ?_
  refine an_bipush (v := 6) E dX9_init_948 (by decide) ?_
  refine an_newI (N := 6) E (by decide) (by decide) (by decide) (by rw [hR]; exact Nat.le_of_ble_eq_true rfl) (by rw [hR]; exact Nat.le_of_ble_eq_true rfl) dX9_init_950 (fun a16 => ?_)
  refine an_putF E hin flX9_59 rfl 0 rfl ⟨rfl, rfl⟩ (Nat.le_of_ble_eq_true rfl) dX9_init_952 ?_
  refine an_aload_n E dX9_init_955 0 rfl ?_
  refine an_bipush (v := 52) E dX9_init_956 (by decide) ?_
  refine an_newI (N := 52) E (by decide) (by decide) (by decide) (by rw [hR]; exact Nat.le_of_ble_eq_true rfl) (by rw [hR]; exact Nat.le_of_ble_eq_true rfl) dX9_init_958 (fun a17 => ?_)
  refine an_putF E hin flX9_62 rfl 0 rfl ⟨rfl, rfl⟩ (Nat.le_of_ble_eq_true rfl) dX9_init_960 ?_
  refine an_aload_n E dX9_init_963 0 rfl ?_
  refine an_bipush (v := 13) E dX9_init_964 (by decide) ?_
  refine an_newI (N := 13) E (by decide) (by decide) (by decide) (by rw [hR]; exact Nat.le_of_ble_eq_true rfl) (by rw [hR]; exact Nat.le_of_ble_eq_true rfl) dX9_init_966 (fun a18 => ?_)
  refine an_putF E hin flX9_65 rfl 0 rfl ⟨rfl, rfl⟩ (Nat.le_of_ble_eq_true rfl) dX9_init_968 ?_
  refine an_aload_n E dX9_init_971 0 rfl ?_
  refine an_ldc (v := 73728) E kcX9_68 dX9_init_972 ?_
  refine an_newI (N := 73728) E (by decide) (by decide) (by decide) (by rw [hR]; exact Nat.le_of_ble_eq_true rfl) (by rw [hR]; exact Nat.le_of_ble_eq_true rfl) dX9_init_974 (fun a19 => ?_)
  refine an_putF E hin flX9_69 rfl 0 rfl ⟨rfl, rfl⟩ (Nat.le_of_ble_eq_true rfl) dX9_init_976 ?_
  refine an_aload_n E dX9_init_979 0 rfl ?_
  refine an_ldc (v := 73728) E kcX9_68 dX9_init_980 ?_
  refine an_newI (N := 73728) E (by decide) (by decide) (by decide) (by rw [hR]; exact Nat.le_of_ble_eq_true rfl) (by rw [hR]; exact Nat.le_of_ble_eq_true rfl) dX9_init_982 (fun a20 => ?_)
  refine an_putF E hin flX9_72 rfl 0 rfl ⟨rfl, rfl⟩ (Nat.le_of_ble_eq_true rfl) dX9_init_984 ?_
  refine an_aload_n E dX9_init_987 0 rfl ?_
  refine an_bipush (v := 12) E dX9_init_988 (by decide) ?_
  refine an_newI (N := 12) E (by decide) (by decide) (by decide) (by rw [hR]; exact Nat.le_of_ble_eq_true rfl) (by rw [hR]; exact Nat.le_of_ble_eq_true rfl) dX9_init_990 (fun a21 => ?_)
  refine an_putF E hin flX9_75 rfl 0 rfl ⟨rfl, rfl⟩ (Nat.le_of_ble_eq_true rfl) dX9_init_992 ?_
  refine an_aload_n E dX9_init_995 0 rfl ?_
  refine an_sipush (v := 4096) E dX9_init_996 (by decide) ?_
  refine an_newI (N := 4096) E (by decide) (by decide) (by decide) (by rw [hR]; exact Nat.le_of_ble_eq_true rfl) (by rw [hR]; exact Nat.le_of_ble_eq_true rfl) dX9_init_999 (fun a22 => ?_)
  refine an_putF E hin flX9_78 rfl 0 rfl ⟨rfl, rfl⟩ (Nat.le_of_ble_eq_true rfl) dX9_init_1001 ?_
  exact an_world (ws' := [] ++ wl (wZ Z (fun k => [h0, a1, a2, a3, a4, a5, a6, a7, a8, a9, a10, a11, a12, a13, a14, a15, a16, a17, a18, a19, a20, a21, a22].getD k 0) 23 shY) MY0) (fun H hP hD => ⟨hP.sub (List.range 23) rfl, hD.sub (List.range 23) (by decide) rfl⟩) (rest (fun k => [h0, a1, a2, a3, a4, a5, a6, a7, a8, a9, a10, a11, a12, a13, a14, a15, a16, a17, a18, a19, a20, a21, a22].getD k 0) rfl)
