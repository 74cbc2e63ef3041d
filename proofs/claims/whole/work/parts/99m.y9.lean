/-! HomeByAnotherWayModel(): the first text -/
def TYP : Nat → Mem → Mem
  | 0, M => M
  | n + 1, M => wr (TYP n M) 6 n ((TYP n M).1 12 n)
section Y9T
variable {Z : CtxZ} {ad : Nat → Nat}
theorem y9_loop (E : EN Z cX9_init 2 RX9) {M : Mem} (rest : AN Z 2 22 153787 1030 [(1, .int (nI 39)), (0, .ref (ad 0))] [] ([] ++ wl (wZ Z ad 23 shY) (TYP 39 M))) :
    ∀ n i, i + n = 39 → AN Z 2 22 153787 1006 [(1, .int (nI i)), (0, .ref (ad 0))] [] ([] ++ wl (wZ Z ad 23 shY) (TYP i M)) := by
  intro n
  induction n with
  | zero =>
    intro i hi
    have e : i = 39 := by omega
    subst e
    refine an_iload_n E dX9_init_1006 0 rfl ?_
    refine an_bipush (v := nI 39) E dX9_init_1007 (by decide) ?_
    exact an_icmp_ge (tgt := 1030) E dX9_init_1009 (by decide) (fun _ => rest) (fun z => absurd (show nI 39 ≤ nI 39 by decide) z)
  | succ n ih =>
    intro i hi
    have hc : (nI i).toNatClampNeg = i := nI_clamp (by omega)
    refine an_iload_n E dX9_init_1006 0 rfl ?_
    refine an_bipush (v := nI 39) E dX9_init_1007 (by decide) ?_
    refine an_icmp_ge (tgt := 1030) E dX9_init_1009 (by decide) (fun z => absurd z (nI_ge (b := 39) (by omega) (by decide))) (fun _ => ?_)
    refine an_aload_n E dX9_init_1012 1 rfl ?_
    refine an_wgetR E flX9_29 (k := 0) (q := 6) (by decide) rfl rfl dX9_init_1013 ?_
    refine an_iload_n E dX9_init_1016 0 rfl ?_
    refine an_aload_n E dX9_init_1017 1 rfl ?_
    refine an_wgetR E flX9_47 (k := 0) (q := 12) (by decide) rfl rfl dX9_init_1018 ?_
    refine an_iload_n E dX9_init_1021 0 rfl ?_
    refine an_wiald E (k := 12) (n := 39) (by decide) rfl (vp_in_nI (show i < 39 by omega) (by decide)) dX9_init_1022 ?_
    refine an_wiast E (k := 6) (n := 160) (by decide) rfl (vp_in_nI (show i < 160 by omega) (by decide)) dX9_init_1023 ?_
    rw [hc]
    refine an_iinc (v := nI (i + 1)) (L1 := [(1, .int (nI (i + 1))), (0, .ref (ad 0))]) (k := 0) E dX9_init_1024 rfl (nI_1 i) (by decide) rfl ?_
    refine an_goto (tgt := 1006) E dX9_init_1027 (by decide) ?_
    exact ih (i + 1) (by omega)
/-- HomeByAnotherWayModel() -/
theorem ciX9 (l : Launch) (g : CtxG) {r1 : Int32} {M1 : Mem} (h1 : FX9_text (wr (TYP 39 MY0) 0 11 39) = some (r1, M1)) :
    CI l g yX9_init cX9_init 2 rm9 22 153787 9 [.int 0, .int 0, .int 0, .int 0, .null, .null, .null, .null, .null, .int 0, .null, .int 0, .null, .null, .int 0, .int 0, .int 0, .int 0, .int 0, .int 0, .int 0, .int 0, .int 0, .null, .null, .null, .null, .int 0, .int 0, .int 0, .int 0, .null, .null, .int 0, .int 0, .int 0, .null, .null, .null, .null, .int 0, .null, .null, .null, .int 0, .int 0, .null, .int 0, .int 0, .int 0] (fun h0 u => wl (WY ((gG g, (fun k => if k = 0 then h0 else u k), gK g, gV g), g.2)) M1) :=
  CI.of (by decide +kernel) rfl (by decide) fun Z h0 hl hg hR E hin hret => by
    subst hg
    refine y9_first hR E hin (fun ad had => ?_)
    subst had
    refine an_iconst (v := 0) E dX9_init_1004 (by decide) ?_
    refine an_istore_n (L1 := [(1, .int (nI 0)), (0, .ref (ad 0))]) E dX9_init_1005 (by decide) rfl ?_
    refine y9_loop E (M := MY0) ?_ 39 0 rfl
    refine an_aload_n E dX9_init_1030 1 rfl ?_
    refine an_bipush (v := 39) E dX9_init_1031 (by decide) ?_
    refine an_wput E flX9_81 (k := 0) (by decide) rfl rfl nr_int dX9_init_1033 ?_
    refine an_aload_n E dX9_init_1036 1 rfl ?_
    refine an_callV (As := []) (S := []) (v := some (.int r1)) (k := 0) E mvX9_text mlX9_84 (by decide) rfl rfl rfl (ctX9_text (yl (zY Z)) (gZ Z ad) (wr (TYP 39 MY0) 0 11 39) (r1, M1) h1) rfl (Nat.le_of_ble_eq_true rfl) (by rw [hR]; decide) (by rw [hR]; decide) dX9_init_1037 ?_
    refine an_pop E dX9_init_1040 rfl ?_
    have e : (fun k => if k = 0 then ad 0 else ad k) = ad := funext fun k => by
      by_cases hk : k = 0
      · rw [if_pos hk, hk]
      · rw [if_neg hk]
    have hr := hret 1041 [(1, .int (nI 39)), (0, .ref (ad 0))] ad dX9_init_1041
    simp only [e] at hr
    exact hr
end Y9T
