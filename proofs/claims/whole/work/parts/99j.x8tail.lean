/-! HomeByAnotherWay(): the first text is put on the tape, read, kept -/
def putM (i : Nat) (M : Mem) : Mem := wr (wr M 10 1 (nI (i + 1))) 11 i (sch 0 (nI i))
def PT : Nat → Mem → Mem
  | 0, M => M
  | n + 1, M => putM n (PT n M)
theorem PT_size {M : Mem} (h : M.1 10 1 = nI 0) : ∀ n, (PT n M).1 10 1 = nI n
  | 0 => h
  | n + 1 => by
    show (putM n (PT n M)).1 10 1 = nI (n + 1)
    unfold putM
    rw [wr_cell _ _ (by decide), wr_at, if_pos ⟨rfl, rfl⟩]
section X8T
variable {Z : CtxZ} {ad : Nat → Nat}
abbrev gZ (Z : CtxZ) (ad : Nat → Nat) : CtxG := ((gG (zg Z), ad, gK (zg Z), gV (zg Z)), (zg Z).2)
theorem x8_loop (hR : zR Z = rm8) (E : EN Z cX8_init 2 RX8) {M : Mem} (hM : M.1 10 1 = nI 0) (rest : AN Z 2 51 30930 176 [(1, .int (nI 39)), (0, .ref (ad 0))] [] ([] ++ wl (wZ Z ad 52 shX) (PT 39 M))) :
    ∀ n i, i + n = 39 → AN Z 2 51 30930 148 [(1, .int (nI i)), (0, .ref (ad 0))] [] ([] ++ wl (wZ Z ad 52 shX) (PT i M)) := by
  intro n
  induction n with
  | zero =>
    intro i hi
    have e : i = 39 := by omega
    subst e
    refine an_iload_n E dX8_init_148 0 rfl ?_
    refine an_ldcS (i := 0) E (by decide) rfl rfl dX8_init_149 ?_
    refine an_callS (As := []) (St := [.ref (gK (zg Z) 0), .int (nI 39)]) (S := [.int (nI 39)]) E mvJ0_length_8abf5 mlX8_77 (i := 0) (by decide) rfl rfl (ctJ0_length (yl (zY Z)) (wZ Z ad 52 shX) (by decide) (PT 39 M)) rfl (Nat.le_of_ble_eq_true rfl) (by rw [hR]; decide) (by rw [hR]; decide) dX8_init_151 ?_
    exact an_icmp_ge (tgt := 176) E dX8_init_154 (by decide) (fun _ => rest) (fun z => absurd (show (39 : Int32) ≤ nI 39 by decide) z)
  | succ n ih =>
    intro i hi
    refine an_iload_n E dX8_init_148 0 rfl ?_
    refine an_ldcS (i := 0) E (by decide) rfl rfl dX8_init_149 ?_
    refine an_callS (As := []) (St := [.ref (gK (zg Z) 0), .int (nI i)]) (S := [.int (nI i)]) E mvJ0_length_8abf5 mlX8_77 (i := 0) (by decide) rfl rfl (ctJ0_length (yl (zY Z)) (wZ Z ad 52 shX) (by decide) (PT i M)) rfl (Nat.le_of_ble_eq_true rfl) (by rw [hR]; decide) (by rw [hR]; decide) dX8_init_151 ?_
    refine an_icmp_ge (tgt := 176) E dX8_init_154 (by decide) (fun z => absurd z (nI_ge (b := 39) (by omega) (by decide))) (fun _ => ?_)
    refine an_aload_n E dX8_init_157 1 rfl ?_
    refine an_wgetR E flX8_32 (k := 0) (q := 10) (by decide) rfl rfl dX8_init_158 ?_
    refine an_ldcS (i := 0) E (by decide) rfl rfl dX8_init_161 ?_
    refine an_iload_n E dX8_init_163 0 rfl ?_
    refine an_callS (As := [.int (nI i)]) (S := [.ref (ad 10)]) E mvJ0_charAt_5068e mlX8_83 (i := 0) (by decide) rfl rfl (ctJ0_charAt (yl (zY Z)) (wZ Z ad 52 shX) (i := 0) (by decide) (nI i) (vp_in_nI (show i < 39 by omega) (by decide)) (PT i M)) rfl (Nat.le_of_ble_eq_true rfl) (by rw [hR]; decide) (by rw [hR]; decide) dX8_init_164 ?_
    refine an_callV (As := [.int (sch 0 (nI i))]) (S := []) (v := none) (k := 10) E mvX5_put mlX8_87 (by decide) rfl rfl rfl (ctX5_put (yl (zY Z)) (gZ Z ad) (sch 0 (nI i)) (PT i M) (putM i (PT i M)) (x_put (PT_size hM i) (by omega) _)) rfl (Nat.le_of_ble_eq_true rfl) (by rw [hR]; decide) (by rw [hR]; decide) dX8_init_167 ?_
    refine an_iinc (v := nI (i + 1)) (L1 := [(1, .int (nI (i + 1))), (0, .ref (ad 0))]) (k := 0) E dX8_init_170 rfl (nI_1 i) (by decide) rfl ?_
    refine an_goto (tgt := 148) E dX8_init_173 (by decide) ?_
    exact ih (i + 1) (by omega)
/-- HomeByAnotherWay() -/
theorem ciX8 (l : Launch) (g : CtxG) {r1 r2 : Int32} {M1 M2 : Mem} (h1 : FX5_read (PT 39 MX0) = some (r1, M1)) (h2 : FX6_add M1 = some (r2, M2)) :
    CI l g yX8_init cX8_init 2 rm8 51 30930 8 [.null, .null, .null, .int 0, .null, .null, .null, .null, .null, .null, .null] (fun h0 u => wl (WX ((gG g, (fun k => if k = 0 then h0 else u k), gK g, gV g), g.2)) (wr M2 10 1 0)) :=
  CI.of (by decide +kernel) rfl (by decide) fun Z h0 hl hg hR E hin hret => by
    subst hg
    refine x8_first hR E hin (fun ad had => ?_)
    subst had
    refine an_iconst (v := 0) E dX8_init_146 (by decide) ?_
    refine an_istore_n (L1 := [(1, .int (nI 0)), (0, .ref (ad 0))]) E dX8_init_147 (by decide) rfl ?_
    refine x8_loop hR E (M := MX0) rfl ?_ 39 0 rfl
    refine an_aload_n E dX8_init_176 1 rfl ?_
    refine an_wgetR E flX8_32 (k := 0) (q := 10) (by decide) rfl rfl dX8_init_177 ?_
    refine an_callV (As := []) (S := []) (v := some (.int r1)) (k := 10) E mvX5_read mlX8_91 (by decide) rfl rfl rfl (ctX5_read (yl (zY Z)) (gZ Z ad) (PT 39 MX0) (r1, M1) h1) rfl (Nat.le_of_ble_eq_true rfl) (by rw [hR]; decide) (by rw [hR]; decide) dX8_init_180 ?_
    refine an_pop E dX8_init_183 rfl ?_
    refine an_aload_n E dX8_init_184 1 rfl ?_
    refine an_wgetR E flX8_39 (k := 0) (q := 14) (by decide) rfl rfl dX8_init_185 ?_
    refine an_aload_n E dX8_init_188 1 rfl ?_
    refine an_wgetR E flX8_32 (k := 0) (q := 10) (by decide) rfl rfl dX8_init_189 ?_
    refine an_callV (As := [.ref (ad 10)]) (S := []) (v := some (.int r2)) (k := 14) E mvX6_add mlX8_94 (by decide) rfl rfl rfl (ctX6_add (yl (zY Z)) (gZ Z ad) M1 (r2, M2) h2) rfl (Nat.le_of_ble_eq_true rfl) (by rw [hR]; decide) (by rw [hR]; decide) dX8_init_192 ?_
    refine an_pop E dX8_init_195 rfl ?_
    refine an_aload_n E dX8_init_196 1 rfl ?_
    refine an_wgetR E flX8_32 (k := 0) (q := 10) (by decide) rfl rfl dX8_init_197 ?_
    refine an_iconst (v := 0) E dX8_init_200 (by decide) ?_
    refine an_wput E flX8_98 (k := 10) (by decide) rfl rfl nr_int dX8_init_201 ?_
    have e : (fun k => if k = 0 then ad 0 else ad k) = ad := funext fun k => by
      by_cases hk : k = 0
      · rw [if_pos hk, hk]
      · rw [if_neg hk]
    have hr := hret 204 [(1, .int (nI 39)), (0, .ref (ad 0))] ad dX8_init_204
    simp only [e] at hr
    exact hr
end X8T
