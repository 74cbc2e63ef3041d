/-! THE LAW'S LOOP (printed by wip/gen/mk_law.py) -/
theorem hd_cmp {i n : Nat} (hn : n ≤ 3584) (hi : i ≤ 3600) : Int32.ofNat n - 7 < nI i ↔ n < i + 7 := by
  by_cases h7 : 7 ≤ n
  · have e : Int32.ofNat n - 7 = nI (n - 7) := by
      have h := nI_add (n - 7) 7
      rw [show n - 7 + 7 = n by omega] at h
      show nI n - nI 7 = nI (n - 7)
      rw [← h, Int32.add_sub_cancel]
    rw [e, nI_ltI (by omega) (by omega)]
    omega
  · refine ⟨fun _ => by omega, fun _ => ?_⟩
    have h0 : Int32.ofNat n - 7 < 0 := by
      match n, h7 with
      | 0, _ => decide
      | 1, _ => decide
      | 2, _ => decide
      | 3, _ => decide
      | 4, _ => decide
      | 5, _ => decide
      | 6, _ => decide
      | n + 7, h => omega
    have h1 : ¬ nI i < 0 := nI_pos (by omega)
    rw [Int32.lt_iff_toInt_lt] at h0 h1 ⊢
    omega
section LAWL
variable {Z : CtxZ} {b n : Nat} {xs : Nat → Int32} {adX adY : Nat → Nat}
theorem la_head (h : LZ Z b n xs) {i : Nat} {ws : va_W} (hi : i ≤ 3600) (out : AN Z 4 75 184778 1423 (LL b i adX adY) [] ws) (go : i + 7 ≤ n → AN Z 4 75 184778 27 (LL b i adX adY) [] ws) : AN Z 4 75 184778 18 (LL b i adX adY) [] ws := by
  obtain ⟨hR, E, hX, hb, hA, hn⟩ := id h
  refine an_iload_n E dL_law_18 0 rfl ?_
  refine an_aload_n E dL_law_19 3 rfl ?_
  refine an_slen E hX hb hA dL_law_20 ?_
  refine an_bipush (v := 7) E dL_law_21 (by decide) ?_
  refine an_isub E dL_law_23 ?_
  exact an_icmp_gt (tgt := 1423) E dL_law_24 (by decide) (fun _ => out) (fun z => go (by rw [hd_cmp hn hi] at z; omega))
theorem la_body (h : LZ Z b n xs) {i : Nat} {MX MY : Mem} (hi : i + 7 ≤ n) (hs : Sim MX MY) (kk : ∀ MX1 MY1, Sim MX1 MY1 → AN Z 4 75 184778 1417 (LL b i adX adY) [] (WB Z adX adY MX1 MY1)) : AN Z 4 75 184778 27 (LL b i adX adY) [] (WB Z adX adY MX MY) := by
  obtain ⟨hR, E, hX, hb, hA, hn⟩ := id h
  refine an_aload_n E dL_law_27 3 rfl ?_
  refine an_iload_n E dL_law_28 0 rfl ?_
  refine an_sld E hX hb hA (vp_in_nI (by omega) (by omega)) dL_law_29 ?_
  refine an_bipush (v := 63) E dL_law_30 (by decide) ?_
  refine an_iand E dL_law_32 ?_
  generalize xs (nI i).toNatClampNeg &&& 63 = x
  by_cases hx : x.toInt < 0 ∨ 37 < x.toInt
  · exact an_tabOut (tgt := 1417) E dL_law_33 hx (by decide) (kk MX MY hs)
  · obtain ⟨j, hj, e⟩ : ∃ j : Nat, j ≤ 37 ∧ x.toInt = (j : Int) := ⟨x.toInt.toNat, by omega, by omega⟩
    have h1 : ¬ x.toInt < 0 := fun z => hx (Or.inl z)
    have h2 : ¬ 37 < x.toInt := fun z => hx (Or.inr z)
    match j, hj, e with
    | 0, _, e => exact an_tabIn (tgt := 200) (off := 167) E dL_law_33 h1 h2 (by rw [e]; rfl) (by decide) (la_set h hi hs kk)
    | 1, _, e => exact an_tabIn (tgt := 233) (off := 200) E dL_law_33 h1 h2 (by rw [e]; rfl) (by decide) (la_count h hi hs kk)
    | 2, _, e => exact an_tabIn (tgt := 256) (off := 223) E dL_law_33 h1 h2 (by rw [e]; rfl) (by decide) (la_feed h hi hs kk)
    | 3, _, e => exact an_tabIn (tgt := 331) (off := 298) E dL_law_33 h1 h2 (by rw [e]; rfl) (by decide) (la_text h hi hs kk)
    | 4, _, e => exact an_tabIn (tgt := 344) (off := 311) E dL_law_33 h1 h2 (by rw [e]; rfl) (by decide) (la_force h hi hs kk)
    | 5, _, e => exact an_tabIn (tgt := 367) (off := 334) E dL_law_33 h1 h2 (by rw [e]; rfl) (by decide) (la_street h hi hs kk)
    | 6, _, e => exact an_tabIn (tgt := 420) (off := 387) E dL_law_33 h1 h2 (by rw [e]; rfl) (by decide) (la_close h hi hs kk)
    | 7, _, e => exact an_tabIn (tgt := 433) (off := 400) E dL_law_33 h1 h2 (by rw [e]; rfl) (by decide) (la_told h hi hs kk)
    | 8, _, e => exact an_tabIn (tgt := 466) (off := 433) E dL_law_33 h1 h2 (by rw [e]; rfl) (by decide) (la_gone h hi hs kk)
    | 9, _, e => exact an_tabIn (tgt := 489) (off := 456) E dL_law_33 h1 h2 (by rw [e]; rfl) (by decide) (la_asks h hi hs kk)
    | 10, _, e => exact an_tabIn (tgt := 532) (off := 499) E dL_law_33 h1 h2 (by rw [e]; rfl) (by decide) (la_ring h hi hs kk)
    | 11, _, e => exact an_tabIn (tgt := 565) (off := 532) E dL_law_33 h1 h2 (by rw [e]; rfl) (by decide) (la_heavy h hi hs kk)
    | 12, _, e => exact an_tabIn (tgt := 598) (off := 565) E dL_law_33 h1 h2 (by rw [e]; rfl) (by decide) (la_gap h hi hs kk)
    | 13, _, e => exact an_tabIn (tgt := 621) (off := 588) E dL_law_33 h1 h2 (by rw [e]; rfl) (by decide) (la_calls h hi hs kk)
    | 14, _, e => exact an_tabIn (tgt := 664) (off := 631) E dL_law_33 h1 h2 (by rw [e]; rfl) (by decide) (la_two h hi hs kk)
    | 15, _, e => exact an_tabIn (tgt := 707) (off := 674) E dL_law_33 h1 h2 (by rw [e]; rfl) (by decide) (la_round h hi hs kk)
    | 16, _, e => exact an_tabIn (tgt := 730) (off := 697) E dL_law_33 h1 h2 (by rw [e]; rfl) (by decide) (la_never h hi hs kk)
    | 17, _, e => exact an_tabIn (tgt := 753) (off := 720) E dL_law_33 h1 h2 (by rw [e]; rfl) (by decide) (la_bars h hi hs kk)
    | 18, _, e => exact an_tabIn (tgt := 776) (off := 743) E dL_law_33 h1 h2 (by rw [e]; rfl) (by decide) (la_bears h hi hs kk)
    | 19, _, e => exact an_tabIn (tgt := 789) (off := 756) E dL_law_33 h1 h2 (by rw [e]; rfl) (by decide) (la_part h hi hs kk)
    | 20, _, e => exact an_tabIn (tgt := 812) (off := 779) E dL_law_33 h1 h2 (by rw [e]; rfl) (by decide) (la_house h hi hs kk)
    | 21, _, e => exact an_tabIn (tgt := 845) (off := 812) E dL_law_33 h1 h2 (by rw [e]; rfl) (by decide) (la_lane h hi hs kk)
    | 22, _, e => exact an_tabIn (tgt := 878) (off := 845) E dL_law_33 h1 h2 (by rw [e]; rfl) (by decide) (la_newly h hi hs kk)
    | 23, _, e => exact an_tabIn (tgt := 891) (off := 858) E dL_law_33 h1 h2 (by rw [e]; rfl) (by decide) (la_bond h hi hs kk)
    | 24, _, e => exact an_tabIn (tgt := 924) (off := 891) E dL_law_33 h1 h2 (by rw [e]; rfl) (by decide) (la_hours h hi hs kk)
    | 25, _, e => exact an_tabIn (tgt := 957) (off := 924) E dL_law_33 h1 h2 (by rw [e]; rfl) (by decide) (la_laws h hi hs kk)
    | 26, _, e => exact an_tabIn (tgt := 980) (off := 947) E dL_law_33 h1 h2 (by rw [e]; rfl) (by decide) (la_judge h hi hs kk)
    | 27, _, e => exact an_tabIn (tgt := 1003) (off := 970) E dL_law_33 h1 h2 (by rw [e]; rfl) (by decide) (la_walk h hi hs kk)
    | 28, _, e => exact an_tabIn (tgt := 1036) (off := 1003) E dL_law_33 h1 h2 (by rw [e]; rfl) (by decide) (la_show h hi hs kk)
    | 29, _, e => exact an_tabIn (tgt := 1069) (off := 1036) E dL_law_33 h1 h2 (by rw [e]; rfl) (by decide) (la_drawn h hi hs kk)
    | 30, _, e => exact an_tabIn (tgt := 1102) (off := 1069) E dL_law_33 h1 h2 (by rw [e]; rfl) (by decide) (la_odds h hi hs kk)
    | 31, _, e => exact an_tabIn (tgt := 1156) (off := 1123) E dL_law_33 h1 h2 (by rw [e]; rfl) (by decide) (la_image h hi hs kk)
    | 32, _, e => exact an_tabIn (tgt := 1169) (off := 1136) E dL_law_33 h1 h2 (by rw [e]; rfl) (by decide) (la_back h hi hs kk)
    | 33, _, e => exact an_tabIn (tgt := 1182) (off := 1149) E dL_law_33 h1 h2 (by rw [e]; rfl) (by decide) (la_sheet h hi hs kk)
    | 34, _, e => exact an_tabIn (tgt := 1225) (off := 1192) E dL_law_33 h1 h2 (by rw [e]; rfl) (by decide) (la_cell h hi hs kk)
    | 35, _, e => exact an_tabIn (tgt := 1268) (off := 1235) E dL_law_33 h1 h2 (by rw [e]; rfl) (by decide) (la_copy h hi hs kk)
    | 36, _, e => exact an_tabIn (tgt := 1331) (off := 1298) E dL_law_33 h1 h2 (by rw [e]; rfl) (by decide) (la_streetsBy h hi hs kk)
    | 37, _, e => exact an_tabIn (tgt := 1384) (off := 1351) E dL_law_33 h1 h2 (by rw [e]; rfl) (by decide) (la_taken h hi hs kk)
    | j + 38, hj, _ => omega
theorem la_loop (h : LZ Z b n xs) (out : ∀ (i : Nat) (MX MY : Mem), AN Z 4 75 184778 1423 (LL b i adX adY) [] (WB Z adX adY MX MY)) : ∀ (k i : Nat) (MX MY : Mem), i ≤ 3600 → n < i + k → Sim MX MY → AN Z 4 75 184778 18 (LL b i adX adY) [] (WB Z adX adY MX MY) := by
  obtain ⟨hR, E, hX, hb, hA, hn⟩ := id h
  intro k
  induction k with
  | zero =>
    intro i MX MY hi hk hs
    exact la_head h hi (out i MX MY) (fun z => by omega)
  | succ k ih =>
    intro i MX MY hi hk hs
    refine la_head h hi (out i MX MY) (fun z => la_body h z hs fun MX1 MY1 hs1 => ?_)
    refine an_iinc (v := nI (i + 7)) (L1 := LL b (i + 7) adX adY) (k := 0) E dL_law_1417 rfl (nI_add i 7) (by decide) rfl ?_
    refine an_goto (tgt := 18) E dL_law_1420 (by decide) ?_
    exact ih (i + 7) MX1 MY1 (by omega) (by omega) hs1
end LAWL
