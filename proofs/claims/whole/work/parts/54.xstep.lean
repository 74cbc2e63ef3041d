/-! the class's search: one step -/
theorem x_minutesA {M : Mem} {s l c : Nat} (hs : s < 13) (hl : l < 2) (hc : c < 9) : FX7_minutes (nI s) (nI c) (nI l) M = some (M.1 36 (32 * s + 16 * l + c)) := by
  unfold FX7_minutes
  have e : ((nI s <<< ((5 : Int32) &&& 31)) ||| (nI l <<< ((4 : Int32) &&& 31))) ||| (nI c &&& 15) = nI (32 * s + 16 * l + c) := by
    rw [show (5 : Int32) = nI 5 from rfl, show (4 : Int32) = nI 4 from rfl, z_shl _ (by decide), z_shl _ (by decide), pk_andN (by omega) 4 (by decide), z_or, z_or, ix36b s hs l hl c hc]
  rw [e, z_gi (by omega) (by decide), z_ix (by omega)]
def QS (T : Twn) (k d : Nat) (Kf : Prop) (Q : List Nat) (κ : Nat → Nat) (M : Mem) : Prop :=
  (M.1 37 4 = nI Q.length ∧ M.1 37 5 = nI (T.1 0)) ∧ (∀ i, i < Q.length → M.1 40 i = nI (Q.getD i 0)) ∧ Q.Nodup ∧
  (∀ m, m ∈ Q → ∃ w, Pre T k d 0 (T.1 0) w ∧ mE 0 w = m ∧ M.1 39 m = nI (stt T m (cE T (T.1 0) w)) ∧ (Kf → M.2 38 m = lN (κ m) ∧ κ m = Kw T k w)) ∧
  (∀ m, m < 8192 → m ∉ Q → M.1 39 m = 0) ∧
  (Kf → ∀ i j, i < j → j < Q.length → pc (Q.getD i 0) ≤ pc (Q.getD j 0))
theorem Kw_app (T : Twn) (k : Nat) (w : List Nat) (s : Nat) : Kw T k (w ++ [s]) = Kw T k w + T.2.2 (ldw T k (mE 0 w)) (cE T (T.1 0) w) s * 16 ^ 13 + s * 16 ^ (12 - w.length) := by
  unfold Kw
  rw [tmE_app, dg_app, Nat.add_mul, Nat.zero_add]
  omega
theorem Kw_lt {T : Twn} (hT : Twf T) {k d : Nat} {w : List Nat} (h : Pre T k d 0 (T.1 0) w) : Kw T k w < 2 ^ 63 := by
  have l1 := Pre_len hT h
  have b1 := dg_lt (w := w) (j := 0) (fun t ht => Pre_in hT h t ht) (by omega)
  have b2 := tm_le hT h
  unfold Kw
  have : tmE T k 0 (T.1 0) w * 16 ^ 13 ≤ 1287 * 16 ^ 13 := Nat.mul_le_mul_right _ (by omega)
  rw [show 13 - 0 = 13 from rfl] at b1
  have e : (16 : Nat) ^ 13 = 4503599627370496 := by decide
  rw [e] at this b1 ⊢
  omega
theorem QS_lt {T : Twn} (hT : Twf T) {k d : Nat} {Kf : Prop} {Q : List Nat} {κ : Nat → Nat} {M : Mem} (h : QS T k d Kf Q κ M) : ∀ m, m ∈ Q → m < 2 ^ T.1 1 := by
  intro m hm
  obtain ⟨w, h1, rfl, -⟩ := h.2.2.2.1 m hm
  exact (Pre_wk hT (wk_0 hT) h1).1
theorem x_step {T : Twn} (hT : Twf T) {k d : Nat} {Kf : Prop} {Q : List Nat} {κ : Nat → Nat} {M : Mem} (hQ : QS T k d Kf Q κ M) {m c s : Nat} (hw : wk T m c) (hm : m ∈ Q) (hs : stp T k m c s = true) (hr : rng T d m c = false)
    (h36 : Kf → M.1 36 (32 * s + 16 * ldw T k m + c) = nI (T.2.2 (ldw T k m) c s)) (h32 : M.1 32 s = nI (T.2.1 1 s)) (h33 : M.1 33 s = nI (T.2.1 2 s)) (h34 : M.1 34 s = nI (T.2.1 3 s)) (hpc : Kf → ∀ x, x ∈ Q → pc x ≤ pc m + 1) :
    ∃ Q' κ' M', FX0_step (nI m) (nI s) (nI (ldw T k m)) M = some M' ∧ QS T k d Kf Q' κ' M' ∧ (Q' = Q ∨ Q' = Q ++ [m ||| 2 ^ s]) ∧ (m ||| 2 ^ s) ∈ Q' ∧ (Kf → κ' (m ||| 2 ^ s) ≤ κ m + T.2.2 (ldw T k m) c s * 16 ^ 13 + s * 16 ^ (12 - pc m)) ∧ (∀ x, x ≠ m ||| 2 ^ s → κ' x = κ x) ∧ (Kf → ∀ x, x ∈ Q → κ' x ≤ κ x) ∧ ∀ c, c ≠ 37 → c ≠ 39 → c ≠ 40 → M'.1 c = M.1 c := by
  have hN := hT.1.2.1
  obtain ⟨⟨q1, q2⟩, q3, q4, q5, q6, q7⟩ := id hQ
  obtain ⟨hsN, hce, hb⟩ := stp_at hT hs
  obtain ⟨w, w1, w2, w3, w4⟩ := q5 m hm
  have wkw := Pre_wk hT (wk_0 hT) w1
  rw [w2] at wkw
  have ec : cE T (T.1 0) w = c := par_inj wkw.2.2.2 hw.2.2.2
  rw [ec] at w3
  have wn := wk_stp hT hw hs
  have hm8 := p13 hN hw.1
  have hn8 := p13 hN wn.1
  have hc9 := hw.2.1
  have hps := pas_lt hT m
  have hsp := p13 hN (spt_lt hT m)
  have hl := ldw_lt T k m
  have hgt : m < m ||| 2 ^ s := by
    rw [or_add hb]
    have := Nat.two_pow_pos s
    omega
  have hpcn := pc_or (show s < 13 by omega) hb
  have hpc13 := pc_le (m ||| 2 ^ s)
  have hlen : w.length = pc m := by
    have := Pre_pc hT w1
    rw [pc_0, w2] at this
    omega
  have wpre : Pre T k d 0 (T.1 0) (w ++ [s]) := by
    rw [Pre_app, w2, ec]
    exact ⟨w1, hr, hs⟩
  have wE : mE 0 (w ++ [s]) = m ||| 2 ^ s := by rw [mE_app, w2]
  have wC : cE T (T.1 0) (w ++ [s]) = ot T s c := by rw [cE_app, ec]
  have hKn := Kw_app T k w s
  rw [w2, ec, hlen] at hKn
  have hKlt := Kw_lt hT wpre
  have hat : FX7_at (M.1 39 m) = nI c := by rw [w3]; exact x_at (by omega) hps hsp
  unfold FX0_step
  rw [z_shl1 (by omega), z_or, z_ltp]
  have eb : (if nI (m ||| 2 ^ s) ≤ nI m then true else if nI (m ||| 2 ^ s) < 8192 then false else true) = false := by
    rw [if_neg (nI_ge hgt (by omega)), if_pos (by rw [show (8192 : Int32) = nI 8192 from rfl]; exact nI_lt hn8 (by decide))]
  rw [eb, z_ltp, if_neg (by decide), z_gi hm8 (by decide), z_ix (show m < 2147483648 by omega), hat, x_minutesA (by omega) hl hc9, z_obp, z_ltp, z_ltp, x_bits hm8]
  have e14 : (48 : Int32) - 4 * nI (pc m) = nI (48 - 4 * pc m) := by
    rw [show (4 : Int32) = nI 4 from rfl, show (48 : Int32) = nI 48 from rfl, pk_mul, z_sub (by omega)]
  rw [e14, z_ltp, z_gi hm8 (by decide), z_ltp, z_gi hn8 (by decide), z_ix (show m ||| 2 ^ s < 2147483648 by omega)]
  have hX : Kf → M.2 38 m + jlshl (M.1 36 (32 * s + 16 * ldw T k m + c)).toInt64 52 + jlshl (nI s).toInt64 (nI (48 - 4 * pc m)) = lN (Kw T k (w ++ [s])) := by
    intro hk
    obtain ⟨a1, a2⟩ := w4 hk
    have h99 := (hT.2 s hsN).2.2.1 _ c hl
    rw [h36 hk, nI_l (by omega), nI_l (by omega), show (52 : Int32) = nI 52 from rfl, l_shl _ (by decide), l_shl _ (by omega), a1, lN_add, lN_add, hKn, a2]
    congr 2
    rw [show (16 : Nat) = 2 ^ 4 from rfl, ← Nat.pow_mul, show 4 * (12 - pc m) = 48 - 4 * pc m by omega]
  generalize M.2 38 m + jlshl (M.1 36 (32 * s + 16 * ldw T k m + c)).toInt64 52 + jlshl (nI s).toInt64 (nI (48 - 4 * pc m)) = X at hX ⊢
  by_cases hin : m ||| 2 ^ s ∈ Q
  · -- seen
    obtain ⟨v, v1, v2, v3, v4⟩ := q5 _ hin
    have hne : ¬ M.1 39 (m ||| 2 ^ s) = 0 := by
      rw [v3]
      have hbit := (Pre_wk hT (wk_0 hT) v1)
      rw [v2] at hbit
      have hlt := pk3_lt (show cE T (T.1 0) v < 16 by have := hbit.2.1; omega) (pas_lt hT (m ||| 2 ^ s)) (p13 hN (spt_lt hT (m ||| 2 ^ s)))
      rw [show (0 : Int32) = nI 0 from rfl, z_eq (show stt T _ _ < 2147483648 from Nat.lt_trans hlt (by decide)) (by decide)]
      exact pk3_ne hbit.2.2.1
    rw [if_neg hne, z_gi hn8 (by decide), z_gi hn8 (by decide), z_ltp]
    refine ⟨Q, fun x => if x = m ||| 2 ^ s then min (Kw T k (w ++ [s])) (κ x) else κ x, _, rfl, ⟨⟨q1, q2⟩, q3, q4, fun x hx => ?_, q6, q7⟩, Or.inl rfl, hin, fun hk => ?_, fun x hx => if_neg hx, fun hk x hx => ?_, fun _ _ _ _ => rfl⟩
    · by_cases hxe : x = m ||| 2 ^ s
      · subst hxe
        by_cases hkk : Kf ∧ Kw T k (w ++ [s]) < κ (m ||| 2 ^ s)
        · obtain ⟨hk, hlt⟩ := hkk
          refine ⟨w ++ [s], wpre, wE, ?_, fun _ => ⟨?_, ?_⟩⟩
          · have hp1 := (Pre_wk hT (wk_0 hT) v1)
            rw [v2] at hp1
            rw [wC, par_inj wn.2.2.2 hp1.2.2.2]
            exact v3
          · obtain ⟨b1, b2⟩ := v4 hk
            have hv := Kw_lt hT v1
            show _ = lN (if _ then _ else _)
            rw [wrL_at, if_pos ⟨rfl, rfl⟩, if_pos rfl, hX hk, b1, b2, if_pos ((pk_lLT hKlt hv).mpr (by rw [← b2]; exact hlt)), Nat.min_eq_left (by omega)]
          · show (if _ then _ else _) = _
            rw [if_pos rfl, Nat.min_eq_left (by omega)]
        · refine ⟨v, v1, v2, v3, fun hk => ?_⟩
          obtain ⟨b1, b2⟩ := v4 hk
          have hv := Kw_lt hT v1
          have hnlt : ¬ Kw T k (w ++ [s]) < κ (m ||| 2 ^ s) := fun z => hkk ⟨hk, z⟩
          refine ⟨?_, ?_⟩
          · show _ = lN (if _ then _ else _)
            rw [wrL_at, if_pos ⟨rfl, rfl⟩, if_pos rfl, hX hk, b1, b2, if_neg (fun z => hnlt (by rw [b2]; exact (pk_lLT hKlt hv).mp z)), Nat.min_eq_right (by omega)]
          · show (if _ then _ else _) = _
            rw [if_pos rfl, Nat.min_eq_right (by omega)]
            exact b2
      · obtain ⟨u, u1, u2, u3, u4⟩ := q5 x hx
        refine ⟨u, u1, u2, u3, fun hk => ?_⟩
        obtain ⟨b1, b2⟩ := u4 hk
        show _ = lN (if _ then _ else _) ∧ (if _ then _ else _) = _
        rw [if_neg hxe, wrL_at, if_neg (fun z => hxe z.2)]
        exact ⟨b1, b2⟩
    · show (if _ then _ else _) ≤ _
      rw [if_pos rfl, (w4 hk).2, ← hKn]
      exact Nat.min_le_left _ _
    · show (if _ then _ else _) ≤ _
      by_cases hxe : x = m ||| 2 ^ s
      · rw [if_pos hxe]; exact Nat.min_le_right _ _
      · rw [if_neg hxe]; exact Nat.le_refl _
  · -- new
    have hz : M.1 39 (m ||| 2 ^ s) = 0 := q6 _ hn8 hin
    have hQl : Q.length + 1 ≤ 8192 := by
      have := nodup_le 8192 ((m ||| 2 ^ s) :: Q) (List.nodup_cons.mpr ⟨hin, q4⟩) (fun x hx => by
        rcases List.mem_cons.mp hx with rfl | h
        · exact hn8
        · exact p13 hN (QS_lt hT hQ x h))
      rw [List.length_cons] at this
      exact this
    rw [if_pos hz, q1, if_neg (by rw [show (8192 : Int32) = nI 8192 from rfl]; exact nI_ge (by omega) (by decide)), z_gi hn8 (by decide), z_ltp, z_gi hm8 (by decide)]
    obtain ⟨M1, hM1⟩ : ∃ M1, M1 = wrL M 38 (m ||| 2 ^ s) X := ⟨_, rfl⟩
    have f1 : M1.1 = M.1 := by rw [hM1]; rfl
    rw [← hM1, f1, w3]
    rw [x_after hT hw hs (by rw [f1]; exact h32) (by rw [f1]; exact h33) (by rw [f1]; exact h34), z_obp, z_gi hn8 (by decide), z_ltp]
    obtain ⟨M2, hM2⟩ : ∃ M2, M2 = wr M1 39 (m ||| 2 ^ s) (nI (stt T (m ||| 2 ^ s) (ot T s c))) := ⟨_, rfl⟩
    have e37 : M2.1 37 4 = nI Q.length := by rw [hM2, wr_cell _ _ (by decide), f1]; exact q1
    rw [← hM2, e37, nI_1, z_ltp, z_gi (by omega) (by decide), z_ltp, z_ix (by omega)]
    have ne : ∀ x, x ∈ Q → x ≠ m ||| 2 ^ s := fun x hx z => hin (by rw [← z]; exact hx)
    refine ⟨Q ++ [m ||| 2 ^ s], fun x => if x = m ||| 2 ^ s then Kw T k (w ++ [s]) else κ x, _, rfl, ⟨⟨?_, ?_⟩, fun i hi => ?_, ?_, fun x hx => ?_, fun x hx hx2 => ?_, fun hk i j hij hj => ?_⟩, Or.inr rfl, List.mem_append_right _ List.mem_cons_self, fun hk => ?_, fun x hx => if_neg hx, fun hk x hx => ?_, fun c' h1 h2 h3 => ?_⟩
    · rw [wr_cell _ _ (by decide), wr_at, if_pos ⟨rfl, rfl⟩, List.length_append]; rfl
    · rw [wr_cell _ _ (by decide), wr_at, if_neg (by omega), hM2, wr_cell _ _ (by decide), f1]; exact q2
    · rw [List.length_append, List.length_singleton] at hi
      rw [wr_at]
      by_cases h : i = Q.length
      · rw [if_pos ⟨rfl, h⟩, h, getD_app2]
      · rw [if_neg (fun z => h z.2), wr_cell _ _ (by decide), hM2, wr_cell _ _ (by decide), f1, getD_app1 (by omega)]
        exact q3 i (by omega)
    · rw [List.nodup_append]
      refine ⟨q4, List.nodup_cons.mpr ⟨List.not_mem_nil, List.nodup_nil⟩, fun a ha b hb => ?_⟩
      rw [List.mem_singleton] at hb
      rw [hb]
      exact ne a ha
    · rcases List.mem_append.mp hx with h | h
      · obtain ⟨u, u1, u2, u3, u4⟩ := q5 x h
        refine ⟨u, u1, u2, ?_, fun hk => ?_⟩
        · rw [wr_cell _ _ (by decide), wr_cell _ _ (by decide), hM2, wr_at, if_neg (fun z => ne x h z.2), f1]
          exact u3
        · show _ = lN (if _ then _ else _) ∧ (if _ then _ else _) = _
          rw [if_neg (ne x h), wr_2, wr_2, hM2, wr_2, hM1, wrL_at, if_neg (fun z => ne x h z.2)]
          exact u4 hk
      · rw [List.mem_singleton] at h
        subst h
        refine ⟨w ++ [s], wpre, wE, ?_, fun hk => ?_⟩
        · rw [wr_cell _ _ (by decide), wr_cell _ _ (by decide), hM2, wr_at, if_pos ⟨rfl, rfl⟩, wC]
        · show _ = lN (if _ then _ else _) ∧ (if _ then _ else _) = _
          rw [if_pos rfl, wr_2, wr_2, hM2, wr_2, hM1, wrL_at, if_pos ⟨rfl, rfl⟩]
          exact ⟨hX hk, rfl⟩
    · have hx3 : x ∉ Q := fun z => hx2 (List.mem_append_left _ z)
      have hx4 : x ≠ m ||| 2 ^ s := fun z => hx2 (by rw [z]; exact List.mem_append_right _ List.mem_cons_self)
      rw [wr_cell _ _ (by decide), wr_cell _ _ (by decide), hM2, wr_at, if_neg (fun z => hx4 z.2), f1]
      exact q6 x hx hx3
    · rw [List.length_append, List.length_singleton] at hj
      rw [getD_app1 (by omega)]
      by_cases h : j = Q.length
      · rw [h, getD_app2, hpcn]
        exact hpc hk _ (getD_mem (by omega))
      · rw [getD_app1 (by omega)]
        exact q7 hk i j hij (by omega)
    · show (if _ then _ else _) ≤ _
      rw [if_pos rfl, (w4 hk).2, ← hKn]
      exact Nat.le_refl _
    · show (if _ then _ else _) ≤ _
      rw [if_neg (ne x hx)]
      exact Nat.le_refl _
    · rw [wr_cell _ _ h3, wr_cell _ _ h1, hM2, wr_cell _ _ h2, f1]
