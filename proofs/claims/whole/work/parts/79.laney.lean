/-! the class's lane: its sets -/
def SQ (T : Twn) (Q : List Nat) (M : Mem) : Prop := (∃ κ, QS T 0 512 False Q κ M) ∧ ∀ w, Pre T 0 512 0 (T.1 0) w → mE 0 w ∈ Q
theorem SQ_of {T : Twn} {Q : List Nat} {κ : Nat → Nat} {M : Mem} (h : SK T 0 512 Q κ M) : SQ T Q M := by
  obtain ⟨⟨q1, q3, q4, q5, q6, q7⟩, h2⟩ := h
  refine ⟨⟨κ, q1, q3, q4, fun m hm => ?_, q6, fun z => z.elim⟩, fun w hw => (h2 w hw).1⟩
  obtain ⟨w, w1, w2, w3, w4⟩ := q5 m hm
  exact ⟨w, w1, w2, w3, fun z => z.elim⟩
theorem QS_L {T : Twn} (hT : Twf T) {a b x : Nat} {Q : List Nat} {κ : Nat → Nat} {M M' : Mem} (h : QS T 0 512 False Q κ M) (h37 : M'.1 37 = M.1 37) (h39 : M'.1 39 = M.1 39) (h40 : M'.1 40 = M.1 40) : QS (TL T a b x) 0 512 False Q κ M' := by
  obtain ⟨q1, q3, q4, q5, q6, q7⟩ := h
  refine ⟨by rw [h37]; exact q1, by rw [h40]; exact q3, q4, fun m hm => ?_, by rw [h39]; exact q6, fun z => z.elim⟩
  obtain ⟨w, w1, w2, w3, -⟩ := q5 m hm
  obtain ⟨g1, g2, g3, -⟩ := PreL hT (a := a) (b := b) (x := x) (Nat.zero_testBit _) w1
  rw [w2] at g2
  refine ⟨w, g1, w2, ?_, fun z => z.elim⟩
  rw [h39, TL_0, g3, sttL g2]
  exact w3
theorem getD_apL {Q E : List Nat} {i : Nat} (h : i < Q.length) : (Q ++ E).getD i 0 = Q.getD i 0 := by
  rw [List.getD_eq_getElem?_getD, List.getD_eq_getElem?_getD, List.getElem?_append_left h]
theorem getD_apR {Q E : List Nat} {i : Nat} (h : Q.length ≤ i) (h2 : i < (Q ++ E).length) : (Q ++ E).getD i 0 ∈ E := by
  rw [List.length_append] at h2
  rw [List.getD_eq_getElem?_getD, List.getElem?_append_right h, List.getElem?_eq_getElem (by omega)]
  exact List.getElem_mem _
theorem opL_bit {T : Twn} {a b x c s : Nat} (hx : x ≠ 0) : (if c = a ∨ c = b then opT T 0 c ||| 2 ^ T.1 1 else opT T 0 c).testBit s = true ↔ s < T.1 1 + 1 ∧ (TL T a b x).2.2 0 c s ≠ 0 := by
  by_cases hs : s < T.1 1
  · rw [TL_t hs]
    have : (if c = a ∨ c = b then opT T 0 c ||| 2 ^ T.1 1 else opT T 0 c).testBit s = (opT T 0 c).testBit s := by
      split
      · exact (or1_ne (by omega)).symm
      · rfl
    rw [this, opT_bit]
    exact ⟨fun h => ⟨by omega, h.2⟩, fun h => ⟨hs, h.2⟩⟩
  · by_cases h1 : s = T.1 1
    · subst h1
      rw [TL_nt]
      by_cases hc : c = a ∨ c = b
      · rw [if_pos hc, if_pos hc, or1_s]
        exact ⟨fun _ => ⟨by omega, hx⟩, fun _ => rfl⟩
      · rw [if_neg hc, if_neg hc, hi_bit (opT_lt T 0 c)]
        simp
    · have hp : 2 ^ (T.1 1 + 1) ≤ 2 ^ s := Nat.pow_le_pow_right (by decide) (by omega)
      have hlt : (if c = a ∨ c = b then opT T 0 c ||| 2 ^ T.1 1 else opT T 0 c) < 2 ^ s := by
        refine Nat.lt_of_lt_of_le ?_ hp
        have h2 := opT_lt T 0 c
        have hpp : 2 ^ (T.1 1 + 1) = 2 ^ T.1 1 * 2 := Nat.pow_succ 2 _
        split
        · exact Nat.or_lt_two_pow (by omega) (by have := Nat.two_pow_pos (T.1 1); omega)
        · omega
      rw [Nat.testBit_lt_two_pow hlt]
      constructor
      · intro z; cases z
      · rintro ⟨z, -⟩; omega
theorem x_laL {T : Twn} (hT : Twf T) (hN : T.1 1 ≤ 12) {a b x : Nat} (ha : a < 9) (hb : b < 9) (hab : a ≠ b) (hx0 : x ≠ 0) (hx : x ≤ 99) {Q : List Nat} (hQn : ∀ m, m ∈ Q → m < 2 ^ T.1 1) {Mo : Mem} (hLO : LO T a b Mo) : ∀ (j i f : Nat) (E : List Nat) (κ : Nat → Nat) (M : Mem), i + j = Q.length → j < f → QS (TL T a b x) 0 512 False (Q ++ E) κ M → ks Mo M → (∀ e, e ∈ E → e.testBit (T.1 1) = true) → (∀ k, k < i → ∀ c, wk (TL T a b x) (Q.getD k 0) c → stp (TL T a b x) 0 (Q.getD k 0) c (T.1 1) = true → (Q.getD k 0 ||| 2 ^ T.1 1) ∈ Q ++ E) →
    ∃ E' κ' M', FX0_ringedByLane_L15 f (nI Q.length) (nI i) M = some M' ∧ QS (TL T a b x) 0 512 False (Q ++ E') κ' M' ∧ ks Mo M' ∧ (∀ e, e ∈ E' → e.testBit (T.1 1) = true) ∧ ∀ k, k < Q.length → ∀ c, wk (TL T a b x) (Q.getD k 0) c → stp (TL T a b x) 0 (Q.getD k 0) c (T.1 1) = true → (Q.getD k 0 ||| 2 ^ T.1 1) ∈ Q ++ E' := by
  have hTL := TL_wf hT hN ha hb hab hx
  have hp13 : 2 ^ T.1 1 ≤ 4096 := Nat.pow_le_pow_right (n := 2) (by decide) hN
  obtain ⟨⟨a0, a1, a2, a3⟩, b1, ⟨c1, c2, c3⟩, b2⟩ := hLO
  intro j
  induction j with
  | zero =>
    intro i f E κ M hi hf hQ hk hE hcl
    obtain ⟨f, rfl⟩ : ∃ g, f = g + 1 := ⟨f - 1, by omega⟩
    have : i = Q.length := by omega
    subst this
    rw [FX0_ringedByLane_L15, if_pos (Int32.le_refl _)]
    exact ⟨E, κ, M, rfl, hQ, hk, hE, hcl⟩
  | succ j ih =>
    intro i f E κ M hi hf hQ hk hE hcl
    obtain ⟨f, rfl⟩ : ∃ g, f = g + 1 := ⟨f - 1, by omega⟩
    have hil : i < Q.length := by omega
    obtain ⟨⟨q1, q2⟩, q3, q4, q5, q6, q7⟩ := id hQ
    have hQl := nodup_le 8192 (Q ++ E) q4 (fun x hx => p13 hTL.1.2.1 (QS_lt hTL hQ x hx))
    have hll : (Q ++ E).length = Q.length + E.length := List.length_append
    have e40 : M.1 40 i = nI (Q.getD i 0) := by rw [q3 i (by omega), getD_apL hil]
    have hmQ := getD_mem hil
    obtain ⟨m, hm⟩ : ∃ m, m = Q.getD i 0 := ⟨_, rfl⟩
    rw [← hm] at e40 hmQ
    have hmn := hQn m hmQ
    have hbit := hi_bit hmn
    obtain ⟨w, w1, w2, w3, -⟩ := q5 m (List.mem_append_left _ hmQ)
    have hw := Pre_wk hTL (wk_0 hTL) w1
    rw [w2] at hw
    generalize cE (TL T a b x) ((TL T a b x).1 0) w = c at w3 hw
    have hm8 : m < 8192 := by omega
    have hl0 := ldw_0 (TL T a b x) m
    have k31 : M.1 31 = Mo.1 31 := hk 31 (by decide) (by decide) (by decide)
    have k32 : M.1 32 = Mo.1 32 := hk 32 (by decide) (by decide) (by decide)
    have k33 : M.1 33 = Mo.1 33 := hk 33 (by decide) (by decide) (by decide)
    have k34 : M.1 34 = Mo.1 34 := hk 34 (by decide) (by decide) (by decide)
    have k35 : M.1 35 = Mo.1 35 := hk 35 (by decide) (by decide) (by decide)
    have hO : (if c = a ∨ c = b then opT T 0 c ||| 2 ^ T.1 1 else opT T 0 c) < 8192 := by
      have h2 := opT_lt T 0 c
      split
      · exact Nat.or_lt_two_pow (n := 13) (by omega) (by omega)
      · omega
    have hOb := fun s => opL_bit (T := T) (a := a) (b := b) (c := c) (s := s) hx0
    obtain ⟨R, r1, r2, r3⟩ := x_nextT (k := 0) hTL hN (by rw [k31]; exact a0) (by rw [k31]; exact a1) (by rw [k31]; exact a3) hw hO (by rw [hl0, show 16 * 0 + c = c by omega, k35]; exact b2 c hw.2.1) (fun s hs hbs => by
      rw [k32, k33]
      rcases (show s < T.1 1 ∨ s = T.1 1 by omega) with h | h
      · obtain ⟨x1, x2, -⟩ := b1 s h
        obtain ⟨⟨d1, d2, -⟩, -⟩ := hT.2 s h
        rw [TL_e h, TL_e h]
        exact ⟨x1, x2, d1, d2⟩
      · rw [h, TL_n1, TL_n2]
        exact ⟨c1, c2, ha, hb⟩) (fun s hs => by
      rw [← Bool.not_eq_true, hOb s]
      rintro ⟨z, -⟩
      omega) (fun s => by rw [hOb s, hl0, TL_1]; exact and_assoc)
    rw [hl0] at r2
    rw [FX0_ringedByLane_L15, if_neg (nI_ge hil (by omega)), z_gi (by omega) (by decide), z_ix (show i < 2147483648 by omega), e40, z_lt, z_gi hm8 (by decide), z_ix (show m < 2147483648 by omega), w3, show (0 : Int32) = nI 0 from rfl, r2, z_ob, k31, a1, show nI 0 = 0 from rfl, if_congr_prop (z_b0 (show R < 2147483648 by omega) (show T.1 1 < 32 by omega))]
    simp only [z_lt]
    rw [nI_1]
    by_cases hst : stp (TL T a b x) 0 m c (T.1 1) = true
    · have hRn : ¬ R.testBit (T.1 1) = false := by rw [(r3 _).mpr hst]; decide
      obtain ⟨Q1, κ1, M1, s1, s2, s3, s4, -, -, -, s8⟩ := x_step hTL hQ hw (List.mem_append_left _ hmQ) hst (rng_512 hTL m c) (fun z => z.elim) (by rw [k32, TL_n1]; exact c1) (by rw [k33, TL_n2]; exact c2) (by rw [k34, TL_n3]; exact c3) (fun z => z.elim)
      rw [hl0, show nI 0 = 0 from rfl] at s1
      rw [if_neg hRn, s1, z_ob]
      have hk1 : ks Mo M1 := hk.tr s8
      have nxt : ∀ E1, Q1 = Q ++ E1 → (∀ e, e ∈ E1 → e.testBit (T.1 1) = true) → (∀ y, y ∈ Q ++ E → y ∈ Q ++ E1) → ∃ E' κ' M', FX0_ringedByLane_L15 f (nI Q.length) (nI (i + 1)) M1 = some M' ∧ QS (TL T a b x) 0 512 False (Q ++ E') κ' M' ∧ ks Mo M' ∧ (∀ e, e ∈ E' → e.testBit (T.1 1) = true) ∧ ∀ k, k < Q.length → ∀ c, wk (TL T a b x) (Q.getD k 0) c → stp (TL T a b x) 0 (Q.getD k 0) c (T.1 1) = true → (Q.getD k 0 ||| 2 ^ T.1 1) ∈ Q ++ E' := by
        intro E1 h1 h2 h3
        rw [h1] at s2 s4
        refine ih (i + 1) f E1 κ1 M1 (by omega) (by omega) s2 hk1 h2 (fun k hk2 c' h4 h5 => ?_)
        rcases (show k < i ∨ k = i by omega) with h6 | h6
        · exact h3 _ (hcl k h6 c' h4 h5)
        · rw [h6, ← hm]; exact s4
      rcases s3 with h | h
      · exact nxt E h hE (fun y hy => hy)
      · rw [List.append_assoc] at h
        refine nxt (E ++ [m ||| 2 ^ T.1 1]) h (fun e he => ?_) (fun y hy => ?_)
        · rcases List.mem_append.mp he with h1 | h1
          · exact hE e h1
          · rw [List.mem_singleton.mp h1]; exact or1_s _ _
        · rw [← List.append_assoc]; exact List.mem_append_left _ hy
    · have hRn : R.testBit (T.1 1) = false := by
        rw [← Bool.not_eq_true]
        exact fun z => hst ((r3 _).mp z)
      rw [if_pos hRn]
      refine ih (i + 1) f E κ M (by omega) (by omega) hQ hk hE (fun k hk2 c' h4 h5 => ?_)
      rcases (show k < i ∨ k = i by omega) with h6 | h6
      · exact hcl k h6 c' h4 h5
      · rw [h6, ← hm] at h4 h5
        rw [par_inj h4.2.2.2 hw.2.2.2] at h5
        exact absurd h5 hst
/-- what the class adds: the corners of the rings that go the lane -/
theorem x_lane {T : Twn} (hT : Twf T) (hN : T.1 1 ≤ 12) {a b x : Nat} (ha : a < 9) (hb : b < 9) (hab : a ≠ b) (hx0 : x ≠ 0) (hx : x ≤ 99) {Q : List Nat} {M : Mem} (hX : XTw T M) (hS : SQ T Q M) : ∃ y M', FX0_ringedByLane (nI a) (nI b) M = some (nI y, M') ∧ y < 512 ∧ (∀ i, (y.testBit i = true ∨ RGD T 0 i) ↔ RGD (TL T a b x) 0 i) ∧ XTw T M' ∧ SQ T Q M' ∧ RZ M' ∧ ∀ c, (c < 31 ∨ 41 ≤ c) → M'.1 c = M.1 c := by
  have hTL := TL_wf hT hN ha hb hab hx
  obtain ⟨⟨κ, hQ⟩, hall⟩ := hS
  have hQn : ∀ m, m ∈ Q → m < 2 ^ T.1 1 := fun m hm => QS_lt hT hQ m hm
  have hQl0 := nodup_le 8192 Q hQ.2.2.1 (fun x hx => p13 hT.1.2.1 (hQn x hx))
  have h37 := hQ.1.1
  obtain ⟨Mo, o1, o2, o3, o4, o5⟩ := x_openLane hN hX ha hb hab
  have hQo := QS_L hT (a := a) (b := b) (x := x) hQ (o3 37 (by decide) (by decide) (by decide) (by decide)) (o3 39 (by decide) (by decide) (by decide) (by decide)) (o3 40 (by decide) (by decide) (by decide) (by decide))
  obtain ⟨E, κ1, M1, l1, l2, l3, l4, l5⟩ := x_laL hT hN ha hb hab hx0 hx hQn o2 Q.length 0 FU [] κ Mo (by omega) (by rw [z_FU]; omega) (by rw [List.append_nil]; exact hQo) (ks.rf Mo) (fun e he => by cases he) (fun k hk => absurd hk (Nat.not_lt_zero k))
  have hLO1 : LO T a b M1 := by
    unfold LO at o2 ⊢
    rw [l3 31 (by decide) (by decide) (by decide), l3 32 (by decide) (by decide) (by decide), l3 33 (by decide) (by decide) (by decide), l3 34 (by decide) (by decide) (by decide), l3 35 (by decide) (by decide) (by decide)]
    exact o2
  obtain ⟨M2, c1, c2, c3, c4, c5⟩ := x_closeLane hN hX ha hb hab hLO1 (by rw [l3 36 (by decide) (by decide) (by decide), o3 36 (by decide) (by decide) (by decide) (by decide)]) (fun j h1 h2 => by rw [l3 35 (by decide) (by decide) (by decide)]; exact o4 j h1 h2)
  have hQ2 : QS (TL T a b x) 0 512 False (Q ++ E) κ1 M2 := by
    unfold QS at l2 ⊢
    rw [c4 37 (by decide), c4 39 (by decide), c4 40 (by decide), c5]
    exact l2
  have hll : (Q ++ E).length = Q.length + E.length := List.length_append
  have hG : Hnx (TL T a b x) 0 (T.1 1) (fun m => m.testBit (T.1 1) = true) M2 := by
    intro M3 m c hk hGm hw
    have hX3 : XTw T M3 := c2.ks hk
    obtain ⟨⟨a0, a1, a2, a3⟩, b1, b2, -⟩ := hX3
    have hl0 := ldw_0 (TL T a b x) m
    have hspn : (spt (TL T a b x) m).testBit (T.1 1) = true := spt_self hTL (by rw [TL_1]; omega) hGm
    obtain ⟨R, r1, r2, r3⟩ := x_nextT (k := 0) hTL hN a0 a1 a3 hw (Nat.lt_of_lt_of_le (opT_lt T 0 c) (Nat.pow_le_pow_right (n := 2) (by decide) (show T.1 1 ≤ 13 by omega))) (by rw [hl0]; exact b2 0 c (by decide) hw.2.1) (fun s hs hbs => by
      have h := ((opT_bit T 0 c s).mp hbs).1
      obtain ⟨x1, x2, -⟩ := b1 s h
      obtain ⟨⟨d1, d2, -⟩, -⟩ := hT.2 s h
      rw [TL_e h, TL_e h]
      exact ⟨x1, x2, d1, d2⟩) (fun s hs => by
      rw [← Bool.not_eq_true, opT_bit]
      rintro ⟨z, -⟩
      omega) (fun s => by
      rw [opT_bit, hl0, TL_1]
      constructor
      · rintro ⟨⟨h1, h2⟩, h3⟩
        exact ⟨by omega, by rw [TL_t h1]; exact h2, h3⟩
      · rintro ⟨h1, h2, h3⟩
        rcases (show s < T.1 1 ∨ s = T.1 1 by omega) with h | h
        · rw [TL_t h] at h2
          exact ⟨⟨h, h2⟩, h3⟩
        · rw [h, hspn] at h3; cases h3)
    refine ⟨R, r1, r2, r3, fun s hs => ?_⟩
    obtain ⟨g1, -, g3⟩ := stp_at hTL hs
    rw [TL_1] at g1
    refine ⟨?_, sub_or1 m s _ hGm⟩
    rcases (show s < T.1 1 ∨ s = T.1 1 by omega) with h | h
    · exact h
    · rw [h, hGm] at g3; cases g3
  have hXC : XC (TL T a b x) (T.1 1) False M2 := by
    refine ⟨⟨c2.1.2.1, hN⟩, fun s hs => ?_, fun z => z.elim⟩
    rw [TL_e hs, TL_e hs, TL_e hs]
    exact c2.2.1 s hs
  obtain ⟨Q3, κ3, M3, s1, s2, s3, ⟨E3, s4⟩, s5, s6⟩ := x_sp3 (i0 := Q.length) (n := T.1 1) (Kf := False) (d := 512) hTL (show 0 < 512 by decide) (by decide) hG (8193 - Q.length) Q.length FU (Q ++ E) κ1 M2 (by omega) (by rw [z_FU]; omega) (Nat.le_refl _) (by omega) hQ2 hXC (ks.rf M2) (fun k h1 h2 => l4 _ (getD_apR h1 h2)) (fun z => z.elim) (fun k h1 h2 => by omega)
  have hQ3l := nodup_le 8192 Q3 s2.2.2.1 (fun x hx => p13 hTL.1.2.1 (QS_lt hTL s2 x hx))
  have hQ3 : Q3 = Q ++ (E ++ E3) := by rw [s4, List.append_assoc]
  have hlen3 : Q.length ≤ Q3.length := by rw [hQ3, List.length_append]; omega
  have gdQ : ∀ k, k < Q.length → Q3.getD k 0 = Q.getD k 0 := fun k hk => by rw [hQ3, getD_apL hk]
  have memQ3 : ∀ m, m ∈ Q → m ∈ Q3 := fun m hm => by rw [hQ3]; exact List.mem_append_left _ hm
  obtain ⟨y, y1, y2, y3⟩ := x_ringedSince hTL s2 (A := 0) hlen3
  obtain ⟨M4, f1, f2, f3, f4, f5, f6, f7⟩ := x_forget (cnt := Q3.length) (a := Q.length) hlen3 hQ3l s2.1.1 (fun j hj => ⟨_, p13 hTL.1.2.1 (QS_lt hTL s2 _ (getD_mem hj)), s2.2.1 j hj⟩)
  -- walks that go the lane are found
  have found : ∀ (n : Nat) (w : List Nat), w.length = n → Pre (TL T a b x) 0 512 0 (T.1 0) w → mE 0 w ∈ Q3 := by
    intro n
    induction n with
    | zero =>
      intro w hw _
      have : w = [] := List.length_eq_zero_iff.mp hw
      subst this
      exact memQ3 _ (hall [] trivial)
    | succ n ih =>
      intro w hw hp
      rcases snoc w with rfl | ⟨v, s, rfl⟩
      · cases hw
      · rw [List.length_append, List.length_singleton] at hw
        rw [Pre_app] at hp
        obtain ⟨p1, p2, p3⟩ := hp
        have hv := ih v (by omega) p1
        have hwk := Pre_wk hTL (wk_0 hTL) p1
        rw [mE_app]
        cases hb : (mE 0 v).testBit (T.1 1) with
        | true =>
          obtain ⟨i, i1, i2⟩ := mem_getD hv
          have hiQ : Q.length ≤ i := by
            rcases Nat.lt_or_ge i Q.length with h | h
            · have := hQn _ (getD_mem h)
              rw [← gdQ i h, i2] at this
              rw [hi_bit this] at hb
              cases hb
            · exact h
          have := (s6 i hiQ i1 (cE (TL T a b x) (T.1 0) v) (by rw [i2]; exact hwk) (rng_512 hTL _ _) s (by rw [i2]; exact p3)).1
          rw [i2] at this
          exact this
        | false =>
          have hvT := PreU hT hTL (w := v) hb p1
          have hvQ := hall v hvT
          obtain ⟨hs1, -, -⟩ := stp_at hTL p3
          rw [TL_1] at hs1
          rcases (show s < T.1 1 ∨ s = T.1 1 by omega) with h | h
          · refine memQ3 _ ?_
            have hce := (PreL hT (a := a) (b := b) (x := x) (Nat.zero_testBit _) hvT).2.2.1
            rw [stpL hb h, hce] at p3
            have := hall (v ++ [s]) ((Pre_app T 0 512 v _ _ s).mpr ⟨hvT, rng_512 hT _ _, p3⟩)
            rw [mE_app] at this
            exact this
          · subst h
            obtain ⟨i, i1, i2⟩ := mem_getD hvQ
            have := l5 i i1 (cE (TL T a b x) (T.1 0) v) (by rw [i2]; exact hwk) (by rw [i2]; exact p3)
            rw [i2] at this
            rw [s4]
            exact List.mem_append_left _ this
  have hQ4 : QS T 0 512 False Q κ M4 := by
    have h5 := s2.1.2
    have hnot : ∀ m, m ∈ Q → ¬ ∃ j, Q.length ≤ j ∧ j < Q3.length ∧ M3.1 40 j = nI m := by
      rintro m hm ⟨j, j1, j2, j3⟩
      have e : Q3.getD j 0 = m := by
        rw [s2.2.1 j j2] at j3
        have h8 := p13 hTL.1.2.1 (QS_lt hTL s2 _ (getD_mem j2))
        have h9 := hQn m hm
        have h10 : 2 ^ T.1 1 ≤ 4096 := Nat.pow_le_pow_right (n := 2) (by decide) hN
        exact (z_eq (by omega) (by omega)).mp j3
      have hbj := s5 j j1 j2
      rw [e, hi_bit (hQn m hm)] at hbj
      cases hbj
    refine ⟨⟨f3, by rw [f4 5 (by decide)]; exact h5⟩, fun i hi => ?_, hQ.2.2.1, fun m hm => ?_, fun m hm hno => ?_, fun z => z.elim⟩
    · rw [f2 40 (by decide) (by decide), s2.2.1 i (by omega), gdQ i hi]
    · obtain ⟨w, w1, w2, w3, -⟩ := s2.2.2.2.1 m (memQ3 m hm)
      have hbm := hi_bit (hQn m hm)
      have hwT := PreU hT hTL (by rw [w2]; exact hbm) w1
      have hce := (PreL hT (a := a) (b := b) (x := x) (Nat.zero_testBit _) hwT).2.2.1
      refine ⟨w, hwT, w2, ?_, fun z => z.elim⟩
      have hm8 : m < 8192 := p13 hT.1.2.1 (hQn m hm)
      rw [f7 m hm8 (hnot m hm), w3, sttL hbm, hce, TL_0]
    · by_cases hin : m ∈ Q3
      · obtain ⟨j, j1, j2⟩ := mem_getD hin
        have hjQ : Q.length ≤ j := by
          rcases Nat.lt_or_ge j Q.length with h | h
          · rw [gdQ j h] at j2
            exact absurd (by rw [← j2]; exact getD_mem h) hno
          · exact h
        exact f6 m hm ⟨j, hjQ, j1, by rw [s2.2.1 j j1, j2]⟩
      · rw [f7 m hm (fun ⟨j, j1, j2, j3⟩ => ?_)]
        · exact s2.2.2.2.2.1 m hm hin
        · rw [s2.2.1 j j2] at j3
          have h8 := p13 hTL.1.2.1 (QS_lt hTL s2 _ (getD_mem j2))
          have e := (z_eq (by omega) (by omega)).mp j3
          exact hin (by rw [← e]; exact getD_mem j2)
  unfold FX0_ringedByLane
  rw [h37, z_lt, o1, z_ob]
  rw [show nI 0 = 0 from rfl] at l1
  rw [l1, z_ob, c1, z_ob]
  have hsp : FX0_spread (nI Q.length) 512 0 M2 = some M3 := by
    unfold FX0_spread
    rw [show nI 512 = 512 from rfl, show nI 0 = 0 from rfl] at s1
    rw [s1, z_ob]
  rw [show nI 0 = 0 from rfl] at y2
  rw [hsp, z_ob, y2, z_ob, f1, z_ob]
  refine ⟨y, M4, rfl, y1, fun i => ?_, ?_, ⟨⟨κ, ?_⟩, hall⟩, ?_, fun c hc => ?_⟩
  · -- the corners
    constructor
    · rintro (h | h)
      · obtain ⟨g1, k, g2, ⟨g3, g4, g5⟩, -, g6⟩ := (y3 i).mp h
        obtain ⟨w, w1, w2, -⟩ := s2.2.2.2.1 _ (getD_mem g3)
        have hw := Pre_wk hTL (wk_0 hTL) w1
        rw [w2] at hw
        exact ⟨g1, _, _, (rng_iff.mp g5).1, Nat.and_zero _, ⟨w, w1, w2, par_inj hw.2.2.2 g4.2.2.2, rfl⟩, g6⟩
      · exact RGD_L hT h
    · rintro ⟨h1, m, q, h2, h3, h4, h5⟩
      cases hb : m.testBit (T.1 1) with
      | false =>
        right
        exact ⟨h1, m, q, h2, h3, WS_U hT hTL hb h4, by rw [pasL hb] at h5; exact h5⟩
      | true =>
        left
        obtain ⟨w, w1, w2, w3, -⟩ := id h4
        have hmem := found w.length w rfl w1
        rw [w2] at hmem
        obtain ⟨k, k1, k2⟩ := mem_getD hmem
        refine (y3 i).mpr ⟨h1, k, ?_, ⟨k1, by rw [k2]; exact WS_wk hTL h4, ?_⟩, Nat.and_zero _, by rw [k2]; exact h5⟩
        · rcases Nat.lt_or_ge k Q.length with h | h
          · have := hQn _ (getD_mem h)
            rw [← gdQ k h, k2] at this
            rw [hi_bit this] at hb
            cases hb
          · exact h
        · rw [k2]
          exact rng_iff.mpr ⟨h2, rfl, by rw [Nat.and_zero]⟩
  · -- the town
    have h3 : XTw T M3 := c2.ks s3
    unfold XTw XT at h3 ⊢
    rw [f2 31 (by decide) (by decide), f2 32 (by decide) (by decide), f2 33 (by decide) (by decide), f2 34 (by decide) (by decide), f2 35 (by decide) (by decide), f2 36 (by decide) (by decide)]
    exact h3
  · exact hQ4
  · exact QS_RZ hT hQ4
  · rw [f2 c (by omega) (by omega), s3 c (by omega) (by omega) (by omega), c4 c (by omega), l3 c (by omega) (by omega) (by omega), o3 c (by omega) (by omega) (by omega) (by omega)]
