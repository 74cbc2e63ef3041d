/-! finds: the least walk, street by street -/
def rsY (M : Mem) (m c : Nat) : Option Nat := if M.1 20 (9 * m + c) = -1 then none else some (M.1 20 (9 * m + c)).toNatClampNeg
theorem rs_ok {T : Twn} {k d : Nat} {M : Mem} (hB : BW T k d 0 M) {m c : Nat} (hw : wk T m c) : Rst T k d m c (rsY M m c) ∧ ((rsY M m c = none ∧ M.1 20 (9 * m + c) = -1) ∨ ∃ q, q < 100000 ∧ rsY M m c = some q ∧ M.1 20 (9 * m + c) = nI q) := by
  rcases hB m c (Nat.zero_le _) hw.1 hw.2.1 hw.2.2.2 with ⟨h1, h2⟩ | ⟨q, h1, h2, h3, h4⟩
  · have : rsY M m c = none := by unfold rsY; rw [if_pos h1]
    rw [this]
    exact ⟨fun w hw => h2 _ ⟨w, hw, rfl⟩, Or.inl ⟨rfl, h1⟩⟩
  · have : rsY M m c = some q := by unfold rsY; rw [h2, if_neg (z_m1 (by omega)), z_ix (by omega)]
    rw [this]
    exact ⟨⟨h3, fun w hw => h4 _ ⟨w, hw, rfl⟩⟩, Or.inr ⟨q, h1, rfl, h2⟩⟩
def gds (T : Twn) (k : Nat) (rs : Nat → Nat → Option Nat) (m c t : Nat) : Prop := stp T k m c t = true ∧ ∃ q, rs (m ||| 2 ^ t) (ot T t c) = some q ∧ rs m c = some (q + T.2.2 (ldw T k m) c t)
theorem gds_ex {T : Twn} (hT : Twf T) {k d : Nat} {rs : Nat → Nat → Option Nat} (hrs : ∀ m c, wk T m c → Rst T k d m c (rs m c)) {m c q : Nat} (hw : wk T m c) (hq : rs m c = some q) (h0 : q ≠ 0) : rng T d m c = false ∧ ∃ t, gds T k rs m c t := by
  have hr := hrs m c hw
  rw [hq] at hr
  obtain ⟨⟨w, h1, h2⟩, h3⟩ := hr
  cases w with
  | nil => exact absurd h2.symm h0
  | cons s r =>
    rw [Cpl_cons] at h1
    refine ⟨h1.1, s, h1.2.1, ?_⟩
    have hn := hrs _ _ (wk_stp hT hw h1.2.1)
    cases hq2 : rs (m ||| 2 ^ s) (ot T s c) with
    | none => rw [hq2] at hn; exact absurd h1.2.2 (hn r)
    | some q2 =>
      rw [hq2] at hn
      obtain ⟨⟨w2, g1, g2⟩, g3⟩ := hn
      refine ⟨q2, rfl, ?_⟩
      have a1 := g3 r h1.2.2
      have a2 := h3 (s :: w2) (Cpl_cons.mpr ⟨h1.1, h1.2.1, g1⟩)
      rw [tmE] at h2 a2
      rw [hq]
      congr 1
      omega
theorem y_fi99 {T : Twn} (hT : Twf T) {M : Mem} (hY : YTw T M) {k m c q0 : Nat} {rs : Nat → Nat → Option Nat} (hw : wk T m c) (hon : ¬ (T.1 3 = 1 ∧ m ≠ 0 ∧ c = T.1 0)) (hcells : ∀ m c, wk T m c → (rs m c = none ∧ M.1 20 (9 * m + c) = -1) ∨ ∃ q, q < 100000 ∧ rs m c = some q ∧ M.1 20 (9 * m + c) = nI q) (hq0 : rs m c = some q0) : ∀ (i f : Nat) (x : Int32), i ≤ T.1 1 → i < f → ((x = -1 ∧ ∀ t, i ≤ t → ¬ gds T k rs m c t) ∨ ∃ t, i ≤ t ∧ x = nI t ∧ gds T k rs m c t ∧ ∀ t', i ≤ t' → t' < t → ¬ gds T k rs m c t') →
    ∃ y, FX9_finds_L99 f (nI m) (nI c) (nI (pas T m)) (nI (ldw T k m)) (nI (spt T m)) x (nI i - 1) M = some y ∧ ((y = -1 ∧ ∀ t, ¬ gds T k rs m c t) ∨ ∃ t, y = nI t ∧ gds T k rs m c t ∧ ∀ t', t' < t → ¬ gds T k rs m c t') := by
  have hN := hT.1.2.1
  have hm2 := p13 hN hw.1
  intro i
  induction i with
  | zero =>
    intro f x hi hf hx
    obtain ⟨f, rfl⟩ : ∃ g, f = g + 1 := ⟨f - 1, by omega⟩
    rw [FX9_finds_L99, if_pos (by decide)]
    refine ⟨x, rfl, ?_⟩
    rcases hx with ⟨h1, h2⟩ | ⟨t, h1, h2, h3, h4⟩
    · exact Or.inl ⟨h1, fun t => h2 t (Nat.zero_le _)⟩
    · exact Or.inr ⟨t, h2, h3, fun t' h => h4 t' (Nat.zero_le _) h⟩
  | succ i ih =>
    intro f x hi hf hx
    obtain ⟨f, rfl⟩ : ∃ g, f = g + 1 := ⟨f - 1, by omega⟩
    have his : i < T.1 1 := by omega
    obtain ⟨e, q, f1, -, f3, f4, f5, f6, f7⟩ := y_frag hT hY hw.1 his hw.2.1 (ldw_lt T k m)
    have hst : stp T k m c i = (decide (q ≠ 0) && (T.1 3 == 0 || (ot T i c == T.1 0 || !(pas T m).testBit (ot T i c)))) := by
      rw [Bool.eq_iff_iff, stp_iff, f5]
      simp only [Bool.and_eq_true, Bool.or_eq_true, decide_eq_true_eq, beq_iff_eq, Bool.not_eq_true']
      constructor
      · rintro ⟨-, h2, h3, h4, -⟩
        rw [if_neg (by rw [h3]; decide)]
        exact ⟨h2, h4⟩
      · rintro ⟨h2, h4⟩
        by_cases hb : (spt T m).testBit i = true
        · rw [if_pos hb] at h2; exact absurd rfl h2
        · rw [if_neg hb] at h2
          exact ⟨his, h2, by simpa using hb, h4, hon⟩
    have em : nI i + (-1) = nI i - 1 := (Int32.sub_eq_add_neg _ _).symm
    rw [FX9_finds_L99, nI_pred, if_neg (z_neg (by omega)), f1, z_ob, f3, z_ob, f4, z_ob, ← hst]
    have keep : ¬ gds T k rs m c i → ((x = -1 ∧ ∀ t, i ≤ t → ¬ gds T k rs m c t) ∨ ∃ t, i ≤ t ∧ x = nI t ∧ gds T k rs m c t ∧ ∀ t', i ≤ t' → t' < t → ¬ gds T k rs m c t') := by
      intro hno
      have hh : ∀ t, i ≤ t → t = i ∨ i + 1 ≤ t := fun t h => by omega
      rcases hx with ⟨h1, h2⟩ | ⟨t, h1, h2, h3, h4⟩
      · refine Or.inl ⟨h1, fun t ht => ?_⟩
        rcases hh t ht with h | h
        · subst h; exact hno
        · exact h2 t h
      · refine Or.inr ⟨t, by omega, h2, h3, fun t' ht ht2 => ?_⟩
        rcases hh t' ht with h | h
        · subst h; exact hno
        · exact h4 t' h ht2
    cases hs : stp T k m c i with
    | false =>
      rw [if_neg (by decide), z_lt, em]
      exact ih f x (by omega) (by omega) (keep fun h => by have h1 := h.1; rw [hs] at h1; cases h1)
    | true =>
      obtain ⟨-, hce, hb⟩ := stp_at hT hs
      have hq : q ≠ 0 := by
        intro z
        rw [hs, z] at hst
        cases hst
      have hqt : q = T.2.2 (ldw T k m) c i := by
        rw [f5, if_neg]
        intro z
        rw [if_pos z] at f5
        exact hq f5
      have w1 := wk_stp hT hw hs
      have ho := w1.2.1
      have hmt := p13 hN w1.1
      have hc9 := hw.2.1
      rw [if_pos rfl, f6 hq, z_ob]
      simp (disch := omega) only [z_shl1, z_or, show (9 : Int32) = nI 9 from rfl, pk_mul, nI_add, z_ltp, z_gi, z_ix, em]
      rcases hcells m c hw with ⟨a1, -⟩ | ⟨qc, a1, a2, a3⟩
      · rw [a1] at hq0; cases hq0
      rw [a2] at hq0
      have eqc : qc = q0 := Option.some.inj hq0
      rw [a3]
      rcases hcells _ _ w1 with ⟨b1, b2⟩ | ⟨qn, b1, b2, b3⟩
      · rw [b2, if_pos rfl, z_ob]
        simp only [Bool.false_eq_true, if_false]
        refine ih f x (by omega) (by omega) (keep ?_)
        rintro ⟨-, q', h, -⟩
        rw [b1] at h; cases h
      · rw [b3, if_neg (z_m1 (by omega)), nI_add]
        by_cases hg : qn + q = qc
        · rw [hg, if_pos rfl, z_ob]
          simp only [if_true]
          refine ih f _ (by omega) (by omega) (Or.inr ⟨i, Nat.le_refl _, rfl, ⟨hs, qn, b2, ?_⟩, fun t' h1 h2 => by omega⟩)
          rw [a2, ← hg, hqt]
        · rw [if_neg (by rw [z_eq (by omega) (by omega)]; exact hg), z_ob]
          simp only [Bool.false_eq_true, if_false]
          refine ih f x (by omega) (by omega) (keep ?_)
          rintro ⟨-, q', h, h2⟩
          rw [b2] at h
          have e1 : qn = q' := Option.some.inj h
          rw [a2] at h2
          have e2 := Option.some.inj h2
          apply hg
          rw [hqt, e1, e2]
theorem pc_leN {m n : Nat} (hn : n ≤ 13) (h : m < 2 ^ n) : pc m ≤ n := by
  unfold pc
  have h1 := fb_ct_split (fun i => m.testBit i) n (13 - n)
  rw [show n + (13 - n) = 13 by omega] at h1
  have h2 : fb_ct (fun k => m.testBit (n + k)) (13 - n) = 0 := fb_ct_zero.mpr fun k _ => Nat.testBit_lt_two_pow (Nat.lt_of_lt_of_le h (Nat.pow_le_pow_right (n := 2) (by decide) (by omega)))
  have h3 := fb_ct_le (fun i => m.testBit i) n
  rw [h2] at h1
  omega
theorem YTw.cells {T : Twn} {M M' : Mem} (h : YTw T M) (h0 : ∀ j, (j = 0 ∨ j = 40 ∨ j = 9 ∨ j = 2) → M'.1 0 j = M.1 0 j) (hk : ∀ c, (c = 2 ∨ c = 3 ∨ c = 17 ∨ c = 18) → M'.1 c = M.1 c) : YTw T M' := by
  obtain ⟨h1, h2, h3⟩ := h
  unfold YTw YT
  rw [h0 0 (by omega), h0 40 (by omega), h0 9 (by omega), h0 2 (by omega), hk 2 (by omega), hk 3 (by omega), hk 17 (by omega), hk 18 (by omega)]
  exact ⟨h1, h2, h3⟩
/-- what finds leaves alone -/
def kf (M M' : Mem) : Prop := (∀ c, c ≠ 0 → c ≠ 20 → c ≠ 21 → M'.1 c = M.1 c) ∧ ∀ j, j ≠ 44 → j ≠ 45 → M'.1 0 j = M.1 0 j
theorem kf.tr {A B C : Mem} (h : kf A B) (h2 : kf B C) : kf A C := ⟨fun c a b d => (h2.1 c a b d).trans (h.1 c a b d), fun j a b => (h2.2 j a b).trans (h.2 j a b)⟩
theorem YTw.kf {T : Twn} {M M' : Mem} (h : YTw T M) (hk : kf M M') : YTw T M' := h.cells (fun j hj => hk.2 j (by omega) (by omega)) (fun c hc => hk.1 c (by omega) (by omega) (by omega))
theorem y_fi37 {T : Twn} (hT : Twf T) (hN : T.1 1 ≤ 12) {k d : Nat} {p : Int32} (hp : shop p k) {M0 : Mem} (hB : BW T k d 0 M0) : ∀ (n m c f q0 : Nat) (M : Mem), pc m + n = 13 → n < f → wk T m c → rsY M0 m c = some q0 → YTw T M → M.1 20 = M0.1 20 → M.1 0 44 = nI (pc m) →
    ∃ w M', FX9_finds_L37 f p (nI m) (nI c) M = some M' ∧ Grd T k d (rsY M0) m c w ∧ kf M M' ∧ M'.1 20 = M0.1 20 ∧ M'.1 0 44 = nI (pc m + w.length) ∧ M'.1 0 45 = M.1 0 45 ∧ (∀ i, i < w.length → M'.1 21 (pc m + i) = nI (w.getD i 0)) ∧ ∀ i, i < pc m → M'.1 21 i = M.1 21 i := by
  intro n
  induction n with
  | zero =>
    intro m c f q0 M hn hf hw
    have := pc_leN (by omega) hw.1
    omega
  | succ n ih =>
    intro m c f q0 M hn hf hw hq hY h20 h44
    obtain ⟨f, rfl⟩ : ∃ g, f = g + 1 := ⟨f - 1, by omega⟩
    have hm2 := p13 (show T.1 1 ≤ 13 by omega) hw.1
    have hc9 := hw.2.1
    have hrs : ∀ m c, wk T m c → Rst T k d m c (rsY M0 m c) := fun m c h => (rs_ok hB h).1
    have hcells : ∀ m c, wk T m c → (rsY M0 m c = none ∧ M.1 20 (9 * m + c) = -1) ∨ ∃ q, q < 100000 ∧ rsY M0 m c = some q ∧ M.1 20 (9 * m + c) = nI q := fun m c h => by
      rw [h20]; exact (rs_ok hB h).2
    obtain ⟨qc, a1, a2, a3⟩ : ∃ q, q < 100000 ∧ rsY M0 m c = some q ∧ M.1 20 (9 * m + c) = nI q := by
      rcases hcells m c hw with ⟨h, -⟩ | h
      · rw [hq] at h; cases h
      · exact h
    have eq0 : qc = q0 := by rw [hq] at a2; exact (Option.some.inj a2).symm
    subst eq0
    rw [FX9_finds_L37]
    rw [show (9 : Int32) = nI 9 from rfl, pk_mul, nI_add, z_gi (by omega) (by decide), z_ix (by omega), a3]
    by_cases h0 : qc = 0
    · subst h0
      rw [if_pos (by decide)]
      refine ⟨[], M, rfl, ?_, ⟨fun _ _ _ _ => rfl, fun _ _ _ => rfl⟩, h20, by rw [h44]; rfl, rfl, fun i hi => absurd hi (Nat.not_lt_zero i), fun _ _ => rfl⟩
      have hr := hrs m c hw
      rw [hq] at hr
      obtain ⟨⟨w, h1, h2⟩, -⟩ := hr
      cases w with
      | nil => exact Cpl_nil.mp h1
      | cons s r =>
        exfalso
        rw [Cpl_cons] at h1
        rw [tmE] at h2
        have := (stp_iff.mp h1.2.1).2.1
        omega
    · rw [if_neg (nI_nle (by omega) (by omega)), y_passedBy hT hY hw.1, z_ob, shop_b hT hp m, z_lt, z_lt]
      have el : (if decide (ldw T k m = 1) = true then (1 : Int32) else 0) = nI (ldw T k m) := by
        have := ldw_lt T k m
        rcases (show ldw T k m = 0 ∨ ldw T k m = 1 by omega) with h | h <;> rw [h] <;> rfl
      rw [el, y_spentBy hT hY hw.1, z_ob, hY.1.2.1, z_lt]
      obtain ⟨hr, t0, ht0⟩ := gds_ex hT hrs hw hq h0
      have hon := (stp_iff.mp ht0.1).2.2.2.2
      obtain ⟨y, e1, e2⟩ := y_fi99 hT hY hw hon hcells hq (T.1 1) FU (-1) (Nat.le_refl _) (by rw [z_FU]; omega) (Or.inl ⟨rfl, fun t ht h => by
        have := (stp_at hT h.1).1
        omega⟩)
      rcases e2 with ⟨-, h⟩ | ⟨t, rfl, ht, hl⟩
      · exact absurd ht0 (h t0)
      obtain ⟨hs, qn, b1, b2⟩ := id ht
      obtain ⟨hsN, hce, hb⟩ := stp_at hT hs
      have w1 := wk_stp hT hw hs
      have hpc := pc_or (show t < 13 by omega) hb
      have hpn := pc_leN (show T.1 1 ≤ 13 by omega) w1.1
      rw [e1, z_ob, h44, z_gi (by omega) (by decide), z_lt, z_ix (by omega), z_lt]
      obtain ⟨M1, hM1⟩ : ∃ M1, M1 = wr (wr M 21 (pc m) (nI t)) 0 44 (nI (pc m) + 1) := ⟨_, rfl⟩
      have e44 : (wr M 21 (pc m) (nI t)).1 0 44 = nI (pc m) := by rw [wr_cell _ _ (by decide)]; exact h44
      rw [e44, ← hM1]
      have k1 : kf M M1 := by
        refine ⟨fun c' h1 h2 h3 => ?_, fun j h1 h2 => ?_⟩
        · rw [hM1, wr_cell _ _ h1, wr_cell _ _ h3]
        · rw [hM1, wr_at, if_neg (fun z => h1 z.2), wr_cell _ _ (by decide)]
      have hY1 := hY.kf k1
      obtain ⟨dd, s1, s2⟩ := y_side hT hY1 hsN hc9
      rw [s1, z_ob]
      rcases s2 with ⟨-, s2⟩ | ⟨j, -, rfl, s3, -⟩
      · exact absurd hce s2
      rw [s3, z_ob, z_shl1 (by omega), z_or, z_lt]
      have h20' : M1.1 20 = M0.1 20 := by rw [hM1, wr_cell _ _ (by decide), wr_cell _ _ (by decide)]; exact h20
      obtain ⟨w, M', r1, r2, r3, r4, r5, r5', r6, r7⟩ := ih (m ||| 2 ^ t) (ot T t c) f qn M1 (by omega) (by omega) w1 b1 hY1 h20' (by rw [hM1, wr_at, if_pos ⟨rfl, rfl⟩, nI_1, hpc])
      refine ⟨t :: w, M', r1, ⟨hr, ⟨hs, qn, b1, b2⟩, fun t' h1 h2 q' h3 h4 => hl t' h1 ⟨h2, q', h3, h4⟩, r2⟩, k1.tr r3, r4, ?_, ?_, fun i hi => ?_, fun i hi => ?_⟩
      · rw [r5, hpc, List.length_cons]
        congr 1
        omega
      · rw [r5', hM1, wr_at, if_neg (by omega), wr_cell _ _ (by decide)]
      · cases i with
        | zero =>
          rw [r7 _ (by omega), hM1, wr_cell _ _ (by decide), wr_at, if_pos ⟨rfl, rfl⟩]
          rfl
        | succ i =>
          rw [List.length_cons] at hi
          have := r6 i (by omega)
          rw [hpc] at this
          rw [show pc m + (i + 1) = pc m + 1 + i by omega, this]
          rfl
      · rw [r7 i (by omega), hM1, wr_cell _ _ (by decide), wr_at, if_neg (fun z => by omega)]
