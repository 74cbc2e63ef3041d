/-! the class reads: its state, and what its calls do to it -/
def kxT (M M' : Mem) : Prop := (∀ k, k ≠ 10 → k ≠ 12 → M'.1 k = M.1 k) ∧ ∀ j, j < 4 → M'.1 10 j = M.1 10 j
theorem kxT.rf (M : Mem) : kxT M M := ⟨fun _ _ _ => rfl, fun _ _ => rfl⟩
theorem kxT.tr {A B C : Mem} (h : kxT A B) (h2 : kxT B C) : kxT A C := ⟨fun k a b => (h2.1 k a b).trans (h.1 k a b), fun j hj => (h2.2 j hj).trans (h.2 j hj)⟩
theorem kxT_10 {j : Nat} (hj : 4 ≤ j) (M : Mem) (x : Int32) : kxT M (wr M 10 j x) := ⟨fun k a _ => wr_cell _ _ a, fun i hi => by rw [wr_at, if_neg (by omega)]⟩
theorem kxT_12 {j : Nat} (M : Mem) (x : Int32) : kxT M (wr M 12 j x) := ⟨fun k _ a => wr_cell _ _ a, fun i hi => by rw [wr_cell _ _ (by decide)]⟩
def XS (tp : Nat → Nat) (n : Nat) (M0 M : Mem) (p : Nat) (C : List Nat) : Prop :=
  kxT M0 M ∧ (TP tp n 11 M0 ∧ M0.1 10 1 = nI n ∧ p ≤ n) ∧ (M.1 10 5 = nI (lxB tp n p) ∧ M.1 10 6 = nI (lxE tp n p) ∧ M.1 10 7 = nI (lxT tp n p) ∧ (lxT tp n p = 2 → M.1 10 8 = nI (lxV tp n p)) ∧ M.1 10 9 = -1) ∧
  (M.1 10 4 = nI C.length ∧ C.length ≤ 160 ∧ ∀ i, i < C.length → M.1 12 i = encX (C.getD i 0))
def XF (M0 M : Mem) (b : Nat) : Prop := kxT M0 M ∧ (M.1 10 9 = nI b ∧ b < 2147483648) ∧ M.1 10 7 = 1 ∧ ∃ k, k ≤ 160 ∧ M.1 10 4 = nI k
theorem x_emitS {tp : Nat → Nat} {n : Nat} {M0 M : Mem} {p : Nat} {C : List Nat} (h : XS tp n M0 M p C) (hl : C.length < 160) {c : Nat} {x : Int32} (hx : x = encX c) : ∃ M', FX5_emit x M = some M' ∧ XS tp n M0 M' p (C ++ [c]) := by
  obtain ⟨k, t, ⟨a1, a2, a3, a4, a5⟩, ⟨c1, c2, c3⟩⟩ := h
  unfold FX5_emit
  rw [c1, if_neg (show ¬ 160 ≤ nI C.length from nI_ge (b := 160) hl (by decide)), nI_1, z_lt, z_gi hl (by decide), z_ix (by omega), z_lt]
  refine ⟨_, rfl, (k.tr (kxT_10 (by decide) _ _)).tr (kxT_12 _ _), t, ⟨?_, ?_, ?_, fun z => ?_, ?_⟩, ⟨?_, ?_, fun i hi => ?_⟩⟩
  · rw [wr_cell _ _ (by decide), wr_at, if_neg (by omega)]; exact a1
  · rw [wr_cell _ _ (by decide), wr_at, if_neg (by omega)]; exact a2
  · rw [wr_cell _ _ (by decide), wr_at, if_neg (by omega)]; exact a3
  · rw [wr_cell _ _ (by decide), wr_at, if_neg (by omega)]; exact a4 z
  · rw [wr_cell _ _ (by decide), wr_at, if_neg (by omega)]; exact a5
  · rw [wr_cell _ _ (by decide), wr_at, if_pos ⟨rfl, rfl⟩, List.length_append, List.length_singleton]
  · rw [List.length_append, List.length_singleton]; omega
  · rw [List.length_append, List.length_singleton] at hi
    rw [wr_at]
    by_cases e : i = C.length
    · rw [if_pos ⟨rfl, e⟩, e, getD_app2, hx]
    · rw [if_neg (fun z => e z.2), wr_cell _ _ (by decide), getD_app1 (by omega)]
      exact c3 i (by omega)
theorem x_emitF {M0 M : Mem} {b : Nat} (h : XF M0 M b) (x : Int32) : ∃ M', FX5_emit x M = some M' ∧ XF M0 M' b := by
  obtain ⟨k, ⟨a1, a2⟩, a3, q, q1, q2⟩ := h
  unfold FX5_emit
  rw [q2]
  by_cases hq : 160 ≤ q
  · rw [if_pos (show 160 ≤ nI q from nI_le (a := 160) hq (by omega))]
    exact ⟨M, rfl, k, ⟨a1, a2⟩, a3, q, q1, q2⟩
  · rw [if_neg (show ¬ 160 ≤ nI q from nI_ge (b := 160) (by omega) (by decide)), nI_1, z_lt, z_gi (by omega) (by decide), z_ix (by omega), z_lt]
    refine ⟨_, rfl, (k.tr (kxT_10 (by decide) _ _)).tr (kxT_12 _ _), ⟨?_, a2⟩, ?_, q + 1, by omega, ?_⟩
    · rw [wr_cell _ _ (by decide), wr_at, if_neg (by omega)]; exact a1
    · rw [wr_cell _ _ (by decide), wr_at, if_neg (by omega)]; exact a3
    · rw [wr_cell _ _ (by decide), wr_at, if_pos ⟨rfl, rfl⟩]
theorem x_advS {tp : Nat → Nat} {n : Nat} {M0 M : Mem} {p : Nat} {C : List Nat} (h : XS tp n M0 M p C) : ∃ M', FX5_advance M = some M' ∧ XS tp n M0 M' (lxE tp n p) C := by
  obtain ⟨k, ⟨t1, t2, t3⟩, ⟨a1, a2, a3, a4, a5⟩, ⟨c1, c2, c3⟩⟩ := h
  have hE := (lxE_b (tp := tp) t3).2.1
  obtain ⟨M', e1, e2, e3, e4, e5, e6, e7⟩ := x_advance (t1.c (k.1 11 (by decide) (by decide))) (by rw [k.2 1 (by decide)]; exact t2) a2 hE a5
  refine ⟨M', e1, k.tr ⟨fun j h0 _ => e2 j h0, fun j hj => e3 j (by omega)⟩, ⟨t1, t2, hE⟩, ⟨e4, e5, e6, e7, ?_⟩, ⟨?_, c2, fun i hi => ?_⟩⟩
  · rw [e3 9 (by omega)]; exact a5
  · rw [e3 4 (by omega)]; exact c1
  · rw [e2 12 (by decide)]; exact c3 i hi
theorem x_advF {M0 M : Mem} {b : Nat} (h : XF M0 M b) : FX5_advance M = some M := by
  unfold FX5_advance
  rw [h.2.1.1, if_neg (z_neg h.2.1.2)]
theorem x_refS {tp : Nat → Nat} {n : Nat} {M0 M : Mem} {p : Nat} {C : List Nat} (h : XS tp n M0 M p C) : ∃ M', FX5_refuse M = some M' ∧ XF M0 M' (lxB tp n p) := by
  obtain ⟨k, ⟨t1, t2, t3⟩, ⟨a1, a2, a3, a4, a5⟩, ⟨c1, c2, c3⟩⟩ := h
  have hB := (lxB_b (tp := tp) t3).2
  have hn := t1.1
  unfold FX5_refuse
  rw [a5, if_neg (by decide), a1, z_lt, z_lt, z_lt]
  refine ⟨_, rfl, (k.tr (kxT_10 (by decide) _ _)).tr (kxT_10 (by decide) _ _), ⟨?_, by omega⟩, ?_, C.length, c2, ?_⟩
  · rw [wr_at, if_neg (by omega), wr_at, if_pos ⟨rfl, rfl⟩]
  · rw [wr_at, if_pos ⟨rfl, rfl⟩]
  · rw [wr_at, if_neg (by omega), wr_at, if_neg (by omega)]; exact c1
theorem x_refF {M0 M : Mem} {b : Nat} (h : XF M0 M b) : ∃ M', FX5_refuse M = some M' ∧ XF M0 M' b := by
  obtain ⟨k, ⟨a1, a2⟩, a3, q, q1, q2⟩ := h
  unfold FX5_refuse
  rw [a1, if_pos (z_pos a2), z_lt, z_lt]
  refine ⟨_, rfl, k.tr (kxT_10 (by decide) _ _), ⟨?_, a2⟩, ?_, q, q1, ?_⟩
  · rw [wr_at, if_neg (by omega)]; exact a1
  · rw [wr_at, if_pos ⟨rfl, rfl⟩]
  · rw [wr_at, if_neg (by omega)]; exact q2
theorem x_expS {tp : Nat → Nat} {n : Nat} {M0 M : Mem} {p : Nat} {C : List Nat} (h : XS tp n M0 M p C) {a : Nat} (ha : a < 268) : (lxT tp n p = a → ∃ M', FX5_expect (nI a) M = some M' ∧ XS tp n M0 M' (lxE tp n p) C) ∧ (lxT tp n p ≠ a → ∃ M', FX5_expect (nI a) M = some M' ∧ XF M0 M' (lxB tp n p)) := by
  have hlt := TR_lt (lxT_rng tp n p)
  have e : M.1 10 7 = nI a ↔ lxT tp n p = a := by
    rw [h.2.2.1.2.2.1]
    exact z_eq (by omega) (by omega)
  unfold FX5_expect
  rw [if_congr_prop e]
  constructor
  · intro ht
    obtain ⟨M', e1, e2⟩ := x_advS h
    rw [if_pos ht, e1, z_ob]
    exact ⟨M', rfl, e2⟩
  · intro ht
    obtain ⟨M', e1, e2⟩ := x_refS h
    rw [if_neg ht, e1, z_ob]
    exact ⟨M', rfl, e2⟩
theorem x_expF {M0 M : Mem} {b : Nat} (h : XF M0 M b) {a : Nat} (ha : a < 268) (h1 : a ≠ 1) : ∃ M', FX5_expect (nI a) M = some M' ∧ XF M0 M' b := by
  obtain ⟨M', e1, e2⟩ := x_refF h
  unfold FX5_expect
  rw [h.2.2.1, if_neg (show ¬ (1 : Int32) = nI a from fun z => h1 ((z_eq (a := 1) (by decide) (by omega)).mp z).symm), e1, z_ob]
  exact ⟨M', rfl, e2⟩
/-- a fault stays -/
def FPR (G : Int32 → Mem → Option Mem) : Prop := ∀ (a : Int32) (M0 M : Mem) (b : Nat), XF M0 M b → ∃ M', G a M = some M' ∧ XF M0 M' b
theorem F_single (E : Int32 → Mem → Option Mem) : FPR (FX5_single E) := by
  intro a M0 M b h
  unfold FX5_single
  rw [h.2.2.1, if_neg (by decide)]
  simp only [z_lt]
  rw [if_pos (show (1 : Int32) < 262 by decide), if_neg nft, if_neg (show ¬ (1 : Int32) = 40 by decide), if_neg nft]
  obtain ⟨M', e1, e2⟩ := x_refF h
  rw [e1, z_ob]
  exact ⟨M', rfl, e2⟩
/-! signs that open one more each -/
theorem op_stop {f : Nat} {a o m : Int32} {M : Mem} (h : ¬ M.1 10 7 = a ∨ 5 ≤ o + m) : FX5_openers_L2 (f + 1) a o m M = some (m, M) := by
  have e : ¬ (if M.1 10 7 = a then (if 5 ≤ o + m then false else true) else false) = true := by
    by_cases h1 : M.1 10 7 = a
    · rw [if_pos h1, if_pos (h.resolve_left (fun z => z h1))]; exact nft
    · rw [if_neg h1]; exact nft
  rw [FX5_openers_L2, z_lt, if_neg e]
theorem op_go {f : Nat} {a o m : Int32} {M : Mem} (h1 : M.1 10 7 = a) (h2 : ¬ 5 ≤ o + m) : FX5_openers_L2 (f + 1) a o m M = ob (FX5_advance M) fun q => FX5_openers_L2 f a o (m + 1) q := by
  have e : (if M.1 10 7 = a then (if 5 ≤ o + m then false else true) else false) = true := by rw [if_pos h1, if_neg h2]
  rw [FX5_openers_L2, z_lt, if_pos e]
  rfl
theorem op_none {M : Mem} {a : Int32} (h : ¬ M.1 10 7 = a) (o : Int32) : FX5_openers a o M = some (0, M) := by
  have e := op_stop (f := 99999) (o := o) (m := 0) (Or.inl h)
  unfold FX5_openers
  rw [show FU = 99999 + 1 from rfl, e, z_ob]
def EM (x : Int32) : Nat → Mem → Option Mem
  | 0, M => some M
  | j + 1, M => ob (EM x j M) fun q => FX5_emit x q
theorem ob_as {α β γ : Type} (x : Option α) (f : α → Option β) (g : β → Option γ) : ob (ob x f) g = ob x fun q => ob (f q) g := by cases x <;> rfl
theorem ob_id {α : Type} (x : Option α) : (ob x fun q => some q) = x := by cases x <;> rfl
theorem EM_hd (x : Int32) : ∀ (j : Nat) (M : Mem), (ob (FX5_emit x M) fun q => EM x j q) = EM x (j + 1) M
  | 0, M => ob_id (FX5_emit x M)
  | j + 1, M => by
    have ih := EM_hd x j M
    rw [EM, ← ih, ob_as]
    rfl
theorem EM_ob (x : Int32) (j : Nat) (y : Option Mem) : (ob y fun q => EM x (j + 1) q) = ob (ob y fun q => EM x j q) fun q => FX5_emit x q := by cases y <;> rfl
theorem em_denied {G : Int32 → Mem → Option Mem} : ∀ (j m f : Nat) (M : Mem), j < f → m + j ≤ 5 → FX5_denied_L18 G f (nI (m + j)) (nI m) M = EM (-261) j M := by
  intro j
  induction j with
  | zero =>
    intro m f M hf hm
    obtain ⟨f, rfl⟩ : ∃ g, f = g + 1 := ⟨f - 1, by omega⟩
    rw [FX5_denied_L18, if_pos (show nI (m + 0) ≤ nI m from Int32.le_refl _)]
    rfl
  | succ j ih =>
    intro m f M hf hm
    obtain ⟨f, rfl⟩ : ∃ g, f = g + 1 := ⟨f - 1, by omega⟩
    rw [FX5_denied_L18, if_neg (show ¬ nI (m + (j + 1)) ≤ nI m from fun z => by
      have := (z_le (by omega) (by omega)).mp z
      omega), ← EM_hd]
    congr 1
    funext q
    rw [z_lt, nI_1, show m + (j + 1) = m + 1 + j by omega]
    exact ih (m + 1) f q (by omega) (by omega)
theorem em_signed {G : Int32 → Mem → Option Mem} : ∀ (j m f : Nat) (M : Mem), j < f → m + j ≤ 5 → FX5_signed_L17 G f (nI (m + j)) (nI m) M = EM (-3) j M := by
  intro j
  induction j with
  | zero =>
    intro m f M hf hm
    obtain ⟨f, rfl⟩ : ∃ g, f = g + 1 := ⟨f - 1, by omega⟩
    rw [FX5_signed_L17, if_pos (show nI (m + 0) ≤ nI m from Int32.le_refl _)]
    rfl
  | succ j ih =>
    intro m f M hf hm
    obtain ⟨f, rfl⟩ : ∃ g, f = g + 1 := ⟨f - 1, by omega⟩
    rw [FX5_signed_L17, if_neg (show ¬ nI (m + (j + 1)) ≤ nI m from fun z => by
      have := (z_le (by omega) (by omega)).mp z
      omega), ← EM_hd]
    congr 1
    funext q
    rw [z_lt, nI_1, show m + (j + 1) = m + 1 + j by omega]
    exact ih (m + 1) f q (by omega) (by omega)
/-- denied, signed: with so many signs -/
theorem d_denied {G : Int32 → Mem → Option Mem} {o j : Nat} {M M1 : Mem} (h : FX5_openers_L2 FU 261 (nI o) (nI 0) M = some (nI j, M1)) (hj : j ≤ 5) : FX5_denied G (nI o) M = ob (G (nI (o + j)) M1) fun q => EM (-261) j q := by
  have e0 : FX5_openers 261 (nI o) M = some (nI j, M1) := by
    unfold FX5_openers
    rw [show (0 : Int32) = nI 0 from rfl, h, z_ob]
  unfold FX5_denied
  rw [e0, z_ob]
  show (ob (G (nI o + nI j) M1) fun q3 => ob (FX5_denied_L18 G FU (nI j) (nI 0) q3) fun q5 => some q5) = _
  rw [nI_add]
  congr 1
  funext q
  have := em_denied (G := G) j 0 FU q (by rw [z_FU]; omega) (by omega)
  rw [Nat.zero_add] at this
  rw [this, ob_id]
theorem d_signed {G : Int32 → Mem → Option Mem} {o j : Nat} {M M1 : Mem} (h : FX5_openers_L2 FU 45 (nI o) (nI 0) M = some (nI j, M1)) (hj : j ≤ 5) : FX5_signed G (nI o) M = ob (G (nI (o + j)) M1) fun q => EM (-3) j q := by
  have e0 : FX5_openers 45 (nI o) M = some (nI j, M1) := by
    unfold FX5_openers
    rw [show (0 : Int32) = nI 0 from rfl, h, z_ob]
  unfold FX5_signed
  rw [e0, z_ob]
  show (ob (G (nI o + nI j) M1) fun q3 => ob (FX5_signed_L17 G FU (nI j) (nI 0) q3) fun q5 => some q5) = _
  rw [nI_add]
  congr 1
  funext q
  have := em_signed (G := G) j 0 FU q (by rw [z_FU]; omega) (by omega)
  rw [Nat.zero_add] at this
  rw [this, ob_id]
theorem n_denied {G : Int32 → Mem → Option Mem} {a : Int32} {M : Mem} (h : ¬ M.1 10 7 = 261) : FX5_denied G a M = G (a + 0) M := by
  unfold FX5_denied
  rw [op_none h, z_ob]
  show (ob (G (a + 0) M) fun q3 => ob (FX5_denied_L18 G FU (nI 0) (nI 0) q3) fun q5 => some q5) = _
  have e : (fun q3 => ob (FX5_denied_L18 G FU (nI 0) (nI 0) q3) fun q5 => some q5) = fun q => some q := by
    funext q
    rw [show nI 0 = nI (0 + 0) from rfl, em_denied (G := G) 0 0 FU q (by rw [z_FU]; omega) (by omega), ob_id]
    rfl
  rw [e, ob_id]
theorem n_signed {G : Int32 → Mem → Option Mem} {a : Int32} {M : Mem} (h : ¬ M.1 10 7 = 45) : FX5_signed G a M = G (a + 0) M := by
  unfold FX5_signed
  rw [op_none h, z_ob]
  show (ob (G (a + 0) M) fun q3 => ob (FX5_signed_L17 G FU (nI 0) (nI 0) q3) fun q5 => some q5) = _
  have e : (fun q3 => ob (FX5_signed_L17 G FU (nI 0) (nI 0) q3) fun q5 => some q5) = fun q => some q := by
    funext q
    rw [show nI 0 = nI (0 + 0) from rfl, em_signed (G := G) 0 0 FU q (by rw [z_FU]; omega) (by omega), ob_id]
    rfl
  rw [e, ob_id]
theorem F_signed {G : Int32 → Mem → Option Mem} (hG : FPR G) : FPR (FX5_signed G) := by
  intro a M0 M b h
  rw [n_signed (by rw [h.2.2.1]; decide)]
  exact hG _ M0 M b h
theorem F_product {G : Int32 → Mem → Option Mem} (hG : FPR G) : FPR (FX5_product G) := by
  intro a M0 M b h
  obtain ⟨M1, e1, e2⟩ := hG a M0 M b h
  unfold FX5_product
  rw [e1, z_ob, show FU = 99999 + 1 from rfl, FX5_product_L7, e2.2.2.1, if_neg (show ¬ (160 : Int32) ≤ 0 by decide), if_neg (show ¬ (1 : Int32) = 42 by decide), z_lt, if_neg nft, z_ob]
  exact ⟨M1, rfl, e2⟩
theorem F_sum {G : Int32 → Mem → Option Mem} (hG : FPR G) : FPR (FX5_sum G) := by
  intro a M0 M b h
  obtain ⟨M1, e1, e2⟩ := hG a M0 M b h
  unfold FX5_sum
  rw [e1, z_ob, show FU = 99999 + 1 from rfl, FX5_sum_L7, e2.2.2.1, if_neg (show ¬ (160 : Int32) ≤ 0 by decide), if_neg (show ¬ (1 : Int32) = 43 by decide), if_neg (show ¬ (1 : Int32) = 45 by decide), z_lt, if_neg nft, z_ob]
  exact ⟨M1, rfl, e2⟩
theorem F_both {G : Int32 → Mem → Option Mem} (hG : FPR G) : FPR (FX5_both G) := by
  intro a M0 M b h
  obtain ⟨M1, e1, e2⟩ := hG a M0 M b h
  unfold FX5_both
  rw [e1, z_ob, show FU = 99999 + 1 from rfl, FX5_both_L7, e2.2.2.1, if_neg (show ¬ (160 : Int32) ≤ 0 by decide), if_neg (show ¬ (1 : Int32) = 260 by decide), z_lt, if_neg nft, z_ob]
  exact ⟨M1, rfl, e2⟩
theorem F_either {G : Int32 → Mem → Option Mem} (hG : FPR G) : FPR (FX5_either G) := by
  intro a M0 M b h
  obtain ⟨M1, e1, e2⟩ := hG a M0 M b h
  unfold FX5_either
  rw [e1, z_ob, show FU = 99999 + 1 from rfl, FX5_either_L7, e2.2.2.1, if_neg (show ¬ (160 : Int32) ≤ 0 by decide), if_neg (show ¬ (1 : Int32) = 259 by decide), z_lt, if_neg nft, z_ob]
  exact ⟨M1, rfl, e2⟩
theorem F_compared {G : Int32 → Mem → Option Mem} (hG : FPR G) : FPR (FX5_compared G) := by
  intro a M0 M b h
  obtain ⟨M1, e1, e2⟩ := hG a M0 M b h
  unfold FX5_compared
  rw [e1, z_ob, e2.2.2.1, if_neg (show ¬ (1 : Int32) = 60 by decide), if_neg (show ¬ (1 : Int32) = 61 by decide), z_lt, if_pos rfl]
  exact ⟨M1, rfl, e2⟩
theorem F_denied {G : Int32 → Mem → Option Mem} (hG : FPR G) : FPR (FX5_denied G) := by
  intro a M0 M b h
  rw [n_denied (by rw [h.2.2.1]; decide)]
  exact hG _ M0 M b h
theorem F_eitherT : FPR FX5_eitherT := by
  have : ZX5 16 = FX5_either (FX5_both (FX5_denied (FX5_compared (FX5_sum (FX5_product (FX5_signed (FX5_single (ZX5 15)))))))) := rfl
  unfold FX5_eitherT
  rw [this]
  exact F_either (F_both (F_denied (F_compared (F_sum (F_product (F_signed (F_single _)))))))
/-- 'not' where nothing more may be opened: it comes to single, and is the fault -/
def RPR (tp : Nat → Nat) (n : Nat) (G : Int32 → Mem → Option Mem) : Prop := ∀ (a : Int32) (M0 M : Mem) (p : Nat) (C : List Nat), XS tp n M0 M p C → lxT tp n p = 261 → ∃ M', G a M = some M' ∧ XF M0 M' (lxB tp n p)
theorem R_single {tp : Nat → Nat} {n : Nat} (E : Int32 → Mem → Option Mem) : RPR tp n (FX5_single E) := by
  intro a M0 M p C h ht
  obtain ⟨M', e1, e2⟩ := x_refS h
  unfold FX5_single
  rw [h.2.2.1.2.2.1, ht, if_neg (show ¬ nI 261 = 2 by decide)]
  simp only [z_lt]
  rw [if_pos (show nI 261 < 262 by decide), if_neg nft, if_neg (show ¬ nI 261 = 40 by decide), if_neg nft, e1, z_ob]
  exact ⟨M', rfl, e2⟩
theorem R_signed {tp : Nat → Nat} {n : Nat} {G : Int32 → Mem → Option Mem} (hG : RPR tp n G) : RPR tp n (FX5_signed G) := by
  intro a M0 M p C h ht
  rw [n_signed (by rw [h.2.2.1.2.2.1, ht]; decide)]
  exact hG _ M0 M p C h ht
theorem R_product {tp : Nat → Nat} {n : Nat} {G : Int32 → Mem → Option Mem} (hG : RPR tp n G) : RPR tp n (FX5_product G) := by
  intro a M0 M p C h ht
  obtain ⟨M1, e1, e2⟩ := hG a M0 M p C h ht
  unfold FX5_product
  rw [e1, z_ob, show FU = 99999 + 1 from rfl, FX5_product_L7, e2.2.2.1, if_neg (show ¬ (160 : Int32) ≤ 0 by decide), if_neg (show ¬ (1 : Int32) = 42 by decide), z_lt, if_neg nft, z_ob]
  exact ⟨M1, rfl, e2⟩
theorem R_sum {tp : Nat → Nat} {n : Nat} {G : Int32 → Mem → Option Mem} (hG : RPR tp n G) : RPR tp n (FX5_sum G) := by
  intro a M0 M p C h ht
  obtain ⟨M1, e1, e2⟩ := hG a M0 M p C h ht
  unfold FX5_sum
  rw [e1, z_ob, show FU = 99999 + 1 from rfl, FX5_sum_L7, e2.2.2.1, if_neg (show ¬ (160 : Int32) ≤ 0 by decide), if_neg (show ¬ (1 : Int32) = 43 by decide), if_neg (show ¬ (1 : Int32) = 45 by decide), z_lt, if_neg nft, z_ob]
  exact ⟨M1, rfl, e2⟩
theorem R_compared {tp : Nat → Nat} {n : Nat} {G : Int32 → Mem → Option Mem} (hG : RPR tp n G) : RPR tp n (FX5_compared G) := by
  intro a M0 M p C h ht
  obtain ⟨M1, e1, e2⟩ := hG a M0 M p C h ht
  unfold FX5_compared
  rw [e1, z_ob, e2.2.2.1, if_neg (show ¬ (1 : Int32) = 60 by decide), if_neg (show ¬ (1 : Int32) = 61 by decide), z_lt, if_pos rfl]
  exact ⟨M1, rfl, e2⟩
