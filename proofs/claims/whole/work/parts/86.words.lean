/-! the class's words and signs -/
def ws (p : Nat) : Nat := ([32, 119, 97, 108, 107, 32, 99, 97, 114, 114, 121, 32, 109, 97, 121, 32, 111, 114, 32, 97, 110, 100, 32, 110, 111, 116, 32, 98, 97, 115, 101, 32, 109, 111, 114, 101, 32, 104, 111, 117, 114, 32, 102, 114, 111, 109, 32, 116, 111, 32, 115, 116, 114, 101, 101, 116, 32] : List Nat).getD p 0
theorem ws_ch : ∀ p, p < 57 → sch 1 (nI p) = nI (ws p) := by decide +kernel
theorem ws_b : ∀ p, p < 57 → ws p < 256 := by decide +kernel
/-- how many spaces lie ahead -/
def wi (p : Nat) : Nat := fb_ct (fun j => ws j == 32) p
theorem ws_tab : ∀ p, p < 56 → ws p = 32 → (wi p < 12 ∧ p + 1 + (wL (wi p)).length < 57 ∧ ws (p + 1 + (wL (wi p)).length) = 32 ∧ ∀ i, i < (wL (wi p)).length → ws (p + 1 + i) = (wL (wi p)).getD i 0) := by decide +kernel
theorem wL_let : ∀ k, k < 12 → ∀ i, i < (wL k).length → isL ((wL k).getD i 0) = true := by decide +kernel
theorem wi_56 : wi 56 = 12 := by decide +kernel
theorem x_iwL {tp : Nat → Nat} {n b a x1 : Nat} {M : Mem} (hT : TP tp n 11 M) (h1 : M.1 10 1 = nI n) (h5 : M.1 10 5 = nI b) (hx : x1 ≤ 57) (hb : b + (x1 - a) ≤ n) : ∀ (j i f : Nat), i + j = x1 → j < f → a ≤ i →
    (FX5_isWord_L36 f (nI a) (nI x1) (nI i) M = some (.inr ()) ∧ ∀ i', i ≤ i' → i' < x1 → ws i' = tp (b + (i' - a))) ∨ (FX5_isWord_L36 f (nI a) (nI x1) (nI i) M = some (.inl 0) ∧ ∃ i', i ≤ i' ∧ i' < x1 ∧ ws i' ≠ tp (b + (i' - a))) := by
  have hn := hT.1
  intro j
  induction j with
  | zero =>
    intro i f hi hf ha
    obtain ⟨f, rfl⟩ : ∃ g, f = g + 1 := ⟨f - 1, by omega⟩
    have : i = x1 := by omega
    subst this
    left
    rw [FX5_isWord_L36, if_pos (Int32.le_refl _)]
    exact ⟨rfl, fun i' h1 h2 => by omega⟩
  | succ j ih =>
    intro i f hi hf ha
    obtain ⟨f, rfl⟩ : ∃ g, f = g + 1 := ⟨f - 1, by omega⟩
    have hix : i < x1 := by omega
    have hin : b + (i - a) < n := by omega
    have hc := (hT.2 _ hin).2
    have hw := ws_b i (by omega)
    have ea : nI b + nI i - nI a = nI (b + (i - a)) := by
      rw [nI_add, pk_sub (by omega)]
      congr 1
      omega
    rw [FX5_isWord_L36, if_neg (nI_ge hix (by omega)), z_gi (by omega) (by decide), h5, ea, x_atT hT h1 hin, z_ob, ws_ch i (by omega), if_congr_prop (show nI (ws i) = nI (tp (b + (i - a))) ↔ ws i = tp (b + (i - a)) from z_eq (by omega) (by omega))]
    by_cases he : ws i = tp (b + (i - a))
    · rw [if_pos he, nI_1, z_lt]
      rcases ih (i + 1) f (by omega) (by omega) (by omega) with ⟨r1, r2⟩ | ⟨r1, i', r2, r3, r4⟩
      · refine Or.inl ⟨r1, fun i' h2 h3 => ?_⟩
        rcases (show i' = i ∨ i + 1 ≤ i' by omega) with h4 | h4
        · rw [h4]; exact he
        · exact r2 i' h4 h3
      · exact Or.inr ⟨r1, i', by omega, r3, r4⟩
    · rw [if_neg he]
      exact Or.inr ⟨rfl, i, Nat.le_refl _, hix, he⟩
theorem x_isWord {tp : Nat → Nat} {n b e p : Nat} {M : Mem} (hT : TP tp n 11 M) (h1 : M.1 10 1 = nI n) (h5 : M.1 10 5 = nI b) (h6 : M.1 10 6 = nI e) (hbe : b < e) (hen : e ≤ n) (hlet : ∀ i, b ≤ i → i < e → isL (tp i) = true) (hp : p < 56) (hs : ws p = 32) : FX5_isWord (nI (p + 1)) M = some (if mt tp b e (wi p) = true then 1 else 0) := by
  have hn := hT.1
  obtain ⟨w1, w2, w3, w4⟩ := ws_tab p hp hs
  unfold FX5_isWord
  rw [h5, h6, nI_add, pk_sub (by omega), show p + 1 + e - b = p + 1 + (e - b) by omega, z_lt]
  have no : ∀ z : Prop, (mt tp b e (wi p) = true → False) → ¬ mt tp b e (wi p) = true := fun _ h => h
  by_cases hx : 57 ≤ p + 1 + (e - b)
  · have hno : ¬ mt tp b e (wi p) = true := fun z => by
      have := (mt_iff.mp z).1
      omega
    rw [if_pos (show 57 ≤ nI (p + 1 + (e - b)) from nI_le (a := 57) hx (by omega)), z_ob, if_pos rfl, if_neg hno]
  · have hx57 : p + 1 + (e - b) < 57 := by omega
    rw [if_neg (show ¬ 57 ≤ nI (p + 1 + (e - b)) from nI_ge (b := 57) hx57 (by decide)), z_gi hx57 (by decide), ws_ch _ hx57, if_congr_prop (show nI (ws (p + 1 + (e - b))) = 32 ↔ ws (p + 1 + (e - b)) = 32 from z_eq (b := 32) (by have := ws_b _ hx57; omega) (by decide))]
    by_cases hsp : ws (p + 1 + (e - b)) = 32
    · rw [if_pos hsp, z_ob, if_neg nft]
      rcases x_iwL hT h1 h5 (a := p + 1) (x1 := p + 1 + (e - b)) (by omega) (by omega) (e - b) (p + 1) FU rfl (by rw [z_FU]; omega) (Nat.le_refl _) with ⟨r1, r2⟩ | ⟨r1, i', r2, r3, r4⟩
      · rw [r1, z_ob]
        have hlen : e - b = (wL (wi p)).length := by
          rcases Nat.lt_trichotomy (e - b) (wL (wi p)).length with h | h | h
          · have k1 := w4 (e - b) h
            have k2 := wL_let (wi p) w1 (e - b) h
            rw [← k1, hsp] at k2
            cases k2
          · exact h
          · have k1 := r2 (p + 1 + (wL (wi p)).length) (by omega) (by omega)
            rw [w3, show b + (p + 1 + (wL (wi p)).length - (p + 1)) = b + (wL (wi p)).length by omega] at k1
            have k2 := hlet (b + (wL (wi p)).length) (by omega) (by omega)
            rw [← k1] at k2
            cases k2
        have hyes : mt tp b e (wi p) = true := mt_iff.mpr ⟨hlen, fun i hi => by
          have k1 := r2 (p + 1 + i) (by omega) (by omega)
          rw [w4 i hi, show b + (p + 1 + i - (p + 1)) = b + i by omega] at k1
          exact k1.symm⟩
        rw [if_pos hyes]
        rfl
      · rw [r1, z_ob]
        have hno : ¬ mt tp b e (wi p) = true := fun z => by
          obtain ⟨k1, k2⟩ := mt_iff.mp z
          have k3 := w4 (i' - (p + 1)) (by omega)
          have k4 := k2 (i' - (p + 1)) (by omega)
          rw [show p + 1 + (i' - (p + 1)) = i' by omega] at k3
          exact r4 (k3.trans k4.symm)
        rw [if_neg hno]
        rfl
    · have hno : ¬ mt tp b e (wi p) = true := fun z => by
        have := (mt_iff.mp z).1
        rw [this] at hsp
        exact hsp w3
      rw [if_neg hsp, z_ob, if_pos rfl, if_neg hno]
theorem x_wt41 {tp : Nat → Nat} {n b e : Nat} {M : Mem} (hT : TP tp n 11 M) (h1 : M.1 10 1 = nI n) (h5 : M.1 10 5 = nI b) (h6 : M.1 10 6 = nI e) (hbe : b < e) (hen : e ≤ n) (hlet : ∀ i, b ≤ i → i < e → isL (tp i) = true) : ∀ (j p f : Nat), p + j = 56 → j < f → ∃ z, FX5_wordToken_L41 f (nI (256 + wi p)) (nI p) M = some z ∧ Sum.elim (fun v5 => some v5) (fun _ => some ((1 : Int32), M)) z = some (nI (ftk (mt tp b e) (12 - wi p) (wi p)), M) := by
  intro j
  induction j with
  | zero =>
    intro p f hp hf
    obtain ⟨f, rfl⟩ : ∃ g, f = g + 1 := ⟨f - 1, by omega⟩
    have : p = 56 := by omega
    subst this
    rw [FX5_wordToken_L41, if_pos (by decide), wi_56]
    exact ⟨_, rfl, rfl⟩
  | succ j ih =>
    intro p f hp hf
    obtain ⟨f, rfl⟩ : ∃ g, f = g + 1 := ⟨f - 1, by omega⟩
    have hp56 : p < 56 := by omega
    have hge : ¬ ((57 : Int32) - 1) ≤ nI p := nI_ge (b := 56) hp56 (by decide)
    have hw := ws_b p (by omega)
    rw [FX5_wordToken_L41, if_neg hge, z_gi (by omega) (by decide), ws_ch p (by omega), if_congr_prop (show nI (ws p) = 32 ↔ ws p = 32 from z_eq (b := 32) (by omega) (by decide))]
    simp only [z_lt]
    have ihh := ih (p + 1) f (by omega) (by omega)
    have ew : wi (p + 1) = wi p + (if (ws p == 32) = true then 1 else 0) := rfl
    by_cases hs : ws p = 32
    · have w1 := (ws_tab p hp56 hs).1
      rw [ew, if_pos (by rw [hs]; rfl)] at ihh
      rw [if_pos hs, nI_1, nI_1, x_isWord hT h1 h5 h6 hbe hen hlet hp56 hs, z_ob, show 12 - wi p = (12 - (wi p + 1)) + 1 by omega, ftk]
      by_cases hm : mt tp b e (wi p) = true
      · rw [if_pos hm, if_neg n10, if_pos hm]
        exact ⟨_, rfl, rfl⟩
      · rw [if_neg hm, if_pos rfl, if_neg hm]
        exact ihh
    · rw [ew, if_neg (by simpa using hs), Nat.add_zero] at ihh
      rw [if_neg hs, nI_1]
      exact ihh
theorem x_wordToken {tp : Nat → Nat} {n b : Nat} {M : Mem} (hT : TP tp n 11 M) (h1 : M.1 10 1 = nI n) (h5 : M.1 10 5 = nI b) (h6 : M.1 10 6 = nI b) (hb : b < n) (hl : isL (tp b) = true) : ∃ M', FX5_wordToken M = some (nI (wtk tp b (scn (fun i => isL (tp i)) (n - b) b)), M') ∧ kt 6 M M' ∧ M'.1 10 6 = nI (scn (fun i => isL (tp i)) (n - b) b) := by
  have hn := hT.1
  obtain ⟨M', r1, r2, r3⟩ := x_wdL (n - b) b FU M (by omega) (by rw [z_FU]; omega) hT h1 h6
  have a1 := scn_pos (P := fun i => isL (tp i)) (k := n - b) (p := b) hl (by omega)
  have a2 := scn_le (fun i => isL (tp i)) (n - b) b
  have hT' := hT.c (M' := M') (r2.1 11 (by decide))
  obtain ⟨z, z1, z2⟩ := x_wt41 hT' ((r2.2 1 (by decide)).trans h1) ((r2.2 5 (by decide)).trans h5) r3 a1 (by omega) (fun i h1 h2 => scn_in (P := fun i => isL (tp i)) h1 h2) 56 0 FU (by omega) (by rw [z_FU]; omega)
  unfold FX5_wordToken
  rw [show nI (256 + wi 0) = 256 from rfl, show nI 0 = 0 from rfl] at z1
  rw [r1, z_ob, z1, z_ob]
  exact ⟨M', z2, r2, r3⟩
def sg (i : Nat) : Nat := ([40, 41, 59, 43, 45, 42, 60, 61] : List Nat).getD i 0
theorem sg_ch : ∀ i, i < 8 → sch 2 (nI i) = nI (sg i) := by decide +kernel
theorem sg_b : ∀ i, i < 8 → sg i < 256 := by decide +kernel
theorem isG_sg {c : Nat} : isG c = true ↔ ∃ i, i < 8 ∧ sg i = c := by
  unfold isG
  simp only [Bool.or_eq_true, beq_iff_eq]
  constructor
  · rintro (h | h | h | h | h | h | h | h)
    · exact ⟨0, by decide, h.symm⟩
    · exact ⟨1, by decide, h.symm⟩
    · exact ⟨2, by decide, h.symm⟩
    · exact ⟨3, by decide, h.symm⟩
    · exact ⟨4, by decide, h.symm⟩
    · exact ⟨5, by decide, h.symm⟩
    · exact ⟨6, by decide, h.symm⟩
    · exact ⟨7, by decide, h.symm⟩
  · rintro ⟨i, h1, h2⟩
    rcases (show i = 0 ∨ i = 1 ∨ i = 2 ∨ i = 3 ∨ i = 4 ∨ i = 5 ∨ i = 6 ∨ i = 7 by omega) with rfl | rfl | rfl | rfl | rfl | rfl | rfl | rfl
    · exact Or.inl h2.symm
    · exact Or.inr (Or.inl h2.symm)
    · exact Or.inr (Or.inr (Or.inl h2.symm))
    · exact Or.inr (Or.inr (Or.inr (Or.inl h2.symm)))
    · exact Or.inr (Or.inr (Or.inr (Or.inr (Or.inl h2.symm))))
    · exact Or.inr (Or.inr (Or.inr (Or.inr (Or.inr (Or.inl h2.symm)))))
    · exact Or.inr (Or.inr (Or.inr (Or.inr (Or.inr (Or.inr (Or.inl h2.symm))))))
    · exact Or.inr (Or.inr (Or.inr (Or.inr (Or.inr (Or.inr (Or.inr h2.symm))))))
theorem x_sgL {tp : Nat → Nat} {n b : Nat} {M : Mem} (hT : TP tp n 11 M) (h1 : M.1 10 1 = nI n) (h5 : M.1 10 5 = nI b) (hb : b < n) : ∀ (j i f : Nat), i + j = 8 → j < f →
    (FX5_signToken_L12 f (nI i) M = some (.inl (nI (tp b), M)) ∧ ∃ i', i ≤ i' ∧ i' < 8 ∧ sg i' = tp b) ∨ (FX5_signToken_L12 f (nI i) M = some (.inr ()) ∧ ∀ i', i ≤ i' → i' < 8 → sg i' ≠ tp b) := by
  have hc := (hT.2 b hb).2
  intro j
  induction j with
  | zero =>
    intro i f hi hf
    obtain ⟨f, rfl⟩ : ∃ g, f = g + 1 := ⟨f - 1, by omega⟩
    have : i = 8 := by omega
    subst this
    right
    rw [FX5_signToken_L12, if_pos (by decide)]
    exact ⟨rfl, fun i' h1 h2 => by omega⟩
  | succ j ih =>
    intro i f hi hf
    obtain ⟨f, rfl⟩ : ∃ g, f = g + 1 := ⟨f - 1, by omega⟩
    have hi8 : i < 8 := by omega
    have hs := sg_b i hi8
    have hge : ¬ 8 ≤ nI i := nI_ge (b := 8) hi8 (by decide)
    rw [FX5_signToken_L12, if_neg hge, z_gi hi8 (by decide), h5, x_atT hT h1 hb, z_ob, z_ob, sg_ch i hi8, if_congr_prop (show nI (sg i) = nI (tp b) ↔ sg i = tp b from z_eq (by omega) (by omega))]
    by_cases he : sg i = tp b
    · rw [if_pos he]
      exact Or.inl ⟨rfl, i, Nat.le_refl _, hi8, he⟩
    · rw [if_neg he, nI_1, z_lt]
      rcases ih (i + 1) f (by omega) (by omega) with ⟨r1, i', r2, r3, r4⟩ | ⟨r1, r2⟩
      · exact Or.inl ⟨r1, i', by omega, r3, r4⟩
      · refine Or.inr ⟨r1, fun i' h2 h3 => ?_⟩
        rcases (show i' = i ∨ i + 1 ≤ i' by omega) with h4 | h4
        · rw [h4]; exact he
        · exact r2 i' h4 h3
theorem x_signToken {tp : Nat → Nat} {n b : Nat} {M : Mem} (hT : TP tp n 11 M) (h1 : M.1 10 1 = nI n) (h5 : M.1 10 5 = nI b) (h6 : M.1 10 6 = nI b) (hb : b < n) : FX5_signToken M = some (nI (if isG (tp b) = true then tp b else 1), wr M 10 6 (nI (b + 1))) := by
  unfold FX5_signToken
  rw [h6, nI_1, z_lt]
  rcases x_sgL (hT.c (M' := wr M 10 6 (nI (b + 1))) (wr_cell _ _ (by decide))) (by rw [wr_at, if_neg (by omega)]; exact h1) (by rw [wr_at, if_neg (by omega)]; exact h5) hb 8 0 FU (by omega) (by rw [z_FU]; omega) with ⟨r1, i', r2, r3, r4⟩ | ⟨r1, r2⟩
  · rw [show nI 0 = 0 from rfl] at r1
    rw [r1, z_ob, if_pos (isG_sg.mpr ⟨i', r3, r4⟩)]
    rfl
  · rw [show nI 0 = 0 from rfl] at r1
    rw [r1, z_ob, if_neg (fun z => by
      obtain ⟨i, i1, i2⟩ := isG_sg.mp z
      exact r2 i (Nat.zero_le _) i1 i2)]
    rfl
/-- the class goes on to the next token -/
theorem x_advance {tp : Nat → Nat} {n p : Nat} {M : Mem} (hT : TP tp n 11 M) (h1 : M.1 10 1 = nI n) (h6 : M.1 10 6 = nI p) (hp : p ≤ n) (h9 : M.1 10 9 = -1) : ∃ M', FX5_advance M = some M' ∧ (∀ k, k ≠ 10 → M'.1 k = M.1 k) ∧ (∀ i, (i < 5 ∨ 9 ≤ i) → M'.1 10 i = M.1 10 i) ∧ M'.1 10 5 = nI (lxB tp n p) ∧ M'.1 10 6 = nI (lxE tp n p) ∧ M'.1 10 7 = nI (lxT tp n p) ∧ (lxT tp n p = 2 → M'.1 10 8 = nI (lxV tp n p)) := by
  have hn := hT.1
  obtain ⟨b1, b2⟩ := lxB_b (tp := tp) hp
  unfold FX5_advance
  rw [h9, if_pos (by decide), h6, z_lt]
  obtain ⟨M1, r1, r2, r3⟩ := x_skL (n - p) p FU (wr M 10 5 (nI p)) (by omega) (by rw [z_FU]; omega) (hT.c (wr_cell _ _ (by decide))) (by rw [wr_at, if_neg (by omega)]; exact h1) (by rw [wr_at, if_pos ⟨rfl, rfl⟩])
  have k1 : kt 5 M M1 := (kt_wr 5 M _).tr r2
  have r3 : M1.1 10 5 = nI (lxB tp n p) := r3
  obtain ⟨b, hb⟩ : ∃ b, b = lxB tp n p := ⟨_, rfl⟩
  rw [← hb] at r3 b1 b2
  rw [r1, z_ob, r3, z_lt]
  obtain ⟨M2, hM2⟩ : ∃ M2, M2 = wr M1 10 6 (nI b) := ⟨_, rfl⟩
  rw [← hM2]
  have c2 : ∀ k, k ≠ 10 → M2.1 k = M.1 k := fun k hk => by rw [hM2, wr_cell _ _ hk, k1.1 k hk]
  have f2 : ∀ i, i ≠ 5 → i ≠ 6 → M2.1 10 i = M.1 10 i := fun i h5 h6 => by rw [hM2, wr_at, if_neg (fun z => h6 z.2), k1.2 i h5]
  have e5 : M2.1 10 5 = nI b := by rw [hM2, wr_at, if_neg (by omega)]; exact r3
  have e6 : M2.1 10 6 = nI b := by rw [hM2, wr_at, if_pos ⟨rfl, rfl⟩]
  have e1 : M2.1 10 1 = nI n := by rw [f2 1 (by decide) (by decide)]; exact h1
  have hT2 := hT.c (M' := M2) (c2 11 (by decide))
  rw [e5, e1]
  have hE : lxE tp n p = if n ≤ b then b else if isL (tp b) = true then scn (fun i => isL (tp i)) (n - b) b else if isD (tp b) = true then scn (fun i => isD (tp i)) (n - b) b else b + 1 := by rw [hb]; rfl
  have hTk : lxT tp n p = if n ≤ b then 0 else if isL (tp b) = true then wtk tp b (lxE tp n p) else if isD (tp b) = true then (if lxE tp n p - b ≤ 4 then 2 else 1) else if isG (tp b) = true then tp b else 1 := by rw [hb]; rfl
  have hV : lxV tp n p = num tp b (lxE tp n p - b) := by rw [hb]; rfl
  rw [← hb]
  by_cases hbn : b < n
  · have hnb : ¬ n ≤ b := by omega
    rw [if_pos (nI_lt hbn (by omega)), x_isLetter hT2 e1 hbn, z_ob]
    rw [if_neg hnb] at hE hTk
    by_cases hl : isL (tp b) = true
    · rw [if_pos hl] at hE hTk
      obtain ⟨M3, s1, s2, s3⟩ := x_wordToken hT2 e1 e5 e6 hbn hl
      rw [if_pos hl, if_neg n10, s1, z_ob, z_lt, hTk, hE]
      refine ⟨_, rfl, fun k hk => by rw [wr_cell _ _ hk, s2.1 k hk, c2 k hk], fun i hi => by rw [wr_at, if_neg (by omega), s2.2 i (by omega), f2 i (by omega) (by omega)], ?_, ?_, ?_, fun z => ?_⟩
      · rw [wr_at, if_neg (by omega), s2.2 5 (by decide)]; exact e5
      · rw [wr_at, if_neg (by omega)]; exact s3
      · rw [wr_at, if_pos ⟨rfl, rfl⟩]
      · exfalso
        have : ∀ j k, ftk (mt tp b (scn (fun i => isL (tp i)) (n - b) b)) j k = 1 ∨ 256 ≤ ftk (mt tp b (scn (fun i => isL (tp i)) (n - b) b)) j k := by
          intro j
          induction j with
          | zero => intro k; exact Or.inl rfl
          | succ j ih =>
            intro k
            rw [ftk]
            split
            · right; omega
            · exact ih (k + 1)
        unfold wtk at z
        rcases this 12 0 with y | y <;> omega
    · rw [if_neg hl] at hE hTk
      rw [if_neg hl, if_pos rfl, x_isDigit hT2 e1 hbn, z_ob]
      by_cases hd : isD (tp b) = true
      · rw [if_pos hd] at hE hTk
        rw [if_pos hd, if_neg n10]
        unfold FX5_numberToken
        obtain ⟨M3, s1, s2, s3, s4, s5⟩ := x_nuL (b := b) (n - b) b FU (wr M2 10 8 0) (by omega) (Nat.le_refl _) (by rw [z_FU]; omega) (hT2.c (wr_cell _ _ (by decide))) (by rw [wr_at, if_neg (by omega)]; exact e1) (by rw [wr_at, if_neg (by omega)]; exact e6) (by rw [wr_at, if_pos ⟨rfl, rfl⟩, Nat.sub_self]; rfl)
        have g5 : M3.1 10 5 = nI b := by rw [s3 5 (by decide) (by decide), wr_at, if_neg (by omega)]; exact e5
        have a1 := scn_pos (P := fun i => isD (tp i)) (k := n - b) (p := b) hd (by omega)
        have a2 := scn_le (fun i => isD (tp i)) (n - b) b
        rw [← hE] at s4 s5 a1 a2
        rw [z_lt, s1, z_ob, s4, g5, pk_sub (by omega), if_congr_prop (show nI (lxE tp n p - b) ≤ 4 ↔ lxE tp n p - b ≤ 4 from z_le (b := 4) (by omega) (by decide))]
        have fin : ∀ (q : Nat), lxT tp n p = q → ∃ M', (lt (wr M3 10 7 (nI q)) fun M17 => some M17) = some M' ∧ (∀ k, k ≠ 10 → M'.1 k = M.1 k) ∧ (∀ i, (i < 5 ∨ 9 ≤ i) → M'.1 10 i = M.1 10 i) ∧ M'.1 10 5 = nI b ∧ M'.1 10 6 = nI (lxE tp n p) ∧ M'.1 10 7 = nI (lxT tp n p) ∧ (lxT tp n p = 2 → M'.1 10 8 = nI (lxV tp n p)) := by
          intro q hq
          rw [z_lt]
          refine ⟨_, rfl, fun k hk => by rw [wr_cell _ _ hk, s2 k hk, wr_cell _ _ hk, c2 k hk], fun i hi => by rw [wr_at, if_neg (by omega), s3 i (by omega) (by omega), wr_at, if_neg (by omega), f2 i (by omega) (by omega)], ?_, ?_, ?_, fun _ => ?_⟩
          · rw [wr_at, if_neg (by omega)]; exact g5
          · rw [wr_at, if_neg (by omega)]; exact s4
          · rw [wr_at, if_pos ⟨rfl, rfl⟩, hq]
          · rw [wr_at, if_neg (by omega), hV]; exact s5
        by_cases h4 : lxE tp n p - b ≤ 4
        · rw [if_pos h4] at hTk ⊢
          rw [z_ob]
          exact fin 2 hTk
        · rw [if_neg h4] at hTk ⊢
          rw [z_ob]
          exact fin 1 hTk
      · rw [if_neg hd] at hE hTk
        rw [if_neg hd, if_pos rfl, x_signToken hT2 e1 e5 e6 hbn, z_ob, z_lt, hE, hTk]
        refine ⟨_, rfl, fun k hk => by rw [wr_cell _ _ hk, wr_cell _ _ hk, c2 k hk], fun i hi => by rw [wr_at, if_neg (by omega), wr_at, if_neg (by omega), f2 i (by omega) (by omega)], ?_, ?_, ?_, fun z => ?_⟩
        · rw [wr_at, if_neg (by omega), wr_at, if_neg (by omega)]; exact e5
        · rw [wr_at, if_neg (by omega), wr_at, if_pos ⟨rfl, rfl⟩]
        · rw [wr_at, if_pos ⟨rfl, rfl⟩]
        · exfalso
          by_cases hg : isG (tp b) = true
          · rw [if_pos hg] at z
            rw [z] at hg
            cases hg
          · rw [if_neg hg] at z; omega
  · have hnb : n ≤ b := by omega
    rw [if_pos hnb] at hE hTk
    rw [if_neg (by rw [z_lts (by omega) (by omega)]; omega), z_lt, hE, hTk]
    refine ⟨_, rfl, fun k hk => by rw [wr_cell _ _ hk, c2 k hk], fun i hi => by rw [wr_at, if_neg (by omega), f2 i (by omega) (by omega)], ?_, ?_, ?_, fun z => by cases z⟩
    · rw [wr_at, if_neg (by omega)]; exact e5
    · rw [wr_at, if_neg (by omega)]; exact e6
    · rw [wr_at, if_pos ⟨rfl, rfl⟩]; rfl
