/-! the reference goes on to the next token -/
def ytk (t : Nat) : Int32 := if t = 0 then 0 else if t = 1 then -1 else if t = 2 then 1 else if t < 256 then nI t else if t < 259 then 3 else if t < 262 then nI (t - 255) else 2
theorem ytk_w (w : Nat) : ytk (256 + w) = if w < 3 then 3 else if w < 6 then nI (w + 1) else 2 := by
  unfold ytk
  rw [if_neg (by omega), if_neg (by omega), if_neg (by omega), if_neg (by omega)]
  by_cases h1 : w < 3
  · rw [if_pos h1, if_pos (by omega)]
  · rw [if_neg h1, if_neg (by omega)]
    by_cases h2 : w < 6
    · rw [if_pos h2, if_pos (by omega), show 256 + w - 255 = w + 1 by omega]
    · rw [if_neg h2, if_neg (by omega)]
def YN (tp : Nat → Nat) (n p : Nat) (M : Mem) : Prop := M.1 0 28 = nI (lxB tp n p) ∧ M.1 0 27 = nI (lxE tp n p) ∧ M.1 0 29 = ytk (lxT tp n p) ∧ (lxT tp n p = 2 → M.1 0 30 = nI (lxV tp n p)) ∧ (256 ≤ lxT tp n p → lxT tp n p < 259 → M.1 0 30 = nI (lxT tp n p - 256)) ∧ (262 ≤ lxT tp n p → lxT tp n p < 268 → M.1 0 30 = nI (lxT tp n p - 262))
theorem wx_v : ∀ k, k < 12 → (k < 3 → wx k = k) ∧ (3 ≤ k → k < 9 → wx k = k + 3) ∧ (9 ≤ k → wx k = k - 6) := by decide +kernel
theorem isG_ytk {c : Nat} (h : isG c = true) : ytk c = nI c ∧ 40 ≤ c ∧ c < 62 := by
  obtain ⟨i, h1, rfl⟩ := isG_sg.mp h
  rcases (show i = 0 ∨ i = 1 ∨ i = 2 ∨ i = 3 ∨ i = 4 ∨ i = 5 ∨ i = 6 ∨ i = 7 by omega) with rfl | rfl | rfl | rfl | rfl | rfl | rfl | rfl <;> exact ⟨rfl, by decide, by decide⟩
theorem y_isG {c : Nat} (hc : c < 256) : (if nI c = 40 then true else if nI c = 41 then true else if nI c = 59 then true else if nI c = 43 then true else if nI c = 45 then true else if nI c = 42 then true else if nI c = 60 then true else if nI c = 61 then true else false) = isG c := by
  have e : ∀ k, k < 256 → (nI c = nI k ↔ c = k) := fun k hk => z_eq (by omega) (by omega)
  have e1 := e 40 (by decide)
  have e2 := e 41 (by decide)
  have e3 := e 59 (by decide)
  have e4 := e 43 (by decide)
  have e5 := e 45 (by decide)
  have e6 := e 42 (by decide)
  have e7 := e 60 (by decide)
  have e8 := e 61 (by decide)
  rw [if_congr_prop (show nI c = 40 ↔ c = 40 from e1), if_congr_prop (show nI c = 41 ↔ c = 41 from e2), if_congr_prop (show nI c = 59 ↔ c = 59 from e3), if_congr_prop (show nI c = 43 ↔ c = 43 from e4), if_congr_prop (show nI c = 45 ↔ c = 45 from e5), if_congr_prop (show nI c = 42 ↔ c = 42 from e6), if_congr_prop (show nI c = 60 ↔ c = 60 from e7), if_congr_prop (show nI c = 61 ↔ c = 61 from e8)]
  have el : ∀ (k : Nat) (x : Bool), (if c = k then true else x) = (c == k || x) := by
    intro k x
    by_cases h : c = k
    · rw [if_pos h, h]; simp
    · rw [if_neg h]; simp [h]
  have el2 : (if c = 61 then true else false) = (c == 61) := by
    by_cases h : c = 61 <;> simp [h]
  rw [el2, el, el, el, el, el, el, el]
  rfl
theorem y_next {tp : Nat → Nat} {n p : Nat} {M : Mem} (hT : TP tp n 6 M) (hW : ∀ j, j < 96 → M.1 13 j = nI (wdN j)) (h1 : M.1 0 11 = nI n) (h6 : M.1 0 27 = nI p) (hp : p ≤ n) : ∃ M', FX9_next M = some M' ∧ kz (fun i => 27 ≤ i ∧ i ≤ 30) M M' ∧ YN tp n p M' := by
  have hn := hT.1
  obtain ⟨b1, b2⟩ := lxB_b (tp := tp) hp
  obtain ⟨M1, r1, r2, r3⟩ := y_skL (n - p) p FU M (by omega) (by rw [z_FU]; omega) hT h1 h6
  have r3 : M1.1 0 27 = nI (lxB tp n p) := r3
  unfold FX9_next YN
  obtain ⟨b, hb⟩ : ∃ b, b = lxB tp n p := ⟨_, rfl⟩
  have hE : lxE tp n p = if n ≤ b then b else if isL (tp b) = true then scn (fun i => isL (tp i)) (n - b) b else if isD (tp b) = true then scn (fun i => isD (tp i)) (n - b) b else b + 1 := by rw [hb]; rfl
  have hTk : lxT tp n p = if n ≤ b then 0 else if isL (tp b) = true then wtk tp b (lxE tp n p) else if isD (tp b) = true then (if lxE tp n p - b ≤ 4 then 2 else 1) else if isG (tp b) = true then tp b else 1 := by rw [hb]; rfl
  have hV : lxV tp n p = num tp b (lxE tp n p - b) := by rw [hb]; rfl
  rw [← hb] at r3 b1 b2
  rw [← hb, r1, z_ob, r3, z_lt, z_lt, z_lt]
  obtain ⟨M7, hM7⟩ : ∃ M7, M7 = wr (wr (wr M1 0 28 (nI b)) 0 29 0) 0 30 0 := ⟨_, rfl⟩
  rw [← hM7]
  have k7 : kz (fun i => 27 ≤ i ∧ i ≤ 30) M M7 := by
    rw [hM7]
    exact (((r2.mono (fun i hi => by omega)).tr (kz_wr ⟨by decide, by decide⟩ _ _)).tr (kz_wr ⟨by decide, by decide⟩ _ _)).tr (kz_wr ⟨by decide, by decide⟩ _ _)
  have e27 : M7.1 0 27 = nI b := by rw [hM7, wr_at, if_neg (by omega), wr_at, if_neg (by omega), wr_at, if_neg (by omega)]; exact r3
  have e28 : M7.1 0 28 = nI b := by rw [hM7, wr_at, if_neg (by omega), wr_at, if_neg (by omega), wr_at, if_pos ⟨rfl, rfl⟩]
  have e29 : M7.1 0 29 = 0 := by rw [hM7, wr_at, if_neg (by omega), wr_at, if_pos ⟨rfl, rfl⟩]
  have e30 : M7.1 0 30 = 0 := by rw [hM7, wr_at, if_pos ⟨rfl, rfl⟩]
  have e11 : M7.1 0 11 = nI n := by rw [k7.2 11 (by omega)]; exact h1
  have hT7 := hT.c (M' := M7) (k7.1 6 (by decide))
  rw [e27, e11, if_congr_prop (show nI b = nI n ↔ b = n from z_eq (by omega) (by omega))]
  by_cases hbn : b = n
  · have hnb : n ≤ b := by omega
    rw [if_pos hnb] at hE hTk
    rw [if_pos hbn, hE, hTk]
    exact ⟨M7, rfl, k7, e28, e27, e29, fun z => absurd z (by decide), fun z => absurd z (by decide), fun z => absurd z (by decide)⟩
  · have hnb : ¬ n ≤ b := by omega
    have hlt : b < n := by omega
    rw [if_neg hnb] at hE hTk
    obtain ⟨ht, hb256⟩ := hT7.2 b hlt
    have einL : FX9_in (nI (tp b)) 97 122 = if isL (tp b) = true then 1 else 0 := y_inB (lo := 97) (hi := 122) hb256 (by decide) (by decide)
    have einD : FX9_in (nI (tp b)) 48 57 = if isD (tp b) = true then 1 else 0 := y_inB (lo := 48) (hi := 57) hb256 (by decide) (by decide)
    rw [if_neg hbn, z_gi (by omega) (by decide), z_ix (by omega), ht]
    simp only [z_lt]
    rw [einL, einD, y_isG hb256]
    by_cases hl : isL (tp b) = true
    · rw [if_pos hl] at hE hTk
      rw [if_pos hl, if_neg n10]
      obtain ⟨M3, s1, s2, s3⟩ := y_ltL (n - b) b FU M7 (by omega) (by rw [z_FU]; omega) hT7 e11 e27
      have a1 := scn_pos (P := fun i => isL (tp i)) (k := n - b) (p := b) hl (by omega)
      have a2 := scn_le (fun i => isL (tp i)) (n - b) b
      have a3 : ∀ i, b ≤ i → i < lxE tp n p → isL (tp i) = true := fun i h1 h2 => scn_in (P := fun i => isL (tp i)) (k := n - b) h1 (by rw [← hE]; exact h2)
      rw [← hE] at s3 a1 a2
      have g28 : M3.1 0 28 = nI b := by rw [s2.2 28 (by decide)]; exact e28
      have hT3 := hT7.c (M' := M3) (s2.1 6 (by decide))
      have hW3 : ∀ j, j < 96 → M3.1 13 j = nI (wdN j) := fun j hj => by rw [s2.1 13 (by decide), k7.1 13 (by decide)]; exact hW j hj
      rw [s1, z_ob, g28, s3]
      have kf : ∀ (x y : Int32), kz (fun i => 27 ≤ i ∧ i ≤ 30) M (wr (wr M3 0 29 x) 0 30 y) := fun x y => (k7.tr (s2.mono (fun i hi => by omega))).tr ((kz_wr ⟨by decide, by decide⟩ _ _).tr (kz_wr ⟨by decide, by decide⟩ _ _))
      have f28 : ∀ (x y : Int32), (wr (wr M3 0 29 x) 0 30 y).1 0 28 = nI b := fun x y => by rw [wr_at, if_neg (by omega), wr_at, if_neg (by omega)]; exact g28
      have f27 : ∀ (x y : Int32), (wr (wr M3 0 29 x) 0 30 y).1 0 27 = nI (lxE tp n p) := fun x y => by rw [wr_at, if_neg (by omega), wr_at, if_neg (by omega)]; exact s3
      have f29 : ∀ (x y : Int32), (wr (wr M3 0 29 x) 0 30 y).1 0 29 = x := fun x y => by rw [wr_at, if_neg (by omega), wr_at, if_pos ⟨rfl, rfl⟩]
      have f30 : ∀ (x y : Int32), (wr (wr M3 0 29 x) 0 30 y).1 0 30 = y := fun x y => by rw [wr_at, if_pos ⟨rfl, rfl⟩]
      rcases y_w2 hT3 hW3 a1 (by omega) a3 12 0 FU (by omega) (by rw [z_FU]; omega) with ⟨q, q1, q2, q3, q4⟩ | ⟨q1, q2⟩
      · obtain ⟨w1, -, -⟩ := wd_tab q q3
        have ewtk : wtk tp b (lxE tp n p) = 256 + wx q := ftk_of q4 (fun j hj hm => mt_one hj w1 hm q4) 12 0 (by omega) (Nat.zero_le _) w1
        rw [ewtk] at hTk
        obtain ⟨v1, v2, v3⟩ := wx_v q q3
        have eW : FX9_wordFrom (nI b) (nI (lxE tp n p)) M3 = some (nI q) := by
          unfold FX9_wordFrom
          rw [show nI 0 = 0 from rfl] at q1
          rw [q1, z_ob]; rfl
        rw [eW, z_ob]
        have c3 : 3 ≤ nI q ↔ 3 ≤ q := z_le (a := 3) (by decide) (by omega)
        have c9 : 9 ≤ nI q ↔ 9 ≤ q := z_le (a := 9) (by decide) (by omega)
        have c12 : nI q = 12 ↔ q = 12 := z_eq (b := 12) (by omega) (by decide)
        rw [if_congr_prop c3, if_congr_prop c3, if_congr_prop c9, if_congr_prop c12]
        refine ⟨_, rfl, kf _ _, f28 _ _, f27 _ _, ?_, fun z => by omega, fun z1 z2 => ?_, fun z1 z2 => ?_⟩
        · rw [f29, hTk, ytk_w]
          by_cases h3 : 3 ≤ q
          · by_cases h9 : 9 ≤ q
            · rw [if_pos h3, if_pos h9, if_neg (show ¬ q = 12 by omega), if_neg (show ¬ wx q < 3 by omega), if_pos (show wx q < 6 by omega), show (4 : Int32) = nI 4 from rfl, nI_add, show (9 : Int32) = nI 9 from rfl, pk_sub (by omega)]
              exact congrArg nI (by omega)
            · rw [if_pos h3, if_neg h9, if_neg (show ¬ wx q < 3 by omega), if_neg (show ¬ wx q < 6 by omega)]
          · rw [if_neg h3, if_pos (show wx q < 3 by omega)]
        · rw [f30, if_neg (show ¬ 3 ≤ q by omega)]
          exact congrArg nI (by omega)
        · rw [f30, if_pos (show 3 ≤ q by omega), show (3 : Int32) = nI 3 from rfl, pk_sub (by omega)]
          exact congrArg nI (by omega)
      · have ewtk : wtk tp b (lxE tp n p) = 1 := ftk_no 12 0 (by omega) (fun i hi hm => by
          obtain ⟨k, k1, k2⟩ := wx_on i hi
          exact q2 k (Nat.zero_le _) k1 (by rw [k2]; exact hm))
        rw [ewtk] at hTk
        have eW : FX9_wordFrom (nI b) (nI (lxE tp n p)) M3 = some 12 := by
          unfold FX9_wordFrom
          rw [show nI 0 = 0 from rfl] at q1
          rw [q1, z_ob]; rfl
        rw [eW, z_ob]
        refine ⟨_, rfl, kf _ _, f28 _ _, f27 _ _, ?_, fun z => by omega, fun z1 z2 => by omega, fun z1 z2 => by omega⟩
        rw [f29, hTk]
        rfl
    · rw [if_neg hl] at hE hTk
      rw [if_neg hl, if_pos rfl]
      by_cases hd : isD (tp b) = true
      · rw [if_pos hd] at hE hTk
        rw [if_pos hd, if_neg n10]
        obtain ⟨M3, s1, s2, s4, s5⟩ := y_dgL (b := b) (n - b) b FU M7 (by omega) (Nat.le_refl _) (by rw [z_FU]; omega) hT7 e11 e27 (by rw [e30, Nat.sub_self, if_pos (by decide)]; rfl)
        have a2 := scn_le (fun i => isD (tp i)) (n - b) b
        rw [← hE] at s1 s4 s5 a2
        rw [Nat.sub_self, show nI 0 = 0 from rfl] at s1
        rw [s1, z_ob, if_congr_prop (show nI (lxE tp n p - b) ≤ 4 ↔ lxE tp n p - b ≤ 4 from z_le (b := 4) (by omega) (by decide))]
        refine ⟨_, rfl, (k7.tr (s2.mono (fun i hi => by omega))).tr (kz_wr ⟨by decide, by decide⟩ _ _), ?_, ?_, ?_, fun z => ?_, fun z1 z2 => ?_, fun z1 z2 => ?_⟩
        · rw [wr_at, if_neg (by omega), s2.2 28 (by omega)]; exact e28
        · rw [wr_at, if_neg (by omega)]; exact s4
        · rw [wr_at, if_pos ⟨rfl, rfl⟩, hTk]
          by_cases h4 : lxE tp n p - b ≤ 4
          · rw [if_pos h4, if_pos h4]; rfl
          · rw [if_neg h4, if_neg h4]; rfl
        · rw [hTk] at z
          have h4 : lxE tp n p - b ≤ 4 := by
            by_cases h4 : lxE tp n p - b ≤ 4
            · exact h4
            · rw [if_neg h4] at z; omega
          rw [wr_at, if_neg (by omega), s5, if_pos h4, hV]
        · rw [hTk] at z1
          split at z1 <;> omega
        · rw [hTk] at z1
          split at z1 <;> omega
      · rw [if_neg hd] at hE hTk
        rw [if_neg hd, if_pos rfl, wr_at, if_neg (show ¬ (0 = 0 ∧ 27 = 29) by decide), e27, nI_1, hE]
        have fin : ∀ (x : Int32), x = ytk (lxT tp n p) → lxT tp n p ≠ 2 → lxT tp n p < 256 → ∃ M', some (wr (wr M7 0 29 x) 0 27 (nI (b + 1))) = some M' ∧ kz (fun i => 27 ≤ i ∧ i ≤ 30) M M' ∧ M'.1 0 28 = nI b ∧ M'.1 0 27 = nI (b + 1) ∧ M'.1 0 29 = ytk (lxT tp n p) ∧ (lxT tp n p = 2 → M'.1 0 30 = nI (lxV tp n p)) ∧ (256 ≤ lxT tp n p → lxT tp n p < 259 → M'.1 0 30 = nI (lxT tp n p - 256)) ∧ (262 ≤ lxT tp n p → lxT tp n p < 268 → M'.1 0 30 = nI (lxT tp n p - 262)) := by
          intro x hx h2 h256
          refine ⟨_, rfl, k7.tr ((kz_wr ⟨by decide, by decide⟩ _ _).tr (kz_wr ⟨by decide, by decide⟩ _ _)), ?_, ?_, ?_, fun z => absurd z h2, fun z => by omega, fun z => by omega⟩
          · rw [wr_at, if_neg (by omega), wr_at, if_neg (by omega)]; exact e28
          · rw [wr_at, if_pos ⟨rfl, rfl⟩]
          · rw [wr_at, if_neg (by omega), wr_at, if_pos ⟨rfl, rfl⟩, hx]
        by_cases hg : isG (tp b) = true
        · rw [if_pos hg] at hTk
          obtain ⟨g1, g2, g3⟩ := isG_ytk hg
          rw [if_pos hg, if_neg n10]
          exact fin _ (by rw [hTk, g1]) (by omega) (by omega)
        · rw [if_neg hg] at hTk
          rw [if_neg hg, if_pos rfl]
          exact fin _ (by rw [hTk]; rfl) (by omega) (by omega)
