/-! the reference's tokens -/
def kz (J : Nat → Prop) (M M' : Mem) : Prop := (∀ k, k ≠ 0 → M'.1 k = M.1 k) ∧ ∀ i, ¬ J i → M'.1 0 i = M.1 0 i
theorem kz.rf (J : Nat → Prop) (M : Mem) : kz J M M := ⟨fun _ _ => rfl, fun _ _ => rfl⟩
theorem kz.tr {J : Nat → Prop} {A B C : Mem} (h : kz J A B) (h2 : kz J B C) : kz J A C := ⟨fun k hk => (h2.1 k hk).trans (h.1 k hk), fun i hi => (h2.2 i hi).trans (h.2 i hi)⟩
theorem kz_wr {J : Nat → Prop} {j : Nat} (hj : J j) (M : Mem) (x : Int32) : kz J M (wr M 0 j x) := ⟨fun k hk => wr_cell _ _ hk, fun i hi => by rw [wr_at, if_neg (fun z => hi (by rw [z.2]; exact hj))]⟩
theorem kz.mono {J K : Nat → Prop} {A B : Mem} (h : kz J A B) (hJ : ∀ i, J i → K i) : kz K A B := ⟨h.1, fun i hi => h.2 i (fun z => hi (hJ i z))⟩
theorem y_skL {tp : Nat → Nat} {n : Nat} : ∀ (k p f : Nat) (M : Mem), p + k = n → k < f → TP tp n 6 M → M.1 0 11 = nI n → M.1 0 27 = nI p → ∃ M', FX9_next_L0 f M = some M' ∧ kz (fun i => i = 27) M M' ∧ M'.1 0 27 = nI (scn (fun i => isS (tp i)) k p) := by
  intro k
  induction k with
  | zero =>
    intro p f M hp hf hT h1 h5
    obtain ⟨f, rfl⟩ : ∃ g, f = g + 1 := ⟨f - 1, by omega⟩
    have : p = n := by omega
    subst this
    rw [FX9_next_L0, h1, h5, if_pos (Int32.le_refl _)]
    exact ⟨M, rfl, kz.rf _ _, h5⟩
  | succ k ih =>
    intro p f M hp hf hT h1 h5
    obtain ⟨f, rfl⟩ : ∃ g, f = g + 1 := ⟨f - 1, by omega⟩
    have hn := hT.1
    have hpn : p < n := by omega
    obtain ⟨ht, hb⟩ := hT.2 p hpn
    rw [FX9_next_L0, h1, h5, if_neg (nI_ge hpn (by omega)), z_gi (by omega) (by decide), z_gi (by omega) (by decide), z_ix (by omega), ht, if_congr_prop (show nI (tp p) = 32 ↔ tp p = 32 from z_eq (b := 32) (by omega) (by decide)), if_congr_prop (show nI (tp p) = 10 ↔ tp p = 10 from z_eq (b := 10) (by omega) (by decide)), scn]
    have eb : (if tp p = 32 then some true else if tp p = 10 then some true else some false) = some (isS (tp p)) := by
      unfold isS
      by_cases k1 : tp p = 32
      · simp [k1]
      · by_cases k2 : tp p = 10
        · simp [k2]
        · simp [k1, k2]
    rw [eb, z_ob]
    by_cases hs : isS (tp p) = true
    · rw [if_pos hs, if_pos hs, nI_1, z_lt]
      obtain ⟨M', r1, r2, r3⟩ := ih (p + 1) f (wr M 0 27 (nI (p + 1))) (by omega) (by omega) (hT.c (wr_cell _ _ (by decide))) (by rw [wr_at, if_neg (by omega)]; exact h1) (by rw [wr_at, if_pos ⟨rfl, rfl⟩])
      exact ⟨M', r1, (kz_wr (J := fun i => i = 27) rfl M _).tr r2, r3⟩
    · rw [if_neg hs, if_neg hs]
      exact ⟨M, rfl, kz.rf _ _, h5⟩
theorem y_inB {c lo hi : Nat} (hc : c < 256) (hl : lo < 256) (hh : hi < 256) : FX9_in (nI c) (nI lo) (nI hi) = if (decide (lo ≤ c) && decide (c ≤ hi)) = true then 1 else 0 := by
  rw [z_inN (by omega) (by omega) (by omega)]
  by_cases h : lo ≤ c ∧ c ≤ hi
  · rw [if_pos h, if_pos (by simpa using h)]
  · rw [if_neg h, if_neg (by simpa using h)]
theorem y_ltL {tp : Nat → Nat} {n : Nat} : ∀ (k p f : Nat) (M : Mem), p + k = n → k < f → TP tp n 6 M → M.1 0 11 = nI n → M.1 0 27 = nI p → ∃ M', FX9_next_L103 f M = some M' ∧ kz (fun i => i = 27) M M' ∧ M'.1 0 27 = nI (scn (fun i => isL (tp i)) k p) := by
  intro k
  induction k with
  | zero =>
    intro p f M hp hf hT h1 h5
    obtain ⟨f, rfl⟩ : ∃ g, f = g + 1 := ⟨f - 1, by omega⟩
    have : p = n := by omega
    subst this
    rw [FX9_next_L103, h1, h5, if_pos (Int32.le_refl _), z_ob, if_neg nft]
    exact ⟨M, rfl, kz.rf _ _, h5⟩
  | succ k ih =>
    intro p f M hp hf hT h1 h5
    obtain ⟨f, rfl⟩ : ∃ g, f = g + 1 := ⟨f - 1, by omega⟩
    have hn := hT.1
    have hpn : p < n := by omega
    obtain ⟨ht, hb⟩ := hT.2 p hpn
    have ein : FX9_in (nI (tp p)) 97 122 = if isL (tp p) = true then 1 else 0 := y_inB (lo := 97) (hi := 122) hb (by decide) (by decide)
    rw [FX9_next_L103, h1, h5, if_neg (nI_ge hpn (by omega)), z_gi (by omega) (by decide), z_ix (by omega), ht, ein, scn]
    by_cases hs : isL (tp p) = true
    · rw [if_pos hs, if_pos hs, if_neg n10, z_ob, if_pos rfl, nI_1, z_lt]
      obtain ⟨M', r1, r2, r3⟩ := ih (p + 1) f (wr M 0 27 (nI (p + 1))) (by omega) (by omega) (hT.c (wr_cell _ _ (by decide))) (by rw [wr_at, if_neg (by omega)]; exact h1) (by rw [wr_at, if_pos ⟨rfl, rfl⟩])
      exact ⟨M', r1, (kz_wr (J := fun i => i = 27) rfl M _).tr r2, r3⟩
    · rw [if_neg hs, if_neg hs, if_pos rfl, z_ob, if_neg nft]
      exact ⟨M, rfl, kz.rf _ _, h5⟩
theorem y_dgL {tp : Nat → Nat} {n b : Nat} : ∀ (k p f : Nat) (M : Mem), p + k = n → b ≤ p → k < f → TP tp n 6 M → M.1 0 11 = nI n → M.1 0 27 = nI p → M.1 0 30 = nI (if p - b ≤ 4 then num tp b (p - b) else 0) →
    ∃ M', FX9_next_L230 f (nI (p - b)) M = some (nI (scn (fun i => isD (tp i)) k p - b), M') ∧ kz (fun i => i = 27 ∨ i = 30) M M' ∧ M'.1 0 27 = nI (scn (fun i => isD (tp i)) k p) ∧ M'.1 0 30 = nI (if scn (fun i => isD (tp i)) k p - b ≤ 4 then num tp b (scn (fun i => isD (tp i)) k p - b) else 0) := by
  intro k
  induction k with
  | zero =>
    intro p f M hp hb hf hT h1 h5 h8
    obtain ⟨f, rfl⟩ : ∃ g, f = g + 1 := ⟨f - 1, by omega⟩
    have : p = n := by omega
    subst this
    rw [FX9_next_L230, h1, h5, if_pos (Int32.le_refl _), z_ob, if_neg nft]
    exact ⟨M, rfl, kz.rf _ _, h5, h8⟩
  | succ k ih =>
    intro p f M hp hb hf hT h1 h5 h8
    obtain ⟨f, rfl⟩ : ∃ g, f = g + 1 := ⟨f - 1, by omega⟩
    have hn := hT.1
    have hpn : p < n := by omega
    obtain ⟨ht, hb2⟩ := hT.2 p hpn
    have ein : FX9_in (nI (tp p)) 48 57 = if isD (tp p) = true then 1 else 0 := y_inB (lo := 48) (hi := 57) hb2 (by decide) (by decide)
    rw [FX9_next_L230, h1, h5, if_neg (nI_ge hpn (by omega)), z_gi (by omega) (by decide), z_ix (show p < 2147483648 by omega), ht, ein, scn]
    by_cases hs : isD (tp p) = true
    · have hd := hs
      unfold isD at hd
      simp only [Bool.and_eq_true, decide_eq_true_eq] at hd
      have e : num tp b (p + 1 - b) = num tp b (p - b) * 10 + tp p - 48 := by
        rw [show p + 1 - b = (p - b) + 1 by omega, num, show b + (p - b) = p by omega]
      have ev : (if 4 ≤ nI (p - b) then some 0 else gi (nI p) 160 (some (10 * M.1 0 30 + nI (tp p) - 48))) = some (nI (if p + 1 - b ≤ 4 then num tp b (p + 1 - b) else 0)) := by
        rw [if_congr_prop (show 4 ≤ nI (p - b) ↔ 4 ≤ p - b from z_le (a := 4) (by decide) (by omega))]
        by_cases h4 : 4 ≤ p - b
        · rw [if_pos h4, if_neg (by omega)]; rfl
        · rw [if_neg h4, if_pos (by omega), z_gi (by omega) (by decide), h8, if_pos (by omega), e, show (10 : Int32) = nI 10 from rfl, pk_mul, nI_add, show (48 : Int32) = nI 48 from rfl, pk_sub (by omega), Nat.mul_comm 10]
      rw [if_pos hs, if_pos hs, if_neg n10, z_ob, if_pos rfl, ev, z_ob, z_lt, nI_1, z_lt, wr_at, if_neg (show ¬ (0 = 0 ∧ 27 = 30) by decide), h5, nI_1, z_lt, show p - b + 1 = p + 1 - b by omega]
      obtain ⟨M', r1, r2, r4, r5⟩ := ih (p + 1) f (wr (wr M 0 30 (nI (if p + 1 - b ≤ 4 then num tp b (p + 1 - b) else 0))) 0 27 (nI (p + 1))) (by omega) (by omega) (by omega) (hT.c (by rw [wr_cell _ _ (by decide), wr_cell _ _ (by decide)])) (by rw [wr_at, if_neg (by omega), wr_at, if_neg (by omega)]; exact h1) (by rw [wr_at, if_pos ⟨rfl, rfl⟩]) (by rw [wr_at, if_neg (by omega), wr_at, if_pos ⟨rfl, rfl⟩])
      exact ⟨M', r1, ((kz_wr (Or.inr rfl) M _).tr (kz_wr (Or.inl rfl) _ _)).tr r2, r4, r5⟩
    · rw [if_neg hs, if_neg hs, if_pos rfl, z_ob, if_neg nft]
      exact ⟨M, rfl, kz.rf _ _, h5, h8⟩
/-- the reference's order of the words -/
def wx (k : Nat) : Nat := ([0, 1, 2, 6, 7, 8, 9, 10, 11, 3, 4, 5] : List Nat).getD k 0
theorem wd_tab : ∀ k, k < 12 → wx k < 12 ∧ (wL (wx k)).length < 8 ∧ ∀ c, c < 8 → wdN (8 * k + c) = if c < (wL (wx k)).length then (wL (wx k)).getD c 0 else 32 := by decide +kernel
theorem wd_b : ∀ j, j < 96 → wdN j < 256 := by decide +kernel
theorem wx_on : ∀ j, j < 12 → ∃ k, k < 12 ∧ wx k = j := by decide +kernel
theorem wL_inj : ∀ j, j < 12 → ∀ k, k < 12 → (wL j).length = (wL k).length → (∀ i, i < (wL j).length → (wL j).getD i 0 = (wL k).getD i 0) → j = k := by decide +kernel
theorem mt_one {tp : Nat → Nat} {b e j k : Nat} (hj : j < 12) (hk : k < 12) (h : mt tp b e j = true) (h' : mt tp b e k = true) : j = k := by
  obtain ⟨h1, h2⟩ := mt_iff.mp h
  obtain ⟨g1, g2⟩ := mt_iff.mp h'
  exact wL_inj j hj k hk (h1.symm.trans g1) fun i hi => (h2 i hi).symm.trans (g2 i (by omega))
theorem ftk_of {m : Nat → Bool} {j0 : Nat} (h : m j0 = true) (hu : ∀ j, j < 12 → m j = true → j = j0) : ∀ (j k : Nat), j + k = 12 → k ≤ j0 → j0 < 12 → ftk m j k = 256 + j0
  | 0, k, hk, h1, h2 => by omega
  | j + 1, k, hk, h1, h2 => by
    rw [ftk]
    by_cases hm : m k = true
    · rw [if_pos hm, hu k (by omega) hm]
    · rw [if_neg hm]
      have : k ≠ j0 := fun z => hm (by rw [z]; exact h)
      exact ftk_of h hu j (k + 1) (by omega) (by omega) h2
theorem ftk_no {m : Nat → Bool} : ∀ (j k : Nat), j + k = 12 → (∀ i, i < 12 → m i = true → False) → ftk m j k = 1
  | 0, _, _, _ => rfl
  | j + 1, k, hk, h => by
    rw [ftk, if_neg (fun z => h k (by omega) z)]
    exact ftk_no j (k + 1) (by omega) h
theorem y_w26 {tp : Nat → Nat} {n b e k : Nat} {M : Mem} (hT : TP tp n 6 M) (hW : ∀ j, j < 96 → M.1 13 j = nI (wdN j)) (hen : e ≤ n) (hb : b ≤ 160) (hk : k < 12) : ∀ (j c f : Nat) (x : Int32), c + j = 8 → j < f → (x = 0 ∨ x = 1) →
    (FX9_wordFrom_L26 f (nI b) (nI e) (nI k) x (nI c) M = some 1 ∧ x = 1 ∧ ∀ i, c ≤ i → i < 8 → wdN (8 * k + i) = if b + i < e then tp (b + i) else 32) ∨ (FX9_wordFrom_L26 f (nI b) (nI e) (nI k) x (nI c) M = some 0 ∧ (x = 0 ∨ ∃ i, c ≤ i ∧ i < 8 ∧ wdN (8 * k + i) ≠ if b + i < e then tp (b + i) else 32)) := by
  have hn := hT.1
  intro j
  induction j with
  | zero =>
    intro c f x hc hf hx
    obtain ⟨f, rfl⟩ : ∃ g, f = g + 1 := ⟨f - 1, by omega⟩
    have : c = 8 := by omega
    subst this
    rw [FX9_wordFrom_L26, if_pos (show (8 : Int32) ≤ nI 8 by decide), z_lt, if_neg nft]
    rcases hx with rfl | rfl
    · exact Or.inr ⟨rfl, Or.inl rfl⟩
    · exact Or.inl ⟨rfl, rfl, fun i h1 h2 => by omega⟩
  | succ j ih =>
    intro c f x hc hf hx
    obtain ⟨f, rfl⟩ : ∃ g, f = g + 1 := ⟨f - 1, by omega⟩
    have hge : ¬ 8 ≤ nI c := nI_ge (b := 8) (by omega) (by decide)
    rw [FX9_wordFrom_L26, if_neg hge]
    rcases hx with rfl | rfl
    · rw [if_pos rfl, z_lt, if_neg nft]
      exact Or.inr ⟨rfl, Or.inl rfl⟩
    · have e8 : 8 * nI k + nI c = nI (8 * k + c) := by rw [show (8 : Int32) = nI 8 from rfl, pk_mul, nI_add]
      have hw := wd_b (8 * k + c) (by omega)
      have eq : (if nI e ≤ nI (b + c) then some (32 : Int32) else gi (nI (b + c)) 160 (some (M.1 6 (Int32.toNatClampNeg (nI (b + c)))))) = some (nI (if b + c < e then tp (b + c) else 32)) := by
        by_cases h : b + c < e
        · rw [if_neg (nI_ge h (by omega)), z_gi (by omega) (by decide), z_ix (by omega), (hT.2 _ (by omega)).1, if_pos h]
        · rw [if_pos (nI_le (by omega) (by omega)), if_neg h]; rfl
      have hq : (if b + c < e then tp (b + c) else 32) < 256 := by
        split
        · exact (hT.2 _ (by omega)).2
        · decide
      rw [if_neg n10, z_lt, if_pos rfl, e8, z_gi (by omega) (by decide), nI_add, eq, z_ob, z_ix (by omega), hW _ (by omega), if_congr_prop (show nI (wdN (8 * k + c)) = nI (if b + c < e then tp (b + c) else 32) ↔ wdN (8 * k + c) = (if b + c < e then tp (b + c) else 32) from z_eq (by omega) (by omega)), z_lt, nI_1, z_lt]
      by_cases hm : wdN (8 * k + c) = if b + c < e then tp (b + c) else 32
      · rw [if_pos hm]
        rcases ih (c + 1) f 1 (by omega) (by omega) (Or.inr rfl) with ⟨r1, -, r3⟩ | ⟨r1, r2⟩
        · refine Or.inl ⟨r1, rfl, fun i h1 h2 => ?_⟩
          rcases (show i = c ∨ c + 1 ≤ i by omega) with h | h
          · rw [h]; exact hm
          · exact r3 i h h2
        · refine Or.inr ⟨r1, Or.inr ?_⟩
          rcases r2 with h | ⟨i, i1, i2⟩
          · cases h
          · exact ⟨i, by omega, i2⟩
      · rw [if_neg hm]
        refine Or.inr ⟨?_, Or.inr ⟨c, Nat.le_refl _, by omega, hm⟩⟩
        rcases ih (c + 1) f 0 (by omega) (by omega) (Or.inl rfl) with ⟨-, r2, -⟩ | ⟨r1, -⟩
        · cases r2
        · exact r1
theorem y_w2 {tp : Nat → Nat} {n b e : Nat} {M : Mem} (hT : TP tp n 6 M) (hW : ∀ j, j < 96 → M.1 13 j = nI (wdN j)) (hbe : b < e) (hen : e ≤ n) (hlet : ∀ i, b ≤ i → i < e → isL (tp i) = true) : ∀ (j k f : Nat), k + j = 12 → j < f →
    (∃ q, FX9_wordFrom_L2 f (nI b) (nI e) (nI k) M = some (.inl (nI q)) ∧ k ≤ q ∧ q < 12 ∧ mt tp b e (wx q) = true) ∨ (FX9_wordFrom_L2 f (nI b) (nI e) (nI k) M = some (.inr ()) ∧ ∀ q, k ≤ q → q < 12 → mt tp b e (wx q) = true → False) := by
  have hn := hT.1
  intro j
  induction j with
  | zero =>
    intro k f hk hf
    obtain ⟨f, rfl⟩ : ∃ g, f = g + 1 := ⟨f - 1, by omega⟩
    have : k = 12 := by omega
    subst this
    right
    rw [FX9_wordFrom_L2, if_pos (by decide)]
    exact ⟨rfl, fun q h1 h2 => by omega⟩
  | succ j ih =>
    intro k f hk hf
    obtain ⟨f, rfl⟩ : ∃ g, f = g + 1 := ⟨f - 1, by omega⟩
    have hge : ¬ 12 ≤ nI k := nI_ge (b := 12) (by omega) (by decide)
    obtain ⟨t1, t2, t3⟩ := wd_tab k (by omega)
    rw [FX9_wordFrom_L2, if_neg hge, pk_sub (by omega), if_congr_prop (show 8 < nI (e - b) ↔ 8 < e - b from z_lts (a := 8) (by decide) (by omega)), z_lt]
    have yes : (e - b ≤ 8 ∧ ∀ i, i < 8 → wdN (8 * k + i) = if b + i < e then tp (b + i) else 32) ↔ mt tp b e (wx k) = true := by
      constructor
      · rintro ⟨h1, h2⟩
        have hlen : e - b = (wL (wx k)).length := by
          rcases Nat.lt_trichotomy (e - b) (wL (wx k)).length with h | h | h
          · have k1 := h2 (e - b) (by omega)
            rw [t3 _ (by omega), if_pos h, if_neg (by omega)] at k1
            have k2 := wL_let (wx k) t1 (e - b) h
            rw [k1] at k2
            cases k2
          · exact h
          · have k1 := h2 (wL (wx k)).length (by omega)
            rw [t3 _ (by omega), if_neg (Nat.lt_irrefl _), if_pos (by omega)] at k1
            have k2 := hlet (b + (wL (wx k)).length) (by omega) (by omega)
            rw [← k1] at k2
            cases k2
        refine mt_iff.mpr ⟨hlen, fun i hi => ?_⟩
        have k1 := h2 i (by omega)
        rw [t3 _ (by omega), if_pos hi, if_pos (by omega)] at k1
        exact k1.symm
      · intro h
        obtain ⟨h1, h2⟩ := mt_iff.mp h
        refine ⟨by omega, fun i hi => ?_⟩
        rw [t3 _ hi]
        by_cases hil : i < (wL (wx k)).length
        · rw [if_pos hil, if_pos (by omega), h2 i hil]
        · rw [if_neg hil, if_neg (by omega)]
    have next : (¬ mt tp b e (wx k) = true) → (∃ q, FX9_wordFrom_L2 f (nI b) (nI e) (nI (k + 1)) M = some (.inl (nI q)) ∧ k ≤ q ∧ q < 12 ∧ mt tp b e (wx q) = true) ∨ (FX9_wordFrom_L2 f (nI b) (nI e) (nI (k + 1)) M = some (.inr ()) ∧ ∀ q, k ≤ q → q < 12 → mt tp b e (wx q) = true → False) := by
      intro hno
      rcases ih (k + 1) f (by omega) (by omega) with ⟨q, q1, q2, q3⟩ | ⟨q1, q2⟩
      · exact Or.inl ⟨q, q1, by omega, q3⟩
      · refine Or.inr ⟨q1, fun q h1 h2 h3 => ?_⟩
        rcases (show q = k ∨ k + 1 ≤ q by omega) with h | h
        · rw [h] at h3; exact hno h3
        · exact q2 q h h2 h3
    by_cases h8 : 8 < e - b
    · have hno : ¬ mt tp b e (wx k) = true := fun z => by
        have := (yes.mpr z).1
        omega
      rw [if_pos h8]
      rcases y_w26 (b := b) hT hW hen (by omega) (show k < 12 by omega) 8 0 FU 0 (by omega) (by rw [z_FU]; omega) (Or.inl rfl) with ⟨-, r2, -⟩ | ⟨r1, -⟩
      · cases r2
      · rw [show nI 0 = 0 from rfl] at r1
        rw [r1, z_ob, if_pos rfl, nI_1, z_lt]
        exact next hno
    · rw [if_neg h8]
      rcases y_w26 (b := b) hT hW hen (by omega) (show k < 12 by omega) 8 0 FU 1 (by omega) (by rw [z_FU]; omega) (Or.inr rfl) with ⟨r1, -, r3⟩ | ⟨r1, r2⟩
      · rw [show nI 0 = 0 from rfl] at r1
        rw [r1, z_ob, if_neg n10]
        exact Or.inl ⟨k, rfl, Nat.le_refl _, by omega, yes.mp ⟨by omega, fun i hi => r3 i (Nat.zero_le _) hi⟩⟩
      · have hno : ¬ mt tp b e (wx k) = true := fun z => by
          rcases r2 with h | ⟨i, i1, i2, i3⟩
          · cases h
          · exact i3 ((yes.mpr z).2 i i2)
        rw [show nI 0 = 0 from rfl] at r1
        rw [r1, z_ob, if_pos rfl, nI_1, z_lt]
        exact next hno
