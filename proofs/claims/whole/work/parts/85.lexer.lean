/-! tokens: what is on the tape at a place, as both sides read it -/
def scn (P : Nat → Bool) : Nat → Nat → Nat
  | 0, p => p
  | k + 1, p => if P p = true then scn P k (p + 1) else p
theorem scn_ge (P : Nat → Bool) : ∀ (k p : Nat), p ≤ scn P k p
  | 0, _ => Nat.le_refl _
  | k + 1, p => by
    rw [scn]
    split
    · exact Nat.le_trans (Nat.le_succ p) (scn_ge P k (p + 1))
    · exact Nat.le_refl _
theorem scn_le (P : Nat → Bool) : ∀ (k p : Nat), scn P k p ≤ p + k
  | 0, _ => Nat.le_refl _
  | k + 1, p => by
    rw [scn]
    split
    · have := scn_le P k (p + 1)
      omega
    · omega
theorem scn_in {P : Nat → Bool} : ∀ {k p i : Nat}, p ≤ i → i < scn P k p → P i = true
  | 0, p, i, h1, h2 => by
    rw [scn] at h2
    omega
  | k + 1, p, i, h1, h2 => by
    rw [scn] at h2
    by_cases h : P p = true
    · rw [if_pos h] at h2
      rcases (show p = i ∨ p + 1 ≤ i by omega) with h3 | h3
      · rw [← h3]; exact h
      · exact scn_in h3 h2
    · rw [if_neg h] at h2
      omega
theorem scn_at {P : Nat → Bool} : ∀ {k p : Nat}, scn P k p < p + k → P (scn P k p) = false
  | 0, p, h => by
    rw [scn] at h
    omega
  | k + 1, p, h => by
    rw [scn] at h ⊢
    by_cases h1 : P p = true
    · rw [if_pos h1] at h ⊢
      exact scn_at (by omega)
    · rw [if_neg h1]
      simpa using h1
theorem scn_pos {P : Nat → Bool} {k p : Nat} (h : P p = true) (hk : 0 < k) : p < scn P k p := by
  obtain ⟨k, rfl⟩ : ∃ j, k = j + 1 := ⟨k - 1, by omega⟩
  rw [scn, if_pos h]
  exact scn_ge P k (p + 1)
def isS (c : Nat) : Bool := c == 32 || c == 10
def isL (c : Nat) : Bool := decide (97 ≤ c) && decide (c ≤ 122)
def isD (c : Nat) : Bool := decide (48 ≤ c) && decide (c ≤ 57)
def isG (c : Nat) : Bool := c == 40 || (c == 41 || (c == 59 || (c == 43 || (c == 45 || (c == 42 || (c == 60 || c == 61))))))
/-- the words in the class's order, letter by letter -/
def wL (k : Nat) : List Nat := (([[119, 97, 108, 107], [99, 97, 114, 114, 121], [109, 97, 121], [111, 114], [97, 110, 100], [110, 111, 116], [98, 97, 115, 101], [109, 111, 114, 101], [104, 111, 117, 114], [102, 114, 111, 109], [116, 111], [115, 116, 114, 101, 101, 116]] : List (List Nat))).getD k []
/-- word k stands from b to e -/
def mt (tp : Nat → Nat) (b e k : Nat) : Bool := decide (e - b = (wL k).length ∧ ∀ i, i < (wL k).length → tp (b + i) = (wL k).getD i 0)
theorem mt_iff {tp : Nat → Nat} {b e k : Nat} : mt tp b e k = true ↔ e - b = (wL k).length ∧ ∀ i, i < (wL k).length → tp (b + i) = (wL k).getD i 0 := by
  unfold mt
  rw [decide_eq_true_eq]
def ftk (m : Nat → Bool) : Nat → Nat → Nat
  | 0, _ => 1
  | j + 1, k => if m k = true then 256 + k else ftk m j (k + 1)
def wtk (tp : Nat → Nat) (b e : Nat) : Nat := ftk (mt tp b e) 12 0
def num (tp : Nat → Nat) (b : Nat) : Nat → Nat
  | 0 => 0
  | k + 1 => num tp b k * 10 + tp (b + k) - 48
def lxB (tp : Nat → Nat) (n p : Nat) : Nat := scn (fun i => isS (tp i)) (n - p) p
def lxE (tp : Nat → Nat) (n p : Nat) : Nat := if n ≤ lxB tp n p then lxB tp n p else if isL (tp (lxB tp n p)) = true then scn (fun i => isL (tp i)) (n - lxB tp n p) (lxB tp n p) else if isD (tp (lxB tp n p)) = true then scn (fun i => isD (tp i)) (n - lxB tp n p) (lxB tp n p) else lxB tp n p + 1
def lxT (tp : Nat → Nat) (n p : Nat) : Nat := if n ≤ lxB tp n p then 0 else if isL (tp (lxB tp n p)) = true then wtk tp (lxB tp n p) (lxE tp n p) else if isD (tp (lxB tp n p)) = true then (if lxE tp n p - lxB tp n p ≤ 4 then 2 else 1) else if isG (tp (lxB tp n p)) = true then tp (lxB tp n p) else 1
def lxV (tp : Nat → Nat) (n p : Nat) : Nat := num tp (lxB tp n p) (lxE tp n p - lxB tp n p)
theorem lxB_b {tp : Nat → Nat} {n p : Nat} (hp : p ≤ n) : p ≤ lxB tp n p ∧ lxB tp n p ≤ n := by
  unfold lxB
  have h1 := scn_ge (fun i => isS (tp i)) (n - p) p
  have h2 := scn_le (fun i => isS (tp i)) (n - p) p
  omega
theorem lxE_b {tp : Nat → Nat} {n p : Nat} (hp : p ≤ n) : lxB tp n p ≤ lxE tp n p ∧ lxE tp n p ≤ n ∧ (lxB tp n p < n → lxB tp n p < lxE tp n p) := by
  obtain ⟨h1, h2⟩ := lxB_b (tp := tp) hp
  unfold lxE
  by_cases h : n ≤ lxB tp n p
  · rw [if_pos h]
    omega
  · rw [if_neg h]
    by_cases hl : isL (tp (lxB tp n p)) = true
    · rw [if_pos hl]
      have a1 := scn_pos (P := fun i => isL (tp i)) (k := n - lxB tp n p) (p := lxB tp n p) hl (by omega)
      have a2 := scn_le (fun i => isL (tp i)) (n - lxB tp n p) (lxB tp n p)
      omega
    · rw [if_neg hl]
      by_cases hd : isD (tp (lxB tp n p)) = true
      · rw [if_pos hd]
        have a1 := scn_pos (P := fun i => isD (tp i)) (k := n - lxB tp n p) (p := lxB tp n p) hd (by omega)
        have a2 := scn_le (fun i => isD (tp i)) (n - lxB tp n p) (lxB tp n p)
        omega
      · rw [if_neg hd]
        omega
theorem lxT_end {tp : Nat → Nat} {n p : Nat} (h : lxT tp n p ≠ 0) : lxB tp n p < n := by
  rcases Nat.lt_or_ge (lxB tp n p) n with h1 | h1
  · exact h1
  · exact absurd (if_pos h1) h
theorem num_lt {tp : Nat → Nat} {b : Nat} : ∀ {k : Nat}, (∀ i, i < k → isD (tp (b + i)) = true) → num tp b k < 10 ^ k
  | 0, _ => by rw [num]; decide
  | k + 1, h => by
    have ih := num_lt (tp := tp) (b := b) (k := k) (fun i hi => h i (by omega))
    have hd := h k (by omega)
    unfold isD at hd
    simp only [Bool.and_eq_true, decide_eq_true_eq] at hd
    rw [num, Nat.pow_succ]
    omega
theorem lxV_lt {tp : Nat → Nat} {n p : Nat} (h : lxT tp n p = 2) : lxV tp n p < 10000 := by
  unfold lxT at h
  by_cases h1 : n ≤ lxB tp n p
  · rw [if_pos h1] at h; omega
  · rw [if_neg h1] at h
    by_cases h2 : isL (tp (lxB tp n p)) = true
    · rw [if_pos h2] at h
      unfold wtk at h
      have : ∀ j k, ftk (mt tp (lxB tp n p) (lxE tp n p)) j k = 1 ∨ 256 ≤ ftk (mt tp (lxB tp n p) (lxE tp n p)) j k := by
        intro j
        induction j with
        | zero => intro k; exact Or.inl rfl
        | succ j ih =>
          intro k
          rw [ftk]
          split
          · right; omega
          · exact ih (k + 1)
      rcases this 12 0 with z | z <;> omega
    · rw [if_neg h2] at h
      by_cases h3 : isD (tp (lxB tp n p)) = true
      · rw [if_pos h3] at h
        have h4 : lxE tp n p - lxB tp n p ≤ 4 := by
          by_cases z : lxE tp n p - lxB tp n p ≤ 4
          · exact z
          · rw [if_neg z] at h; omega
        have he : lxE tp n p = scn (fun i => isD (tp i)) (n - lxB tp n p) (lxB tp n p) := by
          unfold lxE
          rw [if_neg h1, if_neg h2, if_pos h3]
        have hn := num_lt (tp := tp) (b := lxB tp n p) (k := lxE tp n p - lxB tp n p) (fun i hi => by
          have := scn_in (P := fun i => isD (tp i)) (k := n - lxB tp n p) (p := lxB tp n p) (i := lxB tp n p + i) (by omega) (by rw [← he]; omega)
          exact this)
        unfold lxV
        exact Nat.lt_of_lt_of_le hn (Nat.pow_le_pow_right (n := 10) (by decide) h4)
      · rw [if_neg h3] at h
        by_cases h5 : isG (tp (lxB tp n p)) = true
        · rw [if_pos h5] at h
          rw [h] at h5
          cases h5
        · rw [if_neg h5] at h; omega
/-- the tape -/
def TP (tp : Nat → Nat) (n c : Nat) (M : Mem) : Prop := n ≤ 160 ∧ ∀ i, i < n → M.1 c i = nI (tp i) ∧ tp i < 256
-- the class's reading of bytes
theorem x_atT {tp : Nat → Nat} {n i : Nat} {M : Mem} (hT : TP tp n 11 M) (h1 : M.1 10 1 = nI n) (hi : i < n) : FX5_at (nI i) M = some (nI (tp i)) := by
  obtain ⟨hn, ht⟩ := hT
  unfold FX5_at
  rw [h1, if_neg (z_neg (by omega)), if_neg (nI_ge hi (by omega)), z_lt, if_pos rfl, z_gi (by omega) (by decide), z_ix (by omega), (ht i hi).1]
theorem z_rng {c lo hi : Nat} (hc : c < 2147483648) (hl : lo < 2147483648) (hh : hi < 2147483648) : (if nI c < nI lo then some false else if nI hi < nI c then some false else some true) = some (decide (lo ≤ c) && decide (c ≤ hi)) := by
  rw [if_congr_prop (z_lts hc hl), if_congr_prop (z_lts hh hc)]
  by_cases h1 : c < lo
  · rw [if_pos h1, decide_eq_false (by omega)]; rfl
  · by_cases h2 : hi < c
    · rw [if_neg h1, if_pos h2, decide_eq_false (show ¬ c ≤ hi by omega), Bool.and_false]
    · rw [if_neg h1, if_neg h2, decide_eq_true (by omega), decide_eq_true (by omega)]; rfl
theorem x_isLetter {tp : Nat → Nat} {n i : Nat} {M : Mem} (hT : TP tp n 11 M) (h1 : M.1 10 1 = nI n) (hi : i < n) : FX5_isLetter (nI i) M = some (if isL (tp i) = true then 1 else 0) := by
  have hb := (hT.2 i hi).2
  unfold FX5_isLetter
  rw [x_atT hT h1 hi, z_ob, z_ob, show (97 : Int32) = nI 97 from rfl, show (122 : Int32) = nI 122 from rfl, z_rng (by omega) (by decide) (by decide), z_ob]
  unfold isL
  by_cases h : (decide (97 ≤ tp i) && decide (tp i ≤ 122)) = true
  · rw [if_pos h, if_pos h]
  · rw [if_neg h, if_neg h]
theorem x_isDigit {tp : Nat → Nat} {n i : Nat} {M : Mem} (hT : TP tp n 11 M) (h1 : M.1 10 1 = nI n) (hi : i < n) : FX5_isDigit (nI i) M = some (if isD (tp i) = true then 1 else 0) := by
  have hb := (hT.2 i hi).2
  unfold FX5_isDigit
  rw [x_atT hT h1 hi, z_ob, z_ob, show (48 : Int32) = nI 48 from rfl, show (57 : Int32) = nI 57 from rfl, z_rng (by omega) (by decide) (by decide), z_ob]
  unfold isD
  by_cases h : (decide (48 ≤ tp i) && decide (tp i ≤ 57)) = true
  · rw [if_pos h, if_pos h]
  · rw [if_neg h, if_neg h]
/-- a loop of the class's tape goes on with one of its fields -/
def kt (j : Nat) (M M' : Mem) : Prop := (∀ k, k ≠ 10 → M'.1 k = M.1 k) ∧ ∀ i, i ≠ j → M'.1 10 i = M.1 10 i
theorem kt.rf (j : Nat) (M : Mem) : kt j M M := ⟨fun _ _ => rfl, fun _ _ => rfl⟩
theorem kt.tr {j : Nat} {A B C : Mem} (h : kt j A B) (h2 : kt j B C) : kt j A C := ⟨fun k hk => (h2.1 k hk).trans (h.1 k hk), fun i hi => (h2.2 i hi).trans (h.2 i hi)⟩
theorem kt_wr (j : Nat) (M : Mem) (x : Int32) : kt j M (wr M 10 j x) := ⟨fun k hk => wr_cell _ _ hk, fun i hi => by rw [wr_at, if_neg (fun z => hi z.2)]⟩
theorem TP.c {tp : Nat → Nat} {n c : Nat} {M M' : Mem} (h : TP tp n c M) (hk : M'.1 c = M.1 c) : TP tp n c M' := ⟨h.1, fun i hi => by rw [hk]; exact h.2 i hi⟩
theorem x_skL {tp : Nat → Nat} {n : Nat} : ∀ (k p f : Nat) (M : Mem), p + k = n → k < f → TP tp n 11 M → M.1 10 1 = nI n → M.1 10 5 = nI p → ∃ M', FX5_advance_L16 f M = some M' ∧ kt 5 M M' ∧ M'.1 10 5 = nI (scn (fun i => isS (tp i)) k p) := by
  intro k
  induction k with
  | zero =>
    intro p f M hp hf hT h1 h5
    obtain ⟨f, rfl⟩ : ∃ g, f = g + 1 := ⟨f - 1, by omega⟩
    have : p = n := by omega
    subst this
    rw [FX5_advance_L16, h1, h5, if_pos (Int32.le_refl _)]
    exact ⟨M, rfl, kt.rf _ _, h5⟩
  | succ k ih =>
    intro p f M hp hf hT h1 h5
    obtain ⟨f, rfl⟩ : ∃ g, f = g + 1 := ⟨f - 1, by omega⟩
    have hn := hT.1
    have hpn : p < n := by omega
    have hb := (hT.2 p hpn).2
    rw [FX5_advance_L16, h1, h5, if_neg (nI_ge hpn (by omega)), x_atT hT h1 hpn, z_ob, z_ob, if_congr_prop (show nI (tp p) = 32 ↔ tp p = 32 from z_eq (b := 32) (by omega) (by decide)), if_congr_prop (show nI (tp p) = 10 ↔ tp p = 10 from z_eq (b := 10) (by omega) (by decide)), scn]
    have eb : (if tp p = 32 then some true else if tp p = 10 then some true else some false) = some (isS (tp p)) := by
      unfold isS
      by_cases k1 : tp p = 32
      · simp [k1]
      · by_cases k2 : tp p = 10
        · simp [k2]
        · simp [k1, k2]
    rw [eb, z_ob]
    by_cases hs : isS (tp p) = true
    · rw [if_pos hs, if_pos hs, nI_1, z_lt]
      obtain ⟨M', r1, r2, r3⟩ := ih (p + 1) f (wr M 10 5 (nI (p + 1))) (by omega) (by omega) (hT.c (wr_cell _ _ (by decide))) (by rw [wr_at, if_neg (by omega)]; exact h1) (by rw [wr_at, if_pos ⟨rfl, rfl⟩])
      exact ⟨M', r1, (kt_wr 5 M _).tr r2, r3⟩
    · rw [if_neg hs, if_neg hs]
      exact ⟨M, rfl, kt.rf _ _, h5⟩
theorem x_wdL {tp : Nat → Nat} {n : Nat} : ∀ (k p f : Nat) (M : Mem), p + k = n → k < f → TP tp n 11 M → M.1 10 1 = nI n → M.1 10 6 = nI p → ∃ M', FX5_wordToken_L0 f M = some M' ∧ kt 6 M M' ∧ M'.1 10 6 = nI (scn (fun i => isL (tp i)) k p) := by
  intro k
  induction k with
  | zero =>
    intro p f M hp hf hT h1 h5
    obtain ⟨f, rfl⟩ : ∃ g, f = g + 1 := ⟨f - 1, by omega⟩
    have : p = n := by omega
    subst this
    rw [FX5_wordToken_L0, h1, h5, if_pos (Int32.le_refl _), z_ob, if_neg nft]
    exact ⟨M, rfl, kt.rf _ _, h5⟩
  | succ k ih =>
    intro p f M hp hf hT h1 h5
    obtain ⟨f, rfl⟩ : ∃ g, f = g + 1 := ⟨f - 1, by omega⟩
    have hn := hT.1
    have hpn : p < n := by omega
    rw [FX5_wordToken_L0, h1, h5, if_neg (nI_ge hpn (by omega)), x_isLetter hT h1 hpn, z_ob, scn]
    by_cases hs : isL (tp p) = true
    · rw [if_pos hs, if_pos hs, if_neg n10, z_ob, if_pos rfl, nI_1, z_lt]
      obtain ⟨M', r1, r2, r3⟩ := ih (p + 1) f (wr M 10 6 (nI (p + 1))) (by omega) (by omega) (hT.c (wr_cell _ _ (by decide))) (by rw [wr_at, if_neg (by omega)]; exact h1) (by rw [wr_at, if_pos ⟨rfl, rfl⟩])
      exact ⟨M', r1, (kt_wr 6 M _).tr r2, r3⟩
    · rw [if_neg hs, if_neg hs, if_pos rfl, z_ob, if_neg nft]
      exact ⟨M, rfl, kt.rf _ _, h5⟩
theorem x_nuL {tp : Nat → Nat} {n b : Nat} : ∀ (k p f : Nat) (M : Mem), p + k = n → b ≤ p → k < f → TP tp n 11 M → M.1 10 1 = nI n → M.1 10 6 = nI p → M.1 10 8 = nI (num tp b (p - b)) →
    ∃ M', FX5_numberToken_L5 f M = some M' ∧ (∀ k, k ≠ 10 → M'.1 k = M.1 k) ∧ (∀ i, i ≠ 6 → i ≠ 8 → M'.1 10 i = M.1 10 i) ∧ M'.1 10 6 = nI (scn (fun i => isD (tp i)) k p) ∧ M'.1 10 8 = nI (num tp b (scn (fun i => isD (tp i)) k p - b)) := by
  intro k
  induction k with
  | zero =>
    intro p f M hp hb hf hT h1 h5 h8
    obtain ⟨f, rfl⟩ : ∃ g, f = g + 1 := ⟨f - 1, by omega⟩
    have : p = n := by omega
    subst this
    rw [FX5_numberToken_L5, h1, h5, if_pos (Int32.le_refl _), z_ob, if_neg nft]
    exact ⟨M, rfl, fun _ _ => rfl, fun _ _ _ => rfl, h5, h8⟩
  | succ k ih =>
    intro p f M hp hb hf hT h1 h5 h8
    obtain ⟨f, rfl⟩ : ∃ g, f = g + 1 := ⟨f - 1, by omega⟩
    have hn := hT.1
    have hpn : p < n := by omega
    rw [FX5_numberToken_L5, h1, h5, if_neg (nI_ge hpn (by omega)), x_isDigit hT h1 hpn, z_ob, scn]
    by_cases hs : isD (tp p) = true
    · have hd := hs
      unfold isD at hd
      simp only [Bool.and_eq_true, decide_eq_true_eq] at hd
      have e : num tp b (p + 1 - b) = num tp b (p - b) * 10 + tp p - 48 := by
        rw [show p + 1 - b = (p - b) + 1 by omega, num, show b + (p - b) = p by omega]
      rw [if_pos hs, if_pos hs, if_neg n10, z_ob, if_pos rfl, x_atT hT h1 hpn, z_ob, h8, show (10 : Int32) = nI 10 from rfl, pk_mul, nI_add, show (48 : Int32) = nI 48 from rfl, pk_sub (by omega), ← e, z_lt, wr_at, if_neg (by omega), h5, nI_1, z_lt]
      obtain ⟨M', r1, r2, r3, r4, r5⟩ := ih (p + 1) f (wr (wr M 10 8 (nI (num tp b (p + 1 - b)))) 10 6 (nI (p + 1))) (by omega) (by omega) (by omega) (hT.c (by rw [wr_cell _ _ (by decide), wr_cell _ _ (by decide)])) (by rw [wr_at, if_neg (by omega), wr_at, if_neg (by omega)]; exact h1) (by rw [wr_at, if_pos ⟨rfl, rfl⟩]) (by rw [wr_at, if_neg (by omega), wr_at, if_pos ⟨rfl, rfl⟩])
      refine ⟨M', r1, fun k hk => by rw [r2 k hk, wr_cell _ _ hk, wr_cell _ _ hk], fun i h6 h8 => by rw [r3 i h6 h8, wr_at, if_neg (by omega), wr_at, if_neg (by omega)], r4, r5⟩
    · rw [if_neg hs, if_neg hs, if_pos rfl, z_ob, if_neg nft]
      exact ⟨M, rfl, fun _ _ => rfl, fun _ _ _ => rfl, h5, h8⟩
