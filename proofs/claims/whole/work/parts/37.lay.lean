/-! the class lays a town out -/
def oth (u : Nat → Nat → Nat) (s c : Nat) : Nat := if u 1 s = c then u 2 s else u 1 s
/-- what the names of a law stand for on street s from corner c at hour hr -/
def nmS (u : Nat → Nat → Nat) (hr s c : Nat) : Nat → Int32 := fun j => nI (if j = 0 then u 3 s else if j = 1 then u 4 s else if j = 2 then hr else if j = 3 then c else if j = 4 then oth u s c else s)
def kok (u : Nat → Nat → Nat) (hr s c l : Nat) : Bool := if u 0 s = 1 then c == u 1 s else if u 0 s = 2 then l == 0 else if u 0 s = 5 then decide (hr < 12) else true
def may (u : Nat → Nat → Nat) (x : Txt) (hr s c l : Nat) : Bool := kok u hr s c l && !(wv (nmS u hr s c) (sec x 2) == 0)
def cl99 (v : Int32) : Nat := if 1 ≤ v then (if v ≤ 99 then v.toNatClampNeg else 99) else 1
/-- the minutes of street s from corner c, empty-handed (l = 0) or loaded -/
def mn (u : Nat → Nat → Nat) (x : Txt) (hr s c l : Nat) : Nat := min 99 (if u 0 s = 2 ∧ c = u 2 s then 2 * cl99 (wv (nmS u hr s c) (sec x (if l = 0 then 0 else 1))) else if u 0 s = 4 ∧ 12 ≤ hr then cl99 (wv (nmS u hr s c) (sec x (if l = 0 then 0 else 1))) + u 4 s else cl99 (wv (nmS u hr s c) (sec x (if l = 0 then 0 else 1))))
theorem cl_b (v : Int32) : 1 ≤ cl99 v ∧ cl99 v ≤ 99 := by
  unfold cl99
  by_cases h1 : 1 ≤ v
  · by_cases h2 : v ≤ 99
    · rw [if_pos h1, if_pos h2]
      obtain ⟨j, hj, rfl⟩ := nI_of (Int32.not_lt.mpr (Int32.le_trans (show (0 : Int32) ≤ 1 by decide) h1))
      rw [show (1 : Int32) = nI 1 from rfl, z_le (by omega) (by omega)] at h1
      rw [show (99 : Int32) = nI 99 from rfl, z_le (by omega) (by omega)] at h2
      rw [z_ix (by omega)]
      exact ⟨h1, h2⟩
    · rw [if_pos h1, if_neg h2]; omega
  · rw [if_neg h1]; omega
theorem cl_n (v : Int32) (h1 : 1 ≤ v) (h2 : v ≤ 99) : v = nI v.toNatClampNeg := by
  obtain ⟨j, hj, rfl⟩ := nI_of (Int32.not_lt.mpr (Int32.le_trans (show (0 : Int32) ≤ 1 by decide) h1))
  rw [z_ix (by omega)]
theorem cl_y (v : Int32) : FX9_within v 1 99 = nI (cl99 v) := by
  unfold FX9_within cl99
  by_cases h1 : 1 ≤ v
  · by_cases h2 : v ≤ 99
    · rw [if_pos h1, if_pos h2, if_pos h1, if_pos h2]; exact cl_n v h1 h2
    · rw [if_pos h1, if_neg h2, if_pos h1, if_neg h2]; rfl
  · rw [if_neg h1, if_neg h1]; rfl
theorem cl_x (v : Int32) : (if 1 < (if v < 99 then v else 99) then (if v < 99 then v else 99) else 1) = nI (cl99 v) := by
  unfold cl99
  by_cases h1 : 1 ≤ v
  · obtain ⟨j, hj, rfl⟩ := nI_of (Int32.not_lt.mpr (Int32.le_trans (show (0 : Int32) ≤ 1 by decide) h1))
    rw [show (1 : Int32) = nI 1 from rfl, show (99 : Int32) = nI 99 from rfl] at *
    simp (disch := omega) only [z_le, z_lts] at h1 ⊢
    rw [if_pos h1]
    by_cases h2 : j < 99
    · simp (disch := omega) only [if_pos h2, z_lts, z_ix, if_pos (show j ≤ 99 by omega)]
      by_cases h3 : 1 < j
      · rw [if_pos h3]
      · rw [if_neg h3]; congr 1; omega
    · simp (disch := omega) only [if_neg h2, z_lts, z_ix]
      rw [if_pos (by omega)]
      by_cases h3 : j ≤ 99
      · rw [if_pos h3]; congr 1; omega
      · rw [if_neg h3]
  · rw [if_neg h1]
    have h2 : v < 1 := Int32.not_le.mp h1
    have h3 : v < 99 := Int32.lt_trans h2 (by decide)
    rw [if_pos h3, if_neg (fun z => h1 (Int32.le_of_lt z))]
    rfl
theorem mn_b (u : Nat → Nat → Nat) (x : Txt) (hr s c l : Nat) : 1 ≤ mn u x hr s c l ∧ mn u x hr s c l ≤ 99 := by
  have := cl_b (wv (nmS u hr s c) (sec x (if l = 0 then 0 else 1)))
  unfold mn
  split
  · omega
  · split <;> omega
theorem x_lets {n : Nat} {u : Nat → Nat → Nat} {MX MY : Mem} (h : RS n u MX MY) (hn : n ≤ 12) {s c l hr : Nat} (hs : s < n) (hc : c < 9) (hl : l < 2) (hh : hr < 24) : FX3_lets (nI s) (nI c) (nI l) (nI hr) MX = some (if kok u hr s c l then 1 else 0) := by
  obtain ⟨⟨x0, x1, x2, x3, x4⟩, -, ⟨b0, b1, b2, b3, b4, b5, b6⟩⟩ := h s hs
  unfold FX3_lets kok
  have q0 : (0 : Int32) = nI 0 := rfl
  have q1 : (1 : Int32) = nI 1 := rfl
  have q2 : (2 : Int32) = nI 2 := rfl
  have q3 : (3 : Int32) = nI 3 := rfl
  have q4 : (4 : Int32) = nI 4 := rfl
  have q5 : (5 : Int32) = nI 5 := rfl
  have q12 : (12 : Int32) = nI 12 := rfl
  simp (disch := omega) only [z_gi, z_ix, x0, x1, q0, q1, q2, q3, q4, q5, q12, z_eq, z_le]
  rcases (show u 0 s = 0 ∨ u 0 s = 1 ∨ u 0 s = 2 ∨ u 0 s = 3 ∨ u 0 s = 4 ∨ u 0 s = 5 by omega) with e | e | e | e | e | e
  · simp [e]
  · by_cases h1 : c = u 1 s <;> simp [e, h1]
  · by_cases h1 : l = 0 <;> simp [e, h1]
  · simp [e]
  · simp [e]
  · by_cases h1 : 12 ≤ hr
    · have : ¬ hr < 12 := by omega
      simp [e, h1, this]
    · have : hr < 12 := by omega
      simp [e, h1, this]
theorem x_lasts {n : Nat} {u : Nat → Nat → Nat} {MX MY : Mem} (h : RS n u MX MY) (hn : n ≤ 12) {s c hr : Nat} (hs : s < n) (hc : c < 9) (hh : hr < 24) {x : Txt} {l : Nat} : FX3_lasts (nI s) (nI c) (wv (nmS u hr s c) (sec x (if l = 0 then 0 else 1))) (nI hr) MX = some (nI (mn u x hr s c l)) := by
  obtain ⟨⟨x0, x1, x2, x3, x4⟩, -, ⟨b0, b1, b2, b3, b4, b5, b6⟩⟩ := h s hs
  have hb := cl_b (wv (nmS u hr s c) (sec x (if l = 0 then 0 else 1)))
  unfold FX3_lasts mn
  rw [cl_x]
  generalize cl99 (wv (nmS u hr s c) (sec x (if l = 0 then 0 else 1))) = a at hb ⊢
  have q2 : (2 : Int32) = nI 2 := rfl
  have q4 : (4 : Int32) = nI 4 := rfl
  have q12 : (12 : Int32) = nI 12 := rfl
  have q99 : (99 : Int32) = nI 99 := rfl
  simp (disch := omega) only [z_lt, z_gi, z_ix, x0, x2, x4, q2, q4, q12, q99, z_eq, z_lts, pk_mul, nI_add]
  have fin : ∀ k, k < 300 → (if nI k < nI 99 then nI k else nI 99) = nI (min 99 k) := by
    intro k hk
    by_cases h1 : k < 99
    · rw [if_pos (nI_lt h1 (by decide)), Nat.min_eq_right (by omega)]
    · rw [if_neg (nI_nlt (by omega) (by omega)), Nat.min_eq_left (by omega)]
  by_cases e2 : u 0 s = 2
  · by_cases h1 : c = u 2 s
    · simp [e2, h1, z_ob]
      rw [fin _ (by omega), Nat.mul_comm]
    · simp [e2, h1, z_ob]
      rw [fin _ (by omega)]
  · by_cases e4 : u 0 s = 4
    · by_cases h1 : hr < 12
      · have : ¬ 12 ≤ hr := by omega
        simp [e4, h1, this, z_ob]
        rw [fin _ (by omega)]
      · have : 12 ≤ hr := by omega
        simp [e4, h1, this, z_ob]
        rw [nI_add, fin _ (by omega)]
    · simp [e2, e4, z_ob]
      rw [fin _ (by omega)]
theorem x_name (M : Mem) (a0 a1 a2 a3 a4 a5 : Int32) : ∃ M', FX6_name a0 a1 a2 a3 a4 a5 M = some M' ∧ kp 30 M M' ∧ (M'.1 30 0 = a0 ∧ M'.1 30 1 = a1 ∧ M'.1 30 2 = a2 ∧ M'.1 30 3 = a3 ∧ M'.1 30 4 = a4 ∧ M'.1 30 5 = a5) := by
  refine ⟨_, rfl, ?_, ?_⟩
  · intro k hk
    rw [wr_cell _ _ hk, wr_cell _ _ hk, wr_cell _ _ hk, wr_cell _ _ hk, wr_cell _ _ hk, wr_cell _ _ hk]
  · have e0 : Int32.toNatClampNeg 0 = 0 := rfl
    have e1 : Int32.toNatClampNeg 1 = 1 := rfl
    have e2 : Int32.toNatClampNeg 2 = 2 := rfl
    have e3 : Int32.toNatClampNeg 3 = 3 := rfl
    have e4 : Int32.toNatClampNeg 4 = 4 := rfl
    have e5 : Int32.toNatClampNeg 5 = 5 := rfl
    simp [wr_at, e0, e1, e2, e3, e4, e5]
theorem ix35 : ∀ l, l < 2 → ∀ c, c < 9 → (l * 2 ^ 4) ||| (c % 2 ^ 4) = 16 * l + c := by decide
theorem ix36 : ∀ s, s < 13 → ∀ l, l < 2 → ∀ c, c < 9 → (s * 2 ^ 5) ||| (16 * l + c) = 32 * s + 16 * l + c := by decide +kernel
/-- cells that laying out leaves alone -/
def lk (M M' : Mem) : Prop := ∀ k, (k < 29 ∨ k = 31 ∨ k = 32 ∨ k = 33 ∨ k = 34 ∨ 37 ≤ k) → M'.1 k = M.1 k
theorem lk.rf (M : Mem) : lk M M := fun _ _ => rfl
theorem lk.tr {A B C : Mem} (h : lk A B) (h2 : lk B C) : lk A C := fun k hk => (h2 k hk).trans (h k hk)
theorem kp.lk {c : Nat} {M M' : Mem} (h : kp c M M') (hc : c = 29 ∨ c = 30 ∨ c = 35 ∨ c = 36) : lk M M' := fun k hk => h k (by omega)
theorem RS.lk {n : Nat} {u : Nat → Nat → Nat} {MX MX' MY : Mem} (h : RS n u MX MY) (hl : lk MX MX') : RS n u MX' MY := h.fr (fun k h1 h2 s _ => by rw [hl k (by omega)]) (fun _ _ _ _ _ => rfl)
theorem TXR.lk {x : Txt} {t : Nat} {MX MX' MY : Mem} (h : TXR x t MX MY) (ht : t < 6) (hl : lk MX MX') : TXR x t MX' MY := h.fr (hl _ (by omega)) (hl _ (by omega)) rfl rfl
/-- what a town for laying out is: its cell tc, hour, law -/
def TW (tc n hr law N : Nat) (u : Nat → Nat → Nat) (x : Txt) (MX MY : Mem) : Prop := (tc < 29 ∧ n ≤ 12 ∧ hr < 24 ∧ law < N ∧ N ≤ 6) ∧ (MX.1 tc 1 = nI hr ∧ MX.1 tc 5 = nI law ∧ MX.1 14 4 = nI N) ∧ RS n u MX MY ∧ TXR x law MX MY
theorem TW.lk {tc n hr law N : Nat} {u : Nat → Nat → Nat} {x : Txt} {MX MX' MY : Mem} (h : TW tc n hr law N u x MX MY) (hl : lk MX MX') : TW tc n hr law N u x MX' MY := by
  obtain ⟨h1, ⟨h2, h3, h4⟩, h5, h6⟩ := h
  exact ⟨h1, ⟨by rw [hl tc (by omega)]; exact h2, by rw [hl tc (by omega)]; exact h3, by rw [hl 14 (by omega)]; exact h4⟩, h5.lk hl, h6.lk (by omega) hl⟩
theorem x_priL {tc n hr law N : Nat} {u : Nat → Nat → Nat} {x : Txt} {MY : Mem} {s c : Nat} (hs : s < n) (hc : c < 9) : ∀ (k l f : Nat) (M : Mem), l + k = 2 → k < f → TW tc n hr law N u x M MY → (∀ j, j < 6 → M.1 30 j = nmS u hr s c j) →
    ∃ M', FX7_price_L54 f tc (nI s) (nI c) (if wv (nmS u hr s c) (sec x 2) = 0 then 0 else 1) (nI l) M = some M' ∧ lk M M' ∧
      ((∀ l', l ≤ l' → l' < 2 → M'.1 35 (16 * l' + c) = if may u x hr s c l' = true then M.1 35 (16 * l' + c) ||| nI (2 ^ s) else M.1 35 (16 * l' + c)) ∧ ∀ j, (∀ l', l ≤ l' → l' < 2 → j ≠ 16 * l' + c) → M'.1 35 j = M.1 35 j) ∧
      (∀ l', l ≤ l' → l' < 2 → M'.1 36 (32 * s + 16 * l' + c) = nI (mn u x hr s c l')) ∧ (∀ j, (∀ l', l ≤ l' → l' < 2 → j ≠ 32 * s + 16 * l' + c) → M'.1 36 j = M.1 36 j) := by
  intro k
  induction k with
  | zero =>
    intro l f M hi hf hT hm
    obtain ⟨f, rfl⟩ : ∃ g, f = g + 1 := ⟨f - 1, by omega⟩
    have : l = 2 := by omega
    subst this
    rw [FX7_price_L54, if_pos (by decide)]
    exact ⟨M, rfl, lk.rf _, ⟨fun l' h1 h2 => by omega, fun _ _ => rfl⟩, fun l' h1 h2 => by omega, fun _ _ => rfl⟩
  | succ k ih =>
    intro l f M hi hf hT hm
    obtain ⟨f, rfl⟩ : ∃ g, f = g + 1 := ⟨f - 1, by omega⟩
    have hl : l < 2 := by omega
    obtain ⟨⟨t1, t2, t3, t4, t5⟩, ⟨t6, t7, t8⟩, hS, hX⟩ := id hT
    have g1 : ¬ 2 ≤ nI l := nI_ge (b := 2) (by omega) (by decide)
    have e101 : ((nI l <<< ((4 : Int32) &&& 31)) ||| (nI c &&& 15)) = nI (16 * l + c) := by
      rw [show (4 : Int32) = nI 4 from rfl, z_shl _ (by decide), pk_andN (by omega) 4 (by decide), z_or, ix35 l hl c hc]
    rw [FX7_price_L54, if_neg g1, e101, z_lt]
    -- the way is open or not
    have e103 : (if (if wv (nmS u hr s c) (sec x 2) = 0 then (0 : Int32) else 1) = 0 then some false else ob (FX3_lets (nI s) (nI c) (nI l) (M.1 tc 1) M) fun q126 => if q126 = 0 then some false else some true) = some (may u x hr s c l) := by
      rw [t6, x_lets hS t2 hs hc hl t3, z_ob]
      unfold may
      by_cases w0 : wv (nmS u hr s c) (sec x 2) = 0
      · simp [w0]
      · cases kok u hr s c l <;> simp [w0]
    rw [e103, z_ob]
    obtain ⟨M1, hM1, hM1e⟩ : ∃ M1, M1 = (if may u x hr s c l = true then wr M 35 (16 * l + c) (M.1 35 (16 * l + c) ||| nI (2 ^ s)) else M) ∧ (if may u x hr s c l = true then gi (nI (16 * l + c)) 32 (gi (nI (16 * l + c)) 32 (lt (wr M 35 (Int32.toNatClampNeg (nI (16 * l + c))) ((M.1 35 (Int32.toNatClampNeg (nI (16 * l + c)))) ||| ((1 : Int32) <<< (nI s &&& 31)))) fun M124 => some M124)) else some M) = some M1 := by
      refine ⟨_, rfl, ?_⟩
      by_cases hm : may u x hr s c l = true
      · rw [if_pos hm, if_pos hm, z_gi (by omega) (by decide), z_gi (by omega) (by decide), z_lt, z_ix (by omega), z_shl1 (by omega)]
      · rw [if_neg hm, if_neg hm]
    rw [hM1e, z_ob]
    have lk1 : lk M M1 := by
      intro k hk
      rw [hM1]
      split
      · exact wr_cell _ _ (by omega)
      · rfl
    have hT1 := hT.lk lk1
    obtain ⟨-, ⟨u6, u7, u8⟩, hS1, hX1⟩ := id hT1
    have e108 : (if nI l = 0 then (0 : Int32) else 1) = nI (if l = 0 then 0 else 1) := by
      by_cases h0 : l = 0
      · subst h0; rfl
      · rw [if_neg (nI_ne0 (by omega) (by omega)), if_neg h0]; rfl
    have hm1 : ∀ j, j < 6 → M1.1 30 j = nmS u hr s c j := by
      intro j hj
      rw [hM1]
      split
      · rw [wr_cell _ _ (by omega)]; exact hm j hj
      · exact hm j hj
    obtain ⟨M2, e2, k2⟩ := x_value (p := if l = 0 then 0 else 1) hX1 t4 t5 (by split <;> omega) u8 hm1
    rw [e108, z_lt, u7, e2, z_ob]
    have lk2 := lk1.tr (k2.lk (by omega))
    have hT2 := hT.lk lk2
    obtain ⟨-, ⟨v6, v7, v8⟩, hS2, hX2⟩ := id hT2
    have e3 := x_lasts hS2 t2 hs hc t3 (x := x) (l := l)
    have e36 : ((nI s <<< ((5 : Int32) &&& 31)) ||| nI (16 * l + c)) = nI (32 * s + 16 * l + c) := by
      rw [show (5 : Int32) = nI 5 from rfl, z_shl _ (by decide), z_or, ix36 s (by omega) l hl c hc]
    show ∃ M', ob (FX3_lasts (nI s) (nI c) (wv (nmS u hr s c) (sec x (if l = 0 then 0 else 1))) (M2.1 tc 1) M2) _ = some M' ∧ _
    rw [v6, e3, z_ob, e36, z_gi (by omega) (by decide), z_ix (by omega), z_lt, z_lt, nI_1]
    show ∃ M', FX7_price_L54 f tc (nI s) (nI c) (if wv (nmS u hr s c) (sec x 2) = 0 then 0 else 1) (nI (l + 1)) (wr M2 36 (32 * s + 16 * l + c) (nI (mn u x hr s c l))) = some M' ∧ _
    have lk3 : lk M (wr M2 36 (32 * s + 16 * l + c) (nI (mn u x hr s c l))) := lk2.tr ((kp.wr 36 M2 _ _).lk (by omega))
    obtain ⟨M', f1, f2, ⟨f3, f3'⟩, f4, f5⟩ := ih (l + 1) f _ (by omega) (by omega) (hT.lk lk3) (fun j hj => by rw [wr_cell _ _ (by omega), k2 30 (by omega)]; exact hm1 j hj)
    have h35 : ∀ j, j ≠ 16 * l + c → (wr M2 36 (32 * s + 16 * l + c) (nI (mn u x hr s c l))).1 35 j = M.1 35 j := by
      intro j hj
      rw [wr_cell _ _ (by omega), k2 35 (by omega), hM1]
      split
      · rw [wr_at, if_neg (fun z => hj z.2)]
      · rfl
    refine ⟨M', f1, lk3.tr f2, ⟨fun l' h1 h2 => ?_, fun j hj => ?_⟩, fun l' h1 h2 => ?_, fun j hj => ?_⟩
    · rcases Nat.lt_or_ge l l' with hlt | hge
      · rw [f3 l' hlt h2, h35 _ (by omega)]
      · have : l' = l := by omega
        subst this
        rw [f3' _ (fun l2 h3 h4 => by omega), wr_cell _ _ (by omega), k2 35 (by omega), hM1]
        by_cases hmy : may u x hr s c l' = true
        · rw [if_pos hmy, if_pos hmy, wr_at, if_pos ⟨rfl, rfl⟩]
        · rw [if_neg hmy, if_neg hmy]
    · rw [f3' j (fun l2 h3 h4 => hj l2 (by omega) h4), h35 j (hj l (Nat.le_refl _) hl)]
    · rcases Nat.lt_or_ge l l' with hlt | hge
      · exact f4 l' hlt h2
      · have : l' = l := by omega
        subst this
        rw [f5 _ (fun l2 h3 h4 => by omega), wr_at, if_pos ⟨rfl, rfl⟩]
    · rw [f5 j (fun l2 h3 h4 => hj l2 (by omega) h4), wr_at, if_neg (fun z => hj l (Nat.le_refl _) hl z.2), k2 36 (by omega), hM1]
      split
      · rw [wr_cell _ _ (by omega)]
      · rfl
theorem x_price {tc n hr law N : Nat} {u : Nat → Nat → Nat} {x : Txt} {M MY : Mem} {s c : Nat} (hs : s < n) (hce : c = u 1 s ∨ c = u 2 s) (hT : TW tc n hr law N u x M MY) (h32 : M.1 32 s = nI (u 1 s)) (h33 : M.1 33 s = nI (u 2 s)) :
    ∃ M', FX7_price (nI s) (nI c) tc M = some M' ∧ lk M M' ∧
      ((∀ l, l < 2 → M'.1 35 (16 * l + c) = if may u x hr s c l = true then M.1 35 (16 * l + c) ||| nI (2 ^ s) else M.1 35 (16 * l + c)) ∧ ∀ j, (∀ l, l < 2 → j ≠ 16 * l + c) → M'.1 35 j = M.1 35 j) ∧
      (∀ l, l < 2 → M'.1 36 (32 * s + 16 * l + c) = nI (mn u x hr s c l)) ∧ (∀ j, (∀ l, l < 2 → j ≠ 32 * s + 16 * l + c) → M'.1 36 j = M.1 36 j) := by
  obtain ⟨⟨t1, t2, t3, t4, t5⟩, ⟨t6, t7, t8⟩, hS, hX⟩ := id hT
  obtain ⟨⟨x0, x1, x2, x3, x4⟩, -, ⟨b0, b1, b2, b3, b4, b5, b6⟩⟩ := hS s hs
  have hc : c < 9 := by rcases hce with rfl | rfl <;> assumption
  have eac : FX7_across (nI s) (nI c) M = some (nI (oth u s c)) := by
    unfold FX7_across oth
    rw [z_gi (by omega) (by decide), z_ix (by omega), h32, h33]
    simp (disch := omega) only [z_eq, z_gi]
    by_cases h1 : c = u 1 s
    · rw [if_pos h1, if_pos h1.symm]
    · rw [if_neg h1, if_neg (fun z => h1 z.symm)]
  unfold FX7_price
  rw [z_gi (by omega) (by decide), z_gi (by omega) (by decide), eac, z_ob, z_ix (by omega), x3, x4, t6]
  obtain ⟨M1, e1, k1, n0, n1, n2, n3, n4, n5⟩ := x_name M (nI (u 3 s)) (nI (u 4 s)) (nI hr) (nI c) (nI (oth u s c)) (nI s)
  rw [e1, z_ob]
  have lk1 : lk M M1 := k1.lk (by omega)
  have hm1 : ∀ j, j < 6 → M1.1 30 j = nmS u hr s c j := by
    intro j hj
    rcases (show j = 0 ∨ j = 1 ∨ j = 2 ∨ j = 3 ∨ j = 4 ∨ j = 5 by omega) with rfl | rfl | rfl | rfl | rfl | rfl
    · exact n0
    · exact n1
    · exact n2
    · exact n3
    · exact n4
    · exact n5
  obtain ⟨-, ⟨u6, u7, u8⟩, hS1, hX1⟩ := hT.lk lk1
  obtain ⟨M2, e2, k2⟩ := x_value (p := 2) hX1 t4 t5 (by decide) u8 hm1
  rw [u7, show (2 : Int32) = nI 2 from rfl, e2, z_ob, z_lt]
  have lk2 := lk1.tr (k2.lk (by omega))
  obtain ⟨M3, e3, k3, ⟨p1, p2⟩, p3, p4⟩ := x_priL (tc := tc) hs hc 2 0 FU M2 rfl (by rw [z_FU]; omega) (hT.lk lk2) (fun j hj => by rw [k2 30 (by omega)]; exact hm1 j hj)
  show ∃ M', ob (FX7_price_L54 FU tc (nI s) (nI c) (if wv (nmS u hr s c) (sec x 2) = 0 then 0 else 1) 0 M2) _ = some M' ∧ _
  rw [show nI 0 = 0 from rfl] at e3
  rw [e3, z_ob]
  have c35 : M2.1 35 = M.1 35 := by rw [k2 35 (by omega), k1 35 (by omega)]
  have c36 : M2.1 36 = M.1 36 := by rw [k2 36 (by omega), k1 36 (by omega)]
  rw [c35] at p1 p2
  rw [c36] at p4
  exact ⟨M3, rfl, lk2.tr k3, ⟨fun l hl => p1 l (Nat.zero_le _) hl, fun j hj => p2 j (fun l _ hl => hj l hl)⟩, fun l hl => p3 l (Nat.zero_le _) hl, fun j hj => p4 j (fun l _ hl => hj l hl)⟩
