/-! the reference looks at a town -/
def kq (M M' : Mem) : Prop := ∀ k, k ≠ 15 → k ≠ 16 → M'.1 k = M.1 k
theorem kq.rf (M : Mem) : kq M M := fun _ _ _ => rfl
theorem kq.tr {A B C : Mem} (h : kq A B) (h2 : kq B C) : kq A C := fun k h3 h4 => (h2 k h3 h4).trans (h k h3 h4)
theorem kp.q {c : Nat} {M M' : Mem} (h : kp c M M') (hc : c = 15 ∨ c = 16) : kq M M' := fun k h1 h2 => h k (by omega)
def YW (n hr law : Nat) (u : Nat → Nat → Nat) (x : Txt) (MX MY : Mem) : Prop := (n ≤ 12 ∧ hr < 24 ∧ law < 6) ∧ (MY.1 0 3 = nI n ∧ MY.1 0 1 = nI hr ∧ MY.1 0 15 = nI law) ∧ RS n u MX MY ∧ TXR x law MX MY
def ky (M M' : Mem) : Prop := ∀ k, k ≠ 15 → k ≠ 16 → k ≠ 17 → k ≠ 18 → M'.1 k = M.1 k
theorem ky.tr {A B C : Mem} (h : ky A B) (h2 : ky B C) : ky A C := fun k h3 h4 h5 h6 => (h2 k h3 h4 h5 h6).trans (h k h3 h4 h5 h6)
theorem kq.y {A B : Mem} (h : kq A B) : ky A B := fun k h3 h4 _ _ => h k h3 h4
theorem YW.ky {n hr law : Nat} {u : Nat → Nat → Nat} {x : Txt} {MX MY MY' : Mem} (h : YW n hr law u x MX MY) (hk : ky MY MY') : YW n hr law u x MX MY' := by
  obtain ⟨h1, ⟨h2, h3, h4⟩, h5, h6⟩ := h
  have k0 := hk 0 (by decide) (by decide) (by decide) (by decide)
  exact ⟨h1, ⟨by rw [k0]; exact h2, by rw [k0]; exact h3, by rw [k0]; exact h4⟩, h5.fr (fun _ _ _ _ _ => rfl) (fun k h1 h2 s _ => by rw [hk k (by omega) (by omega) (by omega) (by omega)]), h6.fr rfl rfl (hk 7 (by decide) (by decide) (by decide) (by decide)) (hk 8 (by decide) (by decide) (by decide) (by decide))⟩
theorem y_names {n hr law : Nat} {u : Nat → Nat → Nat} {x : Txt} {MX M : Mem} (h : YW n hr law u x MX M) {s c : Nat} (hs : s < n) (hc : c < 9) : ∃ M', FX9_namesOf (nI s) (nI c) M = some M' ∧ kp 16 M M' ∧ ∀ j, j < 6 → M'.1 16 j = nmS u hr s c j := by
  obtain ⟨⟨t1, t2, t3⟩, ⟨t6, t7, t8⟩, hS, hX⟩ := h
  obtain ⟨-, ⟨y0, y1, y2, y3, y4⟩, ⟨b0, b1, b2, b3, b4, b5, b6⟩⟩ := hS s hs
  have e0 : Int32.toNatClampNeg 0 = 0 := rfl
  have e1 : Int32.toNatClampNeg 1 = 1 := rfl
  have e2 : Int32.toNatClampNeg 2 = 2 := rfl
  have e3 : Int32.toNatClampNeg 3 = 3 := rfl
  have e4 : Int32.toNatClampNeg 4 = 4 := rfl
  have e5 : Int32.toNatClampNeg 5 = 5 := rfl
  have g0 : ∀ {α : Type} (z : Option α), gi 0 6 z = z := fun z => z_gi (a := 0) (by decide) (by decide) z
  have g1 : ∀ {α : Type} (z : Option α), gi 1 6 z = z := fun z => z_gi (a := 1) (by decide) (by decide) z
  have g2 : ∀ {α : Type} (z : Option α), gi 2 6 z = z := fun z => z_gi (a := 2) (by decide) (by decide) z
  have g3 : ∀ {α : Type} (z : Option α), gi 3 6 z = z := fun z => z_gi (a := 3) (by decide) (by decide) z
  have g4 : ∀ {α : Type} (z : Option α), gi 4 6 z = z := fun z => z_gi (a := 4) (by decide) (by decide) z
  have g5 : ∀ {α : Type} (z : Option α), gi 5 6 z = z := fun z => z_gi (a := 5) (by decide) (by decide) z
  have gs : ∀ {α : Type} (z : Option α), gi (nI s) 13 z = z := fun z => z_gi (by omega) (by decide) z
  unfold FX9_namesOf
  simp only [gs, g0, g1, g2, g3, g4, g5, z_lt, e0, e1, e2, e3, e4, e5, z_ix (show s < 2147483648 by omega)]
  simp only [wr_cell _ _ (show (1 : Nat) ≠ 16 by decide), wr_cell _ _ (show (2 : Nat) ≠ 16 by decide), wr_cell _ _ (show (3 : Nat) ≠ 16 by decide), wr_cell _ _ (show (4 : Nat) ≠ 16 by decide), wr_cell _ _ (show (5 : Nat) ≠ 16 by decide), wr_cell _ _ (show (0 : Nat) ≠ 16 by decide), y1, y2, y3, y4, t7]
  have eo : (if nI (u 1 s) = nI c then some (nI (u 2 s)) else some (nI (u 1 s))) = some (nI (oth u s c)) := by
    unfold oth
    simp (disch := omega) only [z_eq]
    split <;> rfl
  rw [eo, z_ob]
  refine ⟨_, rfl, ?_, ?_⟩
  · intro k hk
    rw [wr_cell _ _ hk, wr_cell _ _ hk, wr_cell _ _ hk, wr_cell _ _ hk, wr_cell _ _ hk, wr_cell _ _ hk]
  · intro j hj
    rcases (show j = 0 ∨ j = 1 ∨ j = 2 ∨ j = 3 ∨ j = 4 ∨ j = 5 by omega) with rfl | rfl | rfl | rfl | rfl | rfl <;> simp [wr_at, nmS]
theorem y_mayGo {n hr law : Nat} {u : Nat → Nat → Nat} {x : Txt} {MX M : Mem} (h : YW n hr law u x MX M) {s c l : Nat} (hs : s < n) (hc : c < 9) (hl : l < 2) : ∃ M', FX9_mayGo (nI s) (nI c) (nI l) M = some (if may u x hr s c l = true then 1 else 0, M') ∧ kq M M' := by
  obtain ⟨⟨t1, t2, t3⟩, ⟨t6, t7, t8⟩, hS, hX⟩ := id h
  obtain ⟨-, ⟨y0, y1, y2, y3, y4⟩, ⟨b0, b1, b2, b3, b4, b5, b6⟩⟩ := hS s hs
  obtain ⟨M1, e1, k1, m1⟩ := y_names h hs hc
  have h1 := h.ky (k1.q (by omega)).y
  obtain ⟨-, ⟨-, -, v8⟩, -, hX1⟩ := h1
  obtain ⟨M2, e2, k2⟩ := y_worth (p := 2) hX1 t3 (by decide) v8 m1
  have l2 : kq M M2 := (k1.q (by omega)).tr (k2.q (by omega))
  have e2' : FX9_worth 2 M1 = some (wv (nmS u hr s c) (sec x 2), M2) := e2
  unfold FX9_mayGo
  rw [t6, if_pos (nI_lt hs (by omega)), z_gi (by omega) (by decide), z_lt, z_ix (by omega), y0, z_gi (by omega) (by decide), y1, t7]
  simp only [e1, z_ob, e2']
  have q0 : (0 : Int32) = nI 0 := rfl
  have q1 : (1 : Int32) = nI 1 := rfl
  have q2 : (2 : Int32) = nI 2 := rfl
  have q5 : (5 : Int32) = nI 5 := rfl
  have q12 : (12 : Int32) = nI 12 := rfl
  unfold may kok
  rcases (show u 0 s = 0 ∨ u 0 s = 1 ∨ u 0 s = 2 ∨ u 0 s = 3 ∨ u 0 s = 4 ∨ u 0 s = 5 by omega) with e | e | e | e | e | e
  all_goals rw [e]
  · refine ⟨M2, ?_, l2⟩
    by_cases w0 : wv (nmS u hr s c) (sec x 2) = 0 <;> simp [q1, q2, q5, z_eq, z_ob, z_lt, w0]
  · by_cases h1 : c = u 1 s
    · refine ⟨M2, ?_, l2⟩
      rw [← h1]
      by_cases w0 : wv (nmS u hr s c) (sec x 2) = 0 <;> simp [q1, q2, q5, z_eq, z_ob, z_lt, w0]
    · have : ¬ nI c = nI (u 1 s) := by rw [z_eq (by omega) (by omega)]; exact h1
      refine ⟨M, ?_, kq.rf M⟩
      simp [q1, q2, q5, z_eq, z_ob, z_lt, h1, this]
  · by_cases h1 : l = 0
    · refine ⟨M2, ?_, l2⟩
      subst h1
      have w1 : nI 0 = (0 : Int32) := rfl
      by_cases w0 : wv (nmS u hr s c) (sec x 2) = 0 <;> simp [q1, q2, q5, z_eq, z_ob, z_lt, w1, w0]
    · have : ¬ nI l = nI 0 := by rw [z_eq (by omega) (by omega)]; exact h1
      refine ⟨M, ?_, kq.rf M⟩
      simp [q0, q1, q2, q5, z_eq, z_ob, z_lt, h1, this]
  · refine ⟨M2, ?_, l2⟩
    by_cases w0 : wv (nmS u hr s c) (sec x 2) = 0 <;> simp [q1, q2, q5, z_eq, z_ob, z_lt, w0]
  · refine ⟨M2, ?_, l2⟩
    by_cases w0 : wv (nmS u hr s c) (sec x 2) = 0 <;> simp [q1, q2, q5, z_eq, z_ob, z_lt, w0]
  · by_cases h1 : hr < 12
    · have : nI hr < nI 12 := nI_lt h1 (by decide)
      refine ⟨M2, ?_, l2⟩
      by_cases w0 : wv (nmS u hr s c) (sec x 2) = 0 <;> simp [q1, q2, q5, q12, z_eq, z_ob, z_lt, h1, this, w0]
    · have : ¬ nI hr < nI 12 := nI_nlt (by omega) (by omega)
      refine ⟨M, ?_, kq.rf M⟩
      simp [q1, q2, q5, q12, z_eq, z_ob, z_lt, h1, this]
theorem y_minutesOf {n hr law : Nat} {u : Nat → Nat → Nat} {x : Txt} {MX M : Mem} (h : YW n hr law u x MX M) {s c l : Nat} (hs : s < n) (hc : c < 9) (hl : l < 2) : ∃ M', FX9_minutesOf (nI s) (nI c) (nI l) M = some (nI (mn u x hr s c l), M') ∧ kq M M' := by
  obtain ⟨⟨t1, t2, t3⟩, ⟨t6, t7, t8⟩, hS, hX⟩ := id h
  obtain ⟨-, -, ⟨b0, b1, b2, b3, b4, b5, b6⟩⟩ := id (hS s hs)
  obtain ⟨M1, e1, k1, m1⟩ := y_names h hs hc
  have h1 := h.ky (k1.q (by omega)).y
  obtain ⟨-, ⟨-, -, v8⟩, -, hX1⟩ := id h1
  obtain ⟨M2, e2, k2⟩ := y_worth (p := if l = 0 then 0 else 1) hX1 t3 (by split <;> omega) v8 m1
  have l2 : kq M M2 := (k1.q (by omega)).tr (k2.q (by omega))
  obtain ⟨-, ⟨w6, w7, w8⟩, hS2, hX2⟩ := h1.ky (k2.q (by omega)).y
  obtain ⟨-, ⟨y0, y1, y2, y3, y4⟩, -⟩ := hS2 s hs
  have hb := cl_b (wv (nmS u hr s c) (sec x (if l = 0 then 0 else 1)))
  have e108 : (if nI l = 0 then (0 : Int32) else 1) = nI (if l = 0 then 0 else 1) := by
    by_cases h0 : l = 0
    · subst h0; rfl
    · rw [if_neg (nI_ne0 (by omega) (by omega)), if_neg h0]; rfl
  unfold FX9_minutesOf
  rw [t6, if_pos (nI_lt hs (by omega)), e1, z_ob, e108, z_lt, e2, z_ob, cl_y, z_lt, z_gi (by omega) (by decide)]
  unfold mn
  generalize cl99 (wv (nmS u hr s c) (sec x (if l = 0 then 0 else 1))) = a at hb ⊢
  have q2 : (2 : Int32) = nI 2 := rfl
  have q4 : (4 : Int32) = nI 4 := rfl
  have q12 : (12 : Int32) = nI 12 := rfl
  have wi : ∀ k, 1 ≤ k → k < 300 → FX9_within (nI k) 1 99 = nI (min 99 k) := by
    intro k h1 h2
    unfold FX9_within
    show (if nI 1 ≤ nI k then if nI k ≤ nI 99 then nI k else nI 99 else nI 1) = _
    rw [if_pos (nI_le h1 (by omega))]
    by_cases h3 : k ≤ 99
    · rw [if_pos (nI_le h3 (by decide)), Nat.min_eq_right h3]
    · rw [if_neg (nI_ge (by omega) (by omega)), Nat.min_eq_left (by omega)]
  refine ⟨M2, ?_, l2⟩
  simp (disch := omega) only [z_lt, z_gi, z_ix, y0, y2, y4, w7, q2, q4, q12, z_eq, z_lts, pk_mul, nI_add]
  by_cases e2 : u 0 s = 2
  · by_cases h1 : c = u 2 s
    · simp [e2, h1, z_ob, wi (2 * a) (by omega) (by omega)]
    · simp [e2, h1, z_ob]
      rw [Nat.min_eq_right (by omega)]
  · by_cases e4 : u 0 s = 4
    · by_cases h1 : hr < 12
      · have : ¬ 12 ≤ hr := by omega
        simp [e4, h1, this, z_ob]
        rw [Nat.min_eq_right (by omega)]
      · have : 12 ≤ hr := by omega
        simp [e4, h1, this, z_ob, nI_add]
        rw [wi _ (by omega) (by omega)]
    · simp [e2, e4, z_ob]
      rw [Nat.min_eq_right (by omega)]
