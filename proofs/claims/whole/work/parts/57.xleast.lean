/-! the class's search: least, minutes, streetAt -/
/-- the row's sets that are rings, below index i -/
def rgs (T : Twn) (k d : Nat) (Q : List Nat) (i m : Nat) : Prop := (∃ a, a < i ∧ a < Q.length ∧ Q.getD a 0 = m) ∧ ∃ c, wk T m c ∧ rng T d m c = true
theorem x_leL {T : Twn} (hT : Twf T) {k d : Nat} (hd : d < 1024) {Q : List Nat} {κ : Nat → Nat} {M : Mem} (hQ : QS T k d True Q κ M) : ∀ (j i f : Nat) (x : Int32), i + j = Q.length → j < f → ((x = -1 ∧ ∀ m, ¬ rgs T k d Q i m) ∨ ∃ m, x = nI m ∧ rgs T k d Q i m ∧ ∀ m', rgs T k d Q i m' → κ m ≤ κ m') →
    ∃ y, FX0_least_L4 f (nI d) x (nI i) M = some y ∧ ((y = -1 ∧ ∀ m, ¬ rgs T k d Q Q.length m) ∨ ∃ m, y = nI m ∧ rgs T k d Q Q.length m ∧ ∀ m', rgs T k d Q Q.length m' → κ m ≤ κ m') := by
  have hN := hT.1.2.1
  have hlt := QS_lt hT hQ
  obtain ⟨⟨q1, q2⟩, q3, q4, q5, q6, q7⟩ := id hQ
  have hQl := nodup_le 8192 Q q4 (fun x hx => p13 hN (hlt x hx))
  intro j
  induction j with
  | zero =>
    intro i f x hi hf hx
    obtain ⟨f, rfl⟩ : ∃ g, f = g + 1 := ⟨f - 1, by omega⟩
    have : i = Q.length := by omega
    subst this
    rw [FX0_least_L4, q1, if_pos (Int32.le_refl _)]
    exact ⟨x, rfl, hx⟩
  | succ j ih =>
    intro i f x hi hf hx
    obtain ⟨f, rfl⟩ : ∃ g, f = g + 1 := ⟨f - 1, by omega⟩
    have hil : i < Q.length := by omega
    have hmem := getD_mem hil
    rw [FX0_least_L4, q1, if_neg (nI_ge hil (by omega)), z_gi (by omega) (by decide), z_lt, z_ix (by omega), q3 i hil]
    obtain ⟨m, hm⟩ : ∃ m, m = Q.getD i 0 := ⟨_, rfl⟩
    rw [← hm] at hmem ⊢
    obtain ⟨w, w1, w2, w3, w4⟩ := q5 m hmem
    have hw := Pre_wk hT (wk_0 hT) w1
    rw [w2] at hw
    generalize cE T (T.1 0) w = c at w3 hw
    have hm8 := p13 hN hw.1
    have hKm := (w4 trivial)
    have hKb := Kw_lt hT w1
    have up : ∀ m', rgs T k d Q (i + 1) m' ↔ rgs T k d Q i m' ∨ (m' = m ∧ rng T d m c = true) := by
      intro m'
      constructor
      · rintro ⟨⟨a, a1, a2, a3⟩, c', c1, c2⟩
        rcases (show a < i ∨ a = i by omega) with h | h
        · exact Or.inl ⟨⟨a, h, a2, a3⟩, c', c1, c2⟩
        · right
          have e : m' = m := by rw [← a3, h, hm]
          subst e
          rw [par_inj c1.2.2.2 hw.2.2.2] at c2
          exact ⟨rfl, c2⟩
      · rintro (⟨⟨a, a1, a2, a3⟩, h⟩ | ⟨rfl, h⟩)
        · exact ⟨⟨a, by omega, a2, a3⟩, h⟩
        · exact ⟨⟨i, by omega, hil, hm.symm⟩, c, hw, h⟩
    rw [x_isRing hT hm8 hd hw.2.1 q2 (fun _ => w3), z_ob]
    cases hr : rng T d m c with
    | false =>
      have up' : ∀ m', rgs T k d Q (i + 1) m' ↔ rgs T k d Q i m' := fun m' => by rw [up m', hr]; simp
      rw [if_pos (show (if false = true then (1 : Int32) else 0) = 0 from by decide), z_lt, nI_1]
      refine ih (i + 1) f x (by omega) (by omega) ?_
      rcases hx with ⟨h1, h2⟩ | ⟨m2, h1, h2, h3⟩
      · exact Or.inl ⟨h1, fun m' h => h2 m' ((up' m').mp h)⟩
      · exact Or.inr ⟨m2, h1, (up' m2).mpr h2, fun m' h => h3 m' ((up' m').mp h)⟩
    | true =>
      rw [if_neg (show ¬ (if true = true then (1 : Int32) else 0) = 0 from by decide)]
      have mine : rgs T k d Q (i + 1) m := (up m).mpr (Or.inr ⟨rfl, hr⟩)
      rcases hx with ⟨h1, h2⟩ | ⟨m2, h1, h2, h3⟩
      · rw [h1, if_pos (by decide), z_ob, if_pos rfl, z_lt, nI_1]
        refine ih (i + 1) f _ (by omega) (by omega) (Or.inr ⟨m, rfl, mine, fun m' h => ?_⟩)
        rcases (up m').mp h with h | h
        · exact absurd h (h2 m')
        · rw [h.1]; exact Nat.le_refl _
      · obtain ⟨⟨a, a1, a2, a3⟩, -⟩ := id h2
        have mem2 : m2 ∈ Q := by rw [← a3]; exact getD_mem a2
        obtain ⟨v, v1, v2, v3, v4⟩ := q5 m2 mem2
        have hm28 := p13 hN (hlt m2 mem2)
        have hK2 := v4 trivial
        have hK2b := Kw_lt hT v1
        rw [h1, if_neg (z_neg (by omega)), z_gi hm8 (by decide), z_gi hm28 (by decide), z_ix (show m < 2147483648 by omega), z_ix (show m2 < 2147483648 by omega), hKm.1, hK2.1]
        have ecmp : (0 ≤ lg_cmp (lN (κ m)) (lN (κ m2))) ↔ κ m2 ≤ κ m := by
          rw [lg_cmp_ge, hKm.2, hK2.2]
          exact pk_lLE hK2b hKb
        rw [if_congr_prop ecmp]
        by_cases hle : κ m2 ≤ κ m
        · rw [if_pos hle, z_ob, if_neg (by decide), z_lt, nI_1]
          refine ih (i + 1) f _ (by omega) (by omega) (Or.inr ⟨m2, rfl, (up m2).mpr (Or.inl h2), fun m' h => ?_⟩)
          rcases (up m').mp h with h | h
          · exact h3 m' h
          · rw [h.1]; exact hle
        · rw [if_neg hle, z_ob, if_pos rfl, z_lt, nI_1]
          refine ih (i + 1) f _ (by omega) (by omega) (Or.inr ⟨m, rfl, mine, fun m' h => ?_⟩)
          rcases (up m').mp h with h | h
          · have := h3 m' h; omega
          · rw [h.1]; exact Nat.le_refl _
theorem x_least {T : Twn} (hT : Twf T) {k d : Nat} (hd : d < 1024) {Q : List Nat} {κ : Nat → Nat} {M : Mem} (hS : SK T k d Q κ M) : (FX0_least (nI d) M = some (-1) ∧ ∀ w, ¬ Cpl T k d 0 (T.1 0) w) ∨ ∃ w, FX0_least (nI d) M = some (nI (mE 0 w)) ∧ Cpl T k d 0 (T.1 0) w ∧ (∀ w', Cpl T k d 0 (T.1 0) w' → Kw T k w ≤ Kw T k w') ∧ M.2 38 (mE 0 w) = lN (Kw T k w) ∧ mE 0 w < 8192 := by
  have hN := hT.1.2.1
  obtain ⟨hQ, hall⟩ := hS
  obtain ⟨-, q3, q4, q5, q6, q7⟩ := id hQ
  have hQl := nodup_le 8192 Q q4 (fun x hx => p13 hN (QS_lt hT hQ x hx))
  obtain ⟨y, e1, e2⟩ := x_leL hT hd hQ Q.length 0 FU (-1) (by omega) (by rw [z_FU]; omega) (Or.inl ⟨rfl, fun m h => by
    obtain ⟨⟨a, a1, -⟩, -⟩ := h
    omega⟩)
  unfold FX0_least
  rw [show nI 0 = 0 from rfl] at e1
  rw [e1, z_ob]
  have ring : ∀ w, Cpl T k d 0 (T.1 0) w → rgs T k d Q Q.length (mE 0 w) := by
    intro w hw
    obtain ⟨a, a1, a2⟩ := mem_getD (hall w hw.1).1
    exact ⟨⟨a, a1, a1, a2⟩, _, Pre_wk hT (wk_0 hT) hw.1, hw.2⟩
  rcases e2 with ⟨h1, h2⟩ | ⟨m, h1, h2, h3⟩
  · left
    rw [h1]
    exact ⟨rfl, fun w hw => h2 _ (ring w hw)⟩
  · right
    obtain ⟨⟨a, a1, a2, a3⟩, c, c1, c2⟩ := h2
    have hmem : m ∈ Q := by rw [← a3]; exact getD_mem a2
    obtain ⟨w, w1, w2, w3, w4⟩ := q5 m hmem
    have hw := Pre_wk hT (wk_0 hT) w1
    have ec : cE T (T.1 0) w = c := by
      rw [w2] at hw
      exact par_inj hw.2.2.2 c1.2.2.2
    have hK := w4 trivial
    have hC : Cpl T k d 0 (T.1 0) w := ⟨w1, by rw [w2, ec]; exact c2⟩
    subst w2
    refine ⟨w, by rw [h1], hC, fun w' hw' => ?_, by rw [hK.1, hK.2], p13 hN hw.1⟩
    rw [← hK.2]
    exact Nat.le_trans (h3 _ (ring w' hw')) (hall w' hw'.1).2
theorem nI_mod (n : Nat) : nI n = nI (n % 4294967296) := by
  apply Int32.toBitVec_inj.mp
  apply BitVec.eq_of_toNat_eq
  show (BitVec.ofNat 32 n).toNat = (BitVec.ofNat 32 (n % 4294967296)).toNat
  simp [BitVec.toNat_ofNat]
theorem dg_at : ∀ {w : List Nat} {j i : Nat}, (∀ s ∈ w, s < 13) → j + w.length ≤ 13 → i < w.length → dg j w / 16 ^ (12 - (j + i)) % 16 = w.getD i 0
  | [], _, i, _, _, h => absurd h (Nat.not_lt_zero i)
  | s :: r, j, 0, h, hl, _ => by
    rw [List.length_cons] at hl
    have b := dg_lt (w := r) (j := j + 1) (fun t ht => h t (List.mem_cons_of_mem _ ht)) (by omega)
    rw [show 13 - (j + 1) = 12 - j by omega] at b
    have hs : s < 13 := h s List.mem_cons_self
    show (s * 16 ^ (12 - j) + dg (j + 1) r) / 16 ^ (12 - j) % 16 = s
    rw [Nat.mul_comm s, Nat.mul_add_div (Nat.pow_pos (by decide)), Nat.div_eq_of_lt b]
    omega
  | s :: r, j, i + 1, h, hl, hi => by
    rw [List.length_cons] at hl hi
    have ih := dg_at (w := r) (j := j + 1) (i := i) (fun t ht => h t (List.mem_cons_of_mem _ ht)) (by omega) (by omega)
    rw [dg, show j + (i + 1) = j + 1 + i by omega]
    have e : s * 16 ^ (12 - j) = 16 ^ (12 - (j + 1 + i)) * (16 * (s * 16 ^ i)) := by
      rw [show 12 - j = (12 - (j + 1 + i)) + (i + 1) by omega, Nat.pow_add, Nat.pow_succ]
      rw [Nat.mul_left_comm, Nat.mul_comm (16 ^ i) 16, Nat.mul_left_comm s 16]
    rw [e, Nat.mul_add_div (Nat.pow_pos (by decide)), Nat.mul_add_mod, ih]
    rfl
