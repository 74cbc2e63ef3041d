/-! bonds, bond, newly -/
theorem jin {n : Nat} {u : Nat → Nat → Nat} {MX MY : Mem} (h : RS n u MX MY) : ∀ s, s < n → u 1 s < 9 ∧ u 2 s < 9 := fun s hs => ⟨(h s hs).2.2.2.1, (h s hs).2.2.2.2.1⟩
theorem p2_lt {c : Nat} (h : c < 9) : 2 ^ c < 512 := Nat.pow_lt_pow_right (by decide) (show c < 9 from h)
theorem jcl_9 {n : Nat} {u : Nat → Nat → Nat} (hu : ∀ s, s < n → u 1 s < 9 ∧ u 2 s < 9) (q : Nat → Bool) {c : Nat} (hc : c < 9) : itr 9 (jpass u q n) (2 ^ c) = jcl u n q (2 ^ c) :=
  itr_9 (fun S _ => jpass_sub u q n S) (fun S hS => jpass_lt hu q n S (Nat.le_refl n) hS) (p2_lt hc) ⟨c, hc, Nat.testBit_two_pow_self⟩
theorem jcl_lt {n : Nat} {u : Nat → Nat → Nat} (hu : ∀ s, s < n → u 1 s < 9 ∧ u 2 s < 9) (q : Nat → Bool) {S : Nat} (hS : S < 512) : jcl u n q S < 512 := by
  unfold jcl
  have : ∀ k S, S < 512 → itr k (jpass u q n) S < 512 := by
    intro k
    induction k with
    | zero => intro S h; exact h
    | succ k ih => intro S h; exact ih _ (jpass_lt hu q n S (Nat.le_refl n) h)
  exact this 8 S hS
/-- the bonds -/
def bnd (u : Nat → Nat → Nat) (n : Nat) : Nat := orB n (fun s => !(jcl u n (fun t => !(2 ^ s).testBit t) (2 ^ u 1 s)).testBit (u 2 s)) (fun s => 2 ^ s)
theorem bnd_lt (u : Nat → Nat → Nat) {n : Nat} (hn : n ≤ 12) : bnd u n < 4096 := orB_lt (b := 12) fun k hk _ => Nat.pow_lt_pow_right (by decide) (by omega)
theorem bnd_bit (u : Nat → Nat → Nat) (n s : Nat) : (bnd u n).testBit s = true ↔ s < n ∧ (jcl u n (fun t => !(2 ^ s).testBit t) (2 ^ u 1 s)).testBit (u 2 s) = false := by
  unfold bnd
  rw [orB_bit]
  constructor
  · rintro ⟨k, h1, h2, h3⟩
    have : k = s := by
      rw [Nat.testBit_two_pow] at h3
      simpa using h3
    subst this
    exact ⟨h1, by simpa using h2⟩
  · rintro ⟨h1, h2⟩
    exact ⟨s, h1, by simpa using h2, Nat.testBit_two_pow_self⟩
theorem x_bonL {n : Nat} {u : Nat → Nat → Nat} {MX MY : Mem} (h : RS n u MX MY) (hn : n ≤ 12) : ∀ (k i f : Nat), i + k = n → k < f →
    FX3_bonds_L4 f (nI n) (nI (orB i (fun s => !(jcl u n (fun t => !(2 ^ s).testBit t) (2 ^ u 1 s)).testBit (u 2 s)) (fun s => 2 ^ s))) (nI i) MX = some (nI (bnd u n)) := by
  intro k
  induction k with
  | zero =>
    intro i f hi hf
    obtain ⟨f, rfl⟩ : ∃ g, f = g + 1 := ⟨f - 1, by omega⟩
    have : i = n := by omega
    subst this
    rw [FX3_bonds_L4, if_pos (Int32.le_refl _)]
    rfl
  | succ k ih =>
    intro i f hi hf
    obtain ⟨f, rfl⟩ : ∃ g, f = g + 1 := ⟨f - 1, by omega⟩
    obtain ⟨⟨y0, y1, y2, y3, y4⟩, -, ⟨b0, b1, b2, b3, b4, b5, b6⟩⟩ := h i (by omega)
    have ihh := ih (i + 1) f (by omega) (by omega)
    have hj : FX3_joined (nI (2 ^ u 1 i)) (nI (2 ^ i) ^^^ (-1)) (nI n) MX = some (nI (jcl u n (fun t => !(2 ^ i).testBit t) (2 ^ u 1 i))) := x_joined h hn (fun t ht => by rw [z_nbit (by omega)]; simp) (p2_lt b1)
    have hjl := jcl_lt (n := n) (jin h) (fun t => !(2 ^ i).testBit t) (p2_lt b1)
    rw [orB] at ihh
    have g1 : ¬ nI n ≤ nI i := nI_ge (by omega) (by omega)
    rw [FX3_bonds_L4]
    simp (disch := omega) only [g1, if_false, z_lt, z_gi, z_ix, y1, y2, z_shl1, hj, z_ob]
    simp (disch := omega) only [z_b0, nI_1, z_or]
    cases e : (jcl u n (fun t => !(2 ^ i).testBit t) (2 ^ u 1 i)).testBit (u 2 i) <;> simp [e] at ihh ⊢ <;> exact ihh
theorem x_bonds {n : Nat} {u : Nat → Nat → Nat} {MX MY : Mem} (h : RS n u MX MY) (hn : n ≤ 12) : FX3_bonds (nI n) MX = some (nI (bnd u n)) := by
  unfold FX3_bonds
  have := x_bonL h hn n 0 FU (by omega) (by rw [z_FU]; omega)
  rw [show (0 : Int32) = nI 0 from rfl]
  rw [orB] at this
  rw [this, z_ob]
theorem y_bonL {n : Nat} {u : Nat → Nat → Nat} {MX MY : Mem} (h : RS n u MX MY) (hn : n ≤ 12) (hy : MY.1 0 3 = nI n) : ∀ (k i f : Nat), i + k = n → k < f →
    FX9_bonds_L4 f (nI (orB i (fun s => !(jcl u n (fun t => !(2 ^ s).testBit t) (2 ^ u 1 s)).testBit (u 2 s)) (fun s => 2 ^ s))) (nI i) MY = some (nI (bnd u n)) := by
  intro k
  induction k with
  | zero =>
    intro i f hi hf
    obtain ⟨f, rfl⟩ : ∃ g, f = g + 1 := ⟨f - 1, by omega⟩
    have : i = n := by omega
    subst this
    rw [FX9_bonds_L4, hy, if_pos (Int32.le_refl _)]
    rfl
  | succ k ih =>
    intro i f hi hf
    obtain ⟨f, rfl⟩ : ∃ g, f = g + 1 := ⟨f - 1, by omega⟩
    obtain ⟨-, ⟨y0, y1, y2, y3, y4⟩, ⟨b0, b1, b2, b3, b4, b5, b6⟩⟩ := h i (by omega)
    have ihh := ih (i + 1) f (by omega) (by omega)
    have hj := y_joinedTo h hn hy (B := 2 ^ i) (Nat.pow_lt_pow_right (n := 12) (by decide) (by omega)) b1
    rw [jcl_9 (jin h) _ b1] at hj
    have hjl := jcl_lt (n := n) (jin h) (fun t => !(2 ^ i).testBit t) (p2_lt b1)
    rw [orB] at ihh
    have g1 : ¬ nI n ≤ nI i := nI_ge (by omega) (by omega)
    rw [FX9_bonds_L4, hy]
    simp (disch := omega) only [g1, if_false, z_lt, z_gi, z_ix, y1, y2, z_shl1, hj, z_ob, z_b0, nI_1]
    cases e : (jcl u n (fun t => !(2 ^ i).testBit t) (2 ^ u 1 i)).testBit (u 2 i)
    · simp [e] at ihh ⊢
      rw [z_or]
      exact ihh
    · simp [e] at ihh ⊢
      exact ihh
theorem y_bonds {n : Nat} {u : Nat → Nat → Nat} {MX MY : Mem} (h : RS n u MX MY) (hn : n ≤ 12) (hy : MY.1 0 3 = nI n) : FX9_bonds MY = some (nI (bnd u n)) := by
  unfold FX9_bonds
  have := y_bonL h hn hy n 0 FU (by omega) (by rw [z_FU]; omega)
  rw [show (0 : Int32) = nI 0 from rfl]
  rw [orB] at this
  rw [this, z_ob]
theorem x_part {n : Nat} {u : Nat → Nat → Nat} {MX MY : Mem} (h : RS n u MX MY) (hn : n ≤ 12) {B c : Nat} (hc : c < 9) : FX3_joined (nI (2 ^ c)) (nI B ^^^ (-1)) (nI n) MX = some (nI (jcl u n (fun t => !B.testBit t) (2 ^ c))) :=
  x_joined h hn (fun t ht => by rw [z_nbit (by omega)]; simp) (p2_lt hc)
theorem y_part {n : Nat} {u : Nat → Nat → Nat} {MX MY : Mem} (h : RS n u MX MY) (hn : n ≤ 12) (hy : MY.1 0 3 = nI n) {B c : Nat} (hB : B < 4096) (hc : c < 9) : FX9_joinedTo (nI c) (nI B) MY = some (nI (jcl u n (fun t => !B.testBit t) (2 ^ c))) := by
  rw [y_joinedTo h hn hy hB hc, jcl_9 (jin h) _ hc]
theorem y_isCorner (a : Int32) : FX9_isCorner a = some (if 0 ≤ a ∧ a < 9 then 1 else 0) := by
  have e := zlt_iff a (n := 8) (by decide)
  rw [show nI (8 + 1) = 9 from rfl, show nI 8 = 8 from rfl] at e
  unfold FX9_isCorner
  simp only [show (9 : Int32) - 1 = 8 from rfl, z_in, ← e]
  rw [z_gd]
  by_cases h : 0 ≤ a ∧ a < 9 <;> simp [h]
theorem corner_nI {a : Int32} (h : 0 ≤ a ∧ a < 9) : ∃ c, c < 9 ∧ a = nI c := by
  obtain ⟨j, hj, rfl⟩ := nI_of (Int32.not_lt.mpr h.1)
  exact ⟨j, (z_lts (b := 9) (by omega) (by decide)).mp h.2, rfl⟩
theorem eq_bond {MX MY : Mem} (h : Sim MX MY) (a b : Int32) : ∃ r, FX8_bond a b MX = some r ∧ FX9_bond a b MY = some r := by
  obtain ⟨v, u, tx, hA, hB, hK, hS, -⟩ := h
  obtain ⟨⟨x0, x1, x2, x3, x4, x5, x6, x7⟩, ⟨y0, y1, y2, y3, y4, y5, y6, y7⟩⟩ := id hA
  have hn : v 3 ≤ 12 := hB.2.2.2.1
  unfold FX8_bond FX9_bond
  rw [x_isCorner, y_isCorner, z_ob]
  by_cases ha : 0 ≤ a ∧ a < 9
  rotate_left
  · rw [if_neg ha]
    exact ⟨-5, rfl, rfl⟩
  obtain ⟨c, hc, rfl⟩ := corner_nI ha
  simp only [if_pos ha, if_neg (show ¬ (1 : Int32) = 0 from by decide)]
  simp only [z_lt, zrb, x3, x_bonds hS hn, y_bonds hS hn y3, z_ob, z_shl1 (show c < 32 by omega), x_part hS hn hc, y_part hS hn y3 (bnd_lt u hn) hc]
  by_cases b0 : b = 0
  · subst b0
    exact ⟨_, rfl, rfl⟩
  · by_cases b1 : b = 1
    · subst b1
      exact ⟨_, rfl, rfl⟩
    · refine ⟨-7, ?_, ?_⟩
      · rw [if_pos]
        have : ¬ (0 ≤ b ∧ b ≤ 1) := by
          intro z
          obtain ⟨k, hk, rfl⟩ := zrange (n := 1) (by decide) z
          rcases (show k = 0 ∨ k = 1 by omega) with rfl | rfl
          · exact b0 rfl
          · exact b1 rfl
        rw [decide_eq_false this]
        rfl
      · simp only [if_neg b0, if_neg b1]
-- a closed set of corners
theorem jpass_in {u : Nat → Nat → Nat} {q : Nat → Bool} {D : Nat} : ∀ {k S : Nat}, sub S D → (∀ s, s < k → q s = true → (D.testBit (u 1 s) = true ↔ D.testBit (u 2 s) = true)) → sub (jpass u q k S) D
  | 0, S, h, _ => h
  | k + 1, S, h, hc => by
    have ih := jpass_in (u := u) (q := q) (D := D) (k := k) (S := S) h (fun s hs => hc s (by omega))
    rw [jpass]
    split
    · rename_i hp
      simp only [Bool.and_eq_true, Bool.or_eq_true] at hp
      have hh := hc k (by omega) hp.1
      have both : D.testBit (u 1 k) = true ∧ D.testBit (u 2 k) = true := by
        rcases hp.2 with h1 | h1
        · exact ⟨ih _ h1, hh.mp (ih _ h1)⟩
        · exact ⟨hh.mpr (ih _ h1), ih _ h1⟩
      intro i hi
      rw [Nat.testBit_or, Nat.testBit_or, Bool.or_eq_true, Bool.or_eq_true] at hi
      rcases hi with h1 | h1 | h1
      · exact ih i h1
      · rw [Nat.testBit_two_pow] at h1
        have : u 1 k = i := by simpa using h1
        rw [← this]; exact both.1
      · rw [Nat.testBit_two_pow] at h1
        have : u 2 k = i := by simpa using h1
        rw [← this]; exact both.2
    · exact ih
theorem jcl_in {u : Nat → Nat → Nat} {n : Nat} {q : Nat → Bool} {D : Nat} (hc : ∀ s, s < n → q s = true → (D.testBit (u 1 s) = true ↔ D.testBit (u 2 s) = true)) {S : Nat} (h : sub S D) : sub (jcl u n q S) D := by
  unfold jcl
  have : ∀ k S, sub S D → sub (itr k (jpass u q n) S) D := by
    intro k
    induction k with
    | zero => intro S h; exact h
    | succ k ih => intro S h; exact ih _ (jpass_in h hc)
  exact this 8 S h
theorem jcl_sub (u : Nat → Nat → Nat) (n : Nat) (q : Nat → Bool) (S : Nat) : sub S (jcl u n q S) := by
  unfold jcl
  have : ∀ k S, sub S (itr k (jpass u q n) S) := by
    intro k
    induction k with
    | zero => intro S; exact sub_rf S
    | succ k ih => intro S; exact sub_tr (jpass_sub u q n S) (ih _)
  exact this 8 S
theorem jpass_has {u : Nat → Nat → Nat} {q : Nat → Bool} : ∀ {k S s : Nat}, s < k → q s = true → (S.testBit (u 1 s) = true ∨ S.testBit (u 2 s) = true) → (jpass u q k S).testBit (u 1 s) = true ∧ (jpass u q k S).testBit (u 2 s) = true
  | 0, _, _, h, _, _ => absurd h (Nat.not_lt_zero _)
  | k + 1, S, s, hs, hq, ho => by
    by_cases hk : s = k
    · subst hk
      have hor : (jpass u q s S).testBit (u 1 s) = true ∨ (jpass u q s S).testBit (u 2 s) = true := by
        rcases ho with h | h
        · exact Or.inl (jpass_sub u q s S _ h)
        · exact Or.inr (jpass_sub u q s S _ h)
      rw [jpass, if_pos (by simp [hq]; exact hor)]
      simp [Nat.testBit_or]
    · have ih := jpass_has (u := u) (q := q) (k := k) (S := S) (s := s) (by omega) hq ho
      rw [jpass]
      split
      · exact ⟨sub_or _ _ _ ih.1, sub_or _ _ _ ih.2⟩
      · exact ih
theorem jcl_closed {u : Nat → Nat → Nat} {n : Nat} (hu : ∀ s, s < n → u 1 s < 9 ∧ u 2 s < 9) {q : Nat → Bool} {c : Nat} (hc : c < 9) : ∀ s, s < n → q s = true → ((jcl u n q (2 ^ c)).testBit (u 1 s) = true ↔ (jcl u n q (2 ^ c)).testBit (u 2 s) = true) := by
  have hst : jpass u q n (jcl u n q (2 ^ c)) = jcl u n q (2 ^ c) := still (fun S _ => jpass_sub u q n S) (fun S hS => jpass_lt hu q n S (Nat.le_refl n) hS) (p2_lt hc) ⟨c, hc, Nat.testBit_two_pow_self⟩
  intro s hs hq
  constructor
  · intro h
    have := (jpass_has (u := u) (q := q) (k := n) hs hq (Or.inl h)).2
    rw [hst] at this
    exact this
  · intro h
    have := (jpass_has (u := u) (q := q) (k := n) hs hq (Or.inr h)).1
    rw [hst] at this
    exact this
/-- a bond has no two ends in one part -/
theorem bond_apart {u : Nat → Nat → Nat} {n : Nat} (hu : ∀ s, s < n → u 1 s < 9 ∧ u 2 s < 9) {c : Nat} (hc : c < 9) {s : Nat} (hb : (bnd u n).testBit s = true) : ¬ ((jcl u n (fun t => !(bnd u n).testBit t) (2 ^ c)).testBit (u 1 s) = true ∧ (jcl u n (fun t => !(bnd u n).testBit t) (2 ^ c)).testBit (u 2 s) = true) := by
  rintro ⟨h1, h2⟩
  obtain ⟨hs, hno⟩ := (bnd_bit u n s).mp hb
  have hcl := jcl_closed hu (q := fun t => !(2 ^ s).testBit t) (hu s hs).1
  generalize hD : jcl u n (fun t => !(2 ^ s).testBit t) (2 ^ u 1 s) = D at hno hcl
  have hDlt : D < 512 := by rw [← hD]; exact jcl_lt hu _ (p2_lt (hu s hs).1)
  have h1D : D.testBit (u 1 s) = true := by rw [← hD]; exact jcl_sub u n _ _ _ Nat.testBit_two_pow_self
  have hcl2 : ∀ t, t < n → (fun t => !(bnd u n).testBit t) t = true → (D.testBit (u 1 t) = true ↔ D.testBit (u 2 t) = true) := by
    intro t ht hq
    refine hcl t ht ?_
    have hne : ¬ s = t := by
      intro z
      subst z
      simp [hb] at hq
    simp [Nat.testBit_two_pow, hne]
  have one : ∀ {c D : Nat}, D.testBit c = true → sub (2 ^ c) D := by
    intro c D h i hi
    rw [Nat.testBit_two_pow] at hi
    have : c = i := by simpa using hi
    rw [← this]; exact h
  by_cases hcD : D.testBit c = true
  · have := jcl_in hcl2 (one hcD) _ h2
    rw [this] at hno
    cases hno
  · -- the other corners
    have hE : ∀ i, i < 9 → ((511 ^^^ D).testBit i = !D.testBit i) := by
      intro i hi
      rw [Nat.testBit_xor, show (511 : Nat) = 2 ^ 9 - 1 from rfl, Nat.testBit_two_pow_sub_one, decide_eq_true hi, Bool.true_xor]
    have hcl3 : ∀ t, t < n → (fun t => !(bnd u n).testBit t) t = true → ((511 ^^^ D).testBit (u 1 t) = true ↔ (511 ^^^ D).testBit (u 2 t) = true) := by
      intro t ht hq
      rw [hE _ (hu t ht).1, hE _ (hu t ht).2]
      have := hcl2 t ht hq
      cases e1 : D.testBit (u 1 t) <;> cases e2 : D.testBit (u 2 t) <;> simp [e1, e2] at this ⊢
    have := jcl_in hcl3 (one (by rw [hE c hc]; simp [hcD])) _ h1
    rw [hE _ (hu s hs).1, h1D] at this
    cases this
