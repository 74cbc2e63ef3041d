/-! PARTS: corners joined, either way; bonds -/
theorem bt_nI (k i : Nat) (h : i < 32) : bt (nI k) i = k.testBit i := by
  show (BitVec.ofNat 32 k).getLsbD i = _
  rw [BitVec.getLsbD_ofNat, decide_eq_true h, Bool.true_and]
theorem and1_0 (x : Int32) : x &&& 1 = 0 ↔ bt x 0 = false := by
  have e1 : ∀ i, i < 32 → bt 1 i = decide (i = 0) := by decide +kernel
  constructor
  · intro h
    have h1 := congrArg (fun y => bt y 0) h
    simp only [b_and, b_0, e1 0 (by decide)] at h1
    simpa using h1
  · intro h
    refine b_ext fun i hi => ?_
    rw [b_and, b_0, e1 i hi]
    by_cases hi0 : i = 0
    · subst hi0; simp [h]
    · simp [hi0]
theorem and1_1 (x : Int32) : x &&& 1 = 1 ↔ bt x 0 = true := by
  have e1 : ∀ i, i < 32 → bt 1 i = decide (i = 0) := by decide +kernel
  constructor
  · intro h
    have h1 := congrArg (fun y => bt y 0) h
    simp only [b_and, e1 0 (by decide)] at h1
    simpa using h1
  · intro h
    refine b_ext fun i hi => ?_
    rw [b_and, e1 i hi]
    by_cases hi0 : i = 0
    · subst hi0; simp [h]
    · simp [hi0]
theorem z_nbit {b s : Nat} (hs : s < 31) : ((nI b ^^^ (-1)) >>> (nI s &&& 31)) &&& 1 = 0 ↔ b.testBit s = true := by
  rw [and1_0, b_sshr s (by omega) _ (by decide), if_pos (by omega), Nat.add_zero, b_xor, b_m1 s (by omega), bt_nI _ _ (by omega)]
  cases b.testBit s <;> simp
-- passes over the streets
def jpass (u : Nat → Nat → Nat) (q : Nat → Bool) : Nat → Nat → Nat
  | 0, S => S
  | k + 1, S => if q k && ((jpass u q k S).testBit (u 1 k) || (jpass u q k S).testBit (u 2 k)) then jpass u q k S ||| (2 ^ u 1 k ||| 2 ^ u 2 k) else jpass u q k S
def itr {α : Type} : Nat → (α → α) → α → α
  | 0, _, x => x
  | k + 1, f, x => itr k f (f x)
theorem itr_s {α : Type} : ∀ (k : Nat) (f : α → α) (x : α), itr (k + 1) f x = f (itr k f x)
  | 0, _, _ => rfl
  | k + 1, f, x => itr_s k f (f x)
def sub (a b : Nat) : Prop := ∀ i, a.testBit i = true → b.testBit i = true
theorem sub_rf (a : Nat) : sub a a := fun _ h => h
theorem sub_tr {a b c : Nat} (h : sub a b) (h2 : sub b c) : sub a c := fun i hi => h2 i (h i hi)
theorem sub_or (a b : Nat) : sub a (a ||| b) := fun i h => by rw [Nat.testBit_or, h]; rfl
theorem jpass_sub (u : Nat → Nat → Nat) (q : Nat → Bool) : ∀ (k S : Nat), sub S (jpass u q k S)
  | 0, S => sub_rf S
  | k + 1, S => by
    rw [jpass]
    split
    · exact sub_tr (jpass_sub u q k S) (sub_or _ _)
    · exact jpass_sub u q k S
theorem jpass_lt {n : Nat} {u : Nat → Nat → Nat} (hu : ∀ s, s < n → u 1 s < 9 ∧ u 2 s < 9) (q : Nat → Bool) : ∀ (k S : Nat), k ≤ n → S < 512 → jpass u q k S < 512
  | 0, S, _, h => h
  | k + 1, S, hk, h => by
    have ih := jpass_lt hu q k S (by omega) h
    obtain ⟨h1, h2⟩ := hu k (by omega)
    have p1 : 2 ^ u 1 k < 2 ^ 9 := Nat.pow_lt_pow_right (by decide) h1
    have p2 : 2 ^ u 2 k < 2 ^ 9 := Nat.pow_lt_pow_right (by decide) h2
    rw [jpass]
    split
    · exact Nat.or_lt_two_pow (n := 9) ih (Nat.or_lt_two_pow p1 p2)
    · exact ih
theorem x_joL16 {n : Nat} {u : Nat → Nat → Nat} {MX MY : Mem} (h : RS n u MX MY) (hn : n ≤ 12) {P : Int32} {q : Nat → Bool} (hq : ∀ t, t < 12 → ((P >>> (nI t &&& 31)) &&& 1 = 0 ↔ q t = false)) {S : Nat} (hS : S < 512) : ∀ (k i f : Nat), i + k = n → k < f →
    FX3_joined_L16 f P (nI n) (nI (jpass u q i S)) (nI i) MX = some (nI (jpass u q n S)) := by
  intro k
  induction k with
  | zero =>
    intro i f hi hf
    obtain ⟨f, rfl⟩ : ∃ g, f = g + 1 := ⟨f - 1, by omega⟩
    have : i = n := by omega
    subst this
    rw [FX3_joined_L16, if_pos (Int32.le_refl _)]
  | succ k ih =>
    intro i f hi hf
    obtain ⟨f, rfl⟩ : ∃ g, f = g + 1 := ⟨f - 1, by omega⟩
    obtain ⟨⟨y0, y1, y2, y3, y4⟩, -, ⟨b0, b1, b2, b3, b4, b5, b6⟩⟩ := h i (by omega)
    have ihh := ih (i + 1) f (by omega) (by omega)
    have hlt := jpass_lt (u := u) (fun s hs => ⟨(h s hs).2.2.2.1, (h s hs).2.2.2.2.1⟩) q i S (by omega) hS
    rw [jpass] at ihh
    have g1 : ¬ nI n ≤ nI i := nI_ge (by omega) (by omega)
    rw [FX3_joined_L16]
    simp (disch := omega) only [g1, if_false, z_lt, z_gi, z_ix, y1, y2, z_bit2, hq i (by omega), nI_1, z_shl1, z_or]
    cases e1 : (jpass u q i S).testBit (u 1 i) <;> cases e2 : (jpass u q i S).testBit (u 2 i) <;> cases e3 : q i <;> simp [e1, e2, e3] at ihh ⊢ <;> exact ihh
theorem x_joL6 {n : Nat} {u : Nat → Nat → Nat} {MX MY : Mem} (h : RS n u MX MY) (hn : n ≤ 12) {P : Int32} {q : Nat → Bool} (hq : ∀ t, t < 12 → ((P >>> (nI t &&& 31)) &&& 1 = 0 ↔ q t = false)) : ∀ (k i f S : Nat), i + k = 9 → k < f → S < 512 →
    FX3_joined_L6 f P (nI n) (nI S) (nI i) MX = some (nI (itr k (jpass u q n) S)) := by
  intro k
  induction k with
  | zero =>
    intro i f S hi hf hS
    obtain ⟨f, rfl⟩ : ∃ g, f = g + 1 := ⟨f - 1, by omega⟩
    have : i = 9 := by omega
    subst this
    rw [FX3_joined_L6, if_pos (by decide)]
    rfl
  | succ k ih =>
    intro i f S hi hf hS
    obtain ⟨f, rfl⟩ : ∃ g, f = g + 1 := ⟨f - 1, by omega⟩
    have hlt := jpass_lt (u := u) (fun s hs => ⟨(h s hs).2.2.2.1, (h s hs).2.2.2.2.1⟩) q n S (by omega) hS
    have ihh := ih (i + 1) f (jpass u q n S) (by omega) (by omega) hlt
    have g1 : ¬ 9 ≤ nI i := nI_ge (b := 9) (by omega) (by decide)
    have e := x_joL16 h hn hq hS n 0 FU (by omega) (by rw [z_FU]; omega)
    rw [show jpass u q 0 S = S from rfl] at e
    rw [FX3_joined_L6, if_neg g1, show (0 : Int32) = nI 0 from rfl, e, z_ob]
    simp only [z_lt, nI_1]
    exact ihh
theorem x_joined {n : Nat} {u : Nat → Nat → Nat} {MX MY : Mem} (h : RS n u MX MY) (hn : n ≤ 12) {P : Int32} {q : Nat → Bool} (hq : ∀ t, t < 12 → ((P >>> (nI t &&& 31)) &&& 1 = 0 ↔ q t = false)) {S : Nat} (hS : S < 512) : FX3_joined (nI S) P (nI n) MX = some (nI (itr 8 (jpass u q n) S)) := by
  unfold FX3_joined
  rw [show (1 : Int32) = nI 1 from rfl, x_joL6 h hn hq 8 1 FU S (by omega) (by rw [z_FU]; omega) hS, z_ob]
theorem y_joL17 {n : Nat} {u : Nat → Nat → Nat} {MX MY : Mem} (h : RS n u MX MY) (hn : n ≤ 12) (hy : MY.1 0 3 = nI n) {B : Nat} (hB : B < 4096) {S : Nat} (hS : S < 512) : ∀ (k i f : Nat), i + k = n → k < f →
    FX9_joinedTo_L17 f (nI B) (nI (jpass u (fun t => !B.testBit t) i S)) (nI i) MY = some (nI (jpass u (fun t => !B.testBit t) n S)) := by
  intro k
  induction k with
  | zero =>
    intro i f hi hf
    obtain ⟨f, rfl⟩ : ∃ g, f = g + 1 := ⟨f - 1, by omega⟩
    have : i = n := by omega
    subst this
    rw [FX9_joinedTo_L17, hy, if_pos (Int32.le_refl _)]
  | succ k ih =>
    intro i f hi hf
    obtain ⟨f, rfl⟩ : ∃ g, f = g + 1 := ⟨f - 1, by omega⟩
    obtain ⟨-, ⟨y0, y1, y2, y3, y4⟩, ⟨b0, b1, b2, b3, b4, b5, b6⟩⟩ := h i (by omega)
    have ihh := ih (i + 1) f (by omega) (by omega)
    have hlt := jpass_lt (u := u) (fun s hs => ⟨(h s hs).2.2.2.1, (h s hs).2.2.2.2.1⟩) (fun t => !B.testBit t) i S (by omega) hS
    rw [jpass] at ihh
    have g1 : ¬ nI n ≤ nI i := nI_ge (by omega) (by omega)
    have e1' : ∀ c : Nat, c < 512 → (((nI c >>> (nI (u 1 i) &&& 31)) ||| (nI c >>> (nI (u 2 i) &&& 31))) &&& 1 = 1 ↔ (c.testBit (u 1 i) || c.testBit (u 2 i)) = true) := by
      intro c hc
      rw [and1_1, b_or, b_sshr _ (by omega) _ (by decide), b_sshr _ (by omega) _ (by decide), if_pos (by omega), if_pos (by omega), bt_nI _ _ (by omega), bt_nI _ _ (by omega), Nat.add_zero, Nat.add_zero]
    rw [FX9_joinedTo_L17, hy]
    simp (disch := omega) only [g1, if_false, z_lt, z_gi, z_ix, y1, y2, z_b0, e1' _ hlt, nI_1, z_shl1, z_or]
    cases e3 : B.testBit i
    · cases e1 : (jpass u (fun t => !B.testBit t) i S).testBit (u 1 i) <;> cases e2 : (jpass u (fun t => !B.testBit t) i S).testBit (u 2 i) <;> simp [e1, e2, e3, z_ob] at ihh ⊢
      · exact ihh
      · rw [z_or]; exact ihh
      · rw [z_or]; exact ihh
      · rw [z_or]; exact ihh
    · simp [e3, z_ob] at ihh ⊢
      exact ihh
theorem y_joL7 {n : Nat} {u : Nat → Nat → Nat} {MX MY : Mem} (h : RS n u MX MY) (hn : n ≤ 12) (hy : MY.1 0 3 = nI n) {B : Nat} (hB : B < 4096) : ∀ (k i f S : Nat), i + k = 9 → k < f → S < 512 →
    FX9_joinedTo_L7 f (nI B) (nI S) (nI i) MY = some (nI (itr k (jpass u (fun t => !B.testBit t) n) S)) := by
  intro k
  induction k with
  | zero =>
    intro i f S hi hf hS
    obtain ⟨f, rfl⟩ : ∃ g, f = g + 1 := ⟨f - 1, by omega⟩
    have : i = 9 := by omega
    subst this
    rw [FX9_joinedTo_L7, if_pos (by decide)]
    rfl
  | succ k ih =>
    intro i f S hi hf hS
    obtain ⟨f, rfl⟩ : ∃ g, f = g + 1 := ⟨f - 1, by omega⟩
    have hlt := jpass_lt (u := u) (fun s hs => ⟨(h s hs).2.2.2.1, (h s hs).2.2.2.2.1⟩) (fun t => !B.testBit t) n S (by omega) hS
    have ihh := ih (i + 1) f (jpass u (fun t => !B.testBit t) n S) (by omega) (by omega) hlt
    have g1 : ¬ 9 ≤ nI i := nI_ge (b := 9) (by omega) (by decide)
    have e := y_joL17 h hn hy hB hS n 0 FU (by omega) (by rw [z_FU]; omega)
    rw [show jpass u (fun t => !B.testBit t) 0 S = S from rfl] at e
    rw [FX9_joinedTo_L7, if_neg g1, show (0 : Int32) = nI 0 from rfl, e, z_ob]
    simp only [z_lt, nI_1]
    exact ihh
theorem y_joinedTo {n : Nat} {u : Nat → Nat → Nat} {MX MY : Mem} (h : RS n u MX MY) (hn : n ≤ 12) (hy : MY.1 0 3 = nI n) {B : Nat} (hB : B < 4096) {c : Nat} (hc : c < 9) : FX9_joinedTo (nI c) (nI B) MY = some (nI (itr 9 (jpass u (fun t => !B.testBit t) n) (2 ^ c))) := by
  unfold FX9_joinedTo
  rw [z_lt, z_shl1 (by omega), show (0 : Int32) = nI 0 from rfl, y_joL7 h hn hy hB 9 0 FU (2 ^ c) (by omega) (by rw [z_FU]; omega) (Nat.pow_lt_pow_right (by decide) hc), z_ob]
-- what grows inside of nine corners stands still after eight steps
theorem ct_lt {p q : Nat → Bool} : ∀ {n : Nat}, (∀ k, k < n → p k = true → q k = true) → (∃ i, i < n ∧ q i = true ∧ p i = false) → fb_ct p n < fb_ct q n
  | 0, _, ⟨i, h, _⟩ => absurd h (Nat.not_lt_zero i)
  | n + 1, h, ⟨i, hi, h1, h2⟩ => by
    rw [fb_ct_succ, fb_ct_succ]
    have hle := fb_ct_sub (p := p) (q := q) (n := n) (fun k hk => h k (by omega))
    by_cases hin : i = n
    · subst hin
      rw [h1, h2]
      simp
      omega
    · have := ct_lt (p := p) (q := q) (n := n) (fun k hk => h k (by omega)) ⟨i, by omega, h1, h2⟩
      have hn := h n (by omega)
      by_cases hp : p n = true
      · rw [hp, hn hp]
        simp
        omega
      · simp [hp]
        omega
theorem ne_bit {a b : Nat} (ha : a < 512) (hb : b < 512) (h : sub a b) (hne : b ≠ a) : ∃ i, i < 9 ∧ b.testBit i = true ∧ a.testBit i = false := by
  by_cases hex : ∃ i, i < 9 ∧ b.testBit i = true ∧ a.testBit i = false
  · exact hex
  · exfalso
    apply hne
    apply Nat.eq_of_testBit_eq
    intro i
    by_cases hi : i < 9
    · cases e1 : a.testBit i
      · cases e2 : b.testBit i
        · rfl
        · exact absurd ⟨i, hi, e2, e1⟩ hex
      · exact h i e1
    · rw [Nat.testBit_lt_two_pow (Nat.lt_of_lt_of_le ha (Nat.pow_le_pow_right (n := 2) (by decide) (show 9 ≤ i by omega))), Nat.testBit_lt_two_pow (Nat.lt_of_lt_of_le hb (Nat.pow_le_pow_right (n := 2) (by decide) (show 9 ≤ i by omega)))]
theorem still {f : Nat → Nat} (h1 : ∀ S, S < 512 → sub S (f S)) (h2 : ∀ S, S < 512 → f S < 512) {S : Nat} (hS : S < 512) (h0 : ∃ i, i < 9 ∧ S.testBit i = true) : f (itr 8 f S) = itr 8 f S := by
  have hlt : ∀ k, itr k f S < 512 := by
    intro k
    induction k with
    | zero => exact hS
    | succ k ih => rw [itr_s]; exact h2 _ ih
  have key : ∀ k, f (itr k f S) = itr k f S ∨ k + 1 ≤ fb_ct (fun i => (itr k f S).testBit i) 9 := by
    intro k
    induction k with
    | zero =>
      right
      obtain ⟨i, hi, h⟩ := h0
      exact fb_ct_pos.mpr ⟨i, hi, h⟩
    | succ k ih =>
      rcases ih with h | h
      · left
        rw [itr_s, h, h]
      · by_cases hf : f (itr k f S) = itr k f S
        · left
          rw [itr_s, hf, hf]
        · right
          have := ct_lt (p := fun i => (itr k f S).testBit i) (q := fun i => (itr (k + 1) f S).testBit i) (n := 9) (fun i _ hi => by rw [itr_s]; exact h1 _ (hlt k) i hi) (by rw [itr_s]; exact ne_bit (hlt k) (h2 _ (hlt k)) (h1 _ (hlt k)) hf)
          omega
  rcases key 8 with h | h
  · exact h
  · have hall : ∀ i, i < 9 → (itr 8 f S).testBit i = true := fb_ct_all.mp (Nat.le_antisymm (fb_ct_le _ _) (by omega))
    by_cases hf : f (itr 8 f S) = itr 8 f S
    · exact hf
    · obtain ⟨i, hi, -, h3⟩ := ne_bit (hlt 8) (h2 _ (hlt 8)) (h1 _ (hlt 8)) hf
      rw [hall i hi] at h3
      cases h3
theorem itr_9 {f : Nat → Nat} (h1 : ∀ S, S < 512 → sub S (f S)) (h2 : ∀ S, S < 512 → f S < 512) {S : Nat} (hS : S < 512) (h0 : ∃ i, i < 9 ∧ S.testBit i = true) : itr 9 f S = itr 8 f S := by
  rw [itr_s, still h1 h2 hS h0]
/-- the corners joined with some by some streets -/
def jcl (u : Nat → Nat → Nat) (n : Nat) (q : Nat → Bool) (S : Nat) : Nat := itr 8 (jpass u q n) S
theorem jpass_cong {u : Nat → Nat → Nat} {q q' : Nat → Bool} : ∀ {k S : Nat}, (∀ t, t < k → q t = q' t) → jpass u q k S = jpass u q' k S
  | 0, _, _ => rfl
  | k + 1, S, h => by rw [jpass, jpass, jpass_cong (fun t ht => h t (by omega)), h k (by omega)]
theorem jcl_cong {u : Nat → Nat → Nat} {n : Nat} {q q' : Nat → Bool} {S : Nat} (h : ∀ t, t < n → q t = q' t) : jcl u n q S = jcl u n q' S := by
  unfold jcl
  congr 1
  funext S
  exact jpass_cong h
