/-! NUMBERS of the printed functions: ints that are small naturals -/
theorem z_lt {α β : Type} (x : α) (f : α → β) : lt x f = f x := rfl
theorem z_ob {α β : Type} (x : α) (f : α → Option β) : ob (some x) f = f x := rfl
theorem z_obn {α β : Type} (f : α → Option β) : ob (none : Option α) f = none := rfl
theorem z_gd {α : Type} {c : Prop} [Decidable c] (h : c) (x : Option α) : gd c x = x := if_pos h
theorem z_giI {α : Type} {i : Int32} {n : Nat} (h : vp_in i n) (x : Option α) : gi i n x = x := if_neg h
theorem z_gi {α : Type} {a n : Nat} (h : a < n) (hn : n < 2147483648) (x : Option α) : gi (nI a) n x = x := z_giI (vp_in_nI h hn) x
theorem z_ix {a : Nat} (h : a < 2147483648) : (nI a).toNatClampNeg = a := nI_clamp h
theorem z_le {a b : Nat} (ha : a < 2147483648) (hb : b < 2147483648) : nI a ≤ nI b ↔ a ≤ b := nI_leI ha hb
theorem z_lts {a b : Nat} (ha : a < 2147483648) (hb : b < 2147483648) : nI a < nI b ↔ a < b := nI_ltI ha hb
theorem z_eq {a b : Nat} (ha : a < 2147483648) (hb : b < 2147483648) : nI a = nI b ↔ a = b := nI_eq ha hb
theorem z_m1 {a : Nat} (ha : a < 2147483648) : ¬ nI a = -1 := by
  intro h
  have h1 := congrArg Int32.toInt h
  rw [nI_toInt (by omega)] at h1
  have h2 : (-1 : Int32).toInt = -1 := rfl
  omega
theorem z_m1' {a : Nat} (ha : a < 2147483648) : ¬ (-1 : Int32) = nI a := fun h => z_m1 ha h.symm
theorem z_neg {a : Nat} (ha : a < 2147483648) : ¬ nI a < 0 := nI_pos ha
theorem z_pos {a : Nat} (ha : a < 2147483648) : (0 : Int32) ≤ nI a := nI_pos' ha
theorem z_or (a b : Nat) : nI a ||| nI b = nI (a ||| b) := fa_or a b
theorem z_and (a b : Nat) : nI a &&& nI b = nI (a &&& b) := fa_and a b
theorem z_xor (a b : Nat) : nI a ^^^ nI b = nI (a ^^^ b) := fb_xorI a b
theorem z_31 {s : Nat} (h : s < 32) : nI s &&& 31 = nI s := by
  rw [pk_andN (by omega) 5 (by decide), Nat.mod_eq_of_lt (by omega)]
theorem z_shl (a : Nat) {s : Nat} (h : s < 32) : nI a <<< (nI s &&& 31) = nI (a * 2 ^ s) := by
  apply Int32.toBitVec_inj.mp
  apply BitVec.eq_of_toNat_eq
  rw [pk_shl (nI a) (nI s &&& 31) s (s_l s h)]
  show (BitVec.ofNat 32 a).toNat * 2 ^ s % 2 ^ 32 = (BitVec.ofNat 32 (a * 2 ^ s)).toNat
  simp [BitVec.toNat_ofNat, Nat.mod_mul_mod]
theorem z_shl1 {s : Nat} (h : s < 32) : (1 : Int32) <<< (nI s &&& 31) = nI (2 ^ s) := by
  have := z_shl 1 h
  rw [Nat.one_mul] at this
  exact this
theorem z_shr {a s : Nat} (ha : a < 2147483648) (h : s < 32) : nI a >>> (nI s &&& 31) = nI (a / 2 ^ s) := by
  have h1 : (nI a >>> (nI s &&& 31)).toInt = ((nI (a / 2 ^ s)).toInt) := by
    rw [pk_shr (nI a) (nI s &&& 31) s (s_l s h), nI_toInt (by omega), nI_toInt (Nat.lt_of_le_of_lt (Nat.div_le_self _ _) (by omega))]
    rw [Int.shiftRight_eq_div_pow]
    norm_cast
  exact Int32.toInt_inj.mp h1
def bt1 (m s : Nat) : Nat := if m.testBit s then 1 else 0
theorem z_bit {m s : Nat} (hm : m < 2147483648) (h : s < 32) : (nI m >>> (nI s &&& 31)) &&& 1 = nI (bt1 m s) := by
  rw [z_shr hm h]
  show nI (m / 2 ^ s) &&& nI 1 = _
  rw [z_and]
  congr 1
  unfold bt1
  rw [Nat.testBit_eq_decide_div_mod_eq, Nat.and_one_is_mod]
  have : m / 2 ^ s % 2 < 2 := Nat.mod_lt _ (by decide)
  by_cases hc : m / 2 ^ s % 2 = 1
  · simp [hc]
  · simp [hc]; omega
theorem bt1_lt (m s : Nat) : bt1 m s < 2 := by unfold bt1; split <;> omega
theorem bt1_1 (m s : Nat) : bt1 m s = 1 ↔ m.testBit s = true := by unfold bt1; split <;> simp_all
theorem bt1_0 (m s : Nat) : bt1 m s = 0 ↔ m.testBit s = false := by unfold bt1; split <;> simp_all
theorem z_b1 {m s : Nat} (hm : m < 2147483648) (h : s < 32) : (nI m >>> (nI s &&& 31)) &&& 1 = 1 ↔ m.testBit s = true := by
  rw [z_bit hm h]
  show nI _ = nI 1 ↔ _
  have := bt1_lt m s
  rw [z_eq (by omega) (by omega), bt1_1]
theorem z_b0 {m s : Nat} (hm : m < 2147483648) (h : s < 32) : (nI m >>> (nI s &&& 31)) &&& 1 = 0 ↔ m.testBit s = false := by
  rw [z_bit hm h]
  show nI _ = nI 0 ↔ _
  have := bt1_lt m s
  rw [z_eq (by omega) (by omega), bt1_0]
/-- a without b -/
def ndf (a b : Nat) : Nat := a ^^^ (a &&& b)
theorem ndf_bit (a b i : Nat) : (ndf a b).testBit i = (a.testBit i && !b.testBit i) := by
  unfold ndf
  rw [Nat.testBit_xor, Nat.testBit_and]
  cases a.testBit i <;> cases b.testBit i <;> rfl
theorem z_not (a b : Nat) : nI a &&& (nI b ^^^ (-1)) = nI (ndf a b) := by
  unfold ndf
  rw [← z_xor, ← z_and]
  refine b_ext fun i hi => ?_
  rw [b_and, b_xor, b_m1 i hi, b_xor, b_and]
  cases bt (nI a) i <;> cases bt (nI b) i <;> rfl
theorem z_p2 {s : Nat} (h : s < 31) : 2 ^ s < 2147483648 := Nat.pow_lt_pow_right (by decide) h
theorem z_sub {a b : Nat} (h : b ≤ a) : nI a - nI b = nI (a - b) := pk_sub h
/-- an int is a small natural, or out of a range -/
theorem z_cls (a : Int32) (n : Nat) (hn : n < 2147483648) : (∃ k, k < n ∧ a = nI k) ∨ (a < 0 ∨ nI n ≤ a) := by
  rcases pk_ix a (n := n) (by omega) with h | h | ⟨j, h1, h2⟩
  · exact Or.inr (Or.inl h)
  · exact Or.inr (Or.inr h)
  · exact Or.inl ⟨j, h1, h2⟩
theorem z_in (a lo hi : Int32) : FX9_in a lo hi = if lo ≤ a ∧ a ≤ hi then 1 else 0 := by
  unfold FX9_in
  simp only [z_lt]
  by_cases h1 : a < lo
  · have : ¬ lo ≤ a := Int32.not_le.mpr h1
    simp [h1, this]
  · have h2 : lo ≤ a := Int32.not_lt.mp h1
    by_cases h3 : hi < a
    · have : ¬ a ≤ hi := Int32.not_le.mpr h3
      simp [h1, h3, this]
    · have : a ≤ hi := Int32.not_lt.mp h3
      simp [h1, h2, h3, this]
theorem z_in1 {a lo hi : Int32} (h : lo ≤ a ∧ a ≤ hi) : FX9_in a lo hi = 1 := by rw [z_in, if_pos h]
theorem z_in0 {a lo hi : Int32} (h : ¬ (lo ≤ a ∧ a ≤ hi)) : FX9_in a lo hi = 0 := by rw [z_in, if_neg h]
theorem z_inN {a lo hi : Nat} (ha : a < 2147483648) (hl : lo < 2147483648) (hh : hi < 2147483648) : FX9_in (nI a) (nI lo) (nI hi) = if lo ≤ a ∧ a ≤ hi then 1 else 0 := by
  simp only [z_in, z_le hl ha, z_le ha hh]
-- a memory's cells behind a write
theorem wr_at (M : Mem) (k j : Nat) (v : Int32) (k' j' : Nat) : (wr M k j v).1 k' j' = if k' = k ∧ j' = j then v else M.1 k' j' := by
  unfold wr setC upd
  by_cases h : k' = k
  · subst h
    by_cases h2 : j' = j <;> simp [h2]
  · simp [h]
theorem wr_cell (M : Mem) {k j : Nat} (v : Int32) {k' : Nat} (h : k' ≠ k) : (wr M k j v).1 k' = M.1 k' := setC_ne M _ h
theorem wr_own (M : Mem) (k j : Nat) (v : Int32) : (wr M k j v).1 k = upd (M.1 k) j v := setC_eq M k _
theorem wr_2 (M : Mem) (k j : Nat) (v : Int32) : (wr M k j v).2 = M.2 := rfl
theorem wrL_1 (M : Mem) (k j : Nat) (v : Int64) : (wrL M k j v).1 = M.1 := rfl
theorem z_FU : FU = 100000 := rfl
