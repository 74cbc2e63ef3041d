/-! longs: shifts; a row without twice the same -/
theorem sa64 : ∀ y, y < 64 → (((nI y).toInt64 &&& 63).toBitVec.smod 64).toNat = y := by decide +kernel
theorem sb64 : ∀ y, y < 64 → (((nI y).toInt64.toUInt64 &&& Int64.toUInt64 63).toBitVec % 64).toNat = y := by decide +kernel
theorem l_shl (a : Nat) {y : Nat} (hy : y < 64) : jlshl (lN a) (nI y) = lN (a * 2 ^ y) := by
  apply Int64.toBitVec_inj.mp
  apply BitVec.eq_of_toNat_eq
  unfold jlshl
  rw [Int64.toBitVec_shiftLeft, BitVec.shiftLeft_eq', BitVec.toNat_shiftLeft, sa64 y hy, Nat.shiftLeft_eq]
  show (BitVec.ofNat 64 a).toNat * 2 ^ y % 2 ^ 64 = (BitVec.ofNat 64 (a * 2 ^ y)).toNat
  simp [BitVec.toNat_ofNat, Nat.mod_mul_mod]
theorem l_ushr {a y : Nat} (ha : a < 2 ^ 63) (hy : y < 64) : jlushr (lN a) (nI y) = lN (a / 2 ^ y) := by
  apply Int64.toBitVec_inj.mp
  apply BitVec.eq_of_toNat_eq
  have e : (jlushr (lN a) (nI y)).toBitVec = (lN a).toBitVec >>> (((nI y).toInt64.toUInt64 &&& Int64.toUInt64 63).toBitVec % 64) := rfl
  rw [e, BitVec.ushiftRight_eq', BitVec.toNat_ushiftRight, sb64 y hy, Nat.shiftRight_eq_div_pow, lN_nat (by omega), lN_nat (Nat.lt_of_le_of_lt (Nat.div_le_self _ _) (by omega))]
theorem wrL_at (M : Mem) (k j : Nat) (v : Int64) (k' j' : Nat) : (wrL M k j v).2 k' j' = if k' = k ∧ j' = j then v else M.2 k' j' := by
  unfold wrL setL vp_updL
  by_cases h : k' = k
  · subst h
    by_cases h2 : j' = j <;> simp [h2]
  · simp [h]
theorem nodup_le : ∀ (n : Nat) (Q : List Nat), Q.Nodup → (∀ m ∈ Q, m < n) → Q.length ≤ n
  | 0, Q, _, h => by
    cases Q with
    | nil => exact Nat.le_refl _
    | cons a r => exact absurd (h a List.mem_cons_self) (Nat.not_lt_zero a)
  | n + 1, Q, hd, h => by
    have h1 := nodup_le n (Q.erase n) (hd.erase n) (fun m hm => by
      have h2 := (hd.mem_erase_iff).mp hm
      have := h m h2.2
      omega)
    have h2 := List.length_erase (a := n) (l := Q)
    rw [h2] at h1
    split at h1 <;> omega
theorem getD_mem {Q : List Nat} {i : Nat} (h : i < Q.length) : Q.getD i 0 ∈ Q := by
  rw [List.getD_eq_getElem?_getD, List.getElem?_eq_getElem h]
  exact List.getElem_mem _
theorem mem_getD {Q : List Nat} {m : Nat} (h : m ∈ Q) : ∃ i, i < Q.length ∧ Q.getD i 0 = m := by
  obtain ⟨i, h1, h2⟩ := List.getElem_of_mem h
  exact ⟨i, h1, by rw [List.getD_eq_getElem?_getD, List.getElem?_eq_getElem h1]; exact h2⟩
theorem getD_app1 {Q : List Nat} {m i : Nat} (h : i < Q.length) : (Q ++ [m]).getD i 0 = Q.getD i 0 := by
  rw [List.getD_eq_getElem?_getD, List.getD_eq_getElem?_getD, List.getElem?_append_left h]
theorem getD_app2 {Q : List Nat} {m : Nat} : (Q ++ [m]).getD Q.length 0 = m := by
  rw [List.getD_eq_getElem?_getD, List.getElem?_append_right (Nat.le_refl _), Nat.sub_self]
  rfl
