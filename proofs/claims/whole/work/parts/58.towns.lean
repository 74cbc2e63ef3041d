/-! a ring's minutes and streets; the town of a class -/
theorem x_min {T : Twn} (hT : Twf T) {k d : Nat} {w : List Nat} (hp : Pre T k d 0 (T.1 0) w) {M : Mem} {m : Nat} (hm : m < 8192) (h : M.2 38 m = lN (Kw T k w)) : FX0_minutes (nI m) M = some (nI (tmE T k 0 (T.1 0) w)) := by
  have hK := Kw_lt hT hp
  have l1 := Pre_len hT hp
  have b1 := dg_lt (w := w) (j := 0) (fun t ht => Pre_in hT hp t ht) (by omega)
  unfold FX0_minutes
  rw [z_gi hm (by decide), z_ix (by omega), h, show (52 : Int32) = nI 52 from rfl, l_ushr hK (by decide), lN_i]
  congr 2
  unfold Kw
  rw [show (2 : Nat) ^ 52 = 16 ^ 13 from by decide, Nat.mul_comm, Nat.mul_add_div (Nat.pow_pos (by decide)), Nat.div_eq_of_lt b1, Nat.add_zero]
theorem x_streetAt {T : Twn} (hT : Twf T) {k d : Nat} {w : List Nat} (hp : Pre T k d 0 (T.1 0) w) {M : Mem} {m j : Nat} (hm : m < 8192) (h : M.2 38 m = lN (Kw T k w)) (hj : j < w.length) (hj2 : j ≤ 12) : FX0_streetAt (nI m) (nI j) M = some (nI (w.getD j 0)) := by
  have hK := Kw_lt hT hp
  have l1 := Pre_len hT hp
  unfold FX0_streetAt
  have e48 : (48 : Int32) - 4 * nI j = nI (48 - 4 * j) := by
    rw [show (4 : Int32) = nI 4 from rfl, show (48 : Int32) = nI 48 from rfl, pk_mul, z_sub (by omega)]
  rw [z_gi hm (by decide), z_ix (by omega), h, e48, l_ushr hK (by omega), lN_i]
  have hd := dg_at (w := w) (j := 0) (i := j) (fun t ht => Pre_in hT hp t ht) (by omega) hj
  rw [Nat.zero_add] at hd
  have e : Kw T k w / 2 ^ (48 - 4 * j) % 16 = w.getD j 0 := by
    rw [← hd, show (48 - 4 * j) = 4 * (12 - j) by omega, Nat.pow_mul, show (2 : Nat) ^ 4 = 16 from rfl]
    unfold Kw
    have e2 : tmE T k 0 (T.1 0) w * 16 ^ 13 = 16 ^ (12 - j) * (16 * (tmE T k 0 (T.1 0) w * 16 ^ j)) := by
      rw [show 13 = (12 - j) + (j + 1) by omega, Nat.pow_add, Nat.pow_succ, Nat.mul_left_comm, Nat.mul_comm (16 ^ j) 16, Nat.mul_left_comm _ 16]
    rw [e2, Nat.mul_add_div (Nat.pow_pos (by decide)), Nat.mul_add_mod]
  rw [nI_mod, pk_andN (Nat.mod_lt _ (by decide)) 4 (by decide)]
  congr 2
  rw [← e]
  exact Nat.mod_mod_of_dvd _ (by decide)
def TS (u : Nat → Nat → Nat) (x : Txt) (hr n hd been once : Nat) : Twn := ((fun j => if j = 0 then hd else if j = 1 then n else if j = 2 then been else once), (fun j => if j = 3 then spn u n else u j), tkS u x hr)
theorem TS_wf {u : Nat → Nat → Nat} {x : Txt} {hr n hd been once : Nat} {MX MY : Mem} (hS : RS n u MX MY) (hn : n ≤ 12) (h1 : hd < 9) (h2 : been < 2 ^ n) (h3 : once < 2) : Twf (TS u x hr n hd been once) := by
  refine ⟨⟨h1, show n ≤ 13 by omega, h2, h3⟩, fun s hs => ?_⟩
  have hs : s < n := hs
  obtain ⟨-, -, ⟨b0, b1, b2, b3, b4, b5, b6⟩⟩ := hS s hs
  refine ⟨⟨b1, b2, b3, spn_lt hs (Nat.le_refl n), spn_self u n s⟩, fun l c hl h => (tkS_at h).1, fun l c hl => ?_, fun c h => ?_⟩
  · show tkS u x hr l c s ≤ 99
    unfold tkS
    have := mn_b u x hr s c l
    split <;> omega
  · obtain ⟨g1, g2, -⟩ := tkS_at h
    show tkS u x hr 0 c s ≠ 0
    unfold tkS
    rw [if_pos]
    · have := mn_b u x hr s c 0
      omega
    · unfold opn
      rw [Bool.and_eq_true]
      refine ⟨by rcases g1 with h | h <;> simp [h], ?_⟩
      unfold may at g2 ⊢
      rw [Bool.and_eq_true] at g2 ⊢
      refine ⟨?_, g2.2⟩
      have g3 := g2.1
      unfold kok at g3 ⊢
      by_cases k1 : u 0 s = 1
      · rw [if_pos k1] at g3 ⊢; exact g3
      · rw [if_neg k1] at g3 ⊢
        by_cases k2 : u 0 s = 2
        · rw [if_pos k2]; rfl
        · rw [if_neg k2] at g3 ⊢; exact g3
