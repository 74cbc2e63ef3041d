/-! asks -/
theorem RR.TW {v : Nat → Nat} {u : Nat → Nat → Nat} {tx : Nat → Txt} {MX MY : Mem} (h : RR v u tx MX MY) : TW 1 (v 3) (v 1) (v 6) (v 5) u (tx (v 6)) MX MY := by
  obtain ⟨hA, hB, hK, hS, hT, hTx, hH, hZ⟩ := h
  obtain ⟨⟨x0, x1, x2, x3, x4, x5, x6, x7⟩, -⟩ := hA
  obtain ⟨b0, b1, b2, b3, b4, b5, b6, b7, -⟩ := hB
  exact ⟨⟨by decide, b3, b1, b7, b6⟩, ⟨x1, x6, x5⟩, hS, hTx.1 (v 6) b7⟩
theorem RR.YW {v : Nat → Nat} {u : Nat → Nat → Nat} {tx : Nat → Txt} {MX MY : Mem} (h : RR v u tx MX MY) : YW (v 3) (v 1) (v 6) u (tx (v 6)) MX MY := by
  obtain ⟨hA, hB, hK, hS, hT, hTx, hH, hZ⟩ := h
  obtain ⟨-, ⟨y0, y1, y2, y3, y4, y5, y6, y7⟩⟩ := hA
  obtain ⟨b0, b1, b2, b3, b4, b5, b6, b7, -⟩ := hB
  exact ⟨⟨b3, b1, by omega⟩, ⟨y3, y1, y6⟩, hS, hTx.1 (v 6) b7⟩
theorem ix36b : ∀ s, s < 13 → ∀ l, l < 2 → ∀ c, c < 9 → ((s * 2 ^ 5) ||| (l * 2 ^ 4)) ||| (c % 2 ^ 4) = 32 * s + 16 * l + c := by decide +kernel
theorem x_minutes {M : Mem} {s l c k : Nat} (hs : s < 13) (hl : l < 2) (hc : c < 9) (h : M.1 36 (32 * s + 16 * l + c) = nI k) : FX7_minutes (nI s) (nI c) (nI l) M = some (nI k) := by
  unfold FX7_minutes
  have e : ((nI s <<< ((5 : Int32) &&& 31)) ||| (nI l <<< ((4 : Int32) &&& 31))) ||| (nI c &&& 15) = nI (32 * s + 16 * l + c) := by
    rw [show (5 : Int32) = nI 5 from rfl, show (4 : Int32) = nI 4 from rfl, z_shl _ (by decide), z_shl _ (by decide), pk_andN (by omega) 4 (by decide), z_or, z_or, ix36b s hs l hl c hc]
  rw [e, z_gi (by omega) (by decide), z_ix (by omega), h]
theorem x_open {M : Mem} {l c k : Nat} (hl : l < 2) (hc : c < 9) (h : M.1 35 (16 * l + c) = nI k) : FX7_open (nI c) (nI l) M = some (nI k) := by
  unfold FX7_open
  have e : (nI l <<< ((4 : Int32) &&& 31)) ||| (nI c &&& 15) = nI (16 * l + c) := by
    rw [show (4 : Int32) = nI 4 from rfl, z_shl _ (by decide), pk_andN (by omega) 4 (by decide), z_or, ix35 l hl c hc]
  rw [e, z_gi (by omega) (by decide), z_ix (by omega), h]
theorem eq_asks {MX MY : Mem} (h : Sim MX MY) (a b d : Int32) : ∃ r MX' MY', FX8_asks a b d MX = some (r, MX') ∧ FX9_asks a b d MY = some (r, MY') ∧ Sim MX' MY' := by
  obtain ⟨v, u, tx, hR⟩ := id h
  obtain ⟨hA, hB, hK, hS, hT, hTx, hH, hZ⟩ := id hR
  obtain ⟨⟨x0, x1, x2, x3, x4, x5, x6, x7⟩, ⟨y0, y1, y2, y3, y4, y5, y6, y7⟩⟩ := id hA
  have hn : v 3 ≤ 12 := hB.2.2.2.1
  unfold FX8_asks FX9_asks
  rw [x_isStreet x3, y_isStreet hn y3, z_ob]
  by_cases ha : 0 ≤ a ∧ a < nI (v 3)
  rotate_left
  · rw [if_neg ha]
    exact ⟨-5, MX, MY, rfl, rfl, h⟩
  obtain ⟨s, hs, rfl⟩ : ∃ s, s < v 3 ∧ a = nI s := by
    obtain ⟨j, hj, rfl⟩ := nI_of (Int32.not_lt.mpr ha.1)
    exact ⟨j, (z_lts (by omega) (by omega)).mp ha.2, rfl⟩
  obtain ⟨⟨p0, p1, p2, p3, p4⟩, ⟨q0, q1, q2, q3, q4⟩, ⟨b0, b1, b2, b3, b4, b5, b6⟩⟩ := id (hS s hs)
  simp only [if_pos ha, if_neg (show ¬ (1 : Int32) = 0 from by decide)]
  unfold FX3_endsAt
  simp (disch := omega) only [z_gi, z_ix, p1, p2, q1, q2]
  by_cases hb : b = nI (u 1 s) ∨ b = nI (u 2 s)
  rotate_left
  · have n1 : ¬ b = nI (u 1 s) := fun z => hb (Or.inl z)
    have n2 : ¬ b = nI (u 2 s) := fun z => hb (Or.inr z)
    have n3 : ¬ nI (u 1 s) = b := fun z => n1 z.symm
    have n4 : ¬ nI (u 2 s) = b := fun z => n2 z.symm
    refine ⟨-5, MX, MY, ?_, ?_, h⟩ <;> simp [n1, n2, n3, n4, z_ob]
  obtain ⟨c, hce, rfl⟩ : ∃ c, (c = u 1 s ∨ c = u 2 s) ∧ b = nI c := by
    rcases hb with rfl | rfl
    · exact ⟨_, Or.inl rfl, rfl⟩
    · exact ⟨_, Or.inr rfl, rfl⟩
  have hc : c < 9 := by rcases hce with rfl | rfl <;> assumption
  have e1 : (ob (if nI (u 1 s) = nI c then some true else if nI (u 2 s) = nI c then some true else some false) fun b2 => if b2 = true then some (1 : Int32) else some 0) = some 1 := by
    rcases hce with rfl | rfl
    · rw [if_pos rfl, z_ob]; rfl
    · by_cases e : nI (u 1 s) = nI (u 2 s)
      · rw [if_pos e, z_ob]; rfl
      · rw [if_neg e, if_pos rfl, z_ob]; rfl
  have e2 : (if nI c = nI (u 1 s) then some false else if nI c = nI (u 2 s) then some false else some true) = some false := by
    rcases hce with rfl | rfl
    · rw [if_pos rfl]
    · by_cases e : nI (u 2 s) = nI (u 1 s)
      · rw [if_pos e]
      · rw [if_neg e, if_pos rfl]
  rw [e1, e2, z_ob, z_ob, if_neg (by decide), z_ob, z_in]
  simp only [Bool.false_eq_true, if_false, z_lt, zrb]
  by_cases hd : 0 ≤ d ∧ d ≤ 3
  rotate_left
  · refine ⟨-7, MX, MY, ?_, ?_, h⟩ <;> simp [hd]
  rw [decide_eq_true hd, if_pos hd]
  obtain ⟨j, hj, rfl⟩ := zrange (n := 3) (by decide) hd
  obtain ⟨MX', l1, l2, l3, l4⟩ := x_lay hR.TW x0 x4 x2 x3
  have hQ : QX MX MX' := fun k hk => l2 k (by omega)
  have hZ' : RZ MX' := hZ.fr fun c h1 h2 => l2 c (by omega)
  simp only [Bool.not_true, Bool.false_eq_true, if_false, if_neg (show ¬ (1 : Int32) = 0 from by decide), l1, z_ob]
  have hl2 : j % 2 < 2 := Nat.mod_lt _ (by decide)
  have ex : nI j &&& 1 = nI (j % 2) := pk_andN (by omega) 1 (by decide)
  rw [ex]
  by_cases h2 : 2 ≤ j
  · have e3 : (if nI j = 3 then (1 : Int32) else 0) = nI (j % 2) := by
      rcases (show j = 2 ∨ j = 3 by omega) with rfl | rfl <;> rfl
    rw [if_pos (show 2 ≤ nI j from nI_le (a := 2) h2 (by omega)), if_pos (show 2 ≤ nI j from nI_le (a := 2) h2 (by omega)), e3]
    obtain ⟨MY', m1, m2⟩ := y_minutesOf hR.YW hs hc hl2
    rw [m1, z_ob, x_minutes (by omega) hl2 hc (l4 s (j % 2) c hs hl2 hce), z_ob]
    exact ⟨_, MX', MY', rfl, rfl, v, u, tx, hR.fr hQ hZ' ⟨fun k _ _ s _ => by rw [m2 k (by omega) (by omega)], fun k _ _ => m2 k (by omega) (by omega), fun j _ => by rw [m2 0 (by omega) (by omega)]⟩⟩
  · have e3 : (if nI j = 1 then (1 : Int32) else 0) = nI (j % 2) := by
      rcases (show j = 0 ∨ j = 1 by omega) with rfl | rfl <;> rfl
    have g : ¬ 2 ≤ nI j := nI_ge (b := 2) (by omega) (by decide)
    rw [if_neg g, if_neg g, e3]
    obtain ⟨MY', m1, m2⟩ := y_mayGo hR.YW hs hc hl2
    obtain ⟨-, -, t3, -⟩ := l3
    obtain ⟨m, hm⟩ : ∃ m, m = orB (v 3) (fun s => tkS u (tx (v 6)) (v 1) (j % 2) c s != 0) (fun s => 2 ^ s) := ⟨_, rfl⟩
    have hop : MX'.1 35 (16 * (j % 2) + c) = nI m := by rw [hm]; exact t3 (j % 2) c hl2 hc
    have hbt : m < 2 ^ 12 := by rw [hm]; exact orB_lt fun k hk _ => Nat.pow_lt_pow_right (by decide) (by omega)
    have hbit : m.testBit s = may u (tx (v 6)) (v 1) s c (j % 2) := by
      rw [hm, Bool.eq_iff_iff, orB_bit]
      have : (tkS u (tx (v 6)) (v 1) (j % 2) c s != 0) = may u (tx (v 6)) (v 1) s c (j % 2) := by
        rw [tk_ne]
        unfold opn
        rcases hce with rfl | rfl <;> simp
      constructor
      · rintro ⟨k, -, g1, g2⟩
        rw [Nat.testBit_two_pow] at g2
        have hk : k = s := by simpa using g2
        rw [hk, this] at g1
        exact g1
      · intro g1
        exact ⟨s, hs, by rw [this]; exact g1, Nat.testBit_two_pow_self⟩
    rw [m1, z_ob, x_open hl2 hc hop, z_ob, z_bit (by omega) (by omega), bt1_if, hbit]
    refine ⟨if may u (tx (v 6)) (v 1) s c (j % 2) = true then 1 else 0, MX', MY', ?_, ?_, v, u, tx, hR.fr hQ hZ' ⟨fun k _ _ s _ => by rw [m2 k (by omega) (by omega)], fun k _ _ => m2 k (by omega) (by omega), fun j _ => by rw [m2 0 (by omega) (by omega)]⟩⟩
    · by_cases g1 : may u (tx (v 6)) (v 1) s c (j % 2) = true
      · rw [if_pos g1, if_pos g1]; rfl
      · rw [if_neg g1, if_neg g1]; rfl
    · by_cases g1 : may u (tx (v 6)) (v 1) s c (j % 2) = true
      · rw [if_pos g1]; rfl
      · rw [if_neg g1]; rfl
