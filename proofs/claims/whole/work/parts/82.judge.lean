/-! judge, walk -/
theorem x_across {T : Twn} (hT : Twf T) {A : Mem} (hX : XTw T A) {s c : Nat} (hs : s < T.1 1) (hc : c < 9) : FX7_across (nI s) (nI c) A = some (nI (ot T s c)) := by
  have hN := hT.1.2.1
  obtain ⟨x1, x2, x3⟩ := hX.2.1 s hs
  obtain ⟨⟨d1, d2, -⟩, -⟩ := hT.2 s hs
  unfold FX7_across ot
  rw [z_gi (by omega) (by decide), z_ix (by omega), x1, x2]
  simp (disch := omega) only [z_eq, z_gi]
  by_cases h1 : c = T.2.1 1 s
  · rw [if_pos h1, if_pos h1.symm]
  · rw [if_neg h1, if_neg (fun z => h1 z.symm)]
theorem x_ends {T : Twn} (hT : Twf T) {m c t : Nat} {A B : Mem} (h : WR T m c t A B) {s : Nat} (hs : s < T.1 1) : FX7_ends (A.1 42 0) (nI s) A = some (if T.1 3 ≠ 0 ∧ ot T s c = T.1 0 then 1 else 0) := by
  have hat := w_at hT h
  unfold FX4_corner at hat
  have hX := h.2.2.1
  have hc9 := h.1.1.2.1
  have ho := ot_lt hT hs c
  have ho2 := hT.1.2.2.2
  have hd9 := hT.1.1
  unfold FX7_ends
  rw [hat, hX.1.2.2.2, hX.1.1, x_across hT hX hs hc9, if_congr_prop (show nI (T.1 3) = 0 ↔ T.1 3 = 0 from z_eq (b := 0) (by omega) (by decide)), z_ob, if_congr_prop (show nI (ot T s c) = nI (T.1 0) ↔ ot T s c = T.1 0 from z_eq (by omega) (by omega))]
  by_cases h1 : T.1 3 = 0
  · rw [if_pos h1, z_ob, if_neg nft, if_neg (fun z => z.1 h1)]
  · rw [if_neg h1]
    by_cases h2 : ot T s c = T.1 0
    · rw [if_pos h2, z_ob, if_pos rfl, if_pos ⟨h1, h2⟩]
    · rw [if_neg h2, z_ob, if_neg nft, if_neg (fun z => h2 z.2)]
theorem eq_foL {v : Nat → Nat} {u : Nat → Nat → Nat} {tx : Nat → Txt} {T : Twn} (hTe : T = TS u (tx (v 6)) (v 1) (v 3) (v 0) (v 4) (v 2)) (hT : Twf T) {s0 : Nat} (hs0 : s0 < 4) : ∀ (k i f f' m c t : Nat) (A B : Mem), i + k = u 6 s0 → k < f → k < f' → RR v u tx A B → WR T m c t A B →
    ∃ A' B' m' c' t', RR v u tx A' B' ∧ WR T m' c' t' A' B' ∧ ((∃ e, e < u 6 s0 ∧ FX8_follow_L32 f (44 + s0) (nI i) A = some (.inl (nI e, A')) ∧ (FX9_follows_L6 f' (nI s0) (nI i) B = some (.inl (nI e, B')) ∨ FX9_follows_L6 f' (nI s0) (nI i) B = some (.inr (nI e, B')))) ∨ (FX8_follow_L32 f (44 + s0) (nI i) A = some (.inr A') ∧ FX9_follows_L6 f' (nI s0) (nI i) B = some (.inr (nI (u 6 s0), B')))) := by
  have hT1 : T.1 1 = v 3 := by rw [hTe]; rfl
  have g4 : ∀ {α : Type} (z : Option α), gi (nI s0) 4 z = z := fun z => z_gi (by omega) (by decide) z
  have is0 : Int32.toNatClampNeg (nI s0) = s0 := z_ix (by omega)
  intro k
  induction k with
  | zero =>
    intro i f f' m c t A B hi hf hf' hR hW
    obtain ⟨f, rfl⟩ : ∃ g, f = g + 1 := ⟨f - 1, by omega⟩
    obtain ⟨f', rfl⟩ : ∃ g, f' = g + 1 := ⟨f' - 1, by omega⟩
    obtain ⟨-, ⟨h1, h2, h3⟩, -⟩ := hR.2.2.2.2.2.2.1 s0 hs0
    have : i = u 6 s0 := by omega
    subst this
    refine ⟨A, B, m, c, t, hR, hW, Or.inr ⟨?_, ?_⟩⟩
    · rw [FX8_follow_L32, h1, if_pos (Int32.le_refl _)]
    · rw [FX9_follows_L6, g4, is0, h2, if_pos (Int32.le_refl _), z_ob, if_neg nft]
  | succ k ih =>
    intro i f f' m c t A B hi hf hf' hR hW
    obtain ⟨f, rfl⟩ : ∃ g, f = g + 1 := ⟨f - 1, by omega⟩
    obtain ⟨f', rfl⟩ : ∃ g, f' = g + 1 := ⟨f' - 1, by omega⟩
    obtain ⟨-, ⟨h1, h2, h3⟩, h4⟩ := hR.2.2.2.2.2.2.1 s0 hs0
    have hn := hR.2.1.2.2.2.1
    have hN : T.1 1 ≤ 12 := by omega
    have hin : i < u 6 s0 := by omega
    obtain ⟨x, hx⟩ : ∃ x, x = B.1 11 (40 * s0 + i) := ⟨_, rfl⟩
    have e4 := h4 i (by omega)
    rw [← hx] at e4
    have e40 : 40 * nI s0 + nI i = nI (40 * s0 + i) := by rw [show (40 : Int32) = nI 40 from rfl, pk_mul, nI_add]
    have g160 : ∀ {α : Type} (z : Option α), gi (nI (40 * s0 + i)) 160 z = z := fun z => z_gi (by omega) (by decide) z
    have i160 : Int32.toNatClampNeg (nI (40 * s0 + i)) = 40 * s0 + i := z_ix (by omega)
    have y3 : B.1 0 3 = nI (T.1 1) := by rw [hT1]; exact hR.1.2.2.2.2.1
    have x3 : A.1 1 4 = nI (v 3) := hR.1.1.2.2.2.1
    have hsz : nI (u 6 s0) - 1 = nI (u 6 s0 - 1) := z_sub1 (by omega)
    rw [FX8_follow_L32, FX9_follows_L6]
    simp only [z_lt, g4, is0, e40, g160, i160]
    rw [h1, h2, if_neg (nI_ge hin (by omega)), if_neg (nI_ge hin (by omega)), z_gi (by omega) (by decide), z_ix (show i < 2147483648 by omega), show 44 + s0 + 4 = 48 + s0 by omega, e4, ← hx, x_isStreet x3, hsz]
    have stop : (FX9_mayBeNext x B = some 0) → ∃ A' B' m' c' t', RR v u tx A' B' ∧ WR T m' c' t' A' B' ∧ ((∃ e, e < u 6 s0 ∧ some (Sum.inl (nI i, A)) = some (Sum.inl (β := Mem) (nI e, A')) ∧ ((some (Sum.inr (nI i, B)) = some (Sum.inl (α := Int32 × Mem) (β := Int32 × Mem) (nI e, B'))) ∨ some (Sum.inr (nI i, B)) = some (Sum.inr (α := Int32 × Mem) (nI e, B')))) ∨ (some (Sum.inl (nI i, A)) = some (Sum.inr A') ∧ some (Sum.inr (nI i, B)) = some (Sum.inr (α := Int32 × Mem) (nI (u 6 s0), B')))) := fun _ =>
      ⟨A, B, m, c, t, hR, hW, Or.inl ⟨i, hin, rfl, Or.inr rfl⟩⟩
    by_cases hst : 0 ≤ x ∧ x < nI (v 3)
    rotate_left
    · have hmn := w_mayN hN y3 (a := x) (by rw [hT1]; exact hst)
      rw [if_neg hst, if_pos rfl, z_ob, if_pos rfl, hmn, z_ob, if_pos rfl, z_ob, if_neg nft]
      exact stop hmn
    obtain ⟨s, hs, hxs⟩ : ∃ s, s < v 3 ∧ x = nI s := by
      obtain ⟨j, hj, rfl⟩ := nI_of (Int32.not_lt.mpr hst.1)
      exact ⟨j, (z_lts (by omega) (by omega)).mp hst.2, rfl⟩
    obtain ⟨R, r1, r2, r3⟩ := w_next hT hN hW
    have hmay := w_may hT hN hW y3 (s := s) (by omega)
    rw [if_pos hst, if_neg n10, r2, z_ob, hxs, if_congr_prop (z_b0 (show R < 2147483648 by omega) (show s < 32 by omega)), hmay, z_ob]
    by_cases hgo : stp T 0 m c s = true
    rotate_left
    · have hRs : R.testBit s = false := by
        rw [← Bool.not_eq_true]
        exact fun z => hgo ((r3 s).mp z)
      rw [if_pos hRs, z_ob, if_pos rfl, if_neg hgo, if_pos rfl, z_ob, if_neg nft]
      exact stop (by rw [hxs, hmay, if_neg hgo])
    have hRs : ¬ R.testBit s = false := by rw [(r3 s).mpr hgo]; decide
    have hsT : s < T.1 1 := by omega
    have hY := hW.2.2.2.2
    have hc9 := hW.1.1.2.1
    have ho2 := hT.1.2.2.2
    have hd9 := hT.1.1
    have hot := ot_lt hT hsT c
    rw [if_neg hRs, z_ob, if_neg nft, if_pos hgo, if_neg n10, z_ob, if_pos rfl, x_ends hT hW hsT, z_ob, hY.1.2.2.2, hW.2.2.2.1.1]
    -- the reference's other end
    obtain ⟨d, e1, e2⟩ := y_side hT hY hsT hc9
    obtain ⟨h5, h6, h7⟩ := stp_at hT hgo
    have ebd : FX9_beyond (nI s) d B = some (nI (ot T s c)) := by
      rcases e2 with ⟨-, z⟩ | ⟨j, -, -, z, -⟩
      · exact absurd h6 z
      · exact z
    rw [e1, z_ob, ebd, z_ob, hY.1.1]
    have q1 : (nI (u 6 s0 - 1) ≤ nI i) ↔ u 6 s0 - 1 ≤ i := z_le (by omega) (by omega)
    have q2 : nI (T.1 3) = 1 ↔ T.1 3 = 1 := z_eq (b := 1) (by omega) (by decide)
    have q3 : nI (ot T s c) = nI (T.1 0) ↔ ot T s c = T.1 0 := z_eq (by omega) (by omega)
    rw [if_congr_prop q1, if_congr_prop q1, if_congr_prop q2, if_congr_prop q3]
    by_cases hend : ¬ (u 6 s0 - 1 ≤ i) ∧ T.1 3 = 1 ∧ ot T s c = T.1 0
    · obtain ⟨k1, k2, k3⟩ := hend
      rw [if_neg k1, if_pos (⟨by omega, k3⟩ : T.1 3 ≠ 0 ∧ ot T s c = T.1 0), if_neg n10, z_ob, if_pos rfl, if_pos k2, if_pos k3, if_neg k1, z_ob, if_pos rfl]
      exact ⟨A, B, m, c, t, hR, hW, Or.inl ⟨i, hin, rfl, Or.inl rfl⟩⟩
    · have eX : (if u 6 s0 - 1 ≤ i then some false else if (if T.1 3 ≠ 0 ∧ ot T s c = T.1 0 then (1 : Int32) else 0) = 0 then some false else some true) = some false := by
        by_cases k1 : u 6 s0 - 1 ≤ i
        · rw [if_pos k1]
        · rw [if_neg k1, if_neg (show ¬ (T.1 3 ≠ 0 ∧ ot T s c = T.1 0) from fun z => hend ⟨k1, by have := z.1; omega, z.2⟩), if_pos rfl]
      have eY : (if T.1 3 = 1 then (if ot T s c = T.1 0 then (if u 6 s0 - 1 ≤ i then some false else some true) else some false) else some false) = some false := by
        by_cases k2 : T.1 3 = 1
        · rw [if_pos k2]
          by_cases k3 : ot T s c = T.1 0
          · rw [if_pos k3]
            by_cases k1 : u 6 s0 - 1 ≤ i
            · rw [if_pos k1]
            · exact absurd ⟨k1, k2, k3⟩ hend
          · rw [if_neg k3]
        · rw [if_neg k2]
      rw [eX, eY, z_ob, z_ob, if_neg nft, if_neg nft]
      obtain ⟨A1, B1, g1, g2, g3, g5, -⟩ := w_step hT hN hR hW hgo
      rw [g1, z_ob, g2, z_ob, nI_1]
      exact ih (i + 1) f f' _ _ _ A1 B1 (by omega) (by omega) (by omega) g5 g3
/-- what both have followed -/
theorem eq_follow {v : Nat → Nat} {u : Nat → Nat → Nat} {tx : Nat → Txt} {MX MY : Mem} (hR : RR v u tx MX MY) {s0 : Nat} (hs0 : s0 < 4) : ∃ T A' B' m c t, Twf T ∧ RR v u tx A' B' ∧ WR T m c t A' B' ∧ ((∃ e, e < u 6 s0 ∧ FX8_follow (44 + s0) MX = some (nI e, A') ∧ FX9_follows (nI s0) MY = some (nI e, B')) ∨ (FX8_follow (44 + s0) MX = some (-1, A') ∧ FX9_follows (nI s0) MY = some (nI (u 6 s0), B'))) := by
  obtain ⟨hA, hB, hK, hS, hTt, hTx, hH, hZ⟩ := id hR
  obtain ⟨⟨x0, x1, x2, x3, x4, x5, x6, x7⟩, ⟨y0, y1, y2, y3, y4, y5, y6, y7⟩⟩ := id hA
  obtain ⟨b0, b1, b2, b3, b4, b5, b6, b7, b8, b9⟩ := hB
  have h40 : u 6 s0 ≤ 40 := (hH s0 hs0).2.1.2.2
  obtain ⟨A1, l1, l2, l3, l4⟩ := x_lay hR.TW x0 x4 x2 x3
  have hT := TS_wf (x := tx (v 6)) (hr := v 1) hS b3 b0 b4 b2
  obtain ⟨T, hTe⟩ : ∃ T, T = TS u (tx (v 6)) (v 1) (v 3) (v 0) (v 4) (v 2) := ⟨_, rfl⟩
  have hX : XTw T A1 := by rw [hTe]; exact l3
  rw [← hTe] at hT
  have hR1 : RR v u tx A1 MY := hR.fr (fun k hk => l2 k (by omega)) (hZ.fr fun c h1 h2 => l2 c (by omega)) (QY.rf _ _)
  obtain ⟨A2, B2, g1, g2, g3, g4, -⟩ := w_begin hTe hT hR1 hX
  obtain ⟨A', B', m', c', t', p1, p2, p3⟩ := eq_foL hTe hT hs0 (u 6 s0) 0 FU FU 0 (T.1 0) 0 A2 B2 (by omega) (by rw [z_FU]; omega) (by rw [z_FU]; omega) g4 g3
  rw [show nI 0 = 0 from rfl] at p3
  unfold FX8_follow FX9_follows
  rw [l1, z_ob, g1, z_ob, g2, z_ob]
  refine ⟨T, A', B', m', c', t', hT, p1, p2, ?_⟩
  rcases p3 with ⟨e, e1, e2, e3⟩ | ⟨e2, e3⟩
  · left
    refine ⟨e, e1, by rw [e2, z_ob]; rfl, ?_⟩
    rcases e3 with e3 | e3
    · rw [e3, z_ob]; rfl
    · rw [e3, z_ob]; rfl
  · right
    exact ⟨by rw [e2, z_ob]; rfl, by rw [e3, z_ob]; rfl⟩
theorem x_missing {s : Nat} {u : Nat → Nat → Nat} {MX MY : Mem} (hH : RH u MX MY) (hs : s < 4) : (FX2_isMissing (44 + s) MX = 0 ∧ ¬ MY.1 9 s = -1) ∨ (¬ FX2_isMissing (44 + s) MX = 0 ∧ MY.1 9 s = -1) := by
  obtain ⟨⟨h1, h2⟩, -, -⟩ := hH s hs
  unfold FX2_isMissing
  rw [h1]
  rcases h2 with h | h | h | h <;> rw [h] <;> decide
theorem eq_judge {MX MY : Mem} (h : Sim MX MY) (a : Int32) : ∃ r MX' MY', FX8_judge a MX = some (r, MX') ∧ FX9_judge a MY = some (r, MY') ∧ Sim MX' MY' := by
  obtain ⟨v, u, tx, hR⟩ := id h
  unfold FX8_judge FX9_judge
  rw [x_isSheet, z_in]
  by_cases ha : 0 ≤ a ∧ a ≤ 3
  rotate_left
  · rw [if_neg ha, if_pos rfl, if_pos rfl]
    exact ⟨-2, MX, MY, rfl, rfl, h⟩
  obtain ⟨s, hs3, rfl⟩ := zrange (n := 3) (by decide) ha
  have hs : s < 4 := by omega
  have g4 : ∀ {α : Type} (z : Option α), gi (nI s) 4 z = z := fun z => z_gi (by omega) (by decide) z
  have is0 : Int32.toNatClampNeg (nI s) = s := z_ix (by omega)
  rw [if_pos ha, if_neg n10, if_neg n10]
  simp only [g4, is0]
  rcases x_missing hR.2.2.2.2.2.2.1 hs with ⟨m1, m2⟩ | ⟨m1, m2⟩
  rotate_left
  · rw [if_neg m1, if_pos m2]
    exact ⟨-11, MX, MY, rfl, rfl, h⟩
  rw [if_pos m1, if_neg m2]
  obtain ⟨T, A', B', m, c, t, hT, hR', hW, hres⟩ := eq_follow hR hs
  have h10 := (hR'.2.2.2.2.2.2.1 s hs).2.1
  rcases hres with ⟨e, e1, e2, e3⟩ | ⟨e2, e3⟩
  · rw [e2, z_ob, e3, z_ob, h10.2.1, if_neg (show ¬ nI e = nI (u 6 s) from fun z => by
      have := (z_eq (by omega) (by omega)).mp z
      omega)]
    exact ⟨nI e, A', B', rfl, rfl, v, u, tx, hR'⟩
  · rw [e2, z_ob, e3, z_ob, h10.2.1, if_pos rfl]
    exact ⟨-1, A', B', rfl, rfl, v, u, tx, hR'⟩
theorem eq_walk {MX MY : Mem} (h : Sim MX MY) (a b : Int32) : ∃ r MX' MY', FX8_walk a b MX = some (r, MX') ∧ FX9_walk a b MY = some (r, MY') ∧ Sim MX' MY' := by
  obtain ⟨v, u, tx, hR⟩ := id h
  unfold FX8_walk FX9_walk
  rw [x_isSheet, z_in, z_in, zrb, z_lt]
  by_cases ha : 0 ≤ a ∧ a ≤ 3
  rotate_left
  · rw [if_neg ha, if_pos rfl, if_pos rfl]
    exact ⟨-2, MX, MY, rfl, rfl, h⟩
  obtain ⟨s, hs3, rfl⟩ := zrange (n := 3) (by decide) ha
  have hs : s < 4 := by omega
  have g4 : ∀ {α : Type} (z : Option α), gi (nI s) 4 z = z := fun z => z_gi (by omega) (by decide) z
  have is0 : Int32.toNatClampNeg (nI s) = s := z_ix (by omega)
  rw [if_pos ha, if_neg n10, if_neg n10]
  simp only [g4, is0]
  rcases x_missing hR.2.2.2.2.2.2.1 hs with ⟨m1, m2⟩ | ⟨m1, m2⟩
  rotate_left
  · rw [if_neg m1, if_pos m2]
    exact ⟨-11, MX, MY, rfl, rfl, h⟩
  rw [if_pos m1, if_neg m2]
  by_cases hb : 0 ≤ b ∧ b ≤ 1
  rotate_left
  · rw [if_neg hb, decide_eq_false hb]
    exact ⟨-7, MX, MY, rfl, rfl, h⟩
  rw [if_pos hb, decide_eq_true hb, if_neg nb1, if_neg n10]
  obtain ⟨T, A', B', m, c, t, hT, hR', hW, hres⟩ := eq_follow hR hs
  have fin : ∃ r MX' MY', (if b = 0 then some (A'.1 42 1, A') else some (FX4_corner A', A')) = some (r, MX') ∧ (if b = 0 then some (B'.1 0 49, B') else some (B'.1 0 47, B')) = some (r, MY') ∧ Sim MX' MY' := by
    rw [w_at hT hW, hW.2.1.2.1, hW.2.2.2.1.1, hW.2.2.2.1.2.2]
    by_cases h0 : b = 0
    · rw [if_pos h0, if_pos h0]
      exact ⟨_, A', B', rfl, rfl, v, u, tx, hR'⟩
    · rw [if_neg h0, if_neg h0]
      exact ⟨_, A', B', rfl, rfl, v, u, tx, hR'⟩
  rcases hres with ⟨e, e1, e2, e3⟩ | ⟨e2, e3⟩
  · rw [e2, z_ob, e3, z_ob]; exact fin
  · rw [e2, z_ob, e3, z_ob]; exact fin
