/-! drawn, odds -/
theorem eq_drawn {MX MY : Mem} (h : Sim MX MY) (a b : Int32) : ∃ r MX' MY', FX8_drawn a b MX = some (r, MX') ∧ FX9_drawn a b MY = some (r, MY') ∧ Sim MX' MY' := by
  obtain ⟨v, u, tx, hR⟩ := id h
  unfold FX8_drawn FX9_drawn
  simp only [z_lt]
  rw [z_in, z_in, zrb]
  by_cases ha : 0 ≤ a ∧ a ≤ 99999
  rotate_left
  · rw [if_neg ha, if_pos rfl, if_pos rfl]
    refine ⟨-2, MX, MY, ?_, rfl, h⟩
    by_cases h1 : a < 0
    · rw [if_pos h1]
    · have h2 : 99999 < a := Int32.not_le.mp fun z => ha ⟨Int32.not_lt.mp h1, z⟩
      rw [if_neg h1, if_pos h2, if_pos rfl]
  rw [if_pos ha, if_neg n10, if_neg (Int32.not_lt.mpr ha.1), if_neg (Int32.not_lt.mpr ha.2)]
  by_cases hb : 0 ≤ b ∧ b ≤ 2
  rotate_left
  · rw [if_neg hb, decide_eq_false hb]
    exact ⟨-2, MX, MY, rfl, rfl, h⟩
  rw [if_pos hb, decide_eq_true hb, if_neg nb1, if_neg n10, if_neg nft]
  obtain ⟨sd, hsd, rfl⟩ := zrange (n := 99999) (by decide) ha
  obtain ⟨hA, hB, hK, hS, hTt, hTx, hH, hZ⟩ := id hR
  obtain ⟨⟨x0, x1, x2, x3, x4, x5, x6, x7⟩, -⟩ := id hA
  obtain ⟨b0, b1, b2, b3, b4, b5, b6, b7, b8, b9⟩ := hB
  obtain ⟨A1, l1, l2, l3, l4⟩ := x_lay hR.TW x0 x4 x2 x3
  have hT := TS_wf (x := tx (v 6)) (hr := v 1) hS b3 b0 b4 b2
  have hX : XTw (TS u (tx (v 6)) (v 1) (v 3) (v 0) (v 4) (v 2)) A1 := l3
  have hR1 : RR v u tx A1 MY := hR.fr (fun k hk => l2 k (by omega)) (hZ.fr fun c h1 h2 => l2 c (by omega)) (QY.rf _ _)
  obtain ⟨A', B', m, c, t, g1, g2, g3, g4⟩ := eq_draws rfl hT hR1 hX (sd := sd) (by omega)
  have hm8 := p13 hT.1.2.1 g4.1.1.1
  rw [l1, z_ob, g1, z_ob, g2, z_ob, w_at hT g4, g4.2.1.2.1, g4.2.1.2.2, g4.2.2.2.1.2.2, g4.2.2.2.1.1, g4.2.2.2.1.2.1, y_ones hm8, z_ob]
  by_cases h0 : b = 0
  · rw [if_pos h0, if_pos h0]
    exact ⟨_, A', B', rfl, rfl, v, u, tx, g3⟩
  · rw [if_neg h0, if_neg h0]
    by_cases h1 : b = 1
    · rw [if_pos h1, if_pos h1]
      exact ⟨_, A', B', rfl, rfl, v, u, tx, g3⟩
    · rw [if_neg h1, if_neg h1]
      exact ⟨_, A', B', rfl, rfl, v, u, tx, g3⟩
theorem eq_odL {v : Nat → Nat} {u : Nat → Nat → Nat} {tx : Nat → Txt} {T : Twn} (hTe : T = TS u (tx (v 6)) (v 1) (v 3) (v 0) (v 4) (v 2)) (hT : Twf T) {sd S : Nat} (hsd : sd ≤ 99999) (hS : S ≤ 50) {mode : Int32} : ∀ (k i f f' ab : Nat) (A B : Mem), i + k = S → k < f → k < f' → ab ≤ 13 * i → RR v u tx A B → XTw T A →
    ∃ ab' A' B', ab' ≤ 13 * S ∧ FX8_odds_L75 f (nI sd) (nI S) mode (nI ab) (nI i) A = some (nI ab', A') ∧ FX9_odds_L50 f' (nI sd) (nI S) mode (lN ab) (nI i) B = some (lN ab', B') ∧ RR v u tx A' B' := by
  have hT0 : T.1 0 = v 0 := by rw [hTe]; rfl
  have hd9 := hT.1.1
  intro k
  induction k with
  | zero =>
    intro i f f' ab A B hi hf hf' hab hR hX
    obtain ⟨f, rfl⟩ : ∃ g, f = g + 1 := ⟨f - 1, by omega⟩
    obtain ⟨f', rfl⟩ : ∃ g, f' = g + 1 := ⟨f' - 1, by omega⟩
    have : i = S := by omega
    subst this
    rw [FX8_odds_L75, FX9_odds_L50, if_pos (Int32.le_refl _), if_pos (Int32.le_refl _)]
    exact ⟨ab, A, B, hab, rfl, rfl, hR⟩
  | succ k ih =>
    intro i f f' ab A B hi hf hf' hab hR hX
    obtain ⟨f, rfl⟩ : ∃ g, f = g + 1 := ⟨f - 1, by omega⟩
    obtain ⟨f', rfl⟩ : ∃ g, f' = g + 1 := ⟨f' - 1, by omega⟩
    have gS : ¬ nI S ≤ nI i := nI_ge (by omega) (by omega)
    obtain ⟨A', B', m, c, t, g1, g2, g3, g4⟩ := eq_draws hTe hT hR hX (sd := sd + i) (by omega)
    have hm8 := p13 hT.1.2.1 g4.1.1.1
    have hc9 := g4.1.1.2.1
    have hpc := pc_le m
    have x0 : A'.1 1 0 = nI (T.1 0) := by rw [hT0]; exact g3.1.1.1
    rw [FX8_odds_L75, FX9_odds_L50, if_neg gS, if_neg gS, nI_add, g1, z_ob, g2, z_ob, w_at hT g4, g4.2.1.2.2, g4.2.2.2.1.1, g4.2.2.2.1.2.1, y_ones hm8, z_ob, x0, g4.2.2.2.2.1.1, nI_l (show pc m < 2 ^ 31 by omega), nI_1]
    simp only [z_lt]
    have q1 : nI (pc m) ≤ 0 ↔ m = 0 := by
      rw [show (0 : Int32) = nI 0 from rfl, z_le (by omega) (by decide), ← pc_eq0 hm8]
      omega
    have q2 : nI m = 0 ↔ m = 0 := z_eq (b := 0) (by omega) (by decide)
    rw [if_congr_prop q1, if_congr_prop q2]
    by_cases hmo : mode = 1
    · rw [if_pos hmo, if_pos hmo, z_ob, nI_add, lN_add]
      exact ih (i + 1) f f' (ab + pc m) A' B' (by omega) (by omega) (by omega) (by omega) g3 g4.2.2.1
    · rw [if_neg hmo, if_neg hmo]
      by_cases hb : (if m = 0 then false else if nI c = nI (T.1 0) then true else false) = true
      · rw [if_pos hb, if_pos hb, z_ob, show nI ab + 1 = nI (ab + 1) from nI_1 ab, lN_1]
        exact ih (i + 1) f f' (ab + 1) A' B' (by omega) (by omega) (by omega) (by omega) g3 g4.2.2.1
      · rw [if_neg hb, if_neg hb, z_ob, show lN ab + 0 = lN (ab + 0) from lN_add ab 0, Nat.add_zero]
        exact ih (i + 1) f f' ab A' B' (by omega) (by omega) (by omega) (by omega) g3 g4.2.2.1
theorem z_rem0 {a d : Nat} (ha : a < 2 ^ 31) (h0 : 0 < d) (hd : d < 2 ^ 31) : nI a - nI a / nI d * nI d = 0 ↔ d ∣ a := by
  rw [pk_rem ha h0 hd, show (0 : Int32) = nI 0 from rfl, z_eq (Nat.lt_of_lt_of_le (Nat.mod_lt a h0) (by omega)) (by decide)]
  exact ⟨Nat.dvd_of_mod_eq_zero, Nat.mod_eq_zero_of_dvd⟩
theorem x_cdL {A S : Nat} (hA : A < 2 ^ 31) (hS : S < 2 ^ 31) (hS0 : 0 < S) : ∀ (d f : Nat), d < f → d ≤ S → (∀ e, d < e → e ∣ A → e ∣ S → False) → ∃ z, FX8_commonDivisor_L2 f (nI A) (nI S) (nI d) = some z ∧ Sum.elim (fun v3 => some v3) (fun _ => some (1 : Int32)) z = some (nI (Nat.gcd A S)) := by
  have hg0 : 0 < Nat.gcd A S := Nat.gcd_pos_of_pos_right A hS0
  intro d
  induction d with
  | zero =>
    intro f hf hd hno
    have := hno 1 (by decide) (Nat.one_dvd A) (Nat.one_dvd S)
    exact this.elim
  | succ d ih =>
    intro f hf hd hno
    obtain ⟨f, rfl⟩ : ∃ g, f = g + 1 := ⟨f - 1, by omega⟩
    rw [FX8_commonDivisor_L2]
    by_cases h1 : d = 0
    · subst h1
      rw [if_pos (show nI (0 + 1) ≤ 1 by decide)]
      refine ⟨_, rfl, ?_⟩
      have : Nat.gcd A S = 1 := by
        rcases Nat.lt_or_ge 1 (Nat.gcd A S) with h | h
        · exact (hno _ h (Nat.gcd_dvd_left A S) (Nat.gcd_dvd_right A S)).elim
        · omega
      rw [this]
      rfl
    · have hgt : ¬ nI (d + 1) ≤ 1 := nI_ge (a := 1) (b := d + 1) (by omega) (by omega)
      have hne : ¬ nI (d + 1) = 0 := fun z => by
        have := (z_eq (b := 0) (by omega) (by decide)).mp z
        omega
      rw [if_neg hgt, z_gd hne, z_gd hne, if_congr_prop (z_rem0 hA (Nat.succ_pos d) (by omega)), if_congr_prop (z_rem0 hS (Nat.succ_pos d) (by omega))]
      by_cases hdv : d + 1 ∣ A ∧ d + 1 ∣ S
      · rw [if_pos hdv.1, if_pos hdv.2, z_ob, if_pos rfl]
        refine ⟨_, rfl, ?_⟩
        have hle := Nat.le_of_dvd hg0 (Nat.dvd_gcd hdv.1 hdv.2)
        have : Nat.gcd A S = d + 1 := by
          rcases Nat.lt_or_ge (d + 1) (Nat.gcd A S) with h | h
          · exact (hno _ h (Nat.gcd_dvd_left A S) (Nat.gcd_dvd_right A S)).elim
          · omega
        rw [this]
        rfl
      · have e : (if d + 1 ∣ A then (if d + 1 ∣ S then some true else some false) else some false) = some false := by
          by_cases k1 : d + 1 ∣ A
          · rw [if_pos k1, if_neg (fun z => hdv ⟨k1, z⟩)]
          · rw [if_neg k1]
        have em : nI (d + 1) + -1 = nI d := by
          rw [← Int32.sub_eq_add_neg]
          exact z_sub1 (a := d + 1) (by omega)
        rw [e, z_ob, if_neg nft, em, z_lt]
        refine ih f (by omega) (by omega) (fun e he h2 h3 => ?_)
        rcases (show e = d + 1 ∨ d + 1 < e by omega) with h | h
        · rw [h] at h2 h3; exact hdv ⟨h2, h3⟩
        · exact hno e h h2 h3
theorem x_commonDivisor {A S : Nat} (hA : A < 2 ^ 31) (hS0 : 0 < S) (hS : S ≤ 50) : FX8_commonDivisor (nI A) (nI S) = some (nI (Nat.gcd A S)) := by
  obtain ⟨z, h1, h2⟩ := x_cdL (A := A) (S := S) hA (by omega) hS0 S FU (by rw [z_FU]; omega) (Nat.le_refl _) (fun e he _ h3 => by
    have := Nat.le_of_dvd hS0 h3
    omega)
  unfold FX8_commonDivisor
  rw [h1, z_ob]
  exact h2
theorem y_lowL : ∀ (b a f : Nat), b < f → a < 2 ^ 31 → b < 2 ^ 31 → FX9_lowest_L16 f (lN a) (lN b) = some (lN (Nat.gcd b a)) := by
  intro b
  induction b using Nat.strongRecOn with
  | ind b ih =>
    intro a f hf ha hb
    obtain ⟨f, rfl⟩ : ∃ g, f = g + 1 := ⟨f - 1, by omega⟩
    have h0 : lg_cmp (lN b) 0 = 0 ↔ b = 0 := by
      rw [lg_cmp_eq]
      exact lN_eq (b := 0) hb (by decide)
    rw [FX9_lowest_L16, if_congr_prop h0]
    by_cases hb0 : b = 0
    · rw [if_pos hb0, hb0, Nat.gcd_zero_left]
    · have hne : ¬ lN b = 0 := fun z => hb0 ((lN_eq (b := 0) hb (by decide)).mp z)
      have hlt := Nat.mod_lt a (show 0 < b by omega)
      rw [if_neg hb0, z_gd hne, pk_lRem (by omega) (by omega) (by omega), z_lt, ih (a % b) hlt b f (by omega) hb (by omega), ← Nat.gcd_rec]
theorem y_lowest {A S : Nat} (hA : A < 2 ^ 31) (hS0 : 0 < S) (hS : S ≤ 50) {a4 : Int32} (h4 : a4 = 0 ∨ a4 = 1) : FX9_lowest (lN A) (lN S) a4 = some (lN ((if a4 = 0 then A else S) / Nat.gcd A S)) := by
  unfold FX9_lowest
  have h0 : lg_cmp (lN A) 0 = 0 ↔ A = 0 := by
    rw [lg_cmp_eq]
    exact lN_eq (b := 0) hA (by decide)
  rw [if_congr_prop h0]
  by_cases hA0 : A = 0
  · subst hA0
    rw [if_pos rfl, Nat.gcd_zero_left]
    rcases h4 with rfl | rfl
    · rw [if_pos rfl, Nat.zero_div]; rfl
    · rw [if_neg (by decide), Nat.div_self hS0]; rfl
  · have hg0 : 0 < Nat.gcd S A := Nat.gcd_pos_of_pos_left A hS0
    have hgle : Nat.gcd S A ≤ S := Nat.gcd_le_left A hS0
    have hne : ¬ lN (Nat.gcd S A) = 0 := fun z => by
      have := (lN_eq (b := 0) (by omega) (by decide)).mp z
      omega
    rw [if_neg hA0, y_lowL S A FU (by rw [z_FU]; omega) hA (by omega), z_ob, z_lt, z_gd hne, Nat.gcd_comm A S]
    rcases h4 with rfl | rfl
    · rw [if_pos rfl, if_pos rfl, pk_lDiv (by omega) hg0 (by omega)]
    · rw [if_neg (by decide), if_neg (by decide), pk_lDiv (by omega) hg0 (by omega)]
theorem eq_odds {MX MY : Mem} (h : Sim MX MY) (a b d e : Int32) : ∃ r MX' MY', FX8_odds a b d e MX = some (r, MX') ∧ FX9_odds a b d e MY = some (r, MY') ∧ Sim MX' MY' := by
  obtain ⟨v, u, tx, hR⟩ := id h
  unfold FX8_odds FX9_odds
  simp only [z_lt]
  rw [z_in, z_in, z_in, z_in, zrb, zrb]
  by_cases ha : 0 ≤ a ∧ a ≤ 99999
  rotate_left
  · rw [if_neg ha, if_pos rfl, if_pos rfl]
    refine ⟨_, MX, MY, ?_, rfl, h⟩
    by_cases h1 : a < 0
    · rw [if_pos h1]
    · have h2 : 99999 < a := Int32.not_le.mp fun z => ha ⟨Int32.not_lt.mp h1, z⟩
      rw [if_neg h1, if_pos h2, if_pos rfl]
  rw [if_pos ha, if_neg n10, if_neg (Int32.not_lt.mpr ha.1), if_neg (Int32.not_lt.mpr ha.2)]
  by_cases hb : 1 ≤ b ∧ b ≤ 50
  rotate_left
  · rw [if_neg hb, decide_eq_false hb, if_pos rfl, if_pos rfl]
    exact ⟨_, MX, MY, rfl, rfl, h⟩
  rw [if_pos hb, decide_eq_true hb, if_neg nb1, if_neg n10]
  by_cases hd : 0 ≤ d ∧ d ≤ 1
  rotate_left
  · rw [if_neg hd, if_pos rfl, if_pos rfl]
    refine ⟨_, MX, MY, ?_, rfl, h⟩
    by_cases h1 : d < 0
    · rw [if_pos h1, if_pos rfl]
    · have h2 : 1 < d := Int32.not_le.mp fun z => hd ⟨Int32.not_lt.mp h1, z⟩
      rw [if_neg h1, if_pos h2, if_pos rfl]
  rw [if_pos hd, if_neg n10, if_neg (Int32.not_lt.mpr hd.1), if_neg (Int32.not_lt.mpr hd.2)]
  by_cases he : 0 ≤ e ∧ e ≤ 1
  rotate_left
  · rw [if_neg he, decide_eq_false he, if_pos rfl, if_pos rfl]
    exact ⟨_, MX, MY, rfl, rfl, h⟩
  rw [if_pos he, decide_eq_true he, if_neg nb1, if_neg n10, if_neg nft]
  obtain ⟨sd, hsd, rfl⟩ := zrange (n := 99999) (by decide) ha
  obtain ⟨S, hS, rfl⟩ := zrange (n := 50) (by decide) ⟨Int32.le_trans (show (0 : Int32) ≤ 1 by decide) hb.1, hb.2⟩
  have hS0 : 0 < S := by
    have := hb.1
    rw [show (1 : Int32) = nI 1 from rfl, z_le (by decide) (by omega)] at this
    exact this
  have he2 : e = 0 ∨ e = 1 := by
    obtain ⟨j, hj, rfl⟩ := zrange (n := 1) (by decide) he
    rcases (show j = 0 ∨ j = 1 by omega) with rfl | rfl
    · exact Or.inl rfl
    · exact Or.inr rfl
  obtain ⟨hA, hB, hK, hSs, hTt, hTx, hH, hZ⟩ := id hR
  obtain ⟨⟨x0, x1, x2, x3, x4, x5, x6, x7⟩, -⟩ := id hA
  obtain ⟨b0, b1, b2, b3, b4, b5, b6, b7, b8, b9⟩ := hB
  obtain ⟨A1, l1, l2, l3, l4⟩ := x_lay hR.TW x0 x4 x2 x3
  have hT := TS_wf (x := tx (v 6)) (hr := v 1) hSs b3 b0 b4 b2
  have hX : XTw (TS u (tx (v 6)) (v 1) (v 3) (v 0) (v 4) (v 2)) A1 := l3
  have hR1 : RR v u tx A1 MY := hR.fr (fun k hk => l2 k (by omega)) (hZ.fr fun c h1 h2 => l2 c (by omega)) (QY.rf _ _)
  obtain ⟨ab, A', B', g0, g1, g2, g3⟩ := eq_odL rfl hT hsd hS (mode := d) S 0 FU FU 0 A1 MY (by omega) (by rw [z_FU]; omega) (by rw [z_FU]; omega) (by omega) hR1 hX
  rw [show nI 0 = 0 from rfl] at g1 g2
  rw [show lN 0 = 0 from rfl] at g2
  have hgp : 0 < Nat.gcd ab S := Nat.gcd_pos_of_pos_right ab hS0
  have hgle : Nat.gcd ab S ≤ S := Nat.le_of_dvd hS0 (Nat.gcd_dvd_right ab S)
  have hne : ¬ nI (Nat.gcd ab S) = 0 := fun z => by
    have := (z_eq (b := 0) (by omega) (by decide)).mp z
    omega
  rw [l1, z_ob, g1, z_ob, x_commonDivisor (by omega) hS0 hS, z_ob, z_gd hne, g2, z_ob, nI_l (show S < 2 ^ 31 by omega), y_lowest (by omega) hS0 hS he2, z_ob]
  refine ⟨_, A', B', rfl, ?_, v, u, tx, g3⟩
  congr 2
  rcases he2 with rfl | rfl
  · rw [if_pos rfl, if_pos rfl, pk_div (by omega) hgp (by omega), nI_l (Nat.lt_of_le_of_lt (Nat.div_le_self _ _) (by omega))]
  · rw [if_neg (by decide), if_neg (by decide), pk_div (by omega) hgp (by omega), nI_l (Nat.lt_of_le_of_lt (Nat.div_le_self _ _) (by omega))]
