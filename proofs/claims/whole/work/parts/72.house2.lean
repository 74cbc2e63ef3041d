/-! house -/
/-- the least rings from home to every corner of a set: either sum, or none, on both sides -/
theorem eq_miL {T : Twn} (hT : Twf T) {Q : List Nat} {κ : Nat → Nat} {A B : Mem} (hS : SK T 0 512 Q κ A) (hY : YTw T B) (hF : FWD T B) {S : Nat} (hS9 : S < 512) : ∀ (k i f f' q : Nat), i + k = 9 → k < f → k < f' → q ≤ 100000 * i →
    (FX8_minutesFrom_L36 f (nI (T.1 0)) (nI S) (nI q) (nI i) A = some (.inl (-1, A)) ∧ FX9_allFrom_L25 f' (nI (T.1 0)) (nI S) (nI q) (nI i) B = some (-1)) ∨
    ∃ q', q' < 1000000 ∧ FX8_minutesFrom_L36 f (nI (T.1 0)) (nI S) (nI q) (nI i) A = some (.inr (nI q')) ∧ FX9_allFrom_L25 f' (nI (T.1 0)) (nI S) (nI q) (nI i) B = some (nI q') := by
  have hd9 := hT.1.1
  intro k
  induction k with
  | zero =>
    intro i f f' q hi hf hf' hq
    obtain ⟨f, rfl⟩ : ∃ g, f = g + 1 := ⟨f - 1, by omega⟩
    obtain ⟨f', rfl⟩ : ∃ g, f' = g + 1 := ⟨f' - 1, by omega⟩
    have : i = 9 := by omega
    subst this
    right
    rw [FX8_minutesFrom_L36, FX9_allFrom_L25, if_pos (show (9 : Int32) ≤ nI 9 by decide), if_pos (show (9 : Int32) ≤ nI 9 by decide), z_lt, if_neg (by decide)]
    exact ⟨q, by omega, rfl, rfl⟩
  | succ k ih =>
    intro i f f' q hi hf hf' hq
    obtain ⟨f, rfl⟩ : ∃ g, f = g + 1 := ⟨f - 1, by omega⟩
    obtain ⟨f', rfl⟩ : ∃ g, f' = g + 1 := ⟨f' - 1, by omega⟩
    have g9 : ¬ 9 ≤ nI i := nI_ge (b := 9) (by omega) (by decide)
    have ee : nI i = nI (T.1 0) ↔ i = T.1 0 := z_eq (by omega) (by omega)
    rw [FX8_minutesFrom_L36, FX9_allFrom_L25, if_neg g9, if_neg g9, if_neg (z_m1 (show q < 2147483648 by omega))]
    simp only [z_lt]
    rw [if_congr_prop ee, if_congr_prop ee, if_congr_prop (z_b0 (show S < 2147483648 by omega) (show i < 32 by omega)), if_congr_prop (z_b1 (show S < 2147483648 by omega) (show i < 32 by omega)), z_shl1 (show i < 32 by omega), nI_1]
    have skip := ih (i + 1) f f' q (by omega) (by omega) (by omega) (by omega)
    by_cases h1 : i = T.1 0
    · simp only [if_pos h1, Bool.false_eq_true, if_false, if_true]
      have e : (if S.testBit i = true then false else false) = false := by split <;> rfl
      simp only [e, Bool.false_eq_true, if_false]
      exact skip
    · by_cases h2 : S.testBit i = true
      · have h2' : ¬ S.testBit i = false := by rw [h2]; decide
        simp only [if_neg h1, if_pos h2, if_neg h2', if_true]
        have hp := p2_lt (show i < 9 by omega)
        obtain ⟨y, y1, y2⟩ := y_fewest hT hY hF (d := 2 ^ i) hp
        rcases x_leastE hT (e := 2 ^ i) (by omega) hS with ⟨g1, g2⟩ | ⟨m, p, g1, g2, g3, g4, g5, g6⟩
        · have hy : y = -1 := LSt_one y2 (Or.inl ⟨rfl, g2⟩)
          subst hy
          left
          rw [g1, y1, z_ob, z_ob, if_neg (by decide), if_pos rfl]
          refine ⟨rfl, ?_⟩
          obtain ⟨f', rfl⟩ : ∃ g, f' = g + 1 := ⟨f' - 1, by omega⟩
          rw [FX9_allFrom_L25]
          simp only [z_lt, if_true]
          by_cases h9 : 9 ≤ nI (i + 1)
          · rw [if_pos h9, if_neg (by decide)]
          · rw [if_neg h9, if_neg (by decide)]
        · have hy : y = nI p := LSt_one y2 (Or.inr ⟨p, g4, rfl, g5, g6⟩)
          subst hy
          rw [g1, y1, z_ob, z_ob, if_pos (z_pos (by omega)), g3, z_ob, if_neg (z_m1 (by omega)), nI_add]
          exact ih (i + 1) f f' (q + p) (by omega) (by omega) (by omega) (by omega)
      · have h2' : S.testBit i = false := by simpa using h2
        simp only [if_neg h1, if_neg h2, if_pos h2', Bool.false_eq_true, if_false]
        exact skip
/-- an answer of -1 or small -/
def sm (x : Int32) : Prop := x = -1 ∨ ∃ n, n < 1000000 ∧ x = nI n
theorem sm_neg {x : Int32} (h : sm x) : x < 0 ↔ x = -1 := by
  rcases h with rfl | ⟨n, h1, rfl⟩
  · exact ⟨fun _ => rfl, fun _ => by decide⟩
  · exact ⟨fun z => absurd z (z_neg (by omega)), fun z => absurd z (z_m1 (by omega))⟩
theorem eq_mf {v : Nat → Nat} {u : Nat → Nat → Nat} {tx : Nat → Txt} {MX MY : Mem} (hR : RR v u tx MX MY) {c S : Nat} (hc : c < 9) (hS9 : S < 512) : ∃ r MX' MY', FX8_minutesFrom (nI c) (nI S) MX = some (r, MX') ∧ FX9_allFrom (nI c) (nI S) MY = some (r, MY') ∧ RR v u tx MX' MY' ∧ sm r := by
  obtain ⟨A, a1, a2⟩ := GX_of hR
  have hb := hR.2.1
  unfold FX8_minutesFrom FX9_allFrom
  rw [a1, z_ob]
  simp only [z_lt]
  obtain ⟨Q, κ, A', e1, e2, e3⟩ := gX hR ((GX_w a2).1 c) hc hb.2.1 hb.2.2.2.2.2.2.2.1
  obtain ⟨B1, B', f1, f2, f3, f4, f5⟩ := gY hR ((GY_of hR).hm c) hc hb.2.1 hb.2.2.2.2.2.2.2.1
  have hT := gT hR (law := v 6) (hr := v 1) hc
  have hRR := hR.gs e3 (f5.hm (v 0))
  rw [e1, z_ob, f1, z_ob, f2, z_ob, hR.1.2.1]
  have hh : (TS u (tx (v 6)) (v 1) (v 3) c (v 4) (v 2)).1 0 = c := rfl
  rcases eq_miL hT e2 f3 f4 hS9 9 0 FU FU 0 (by omega) (by rw [z_FU]; omega) (by rw [z_FU]; omega) (Nat.zero_le _) with ⟨g1, g2⟩ | ⟨q, g0, g1, g2⟩
  · rw [hh, show nI 0 = 0 from rfl] at g1 g2
    rw [g1, z_ob, g2, z_ob]
    exact ⟨-1, A', _, rfl, rfl, hRR, Or.inl rfl⟩
  · rw [hh, show nI 0 = 0 from rfl] at g1 g2
    rw [g1, z_ob, g2, z_ob]
    exact ⟨nI q, A', _, rfl, rfl, hRR, Or.inr ⟨q, g0, rfl⟩⟩
theorem eq_hoL {v : Nat → Nat} {u : Nat → Nat → Nat} {tx : Nat → Txt} {S : Nat} (hS9 : S < 512) : ∀ (k i f f' : Nat) (b w : Int32) (MX MY : Mem), i + k = 9 → k < f → k < f' → RR v u tx MX MY → sm b → ∃ b' w' MX' MY', FX8_house_L30 f (nI S) b w (nI i) MX = some (b', w', MX') ∧ FX9_house_L34 f' (nI S) b w (nI i) MY = some (b', w', MY') ∧ RR v u tx MX' MY' := by
  intro k
  induction k with
  | zero =>
    intro i f f' b w MX MY hi hf hf' hR hb
    obtain ⟨f, rfl⟩ : ∃ g, f = g + 1 := ⟨f - 1, by omega⟩
    obtain ⟨f', rfl⟩ : ∃ g, f' = g + 1 := ⟨f' - 1, by omega⟩
    have : i = 9 := by omega
    subst this
    rw [FX8_house_L30, FX9_house_L34, if_pos (show (9 : Int32) ≤ nI 9 by decide), if_pos (show (9 : Int32) ≤ nI 9 by decide)]
    exact ⟨b, w, MX, MY, rfl, rfl, hR⟩
  | succ k ih =>
    intro i f f' b w MX MY hi hf hf' hR hb
    obtain ⟨f, rfl⟩ : ∃ g, f = g + 1 := ⟨f - 1, by omega⟩
    obtain ⟨f', rfl⟩ : ∃ g, f' = g + 1 := ⟨f' - 1, by omega⟩
    have g9 : ¬ 9 ≤ nI i := nI_ge (b := 9) (by omega) (by decide)
    obtain ⟨r, MX1, MY1, e1, e2, e3, e4⟩ := eq_mf hR (c := i) (by omega) hS9
    rw [FX8_house_L30, FX9_house_L34, if_neg g9, if_neg g9, e1, e2, z_ob, z_ob]
    simp only [z_lt]
    rw [if_congr_prop (sm_neg e4), if_congr_prop (sm_neg hb), nI_1]
    by_cases h1 : r = -1
    · rw [if_pos h1, if_pos h1]
      exact ih (i + 1) f f' b w MX1 MY1 (by omega) (by omega) (by omega) e3 hb
    · rw [if_neg h1, if_neg h1]
      by_cases h2 : (if b = -1 then true else if w ≤ r then false else true) = true
      · rw [if_pos h2, if_pos h2]
        exact ih (i + 1) f f' (nI i) r MX1 MY1 (by omega) (by omega) (by omega) e3 (Or.inr ⟨i, by omega, rfl⟩)
      · rw [if_neg h2, if_neg h2]
        exact ih (i + 1) f f' b w MX1 MY1 (by omega) (by omega) (by omega) e3 hb
theorem eq_house {MX MY : Mem} (h : Sim MX MY) (a b : Int32) : ∃ r MX' MY', FX8_house a b MX = some (r, MX') ∧ FX9_house a b MY = some (r, MY') ∧ Sim MX' MY' := by
  obtain ⟨v, u, tx, hR⟩ := id h
  unfold FX8_house FX9_house
  simp only [z_lt]
  rw [x_areCorners, z_in, z_in, zrb]
  by_cases ha : 0 ≤ a ∧ a ≤ 511
  rotate_left
  · rw [if_neg ha, if_pos rfl, if_pos rfl]
    exact ⟨-2, MX, MY, rfl, rfl, h⟩
  rw [if_pos ha, if_neg n10, if_neg n10]
  by_cases hb : 0 ≤ b ∧ b ≤ 1
  rotate_left
  · rw [if_neg hb, decide_eq_false hb]
    exact ⟨-7, MX, MY, rfl, rfl, h⟩
  obtain ⟨S, hS, rfl⟩ := zrange (n := 511) (by decide) ha
  obtain ⟨b', w', MX', MY', e1, e2, e3⟩ := eq_hoL (v := v) (u := u) (tx := tx) (S := S) (by omega) 9 0 FU FU (-1) (-1) MX MY (by omega) (by rw [z_FU]; omega) (by rw [z_FU]; omega) hR (Or.inl rfl)
  rw [show nI 0 = 0 from rfl] at e1 e2
  rw [if_pos hb, decide_eq_true hb, if_neg nb1, if_neg n10, e1, e2, z_ob, z_ob]
  by_cases h0 : b = 0
  · rw [if_pos h0, if_pos h0]
    exact ⟨b', MX', MY', rfl, rfl, v, u, tx, e3⟩
  · rw [if_neg h0, if_neg h0]
    exact ⟨w', MX', MY', rfl, rfl, v, u, tx, e3⟩
