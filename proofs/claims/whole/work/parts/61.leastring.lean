/-! leastRing against finds: what is told of the least walk -/
/-- an answer about the least walk that passes d, or -1 -/
def TOLD (T : Twn) (k d a : Nat) (r : Int32) : Prop := (r = -1 ∧ ∀ w, ¬ Cpl T k d 0 (T.1 0) w) ∨ ∃ w, Cpl T k d 0 (T.1 0) w ∧ (∀ w', Cpl T k d 0 (T.1 0) w' → Kw T k w ≤ Kw T k w') ∧ r = nI (tv T k w a)
theorem TOLD_one {T : Twn} (hT : Twf T) {k d a : Nat} {r r' : Int32} (h : TOLD T k d a r) (h' : TOLD T k d a r') : r = r' := by
  rcases h with ⟨h1, h2⟩ | ⟨w, h1, h2, h3⟩
  · rcases h' with ⟨g1, -⟩ | ⟨w, g1, -⟩
    · rw [h1, g1]
    · exact absurd g1 (h2 w)
  · rcases h' with ⟨-, g2⟩ | ⟨v, g1, g2, g3⟩
    · exact absurd h1 (g2 w)
    · rw [h3, g3, Kw_inj hT h1 g1 (Nat.le_antisymm (h2 v g1) (g2 w h1))]
theorem Cpl_rch {T : Twn} (hT : Twf T) {k d : Nat} {w : List Nat} (h : Cpl T k d 0 (T.1 0) w) : ndf d (rch T) = 0 := by
  have h1 := Pre_rch0 hT h.1
  have h2 := (rng_iff.mp h.2).2.2
  apply Nat.eq_of_testBit_eq
  intro i
  rw [ndf_bit, Nat.zero_testBit]
  cases e : d.testBit i with
  | false => rfl
  | true =>
    have : (pas T (mE 0 w)).testBit i = true := by
      rw [← h2, Nat.testBit_and] at e
      cases e2 : (pas T (mE 0 w)).testBit i <;> simp [e2] at e ⊢
    rw [h1 i this]
    rfl
theorem x_leastRing {T : Twn} (hT : Twf T) (hN : T.1 1 ≤ 12) {tc k d a : Nat} (hk : k < 512) (hd : d < 512) (ha : a < 4) {M M1 : Mem} (hlay : FX7_lay tc M = some M1) (hX : XTw T M1) (hZ : RZ M1) : ∃ r M', FX8_leastRing tc (nI d) (nI k) (nI a) M = some (r, M') ∧ TOLD T k d a r ∧ ks M1 M' ∧ RZ M' := by
  have hrl := rch_lt hT
  have hnd : ndf d (rch T) < 2147483648 := Nat.lt_of_le_of_lt (Nat.le_of_testBit fun j hj => by rw [ndf_bit] at hj; cases e : d.testBit j <;> simp [e] at hj ⊢) (show d < 2147483648 by omega)
  unfold FX8_leastRing
  rw [hlay, z_ob, x_reached hT hN hX, z_ob, z_not, if_congr_prop (show nI (ndf d (rch T)) = 0 ↔ ndf d (rch T) = 0 from z_eq (b := 0) hnd (by decide))]
  by_cases h0 : ndf d (rch T) = 0
  · rw [if_pos h0]
    obtain ⟨Q, κ, M2, e1, e2, e3⟩ := x_seek (k := k) (d := d) hT hN hk (by omega) hX hZ
    have hZ2 := QS_RZ hT e2.1
    rw [e1, z_ob]
    rcases x_least hT (by omega) e2 with ⟨g1, g2⟩ | ⟨w, g1, g2, g3, g4, g5⟩
    · rw [g1, z_ob, if_neg (by decide)]
      exact ⟨-1, M2, rfl, Or.inl ⟨rfl, g2⟩, e3, hZ2⟩
    · rw [g1, z_ob, if_pos (z_pos (by omega))]
      have hpos := Cpl_ne g2
      refine ⟨nI (tv T k w a), M2, ?_, Or.inr ⟨w, g2, g3, rfl⟩, e3, hZ2⟩
      unfold tv
      rcases (show a = 0 ∨ a = 1 ∨ a = 2 ∨ a = 3 by omega) with rfl | rfl | rfl | rfl
      · rw [if_pos (show nI 0 = 0 from rfl), x_min hT g2.1 g5 g4, z_ob]; rfl
      · rw [if_neg (show ¬ nI 1 = 0 by decide), if_pos (show nI 1 = 1 from rfl)]; rfl
      · rw [if_neg (show ¬ nI 2 = 0 by decide), if_neg (show ¬ nI 2 = 1 by decide), if_pos (show nI 2 = 2 from rfl)]
        have := x_streetAt hT g2.1 g5 g4 hpos (by decide)
        rw [show nI 0 = 0 from rfl] at this
        rw [this, z_ob]; rfl
      · rw [if_neg (show ¬ nI 3 = 0 by decide), if_neg (show ¬ nI 3 = 1 by decide), if_neg (show ¬ nI 3 = 2 by decide), x_bits g5]
        have h1 := Pre_pc hT g2.1
        rw [pc_0, Nat.zero_add] at h1
        rw [h1]; rfl
  · rw [if_neg h0]
    exact ⟨-1, M1, rfl, Or.inl ⟨rfl, fun w hw => h0 (Cpl_rch hT hw)⟩, ks.rf M1, hZ⟩
theorem y_told {T : Twn} (hT : Twf T) (hN : T.1 1 ≤ 12) {k d a : Nat} {p : Int32} (hp : shop p k) (hd : d < 512) (ha : a < 4) {M M1 : Mem} (hl : FX9_looks 0 M = some M1) (hY : YTw T M1) : ∃ q r M', FX9_finds (nI d) p M = some (q, M') ∧ FX9_told4 q (nI a) M' = some r ∧ TOLD T k d a r ∧ kf M1 M' := by
  rcases y_finds hT hN hp hd hl hY with ⟨M', e1, e2, e3, e4⟩ | ⟨w, M', e1, e2, e3, e4, e5, e6, e7⟩
  · refine ⟨0, -1, M', e1, ?_, Or.inl ⟨rfl, e4⟩, e2⟩
    unfold FX9_told4
    rw [if_pos rfl]
  · exact ⟨1, _, M', e1, y_told4 hT hN e3 e5 e6 e7 ha, Or.inr ⟨w, e3, e4, rfl⟩, e2⟩
