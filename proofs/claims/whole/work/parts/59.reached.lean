/-! corners that are reached at all -/
def rpO (T : Twn) (s S : Nat) : Nat := if (T.1 2).testBit s = true then S else S ||| ((if S.testBit (T.2.1 1 s) = true ∧ T.2.2 0 (T.2.1 1 s) s ≠ 0 then 2 ^ T.2.1 2 s else 0) ||| (if S.testBit (T.2.1 2 s) = true ∧ T.2.2 0 (T.2.1 2 s) s ≠ 0 then 2 ^ T.2.1 1 s else 0))
def rpass (T : Twn) : Nat → Nat → Nat
  | 0, S => S
  | k + 1, S => rpO T k (rpass T k S)
/-- the corners reached -/
def rch (T : Twn) : Nat := itr 8 (rpass T (T.1 1)) (2 ^ T.1 0)
theorem rpO_sub (T : Twn) (s S : Nat) : sub S (rpO T s S) := by
  unfold rpO
  split
  · exact sub_rf S
  · exact sub_or S _
theorem rpO_lt {T : Twn} (hT : Twf T) {s S : Nat} (hs : s < T.1 1) (h : S < 512) : rpO T s S < 512 := by
  obtain ⟨⟨b1, b2, -⟩, -⟩ := hT.2 s hs
  unfold rpO
  split
  · exact h
  · refine Nat.or_lt_two_pow (n := 9) h (Nat.or_lt_two_pow ?_ ?_)
    · split
      · exact p2_lt b2
      · decide
    · split
      · exact p2_lt b1
      · decide
theorem rpass_sub (T : Twn) : ∀ (k S : Nat), sub S (rpass T k S)
  | 0, S => sub_rf S
  | k + 1, S => sub_tr (rpass_sub T k S) (rpO_sub T k _)
theorem rpass_lt {T : Twn} (hT : Twf T) : ∀ (k S : Nat), k ≤ T.1 1 → S < 512 → rpass T k S < 512
  | 0, _, _, h => h
  | k + 1, S, hk, h => rpO_lt hT (by omega) (rpass_lt hT k S (by omega) h)
theorem x_over {T : Twn} (hT : Twf T) {M : Mem} (hX : XTw T M) {s c S : Nat} (hs : s < T.1 1) (hs12 : T.1 1 ≤ 12) (hc : c < 9) (hS : S < 512) : FX7_over (nI s) (nI c) (nI S) M = some (nI (if S.testBit c = true ∧ T.2.2 0 c s ≠ 0 then 2 ^ ot T s c else 0)) := by
  obtain ⟨⟨a0, a1, a2, a3⟩, b1, b2, b3⟩ := hX
  have ho := ot_lt hT hs c
  have hO : orB (T.1 1) (fun s => T.2.2 0 c s != 0) (fun s => 2 ^ s) < 2 ^ 13 := orB_lt fun s hs _ => Nat.pow_lt_pow_right (by decide) (by omega)
  have hOb : (orB (T.1 1) (fun s => T.2.2 0 c s != 0) (fun s => 2 ^ s)).testBit s = true ↔ T.2.2 0 c s ≠ 0 := by
    rw [orB_bit]
    constructor
    · rintro ⟨t, g1, g2, g3⟩
      rw [Nat.testBit_two_pow] at g3
      have : t = s := by simpa using g3
      subst this
      simpa using g2
    · intro g2
      exact ⟨s, hs, by simpa using g2, Nat.testBit_two_pow_self⟩
  have eop := x_open (l := 0) (by decide) hc (b2 0 c (by decide) hc)
  rw [show nI 0 = 0 from rfl] at eop
  generalize orB (T.1 1) (fun s => T.2.2 0 c s != 0) (fun s => 2 ^ s) = O at hO hOb eop
  unfold FX7_over
  rw [eop, z_ob, if_congr_prop (z_b0 (show S < 2147483648 by omega) (show c < 32 by omega)), if_congr_prop (z_b0 (show O < 2147483648 by omega) (show s < 32 by omega))]
  obtain ⟨x1, x2, x3⟩ := b1 s hs
  obtain ⟨⟨d1, d2, -⟩, -⟩ := hT.2 s hs
  have eac : FX7_across (nI s) (nI c) M = some (nI (ot T s c)) := by
    unfold FX7_across ot
    rw [z_gi (by omega) (by decide), z_ix (by omega), x1, x2]
    simp (disch := omega) only [z_eq, z_gi]
    by_cases h1 : c = T.2.1 1 s
    · rw [if_pos h1, if_pos h1.symm]
    · rw [if_neg h1, if_neg (fun z => h1 z.symm)]
  rw [eac, z_ob, z_shl1 (by omega)]
  by_cases g1 : S.testBit c = true
  · have g1' : ¬ S.testBit c = false := by rw [g1]; decide
    rw [if_neg g1']
    by_cases g2 : T.2.2 0 c s ≠ 0
    · have g2' : ¬ O.testBit s = false := by rw [hOb.mpr g2]; decide
      rw [if_neg g2', z_ob, z_lt, if_pos (⟨g1, g2⟩ : S.testBit c = true ∧ T.2.2 0 c s ≠ 0)]
      rfl
    · have g2' : O.testBit s = false := by rw [← Bool.not_eq_true]; exact fun z => g2 (hOb.mp z)
      rw [if_pos g2', z_ob, z_lt, if_neg (fun z : S.testBit c = true ∧ T.2.2 0 c s ≠ 0 => g2 z.2)]
      rfl
  · have g1' : S.testBit c = false := by simpa using g1
    rw [if_pos g1', z_ob, z_lt, if_neg (fun z : S.testBit c = true ∧ T.2.2 0 c s ≠ 0 => g1 z.1)]
    rfl
