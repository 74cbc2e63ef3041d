/-! two: both sides -/
theorem z_sub1 {a : Nat} (h : 1 ≤ a) : nI a - 1 = nI (a - 1) := z_sub (b := 1) h
theorem LSn_end {S : Nat → Prop} {x : Int32} (h : LSn S x) : LSt S (if x < 1048576 then x else -1) := by
  rcases h with ⟨h1, h2⟩ | ⟨q, h1, h2, h3, h4⟩
  · rw [h1, if_neg (by decide)]
    exact Or.inl ⟨rfl, h2⟩
  · rw [h2, if_pos (show nI q < 1048576 from nI_lt (b := 1048576) (by omega) (by decide))]
    exact Or.inr ⟨q, h1, rfl, h3, h4⟩
theorem RM_lt {T : Twn} (hT : Twf T) {d m q : Nat} (h : RM T d m q) : m < 2 ^ T.1 1 ∧ q ≤ 1287 := ⟨(WS_wk hT h.2).1, WS_le hT h.2⟩
theorem SB_le {T : Twn} (hT : Twf T) {d L q : Nat} (h : SB T d L q) : q ≤ 1287 := by
  obtain ⟨m, -, h2⟩ := h
  exact (RM_lt hT h2).2
/-- a ring's minutes and the least of the rings that it leaves -/
theorem LSn_add {S S' : Nat → Prop} {x y : Int32} {q1 : Nat} (hx : LSn S x) (hy : LSn S' y) (hq1 : q1 ≤ 1287) (hb : ∀ q, S' q → q ≤ 1287) : LSn (fun q => S q ∨ ∃ q2, S' q2 ∧ q = q1 + q2) (if nI q1 + y < x then nI q1 + y else x) := by
  rcases hy with ⟨b1, b2⟩ | ⟨p, b1, b2, b3, b4⟩
  · obtain ⟨n, n1, n2⟩ := LSn_nn hx
    rw [b1, n2, nI_add, if_neg (by rw [z_lts (by omega) (by omega)]; omega), ← n2]
    exact hx.cong fun q => ⟨Or.inl, fun h => h.elim id (fun ⟨q2, h2, _⟩ => absurd h2 (b2 q2))⟩
  · rw [b2, nI_add]
    have := hb p b3
    exact LSn_or hx (Or.inr ⟨q1 + p, by omega, rfl, ⟨p, b3, rfl⟩, fun q' ⟨q2, h2, h3⟩ => by have := b4 q2 h2; omega⟩)
theorem x_lt24 {T : Twn} (hT : Twf T) (hN : T.1 1 ≤ 12) {d e : Nat} (hd : d < 1024) {Q : List Nat} {κ : Nat → Nat} {M : Mem} (hS : SK T 0 512 Q κ M) (h41 : ∀ L, L < 2 ^ T.1 1 → LSn (SB T e L) (M.1 41 L)) : ∀ (j i f : Nat) (x : Int32), i + j = Q.length → j < f → LSn (fun q => ∃ a q1 q2, a < i ∧ RM T d (Q.getD a 0) q1 ∧ SB T e (ndf (2 ^ T.1 1 - 1) (spt T (Q.getD a 0))) q2 ∧ q = q1 + q2) x →
    ∃ y, FX0_leastTwo_L24 f (nI d) (nI (2 ^ T.1 1)) x (nI i) M = some y ∧ LSn (TW2 T d e) y := by
  have hp : 2 ^ T.1 1 ≤ 4096 := Nat.pow_le_pow_right (n := 2) (by decide) hN
  have hp1 : 1 ≤ 2 ^ T.1 1 := Nat.two_pow_pos _
  obtain ⟨⟨q1, q2⟩, q3, q4, q5, q6, q7⟩ := id hS.1
  have hlt := QS_lt hT hS.1
  have hQl := nodup_le 8192 Q q4 (fun x hx => p13 hT.1.2.1 (hlt x hx))
  intro j
  induction j with
  | zero =>
    intro i f x hi hf hx
    obtain ⟨f, rfl⟩ : ∃ g, f = g + 1 := ⟨f - 1, by omega⟩
    have : i = Q.length := by omega
    subst this
    rw [FX0_leastTwo_L24, q1, if_pos (Int32.le_refl _)]
    refine ⟨x, rfl, hx.cong fun q => ?_⟩
    constructor
    · rintro ⟨a, p1, p2, a1, a2, a3, a4⟩
      exact ⟨_, p1, p2, a2, a3, a4⟩
    · rintro ⟨m, p1, p2, a2, a3, a4⟩
      obtain ⟨a, b1, rfl⟩ := mem_getD ((SK_mem hT hS).mpr ⟨p1, a2.2⟩).1
      exact ⟨a, p1, p2, b1, a2, a3, a4⟩
  | succ j ih =>
    intro i f x hi hf hx
    obtain ⟨f, rfl⟩ : ∃ g, f = g + 1 := ⟨f - 1, by omega⟩
    have hil : i < Q.length := by omega
    have hmem := getD_mem hil
    obtain ⟨c, p, c1, c2, c3, c4, c5⟩ := x_minQ hT hS hmem
    have hm8 := p13 hT.1.2.1 c1.1
    have hsp := spt_lt hT (Q.getD i 0)
    rw [FX0_leastTwo_L24, q1, if_neg (nI_ge hil (by omega)), z_gi (by omega) (by decide), z_lt, z_ix (by omega), q3 i hil, x_isRing hT hm8 hd c1.2.1 q2 (fun _ => c5), z_ob]
    cases hr : rng T d (Q.getD i 0) c with
    | false =>
      rw [if_pos (show (if false = true then (1 : Int32) else 0) = 0 from by decide), z_lt, nI_1]
      refine ih (i + 1) f x (by omega) (by omega) (hx.cong fun q => ⟨?_, ?_⟩)
      · rintro ⟨a, p1, p2, a1, a2⟩
        exact ⟨a, p1, p2, by omega, a2⟩
      · rintro ⟨a, p1, p2, a1, a2, a3⟩
        rcases (show a < i ∨ a = i by omega) with h | h
        · exact ⟨a, p1, p2, h, a2, a3⟩
        · subst h
          have := par_inj (WS_wk hT a2.2).2.2.2 c1.2.2.2
          rw [← this, a2.1] at hr
          cases hr
    | true =>
      have hc := (rng_iff.mp hr).2.1
      rw [hc] at hr c4 c1
      have esp : FX7_spent (M.1 39 (Q.getD i 0)) = nI (spt T (Q.getD i 0)) := by
        rw [c5]
        exact x_spent (by have := hT.1.1; omega) (pas_lt hT _) (p13 hT.1.2.1 hsp)
      have hnd : ndf (2 ^ T.1 1 - 1) (spt T (Q.getD i 0)) < 2 ^ T.1 1 := Nat.lt_of_le_of_lt (ndf_le _ _) (by omega)
      rw [if_neg (show ¬ (if true = true then (1 : Int32) else 0) = 0 from by decide), z_gi hm8 (by decide), z_ix (show Q.getD i 0 < 2147483648 by omega), esp, z_sub1 hp1, z_not, z_lt, c2, z_ob, z_gi (by omega) (by decide), z_lt, z_lt, z_ix (by omega), nI_1]
      have hmin : ∀ q, RM T d (Q.getD i 0) q → p ≤ q := fun q h => c4.2 q h.2
      have hple : p ≤ 1287 := WS_le hT c4.1
      refine ih (i + 1) f _ (by omega) (by omega) ?_
      have hadd := LSn_add hx (h41 _ hnd) hple (fun q h => SB_le hT h)
      rcases hadd with ⟨h1, h2⟩ | ⟨q, h1, h2, h3, h4⟩
      · refine Or.inl ⟨h1, fun q hq => ?_⟩
        obtain ⟨a, p1, p2, a1, a2, a3, a4⟩ := hq
        rcases (show a < i ∨ a = i by omega) with h | h
        · exact h2 q (Or.inl ⟨a, p1, p2, h, a2, a3, a4⟩)
        · subst h; exact h2 (p + p2) (Or.inr ⟨p2, a3, rfl⟩)
      · refine Or.inr ⟨q, h1, h2, ?_, fun q' hq' => ?_⟩
        · rcases h3 with ⟨a, p1, p2, a1, a2⟩ | ⟨p2, a3, a4⟩
          · exact ⟨a, p1, p2, by omega, a2⟩
          · exact ⟨i, p, p2, by omega, ⟨hr, c4.1⟩, a3, a4⟩
        · obtain ⟨a, p1, p2, a1, a2, a3, a4⟩ := hq'
          rcases (show a < i ∨ a = i by omega) with h | h
          · exact h4 q' (Or.inl ⟨a, p1, p2, h, a2, a3, a4⟩)
          · subst h
            have k1 := h4 (p + p2) (Or.inr ⟨p2, a3, rfl⟩)
            have k2 := hmin p1 a2
            omega
theorem x_leastTwo {T : Twn} (hT : Twf T) (hN : T.1 1 ≤ 12) {d e : Nat} (hd : d < 1024) (he : e < 1024) {Q : List Nat} {κ : Nat → Nat} {M : Mem} (hS : SK T 0 512 Q κ M) : ∃ y M', FX0_leastTwo (nI d) (nI e) (nI (T.1 1)) M = some (y, M') ∧ LSt (TW2 T d e) y ∧ kp 41 M M' ∧ M'.2 = M.2 := by
  obtain ⟨M1, a1, a2, a3, a4⟩ := x_fill hT hN he hS
  have hS1 := hS.fr (a2 37 (by decide)) (a2 39 (by decide)) (a2 40 (by decide)) a3
  have hQl := nodup_le 8192 Q hS.1.2.2.1 (fun x hx => p13 hT.1.2.1 (QS_lt hT hS.1 x hx))
  obtain ⟨y, b1, b2⟩ := x_lt24 hT hN hd hS1 a4 Q.length 0 FU (nI 1048576) (by omega) (by rw [z_FU]; omega) (Or.inl ⟨rfl, fun q ⟨a, _, _, h, _⟩ => absurd h (Nat.not_lt_zero a)⟩)
  have e12 : (if 12 < nI (T.1 1) then 12 else nI (T.1 1)) = nI (T.1 1) := by
    rw [if_neg]
    rw [show (12 : Int32) = nI 12 from rfl, z_lts (by decide) (by omega)]
    omega
  unfold FX0_leastTwo
  rw [show nI 0 = 0 from rfl, show nI 1048576 = 1048576 from rfl] at b1
  rw [e12, z_shl1 (by omega), z_lt, a1, z_ob, b1, z_ob]
  have := LSn_end b2
  by_cases h : y < 1048576
  · rw [if_pos h] at this ⊢
    exact ⟨y, M1, rfl, this, a2, a3⟩
  · rw [if_neg h] at this ⊢
    exact ⟨-1, M1, rfl, this, a2, a3⟩
-- the reference
theorem LSt_or {S S2 : Nat → Prop} {x y : Int32} (h : LSt S x) (h2 : LSt S2 y) : LSt (fun q => S q ∨ S2 q) (if y = -1 then x else if x = -1 ∨ ¬ x ≤ y then y else x) := by
  rcases h2 with ⟨b1, b2⟩ | ⟨p, b1, b2, b3, b4⟩
  · rw [if_pos b1]
    exact LSt_no h b2
  · rw [b2, if_neg (z_m1 (by omega))]
    exact LSt_un b1 h b3 b4
theorem y_rw65 {T : Twn} (hT : Twf T) (hN : T.1 1 ≤ 12) {d m : Nat} (hm : m < 2 ^ T.1 1) : ∀ (j s f : Nat) (M : Mem), s + j = T.1 1 → j < f → M.1 0 40 = nI (T.1 1) → (∀ L, L < m → LSt (SB T d L) (M.1 22 L)) → LSt (fun q => RM T d m q ∨ ∃ t, t < s ∧ m.testBit t = true ∧ SB T d (ndf m (2 ^ t)) q) (M.1 22 m) →
    ∃ M', FX9_ringsWithin_L65 f (nI m) (nI s) M = some M' ∧ kp 22 M M' ∧ (∀ L, L ≠ m → M'.1 22 L = M.1 22 L) ∧ LSt (SB T d m) (M'.1 22 m) := by
  have hp : 2 ^ T.1 1 ≤ 4096 := Nat.pow_le_pow_right (n := 2) (by decide) hN
  intro j
  induction j with
  | zero =>
    intro s f M hs hf h40 hL hm0
    obtain ⟨f, rfl⟩ : ∃ g, f = g + 1 := ⟨f - 1, by omega⟩
    have : s = T.1 1 := by omega
    subst this
    rw [FX9_ringsWithin_L65, h40, if_pos (Int32.le_refl _)]
    refine ⟨M, rfl, kp.rf _ _, fun _ _ => rfl, hm0.cong fun q => ?_⟩
    constructor
    · rintro (h | ⟨t, -, h2, n, n1, n2⟩)
      · exact ⟨m, sub_rf m, h⟩
      · refine ⟨n, fun i hi => ?_, n2⟩
        have := n1 i hi
        rw [ndf_bit, Bool.and_eq_true] at this
        exact this.1
    · rintro ⟨n, n1, n2⟩
      by_cases hnm : n = m
      · rw [hnm] at n2; exact Or.inl n2
      · right
        obtain ⟨i, i1, i2⟩ : ∃ i, m.testBit i = true ∧ n.testBit i = false := by
          apply Classical.byContradiction
          intro hno
          refine hnm (sub_eq n1 fun i hi => ?_)
          cases e : n.testBit i with
          | true => rfl
          | false => exact absurd ⟨i, hi, e⟩ hno
        have hin : i < T.1 1 := by
          rcases Nat.lt_or_ge i (T.1 1) with h | h
          · exact h
          · rw [Nat.testBit_lt_two_pow (Nat.lt_of_lt_of_le hm (Nat.pow_le_pow_right (by decide) h))] at i1
            cases i1
        refine ⟨i, hin, i1, n, fun k hk => ?_, n2⟩
        rw [ndf_bit, n1 k hk, Nat.testBit_two_pow]
        by_cases h : i = k
        · rw [← h, i2] at hk; cases hk
        · simp [h]
  | succ j ih =>
    intro s f M hs hf h40 hL hm0
    obtain ⟨f, rfl⟩ : ∃ g, f = g + 1 := ⟨f - 1, by omega⟩
    have hsn : s < T.1 1 := by omega
    rw [FX9_ringsWithin_L65, h40, if_neg (nI_ge hsn (by omega)), if_congr_prop (z_b1 (show m < 2147483648 by omega) (show s < 32 by omega)), z_shl1 (by omega), z_not]
    -- what is written
    obtain ⟨x, hx, hxS⟩ : ∃ x : Int32, (ob (if m.testBit s = true then gi (nI (ndf m (2 ^ s))) 4096 (some (M.1 22 (Int32.toNatClampNeg (nI (ndf m (2 ^ s)))))) else some (-1)) fun q101 => ob (if q101 = -1 then gi (nI m) 4096 (some (M.1 22 (Int32.toNatClampNeg (nI m)))) else gi (nI m) 4096 (ob (if M.1 22 (Int32.toNatClampNeg (nI m)) = -1 then some true else gi (nI m) 4096 (if M.1 22 (Int32.toNatClampNeg (nI m)) ≤ q101 then some false else some true)) fun b114 => if b114 = true then some q101 else gi (nI m) 4096 (some (M.1 22 (Int32.toNatClampNeg (nI m)))))) fun q104 => some q104) = some x ∧ LSt (fun q => RM T d m q ∨ ∃ t, t < s + 1 ∧ m.testBit t = true ∧ SB T d (ndf m (2 ^ t)) q) x := by
      have hgm : ∀ {α : Type} (z : Option α), gi (nI m) 4096 z = z := fun z => z_gi (by omega) (by decide) z
      have him : Int32.toNatClampNeg (nI m) = m := z_ix (by omega)
      simp only [hgm, him]
      by_cases hb : m.testBit s = true
      · have hlt : ndf m (2 ^ s) < m := by
          have h1 := ndf_le m (2 ^ s)
          have h2 : ndf m (2 ^ s) ≠ m := by
            intro z
            have := congrArg (fun x => x.testBit s) z
            simp only [ndf_bit, Nat.testBit_two_pow_self, Bool.not_true, Bool.and_false] at this
            rw [hb] at this
            cases this
          omega
        have hc := hL _ hlt
        rw [if_pos hb, z_gi (by omega) (by decide), z_ix (by omega), z_ob]
        refine ⟨if M.1 22 (ndf m (2 ^ s)) = -1 then M.1 22 m else if M.1 22 m = -1 ∨ ¬ M.1 22 m ≤ M.1 22 (ndf m (2 ^ s)) then M.1 22 (ndf m (2 ^ s)) else M.1 22 m, ?_, (LSt_or hm0 hc).cong fun q => ?_⟩
        · by_cases h1 : M.1 22 (ndf m (2 ^ s)) = -1
          · rw [if_pos h1, if_pos h1, z_ob]
          · rw [if_neg h1, if_neg h1]
            by_cases h2 : M.1 22 m = -1
            · rw [if_pos h2, if_pos (Or.inl h2), z_ob, if_pos rfl, z_ob]
            · by_cases h3 : M.1 22 m ≤ M.1 22 (ndf m (2 ^ s))
              · rw [if_neg h2, if_pos h3, if_neg (fun z => z.elim h2 (fun z => z h3)), z_ob, if_neg nft, z_ob]
              · rw [if_neg h2, if_neg h3, if_pos (Or.inr h3), z_ob, if_pos rfl, z_ob]
        · constructor
          · rintro ((h | ⟨t, t1, t2⟩) | h)
            · exact Or.inl h
            · exact Or.inr ⟨t, by omega, t2⟩
            · exact Or.inr ⟨s, by omega, hb, h⟩
          · rintro (h | ⟨t, t1, t2⟩)
            · exact Or.inl (Or.inl h)
            · rcases (show t < s ∨ t = s by omega) with h | h
              · exact Or.inl (Or.inr ⟨t, h, t2⟩)
              · subst h; exact Or.inr t2.2
      · rw [if_neg hb, z_ob, if_pos rfl, z_ob]
        refine ⟨_, rfl, hm0.cong fun q => ⟨?_, ?_⟩⟩
        · rintro (h | ⟨t, t1, t2⟩)
          · exact Or.inl h
          · exact Or.inr ⟨t, by omega, t2⟩
        · rintro (h | ⟨t, t1, t2, t3⟩)
          · exact Or.inl h
          · rcases (show t < s ∨ t = s by omega) with h | h
            · exact Or.inr ⟨t, h, t2, t3⟩
            · subst h; exact absurd t2 hb
    have go : ∀ (F : Option Int32) (G : Int32 → Option Int32) (H : Int32 → Option Mem), (ob F fun b => ob (G b) fun q => some q) = some x → (ob F fun b => ob (G b) H) = H x := by
      intro F G H h
      cases F with
      | none => cases h
      | some b =>
        rw [z_ob] at h ⊢
        cases hG : G b with
        | none => rw [hG] at h; cases h
        | some y =>
          rw [hG, z_ob] at h
          rw [z_ob, Option.some.inj h]
    rw [go _ _ _ hx, z_gi (show m < 4096 by omega) (by decide), z_ix (show m < 2147483648 by omega), z_lt, z_lt, nI_1]
    obtain ⟨M', r1, r2, r3, r4⟩ := ih (s + 1) f (wr M 22 m x) (by omega) (by omega) (by rw [wr_cell _ _ (by decide)]; exact h40) (fun L hL2 => by rw [wr_at, if_neg (by omega)]; exact hL L hL2) (by rw [wr_at, if_pos ⟨rfl, rfl⟩]; exact hxS)
    exact ⟨M', r1, (kp.wr _ _ _ _).tr r2, fun L h => by rw [r3 L h, wr_at, if_neg (fun z => h z.2)], r4⟩
/-- the least minutes of a set's own ring, as the reference reads it -/
theorem y_own {T : Twn} (hT : Twf T) {M : Mem} (hY : YTw T M) (hF : FWD T M) {d m : Nat} (hd : d < 512) (hm : m < 2 ^ T.1 1) (h0 : m ≠ 0) : LSt (WS T m (T.1 0)) (M.1 19 (9 * m + T.1 0)) ∧ (rng T d m (T.1 0) = true ↔ nI (pas T m) &&& nI d = nI d) := by
  have hps := pas_lt hT m
  refine ⟨hF m (T.1 0) hm hT.1.1, ?_⟩
  have hand : pas T m &&& d < 2147483648 := Nat.lt_of_le_of_lt Nat.and_le_left (by omega)
  rw [rng_iff, z_and, z_eq hand (by omega)]
  exact ⟨fun h => h.2.2, fun h => ⟨h0, rfl, h⟩⟩
theorem y_rw2 {T : Twn} (hT : Twf T) (hN : T.1 1 ≤ 12) {d : Nat} (hd : d < 512) : ∀ (j i f : Nat) (M : Mem), i + j = 2 ^ T.1 1 → j < f → YTw T M → FWD T M → (∀ L, L < i → LSt (SB T d L) (M.1 22 L)) →
    ∃ M', FX9_ringsWithin_L2 f (nI d) (nI i) M = some M' ∧ kp 22 M M' ∧ ∀ L, L < 2 ^ T.1 1 → LSt (SB T d L) (M'.1 22 L) := by
  have hp : 2 ^ T.1 1 ≤ 4096 := Nat.pow_le_pow_right (n := 2) (by decide) hN
  have hd9 := hT.1.1
  intro j
  induction j with
  | zero =>
    intro i f M hi hf hY hF hM
    obtain ⟨f, rfl⟩ : ∃ g, f = g + 1 := ⟨f - 1, by omega⟩
    have : i = 2 ^ T.1 1 := by omega
    subst this
    rw [FX9_ringsWithin_L2, hY.1.2.1, z_shl1 (by omega), if_pos (Int32.le_refl _)]
    exact ⟨M, rfl, kp.rf _ _, hM⟩
  | succ j ih =>
    intro i f M hi hf hY hF hM
    obtain ⟨f, rfl⟩ : ∃ g, f = g + 1 := ⟨f - 1, by omega⟩
    have hm : i < 2 ^ T.1 1 := by omega
    have hps := pas_lt hT i
    rw [FX9_ringsWithin_L2, hY.1.2.1, z_shl1 (by omega), if_neg (nI_ge (by omega) (by omega)), hY.1.1]
    obtain ⟨x, hx, hxS⟩ : ∃ x : Int32, (ob (if nI i = 0 then some (-1) else gi (9 * nI i + nI (T.1 0)) 73728 (some (M.1 19 (Int32.toNatClampNeg (9 * nI i + nI (T.1 0)))))) fun q101 => ob (if q101 = -1 then some false else ob (FX9_passedBy (nI i) M) fun q118 => if q118 &&& nI d = nI d then some true else some false) fun b104 => some (if b104 = true then q101 else -1)) = some x ∧ LSt (RM T d i) x := by
      by_cases h0 : i = 0
      · subst h0
        rw [if_pos (show nI 0 = 0 from rfl), z_ob, if_pos rfl, z_ob]
        exact ⟨-1, rfl, Or.inl ⟨rfl, fun q h => (rng_iff.mp h.1).1 rfl⟩⟩
      · obtain ⟨g1, g2⟩ := y_own hT hY hF hd hm h0
        rw [if_neg (show ¬ nI i = 0 from fun z => h0 ((z_eq (b := 0) (by omega) (by decide)).mp z)), show (9 : Int32) = nI 9 from rfl, pk_mul, nI_add, z_gi (by omega) (by decide), z_ix (by omega), z_ob, y_passedBy hT hY hm]
        rcases g1 with ⟨c1, c2⟩ | ⟨q, c1, c2, c3, c4⟩
        · rw [c1, if_pos rfl, z_ob, if_neg nft]
          exact ⟨-1, rfl, Or.inl ⟨rfl, fun q h => c2 q h.2⟩⟩
        · rw [c2, if_neg (z_m1 (by omega)), z_ob]
          by_cases hr : rng T d i (T.1 0) = true
          · rw [if_pos (g2.mp hr), z_ob, if_pos rfl]
            exact ⟨_, rfl, Or.inr ⟨q, c1, rfl, ⟨hr, c3⟩, fun p h => c4 p h.2⟩⟩
          · rw [if_neg (fun z => hr (g2.mpr z)), z_ob, if_neg nft]
            exact ⟨-1, rfl, Or.inl ⟨rfl, fun q h => hr h.1⟩⟩
    have go : ∀ (F : Option Int32) (G : Int32 → Option Bool) (H : Int32 → Option Mem), (ob F fun q => ob (G q) fun b => some (if b = true then q else -1)) = some x → (ob F fun q => ob (G q) fun b => lt (α := Int32) (if b = true then q else -1) H) = H x := by
      intro F G H h
      cases F with
      | none => cases h
      | some q =>
        rw [z_ob] at h ⊢
        cases hG : G q with
        | none => rw [hG] at h; cases h
        | some y =>
          rw [hG, z_ob] at h
          rw [z_ob, Option.some.inj h, z_lt]
    rw [go _ _ _ hx, z_gi (show i < 4096 by omega) (by decide), z_ix (show i < 2147483648 by omega), z_lt]
    obtain ⟨M2, r1, r2, r3, r4⟩ := y_rw65 (d := d) hT hN hm (T.1 1) 0 FU (wr M 22 i x) (by omega) (by rw [z_FU]; omega) (by rw [wr_cell _ _ (by decide)]; exact hY.1.2.1) (fun L hL => by rw [wr_at, if_neg (by omega)]; exact hM L hL) (by
      rw [wr_at, if_pos ⟨rfl, rfl⟩]
      exact hxS.cong fun q => ⟨Or.inl, fun h => h.elim id (fun ⟨t, h, _⟩ => absurd h (Nat.not_lt_zero t))⟩)
    have k2 : kp 22 M M2 := (kp.wr _ _ _ _).tr r2
    rw [show nI 0 = 0 from rfl] at r1
    rw [r1, z_ob, z_lt, nI_1]
    obtain ⟨M', s1, s2, s3⟩ := ih (i + 1) f M2 (by omega) (by omega) (hY.kp k2 (by omega)) (fun m c a b => by rw [k2 19 (by decide)]; exact hF m c a b) (fun L hL => by
      rcases (show L = i ∨ L < i by omega) with h | h
      · rw [h]; exact r4
      · rw [r3 L (by omega), wr_at, if_neg (by omega)]; exact hM L h)
    exact ⟨M', s1, k2.tr s2, s3⟩
theorem y_tw95 {T : Twn} (hT : Twf T) (hN : T.1 1 ≤ 12) {d e : Nat} (hd : d < 512) {M : Mem} (hY : YTw T M) (hF : FWD T M) (h22 : ∀ L, L < 2 ^ T.1 1 → LSt (SB T e L) (M.1 22 L)) : ∀ (j i f : Nat) (x : Int32), 1 ≤ i → i + j = 2 ^ T.1 1 → j < f → LSt (fun q => ∃ m q1 q2, m < i ∧ RM T d m q1 ∧ SB T e (ndf (2 ^ T.1 1 - 1) (spt T m)) q2 ∧ q = q1 + q2) x →
    ∃ y, FX9_two_L95 f (nI d) x (nI i) M = some y ∧ LSt (TW2 T d e) y := by
  have hp : 2 ^ T.1 1 ≤ 4096 := Nat.pow_le_pow_right (n := 2) (by decide) hN
  have hp1 : 1 ≤ 2 ^ T.1 1 := Nat.two_pow_pos _
  have hd9 := hT.1.1
  intro j
  induction j with
  | zero =>
    intro i f x h1 hi hf hx
    obtain ⟨f, rfl⟩ : ∃ g, f = g + 1 := ⟨f - 1, by omega⟩
    have : i = 2 ^ T.1 1 := by omega
    subst this
    rw [FX9_two_L95, hY.1.2.1, z_shl1 (by omega), if_pos (Int32.le_refl _)]
    refine ⟨x, rfl, hx.cong fun q => ⟨?_, ?_⟩⟩
    · rintro ⟨m, p1, p2, -, h⟩
      exact ⟨m, p1, p2, h⟩
    · rintro ⟨m, p1, p2, h⟩
      exact ⟨m, p1, p2, (RM_lt hT h.1).1, h⟩
  | succ j ih =>
    intro i f x h1 hi hf hx
    obtain ⟨f, rfl⟩ : ∃ g, f = g + 1 := ⟨f - 1, by omega⟩
    have hm : i < 2 ^ T.1 1 := by omega
    have hps := pas_lt hT i
    obtain ⟨g1, g2⟩ := y_own hT hY hF hd hm (show i ≠ 0 by omega)
    rw [FX9_two_L95, hY.1.2.1, z_shl1 (by omega), if_neg (nI_ge (by omega) (by omega)), hY.1.1, show (9 : Int32) = nI 9 from rfl, pk_mul, nI_add, z_gi (by omega) (by decide), z_ix (by omega)]
    simp only [z_lt]
    rw [nI_1, y_passedBy hT hY hm, y_spentBy hT hY hm]
    have skip : (∀ q, ¬ RM T d i q) → ∃ y, FX9_two_L95 f (nI d) x (nI (i + 1)) M = some y ∧ LSt (TW2 T d e) y := fun hno => by
      refine ih (i + 1) f x (by omega) (by omega) (by omega) (hx.cong fun q => ⟨?_, ?_⟩)
      · rintro ⟨m, p1, p2, a, b⟩
        exact ⟨m, p1, p2, by omega, b⟩
      · rintro ⟨m, p1, p2, a, b⟩
        rcases (show m < i ∨ m = i by omega) with h | h
        · exact ⟨m, p1, p2, h, b⟩
        · subst h; exact absurd b.1 (hno p1)
    rcases g1 with ⟨c1, c2⟩ | ⟨p, c1, c2, c3, c4⟩
    · rw [c1, if_pos rfl, z_ob, if_neg nft]
      exact skip fun q h => c2 q h.2
    · rw [c2, if_neg (z_m1 (by omega)), z_ob]
      by_cases hr : rng T d i (T.1 0) = true
      · have hsp := spt_lt hT i
        have hnd : ndf (2 ^ T.1 1 - 1) (spt T i) < 2 ^ T.1 1 := Nat.lt_of_le_of_lt (ndf_le _ _) (by omega)
        rw [if_pos (g2.mp hr), z_ob, if_pos rfl, z_ob, z_sub1 hp1, z_not, z_gi (by omega) (by decide), z_ix (by omega)]
        refine ih (i + 1) f _ (by omega) (by omega) (by omega) ?_
        have hple : p ≤ 1287 := WS_le hT c3
        have up : ∀ y, LSt (fun q => (∃ m q1 q2, m < i ∧ RM T d m q1 ∧ SB T e (ndf (2 ^ T.1 1 - 1) (spt T m)) q2 ∧ q = q1 + q2) ∨ ∃ q2, SB T e (ndf (2 ^ T.1 1 - 1) (spt T i)) q2 ∧ q = p + q2) y → LSt (fun q => ∃ m q1 q2, m < i + 1 ∧ RM T d m q1 ∧ SB T e (ndf (2 ^ T.1 1 - 1) (spt T m)) q2 ∧ q = q1 + q2) y := by
          intro y hy
          rcases hy with ⟨h1, h2⟩ | ⟨q, h1, h2, h3, h4⟩
          · refine Or.inl ⟨h1, fun q ⟨m, p1, p2, a1, a2, a3, a4⟩ => ?_⟩
            rcases (show m < i ∨ m = i by omega) with h | h
            · exact h2 q (Or.inl ⟨m, p1, p2, h, a2, a3, a4⟩)
            · subst h; exact h2 (p + p2) (Or.inr ⟨p2, a3, rfl⟩)
          · refine Or.inr ⟨q, h1, h2, ?_, fun q' hq' => ?_⟩
            · rcases h3 with ⟨m, p1, p2, a1, a2⟩ | ⟨p2, a3, a4⟩
              · exact ⟨m, p1, p2, by omega, a2⟩
              · exact ⟨i, p, p2, by omega, ⟨hr, c3⟩, a3, a4⟩
            · obtain ⟨m, p1, p2, a1, a2, a3, a4⟩ := hq'
              rcases (show m < i ∨ m = i by omega) with h | h
              · exact h4 q' (Or.inl ⟨m, p1, p2, h, a2, a3, a4⟩)
              · subst h
                have k1 := h4 (p + p2) (Or.inr ⟨p2, a3, rfl⟩)
                have k2 := c4 p1 a2.2
                omega
        apply up
        rcases h22 _ hnd with ⟨b1, b2⟩ | ⟨q2, b1, b2, b3, b4⟩
        · rw [if_pos b1]
          exact LSt_no hx fun q ⟨q2, h, _⟩ => b2 q2 h
        · have hq2 : q2 ≤ 1287 := SB_le hT b3
          rw [b2, if_neg (z_m1 (by omega)), nI_add]
          have e := LSt_un (q := p + q2) (by omega) hx (S2 := fun q => ∃ q2, SB T e (ndf (2 ^ T.1 1 - 1) (spt T i)) q2 ∧ q = p + q2) ⟨q2, b3, rfl⟩ (fun q' ⟨r, h, h'⟩ => by have := b4 r h; omega)
          simp only [b_if, decide_eq_true_eq]
          exact e
      · rw [if_neg (fun z => hr (g2.mpr z)), z_ob, if_neg nft]
        exact skip fun q h => hr h.1
