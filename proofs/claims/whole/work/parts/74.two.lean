/-! two rings one behind the other: what is meant; the class's table -/
def RM (T : Twn) (d m q : Nat) : Prop := rng T d m (T.1 0) = true ∧ WS T m (T.1 0) q
def SB (T : Twn) (d L q : Nat) : Prop := ∃ m, sub m L ∧ RM T d m q
def TW2 (T : Twn) (d e q : Nat) : Prop := ∃ m q1 q2, RM T d m q1 ∧ SB T e (ndf (2 ^ T.1 1 - 1) (spt T m)) q2 ∧ q = q1 + q2
def SBk (T : Twn) (d k L q : Nat) : Prop := ∃ m, sub m L ∧ (∀ i, k ≤ i → m.testBit i = L.testBit i) ∧ RM T d m q
/-- the least, or the class's mark for none -/
def LSn (S : Nat → Prop) (x : Int32) : Prop := (x = nI 1048576 ∧ ∀ q, ¬ S q) ∨ ∃ q, q < 100000 ∧ x = nI q ∧ S q ∧ ∀ q', S q' → q ≤ q'
theorem LSn.cong {S S' : Nat → Prop} {x : Int32} (h : LSn S x) (he : ∀ q, S q ↔ S' q) : LSn S' x := by
  have : S = S' := funext fun q => propext (he q)
  rw [← this]
  exact h
theorem LSn_nn {S : Nat → Prop} {x : Int32} (h : LSn S x) : ∃ n, n ≤ 1048576 ∧ x = nI n := by
  rcases h with ⟨h1, -⟩ | ⟨q, h1, h2, -⟩
  · exact ⟨_, Nat.le_refl _, h1⟩
  · exact ⟨q, by omega, h2⟩
theorem LSn_or {S S2 : Nat → Prop} {x y : Int32} (h : LSn S x) (h2 : LSn S2 y) : LSn (fun q => S q ∨ S2 q) (if y < x then y else x) := by
  rcases h with ⟨a1, a2⟩ | ⟨q, a1, a2, a3, a4⟩ <;> rcases h2 with ⟨b1, b2⟩ | ⟨p, b1, b2, b3, b4⟩
  · rw [a1, b1, if_neg (by decide)]
    exact Or.inl ⟨rfl, fun q h => h.elim (a2 q) (b2 q)⟩
  · rw [a1, b2, if_pos (nI_lt (by omega) (by decide))]
    exact Or.inr ⟨p, b1, rfl, Or.inr b3, fun q' h => h.elim (fun z => absurd z (a2 q')) (b4 q')⟩
  · rw [a2, b1, if_neg (by rw [z_lts (by decide) (by omega)]; omega)]
    exact Or.inr ⟨q, a1, rfl, Or.inl a3, fun q' h => h.elim (a4 q') (fun z => absurd z (b2 q'))⟩
  · rw [a2, b2, if_congr_prop (z_lts (show p < 2147483648 by omega) (show q < 2147483648 by omega))]
    by_cases h : p < q
    · rw [if_pos h]
      exact Or.inr ⟨p, b1, rfl, Or.inr b3, fun q' g => g.elim (fun z => by have := a4 q' z; omega) (b4 q')⟩
    · rw [if_neg h]
      exact Or.inr ⟨q, a1, rfl, Or.inl a3, fun q' g => g.elim (a4 q') (fun z => by have := b4 q' z; omega)⟩
theorem sub_eq {a b : Nat} (h : sub a b) (h2 : sub b a) : a = b :=
  Nat.eq_of_testBit_eq fun i => by rw [Bool.eq_iff_iff]; exact ⟨h i, h2 i⟩
theorem SBk_0 {T : Twn} {d L q : Nat} : SBk T d 0 L q ↔ RM T d L q := by
  constructor
  · rintro ⟨m, -, h2, h3⟩
    have : m = L := Nat.eq_of_testBit_eq fun i => h2 i (Nat.zero_le i)
    rw [← this]; exact h3
  · exact fun h => ⟨L, sub_rf L, fun _ _ => rfl, h⟩
theorem SBk_n {T : Twn} {d n L q : Nat} (hL : L < 2 ^ n) : SBk T d n L q ↔ SB T d L q := by
  constructor
  · rintro ⟨m, h1, -, h3⟩
    exact ⟨m, h1, h3⟩
  · rintro ⟨m, h1, h3⟩
    refine ⟨m, h1, fun i hi => ?_, h3⟩
    have hb : L.testBit i = false := Nat.testBit_lt_two_pow (Nat.lt_of_lt_of_le hL (Nat.pow_le_pow_right (by decide) hi))
    rw [hb]
    cases hm : m.testBit i with
    | false => rfl
    | true => rw [h1 i hm] at hb; cases hb
theorem SBk_s {T : Twn} {d k L q : Nat} : SBk T d (k + 1) L q ↔ SBk T d k L q ∨ (L.testBit k = true ∧ SBk T d k (L ^^^ 2 ^ k) q) := by
  constructor
  · rintro ⟨m, h1, h2, h3⟩
    by_cases hm : m.testBit k = L.testBit k
    · refine Or.inl ⟨m, h1, fun i hi => ?_, h3⟩
      rcases (show i = k ∨ k + 1 ≤ i by omega) with h | h
      · rw [h]; exact hm
      · exact h2 i h
    · have hmk : m.testBit k = false := by
        cases e : m.testBit k with
        | false => rfl
        | true => rw [h1 k e] at hm; exact absurd e hm
      have hLk : L.testBit k = true := by
        cases e : L.testBit k with
        | true => rfl
        | false => rw [hmk, e] at hm; exact absurd rfl hm
      refine Or.inr ⟨hLk, m, fun i hi => ?_, fun i hi => ?_, h3⟩
      · rw [fb_bit_flip, h1 i hi]
        by_cases h : i = k
        · rw [h, hmk] at hi; cases hi
        · simp [h]
      · rw [fb_bit_flip]
        by_cases h : i = k
        · rw [h, hmk, hLk]; simp
        · rw [h2 i (by omega)]; simp [h]
  · rintro (⟨m, h1, h2, h3⟩ | ⟨hLk, m, h1, h2, h3⟩)
    · exact ⟨m, h1, fun i hi => h2 i (by omega), h3⟩
    · refine ⟨m, fun i hi => ?_, fun i hi => ?_, h3⟩
      · have := h1 i hi
        rw [fb_bit_flip] at this
        by_cases h : i = k
        · rw [h]; exact hLk
        · simpa [h] using this
      · have := h2 i (by omega)
        rw [fb_bit_flip] at this
        rw [this]
        simp [show i ≠ k by omega]
theorem SBk_no {T : Twn} {d k L q : Nat} (h : L.testBit k = false) : SBk T d (k + 1) L q ↔ SBk T d k L q := by
  rw [SBk_s, h]
  simp
theorem x_ff69 {T : Twn} {d n k : Nat} (hn : n ≤ 12) (hk : k < n) : ∀ (j i f : Nat) (M : Mem), i + j = 2 ^ n → j < f → (∀ L, L < 2 ^ n → (L < i → LSn (SBk T d (k + 1) L) (M.1 41 L)) ∧ (i ≤ L → LSn (SBk T d k L) (M.1 41 L))) →
    ∃ M', FX0_fillFewest_L69 f (nI (2 ^ n)) (nI (2 ^ k)) (nI i) M = some M' ∧ kp 41 M M' ∧ M'.2 = M.2 ∧ ∀ L, L < 2 ^ n → LSn (SBk T d (k + 1) L) (M'.1 41 L) := by
  have hp : 2 ^ n ≤ 4096 := Nat.pow_le_pow_right (n := 2) (by decide) hn
  have hkn : 2 ^ k < 2 ^ n := Nat.pow_lt_pow_right (by decide) hk
  intro j
  induction j with
  | zero =>
    intro i f M hi hf hM
    obtain ⟨f, rfl⟩ : ∃ g, f = g + 1 := ⟨f - 1, by omega⟩
    have : i = 2 ^ n := by omega
    subst this
    rw [FX0_fillFewest_L69, if_pos (Int32.le_refl _)]
    exact ⟨M, rfl, kp.rf _ _, rfl, fun L hL => (hM L hL).1 hL⟩
  | succ j ih =>
    intro i f M hi hf hM
    obtain ⟨f, rfl⟩ : ∃ g, f = g + 1 := ⟨f - 1, by omega⟩
    have hin : i < 2 ^ n := by omega
    have hand : i &&& 2 ^ k < 2147483648 := Nat.lt_of_le_of_lt Nat.and_le_left (by omega)
    have e0 : nI (i &&& 2 ^ k) = 0 ↔ i.testBit k = false := (z_eq (b := 0) hand (by decide)).trans and_2p
    rw [FX0_fillFewest_L69, if_neg (nI_ge hin (by omega)), z_and, if_congr_prop e0]
    simp only [z_lt]
    rw [nI_1, z_xor]
    by_cases hb : i.testBit k = false
    · rw [if_pos hb]
      refine ih (i + 1) f M (by omega) (by omega) fun L hL => ⟨fun h => ?_, fun h => (hM L hL).2 (by omega)⟩
      rcases (show L < i ∨ L = i by omega) with h1 | h1
      · exact (hM L hL).1 h1
      · subst h1
        exact ((hM L hL).2 (Nat.le_refl _)).cong fun q => (SBk_no hb).symm
    · rw [if_neg hb]
      have hb' : i.testBit k = true := by simpa using hb
      have hx : i ^^^ 2 ^ k < 2 ^ n := Nat.xor_lt_two_pow hin hkn
      have hxk : (i ^^^ 2 ^ k).testBit k = false := by rw [fb_bit_flip, hb']; simp
      have hxi : i ^^^ 2 ^ k ≠ i := fun z => by rw [z, hb'] at hxk; cases hxk
      rw [z_gi (show i < 4096 by omega) (by decide), z_gi (show i ^^^ 2 ^ k < 4096 by omega) (by decide), z_ix (show i ^^^ 2 ^ k < 2147483648 by omega), z_ix (show i < 2147483648 by omega), z_gi (show i < 4096 by omega) (by decide)]
      have hcell : LSn (SBk T d k (i ^^^ 2 ^ k)) (M.1 41 (i ^^^ 2 ^ k)) := by
        rcases (show i ^^^ 2 ^ k < i ∨ i ≤ i ^^^ 2 ^ k by omega) with h | h
        · exact ((hM _ hx).1 h).cong fun q => SBk_no hxk
        · exact (hM _ hx).2 h
      obtain ⟨x, hx41⟩ : ∃ x, x = (if M.1 41 (i ^^^ 2 ^ k) < M.1 41 i then M.1 41 (i ^^^ 2 ^ k) else M.1 41 i) := ⟨_, rfl⟩
      rw [← hx41]
      have hcells : ∀ L, L < 2 ^ n → (L < i + 1 → LSn (SBk T d (k + 1) L) ((wr M 41 i x).1 41 L)) ∧ (i + 1 ≤ L → LSn (SBk T d k L) ((wr M 41 i x).1 41 L)) := by
        intro L hL
        rw [wr_at]
        refine ⟨fun h => ?_, fun h => ?_⟩
        · by_cases h1 : L = i
          · subst h1
            rw [if_pos ⟨rfl, rfl⟩, hx41]
            refine (LSn_or ((hM L hL).2 (Nat.le_refl _)) hcell).cong fun q => ?_
            rw [SBk_s]
            simp only [hb', true_and]
          · rw [if_neg (fun z => h1 z.2)]
            exact (hM L hL).1 (by omega)
        · rw [if_neg (by omega)]
          exact (hM L hL).2 (by omega)
      obtain ⟨M', r1, r2, r3, r4⟩ := ih (i + 1) f (wr M 41 i x) (by omega) (by omega) hcells
      exact ⟨M', r1, (kp.wr _ _ _ _).tr r2, r3, r4⟩
theorem x_ff61 {T : Twn} {d n : Nat} (hn : n ≤ 12) : ∀ (j k f : Nat) (M : Mem), k + j = n → j < f → (∀ L, L < 2 ^ n → LSn (SBk T d k L) (M.1 41 L)) →
    ∃ M', FX0_fillFewest_L61 f (nI (2 ^ n)) (nI (2 ^ k)) M = some M' ∧ kp 41 M M' ∧ M'.2 = M.2 ∧ ∀ L, L < 2 ^ n → LSn (SB T d L) (M'.1 41 L) := by
  have hp : 2 ^ n ≤ 4096 := Nat.pow_le_pow_right (n := 2) (by decide) hn
  intro j
  induction j with
  | zero =>
    intro k f M hk hf hM
    obtain ⟨f, rfl⟩ : ∃ g, f = g + 1 := ⟨f - 1, by omega⟩
    have : k = n := by omega
    subst this
    rw [FX0_fillFewest_L61, if_pos (Int32.le_refl _)]
    exact ⟨M, rfl, kp.rf _ _, rfl, fun L hL => (hM L hL).cong fun q => SBk_n hL⟩
  | succ j ih =>
    intro k f M hk hf hM
    obtain ⟨f, rfl⟩ : ∃ g, f = g + 1 := ⟨f - 1, by omega⟩
    have hkn : 2 ^ k < 2 ^ n := Nat.pow_lt_pow_right (by decide) (by omega)
    obtain ⟨M1, a1, a2, a3, a4⟩ := x_ff69 (T := T) (d := d) hn (show k < n by omega) (2 ^ n) 0 FU M (by omega) (by rw [z_FU]; omega) (fun L hL => ⟨fun h => absurd h (Nat.not_lt_zero L), fun _ => hM L hL⟩)
    rw [show nI 0 = 0 from rfl] at a1
    have es : nI (2 ^ k) <<< ((1 : Int32) &&& 31) = nI (2 ^ (k + 1)) := by
      rw [show (1 : Int32) = nI 1 from rfl, z_shl _ (by decide)]
      rfl
    rw [FX0_fillFewest_L61, if_neg (nI_ge hkn (by omega)), a1, z_ob, es, z_lt]
    obtain ⟨M', r1, r2, r3, r4⟩ := ih (k + 1) f M1 (by omega) (by omega) a4
    exact ⟨M', r1, a2.tr r2, r3.trans a3, r4⟩
theorem SK.fr {T : Twn} {k d : Nat} {Q : List Nat} {κ : Nat → Nat} {M M' : Mem} (h : SK T k d Q κ M) (h37 : M'.1 37 = M.1 37) (h39 : M'.1 39 = M.1 39) (h40 : M'.1 40 = M.1 40) (h2 : M'.2 = M.2) : SK T k d Q κ M' := by
  unfold SK QS at h ⊢
  rw [h37, h39, h40, h2]
  exact h
/-- the minutes of a set in the row are the least -/
theorem x_minQ {T : Twn} (hT : Twf T) {Q : List Nat} {κ : Nat → Nat} {M : Mem} (hS : SK T 0 512 Q κ M) {m : Nat} (hm : m ∈ Q) : ∃ c q, wk T m c ∧ FX0_minutes (nI m) M = some (nI q) ∧ q < 100000 ∧ DM T m c q ∧ M.1 39 m = nI (stt T m c) := by
  have hN := hT.1.2.1
  obtain ⟨w, w1, w2, w3, w4⟩ := hS.1.2.2.2.1 m hm
  have hw := Pre_wk hT (wk_0 hT) w1
  rw [w2] at hw
  have hK := w4 trivial
  have hm8 := p13 hN hw.1
  have hW : WS T m (cE T (T.1 0) w) (tmE T 0 0 (T.1 0) w) := ⟨w, w1, w2, rfl, rfl⟩
  refine ⟨_, tmE T 0 0 (T.1 0) w, hw, x_min hT w1 hm8 (by rw [hK.1, hK.2]), ?_, ⟨hW, fun q' hq' => ?_⟩, w3⟩
  · have := WS_le hT hW
    omega
  · obtain ⟨w', v1, v2, v3, rfl⟩ := hq'
    have h6 := (hS.2 w' v1).2
    rw [v2] at h6
    exact Kw_tm0 hT (d := 0) v1 (by rw [← hK.2]; exact h6)
theorem x_ff2 {T : Twn} (hT : Twf T) (hN : T.1 1 ≤ 12) {d : Nat} (hd : d < 1024) {Q : List Nat} {κ : Nat → Nat} : ∀ (j i f : Nat) (M : Mem), i + j = 2 ^ T.1 1 → j < f → SK T 0 512 Q κ M → (∀ L, L < i → LSn (RM T d L) (M.1 41 L)) →
    ∃ M', FX0_fillFewest_L2 f (nI d) (nI (2 ^ T.1 1)) (nI i) M = some M' ∧ kp 41 M M' ∧ M'.2 = M.2 ∧ ∀ L, L < 2 ^ T.1 1 → LSn (RM T d L) (M'.1 41 L) := by
  have hp : 2 ^ T.1 1 ≤ 4096 := Nat.pow_le_pow_right (n := 2) (by decide) hN
  intro j
  induction j with
  | zero =>
    intro i f M hi hf hS hM
    obtain ⟨f, rfl⟩ : ∃ g, f = g + 1 := ⟨f - 1, by omega⟩
    have : i = 2 ^ T.1 1 := by omega
    subst this
    rw [FX0_fillFewest_L2, if_pos (Int32.le_refl _)]
    exact ⟨M, rfl, kp.rf _ _, rfl, hM⟩
  | succ j ih =>
    intro i f M hi hf hS hM
    obtain ⟨f, rfl⟩ : ∃ g, f = g + 1 := ⟨f - 1, by omega⟩
    have hin : i < 2 ^ T.1 1 := by omega
    obtain ⟨x, e1, e2⟩ : ∃ x : Int32, (ob (if M.1 39 i = 0 then some false else ob (FX0_isRing (nI i) (nI d) M) fun q119 => if q119 = 0 then some false else some true) fun b102 => ob (if (if b102 = true then (1 : Int32) else 0) = 0 then some (1048576 : Int32) else ob (FX0_minutes (nI i) M) fun q115 => some q115) fun q107 => some q107) = some x ∧ LSn (RM T d i) x := by
      by_cases hq : i ∈ Q
      · obtain ⟨c, q, c1, c2, c3, c4, c5⟩ := x_minQ hT hS hq
        have hne : ¬ M.1 39 i = 0 := by
          rw [c5]
          have hlt := pk3_lt (show c < 16 by have := c1.2.1; omega) (pas_lt hT i) (p13 hT.1.2.1 (spt_lt hT i))
          rw [show (0 : Int32) = nI 0 from rfl, z_eq (show stt T _ _ < 2147483648 from Nat.lt_trans hlt (by decide)) (by decide)]
          exact pk3_ne c1.2.2.1
        rw [if_neg hne, x_isRing hT (show i < 8192 by omega) hd c1.2.1 hS.1.1.2 (fun _ => c5), z_ob]
        cases hr : rng T d i c with
        | false =>
          simp only [Bool.false_eq_true, if_false, if_true, z_ob]
          refine ⟨_, rfl, Or.inl ⟨rfl, fun p hp => ?_⟩⟩
          have := par_inj (WS_wk hT hp.2).2.2.2 c1.2.2.2
          rw [← this, hp.1] at hr
          cases hr
        | true =>
          have hc := (rng_iff.mp hr).2.1
          simp only [if_true, if_neg n10, z_ob, c2]
          rw [hc] at hr c4
          exact ⟨_, rfl, Or.inr ⟨q, c3, rfl, ⟨hr, c4.1⟩, fun p hp => c4.2 p hp.2⟩⟩
      · rw [if_pos (hS.1.2.2.2.2.1 i (by omega) hq), z_ob]
        simp only [Bool.false_eq_true, if_false, if_true, z_ob]
        refine ⟨_, rfl, Or.inl ⟨rfl, fun p hp => hq ?_⟩⟩
        exact ((SK_mem hT hS).mpr ⟨p, hp.2⟩).1
    rw [FX0_fillFewest_L2, if_neg (nI_ge hin (by omega)), z_gi (by omega) (by decide), z_ix (by omega)]
    simp only [z_lt]
    have go : ∀ (F : Option Bool) (G : Bool → Option Int32) (H : Int32 → Option Mem), (ob F fun b => ob (G b) fun q => some q) = some x → (ob F fun b => ob (G b) H) = H x := by
      intro F G H h
      cases F with
      | none => cases h
      | some b =>
        rw [z_ob] at h ⊢
        cases hG : G b with
        | none => rw [hG] at h; cases h
        | some y =>
          rw [hG, z_ob] at h
          rw [z_ob, Option.some.inj h]
    rw [go _ _ _ e1, z_gi (by omega) (by decide), nI_1]
    obtain ⟨M', r1, r2, r3, r4⟩ := ih (i + 1) f (wr M 41 i x) (by omega) (by omega) (hS.fr (wr_cell _ _ (by decide)) (wr_cell _ _ (by decide)) (wr_cell _ _ (by decide)) rfl) (fun L hL => by
      rw [wr_at]
      by_cases h : L = i
      · subst h
        rw [if_pos ⟨rfl, rfl⟩]
        exact e2
      · rw [if_neg (fun z => h z.2)]
        exact hM L (by omega))
    exact ⟨M', r1, (kp.wr _ _ _ _).tr r2, r3, r4⟩
theorem x_fill {T : Twn} (hT : Twf T) (hN : T.1 1 ≤ 12) {d : Nat} (hd : d < 1024) {Q : List Nat} {κ : Nat → Nat} {M : Mem} (hS : SK T 0 512 Q κ M) : ∃ M', FX0_fillFewest (nI d) (nI (2 ^ T.1 1)) M = some M' ∧ kp 41 M M' ∧ M'.2 = M.2 ∧ ∀ L, L < 2 ^ T.1 1 → LSn (SB T d L) (M'.1 41 L) := by
  have hp : 2 ^ T.1 1 ≤ 4096 := Nat.pow_le_pow_right (n := 2) (by decide) hN
  obtain ⟨M1, a1, a2, a3, a4⟩ := x_ff2 hT hN hd (2 ^ T.1 1) 0 FU M (by omega) (by rw [z_FU]; omega) hS (fun L hL => absurd hL (Nat.not_lt_zero L))
  obtain ⟨M2, b1, b2, b3, b4⟩ := x_ff61 (T := T) (d := d) hN (T.1 1) 0 FU M1 (by omega) (by rw [z_FU]; omega) (fun L hL => (a4 L hL).cong fun q => SBk_0.symm)
  unfold FX0_fillFewest
  rw [show nI 0 = 0 from rfl] at a1
  rw [show nI (2 ^ 0) = 1 from rfl] at b1
  rw [a1, z_ob, b1, z_ob]
  exact ⟨M2, rfl, a2.tr b2, b3.trans a3, b4⟩
