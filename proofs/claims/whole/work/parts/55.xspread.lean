/-! the class's search: spread -/
def XC (T : Twn) (n : Nat) (Kf : Prop) (M : Mem) : Prop := (M.1 31 1 = nI n ∧ n ≤ 12) ∧ (∀ s, s < n → M.1 32 s = nI (T.2.1 1 s) ∧ M.1 33 s = nI (T.2.1 2 s) ∧ M.1 34 s = nI (T.2.1 3 s)) ∧ (Kf → ∀ s l c, s < n → l < 2 → c < 9 → T.2.2 l c s ≠ 0 → M.1 36 (32 * s + 16 * l + c) = nI (T.2.2 l c s))
/-- cells that the search leaves alone -/
def ks (M M' : Mem) : Prop := ∀ c, c ≠ 37 → c ≠ 39 → c ≠ 40 → M'.1 c = M.1 c
theorem ks.rf (M : Mem) : ks M M := fun _ _ _ _ => rfl
theorem ks.tr {A B C : Mem} (h : ks A B) (h2 : ks B C) : ks A C := fun c a b d => (h2 c a b d).trans (h c a b d)
theorem XC.ks {T : Twn} {n : Nat} {Kf : Prop} {M M' : Mem} (h : XC T n Kf M) (hk : ks M M') : XC T n Kf M' := by
  unfold XC at h ⊢
  rw [hk 31 (by decide) (by decide) (by decide), hk 32 (by decide) (by decide) (by decide), hk 33 (by decide) (by decide) (by decide), hk 34 (by decide) (by decide) (by decide), hk 36 (by decide) (by decide) (by decide)]
  exact h
/-- street t's step from a set is in the row, its key no more than by that step -/
def dn (T : Twn) (k : Nat) (Kf : Prop) (Q : List Nat) (κ : Nat → Nat) (m c t : Nat) : Prop := (m ||| 2 ^ t) ∈ Q ∧ (Kf → κ (m ||| 2 ^ t) ≤ κ m + T.2.2 (ldw T k m) c t * 16 ^ 13 + t * 16 ^ (12 - pc m))
theorem x_sp83 {T : Twn} (hT : Twf T) {k d n : Nat} {Kf : Prop} {m c R : Nat} (hw : wk T m c) (hr : rng T d m c = false) (hR8 : R < 8192) (hR : ∀ s, R.testBit s = true ↔ stp T k m c s = true) (hRn : ∀ s, stp T k m c s = true → s < n) : ∀ (j s f : Nat) (Q : List Nat) (κ : Nat → Nat) (M : Mem), s + j = n → j < f → QS T k d Kf Q κ M → m ∈ Q → XC T n Kf M → (Kf → ∀ x, x ∈ Q → pc x ≤ pc m + 1) → (∀ t, t < s → stp T k m c t = true → dn T k Kf Q κ m c t) →
    ∃ Q' κ' M', FX0_spread_L83 f (nI m) (nI (ldw T k m)) (nI R) (nI s) M = some M' ∧ QS T k d Kf Q' κ' M' ∧ ks M M' ∧ (∃ E, Q' = Q ++ E ∧ ∀ x, x ∈ E → ∃ t, stp T k m c t = true ∧ x = m ||| 2 ^ t) ∧ (Kf → ∀ x, x ∈ Q' → pc x ≤ pc m + 1) ∧ (∀ t, stp T k m c t = true → dn T k Kf Q' κ' m c t) ∧ (Kf → ∀ x, x ∈ Q → κ' x ≤ κ x) ∧ (Kf → ∀ x, pc x ≠ pc m + 1 → κ' x = κ x) := by
  have hN := hT.1.2.1
  have hm8 := p13 hN hw.1
  intro j
  induction j with
  | zero =>
    intro s f Q κ M hsj hf hQ hm hX hpc hdn
    obtain ⟨f, rfl⟩ : ∃ g, f = g + 1 := ⟨f - 1, by omega⟩
    have : s = n := by omega
    subst this
    rw [FX0_spread_L83, hX.1.1, if_pos (Int32.le_refl _)]
    exact ⟨Q, κ, M, rfl, hQ, ks.rf M, ⟨[], (List.append_nil Q).symm, fun x h => by cases h⟩, hpc, fun t ht => hdn t (hRn t ht) ht, fun _ _ _ => Nat.le_refl _, fun _ _ _ => rfl⟩
  | succ j ih =>
    intro s f Q κ M hsj hf hQ hm hX hpc hdn
    obtain ⟨f, rfl⟩ : ∃ g, f = g + 1 := ⟨f - 1, by omega⟩
    have hn := hX.1.2
    have hsn : s < n := by omega
    rw [FX0_spread_L83, hX.1.1, if_neg (nI_ge hsn (by omega)), if_congr_prop (z_b0 (show R < 2147483648 by omega) (show s < 32 by omega))]
    cases hs : stp T k m c s with
    | false =>
      have hb : R.testBit s = false := by
        rw [← Bool.not_eq_true]
        intro z
        rw [(hR s).mp z] at hs
        cases hs
      rw [if_pos hb, z_lt, nI_1]
      refine ih (s + 1) f Q κ M (by omega) (by omega) hQ hm hX hpc (fun t ht h => ?_)
      rcases (show t < s ∨ t = s by omega) with h1 | h1
      · exact hdn t h1 h
      · rw [h1, hs] at h; cases h
    | true =>
      have hb : ¬ R.testBit s = false := by rw [(hR s).mpr hs]; decide
      obtain ⟨x1, x2, x3⟩ := hX.2.1 s hsn
      obtain ⟨-, -, hbit⟩ := stp_at hT hs
      have hsN := (stp_at hT hs).1
      have htk := (stp_iff.mp hs).2.1
      obtain ⟨Q1, κ1, M1, e1, e2, e3, e4, e5, e6, e7, e8⟩ := x_step hT hQ hw hm hs hr (fun hk => hX.2.2 hk s _ c hsn (ldw_lt T k m) hw.2.1 htk) x1 x2 x3 hpc
      have hpn := pc_or (show s < 13 by omega) hbit
      have mem1 : ∀ x, x ∈ Q → x ∈ Q1 := by
        intro x hx
        rcases e3 with h | h <;> rw [h]
        · exact hx
        · exact List.mem_append_left _ hx
      have k1 : ks M M1 := e8
      rw [if_neg hb, e1, z_ob, z_lt, nI_1]
      have pcm : Kf → κ1 m = κ m := fun hk => e6 m (fun z => by rw [← z] at hpn; omega)
      obtain ⟨Q', κ', M', f1, f2, f3, ⟨E, f4, f4'⟩, f5, f6, f7, f8⟩ := ih (s + 1) f Q1 κ1 M1 (by omega) (by omega) e2 (mem1 m hm) (hX.ks k1) (fun hk x hx => by
        rcases e3 with h | h
        · rw [h] at hx; exact hpc hk x hx
        · rw [h] at hx
          rcases List.mem_append.mp hx with h2 | h2
          · exact hpc hk x h2
          · rw [List.mem_singleton] at h2
            rw [h2, hpn]
            exact Nat.le_refl _) (fun t ht h => by
        rcases (show t < s ∨ t = s by omega) with h1 | h1
        · obtain ⟨a, b⟩ := hdn t h1 h
          refine ⟨mem1 _ a, fun hk => ?_⟩
          rw [pcm hk]
          exact Nat.le_trans (e7 hk _ a) (b hk)
        · subst h1
          refine ⟨e4, fun hk => ?_⟩
          rw [pcm hk]
          exact e5 hk)
      refine ⟨Q', κ', M', f1, f2, k1.tr f3, ?_, f5, f6, fun hk x hx => Nat.le_trans (f7 hk x (mem1 x hx)) (e7 hk x hx), fun hk x hx => ?_⟩
      · rcases e3 with h | h
        · rw [h] at f4; exact ⟨E, f4, f4'⟩
        · rw [h, List.append_assoc] at f4
          refine ⟨[m ||| 2 ^ s] ++ E, f4, fun x hx => ?_⟩
          rcases List.mem_append.mp hx with h2 | h2
          · rw [List.mem_singleton] at h2
            exact ⟨s, hs, h2⟩
          · exact f4' x h2
      · rw [f8 hk x hx, e6 x (fun z => hx (by rw [z]; exact hpn))]
/-- the class's question which streets may be next, for the sets that G holds of -/
def Hnx (T : Twn) (k n : Nat) (G : Nat → Prop) (M0 : Mem) : Prop := ∀ M m c, ks M0 M → G m → wk T m c → ∃ R, R < 8192 ∧ FX7_next (nI (stt T m c)) (nI (ldw T k m)) M = some (nI R) ∧ (∀ s, R.testBit s = true ↔ stp T k m c s = true) ∧ ∀ s, stp T k m c s = true → s < n ∧ G (m ||| 2 ^ s)
theorem x_sp3 {T : Twn} (hT : Twf T) {k d n i0 : Nat} {Kf : Prop} {G : Nat → Prop} {M0 : Mem} (hk5 : k < 512) (hd : d < 1024) (hG : Hnx T k n G M0) : ∀ (j i f : Nat) (Q : List Nat) (κ : Nat → Nat) (M : Mem), i + j = 8193 → j < f → i0 ≤ i → i ≤ Q.length → QS T k d Kf Q κ M → XC T n Kf M → ks M0 M → (∀ a, i0 ≤ a → a < Q.length → G (Q.getD a 0)) → (Kf → ∀ x, x ∈ Q → i < Q.length → pc x ≤ pc (Q.getD i 0) + 1) → (∀ a, i0 ≤ a → a < i → ∀ c, wk T (Q.getD a 0) c → rng T d (Q.getD a 0) c = false → ∀ t, stp T k (Q.getD a 0) c t = true → dn T k Kf Q κ (Q.getD a 0) c t) →
    ∃ Q' κ' M', FX0_spread_L3 f (nI d) (nI k) (nI i) M = some M' ∧ QS T k d Kf Q' κ' M' ∧ ks M0 M' ∧ (∃ E, Q' = Q ++ E) ∧ (∀ a, i0 ≤ a → a < Q'.length → G (Q'.getD a 0)) ∧ (∀ a, i0 ≤ a → a < Q'.length → ∀ c, wk T (Q'.getD a 0) c → rng T d (Q'.getD a 0) c = false → ∀ t, stp T k (Q'.getD a 0) c t = true → dn T k Kf Q' κ' (Q'.getD a 0) c t) := by
  have hN := hT.1.2.1
  intro j
  induction j with
  | zero =>
    intro i f Q κ M hij hf hi0 hiQ hQ
    have := nodup_le 8192 Q hQ.2.2.1 (fun x hx => p13 hN (QS_lt hT hQ x hx))
    omega
  | succ j ih =>
    intro i f Q κ M hij hf hi0 hiQ hQ hX hks hGQ hpc hdn
    obtain ⟨f, rfl⟩ : ∃ g, f = g + 1 := ⟨f - 1, by omega⟩
    have hQl := nodup_le 8192 Q hQ.2.2.1 (fun x hx => p13 hN (QS_lt hT hQ x hx))
    obtain ⟨⟨q1, q2⟩, q3, q4, q5, q6, q7⟩ := id hQ
    rw [FX0_spread_L3, q1]
    rcases (show i = Q.length ∨ i < Q.length by omega) with hend | hlt
    · have : (if nI Q.length ≤ nI i then false else if 8192 ≤ nI i then false else true) = false := if_pos (nI_le (by omega) (by omega))
      rw [this, z_lt, if_neg (by decide)]
      exact ⟨Q, κ, M, rfl, hQ, hks, ⟨[], (List.append_nil Q).symm⟩, hGQ, fun a h1 h2 => hdn a h1 (by omega)⟩
    · have : (if nI Q.length ≤ nI i then false else if 8192 ≤ nI i then false else true) = true := by
        rw [if_neg (nI_ge hlt (by omega)), if_neg (by rw [show (8192 : Int32) = nI 8192 from rfl]; exact nI_ge (by omega) (by decide))]
      rw [this, z_lt, if_pos rfl, z_gi (by omega) (by decide), z_lt, z_ix (by omega), q3 i hlt]
      have hmem := getD_mem hlt
      have hGm := hGQ i hi0 hlt
      have hpcm : Kf → ∀ x, x ∈ Q → pc x ≤ pc (Q.getD i 0) + 1 := fun hk x hx => hpc hk x hx hlt
      have hsort : Kf → ∀ a, a ≤ i → pc (Q.getD a 0) ≤ pc (Q.getD i 0) := fun hk a ha => by
        rcases (show a < i ∨ a = i by omega) with h | h
        · exact q7 hk a i h hlt
        · rw [h]; exact Nat.le_refl _
      generalize hme : Q.getD i 0 = m at hmem hGm hpcm hsort
      obtain ⟨w, w1, w2, w3, w4⟩ := q5 m hmem
      have wkm := Pre_wk hT (wk_0 hT) w1
      rw [w2] at wkm
      generalize hce : cE T (T.1 0) w = c at w3 wkm
      have hm8 := p13 hN wkm.1
      have hps := pas_lt hT m
      have hsp := p13 hN (spt_lt hT m)
      have hc9 := wkm.2.1
      rw [x_isRing hT hm8 hd hc9 q2 (fun _ => w3), z_ob]
      cases hr : rng T d m c with
      | true =>
        rw [if_pos rfl, if_neg (by decide), z_lt, nI_1]
        refine ih (i + 1) f Q κ M (by omega) (by omega) (by omega) (by omega) hQ hX hks hGQ (fun hk x hx h => ?_) (fun a h1 h2 c' h3 h4 => ?_)
        · have h5 := hpcm hk x hx
          have h6 := q7 hk i (i + 1) (by omega) h
          rw [hme] at h6
          omega
        · rcases (show a < i ∨ a = i by omega) with h | h
          · exact hdn a h1 h c' h3 h4
          · rw [h, hme] at h3 h4
            rw [par_inj h3.2.2.2 wkm.2.2.2, hr] at h4
            cases h4
      | false =>
        have epas : FX7_passed (M.1 39 m) = nI (pas T m) := by rw [w3]; exact x_passed (by omega) hps hsp
        have hand : pas T m &&& k < 2147483648 := Nat.lt_of_le_of_lt Nat.and_le_left (by omega)
        have eld : (if nI (pas T m) &&& nI k = 0 then (0 : Int32) else 1) = nI (ldw T k m) := by
          unfold ldw
          rw [z_and, if_congr_prop (show nI (pas T m &&& k) = 0 ↔ pas T m &&& k = 0 from z_eq (b := 0) hand (by decide))]
          by_cases h : pas T m &&& k = 0
          · rw [if_pos h, if_pos h]; rfl
          · rw [if_neg h, if_neg h]; rfl
        rw [if_pos (show (if false = true then (1 : Int32) else 0) = 0 from by decide), z_gi hm8 (by decide), z_ix (by omega), epas, eld, z_lt, z_gi hm8 (by decide), w3]
        obtain ⟨R, g1, g2, g3, g4⟩ := hG M m c hks hGm wkm
        rw [g2, z_ob]
        obtain ⟨Q1, κ1, M1, e1, e2, e3, ⟨E, e4, e4'⟩, e5, e6, e7, e8⟩ := x_sp83 hT wkm hr g1 g3 (fun s h => (g4 s h).1) n 0 FU Q κ M (by omega) (by have := hX.1.2; rw [z_FU]; omega) hQ hmem hX hpcm (fun t ht => absurd ht (Nat.not_lt_zero t))
        rw [show nI 0 = 0 from rfl] at e1
        rw [e1, z_ob, z_lt, nI_1]
        have gd1 : ∀ a, a < Q.length → Q1.getD a 0 = Q.getD a 0 := fun a ha => by
          rw [e4, List.getD_eq_getElem?_getD, List.getD_eq_getElem?_getD, List.getElem?_append_left ha]
        have len1 : Q.length ≤ Q1.length := by rw [e4, List.length_append]; omega
        have q71 := e2.2.2.2.2.2
        obtain ⟨Q', κ', M', r1, r2, r3, ⟨E', r4⟩, r5, r6⟩ := ih (i + 1) f Q1 κ1 M1 (by omega) (by omega) (by omega) (by omega) e2 (hX.ks e3) (hks.tr e3) (fun a h1 h2 => by
          rcases Nat.lt_or_ge a Q.length with h | h
          · rw [gd1 a h]; exact hGQ a h1 h
          · have hin : Q1.getD a 0 ∈ E := by
              rw [e4, List.getD_eq_getElem?_getD, List.getElem?_append_right h]
              rw [e4, List.length_append] at h2
              rw [List.getElem?_eq_getElem (by omega)]
              exact List.getElem_mem _
            obtain ⟨t, t1, t2⟩ := e4' _ hin
            rw [t2]
            exact (g4 t t1).2) (fun hk x hx h => by
          have h5 := e5 hk x hx
          have h6 := q71 hk i (i + 1) (by omega) h
          rw [gd1 i hlt, hme] at h6
          omega) (fun a h1 h2 c' h3 h4 t h5 => by
          rw [gd1 a (by omega)] at h3 h4 h5 ⊢
          rcases (show a < i ∨ a = i by omega) with h | h
          · obtain ⟨d1, d2⟩ := hdn a h1 h c' h3 h4 t h5
            refine ⟨by rw [e4]; exact List.mem_append_left _ d1, fun hk => ?_⟩
            have hs := hsort hk a (by omega)
            rw [e8 hk (Q.getD a 0) (by omega)]
            exact Nat.le_trans (e7 hk _ d1) (d2 hk)
          · rw [h, hme] at h3 h4 h5 ⊢
            have := par_inj h3.2.2.2 wkm.2.2.2
            subst this
            exact e6 t h5)
        exact ⟨Q', κ', M', r1, r2, r3, ⟨E ++ E', by rw [r4, e4, List.append_assoc]⟩, r5, r6⟩
