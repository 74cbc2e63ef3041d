/-! the town as it is laid out: t: 0 home, 1 streets, 2 been, 3 once; e1, e2 ends; sp what a street spends; tk load corner street: 0 or the minutes -/
def opn (u : Nat → Nat → Nat) (x : Txt) (hr l c s : Nat) : Bool := (c == u 1 s || c == u 2 s) && may u x hr s c l
def tkS (u : Nat → Nat → Nat) (x : Txt) (hr l c s : Nat) : Nat := if opn u x hr l c s = true then mn u x hr s c l else 0
theorem tk_ne {u : Nat → Nat → Nat} {x : Txt} {hr l c s : Nat} : (tkS u x hr l c s != 0) = opn u x hr l c s := by
  unfold tkS
  have := mn_b u x hr s c l
  by_cases h : opn u x hr l c s = true
  · rw [if_pos h, h]
    simp
    omega
  · rw [if_neg h]
    simp at h
    rw [h]
    rfl
def XT (t : Nat → Nat) (e1 e2 sp : Nat → Nat) (tk : Nat → Nat → Nat → Nat) (MX : Mem) : Prop :=
  (MX.1 31 0 = nI (t 0) ∧ MX.1 31 1 = nI (t 1) ∧ MX.1 31 2 = nI (t 2) ∧ MX.1 31 3 = nI (t 3)) ∧
  (∀ s, s < t 1 → MX.1 32 s = nI (e1 s) ∧ MX.1 33 s = nI (e2 s) ∧ MX.1 34 s = nI (sp s)) ∧
  (∀ l c, l < 2 → c < 9 → MX.1 35 (16 * l + c) = nI (orB (t 1) (fun s => tk l c s != 0) (fun s => 2 ^ s))) ∧
  (∀ s l c, s < t 1 → l < 2 → c < 9 → tk l c s ≠ 0 → MX.1 36 (32 * s + 16 * l + c) = nI (tk l c s))
def lkL (M M' : Mem) : Prop := ∀ k, (k < 29 ∨ k = 31 ∨ 37 ≤ k) → M'.1 k = M.1 k
theorem lkL.tr {A B C : Mem} (h : lkL A B) (h2 : lkL B C) : lkL A C := fun k hk => (h2 k hk).trans (h k hk)
theorem lk.L {A B : Mem} (h : lk A B) : lkL A B := fun k hk => h k (by omega)
theorem TW.lkL {tc n hr law N : Nat} {u : Nat → Nat → Nat} {x : Txt} {MX MX' MY : Mem} (h : TW tc n hr law N u x MX MY) (hl : lkL MX MX') : TW tc n hr law N u x MX' MY := by
  obtain ⟨h1, ⟨h2, h3, h4⟩, h5, h6⟩ := h
  exact ⟨h1, ⟨by rw [hl tc (by omega)]; exact h2, by rw [hl tc (by omega)]; exact h3, by rw [hl 14 (by omega)]; exact h4⟩, h5.fr (fun k h1 h2 s _ => by rw [hl k (by omega)]) (fun _ _ _ _ _ => rfl), h6.fr (hl _ (by omega)) (hl _ (by omega)) rfl rfl⟩
/-- laid out below street i -/
def LDN (u : Nat → Nat → Nat) (n : Nat) (x : Txt) (hr i : Nat) (M : Mem) : Prop :=
  (∀ s, s < i → M.1 32 s = nI (u 1 s) ∧ M.1 33 s = nI (u 2 s) ∧ M.1 34 s = nI (spn u n s)) ∧
  (∀ l c, l < 2 → c < 9 → M.1 35 (16 * l + c) = nI (orB i (fun s => opn u x hr l c s) (fun s => 2 ^ s))) ∧
  (∀ s l c, s < i → l < 2 → (c = u 1 s ∨ c = u 2 s) → M.1 36 (32 * s + 16 * l + c) = nI (mn u x hr s c l))
theorem x_layL {tc n hr law N : Nat} {u : Nat → Nat → Nat} {x : Txt} {MY : Mem} : ∀ (k i f : Nat) (M : Mem), i + k = n → k < f → TW tc n hr law N u x M MY → M.1 31 1 = nI n → LDN u n x hr i M →
    ∃ M', FX7_lay_L48 f tc (nI i) M = some M' ∧ lkL M M' ∧ LDN u n x hr n M' := by
  intro k
  induction k with
  | zero =>
    intro i f M hi hf hT h31 hL
    obtain ⟨f, rfl⟩ : ∃ g, f = g + 1 := ⟨f - 1, by omega⟩
    have : i = n := by omega
    subst this
    rw [FX7_lay_L48, h31, if_pos (Int32.le_refl _)]
    exact ⟨M, rfl, fun _ _ => rfl, hL⟩
  | succ k ih =>
    intro i f M hi hf hT h31 hL
    obtain ⟨f, rfl⟩ : ∃ g, f = g + 1 := ⟨f - 1, by omega⟩
    obtain ⟨⟨t1, t2, t3, t4, t5⟩, ⟨t6, t7, t8⟩, hS, hX⟩ := id hT
    obtain ⟨⟨x0, x1, x2, x3, x4⟩, -, ⟨b0, b1, b2, b3, b4, b5, b6⟩⟩ := id (hS i (by omega))
    obtain ⟨L1, L2, L3⟩ := hL
    have g1 : ¬ nI n ≤ nI i := nI_ge (by omega) (by omega)
    rw [FX7_lay_L48, h31, if_neg g1, z_gi (by omega) (by decide), z_gi (by omega) (by decide), z_lt, z_ix (by omega), x1, z_gi (by omega) (by decide), z_gi (by omega) (by decide), z_lt, wr_cell _ _ (show (7 : Nat) ≠ 32 by decide), x2]
    obtain ⟨M1, hM1⟩ : ∃ M1, M1 = wr (wr M 32 i (nI (u 1 i))) 33 i (nI (u 2 i)) := ⟨_, rfl⟩
    rw [← hM1]
    have k1 : ∀ c, c ≠ 32 → c ≠ 33 → M1.1 c = M.1 c := fun c h1 h2 => by rw [hM1, wr_cell _ _ h2, wr_cell _ _ h1]
    have a31 : M1.1 31 1 = nI n := by rw [k1 31 (by decide) (by decide)]; exact h31
    have hS1 : RS n u M1 MY := hS.fr (fun k h1 h2 s _ => by rw [k1 k (by omega) (by omega)]) (fun _ _ _ _ _ => rfl)
    rw [a31, x_spends hS1 t2 (show i < n by omega), z_ob, z_gi (by omega) (by decide), z_lt, z_gi (by omega) (by decide)]
    obtain ⟨M2, hM2⟩ : ∃ M2, M2 = wr M1 34 i (nI (spn u n i)) := ⟨_, rfl⟩
    rw [← hM2]
    have k2 : ∀ c, c ≠ 32 → c ≠ 33 → c ≠ 34 → M2.1 c = M.1 c := fun c h1 h2 h3 => by rw [hM2, wr_cell _ _ h3, k1 c h1 h2]
    have l2 : lkL M M2 := fun c hc => k2 c (by omega) (by omega) (by omega)
    have c32 : ∀ s, M2.1 32 s = if s = i then nI (u 1 i) else M.1 32 s := fun s => by rw [hM2, wr_cell _ _ (by decide), hM1, wr_cell _ _ (by decide), wr_at]; simp
    have c33 : ∀ s, M2.1 33 s = if s = i then nI (u 2 i) else M.1 33 s := fun s => by rw [hM2, wr_cell _ _ (by decide), hM1, wr_at, wr_cell _ _ (by decide)]; simp
    have c34 : ∀ s, M2.1 34 s = if s = i then nI (spn u n i) else M.1 34 s := fun s => by rw [hM2, wr_at, hM1, wr_cell _ _ (by decide), wr_cell _ _ (by decide)]; simp
    have hT2 := hT.lkL l2
    have w32 : M2.1 32 i = nI (u 1 i) := by rw [c32, if_pos rfl]
    have w33 : M2.1 33 i = nI (u 2 i) := by rw [c33, if_pos rfl]
    rw [w32]
    obtain ⟨M3, e3, k3, ⟨p3, p3'⟩, q3, q3'⟩ := x_price (show i < n by omega) (Or.inl rfl) hT2 w32 w33
    have hT3 := hT2.lk k3
    have v32 : M3.1 32 i = nI (u 1 i) := by rw [k3 32 (by omega)]; exact w32
    have v33 : M3.1 33 i = nI (u 2 i) := by rw [k3 33 (by omega)]; exact w33
    rw [e3, z_ob, z_gi (by omega) (by decide), v33]
    obtain ⟨M4, e4, k4, ⟨p4, p4'⟩, q4, q4'⟩ := x_price (show i < n by omega) (Or.inr rfl) hT3 v32 v33
    rw [e4, z_ob, z_lt, nI_1]
    have l4 : lkL M M4 := (l2.tr k3.L).tr k4.L
    have e35 : M2.1 35 = M.1 35 := k2 35 (by decide) (by decide) (by decide)
    have e36 : M2.1 36 = M.1 36 := k2 36 (by decide) (by decide) (by decide)
    have hL4 : LDN u n x hr (i + 1) M4 := by
      refine ⟨?_, ?_, ?_⟩
      · intro s hs
        rw [k4 32 (by omega), k4 33 (by omega), k4 34 (by omega), k3 32 (by omega), k3 33 (by omega), k3 34 (by omega), c32, c33, c34]
        by_cases hi : s = i
        · subst hi; simp
        · rw [if_neg hi, if_neg hi, if_neg hi]; exact L1 s (by omega)
      · intro l c hl hc
        rw [orB]
        have base := L2 l c hl hc
        by_cases h1 : c = u 1 i
        · have hop : opn u x hr l c i = may u x hr i c l := by unfold opn; simp [h1]
          rw [p4' _ (fun l' h2 => by omega), h1, p3 l hl, e35, ← h1, base, hop]
          by_cases hm : may u x hr i c l = true
          · rw [if_pos hm, if_pos hm, z_or]
          · rw [if_neg hm, if_neg hm, Nat.or_zero]
        · by_cases h2 : c = u 2 i
          · have hop : opn u x hr l c i = may u x hr i c l := by unfold opn; simp [h2]
            have g2 : M3.1 35 (16 * l + u 2 i) = M.1 35 (16 * l + u 2 i) := by rw [p3' _ (fun l' h2 => by omega), e35]
            rw [h2, p4 l hl, g2, ← h2, base, hop]
            by_cases hm : may u x hr i c l = true
            · rw [if_pos hm, if_pos hm, z_or]
            · rw [if_neg hm, if_neg hm, Nat.or_zero]
          · have hop : opn u x hr l c i = false := by unfold opn; simp [h1, h2]
            rw [p4' _ (fun l' h3 => by omega), p3' _ (fun l' h3 => by omega), e35, base, hop]
            simp
      · intro s l c hs hl hce
        by_cases hi : s = i
        · subst hi
          rcases hce with h1 | h1
          · rw [q4' _ (fun l' h2 => by omega), h1, q3 l hl]
          · rw [h1, q4 l hl]
        · obtain ⟨-, -, ⟨-, d1, d2, -⟩⟩ := hS s (by omega)
          rw [q4' _ (fun l' h2 => by omega), q3' _ (fun l' h2 => by omega), e36]
          exact L3 s l c (by omega) hl hce
    obtain ⟨M', f1, f2, f3⟩ := ih (i + 1) f M4 (by omega) (by omega) (hT.lkL l4) (by rw [l4 31 (by omega)]; exact h31) hL4
    exact ⟨M', f1, l4.tr f2, f3⟩
theorem tkS_at {u : Nat → Nat → Nat} {x : Txt} {hr l c s : Nat} (h : tkS u x hr l c s ≠ 0) : (c = u 1 s ∨ c = u 2 s) ∧ may u x hr s c l = true ∧ tkS u x hr l c s = mn u x hr s c l := by
  unfold tkS at h ⊢
  by_cases h1 : opn u x hr l c s = true
  · rw [if_pos h1] at h ⊢
    unfold opn at h1
    simp only [Bool.and_eq_true, Bool.or_eq_true, beq_iff_eq] at h1
    exact ⟨h1.1, h1.2, rfl⟩
  · rw [if_neg h1] at h
    exact absurd rfl h
theorem x_lay {tc n hr law N hd been once : Nat} {u : Nat → Nat → Nat} {x : Txt} {M MY : Mem} (hT : TW tc n hr law N u x M MY) (h0 : M.1 tc 0 = nI hd) (h3 : M.1 tc 3 = nI been) (h2 : M.1 tc 2 = nI once) (h4 : M.1 tc 4 = nI n) :
    ∃ M', FX7_lay tc M = some M' ∧ (∀ k, (k < 29 ∨ 37 ≤ k) → M'.1 k = M.1 k) ∧ XT (fun j => if j = 0 then hd else if j = 1 then n else if j = 2 then been else once) (u 1) (u 2) (spn u n) (tkS u x hr) M' ∧ (∀ s l c, s < n → l < 2 → (c = u 1 s ∨ c = u 2 s) → M'.1 36 (32 * s + 16 * l + c) = nI (mn u x hr s c l)) := by
  obtain ⟨⟨t1, t2, t3, t4, t5⟩, ⟨t6, t7, t8⟩, hS, hX⟩ := id hT
  unfold FX7_lay
  simp only [z_lt]
  rw [wr_cell M _ (show tc ≠ 31 by omega), wr_cell _ _ (show tc ≠ 31 by omega), wr_cell M _ (show tc ≠ 31 by omega), wr_cell _ _ (show tc ≠ 31 by omega), wr_cell _ _ (show tc ≠ 31 by omega), wr_cell M _ (show tc ≠ 31 by omega), h0, h3, h2, h4]
  have e12 : (if 12 < nI n then 12 else nI n) = nI n := by
    rw [if_neg]
    rw [show (12 : Int32) = nI 12 from rfl, z_lts (by omega) (by omega)]
    omega
  rw [e12]
  obtain ⟨M1, hM1⟩ : ∃ M1, M1 = wr (wr (wr (wr M 31 0 (nI hd)) 31 2 (nI been)) 31 3 (nI once)) 31 1 (nI n) := ⟨_, rfl⟩
  rw [← hM1, fill_eq (by decide), z_ob]
  have c31 : M1.1 31 0 = nI hd ∧ M1.1 31 1 = nI n ∧ M1.1 31 2 = nI been ∧ M1.1 31 3 = nI once := by
    rw [hM1]
    simp [wr_at]
  have k1 : ∀ k, k ≠ 31 → M1.1 k = M.1 k := fun k hk => by rw [hM1, wr_cell _ _ hk, wr_cell _ _ hk, wr_cell _ _ hk, wr_cell _ _ hk]
  have k2 : ∀ k, k ≠ 31 → k ≠ 35 → (fillC M1 35 32 0).1 k = M.1 k := fun k h1 h2 => by rw [fillC_cell _ _ h2, k1 k h1]
  have c31' : ∀ j, (fillC M1 35 32 0).1 31 j = M1.1 31 j := fun j => by rw [fillC_cell _ _ (by decide)]
  have hT1 : TW tc n hr law N u x (fillC M1 35 32 0) MY := by
    refine ⟨⟨t1, t2, t3, t4, t5⟩, ⟨?_, ?_, ?_⟩, hS.fr (fun k h1 h2 s _ => by rw [k2 k (by omega) (by omega)]) (fun _ _ _ _ _ => rfl), hX.fr (k2 _ (by omega) (by omega)) (k2 _ (by omega) (by omega)) rfl rfl⟩
    · rw [k2 tc (by omega) (by omega)]; exact t6
    · rw [k2 tc (by omega) (by omega)]; exact t7
    · rw [k2 14 (by omega) (by omega)]; exact t8
  obtain ⟨M', e1, e2, f1, f2, f3⟩ := x_layL n 0 FU (fillC M1 35 32 0) (by omega) (by rw [z_FU]; omega) hT1 (by rw [c31']; exact c31.2.1) ⟨fun s hs => absurd hs (Nat.not_lt_zero s), fun l c hl hc => by
    rw [fillC_at, if_pos ⟨rfl, by omega⟩]
    rfl, fun s l c hs => absurd hs (Nat.not_lt_zero s)⟩
  rw [show (0 : Int32) = nI 0 from rfl]
  rw [show (0 : Int32) = nI 0 from rfl] at e1
  rw [e1, z_ob]
  refine ⟨M', rfl, fun k hk => by rw [e2 k (by omega), k2 k (by omega) (by omega)], ⟨?_, ?_, ?_, ?_⟩, f3⟩
  · rw [e2 31 (by omega), c31', c31', c31', c31']
    exact c31
  · intro s hs
    exact f1 s hs
  · intro l c hl hc
    rw [f2 l c hl hc]
    congr 1
    exact orB_cong fun k _ => ⟨tk_ne.symm, fun _ => rfl⟩
  · intro s l c hs hl hc hne
    obtain ⟨g1, g2, g3⟩ := tkS_at hne
    rw [f3 s l c hs hl g1, g3]
