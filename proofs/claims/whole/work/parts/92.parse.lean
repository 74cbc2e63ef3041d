/-! reading an expression: the class's descent and the reference's held signs come to the same -/
def DPO (D : List Nat) : Prop := (∀ d r, dep d (D ++ r) = dep (d + 1) r) ∧ ∀ c ∈ D, codeOk c
theorem DPO_1 {c : Nat} (h : (100000 ≤ c ∧ c < 110000) ∨ c < 6) : DPO [c] := by
  refine ⟨fun d r => ?_, fun x hx => ?_⟩
  · exact dep_p (by omega)
  · rw [List.mem_singleton] at hx
    rw [hx]
    unfold codeOk
    omega
theorem DPO_u {D : List Nat} {c : Nat} (h : DPO D) (hc : c = 13 ∨ c = 19) : DPO (D ++ [c]) := by
  refine ⟨fun d r => ?_, fun x hx => ?_⟩
  · rw [List.append_assoc, h.1]
    show dep (d + 1) (c :: r) = _
    rw [dep, if_neg (by omega), if_pos hc, if_pos (by omega)]
  · rcases List.mem_append.mp hx with h1 | h1
    · exact h.2 x h1
    · rw [List.mem_singleton] at h1
      rw [h1]; unfold codeOk; omega
theorem DPO_b {D E : List Nat} {c : Nat} (h : DPO D) (h2 : DPO E) (hc : 11 ≤ c ∧ c ≤ 18) (h13 : c ≠ 13) : DPO (D ++ (E ++ [c])) := by
  refine ⟨fun d r => ?_, fun x hx => ?_⟩
  · rw [List.append_assoc, h.1, List.append_assoc, h2.1]
    show dep (d + 1 + 1) (c :: r) = _
    rw [dep, if_neg (by omega), if_neg (by omega), if_pos (by omega)]
    rfl
  · rcases List.mem_append.mp hx with h1 | h1
    · exact h.2 x h1
    · rcases List.mem_append.mp h1 with h1 | h1
      · exact h2.2 x h1
      · rw [List.mem_singleton] at h1
        rw [h1]; unfold codeOk; omega
def OUT (tp : Nat → Nat) (n N : Nat) (MX0 MY0 : Mem) (l : Nat) (ex : Nat → List Nat → List Nat → Prop) (w mn : Int32) (p : Nat) (H C D0 : List Nat) (MY : Mem) (r : Option Mem) : Prop :=
  (∃ p' D MX' MY' b' mn' H' C' k, r = some MX' ∧ XS tp n MX0 MX' p' (C ++ D) ∧ YG2 k w mn MY 0 mn' MY' ∧ YS tp n N MY0 MY' b' p' H' C' ∧ (∀ q, 1 ≤ q → q ≤ l → unw q H' C' = unw q H (C ++ D)) ∧ (C ++ D).length + H.length ≤ p' ∧ p + k ≤ p' ∧ DPO D ∧ ex (lxT tp n p') H' C' ∧ D0.length ≤ D.length) ∨
  (∃ b' MX' k, r = some MX' ∧ XF MX0 MX' b' ∧ YF N MY0 k w mn MY b' ∧ p + k ≤ 161)
def SPEC (tp : Nat → Nat) (n N l tb : Nat) (mnc : Int32 → Nat → Prop) (ex : Nat → List Nat → List Nat → Prop) (G : Int32 → Mem → Option Mem) (o : Nat) : Prop :=
  ∀ (MX0 MX MY0 MY : Mem) (b p : Nat) (H C : List Nat) (mn : Int32), XS tp n MX0 MX p C → YS tp n N MY0 MY b p H C → C.length + H.length ≤ p → oc H = o → (∀ s T, H = s :: T → rkN s < tb) → mnc mn (lxT tp n p) → OUT tp n N MX0 MY0 l ex 1 mn p H C [] MY (G (nI o) MX)
def mnA (mn : Int32) (t : Nat) : Prop := t = 261 → mn = 0
def mnB (mn : Int32) (_ : Nat) : Prop := mn = 1
def EX7 (_ : Nat) (_ _ : List Nat) : Prop := True
def EX6 (t : Nat) (H C : List Nat) : Prop := EX7 t H C ∧ t ≠ 42
def EX5 (t : Nat) (H C : List Nat) : Prop := EX6 t H C ∧ t ≠ 43 ∧ t ≠ 45
def EX4 (t : Nat) (H C : List Nat) : Prop := EX5 t H C ∧ ((t = 60 ∨ t = 61) → ∃ s T, (unw 5 H C).1 = s :: T ∧ rkN s = 4)
def EX2 (t : Nat) (H C : List Nat) : Prop := EX4 t H C ∧ t ≠ 260
def EX1 (t : Nat) (H C : List Nat) : Prop := EX2 t H C ∧ t ≠ 259
theorem p_lt {tp : Nat → Nat} {n p : Nat} (hp : p ≤ n) (h : lxT tp n p ≠ 0) : p < n ∧ p < lxE tp n p ∧ lxE tp n p ≤ n := by
  have h1 := lxT_end h
  obtain ⟨h2, h3⟩ := lxB_b (tp := tp) hp
  obtain ⟨h4, h5, h6⟩ := lxE_b (tp := tp) hp
  have := h6 h1
  omega
theorem unw_cons {q s : Nat} {H C : List Nat} (h : q ≤ rkN s) : unw q (s :: H) C = unw q H (C ++ [s]) := by
  rw [unw, if_pos h]
/-- the loop over the signs of one level -/
theorem P_loop {tp : Nat → Nat} {n N l lin tbin o : Nat} {mncin : Int32 → Nat → Prop} {exin : Nat → List Nat → List Nat → Prop} {K : Nat → Prop} {G : Int32 → Mem → Option Mem} {LP : Nat → Int32 → Int32 → Mem → Option Mem}
    (hn : n ≤ 160) (hl1 : 1 ≤ l) (hl4 : l ≠ 4) (hl6 : l ≤ 6) (hlin : l ≤ lin) (htb : l < tbin)
    (hK : ∀ t, K t → sgT t ≠ 0 ∧ rkN (sgT t) = l ∧ encX (sgT t) = -(nI t) ∧ t < 268)
    (hmn : ∀ t t', K t → mncin (if sgT t ≤ 12 then 1 else 0) t')
    (hLP1 : ∀ (f : Nat) (a : Int32) (i : Nat) (M : Mem) (t : Nat), i < 160 → M.1 10 7 = nI t → K t → LP (f + 1) a (nI i) M = ob (FX5_advance M) fun q => ob (G a q) fun q => ob (FX5_emit (-(nI t)) q) fun q => LP f a (nI (i + 1)) q)
    (hLP2 : ∀ (f : Nat) (a : Int32) (i : Nat) (M : Mem) (t : Nat), i ≤ 160 → t < 268 → M.1 10 7 = nI t → ¬ K t → LP (f + 1) a (nI i) M = some M)
    (hK1 : ¬ K 1) (hG : SPEC tp n N lin tbin mncin exin G o) :
    ∀ (k i f : Nat) (MX0 MX MY0 MY : Mem) (b p : Nat) (H C D H' C' : List Nat) (mn : Int32), n ≤ p + k → k + 1 < f → i ≤ p → XS tp n MX0 MX p (C ++ D) → YS tp n N MY0 MY b p H' C' → (∀ q, 1 ≤ q → q ≤ l → unw q H' C' = unw q H (C ++ D)) → (C ++ D).length + H.length ≤ p → DPO D → exin (lxT tp n p) H' C' → oc H = o → (∀ s T, H = s :: T → rkN s < l) →
      OUT tp n N MX0 MY0 l (fun t H C => exin t H C ∧ ¬ K t) 0 mn p H C D MY (LP f (nI o) (nI i) MX) := by
  intro k
  induction k with
  | zero =>
    intro i f MX0 MX MY0 MY b p H C D H' C' mn hk hf hi hX hY hun hlen hD hex ho hH
    obtain ⟨f, rfl⟩ : ∃ g, f = g + 1 := ⟨f - 1, by omega⟩
    have hp := hX.2.1.2.2
    have ht0 : lxT tp n p = 0 := by
      by_cases h : lxT tp n p = 0
      · exact h
      · have := (p_lt hp h).1
        omega
    have hnK : ¬ K (lxT tp n p) := by
      intro z
      have := (hK _ z).1
      rw [ht0] at this
      exact this rfl
    rw [hLP2 f _ i MX (lxT tp n p) (by omega) (TR_lt (lxT_rng tp n p)) hX.2.2.1.2.2.1 hnK]
    exact Or.inl ⟨p, D, MX, MY, b, mn, H', C', 0, rfl, hX, fun f => rfl, hY, hun, hlen, by omega, hD, ⟨hex, hnK⟩, Nat.le_refl _⟩
  | succ k ih =>
    intro i f MX0 MX MY0 MY b p H C D H' C' mn hk hf hi hX hY hun hlen hD hex ho hH
    obtain ⟨f, rfl⟩ : ∃ g, f = g + 1 := ⟨f - 1, by omega⟩
    have hp := hX.2.1.2.2
    by_cases hKt : K (lxT tp n p)
    rotate_left
    · rw [hLP2 f _ i MX (lxT tp n p) (by omega) (TR_lt (lxT_rng tp n p)) hX.2.2.1.2.2.1 hKt]
      exact Or.inl ⟨p, D, MX, MY, b, mn, H', C', 0, rfl, hX, fun f => rfl, hY, hun, hlen, by omega, hD, ⟨hex, hKt⟩, Nat.le_refl _⟩
    obtain ⟨k1, k2, k3, k4⟩ := hK _ hKt
    have hne : lxT tp n p ≠ 0 := by
      intro z
      rw [z] at k1
      exact k1 rfl
    obtain ⟨p1, p2, p3⟩ := p_lt hp hne
    have hsb := sgT_b (lxT tp n p)
    obtain ⟨x, hx⟩ : ∃ x, x = sgT (lxT tp n p) := ⟨_, rfl⟩
    rw [← hx] at k1 k2 k3 hsb
    have hx18 : 11 ≤ x ∧ x ≤ 18 ∧ x ≠ 13 := by omega
    have hmn' := hmn (lxT tp n p) (lxT tp n (lxE tp n p)) hKt
    rw [← hx] at hmn'
    rw [hLP1 f _ i MX (lxT tp n p) (by omega) hX.2.2.1.2.2.1 hKt]
    obtain ⟨MX1, a1, a2⟩ := x_advS hX
    rw [a1, z_ob]
    have hY160 := unw_len l H' C'
    rw [hun l hl1 (Nat.le_refl l), unw_top hH] at hY160
    have hC'p : C'.length + H'.length ≤ p := by
      simp only at hY160
      omega
    obtain ⟨-, s2⟩ := s_sign hY hC'p hx.symm k1 (q := l) (by rw [k2, if_neg hl4]) mn
    obtain ⟨MY1, s3, s4⟩ := s2 (fun z => hl4 (k2.symm.trans z.1))
    rw [hun l hl1 (Nat.le_refl l), unw_top hH] at s4
    have hocx : oc (x :: H) = o := by rw [oc, if_neg (by omega), Nat.add_zero]; exact ho
    have hlen1 : (C ++ D).length + (x :: H).length ≤ lxE tp n p := by rw [List.length_cons]; omega
    have hres := hG MX0 MX1 MY0 MY1 (lxB tp n p) (lxE tp n p) (x :: H) (C ++ D) _ a2 s4 hlen1 hocx (fun s T hsT => by
      injection hsT with h1 h2
      rw [← h1, k2]; exact htb) hmn'
    rcases hres with ⟨p', D2, MX2, MY2, b2, mn2, H2, C2, j, r1, r2, r3, r4, r5, r6, r7, r8, r9, -⟩ | ⟨b2, MX2, j, r1, r2, r3, r4⟩
    · rw [List.length_cons] at r6
      have hp' := r2.2.1.2.2
      obtain ⟨MX3, e1, e2⟩ := x_emitS r2 (by omega) (c := x) (x := -(nI (lxT tp n p))) k3.symm
      rw [r1, z_ob, e1, z_ob]
      have eD : (C ++ D) ++ D2 ++ [x] = C ++ (D ++ (D2 ++ [x])) := by simp only [List.append_assoc]
      rw [eD] at e2
      have hlen3 : (C ++ (D ++ (D2 ++ [x]))).length + H.length ≤ p' := by
        rw [← eD, List.length_append, List.length_singleton]
        omega
      have hout := ih (i + 1) f MX0 MX3 MY0 MY2 b2 p' H C (D ++ (D2 ++ [x])) H2 C2 mn2 (by omega) (by omega) (by omega) e2 r4 (fun q h1 h2 => by
        rw [r5 q h1 (by omega), unw_cons (by omega), eD]) hlen3 (DPO_b hD r8 ⟨hx18.1, hx18.2.1⟩ hx18.2.2) r9 ho hH
      have hDD : D.length ≤ (D ++ (D2 ++ [x])).length := by rw [List.length_append]; omega
      rcases hout with ⟨p'', D3, MX4, MY4, b4, mn4, H4, C4, j4, t1, t2, t3, t4, t5, t6, t7, t8, t9, t10⟩ | ⟨b4, MX4, j4, t1, t2, t3, t4⟩
      · exact Or.inl ⟨p'', D3, MX4, MY4, b4, mn4, H4, C4, 1 + (j + j4), t1, t2, s3.tr (r3.tr t3), t4, t5, t6, by omega, t8, t9, by omega⟩
      · exact Or.inr ⟨b4, MX4, 1 + (j + j4), t1, t2, s3.f (r3.f t3), by omega⟩
    · obtain ⟨MX3, e1, e2⟩ := x_emitF r2 (-(nI (lxT tp n p)))
      obtain ⟨f, rfl⟩ : ∃ g, f = g + 1 := ⟨f - 1, by omega⟩
      rw [r1, z_ob, e1, z_ob, hLP2 f _ (i + 1) MX3 1 (by omega) (by decide) e2.2.2.1 hK1]
      exact Or.inr ⟨b2, MX3, 1 + j, rfl, e2, s3.f r3, by omega⟩
/-- a level with its loop -/
theorem P_bin {tp : Nat → Nat} {n N l lin tbin o : Nat} {mncin : Int32 → Nat → Prop} {exin : Nat → List Nat → List Nat → Prop} {K : Nat → Prop} {G F : Int32 → Mem → Option Mem} {LP : Nat → Int32 → Int32 → Mem → Option Mem}
    (hn : n ≤ 160) (hl1 : 1 ≤ l) (hl4 : l ≠ 4) (hl6 : l ≤ 6) (hlin : l ≤ lin) (htb : l < tbin)
    (hK : ∀ t, K t → sgT t ≠ 0 ∧ rkN (sgT t) = l ∧ encX (sgT t) = -(nI t) ∧ t < 268)
    (hmn : ∀ t t', K t → mncin (if sgT t ≤ 12 then 1 else 0) t')
    (hLP1 : ∀ (f : Nat) (a : Int32) (i : Nat) (M : Mem) (t : Nat), i < 160 → M.1 10 7 = nI t → K t → LP (f + 1) a (nI i) M = ob (FX5_advance M) fun q => ob (G a q) fun q => ob (FX5_emit (-(nI t)) q) fun q => LP f a (nI (i + 1)) q)
    (hLP2 : ∀ (f : Nat) (a : Int32) (i : Nat) (M : Mem) (t : Nat), i ≤ 160 → t < 268 → M.1 10 7 = nI t → ¬ K t → LP (f + 1) a (nI i) M = some M)
    (hK1 : ¬ K 1) (hG : SPEC tp n N lin tbin mncin exin G o) (hF : ∀ a M, F a M = ob (G a M) fun q => LP FU a (nI 0) q) :
    SPEC tp n N l l mncin (fun t H C => exin t H C ∧ ¬ K t) F o := by
  intro MX0 MX MY0 MY b p H C mn hX hY hlen ho hH hm
  rw [hF]
  have hres := hG MX0 MX MY0 MY b p H C mn hX hY hlen ho (fun s T h => by have := hH s T h; omega) hm
  rcases hres with ⟨p', D2, MX2, MY2, b2, mn2, H2, C2, j, r1, r2, r3, r4, r5, r6, r7, r8, r9, -⟩ | ⟨b2, MX2, j, r1, r2, r3, r4⟩
  · rw [r1, z_ob]
    have hout := P_loop hn hl1 hl4 hl6 hlin htb hK hmn hLP1 hLP2 hK1 hG n 0 FU MX0 MX2 MY0 MY2 b2 p' H C D2 H2 C2 mn2 (by omega) (by rw [z_FU]; omega) (Nat.zero_le _) r2 r4 (fun q h1 h2 => r5 q h1 (by omega)) r6 r8 r9 ho hH
    rcases hout with ⟨p'', D3, MX4, MY4, b4, mn4, H4, C4, j4, t1, t2, t3, t4, t5, t6, t7, t8, t9, t10⟩ | ⟨b4, MX4, j4, t1, t2, t3, t4⟩
    · exact Or.inl ⟨p'', D3, MX4, MY4, b4, mn4, H4, C4, j + j4, t1, t2, r3.tr t3, t4, t5, t6, by omega, t8, t9, Nat.zero_le _⟩
    · exact Or.inr ⟨b4, MX4, j + j4, t1, t2, r3.f t3, by omega⟩
  · rw [r1, z_ob]
    have e : LP FU (nI o) (nI 0) MX2 = some MX2 := hLP2 99999 _ 0 MX2 1 (by omega) (by decide) r2.2.2.1 hK1
    rw [e]
    exact Or.inr ⟨b2, MX2, j, rfl, r2, r3, r4⟩
