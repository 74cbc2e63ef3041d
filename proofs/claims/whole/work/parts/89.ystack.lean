/-! the reference's held signs -/
def rkN (s : Nat) : Nat := if s = 0 then 0 else if s = 11 then 1 else if s = 12 then 2 else if s = 13 then 3 else if s ≤ 15 then 4 else if s ≤ 17 then 5 else if s = 18 then 6 else 7
def sOk (s : Nat) : Prop := s = 0 ∨ (11 ≤ s ∧ s ≤ 19)
theorem rk_eq {s : Nat} (h : sOk s) : FX9_rank (nI s) = nI (rkN s) := by
  have : ∀ s, s < 20 → (s = 0 ∨ 11 ≤ s) → FX9_rank (nI s) = nI (rkN s) := by decide +kernel
  unfold sOk at h
  exact this s (by omega) (by omega)
theorem rk_lt (s : Nat) : rkN s < 8 := by unfold rkN; repeat' (first | omega | split)
def oc : List Nat → Nat
  | [] => 0
  | h :: H => oc H + (if h = 0 ∨ h = 13 ∨ h = 19 then 1 else 0)
theorem oc_le : ∀ H : List Nat, oc H ≤ H.length
  | [] => Nat.le_refl _
  | h :: H => by
    have := oc_le H
    rw [oc, List.length_cons]
    split <;> omega
def unw (q : Nat) : List Nat → List Nat → List Nat × List Nat
  | [], C => ([], C)
  | h :: H, C => if q ≤ rkN h then unw q H (C ++ [h]) else (h :: H, C)
theorem unw_len (q : Nat) : ∀ (H C : List Nat), (unw q H C).1.length + (unw q H C).2.length = H.length + C.length
  | [], C => rfl
  | h :: H, C => by
    rw [unw]
    split
    · rw [unw_len q H]
      simp only [List.length_append, List.length_cons, List.length_nil]
      omega
    · rfl
theorem unw_ok (q : Nat) : ∀ (H C : List Nat), (∀ h ∈ H, sOk h) → ∀ h ∈ (unw q H C).1, sOk h
  | [], _, _ => fun h hh => by cases hh
  | h :: H, C, hk => by
    rw [unw]
    split
    · exact unw_ok q H _ (fun x hx => hk x (List.mem_cons_of_mem _ hx))
    · exact hk
/-- unwinding further -/
theorem unw_unw {q r : Nat} (h : q ≤ r) : ∀ (H C : List Nat), unw q (unw r H C).1 (unw r H C).2 = unw q H C
  | [], C => rfl
  | s :: H, C => by
    by_cases hr : r ≤ rkN s
    · rw [unw, if_pos hr, unw_unw h H, unw, if_pos (Nat.le_trans h hr)]
    · rw [unw, if_neg hr]
theorem unw_top {q : Nat} {H C : List Nat} (h : ∀ s T, H = s :: T → rkN s < q) : unw q H C = (H, C) := by
  cases H with
  | nil => rfl
  | cons s T =>
    rw [unw, if_neg (by have := h s T rfl; omega)]
/-- what the reference's reading keeps of its memory -/
def kyT (N : Nat) (M M' : Mem) : Prop := (∀ k, k ≠ 0 → k ≠ 7 → k ≠ 14 → M'.1 k = M.1 k) ∧ (∀ j, (j < 27 ∨ 36 ≤ j) → M'.1 0 j = M.1 0 j) ∧ ∀ i, (i < 200 * N ∨ 200 * N + 200 ≤ i) → M'.1 7 i = M.1 7 i
theorem kyT.rf (N : Nat) (M : Mem) : kyT N M M := ⟨fun _ _ _ _ => rfl, fun _ _ => rfl, fun _ _ => rfl⟩
theorem kyT.tr {N : Nat} {A B C : Mem} (h : kyT N A B) (h2 : kyT N B C) : kyT N A C := ⟨fun k a b c => (h2.1 k a b c).trans (h.1 k a b c), fun j hj => (h2.2.1 j hj).trans (h.2.1 j hj), fun i hi => (h2.2.2 i hi).trans (h.2.2 i hi)⟩
/-- the reference's state while it reads: place, held signs (last first), codes that came -/
def YS (tp : Nat → Nat) (n N : Nat) (M0 M : Mem) (b p : Nat) (H C : List Nat) : Prop :=
  kyT N M0 M ∧ (TP tp n 6 M0 ∧ (∀ j, j < 96 → M0.1 13 j = nI (wdN j)) ∧ M0.1 0 11 = nI n ∧ M0.1 0 14 = nI N ∧ N < 6) ∧ (M.1 0 27 = nI p ∧ p ≤ n ∧ M.1 0 28 = nI b) ∧
  (M.1 0 33 = nI H.length ∧ (∀ i, i < H.length → M.1 14 i = nI (H.reverse.getD i 0)) ∧ M.1 0 34 = nI (oc H) ∧ ∀ h ∈ H, sOk h) ∧
  (M.1 0 35 = nI C.length ∧ ∀ i, i < C.length → M.1 7 (200 * N + i) = nI (C.getD i 0)) ∧ C.length + H.length ≤ 160
theorem kyT_0 {N j : Nat} (hj : 27 ≤ j ∧ j < 36) (M : Mem) (x : Int32) : kyT N M (wr M 0 j x) := ⟨fun k a _ _ => wr_cell _ _ a, fun i hi => by rw [wr_at, if_neg (by omega)], fun i _ => by rw [wr_cell _ _ (by decide)]⟩
theorem kyT_14 {N j : Nat} (M : Mem) (x : Int32) : kyT N M (wr M 14 j x) := ⟨fun k _ _ a => wr_cell _ _ a, fun i hi => by rw [wr_cell _ _ (by decide)], fun i _ => by rw [wr_cell _ _ (by decide)]⟩
theorem kyT_7 {N j : Nat} (hj : 200 * N ≤ j ∧ j < 200 * N + 200) (M : Mem) (x : Int32) : kyT N M (wr M 7 j x) := ⟨fun k _ a _ => wr_cell _ _ a, fun i hi => by rw [wr_cell _ _ (by decide)], fun i hi => by rw [wr_at, if_neg (by omega)]⟩
theorem y_puts {tp : Nat → Nat} {n N : Nat} {M0 M : Mem} {b p : Nat} {H C : List Nat} (h : YS tp n N M0 M b p H C) {c : Nat} (hl : C.length + 1 + H.length ≤ 160) : ∃ M', FX9_puts (nI c) M = some M' ∧ YS tp n N M0 M' b p H (C ++ [c]) := by
  obtain ⟨k, ⟨t1, t2, t3, t4, t5⟩, ⟨a1, a2, a3⟩, ⟨b1, b2, b3, b4⟩, ⟨c1, c2⟩, d⟩ := h
  have e14 : M.1 0 14 = nI N := by rw [k.2.1 14 (by omega)]; exact t4
  have ei : 200 * M.1 0 14 + M.1 0 35 = nI (200 * N + C.length) := by rw [e14, c1, show (200 : Int32) = nI 200 from rfl, pk_mul, nI_add]
  unfold FX9_puts
  rw [ei, z_gi (by omega) (by decide), z_ix (by omega), z_lt, wr_cell _ _ (by decide), c1, nI_1, z_lt]
  refine ⟨_, rfl, (k.tr (kyT_7 (by omega) _ _)).tr (kyT_0 (by decide) _ _), ⟨t1, t2, t3, t4, t5⟩, ⟨?_, a2, ?_⟩, ⟨?_, fun i hi => ?_, ?_, b4⟩, ⟨?_, fun i hi => ?_⟩, ?_⟩
  · rw [wr_at, if_neg (by omega), wr_cell _ _ (by decide)]; exact a1
  · rw [wr_at, if_neg (by omega), wr_cell _ _ (by decide)]; exact a3
  · rw [wr_at, if_neg (by omega), wr_cell _ _ (by decide)]; exact b1
  · rw [wr_cell _ _ (by decide), wr_cell _ _ (by decide)]; exact b2 i hi
  · rw [wr_at, if_neg (by omega), wr_cell _ _ (by decide)]; exact b3
  · rw [wr_at, if_pos ⟨rfl, rfl⟩, List.length_append, List.length_singleton]
  · rw [List.length_append, List.length_singleton] at hi
    rw [wr_cell _ _ (by decide), wr_at]
    by_cases e : i = C.length
    · rw [if_pos ⟨rfl, by omega⟩, e, getD_app2]
    · rw [if_neg (by omega), getD_app1 (by omega)]
      exact c2 i (by omega)
  · rw [List.length_append, List.length_singleton]; omega
theorem rev_top {h : Nat} {H : List Nat} : (h :: H).reverse.getD H.length 0 = h := by
  rw [List.reverse_cons]
  have := getD_app2 (Q := H.reverse) (m := h)
  rw [List.length_reverse] at this
  exact this
theorem rev_low {h : Nat} {H : List Nat} {i : Nat} (hi : i < H.length) : (h :: H).reverse.getD i 0 = H.reverse.getD i 0 := by
  rw [List.reverse_cons]
  exact getD_app1 (by rw [List.length_reverse]; exact hi)
theorem y_unL {tp : Nat → Nat} {n N : Nat} {M0 : Mem} {b p q : Nat} (hq : 1 ≤ q) (hq8 : q ≤ 8) : ∀ (H C : List Nat) (f : Nat) (M : Mem), H.length < f → YS tp n N M0 M b p H C → ∃ M', FX9_unwinds_L0 f (nI q) M = some M' ∧ YS tp n N M0 M' b p (unw q H C).1 (unw q H C).2
  | [], C, f, M, hf, hY => by
    obtain ⟨f, rfl⟩ : ∃ g, f = g + 1 := ⟨f - 1, by have : ([] : List Nat).length = 0 := rfl; omega⟩
    obtain ⟨k, t, a, ⟨b1, b2, b3, b4⟩, c, d⟩ := id hY
    rw [FX9_unwinds_L0, b1, if_pos (show nI ([] : List Nat).length ≤ 0 by decide), z_ob, if_neg nft]
    exact ⟨M, rfl, hY⟩
  | s :: H, C, f, M, hf, hY => by
    obtain ⟨f, rfl⟩ : ∃ g, f = g + 1 := ⟨f - 1, by omega⟩
    obtain ⟨k, t, a, ⟨b1, b2, b3, b4⟩, ⟨c1, c2⟩, d⟩ := id hY
    rw [List.length_cons] at hf d
    have hs := b4 s List.mem_cons_self
    have hr := rk_lt s
    have hpos : ¬ nI (s :: H).length ≤ 0 := nI_ge (a := 0) (by rw [List.length_cons]; omega) (by rw [List.length_cons]; omega)
    have em : nI (s :: H).length - 1 = nI H.length := by
      rw [List.length_cons, z_sub1 (by omega)]
      rfl
    have etop : M.1 14 H.length = nI s := by
      rw [b2 H.length (by rw [List.length_cons]; omega), rev_top]
    rw [FX9_unwinds_L0, b1, if_neg hpos, em, z_gi (by omega) (by decide), z_ix (by omega), etop, rk_eq hs, if_congr_prop (show nI (rkN s) < nI q ↔ rkN s < q from z_lts (by omega) (by omega)), unw]
    by_cases hqr : q ≤ rkN s
    · rw [if_neg (by omega), z_ob, if_pos rfl, z_lt, wr_at, if_pos ⟨rfl, rfl⟩, z_gi (by omega) (by decide), z_lt, z_ix (by omega), wr_cell _ _ (by decide), etop, z_lt, z_lt, z_lt, if_pos hqr]
      have hs0 : s ≠ 0 := by
        intro z
        rw [z] at hqr
        have : rkN 0 = 0 := rfl
        omega
      have ew : (if (if nI s = 13 then true else if nI s = 19 then true else false) = true then (1 : Int32) else 0) = nI (if s = 0 ∨ s = 13 ∨ s = 19 then 1 else 0) := by
        have hs20 : s < 20 := by unfold sOk at hs; omega
        rw [if_congr_prop (show nI s = 13 ↔ s = 13 from z_eq (b := 13) (by omega) (by decide)), if_congr_prop (show nI s = 19 ↔ s = 19 from z_eq (b := 19) (by omega) (by decide))]
        by_cases k1 : s = 13
        · rw [if_pos k1, if_pos rfl, if_pos (Or.inr (Or.inl k1))]; rfl
        · by_cases k2 : s = 19
          · rw [if_neg k1, if_pos k2, if_pos rfl, if_pos (Or.inr (Or.inr k2))]; rfl
          · rw [if_neg k1, if_neg k2, if_neg nft, if_neg (by omega)]; rfl
      have e34 : M.1 0 34 = nI (oc H + (if s = 0 ∨ s = 13 ∨ s = 19 then 1 else 0)) := b3
      rw [ew, wr_at, if_neg (by omega), e34, pk_sub (by omega), Nat.add_sub_cancel]
      have hY1 : YS tp n N M0 (wr (wr M 0 33 (nI H.length)) 0 34 (nI (oc H))) b p H C := by
        refine ⟨(k.tr (kyT_0 (by decide) _ _)).tr (kyT_0 (by decide) _ _), t, ⟨?_, a.2.1, ?_⟩, ⟨?_, fun i hi => ?_, ?_, fun x hx => b4 x (List.mem_cons_of_mem _ hx)⟩, ⟨?_, fun i hi => ?_⟩, by omega⟩
        · rw [wr_at, if_neg (by omega), wr_at, if_neg (by omega)]; exact a.1
        · rw [wr_at, if_neg (by omega), wr_at, if_neg (by omega)]; exact a.2.2
        · rw [wr_at, if_neg (by omega), wr_at, if_pos ⟨rfl, rfl⟩]
        · rw [wr_cell _ _ (by decide), wr_cell _ _ (by decide), b2 i (by rw [List.length_cons]; omega), rev_low hi]
        · rw [wr_at, if_pos ⟨rfl, rfl⟩]
        · rw [wr_at, if_neg (by omega), wr_at, if_neg (by omega)]; exact c1
        · rw [wr_cell _ _ (by decide), wr_cell _ _ (by decide)]; exact c2 i hi
      obtain ⟨M2, p1, p2⟩ := y_puts hY1 (c := s) (by omega)
      rw [p1, z_ob]
      exact y_unL hq hq8 H (C ++ [s]) f M2 (by omega) p2
    · rw [if_pos (by omega), z_ob, if_neg nft, if_neg hqr]
      exact ⟨M, rfl, hY⟩
theorem y_unwinds {tp : Nat → Nat} {n N : Nat} {M0 M : Mem} {b p q : Nat} (hq : 1 ≤ q) (hq8 : q ≤ 8) {H C : List Nat} (h : YS tp n N M0 M b p H C) : ∃ M', FX9_unwinds (nI q) M = some M' ∧ YS tp n N M0 M' b p (unw q H C).1 (unw q H C).2 := by
  have hl := h.2.2.2.2.2
  obtain ⟨M', r1, r2⟩ := y_unL hq hq8 H C FU M (by rw [z_FU]; omega) h
  unfold FX9_unwinds
  rw [r1, z_ob]
  exact ⟨M', rfl, r2⟩
theorem y_holds {tp : Nat → Nat} {n N : Nat} {M0 M : Mem} {b p x : Nat} {H C : List Nat} (h : YS tp n N M0 M b p H C) (hx : sOk x) (hno : ¬ (x = 0 ∨ x = 13 ∨ x = 19)) (hl : C.length + (H.length + 1) ≤ 160) : ∃ M', FX9_holds (nI x) M = some M' ∧ YS tp n N M0 M' b p (x :: H) C := by
  obtain ⟨k, t, a, ⟨b1, b2, b3, b4⟩, ⟨c1, c2⟩, d⟩ := h
  unfold FX9_holds
  rw [b1, z_gi (by omega) (by decide), z_ix (by omega), z_lt, wr_cell _ _ (by decide), b1, nI_1, z_lt]
  refine ⟨_, rfl, (k.tr (kyT_14 _ _)).tr (kyT_0 (by decide) _ _), t, ⟨?_, a.2.1, ?_⟩, ⟨?_, fun i hi => ?_, ?_, fun y hy => ?_⟩, ⟨?_, fun i hi => ?_⟩, by rw [List.length_cons]; omega⟩
  · rw [wr_at, if_neg (by omega), wr_cell _ _ (by decide)]; exact a.1
  · rw [wr_at, if_neg (by omega), wr_cell _ _ (by decide)]; exact a.2.2
  · rw [wr_at, if_pos ⟨rfl, rfl⟩, List.length_cons]
  · rw [List.length_cons] at hi
    rw [wr_cell _ _ (by decide), wr_at]
    by_cases e : i = H.length
    · rw [if_pos ⟨rfl, e⟩, e, rev_top]
    · rw [if_neg (fun z => e z.2), rev_low (by omega)]
      exact b2 i (by omega)
  · rw [wr_at, if_neg (by omega), wr_cell _ _ (by decide), oc, if_neg hno, Nat.add_zero]; exact b3
  · rcases List.mem_cons.mp hy with rfl | h
    · exact hx
    · exact b4 y h
  · rw [wr_at, if_neg (by omega), wr_cell _ _ (by decide)]; exact c1
  · rw [wr_cell _ _ (by decide), wr_cell _ _ (by decide)]; exact c2 i hi
theorem y_opens {tp : Nat → Nat} {n N : Nat} {M0 M : Mem} {b p x : Nat} {H C : List Nat} (h : YS tp n N M0 M b p H C) (hx : x = 0 ∨ x = 13 ∨ x = 19) (hl : C.length + (H.length + 1) ≤ 160) (h5 : oc H ≠ 5) : ∃ M', FX9_opensOne (nI x) M = some (1, M') ∧ YS tp n N M0 M' b p (x :: H) C := by
  obtain ⟨k, t, a, ⟨b1, b2, b3, b4⟩, ⟨c1, c2⟩, d⟩ := h
  have hol := oc_le H
  have hsx : sOk x := by unfold sOk; omega
  unfold FX9_opensOne
  rw [b3, if_congr_prop (show nI (oc H) = 5 ↔ oc H = 5 from z_eq (b := 5) (by omega) (by decide)), if_neg h5, nI_1, z_lt]
  unfold FX9_holds
  rw [wr_at, if_neg (by omega), b1, z_gi (by omega) (by decide), z_ix (by omega), z_lt, wr_cell _ _ (by decide), wr_at, if_neg (by omega), b1, nI_1, z_lt, z_ob]
  refine ⟨_, rfl, ((k.tr (kyT_0 (by decide) _ _)).tr (kyT_14 _ _)).tr (kyT_0 (by decide) _ _), t, ⟨?_, a.2.1, ?_⟩, ⟨?_, fun i hi => ?_, ?_, fun y hy => ?_⟩, ⟨?_, fun i hi => ?_⟩, by rw [List.length_cons]; omega⟩
  · rw [wr_at, if_neg (by omega), wr_cell _ _ (by decide), wr_at, if_neg (by omega)]; exact a.1
  · rw [wr_at, if_neg (by omega), wr_cell _ _ (by decide), wr_at, if_neg (by omega)]; exact a.2.2
  · rw [wr_at, if_pos ⟨rfl, rfl⟩, List.length_cons]
  · rw [List.length_cons] at hi
    rw [wr_cell _ _ (by decide), wr_at]
    by_cases e : i = H.length
    · rw [if_pos ⟨rfl, e⟩, e, rev_top]
    · rw [if_neg (fun z => e z.2), rev_low (by omega), wr_cell _ _ (by decide)]
      exact b2 i (by omega)
  · rw [wr_at, if_neg (by omega), wr_cell _ _ (by decide), wr_at, if_pos ⟨rfl, rfl⟩, oc, if_pos hx]
  · rcases List.mem_cons.mp hy with rfl | h
    · exact hsx
    · exact b4 y h
  · rw [wr_at, if_neg (by omega), wr_cell _ _ (by decide), wr_at, if_neg (by omega)]; exact c1
  · rw [wr_cell _ _ (by decide), wr_cell _ _ (by decide), wr_cell _ _ (by decide)]; exact c2 i hi
theorem y_open5 {tp : Nat → Nat} {n N : Nat} {M0 M : Mem} {b p : Nat} {x : Int32} {H C : List Nat} (h : YS tp n N M0 M b p H C) (h5 : oc H = 5) : FX9_opensOne x M = some (0, M) := by
  unfold FX9_opensOne
  rw [h.2.2.2.1.2.2.1, h5, if_pos (show nI 5 = 5 from rfl)]
/-- a sign between two -/
theorem y_between {tp : Nat → Nat} {n N : Nat} {M0 M : Mem} {b p x : Nat} {H C : List Nat} (h : YS tp n N M0 M b p H C) (hx : 11 ≤ x ∧ x ≤ 18) (h13 : x ≠ 13) (hl : C.length + (H.length + 1) ≤ 160) {q : Nat} (hq : q = if rkN x = 4 then 5 else rkN x) :
    ((rkN x = 4 ∧ ∃ s T, (unw q H C).1 = s :: T ∧ rkN s = 4) ∧ ∃ M', FX9_between (nI x) M = some (0, M') ∧ YS tp n N M0 M' b p (unw q H C).1 (unw q H C).2) ∨
     ((¬ (rkN x = 4 ∧ ∃ s T, (unw q H C).1 = s :: T ∧ rkN s = 4)) ∧ ∃ M', FX9_between (nI x) M = some (1, M') ∧ YS tp n N M0 M' b p (x :: (unw q H C).1) (unw q H C).2) := by
  have hsx : sOk x := Or.inr ⟨hx.1, by omega⟩
  have hrx := rk_lt x
  have hr1 : 1 ≤ rkN x := by
    unfold rkN
    repeat' (first | omega | split)
  have hq1 : 1 ≤ q ∧ q ≤ 8 := by
    rw [hq]
    split <;> omega
  obtain ⟨M1, e1, e2⟩ := y_unwinds hq1.1 hq1.2 h
  have e4 : nI (rkN x) = 4 ↔ rkN x = 4 := z_eq (b := 4) (by omega) (by decide)
  have eq : (if nI (rkN x) = 4 then (5 : Int32) else nI (rkN x)) = nI q := by
    rw [if_congr_prop e4, hq]
    by_cases h4 : rkN x = 4
    · rw [if_pos h4, if_pos h4]; rfl
    · rw [if_neg h4, if_neg h4]
  unfold FX9_between
  rw [rk_eq hsx, eq, z_lt, e1, z_ob]
  have hlen := unw_len q H C
  obtain ⟨k, t, a, ⟨b1, b2, b3, b4⟩, c, d⟩ := id e2
  have hcond : ∃ z : Bool, (if nI (rkN x) = 4 then (if M1.1 0 33 ≤ 0 then some false else gi (M1.1 0 33 - 1) 200 (if FX9_rank (M1.1 14 (Int32.toNatClampNeg (M1.1 0 33 - 1))) = 4 then some true else some false)) else some false) = some z ∧ (z = true ↔ (rkN x = 4 ∧ ∃ s T, (unw q H C).1 = s :: T ∧ rkN s = 4)) := by
    rw [if_congr_prop e4]
    by_cases h4 : rkN x = 4
    · rw [if_pos h4, b1]
      cases hH : (unw q H C).1 with
      | nil =>
        rw [if_pos (show nI ([] : List Nat).length ≤ 0 by decide)]
        refine ⟨false, rfl, fun z => (by cases z), ?_⟩
        rintro ⟨-, s, T, z, -⟩
        cases z
      | cons s T =>
        rw [hH] at b1 b2 b4 d
        rw [List.length_cons] at d
        have hpos : ¬ nI (s :: T).length ≤ 0 := nI_ge (a := 0) (by rw [List.length_cons]; omega) (by rw [List.length_cons]; omega)
        have em : nI (s :: T).length - 1 = nI T.length := by
          rw [List.length_cons, z_sub1 (by omega)]
          rfl
        have etop : M1.1 14 T.length = nI s := by
          rw [b2 T.length (by rw [List.length_cons]; omega), rev_top]
        have hrs := rk_lt s
        rw [if_neg hpos, em, z_gi (by omega) (by decide), z_ix (by omega), etop, rk_eq (b4 s List.mem_cons_self), if_congr_prop (show nI (rkN s) = 4 ↔ rkN s = 4 from z_eq (b := 4) (by omega) (by decide))]
        by_cases hs4 : rkN s = 4
        · rw [if_pos hs4]
          exact ⟨true, rfl, fun _ => ⟨h4, s, T, rfl, hs4⟩, fun _ => rfl⟩
        · rw [if_neg hs4]
          refine ⟨false, rfl, fun z => (by cases z), ?_⟩
          rintro ⟨-, s', T', z, z2⟩
          injection z with z3 z4
          rw [z3] at hs4
          exact absurd z2 hs4
    · rw [if_neg h4]
      exact ⟨false, rfl, fun z => (by cases z), fun z => absurd z.1 h4⟩
  obtain ⟨z, z1, z2⟩ := hcond
  rw [z1, z_ob]
  cases z with
  | true =>
    rw [if_pos rfl]
    exact Or.inl ⟨z2.mp rfl, M1, rfl, e2⟩
  | false =>
    rw [if_neg nft]
    have hno : ¬ (rkN x = 4 ∧ ∃ s T, (unw q H C).1 = s :: T ∧ rkN s = 4) := fun y => by
      have := z2.mpr y
      cases this
    obtain ⟨M2, g1, g2⟩ := y_holds e2 hsx (by omega) (by omega)
    rw [g1, z_ob]
    exact Or.inr ⟨hno, M2, rfl, g2⟩
