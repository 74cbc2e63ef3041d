/-! text: the three expressions -/
def kxU (M M' : Mem) : Prop := (∀ k, k ≠ 10 → k ≠ 12 → k ≠ 13 → M'.1 k = M.1 k) ∧ ∀ j, j < 4 → M'.1 10 j = M.1 10 j
theorem kxU.rf (M : Mem) : kxU M M := ⟨fun _ _ _ _ => rfl, fun _ _ => rfl⟩
theorem kxU.tr {A B C : Mem} (h : kxU A B) (h2 : kxU B C) : kxU A C := ⟨fun k a b c => (h2.1 k a b c).trans (h.1 k a b c), fun j hj => (h2.2 j hj).trans (h.2 j hj)⟩
theorem kxT.u {A B : Mem} (h : kxT A B) : kxU A B := ⟨fun k a b _ => h.1 k a b, h.2⟩
theorem kxU_13 {j : Nat} (M : Mem) (x : Int32) : kxU M (wr M 13 j x) := ⟨fun k _ _ a => wr_cell _ _ a, fun i hi => by rw [wr_cell _ _ (by decide)]⟩
theorem XF.rb {M0 M : Mem} {b : Nat} (h : XF M0 M b) : XF M M b := ⟨kxT.rf M, h.2⟩
theorem XS.rb {tp : Nat → Nat} {n : Nat} {M0 M : Mem} {p : Nat} {C : List Nat} (h : XS tp n M0 M p C) : XS tp n M M p C := by
  obtain ⟨k, ⟨t1, t2, t3⟩, a, c⟩ := h
  exact ⟨kxT.rf M, ⟨t1.c (k.1 11 (by decide) (by decide)), by rw [k.2 1 (by decide)]; exact t2, t3⟩, a, c⟩
theorem XF.w13 {M : Mem} {b j : Nat} {x : Int32} (h : XF M M b) : XF (wr M 13 j x) (wr M 13 j x) b := by
  obtain ⟨k, a, c, d⟩ := h
  refine ⟨kxT.rf _, ?_, ?_, ?_⟩
  · rw [wr_cell _ _ (by decide)]; exact a
  · rw [wr_cell _ _ (by decide)]; exact c
  · rw [wr_cell _ _ (by decide)]; exact d
theorem XS.w13 {tp : Nat → Nat} {n : Nat} {M : Mem} {p j : Nat} {C : List Nat} {x : Int32} (h : XS tp n M M p C) : XS tp n (wr M 13 j x) (wr M 13 j x) p C := by
  obtain ⟨k, ⟨t1, t2, t3⟩, a, c⟩ := h
  refine ⟨kxT.rf _, ⟨t1.c (wr_cell _ _ (by decide)), ?_, t3⟩, ?_, ?_⟩
  · rw [wr_cell _ _ (by decide)]; exact t2
  · rw [wr_cell _ _ (by decide)]; exact a
  · rw [wr_cell _ _ (by decide), wr_cell _ _ (by decide)]; exact c
theorem x_rdF : ∀ (k i f : Nat) (M : Mem) (b : Nat), i + k = 3 → k < f → XF M M b → ∃ M', FX5_read_L21 f (nI i) M = some M' ∧ XF M' M' b ∧ kxU M M' := by
  intro k
  induction k with
  | zero =>
    intro i f M b hi hf hX
    obtain ⟨f, rfl⟩ : ∃ g, f = g + 1 := ⟨f - 1, by omega⟩
    have : i = 3 := by omega
    subst this
    rw [FX5_read_L21, if_pos (by decide)]
    exact ⟨M, rfl, hX, kxU.rf M⟩
  | succ k ih =>
    intro i f M b hi hf hX
    obtain ⟨f, rfl⟩ : ∃ g, f = g + 1 := ⟨f - 1, by omega⟩
    have h2 : ¬ 2 < nI i := by
      rw [show (2 : Int32) = nI 2 from rfl, z_lts (by decide) (by omega)]
      omega
    obtain ⟨M1, a1, a2⟩ := x_expF hX (a := 256 + i) (by omega) (by omega)
    obtain ⟨M2, b1, b2⟩ := F_eitherT 0 M M1 b a2
    obtain ⟨M3, c1, c2⟩ := x_expF b2 (a := 59) (by decide) (by decide)
    rw [FX5_read_L21, if_neg h2, show (256 : Int32) = nI 256 from rfl, nI_add, a1, z_ob, b1, z_ob, show (59 : Int32) = nI 59 from rfl, c1, z_ob, z_gi (by omega) (by decide), z_ix (by omega), z_lt, nI_1, z_lt]
    obtain ⟨M', r1, r2, r3⟩ := ih (i + 1) f (wr M3 13 i (M3.1 10 4)) b (by omega) (by omega) c2.rb.w13
    exact ⟨M', r1, r2, (c2.1.u.tr (kxU_13 _ _)).tr r3⟩
/-- the reference's state between expressions -/
def kyU (N : Nat) (M M' : Mem) : Prop := (∀ k, k ≠ 0 → k ≠ 7 → k ≠ 8 → k ≠ 14 → M'.1 k = M.1 k) ∧ (∀ j, (j < 27 ∨ 36 ≤ j) → M'.1 0 j = M.1 0 j) ∧ (∀ i, (i < 200 * N ∨ 200 * N + 200 ≤ i) → M'.1 7 i = M.1 7 i) ∧ ∀ i, (i < 4 * N ∨ 4 * N + 4 ≤ i) → M'.1 8 i = M.1 8 i
theorem kyU.rf (N : Nat) (M : Mem) : kyU N M M := ⟨fun _ _ _ _ _ => rfl, fun _ _ => rfl, fun _ _ => rfl, fun _ _ => rfl⟩
theorem kyU.tr {N : Nat} {A B C : Mem} (h : kyU N A B) (h2 : kyU N B C) : kyU N A C := ⟨fun k a b c d => (h2.1 k a b c d).trans (h.1 k a b c d), fun j hj => (h2.2.1 j hj).trans (h.2.1 j hj), fun i hi => (h2.2.2.1 i hi).trans (h.2.2.1 i hi), fun i hi => (h2.2.2.2 i hi).trans (h.2.2.2 i hi)⟩
theorem kyT.u {N : Nat} {A B : Mem} (h : kyT N A B) : kyU N A B := ⟨fun k a b _ c => h.1 k a b c, h.2.1, h.2.2, fun i _ => by rw [h.1 8 (by decide) (by decide) (by decide)]⟩
theorem kyU_0 {N j : Nat} (hj : 27 ≤ j ∧ j < 36) (M : Mem) (x : Int32) : kyU N M (wr M 0 j x) := (kyT_0 hj M x).u
theorem kyU_8 {N j : Nat} (hj : 4 * N ≤ j ∧ j < 4 * N + 4) (M : Mem) (x : Int32) : kyU N M (wr M 8 j x) := ⟨fun k _ _ a _ => wr_cell _ _ a, fun i hi => by rw [wr_cell _ _ (by decide)], fun i _ => by rw [wr_cell _ _ (by decide)], fun i hi => by rw [wr_at, if_neg (by omega)]⟩
def YO (tp : Nat → Nat) (n N : Nat) (M : Mem) (p : Nat) (C : List Nat) : Prop :=
  (TP tp n 6 M ∧ (∀ j, j < 96 → M.1 13 j = nI (wdN j)) ∧ M.1 0 11 = nI n ∧ M.1 0 14 = nI N ∧ N < 6) ∧ (M.1 0 27 = nI p ∧ p ≤ n) ∧ (M.1 0 35 = nI C.length ∧ ∀ i, i < C.length → M.1 7 (200 * N + i) = nI (C.getD i 0))
theorem YO.kz {tp : Nat → Nat} {n N : Nat} {M M' : Mem} {p p' : Nat} {C : List Nat} (h : YO tp n N M p C) (hk : kz (fun i => 27 ≤ i ∧ i ≤ 34) M M') (h27 : M'.1 0 27 = nI p') (hp : p' ≤ n) : YO tp n N M' p' C := by
  obtain ⟨⟨t1, t2, t3, t4, t5⟩, -, c1, c2⟩ := h
  refine ⟨⟨t1.c (hk.1 6 (by decide)), fun j hj => by rw [hk.1 13 (by decide)]; exact t2 j hj, ?_, ?_, t5⟩, ⟨h27, hp⟩, ?_, fun i hi => ?_⟩
  · rw [hk.2 11 (by omega)]; exact t3
  · rw [hk.2 14 (by omega)]; exact t4
  · rw [hk.2 35 (by omega)]; exact c1
  · rw [hk.1 7 (by decide)]; exact c2 i hi
theorem YO.w8 {tp : Nat → Nat} {n N : Nat} {M : Mem} {p j : Nat} {C : List Nat} {x : Int32} (h : YO tp n N M p C) : YO tp n N (wr M 8 j x) p C := by
  obtain ⟨⟨t1, t2, t3, t4, t5⟩, a, c1, c2⟩ := h
  refine ⟨⟨t1.c (wr_cell _ _ (by decide)), fun j hj => by rw [wr_cell _ _ (by decide)]; exact t2 j hj, ?_, ?_, t5⟩, ?_, ?_, fun i hi => ?_⟩
  · rw [wr_cell _ _ (by decide)]; exact t3
  · rw [wr_cell _ _ (by decide)]; exact t4
  · rw [wr_cell _ _ (by decide)]; exact a
  · rw [wr_cell _ _ (by decide)]; exact c1
  · rw [wr_cell _ _ (by decide)]; exact c2 i hi
theorem ob_some {α β : Type} (x : Option α) (g : α → Option β) : ob (ob x fun q => some q) g = ob x g := by cases x <;> rfl
/-- one expression of the reference -/
def bodyY (i : Nat) (M : Mem) : Option (Int32 × Mem) :=
  ob (FX9_next M) fun q => gi ((4 * (q.1 0 14)) + nI i) 24 (ob (α := Int32 × Mem) (if (if (if q.1 0 29 = 3 then (if q.1 0 30 = nI i then true else false) else false) = true then (1 : Int32) else 0) = 0 then some (0, wr q 8 (Int32.toNatClampNeg ((4 * (q.1 0 14)) + nI i)) (q.1 0 35)) else ob (FX9_eRead (wr q 8 (Int32.toNatClampNeg ((4 * (q.1 0 14)) + nI i)) (q.1 0 35))) fun q => if q.1 = 0 then some (0, q.2) else some (1, q.2)) fun q => some q)
theorem L26_body (f i : Nat) (hi : i < 3) (M : Mem) : FX9_text_L26 (f + 1) 1 (nI i) M = ob (bodyY i M) fun q => FX9_text_L26 f q.1 (nI (i + 1)) q.2 := by
  have h3 : ¬ 3 ≤ nI i := nI_ge (b := 3) hi (by decide)
  rw [FX9_text_L26, if_neg h3, if_neg n10, z_lt, if_pos rfl]
  unfold bodyY
  cases FX9_next M with
  | none => rfl
  | some q =>
    rw [z_ob, z_ob]
    simp only [z_lt]
    rw [nI_1]
    unfold gi
    split
    · rfl
    · exact (ob_some _ _).symm
theorem L26_0 (f : Nat) (i : Int32) (M : Mem) : FX9_text_L26 (f + 1) 0 i M = some (0, M) := by
  rw [FX9_text_L26]
  have e : (if 3 ≤ i then false else if (0 : Int32) = 0 then false else true) = false := by split <;> rfl
  rw [e, z_lt, if_neg nft]
theorem L26_3 (f : Nat) (g : Int32) (M : Mem) : FX9_text_L26 (f + 1) g (nI 3) M = some (g, M) := by
  rw [FX9_text_L26, if_pos (show (3 : Int32) ≤ nI 3 by decide), z_lt, if_neg nft]
