/-! THE START: the two memories stand alike -/
theorem PT_k {M : Mem} {k : Nat} (h10 : k ≠ 10) (h11 : k ≠ 11) : ∀ n, (PT n M).1 k = M.1 k
  | 0 => rfl
  | n + 1 => by
    show (putM n (PT n M)).1 k = M.1 k
    unfold putM
    rw [wr_cell _ _ h11, wr_cell _ _ h10]
    exact PT_k h10 h11 n
theorem PT_at {M : Mem} {i : Nat} : ∀ n, i < n → (PT n M).1 11 i = sch 0 (nI i)
  | 0, h => absurd h (Nat.not_lt_zero i)
  | n + 1, h => by
    show (putM n (PT n M)).1 11 i = _
    unfold putM
    rw [wr_at]
    by_cases e : i = n
    · rw [if_pos ⟨rfl, e⟩, e]
    · rw [if_neg (fun z => e z.2), wr_cell _ _ (by decide)]
      exact PT_at n (by omega)
theorem TYP_k {M : Mem} {k : Nat} (h6 : k ≠ 6) : ∀ n, (TYP n M).1 k = M.1 k
  | 0 => rfl
  | n + 1 => by
    show (wr (TYP n M) 6 n ((TYP n M).1 12 n)).1 k = M.1 k
    rw [wr_cell _ _ h6]
    exact TYP_k h6 n
theorem TYP_at {M : Mem} {i : Nat} : ∀ n, i < n → (TYP n M).1 6 i = M.1 12 i
  | 0, h => absurd h (Nat.not_lt_zero i)
  | n + 1, h => by
    show (wr (TYP n M) 6 n ((TYP n M).1 12 n)).1 6 i = _
    rw [wr_at]
    by_cases e : i = n
    · rw [if_pos ⟨rfl, e⟩, TYP_k (by decide) n, e]
    · rw [if_neg (fun z => e z.2)]
      exact TYP_at n (by omega)
theorem sch_law : ∀ i, i < 39 → sch 0 (nI i) = nI (lawN i) := by decide +kernel
theorem lawN_b : ∀ i, i < 39 → lawN i < 256 := by decide +kernel
theorem TPX : TP lawN 39 11 (PT 39 MX0) := ⟨by decide, fun i hi => ⟨by rw [PT_at 39 hi]; exact sch_law i hi, lawN_b i hi⟩⟩
theorem MY1_k {k : Nat} (h0 : k ≠ 0) (h6 : k ≠ 6) : (wr (TYP 39 MY0) 0 11 39).1 k = MY0.1 k := by rw [wr_cell _ _ h0]; exact TYP_k h6 39
theorem MY1_0 {j : Nat} (h : j ≠ 11) : (wr (TYP 39 MY0) 0 11 39).1 0 j = if j = 1 then 8 else 0 := by
  rw [wr_at, if_neg (fun z => h z.2), TYP_k (by decide) 39]
  rfl
theorem TPY : TP lawN 39 6 (wr (TYP 39 MY0) 0 11 39) := ⟨by decide, fun i hi => ⟨by
  rw [wr_cell _ _ (by decide), TYP_at 39 hi]
  show fill9 lawN 39 i = _
  unfold fill9
  rw [if_pos hi], lawN_b i hi⟩⟩
theorem wd_at : ∀ j, j < 96 → (wr (TYP 39 MY0) 0 11 39).1 13 j = nI (wdN j) := fun j hj => by
  rw [MY1_k (by decide) (by decide)]
  show fill9 wdN 96 j = _
  unfold fill9
  rw [if_pos hj]
theorem sim_start {M2 B : Mem} {x : Txt} (hx : TXR x 0 M2 B) (kX : ∀ k, k ≠ 10 → k ≠ 12 → k ≠ 13 → k ≠ 14 → k ≠ 16 → k ≠ 23 → M2.1 k = (PT 39 MX0).1 k) (x5 : M2.1 14 4 = nI 1) (x7 : M2.1 10 1 = nI 0)
    (kY : ∀ k, k ≠ 0 → k ≠ 7 → k ≠ 8 → k ≠ 14 → B.1 k = (wr (TYP 39 MY0) 0 11 39).1 k) (fY : ∀ j, j < 27 → j ≠ 11 → j ≠ 14 → B.1 0 j = (wr (TYP 39 MY0) 0 11 39).1 0 j) (y5 : B.1 0 14 = nI 1) (y7 : B.1 0 11 = nI 0) : Sim M2 B := by
  have gX : ∀ k, k ≠ 10 → k ≠ 11 → k ≠ 12 → k ≠ 13 → k ≠ 14 → k ≠ 16 → k ≠ 23 → M2.1 k = MX0.1 k := fun k a b c d e f g => by rw [kX k a c d e f g]; exact PT_k a b 39
  have gY : ∀ k, k ≠ 0 → k ≠ 6 → k ≠ 7 → k ≠ 8 → k ≠ 14 → B.1 k = MY0.1 k := fun k a b c d e => by rw [kY k a c d e]; exact MY1_k a b
  have g0 : ∀ j, j < 27 → j ≠ 11 → j ≠ 14 → B.1 0 j = if j = 1 then 8 else 0 := fun j a b c => by rw [fY j a b c]; exact MY1_0 b
  have m1 : M2.1 1 = fun j => if j = 1 then 8 else 0 := gX 1 (by decide) (by decide) (by decide) (by decide) (by decide) (by decide) (by decide)
  refine ⟨fun k => if k = 1 then 8 else if k = 5 then 1 else 0, fun _ _ => 0, fun _ => x, ⟨⟨?_, ?_, ?_, ?_, ?_, x5, ?_, x7⟩, g0 0 (by decide) (by decide) (by decide), g0 1 (by decide) (by decide) (by decide), g0 2 (by decide) (by decide) (by decide), g0 3 (by decide) (by decide) (by decide), g0 9 (by decide) (by decide) (by decide), y5, g0 15 (by decide) (by decide) (by decide), y7⟩, by unfold RB; decide, ⟨?_, g0 16 (by decide) (by decide) (by decide), fun h => absurd h (by decide)⟩, fun s hs => absurd hs (Nat.not_lt_zero s), fun s hs => absurd hs (Nat.not_lt_zero s), ⟨fun t ht => ?_, fun j hj => ?_⟩, fun s hs => ⟨⟨?_, Or.inl ?_⟩, ⟨?_, ?_, ?_⟩, fun i hi => ?_⟩, ⟨0, Nat.zero_le _, ?_, fun i hi => absurd hi (Nat.not_lt_zero i), fun m hm h => absurd ?_ h⟩⟩
  · rw [m1]; rfl
  · rw [m1]; rfl
  · rw [m1]; rfl
  · rw [m1]; rfl
  · rw [m1]; rfl
  · rw [m1]; rfl
  · rw [gX 0 (by decide) (by decide) (by decide) (by decide) (by decide) (by decide) (by decide)]; rfl
  · have ht : t < 1 := ht
    rw [show t = 0 by omega]
    exact hx
  · rw [kY 13 (by decide) (by decide) (by decide) (by decide)]; exact wd_at j hj
  · rw [gX _ (by omega) (by omega) (by omega) (by omega) (by omega) (by omega) (by omega), gY 9 (by decide) (by decide) (by decide) (by decide) (by decide)]
    match s, hs with
    | 0, _ => rfl
    | 1, _ => rfl
    | 2, _ => rfl
    | 3, _ => rfl
    | s + 4, h => omega
  · rw [gY 9 (by decide) (by decide) (by decide) (by decide) (by decide)]
    match s, hs with
    | 0, _ => rfl
    | 1, _ => rfl
    | 2, _ => rfl
    | 3, _ => rfl
    | s + 4, h => omega
  · rw [gX _ (by omega) (by omega) (by omega) (by omega) (by omega) (by omega) (by omega)]
    match s, hs with
    | 0, _ => rfl
    | 1, _ => rfl
    | 2, _ => rfl
    | 3, _ => rfl
    | s + 4, h => omega
  · rw [gY 10 (by decide) (by decide) (by decide) (by decide) (by decide)]; rfl
  · exact Nat.zero_le _
  · rw [gX _ (by omega) (by omega) (by omega) (by omega) (by omega) (by omega) (by omega), gY 11 (by decide) (by decide) (by decide) (by decide) (by decide)]
    match s, hs with
    | 0, _ => rfl
    | 1, _ => rfl
    | 2, _ => rfl
    | 3, _ => rfl
    | s + 4, h => omega
  · rw [gX 37 (by decide) (by decide) (by decide) (by decide) (by decide) (by decide) (by decide)]; rfl
  · rw [gX 39 (by decide) (by decide) (by decide) (by decide) (by decide) (by decide) (by decide)]; rfl
set_option maxHeartbeats 4000000 in
set_option maxRecDepth 100000 in
theorem first_read : (FX5_read (PT 39 MX0)).map (fun q => q.1) = some (-1) := by decide +kernel
/-- both constructors' reading of the first text -/
theorem start_all : ∃ (r1 r2 r3 : Int32) (M1 M2 B : Mem), FX5_read (PT 39 MX0) = some (r1, M1) ∧ FX6_add M1 = some (r2, M2) ∧ FX9_text (wr (TYP 39 MY0) 0 11 39) = some (r3, B) ∧ Sim (wr M2 10 1 0) B := by
  obtain ⟨M1, M2, B, x, h1, h2, h3, h4, h5, h6, h7, h8, h9, h10, h11⟩ := start_text TPX TPY (PT_size rfl 39) (by rw [wr_at, if_pos ⟨rfl, rfl⟩]; rfl) (by rw [PT_k (by decide) (by decide) 39]; rfl) (by rw [MY1_0 (by decide)]; rfl) wd_at first_read
  exact ⟨_, _, _, M1, M2, B, h1, h2, h3, sim_start h4 h5 h6 h7 h8 h9 h10 h11⟩
