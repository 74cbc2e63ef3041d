/-! finds, told4 -/
theorem y_finds {T : Twn} (hT : Twf T) (hN : T.1 1 ≤ 12) {k d : Nat} {p : Int32} (hp : shop p k) (hd : d < 512) {M M1 : Mem} (hl : FX9_looks 0 M = some M1) (hY : YTw T M1) :
    (∃ M', FX9_finds (nI d) p M = some (0, M') ∧ kf M1 M' ∧ M'.1 0 45 = -1 ∧ ∀ w, ¬ Cpl T k d 0 (T.1 0) w) ∨
    ∃ w M', FX9_finds (nI d) p M = some (1, M') ∧ kf M1 M' ∧ Cpl T k d 0 (T.1 0) w ∧ (∀ w', Cpl T k d 0 (T.1 0) w' → Kw T k w ≤ Kw T k w') ∧ M'.1 0 44 = nI w.length ∧ M'.1 0 45 = nI (tmE T k 0 (T.1 0) w) ∧ ∀ i, i < w.length → M'.1 21 i = nI (w.getD i 0) := by
  have hd9 := hT.1.1
  obtain ⟨M2, e1, k2, hB⟩ := y_backward hT hp hd hY
  have hY2 := hY.kp k2 (by omega)
  unfold FX9_finds
  rw [hl, z_ob, e1, z_ob, z_lt]
  obtain ⟨M4, hM4⟩ : ∃ M4, M4 = wr (wr M2 0 44 0) 0 45 (M2.1 20 (T.1 0)) := ⟨_, rfl⟩
  have a0 : (wr M2 0 44 0).1 0 0 = nI (T.1 0) := by rw [wr_at, if_neg (by omega)]; exact hY2.1.1
  have a20 : (wr M2 0 44 0).1 20 = M2.1 20 := wr_cell _ _ (by decide)
  rw [a0, z_gi (by omega) (by decide), z_lt, z_ix (by omega), a20, ← hM4]
  have kf4 : kf M1 M4 := by
    refine ⟨fun c h1 h2 h3 => ?_, fun j h1 h2 => ?_⟩
    · rw [hM4, wr_cell _ _ h1, wr_cell _ _ h1, k2 c h2]
    · rw [hM4, wr_at, if_neg (fun z => h2 z.2), wr_at, if_neg (fun z => h1 z.2), k2 0 (by decide)]
  have hY4 := hY.kf kf4
  have m20 : M4.1 20 = M2.1 20 := by rw [hM4, wr_cell _ _ (by decide), wr_cell _ _ (by decide)]
  have m44 : M4.1 0 44 = nI (pc 0) := by rw [hM4, wr_at, if_neg (by omega), wr_at, if_pos ⟨rfl, rfl⟩, pc_0]; rfl
  have m45 : M4.1 0 45 = M2.1 20 (T.1 0) := by rw [hM4, wr_at, if_pos ⟨rfl, rfl⟩]
  rw [hY4.1.1, z_lt]
  have hw0 := wk_0 hT
  have hrs : ∀ m c, wk T m c → Rst T k d m c (rsY M2 m c) := fun m c h => (rs_ok hB h).1
  obtain ⟨r1, r2⟩ := rs_ok hB hw0
  have z9 : 9 * 0 + T.1 0 = T.1 0 := by omega
  rw [z9] at r2
  rcases r2 with ⟨h1, h2⟩ | ⟨q, h1, h2, h3⟩
  · left
    rw [h1] at r1
    have estop : FX9_finds_L37 FU p 0 (nI (T.1 0)) M4 = some M4 := by
      rw [show FU = 99999 + 1 from rfl, FX9_finds_L37, show (9 : Int32) = nI 9 from rfl, show (0 : Int32) = nI 0 from rfl, pk_mul, nI_add, z_gi (by omega) (by decide), z_ix (by omega), show 9 * 0 + T.1 0 = T.1 0 by omega, m20, h2, if_pos (by decide)]
    rw [estop, z_ob, m45, h2, if_pos rfl]
    exact ⟨M4, rfl, kf4, by rw [m45, h2], r1⟩
  · right
    obtain ⟨w, M', g1, g2, g3, g4, g5, g5', g6, g7⟩ := y_fi37 hT hN hp hB 13 0 (T.1 0) FU q M4 (by rw [pc_0]) (by rw [z_FU]; omega) hw0 h2 hY4 m20 m44
    have hle := Grd_least hT hrs (j := 0) hw0 g2
    rw [h2] at hle
    have eq := Option.some.inj hle.1
    rw [show nI 0 = 0 from rfl] at g1
    rw [g1, z_ob, g5', m45, h3, if_neg (z_m1 (by omega))]
    refine ⟨w, M', rfl, kf4.tr g3, Grd_cpl g2, fun w' h' => Grd_K hT hrs g2 h', by rw [g5, pc_0, Nat.zero_add], by rw [g5', m45, h3, eq], fun i hi => ?_⟩
    have := g6 i hi
    rw [pc_0, Nat.zero_add] at this
    exact this
theorem take_snoc {w : List Nat} {i : Nat} (h : i < w.length) : w.take (i + 1) = w.take i ++ [w.getD i 0] := by
  rw [List.take_succ_eq_append_getElem h, List.getD_eq_getElem?_getD, List.getElem?_eq_getElem h]
  rfl
theorem y_t4L {w : List Nat} {M : Mem} (hw : ∀ s ∈ w, s < 13) (hl : w.length ≤ 12) (h44 : M.1 0 44 = nI w.length) (h21 : ∀ i, i < w.length → M.1 21 i = nI (w.getD i 0)) : ∀ (k i f : Nat), i + k = w.length → k < f → FX9_told4_L11 f (nI (mE 0 (w.take i))) (nI i) M = some (nI (mE 0 w)) := by
  intro k
  induction k with
  | zero =>
    intro i f hi hf
    obtain ⟨f, rfl⟩ : ∃ g, f = g + 1 := ⟨f - 1, by omega⟩
    rw [FX9_told4_L11, h44, if_pos (nI_le (by omega) (by omega)), List.take_of_length_le (by omega)]
  | succ k ih =>
    intro i f hi hf
    obtain ⟨f, rfl⟩ : ∃ g, f = g + 1 := ⟨f - 1, by omega⟩
    have hs : w.getD i 0 < 13 := by
      apply hw
      rw [List.getD_eq_getElem?_getD, List.getElem?_eq_getElem (by omega)]
      exact List.getElem_mem _
    have ihh := ih (i + 1) f (by omega) (by omega)
    rw [take_snoc (by omega), mE_app] at ihh
    rw [FX9_told4_L11, h44, if_neg (nI_ge (by omega) (by omega)), z_gi (by omega) (by decide), z_lt, z_lt, z_ix (by omega), h21 i (by omega), z_shl1 (by omega), z_or, nI_1]
    exact ihh
/-- what is told of a walk -/
def tv (T : Twn) (k : Nat) (w : List Nat) (a : Nat) : Nat := if a = 0 then tmE T k 0 (T.1 0) w else if a = 1 then mE 0 w else if a = 2 then w.getD 0 0 else w.length
theorem Cpl_ne {T : Twn} {k d : Nat} {w : List Nat} {c : Nat} (h : Cpl T k d 0 c w) : 0 < w.length := by
  cases w with
  | nil =>
    rw [Cpl_nil, rng_iff] at h
    exact absurd rfl h.1
  | cons s r => exact Nat.succ_pos _
theorem y_told4 {T : Twn} (hT : Twf T) (hN : T.1 1 ≤ 12) {k d : Nat} {w : List Nat} (hc : Cpl T k d 0 (T.1 0) w) {M : Mem} (h44 : M.1 0 44 = nI w.length) (h45 : M.1 0 45 = nI (tmE T k 0 (T.1 0) w)) (h21 : ∀ i, i < w.length → M.1 21 i = nI (w.getD i 0)) {a : Nat} (ha : a < 4) : FX9_told4 1 (nI a) M = some (nI (tv T k w a)) := by
  have hlen : w.length ≤ 12 := by
    have h1 := Pre_pc hT hc.1
    have h2 := pc_leN (show T.1 1 ≤ 13 by omega) (Pre_wk hT (wk_0 hT) hc.1).1
    rw [pc_0] at h1
    omega
  have hpos := Cpl_ne hc
  have hL := y_t4L (Pre_in hT hc.1) hlen h44 h21 w.length 0 FU (by omega) (by rw [z_FU]; omega)
  rw [List.take_zero, show mE 0 [] = 0 from rfl, show nI 0 = 0 from rfl] at hL
  unfold FX9_told4 tv
  rw [if_neg (by decide), hL, z_ob]
  rcases (show a = 0 ∨ a = 1 ∨ a = 2 ∨ a = 3 by omega) with rfl | rfl | rfl | rfl
  · rw [if_pos rfl, h45]; rfl
  · rw [if_neg (by decide), if_pos rfl]; rfl
  · rw [if_neg (by decide), if_neg (by decide), if_pos rfl]
    have := h21 0 hpos
    show gi (nI 0) 12 (some (M.1 21 (nI 0).toNatClampNeg)) = _
    rw [z_gi (by decide) (by decide), z_ix (by decide), this]
    rfl
  · rw [if_neg (by decide), if_neg (by decide), if_neg (by decide), h44]; rfl
