/-! looks -/
def YT (t : Nat → Nat) (e1 e2 sp : Nat → Nat) (tk : Nat → Nat → Nat → Nat) (MY : Mem) : Prop :=
  (MY.1 0 0 = nI (t 0) ∧ MY.1 0 40 = nI (t 1) ∧ MY.1 0 9 = nI (t 2) ∧ MY.1 0 2 = nI (t 3)) ∧
  (∀ s, s < t 1 → MY.1 2 s = nI (e1 s) ∧ MY.1 3 s = nI (e2 s) ∧ MY.1 18 s = nI (sp s)) ∧
  (∀ s l, s < t 1 → l < 2 → MY.1 17 (4 * s + 2 * l) = nI (tk l (e1 s) s) ∧ MY.1 17 (4 * s + 2 * l + 1) = nI (tk l (e2 s) s))
def YG (e1 e2 : Nat → Nat) (tk : Nat → Nat → Nat → Nat) (s : Nat) (M : Mem) : Prop := ∀ M', ky M M' → ∀ c l, (c = e1 s ∨ c = e2 s) → l < 2 → ∃ g M1, FX9_mayGo (nI s) (nI c) (nI l) M' = some (g, M1) ∧ kq M' M1 ∧ (g = 0 → tk l c s = 0) ∧ (g ≠ 0 → ∃ M2, FX9_minutesOf (nI s) (nI c) (nI l) M1 = some (nI (tk l c s), M2) ∧ kq M1 M2)
theorem YG.ky {e1 e2 : Nat → Nat} {tk : Nat → Nat → Nat → Nat} {s : Nat} {M M' : Mem} (h : YG e1 e2 tk s M) (hk : ky M M') : YG e1 e2 tk s M' := fun N hN => h N (hk.tr hN)
/-- side i % 2 with load i / 2 -/
def tk4 (e1 e2 : Nat → Nat) (tk : Nat → Nat → Nat → Nat) (s i : Nat) : Nat := tk (i / 2) (if i % 2 = 0 then e1 s else e2 s) s
theorem y_lo41 {e1 e2 : Nat → Nat} {tk : Nat → Nat → Nat → Nat} {s : Nat} (hs : s < 13) : ∀ (k i f : Nat) (M : Mem), i + k = 4 → k < f → YG e1 e2 tk s M → M.1 2 s = nI (e1 s) → M.1 3 s = nI (e2 s) →
    ∃ M', FX9_looks_L41 f (nI s) (nI i) M = some M' ∧ (∀ k, k ≠ 15 → k ≠ 16 → k ≠ 17 → M'.1 k = M.1 k) ∧ (∀ j, j < 4 → i ≤ j → M'.1 17 (4 * s + j) = nI (tk4 e1 e2 tk s j)) ∧ (∀ j, (∀ q, q < 4 → i ≤ q → j ≠ 4 * s + q) → M'.1 17 j = M.1 17 j) := by
  intro k
  induction k with
  | zero =>
    intro i f M hi hf hG h1 h2
    obtain ⟨f, rfl⟩ : ∃ g, f = g + 1 := ⟨f - 1, by omega⟩
    have : i = 4 := by omega
    subst this
    rw [FX9_looks_L41, if_pos (by decide)]
    exact ⟨M, rfl, fun _ _ _ _ => rfl, fun j h1 h2 => by omega, fun _ _ => rfl⟩
  | succ k ih =>
    intro i f M hi hf hG h1 h2
    obtain ⟨f, rfl⟩ : ∃ g, f = g + 1 := ⟨f - 1, by omega⟩
    have g1 : ¬ 4 ≤ nI i := nI_ge (b := 4) (by omega) (by decide)
    have eside : nI i - nI i / 2 * 2 = nI (i % 2) := pk_rem (d := 2) (by omega) (by decide) (by decide)
    have eload : (if nI i ≤ 1 then (0 : Int32) else 1) = nI (i / 2) := by
      rcases (show i = 0 ∨ i = 1 ∨ i = 2 ∨ i = 3 by omega) with rfl | rfl | rfl | rfl <;> rfl
    have eend : (if nI i - nI i / 2 * 2 = 0 then gi (nI s) 13 (some (M.1 2 (nI s).toNatClampNeg)) else gi (nI s) 13 (some (M.1 3 (nI s).toNatClampNeg))) = some (nI (if i % 2 = 0 then e1 s else e2 s)) := by
      rw [eside, z_gi hs (by decide), z_gi hs (by decide), z_ix (by omega), h1, h2]
      rcases (show i % 2 = 0 ∨ i % 2 = 1 by omega) with e | e <;> rw [e] <;> rfl
    obtain ⟨c, hc⟩ : ∃ c, c = (if i % 2 = 0 then e1 s else e2 s) := ⟨_, rfl⟩
    obtain ⟨l, hl⟩ : ∃ l, l = i / 2 := ⟨_, rfl⟩
    have ht : tk4 e1 e2 tk s i = tk l c s := by unfold tk4; rw [hl, hc]
    rw [FX9_looks_L41, if_neg g1, eend, z_ob, eload, z_lt, ← hc, ← hl]
    obtain ⟨g, M1, f1, f2, f3, f4⟩ := hG M (fun _ _ _ _ _ => rfl) c l (by rw [hc]; split <;> simp) (by omega)
    rw [f1, z_ob]
    obtain ⟨M2, f5, f6⟩ : ∃ M2, (if g = 0 then some ((0 : Int32), M1) else ob (FX9_minutesOf (nI s) (nI c) (nI l) M1) fun q120 => some (q120.1, q120.2)) = some (nI (tk l c s), M2) ∧ kq M M2 := by
      by_cases hg : g = 0
      · rw [if_pos hg, f3 hg]
        exact ⟨M1, rfl, f2⟩
      · obtain ⟨M2, q1, q2⟩ := f4 hg
        rw [if_neg hg, q1, z_ob]
        exact ⟨M2, rfl, f2.tr q2⟩
    show ∃ M', ob (if g = 0 then some ((0 : Int32), M1) else ob (FX9_minutesOf (nI s) (nI c) (nI l) M1) fun q120 => some (q120.1, q120.2)) _ = some M' ∧ _
    rw [f5, z_ob, show (4 : Int32) = nI 4 from rfl, pk_mul, nI_add, z_gi (by omega) (by decide), z_ix (by omega), z_lt, z_lt, nI_1]
    have hk : ky M (wr M2 17 (4 * s + i) (nI (tk l c s))) := fun k a b c' d => by rw [wr_cell _ _ c']; exact f6 k a b
    obtain ⟨M', r1, r2, r3, r4⟩ := ih (i + 1) f (wr M2 17 (4 * s + i) (nI (tk l c s))) (by omega) (by omega) (hG.ky hk) (by rw [wr_cell _ _ (by decide), f6 2 (by decide) (by decide)]; exact h1) (by rw [wr_cell _ _ (by decide), f6 3 (by decide) (by decide)]; exact h2)
    refine ⟨M', r1, fun k a b c' => by rw [r2 k a b c', wr_cell _ _ c', f6 k a b], fun j a b => ?_, fun j a => ?_⟩
    · rcases Nat.lt_or_ge i j with hlt | hge
      · exact r3 j a hlt
      · have : j = i := by omega
        subst this
        rw [r4 _ (fun q h3 h4 => by omega), wr_at, if_pos ⟨rfl, rfl⟩, ht]
    · rw [r4 j (fun q h3 h4 => a q h3 (by omega)), wr_at, if_neg (fun z => a i (by omega) (Nat.le_refl _) z.2), f6 17 (by decide) (by decide)]
theorem y_lo20 {e1 e2 sp : Nat → Nat} {tk : Nat → Nat → Nat → Nat} {N : Nat} (hN : N ≤ 13) {M0 : Mem} (h40 : M0.1 0 40 = nI N) (hend : ∀ s, s < N → M0.1 2 s = nI (e1 s) ∧ M0.1 3 s = nI (e2 s)) (hsp : ∀ s, s < N → ∀ M', ky M0 M' → FX9_spendsOf (nI s) M' = some (nI (sp s))) (hG : ∀ s, s < N → YG e1 e2 tk s M0) : ∀ (k i f : Nat) (M : Mem), i + k = N → k < f → ky M0 M → (∀ s, s < i → M.1 18 s = nI (sp s) ∧ ∀ j, j < 4 → M.1 17 (4 * s + j) = nI (tk4 e1 e2 tk s j)) →
    ∃ M', FX9_looks_L20 f (nI i) M = some M' ∧ ky M0 M' ∧ (∀ s, s < N → M'.1 18 s = nI (sp s) ∧ ∀ j, j < 4 → M'.1 17 (4 * s + j) = nI (tk4 e1 e2 tk s j)) := by
  intro k
  induction k with
  | zero =>
    intro i f M hi hf hk hL
    obtain ⟨f, rfl⟩ : ∃ g, f = g + 1 := ⟨f - 1, by omega⟩
    have : i = N := by omega
    subst this
    rw [FX9_looks_L20, hk 0 (by decide) (by decide) (by decide) (by decide), h40, if_pos (Int32.le_refl _)]
    exact ⟨M, rfl, hk, hL⟩
  | succ k ih =>
    intro i f M hi hf hk hL
    obtain ⟨f, rfl⟩ : ∃ g, f = g + 1 := ⟨f - 1, by omega⟩
    have g1 : ¬ nI N ≤ nI i := nI_ge (by omega) (by omega)
    rw [FX9_looks_L20, hk 0 (by decide) (by decide) (by decide) (by decide), h40, if_neg g1, hsp i (by omega) M hk, z_ob, z_gi (by omega) (by decide), z_lt, z_ix (by omega)]
    have hk1 : ky M0 (wr M 18 i (nI (sp i))) := hk.tr (fun k a b c d => wr_cell _ _ d)
    obtain ⟨M2, f1, f2, f3, f4⟩ := y_lo41 (e1 := e1) (e2 := e2) (tk := tk) (show i < 13 by omega) 4 0 FU (wr M 18 i (nI (sp i))) rfl (by rw [z_FU]; omega) ((hG i (by omega)).ky hk1) (by rw [hk1 2 (by decide) (by decide) (by decide) (by decide)]; exact (hend i (by omega)).1) (by rw [hk1 3 (by decide) (by decide) (by decide) (by decide)]; exact (hend i (by omega)).2)
    rw [show nI 0 = 0 from rfl] at f1
    rw [f1, z_ob, z_lt, nI_1]
    have hk2 : ky M0 M2 := hk1.tr (fun k a b c d => f2 k a b c)
    refine ih (i + 1) f M2 (by omega) (by omega) hk2 (fun s hs => ?_)
    rw [f2 18 (by decide) (by decide) (by decide), wr_at]
    by_cases h1 : s = i
    · subst h1
      rw [if_pos ⟨rfl, rfl⟩]
      exact ⟨rfl, fun j hj => f3 j hj (Nat.zero_le _)⟩
    · rw [if_neg (fun z => h1 z.2)]
      obtain ⟨a, b⟩ := hL s (by omega)
      exact ⟨a, fun j hj => by rw [f4 _ (fun q h3 h4 => by omega), wr_cell _ _ (by decide)]; exact b j hj⟩
theorem YT_of {t e1 e2 sp : Nat → Nat} {tk : Nat → Nat → Nat → Nat} {M : Mem} (h0 : M.1 0 0 = nI (t 0) ∧ M.1 0 40 = nI (t 1) ∧ M.1 0 9 = nI (t 2) ∧ M.1 0 2 = nI (t 3)) (hend : ∀ s, s < t 1 → M.1 2 s = nI (e1 s) ∧ M.1 3 s = nI (e2 s)) (hr : ∀ s, s < t 1 → M.1 18 s = nI (sp s) ∧ ∀ j, j < 4 → M.1 17 (4 * s + j) = nI (tk4 e1 e2 tk s j)) : YT t e1 e2 sp tk M := by
  refine ⟨h0, fun s hs => ⟨(hend s hs).1, (hend s hs).2, (hr s hs).1⟩, fun s l hs hl => ?_⟩
  obtain ⟨-, h⟩ := hr s hs
  rcases (show l = 0 ∨ l = 1 by omega) with rfl | rfl
  · exact ⟨h 0 (by decide), h 1 (by decide)⟩
  · exact ⟨h 2 (by decide), h 3 (by decide)⟩
theorem YG_of {n hr law : Nat} {u : Nat → Nat → Nat} {x : Txt} {MX M : Mem} (h : YW n hr law u x MX M) {s : Nat} (hs : s < n) {e1 e2 : Nat → Nat} {tk : Nat → Nat → Nat → Nat} (h1 : e1 s = u 1 s) (h2 : e2 s = u 2 s) (h3 : ∀ l c, tk l c s = tkS u x hr l c s) : YG e1 e2 tk s M := by
  intro M' hk c l hc hl
  have h' := h.ky hk
  obtain ⟨-, -, hS, -⟩ := id h'
  obtain ⟨-, -, ⟨b0, b1, b2, b3, b4, b5, b6⟩⟩ := hS s hs
  rw [h1, h2] at hc
  have hc9 : c < 9 := by rcases hc with rfl | rfl <;> assumption
  obtain ⟨M1, q1, q2⟩ := y_mayGo h' hs hc9 hl
  refine ⟨_, M1, q1, q2, fun hg => ?_, fun hg => ?_⟩
  · rw [h3]
    unfold tkS opn
    by_cases hm : may u x hr s c l = true
    · rw [if_pos hm] at hg; cases hg
    · rw [if_neg]
      simp [hm]
  · have hm : may u x hr s c l = true := by
      by_cases hm : may u x hr s c l = true
      · exact hm
      · rw [if_neg hm] at hg; exact absurd rfl hg
    obtain ⟨M2, q3, q4⟩ := y_minutesOf (h'.ky q2.y) hs hc9 hl
    refine ⟨M2, ?_, q4⟩
    rw [q3, h3]
    unfold tkS opn
    rw [if_pos]
    rw [hm, Bool.and_true]
    rcases hc with rfl | rfl <;> simp
theorem y_looks {n hr law hd been once : Nat} {u : Nat → Nat → Nat} {x : Txt} {MX M : Mem} (h : YW n hr law u x MX M) (h0 : M.1 0 0 = nI hd) (h9 : M.1 0 9 = nI been) (h2 : M.1 0 2 = nI once) :
    ∃ M', FX9_looks 0 M = some M' ∧ (∀ k, k ≠ 0 → k ≠ 15 → k ≠ 16 → k ≠ 17 → k ≠ 18 → M'.1 k = M.1 k) ∧ (∀ j, j ≠ 40 → M'.1 0 j = M.1 0 j) ∧ YT (fun j => if j = 0 then hd else if j = 1 then n else if j = 2 then been else once) (u 1) (u 2) (spn u n) (tkS u x hr) M' := by
  obtain ⟨⟨t1, t2, t3⟩, ⟨t6, t7, t8⟩, hS, hX⟩ := id h
  unfold FX9_looks
  rw [if_pos rfl, z_lt, t6, z_lt, Int32.add_zero]
  obtain ⟨M0, hM0⟩ : ∃ M0, M0 = wr M 0 40 (nI n) := ⟨_, rfl⟩
  rw [← hM0]
  have c0 : ∀ j, j ≠ 40 → M0.1 0 j = M.1 0 j := fun j hj => by rw [hM0, wr_at, if_neg (fun z => hj z.2)]
  have ck : ∀ k, k ≠ 0 → M0.1 k = M.1 k := fun k hk => by rw [hM0, wr_cell _ _ hk]
  have hW : YW n hr law u x MX M0 := by
    refine ⟨⟨t1, t2, t3⟩, ⟨?_, ?_, ?_⟩, hS.fr (fun _ _ _ _ _ => rfl) (fun k h1 h2 s _ => by rw [ck k (by omega)]), hX.fr rfl rfl (ck 7 (by decide)) (ck 8 (by decide))⟩
    · rw [c0 3 (by decide)]; exact t6
    · rw [c0 1 (by decide)]; exact t7
    · rw [c0 15 (by decide)]; exact t8
  have hend : ∀ s, s < n → M0.1 2 s = nI (u 1 s) ∧ M0.1 3 s = nI (u 2 s) := fun s hs => by
    obtain ⟨-, ⟨y0, y1, y2, y3, y4⟩, -⟩ := hS s hs
    rw [ck 2 (by decide), ck 3 (by decide)]
    exact ⟨y1, y2⟩
  obtain ⟨M', f1, f2, f3⟩ := y_lo20 (e1 := u 1) (e2 := u 2) (sp := spn u n) (tk := tkS u x hr) (show n ≤ 13 by omega) (M0 := M0) (by rw [hM0, wr_at, if_pos ⟨rfl, rfl⟩]) hend (fun s hs M' hk => by
    obtain ⟨-, ⟨w6, -, -⟩, hS', -⟩ := hW.ky hk
    exact y_spends hS' t1 w6 hs) (fun s hs => YG_of hW hs rfl rfl (fun _ _ => rfl)) n 0 FU M0 (by omega) (by rw [z_FU]; omega) (fun _ _ _ _ _ => rfl) (fun s hs => absurd hs (Nat.not_lt_zero s))
  rw [show nI 0 = 0 from rfl] at f1
  rw [f1, z_ob]
  have k0 := f2 0 (by decide) (by decide) (by decide) (by decide)
  refine ⟨M', rfl, fun k a b c d e => by rw [f2 k b c d e, ck k a], fun j hj => by rw [k0, c0 j hj], YT_of ⟨?_, ?_, ?_, ?_⟩ (fun s hs => ?_) (fun s hs => f3 s hs)⟩
  · rw [k0, c0 0 (by decide)]; exact h0
  · rw [k0, hM0, wr_at, if_pos ⟨rfl, rfl⟩]; rfl
  · rw [k0, c0 9 (by decide)]; exact h9
  · rw [k0, c0 2 (by decide)]; exact h2
  · rw [f2 2 (by decide) (by decide) (by decide) (by decide), f2 3 (by decide) (by decide) (by decide) (by decide)]
    exact hend s hs
