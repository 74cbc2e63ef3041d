/-! the class's search: forget, seek -/
theorem x_foL {cnt : Nat} (hc : cnt ≤ 8192) : ∀ (k i f : Nat) (M : Mem), i + k = cnt → k < f → M.1 37 4 = nI cnt → (∀ j, j < cnt → ∃ m, m < 8192 ∧ M.1 40 j = nI m) →
    ∃ M', FX0_forget_L2 f (nI i) M = some M' ∧ kp 39 M M' ∧ M'.2 = M.2 ∧ (∀ m, m < 8192 → (∃ j, i ≤ j ∧ j < cnt ∧ M.1 40 j = nI m) → M'.1 39 m = 0) ∧ ∀ m, m < 8192 → (¬ ∃ j, i ≤ j ∧ j < cnt ∧ M.1 40 j = nI m) → M'.1 39 m = M.1 39 m := by
  intro k
  induction k with
  | zero =>
    intro i f M hi hf h37 h40
    obtain ⟨f, rfl⟩ : ∃ g, f = g + 1 := ⟨f - 1, by omega⟩
    have : i = cnt := by omega
    subst this
    rw [FX0_forget_L2, h37, if_pos (Int32.le_refl _)]
    exact ⟨M, rfl, kp.rf _ _, rfl, fun m _ ⟨j, h1, h2, _⟩ => by omega, fun _ _ _ => rfl⟩
  | succ k ih =>
    intro i f M hi hf h37 h40
    obtain ⟨f, rfl⟩ : ∃ g, f = g + 1 := ⟨f - 1, by omega⟩
    obtain ⟨m0, m1, m2⟩ := h40 i (by omega)
    rw [FX0_forget_L2, h37, if_neg (nI_ge (by omega) (by omega)), z_gi (by omega) (by decide), z_ix (by omega), m2, z_gi m1 (by decide), z_lt, z_lt, z_ix (by omega), nI_1]
    obtain ⟨M', r1, r2, r2', r3, r4⟩ := ih (i + 1) f (wr M 39 m0 0) (by omega) (by omega) (by rw [wr_cell _ _ (by decide)]; exact h37) (fun j hj => by rw [wr_cell _ _ (by decide)]; exact h40 j hj)
    have e40 : (wr M 39 m0 0).1 40 = M.1 40 := wr_cell _ _ (by decide)
    rw [e40] at r3 r4
    have hz : ∀ m, m < 8192 → m = m0 → M'.1 39 m = 0 := by
      intro m hm he
      by_cases hex : ∃ j, i + 1 ≤ j ∧ j < cnt ∧ M.1 40 j = nI m
      · exact r3 m hm hex
      · rw [r4 m hm hex, wr_at, if_pos ⟨rfl, he⟩]
    refine ⟨M', r1, (kp.wr 39 M m0 0).tr r2, r2', fun m hm ⟨j, h1, h2, h3⟩ => ?_, fun m hm hno => ?_⟩
    · rcases (show i + 1 ≤ j ∨ j = i by omega) with h | h
      · exact r3 m hm ⟨j, h, h2, h3⟩
      · rw [h, m2] at h3
        exact hz m hm ((z_eq (by omega) (by omega)).mp h3).symm
    · rw [r4 m hm (fun ⟨j, h1, h2, h3⟩ => hno ⟨j, by omega, h2, h3⟩), wr_at, if_neg]
      rintro ⟨-, he⟩
      exact hno ⟨i, Nat.le_refl _, by omega, by rw [he]; exact m2⟩
theorem x_forget {M : Mem} {cnt a : Nat} (ha : a ≤ cnt) (hc : cnt ≤ 8192) (h37 : M.1 37 4 = nI cnt) (h40 : ∀ j, j < cnt → ∃ m, m < 8192 ∧ M.1 40 j = nI m) : ∃ M', FX0_forget (nI a) M = some M' ∧ (∀ c, c ≠ 37 → c ≠ 39 → M'.1 c = M.1 c) ∧ M'.1 37 4 = nI a ∧ (∀ j, j ≠ 4 → M'.1 37 j = M.1 37 j) ∧ M'.2 = M.2 ∧ (∀ m, m < 8192 → (∃ j, a ≤ j ∧ j < cnt ∧ M.1 40 j = nI m) → M'.1 39 m = 0) ∧ ∀ m, m < 8192 → (¬ ∃ j, a ≤ j ∧ j < cnt ∧ M.1 40 j = nI m) → M'.1 39 m = M.1 39 m := by
  obtain ⟨M1, r1, r2, r2', r3, r4⟩ := x_foL hc (cnt - a) a FU M (by omega) (by rw [z_FU]; omega) h37 h40
  unfold FX0_forget
  rw [r1, z_ob, z_lt]
  refine ⟨_, rfl, fun c h1 h2 => by rw [wr_cell _ _ h1, r2 c h2], by rw [wr_at, if_pos ⟨rfl, rfl⟩], fun j hj => by rw [wr_at, if_neg (fun z => hj z.2), r2 37 (by decide)], r2', fun m hm h => by rw [wr_cell _ _ (by decide)]; exact r3 m hm h, fun m hm h => by rw [wr_cell _ _ (by decide)]; exact r4 m hm h⟩
/-- what a search has found -/
def SK (T : Twn) (k d : Nat) (Q : List Nat) (κ : Nat → Nat) (M : Mem) : Prop := QS T k d True Q κ M ∧ ∀ w, Pre T k d 0 (T.1 0) w → mE 0 w ∈ Q ∧ κ (mE 0 w) ≤ Kw T k w
theorem QS_RZ {T : Twn} (hT : Twf T) {k d : Nat} {Kf : Prop} {Q : List Nat} {κ : Nat → Nat} {M : Mem} (h : QS T k d Kf Q κ M) : RZ M := by
  have hN := hT.1.2.1
  have hlt := QS_lt hT h
  obtain ⟨⟨q1, q2⟩, q3, q4, q5, q6, q7⟩ := h
  refine ⟨Q.length, nodup_le 8192 Q q4 (fun x hx => p13 hN (hlt x hx)), q1, fun i hi => ⟨_, p13 hN (hlt _ (getD_mem hi)), q3 i hi⟩, fun m hm hne => ?_⟩
  by_cases hin : m ∈ Q
  · obtain ⟨i, h1, h2⟩ := mem_getD hin
    exact ⟨i, h1, by rw [q3 i h1, h2]⟩
  · exact absurd (q6 m hm hin) hne
theorem XTw.C {T : Twn} (hN : T.1 1 ≤ 12) {M : Mem} (h : XTw T M) : XC T (T.1 1) True M := ⟨⟨h.1.2.1, hN⟩, h.2.1, fun _ s l c a b e g => h.2.2.2 s l c a b e g⟩
theorem XTw.ks {T : Twn} {M M' : Mem} (h : XTw T M) (hk : ks M M') : XTw T M' := by
  unfold XTw XT at h ⊢
  rw [hk 31 (by decide) (by decide) (by decide), hk 32 (by decide) (by decide) (by decide), hk 33 (by decide) (by decide) (by decide), hk 34 (by decide) (by decide) (by decide), hk 35 (by decide) (by decide) (by decide), hk 36 (by decide) (by decide) (by decide)]
  exact h
theorem x_seek {T : Twn} (hT : Twf T) (hN : T.1 1 ≤ 12) {k d : Nat} (hk5 : k < 512) (hd : d < 1024) {M : Mem} (hX : XTw T M) (hZ : RZ M) : ∃ Q κ M', FX0_seek (nI d) (nI k) M = some M' ∧ SK T k d Q κ M' ∧ ks M M' := by
  obtain ⟨cnt, z1, z2, z3, z4⟩ := hZ
  have hd9 := hT.1.1
  obtain ⟨M1, f1, f2, f3, f4, f5, f6, f7⟩ := x_forget (a := 0) (Nat.zero_le _) z1 z2 z3
  have g39 : ∀ m, m < 8192 → M1.1 39 m = 0 := by
    intro m hm
    by_cases hex : ∃ j, 0 ≤ j ∧ j < cnt ∧ M.1 40 j = nI m
    · exact f6 m hm hex
    · rw [f7 m hm hex]
      by_cases h : M.1 39 m = 0
      · exact h
      · obtain ⟨i, h1, h2⟩ := z4 m hm h
        exact absurd ⟨i, Nat.zero_le _, h1, h2⟩ hex
  have g0 : ∀ {α : Type} (z : Option α), gi 0 8192 z = z := fun z => z_gi (a := 0) (by decide) (by decide) z
  have i0 : Int32.toNatClampNeg 0 = 0 := rfl
  unfold FX0_seek
  rw [show nI 0 = 0 from rfl] at f1
  rw [f1, z_ob, z_lt]
  simp only [g0, z_ltp, i0]
  have e31 : M1.1 31 0 = nI (T.1 0) := by rw [f2 31 (by decide) (by decide)]; exact hX.1.1
  rw [e31]
  obtain ⟨M2, hM2⟩ : ∃ M2, M2 = wrL (wr M1 37 5 (nI (T.1 0))) 38 0 0 := ⟨_, rfl⟩
  rw [← hM2]
  have a2 : ∀ c, c ≠ 37 → M2.1 c = M1.1 c := fun c hc => by rw [hM2, wrL_1, wr_cell _ _ hc]
  have ks2 : ks M M2 := fun c h1 h2 h3 => by rw [a2 c h1, f2 c h1 h2]
  rw [x_start hT (hX.ks ks2)]
  obtain ⟨M3, hM3⟩ : ∃ M3, M3 = wr (wr (wr M2 39 0 (nI (stt T 0 (T.1 0)))) 40 0 0) 37 4 1 := ⟨_, rfl⟩
  rw [← hM3]
  have ks3 : ks M M3 := fun c h1 h2 h3 => by rw [hM3, wr_cell _ _ h1, wr_cell _ _ h3, wr_cell _ _ h2]; exact ks2 c h1 h2 h3
  have hQ : QS T k d True [0] (fun _ => 0) M3 := by
    refine ⟨⟨?_, ?_⟩, fun i hi => ?_, List.nodup_cons.mpr ⟨List.not_mem_nil, List.nodup_nil⟩, fun m hm => ?_, fun m hm hno => ?_, fun _ i j h1 h2 => ?_⟩
    · rw [hM3, wr_at, if_pos ⟨rfl, rfl⟩]; rfl
    · rw [hM3, wr_at, if_neg (by omega), wr_cell _ _ (by decide), wr_cell _ _ (by decide), hM2, wrL_1, wr_at, if_pos ⟨rfl, rfl⟩]
    · have : i = 0 := by
        rw [List.length_singleton] at hi
        omega
      subst this
      rw [hM3, wr_cell _ _ (by decide), wr_at, if_pos ⟨rfl, rfl⟩]; rfl
    · rw [List.mem_singleton] at hm
      subst hm
      refine ⟨[], trivial, rfl, ?_, fun _ => ⟨?_, ?_⟩⟩
      · rw [hM3, wr_cell _ _ (by decide), wr_cell _ _ (by decide), wr_at, if_pos ⟨rfl, rfl⟩]; rfl
      · rw [hM3, wr_2, wr_2, wr_2, hM2, wrL_at, if_pos ⟨rfl, rfl⟩]; rfl
      · show 0 = 0 * 16 ^ 13 + 0
        omega
    · rw [List.mem_singleton] at hno
      rw [hM3, wr_cell _ _ (by decide), wr_cell _ _ (by decide), wr_at, if_neg (fun z => hno z.2), a2 39 (by decide)]
      exact g39 m hm
    · rw [List.length_singleton] at h2
      omega
  obtain ⟨Q', κ', M', r1, r2, r3, ⟨E, r4⟩, -, r6⟩ := x_sp3 (i0 := 0) (n := T.1 1) (Kf := True) (G := fun _ => True) (M0 := M3) hT hk5 hd (fun M4 m c h1 _ h3 => by
    obtain ⟨R, s1, s2, s3⟩ := x_next (k := k) hT hN ((hX.ks ks3).ks h1) h3
    exact ⟨R, s1, s2, s3, fun s hs => ⟨(stp_at hT hs).1, trivial⟩⟩) 8193 0 FU [0] (fun _ => 0) M3 rfl (by rw [z_FU]; omega) (Nat.le_refl _) (Nat.zero_le _) hQ (XTw.C hN (hX.ks ks3)) (ks.rf M3) (fun _ _ _ => trivial) (fun _ x hx _ => by
    rw [List.mem_singleton] at hx
    subst hx
    exact Nat.le_succ _) (fun a _ h => absurd h (Nat.not_lt_zero a))
  unfold FX0_spread
  rw [show nI 0 = 0 from rfl] at r1
  rw [r1, z_ob, z_ob]
  refine ⟨Q', κ', M', rfl, ⟨r2, ?_⟩, ks3.tr r3⟩
  have key : ∀ (n : Nat) (w : List Nat), w.length = n → Pre T k d 0 (T.1 0) w → mE 0 w ∈ Q' ∧ κ' (mE 0 w) ≤ Kw T k w := by
    intro n
    induction n with
    | zero =>
      intro w hw _
      have : w = [] := List.length_eq_zero_iff.mp hw
      subst this
      have h0 : mE 0 [] ∈ Q' := by rw [r4]; exact List.mem_append_left _ List.mem_cons_self
      refine ⟨h0, ?_⟩
      obtain ⟨v, v1, v2, -, v4⟩ := r2.2.2.2.1 _ h0
      have hv : v = [] := by
        have := Pre_pc hT v1
        rw [v2, show mE 0 [] = 0 from rfl, pc_0] at this
        exact List.length_eq_zero_iff.mp (by omega)
      rw [(v4 trivial).2, hv]
      exact Nat.le_refl _
    | succ n ih =>
      intro w hw hp
      rcases snoc w with rfl | ⟨v, s, rfl⟩
      · cases hw
      · rw [List.length_append, List.length_singleton] at hw
        rw [Pre_app] at hp
        obtain ⟨p1, p2, p3⟩ := hp
        obtain ⟨b1, b2⟩ := ih v (by omega) p1
        obtain ⟨i, i1, i2⟩ := mem_getD b1
        have hwk := Pre_wk hT (wk_0 hT) p1
        have hlen : v.length = pc (mE 0 v) := by
          have := Pre_pc hT p1
          rw [pc_0] at this
          omega
        obtain ⟨d1, d2⟩ := r6 i (Nat.zero_le _) i1 (cE T (T.1 0) v) (by rw [i2]; exact hwk) (by rw [i2]; exact p2) s (by rw [i2]; exact p3)
        rw [i2] at d1 d2
        rw [mE_app, Kw_app, hlen]
        refine ⟨d1, ?_⟩
        have := d2 trivial
        omega
  exact fun w hp => key w.length w rfl hp
