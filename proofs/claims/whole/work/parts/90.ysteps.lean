/-! the reference reads on, token by token -/
def TR (t : Nat) : Prop := t < 3 ∨ (40 ≤ t ∧ t < 62) ∨ (256 ≤ t ∧ t < 268)
theorem ftk_rng (m : Nat → Bool) : ∀ j k, ftk m j k = 1 ∨ (256 + k ≤ ftk m j k ∧ ftk m j k < 256 + k + j)
  | 0, k => Or.inl rfl
  | j + 1, k => by
    rw [ftk]
    split
    · right; omega
    · rcases ftk_rng m j (k + 1) with h | h
      · exact Or.inl h
      · right; omega
theorem lxT_rng (tp : Nat → Nat) (n p : Nat) : TR (lxT tp n p) := by
  unfold lxT TR
  split
  · left; decide
  · split
    · have := ftk_rng (mt tp (lxB tp n p) (lxE tp n p)) 12 0
      unfold wtk
      omega
    · split
      · left; split <;> decide
      · split
        · next h =>
          have := (isG_ytk h).2
          right; left; exact this
        · left; decide
theorem yk59 : ∀ t, t < 268 → (t < 3 ∨ (40 ≤ t ∧ t < 62) ∨ (256 ≤ t ∧ t < 268)) → (ytk t = 59 ↔ t = 59) := by decide +kernel
theorem yk41 : ∀ t, t < 268 → (t < 3 ∨ (40 ≤ t ∧ t < 62) ∨ (256 ≤ t ∧ t < 268)) → (ytk t = 41 ↔ t = 41) := by decide +kernel
theorem yk45 : ∀ t, t < 268 → (t < 3 ∨ (40 ≤ t ∧ t < 62) ∨ (256 ≤ t ∧ t < 268)) → (ytk t = 45 ↔ t = 45) := by decide +kernel
theorem yk40 : ∀ t, t < 268 → (t < 3 ∨ (40 ≤ t ∧ t < 62) ∨ (256 ≤ t ∧ t < 268)) → (ytk t = 40 ↔ t = 40) := by decide +kernel
theorem yk1 : ∀ t, t < 268 → (t < 3 ∨ (40 ≤ t ∧ t < 62) ∨ (256 ≤ t ∧ t < 268)) → (ytk t = 1 ↔ t = 2) := by decide +kernel
theorem yk2 : ∀ t, t < 268 → (t < 3 ∨ (40 ≤ t ∧ t < 62) ∨ (256 ≤ t ∧ t < 268)) → (ytk t = 2 ↔ 262 ≤ t) := by decide +kernel
theorem yk6 : ∀ t, t < 268 → (t < 3 ∨ (40 ≤ t ∧ t < 62) ∨ (256 ≤ t ∧ t < 268)) → (ytk t = 6 ↔ t = 261) := by decide +kernel
theorem yk0 : ∀ t, t < 268 → (t < 3 ∨ (40 ≤ t ∧ t < 62) ∨ (256 ≤ t ∧ t < 268)) → (ytk t = 0 ↔ t = 0) := by decide +kernel
theorem yk3 : ∀ t, t < 268 → (t < 3 ∨ (40 ≤ t ∧ t < 62) ∨ (256 ≤ t ∧ t < 268)) → (ytk t = 3 ↔ 256 ≤ t ∧ t < 259) := by decide +kernel
/-- the sign between two that a token is; 0: none -/
def sgT (t : Nat) : Nat := if t = 259 then 11 else if t = 260 then 12 else if t = 60 then 14 else if t = 61 then 15 else if t = 43 then 16 else if t = 45 then 17 else if t = 42 then 18 else 0
theorem yks : ∀ t, t < 268 → (t < 3 ∨ (40 ≤ t ∧ t < 62) ∨ (256 ≤ t ∧ t < 268)) → (if ytk t = 4 then (11 : Int32) else if ytk t = 5 then 12 else if ytk t = 60 then 14 else if ytk t = 61 then 15 else if ytk t = 43 then 16 else if ytk t = 45 then 17 else if ytk t = 42 then 18 else -1) = if sgT t = 0 then -1 else nI (sgT t) := by decide +kernel
theorem sgT_b (t : Nat) : sgT t = 0 ∨ (11 ≤ sgT t ∧ sgT t ≤ 18 ∧ sgT t ≠ 13) := by
  unfold sgT
  repeat' (first | omega | split)
theorem TR_lt {t : Nat} (h : TR t) : t < 268 := by unfold TR at h; omega
theorem y_nxt {tp : Nat → Nat} {n N : Nat} {M0 M : Mem} {b p : Nat} {H C : List Nat} (h : YS tp n N M0 M b p H C) : ∃ M1, FX9_next M = some M1 ∧ YS tp n N M0 M1 (lxB tp n p) (lxE tp n p) H C ∧ YN tp n p M1 := by
  obtain ⟨k, ⟨t1, t2, t3, t4, t5⟩, ⟨a1, a2, a3⟩, ⟨b1, b2, b3, b4⟩, ⟨c1, c2⟩, d⟩ := h
  obtain ⟨M1, e1, e2, e3⟩ := y_next (t1.c (k.1 6 (by decide) (by decide) (by decide))) (fun j hj => by rw [k.1 13 (by decide) (by decide) (by decide)]; exact t2 j hj) (by rw [k.2.1 11 (by omega)]; exact t3) a1 a2
  refine ⟨M1, e1, ⟨k.tr ⟨fun j h0 _ _ => e2.1 j h0, fun j hj => e2.2 j (by omega), fun i _ => by rw [e2.1 7 (by decide)]⟩, ⟨t1, t2, t3, t4, t5⟩, ⟨e3.2.1, (lxE_b a2).2.1, e3.1⟩, ⟨?_, fun i hi => ?_, ?_, b4⟩, ⟨?_, fun i hi => ?_⟩, d⟩, e3⟩
  · rw [e2.2 33 (by omega)]; exact b1
  · rw [e2.1 14 (by decide)]; exact b2 i hi
  · rw [e2.2 34 (by omega)]; exact b3
  · rw [e2.2 35 (by omega)]; exact c1
  · rw [e2.1 7 (by decide)]; exact c2 i hi
/-- a fault at the token that begins at b -/
def YF (N : Nat) (M0 : Mem) (k : Nat) (w mn : Int32) (M : Mem) (b : Nat) : Prop := ∀ f, ∃ M', FX9_eRead_L14 (f + k) w mn M = some (0, M') ∧ M'.1 0 28 = nI b ∧ kyT N M0 M'
def YG2 (k : Nat) (w mn : Int32) (M : Mem) (w' mn' : Int32) (M' : Mem) : Prop := ∀ f, FX9_eRead_L14 (f + k) w mn M = FX9_eRead_L14 f w' mn' M'
theorem YG2.tr {k j : Nat} {w mn w1 mn1 w2 mn2 : Int32} {A B C : Mem} (h : YG2 k w mn A w1 mn1 B) (h2 : YG2 j w1 mn1 B w2 mn2 C) : YG2 (k + j) w mn A w2 mn2 C := fun f => by
  rw [show f + (k + j) = (f + j) + k by omega, h (f + j), h2 f]
theorem YG2.f {N : Nat} {M0 : Mem} {k j b : Nat} {w mn w1 mn1 : Int32} {A B : Mem} (h : YG2 k w mn A w1 mn1 B) (h2 : YF N M0 j w1 mn1 B b) : YF N M0 (k + j) w mn A b := fun f => by
  rw [show f + (k + j) = (f + j) + k by omega, h (f + j)]
  exact h2 f
theorem s_operand {tp : Nat → Nat} {n N : Nat} {M0 M : Mem} {b p : Nat} {H C : List Nat} (h : YS tp n N M0 M b p H C) (hl : C.length + H.length ≤ p) {c : Nat} (hc : (lxT tp n p = 2 ∧ c = 100000 + lxV tp n p) ∨ (262 ≤ lxT tp n p ∧ c = lxT tp n p - 262)) (mn : Int32) : ∃ M', YG2 1 1 mn M 0 mn M' ∧ YS tp n N M0 M' (lxB tp n p) (lxE tp n p) (unw 7 H (C ++ [c])).1 (unw 7 H (C ++ [c])).2 := by
  obtain ⟨M1, e1, e2, e3⟩ := y_nxt h
  obtain ⟨-, -, n29, n30, -, n30b⟩ := e3
  have hR := lxT_rng tp n p
  have hlt := TR_lt hR
  have hp := h.2.2.1.2.1
  have hn := h.2.1.1.1
  have hne : lxT tp n p ≠ 0 := by omega
  have hB := lxT_end hne
  have hE := (lxE_b (tp := tp) hp)
  have hBp := (lxB_b (tp := tp) hp).1
  have q1 := yk1 _ hlt hR
  have q2 := yk2 _ hlt hR
  have ec : (if M1.1 0 29 = 1 then 100000 + M1.1 0 30 else M1.1 0 30) = nI c := by
    rw [n29, if_congr_prop q1]
    rcases hc with ⟨h2, h3⟩ | ⟨h2, h3⟩
    · rw [if_pos h2, n30 h2, show (100000 : Int32) = nI 100000 from rfl, nI_add, h3]
    · rw [if_neg (by omega), n30b h2 hlt, h3]
  obtain ⟨M2, p1, p2⟩ := y_puts e2 (c := c) (by omega)
  obtain ⟨M3, u1, u2⟩ := y_unwinds (q := 7) (by decide) (by decide) p2
  refine ⟨M3, fun f => ?_, u2⟩
  have eb : (if M1.1 0 29 = 1 then true else if M1.1 0 29 = 2 then true else false) = true := by
    rw [n29, if_congr_prop q1, if_congr_prop q2]
    rcases hc with ⟨h2, -⟩ | ⟨h2, -⟩
    · rw [if_pos h2]
    · rw [if_neg (by omega), if_pos h2]
  rw [FX9_eRead_L14, e1, z_ob, if_neg n10]
  simp only [z_lt]
  rw [if_pos eb, ec, p1, z_ob, show (7 : Int32) = nI 7 from rfl, u1, z_ob]
theorem wants_no {M1 : Mem} {t : Nat} (hR : TR t) (n29 : M1.1 0 29 = ytk t) (h : ¬ (t = 2 ∨ 262 ≤ t)) : ¬ (if M1.1 0 29 = 1 then true else if M1.1 0 29 = 2 then true else false) = true := by
  have hlt := TR_lt hR
  rw [n29, if_congr_prop (yk1 _ hlt hR), if_congr_prop (yk2 _ hlt hR), if_neg (fun z => h (Or.inl z)), if_neg (fun z => h (Or.inr z))]
  exact nft
theorem mnq_b (mn : Int32) : (if mn = 0 then false else true) = true ↔ mn ≠ 0 := by
  by_cases h : mn = 0 <;> simp [h]
/-- not, a minus, an open sign: x is held -/
theorem s_opens {tp : Nat → Nat} {n N : Nat} {M0 M : Mem} {b p : Nat} {H C : List Nat} (h : YS tp n N M0 M b p H C) (hl : C.length + H.length ≤ p) {x : Nat} {mn mn' : Int32} (hc : (lxT tp n p = 261 ∧ mn ≠ 0 ∧ x = 13 ∧ mn' = mn) ∨ (lxT tp n p = 45 ∧ x = 19 ∧ mn' = 0) ∨ (lxT tp n p = 40 ∧ x = 0 ∧ mn' = 1)) :
    (oc H = 5 → YF N M0 1 1 mn M (lxB tp n p)) ∧ (oc H ≠ 5 → ∃ M', YG2 1 1 mn M 1 mn' M' ∧ YS tp n N M0 M' (lxB tp n p) (lxE tp n p) (x :: H) C) := by
  obtain ⟨M1, e1, e2, e3⟩ := y_nxt h
  obtain ⟨-, -, n29, -⟩ := e3
  have hR := lxT_rng tp n p
  have hlt := TR_lt hR
  have hp := h.2.2.1.2.1
  have hn := h.2.1.1.1
  have hne : lxT tp n p ≠ 0 := by omega
  have hB := lxT_end hne
  have hE := (lxE_b (tp := tp) hp)
  have hBp := (lxB_b (tp := tp) hp).1
  have q6 := yk6 _ hlt hR
  have q45 := yk45 _ hlt hR
  have q40 := yk40 _ hlt hR
  have hwn := wants_no hR n29 (by omega)
  have step : ∀ f, FX9_eRead_L14 (f + 1) 1 mn M = ob (FX9_opensOne (nI x) M1) fun q => if q.1 = 0 then some (0, q.2) else FX9_eRead_L14 f 1 mn' q.2 := by
    intro f
    rw [FX9_eRead_L14, e1, z_ob, if_neg n10]
    simp only [z_lt]
    rw [if_neg hwn, n29, if_congr_prop q6, if_congr_prop q45, if_congr_prop q40]
    rcases hc with ⟨h1, h2, rfl, rfl⟩ | ⟨h1, rfl, rfl⟩ | ⟨h1, rfl, rfl⟩
    · rw [if_pos h1, if_pos ((mnq_b _).mpr h2)]
      rfl
    · rw [if_neg (show ¬ lxT tp n p = 261 by omega), if_neg nft, if_pos h1]
      rfl
    · rw [if_neg (show ¬ lxT tp n p = 261 by omega), if_neg nft, if_neg (by omega), if_pos h1]
      rfl
  constructor
  · intro h5 f
    rw [step f, y_open5 e2 h5, z_ob, if_pos rfl]
    exact ⟨M1, rfl, e2.2.2.1.2.2, e2.1⟩
  · intro h5
    obtain ⟨M2, p1, p2⟩ := y_opens e2 (x := x) (by omega) (by omega) h5
    refine ⟨M2, fun f => ?_, p2⟩
    rw [step f, p1, z_ob, if_neg n10]
/-- no operand can begin so -/
theorem s_nooper {tp : Nat → Nat} {n N : Nat} {M0 M : Mem} {b p : Nat} {H C : List Nat} (h : YS tp n N M0 M b p H C) {mn : Int32} (h1 : ¬ (lxT tp n p = 2 ∨ 262 ≤ lxT tp n p)) (h2 : lxT tp n p = 261 → mn = 0) (h3 : lxT tp n p ≠ 45) (h4 : lxT tp n p ≠ 40) : YF N M0 1 1 mn M (lxB tp n p) := by
  obtain ⟨M1, e1, e2, e3⟩ := y_nxt h
  obtain ⟨-, -, n29, -⟩ := e3
  have hR := lxT_rng tp n p
  have hlt := TR_lt hR
  have hwn := wants_no hR n29 h1
  intro f
  rw [FX9_eRead_L14, e1, z_ob, if_neg n10]
  simp only [z_lt]
  have e6 : ¬ (if lxT tp n p = 261 then (if mn = 0 then false else true) else false) = true := by
    by_cases h : lxT tp n p = 261
    · rw [if_pos h, if_pos (h2 h)]; exact nft
    · rw [if_neg h]; exact nft
  rw [if_neg hwn, n29, if_congr_prop (yk6 _ hlt hR), if_congr_prop (yk45 _ hlt hR), if_congr_prop (yk40 _ hlt hR), if_neg e6, if_neg h3, if_neg h4]
  exact ⟨M1, rfl, e2.2.2.1.2.2, e2.1⟩
/-- the end of an expression -/
theorem s_semi {tp : Nat → Nat} {n N : Nat} {M0 M : Mem} {b p : Nat} {H C : List Nat} (h : YS tp n N M0 M b p H C) (ht : lxT tp n p = 59) (mn : Int32) : ((unw 1 H C).1 ≠ [] → YF N M0 1 0 mn M (lxB tp n p)) ∧ ((unw 1 H C).1 = [] → ∃ M', (∀ f, FX9_eRead_L14 (f + 1) 0 mn M = some (1, M')) ∧ YS tp n N M0 M' (lxB tp n p) (lxE tp n p) [] (unw 1 H C).2) := by
  obtain ⟨M1, e1, e2, e3⟩ := y_nxt h
  obtain ⟨-, -, n29, -⟩ := e3
  have hR := lxT_rng tp n p
  have hlt := TR_lt hR
  obtain ⟨M2, u1, u2⟩ := y_unwinds (q := 1) (by decide) (by decide) e2
  have step : ∀ f, FX9_eRead_L14 (f + 1) 0 mn M = if M2.1 0 33 = 0 then some (1, M2) else some (0, M2) := by
    intro f
    rw [FX9_eRead_L14, e1, z_ob, if_pos rfl, n29, if_congr_prop (yk59 _ hlt hR), if_pos ht, show (1 : Int32) = nI 1 from rfl, u1, z_ob]
  have b1 := u2.2.2.2.1.1
  have hd := u2.2.2.2.2.2
  constructor
  · intro hne f
    have : ¬ M2.1 0 33 = 0 := by
      rw [b1]
      intro z
      have := (z_eq (b := 0) (by omega) (by decide)).mp z
      exact hne (List.length_eq_zero_iff.mp this)
    rw [step f, if_neg this]
    exact ⟨M2, rfl, u2.2.2.1.2.2, u2.1⟩
  · intro he
    rw [he] at u2 b1
    refine ⟨M2, fun f => ?_, u2⟩
    rw [step f, if_pos (by rw [b1]; rfl)]
theorem unw1_top {H C : List Nat} (hk : ∀ h ∈ H, sOk h) {s : Nat} {T : List Nat} (h : (unw 1 H C).1 = s :: T) : s = 0 := by
  have h1 := unw_unw (q := 1) (r := 1) (Nat.le_refl 1) H C
  have hok := unw_ok 1 H C hk
  rw [h] at h1 hok
  have hs := hok s List.mem_cons_self
  have hr : ¬ 1 ≤ rkN s := by
    intro z
    rw [unw, if_pos z] at h1
    have l1 := congrArg (fun x => x.1.length) h1
    have l2 := unw_len 1 T ((unw 1 H C).2 ++ [s])
    have l3 := congrArg (fun x => x.1.length) h1
    simp only [h] at l1
    have l4 : (unw 1 T ((unw 1 H C).2 ++ [s])).1.length ≤ T.length := by
      have : ∀ (q : Nat) (T C : List Nat), (unw q T C).1.length ≤ T.length := by
        intro q T
        induction T with
        | nil => intro C; exact Nat.le_refl _
        | cons x T ih =>
          intro C
          rw [unw]
          split
          · exact Nat.le_trans (ih _) (Nat.le_succ _)
          · exact Nat.le_refl _
      exact this 1 T _
    rw [List.length_cons] at l1
    omega
  unfold sOk at hs
  rcases hs with h2 | h2
  · exact h2
  · exfalso
    apply hr
    unfold rkN
    repeat' (first | omega | split)
/-- a closed sign -/
theorem s_close {tp : Nat → Nat} {n N : Nat} {M0 M : Mem} {b p : Nat} {H C : List Nat} (h : YS tp n N M0 M b p H C) (ht : lxT tp n p = 41) (mn : Int32) : ((unw 1 H C).1 = [] → YF N M0 1 0 mn M (lxB tp n p)) ∧ (∀ s T, (unw 1 H C).1 = s :: T → ∃ M', YG2 1 0 mn M 0 mn M' ∧ YS tp n N M0 M' (lxB tp n p) (lxE tp n p) (unw 7 T (unw 1 H C).2).1 (unw 7 T (unw 1 H C).2).2) := by
  obtain ⟨M1, e1, e2, e3⟩ := y_nxt h
  obtain ⟨-, -, n29, -⟩ := e3
  have hR := lxT_rng tp n p
  have hlt := TR_lt hR
  obtain ⟨M2, u1, u2⟩ := y_unwinds (q := 1) (by decide) (by decide) e2
  have step : ∀ f, FX9_eRead_L14 (f + 1) 0 mn M = if M2.1 0 33 = 0 then some (0, M2) else ob (FX9_unwinds 7 (wr (wr M2 0 33 (M2.1 0 33 - 1)) 0 34 ((wr M2 0 33 (M2.1 0 33 - 1)).1 0 34 - 1))) fun q => FX9_eRead_L14 f 0 mn q := by
    intro f
    rw [FX9_eRead_L14, e1, z_ob, if_pos rfl, n29, if_congr_prop (yk59 _ hlt hR), if_congr_prop (yk41 _ hlt hR), if_neg (by omega), if_pos ht, show (1 : Int32) = nI 1 from rfl, u1, z_ob]
    rfl
  obtain ⟨k, t, a, ⟨b1, b2, b3, b4⟩, ⟨c1, c2⟩, d⟩ := id u2
  constructor
  · intro he f
    rw [he] at b1
    rw [step f, if_pos (by rw [b1]; rfl)]
    exact ⟨M2, rfl, a.2.2, k⟩
  · intro s T hsT
    have hs0 := unw1_top h.2.2.2.1.2.2.2 hsT
    rw [hsT] at b1 b2 b3 b4 d
    rw [hs0] at b3
    rw [List.length_cons] at d
    have hne : ¬ M2.1 0 33 = 0 := by
      rw [b1]
      intro z
      have := (z_eq (b := 0) (by rw [List.length_cons]; omega) (by decide)).mp z
      rw [List.length_cons] at this
      omega
    have em : M2.1 0 33 - 1 = nI T.length := by
      rw [b1, List.length_cons, z_sub1 (by omega)]
      rfl
    have eo : (wr M2 0 33 (nI T.length)).1 0 34 - 1 = nI (oc T) := by
      rw [wr_at, if_neg (by omega), b3, oc, if_pos (Or.inl rfl), z_sub1 (by omega), Nat.add_sub_cancel]
    have hY : YS tp n N M0 (wr (wr M2 0 33 (nI T.length)) 0 34 (nI (oc T))) (lxB tp n p) (lxE tp n p) T (unw 1 H C).2 := by
      refine ⟨(k.tr (kyT_0 (by decide) _ _)).tr (kyT_0 (by decide) _ _), t, ⟨?_, a.2.1, ?_⟩, ⟨?_, fun i hi => ?_, ?_, fun x hx => b4 x (List.mem_cons_of_mem _ hx)⟩, ⟨?_, fun i hi => ?_⟩, by omega⟩
      · rw [wr_at, if_neg (by omega), wr_at, if_neg (by omega)]; exact a.1
      · rw [wr_at, if_neg (by omega), wr_at, if_neg (by omega)]; exact a.2.2
      · rw [wr_at, if_neg (by omega), wr_at, if_pos ⟨rfl, rfl⟩]
      · rw [wr_cell _ _ (by decide), wr_cell _ _ (by decide), b2 i (by rw [List.length_cons]; omega), rev_low hi]
      · rw [wr_at, if_pos ⟨rfl, rfl⟩]
      · rw [wr_at, if_neg (by omega), wr_at, if_neg (by omega)]; exact c1
      · rw [wr_cell _ _ (by decide), wr_cell _ _ (by decide)]; exact c2 i hi
    obtain ⟨M3, g1, g2⟩ := y_unwinds (q := 7) (by decide) (by decide) hY
    refine ⟨M3, fun f => ?_, g2⟩
    rw [step f, if_neg hne, em, eo, show (7 : Int32) = nI 7 from rfl, g1, z_ob]
/-- a sign between two -/
theorem s_sign {tp : Nat → Nat} {n N : Nat} {M0 M : Mem} {b p : Nat} {H C : List Nat} (h : YS tp n N M0 M b p H C) (hl : C.length + H.length ≤ p) {x q : Nat} (hx : sgT (lxT tp n p) = x) (hx0 : x ≠ 0) (hq : q = if rkN x = 4 then 5 else rkN x) (mn : Int32) :
    ((rkN x = 4 ∧ ∃ s T, (unw q H C).1 = s :: T ∧ rkN s = 4) → YF N M0 1 0 mn M (lxB tp n p)) ∧ ((¬ (rkN x = 4 ∧ ∃ s T, (unw q H C).1 = s :: T ∧ rkN s = 4)) → ∃ M', YG2 1 0 mn M 1 (if x ≤ 12 then 1 else 0) M' ∧ YS tp n N M0 M' (lxB tp n p) (lxE tp n p) (x :: (unw q H C).1) (unw q H C).2) := by
  obtain ⟨M1, e1, e2, e3⟩ := y_nxt h
  obtain ⟨-, -, n29, -⟩ := e3
  have hR := lxT_rng tp n p
  have hlt := TR_lt hR
  have hp := h.2.2.1.2.1
  have hn := h.2.1.1.1
  have hsb := sgT_b (lxT tp n p)
  rw [hx] at hsb
  have hx18 : 11 ≤ x ∧ x ≤ 18 ∧ x ≠ 13 := by omega
  have hne : lxT tp n p ≠ 0 := by
    intro z
    rw [z] at hx
    exact hx0 hx.symm
  have h59 : lxT tp n p ≠ 59 := by
    intro z
    rw [z] at hx
    exact hx0 hx.symm
  have h41 : lxT tp n p ≠ 41 := by
    intro z
    rw [z] at hx
    exact hx0 hx.symm
  have hB := lxT_end hne
  have hBp := (lxB_b (tp := tp) hp).1
  have es : FX9_signOf M1 = nI x := by
    unfold FX9_signOf
    rw [n29, yks _ hlt hR, hx, if_neg hx0]
  have step : ∀ f, FX9_eRead_L14 (f + 1) 0 mn M = ob (FX9_between (nI x) M1) fun q => if q.1 = 0 then some (0, q.2) else if 12 < nI x then FX9_eRead_L14 f 1 0 q.2 else FX9_eRead_L14 f 1 1 q.2 := by
    intro f
    rw [FX9_eRead_L14, e1, z_ob, if_pos rfl, n29, if_congr_prop (yk59 _ hlt hR), if_congr_prop (yk41 _ hlt hR), if_neg h59, if_neg h41, es, z_lt, if_neg (z_m1 (by omega))]
  rcases y_between e2 ⟨hx18.1, hx18.2.1⟩ hx18.2.2 (by omega) hq with ⟨g1, M2, g2, g3⟩ | ⟨g1, M2, g2, g3⟩
  · refine ⟨fun _ f => ?_, fun z => absurd g1 z⟩
    rw [step f, g2, z_ob, if_pos rfl]
    exact ⟨M2, rfl, g3.2.2.1.2.2, g3.1⟩
  · refine ⟨fun z => absurd z g1, fun _ => ⟨M2, fun f => ?_, g3⟩⟩
    rw [step f, g2, z_ob, if_neg n10, if_congr_prop (show 12 < nI x ↔ 12 < x from z_lts (a := 12) (by decide) (by omega))]
    by_cases h12 : x ≤ 12
    · rw [if_neg (by omega), if_pos h12]
    · rw [if_pos (by omega), if_neg h12]
/-- nothing that can follow -/
theorem s_nosign {tp : Nat → Nat} {n N : Nat} {M0 M : Mem} {b p : Nat} {H C : List Nat} (h : YS tp n N M0 M b p H C) (hx : sgT (lxT tp n p) = 0) (h59 : lxT tp n p ≠ 59) (h41 : lxT tp n p ≠ 41) (mn : Int32) : YF N M0 1 0 mn M (lxB tp n p) := by
  obtain ⟨M1, e1, e2, e3⟩ := y_nxt h
  obtain ⟨-, -, n29, -⟩ := e3
  have hR := lxT_rng tp n p
  have hlt := TR_lt hR
  have es : FX9_signOf M1 = -1 := by
    unfold FX9_signOf
    rw [n29, yks _ hlt hR, hx, if_pos rfl]
  intro f
  rw [FX9_eRead_L14, e1, z_ob, if_pos rfl, n29, if_congr_prop (yk59 _ hlt hR), if_congr_prop (yk41 _ hlt hR), if_neg h59, if_neg h41, es, z_lt, if_pos rfl]
  exact ⟨M1, rfl, e2.2.2.1.2.2, e2.1⟩
