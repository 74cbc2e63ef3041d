/-! HomeByAnotherWayModel(): its cells are made (printed by wip/gen/mk_ctor9.py) -/
def lawN (j : Nat) : Nat := ([119, 97, 108, 107, 32, 98, 97, 115, 101, 32, 59, 32, 99, 97, 114, 114, 121, 32, 98, 97, 115, 101, 32, 43, 32, 109, 111, 114, 101, 32, 59, 32, 109, 97, 121, 32, 49, 32, 59] : List Nat).getD j 32
def fill9 (t : Nat → Nat) (k : Nat) : Nat → Int32 := fun j => if j < k then nI (t j) else 0
def srt9 : Nat → Int32 := upd (upd (upd (upd (fun _ => 0) 0 (-1)) 1 (-1)) 2 (-1)) 3 (-1)
theorem fill9_0 (t : Nat → Nat) : fill9 t 0 = fun _ => 0 := funext fun j => if_neg (Nat.not_lt_zero j)
theorem fill9_st (t : Nat → Nat) (k : Nat) : upd (fill9 t k) k (nI (t k)) = fill9 t (k + 1) := funext fun j => by
  unfold fill9 upd
  by_cases h : j = k
  · rw [if_pos h, if_pos (by omega), h]
  · rw [if_neg h]
    show (if j < k then nI (t j) else 0) = _
    by_cases h2 : j < k
    · rw [if_pos h2, if_pos (by omega)]
    · rw [if_neg h2, if_neg (by omega)]
/-- the reference's memory when its cells stand -/
def MY0 : Mem := (fun k => match k with | 0 => (fun j => if j = 1 then 8 else 0) | 9 => srt9 | 12 => fill9 lawN 39 | 13 => fill9 wdN 96 | _ => (fun _ => 0), fun _ _ => 0)
abbrev rm9 : Room := { frames := 10, cells := 22, slots := 153787, locals := 500 }
theorem bi9 : ∀ n, n < 128 → (Int8.ofInt (n : Nat)).toInt32 = nI n := by decide +kernel
theorem ic9 : ∀ n, n < 6 → Int32.ofInt (n : Nat) = nI n := by decide +kernel
def DA9 (b : Nat) (t : Nat → Nat) : Prop := ∀ k, k < 6 → decode cX9_init (b + 5 * k) = .ok (.dup, 1) ∧ decode cX9_init (b + 5 * k + 1) = .ok (.iconst (k : Nat), 1) ∧ decode cX9_init (b + 5 * k + 1 + 1) = .ok (.bipush (t k : Nat), 2) ∧ decode cX9_init (b + 5 * k + 1 + 1 + 2) = .ok (.iastore, 1) ∧ t k < 128
def DB9 (b n : Nat) (t : Nat → Nat) : Prop := ∀ m, m < n - 6 → decode cX9_init (b + 30 + 6 * m) = .ok (.dup, 1) ∧ decode cX9_init (b + 30 + 6 * m + 1) = .ok (.bipush (m + 6 : Nat), 2) ∧ decode cX9_init (b + 30 + 6 * m + 1 + 2) = .ok (.bipush (t (m + 6) : Nat), 2) ∧ decode cX9_init (b + 30 + 6 * m + 1 + 2 + 2) = .ok (.iastore, 1) ∧ t (m + 6) < 128
set_option maxHeartbeats 4000000 in
theorem y9_lawNA : DA9 120 lawN := by unfold DA9; decide +kernel
theorem y9_lawNB : DB9 120 39 lawN := by unfold DB9; decide +kernel
theorem y9_wdNA : DA9 356 wdN := by unfold DA9; decide +kernel
theorem y9_wdNB : DB9 356 96 wdN := by unfold DB9; decide +kernel
section Y9A
variable {Z : CtxZ} {cs sl : Nat} {L : List (Nat × Value)} {S : List Value} {W1 W2 : va_W} {a n : Nat}
/-- one number laid into the new row, which is the last cell -/
theorem y9_st (E : EN Z cX9_init 2 RX9) {f : Nat → Int32} {p p2 p3 k : Nat} {v : Int32} (hW : W1 = W2 ++ [(a, .inl ((zg Z).2.1, n, .inl f))]) (d0 : decode cX9_init p = .ok (.dup, 1)) (pu1 : ∀ S' ws, AN Z 2 cs sl p2 L (.int (nI k) :: S') ws → AN Z 2 cs sl (p + 1) L S' ws) (pu2 : ∀ S' ws, AN Z 2 cs sl p3 L (.int v :: S') ws → AN Z 2 cs sl p2 L S' ws) (d3 : decode cX9_init p3 = .ok (.iastore, 1)) (hk : k < n) (hn : n < 2 ^ 31)
    (kk : AN Z 2 cs sl (p3 + 1) L (.ref a :: S) (W2 ++ [(a, .inl ((zg Z).2.1, n, .inl (upd f k v)))])) : AN Z 2 cs sl p L (.ref a :: S) W1 := by
  subst hW
  refine an_dup E d0 rfl (pu1 _ _ (pu2 _ _ ?_))
  refine an_iast E W2.length (f := f) (n := n) (a := a) (by simp) (vp_in_nI hk hn) (f' := upd f k v) (by rw [nI_clamp (by omega)]) d3 ?_
  rw [List.set_append_right _ _ (Nat.le_refl _), Nat.sub_self]
  exact kk
theorem y9_fillA (E : EN Z cX9_init 2 RX9) {b : Nat} {t : Nat → Nat} (hA : DA9 b t) (hn : n < 2 ^ 31) (h6 : 6 ≤ n) (kk : AN Z 2 cs sl (b + 30) L (.ref a :: S) (W2 ++ [(a, .inl ((zg Z).2.1, n, .inl (fill9 t 6)))])) :
    ∀ m k, k + m = 6 → AN Z 2 cs sl (b + 5 * k) L (.ref a :: S) (W2 ++ [(a, .inl ((zg Z).2.1, n, .inl (fill9 t k)))]) := by
  intro m
  induction m with
  | zero =>
    intro k hk
    have e : k = 6 := by omega
    subst e
    exact kk
  | succ m ih =>
    intro k hk
    obtain ⟨d0, d1, d2, d3, ht⟩ := hA k (by omega)
    refine y9_st E rfl d0 (fun _ _ h => an_iconst E d1 (ic9 k (by omega)) h) (fun _ _ h => an_bipush E d2 (bi9 _ ht) h) d3 (by omega) hn ?_
    rw [fill9_st]
    exact ih (k + 1) (by omega)
theorem y9_fillB (E : EN Z cX9_init 2 RX9) {b : Nat} {t : Nat → Nat} (hB : DB9 b n t) (hn : n < 128) (kk : AN Z 2 cs sl (b + 30 + 6 * (n - 6)) L (.ref a :: S) (W2 ++ [(a, .inl ((zg Z).2.1, n, .inl (fill9 t n)))])) :
    ∀ m k, k + 6 + m = n → AN Z 2 cs sl (b + 30 + 6 * k) L (.ref a :: S) (W2 ++ [(a, .inl ((zg Z).2.1, n, .inl (fill9 t (k + 6))))]) := by
  intro m
  induction m with
  | zero =>
    intro k hk
    have e : k = n - 6 := by omega
    subst e
    rw [show n - 6 + 6 = n by omega]
    exact kk
  | succ m ih =>
    intro k hk
    obtain ⟨d0, d1, d2, d3, ht⟩ := hB k (by omega)
    refine y9_st E rfl d0 (fun _ _ h => an_bipush E d1 (bi9 (k + 6) (by omega)) h) (fun _ _ h => an_bipush E d2 (bi9 _ ht) h) d3 (by omega) (by omega) ?_
    rw [fill9_st]
    exact ih (k + 1) (by omega)
theorem y9_fill (E : EN Z cX9_init 2 RX9) {W1 : va_W} (hW : W1 = W2 ++ [(a, .inl ((zg Z).2.1, n, .inl (fun _ => 0)))]) (b n' : Nat) (t : Nat → Nat) (hA : DA9 b t) (hB : DB9 b n t) (hn : n < 128) (h6 : 6 ≤ n) (kk : AN Z 2 cs sl (b + 30 + 6 * (n - 6)) L (.ref a :: S) (W2 ++ [(a, .inl ((zg Z).2.1, n, .inl (fill9 t n)))])) : AN Z 2 cs sl b L (.ref a :: S) W1 := by
  subst hW
  rw [← fill9_0 t]
  exact y9_fillA E hA (by omega) h6 (y9_fillB E hB hn kk (n - 6) 0 (by omega)) 6 0 (by omega)
end Y9A
