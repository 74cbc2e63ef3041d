/-! THE RELATION between the class's memory and the reference's. v: numbers (0 home, 1 hour, 2 once, 3 streets, 4 been, 5 texts, 6 law, 7 taped, 8 imaged; 10 .. 16 the image's as 0 .. 6); u: rows (0 kind, 1 one, 2 other, 3 base, 4 more, 5 tape, 6 sheets' sizes); tx: texts -/
def encX (c : Nat) : Int32 := if 100000 ≤ c then nI (c - 100000) else if c < 6 then -(nI (262 + c)) else if c < 14 then -(nI (248 + c)) else if c = 14 then -60 else if c = 15 then -61 else if c = 16 then -43 else if c = 17 then -45 else if c = 18 then -42 else -3
/-- what a postfix row leaves on the stack -/
def dep : Nat → List Nat → Option Nat
  | d, [] => some d
  | d, c :: r => if 100000 ≤ c ∨ c < 6 then dep (d + 1) r else if c = 13 ∨ c = 19 then (if 1 ≤ d then dep d r else none) else if 2 ≤ d then dep (d - 1) r else none
def codeOk (c : Nat) : Prop := (100000 ≤ c ∧ c < 110000) ∨ c < 6 ∨ (11 ≤ c ∧ c ≤ 19)
abbrev Txt : Type := List Nat × (Nat → Nat)
/-- section p of a text -/
def sec (x : Txt) (p : Nat) : List Nat := (x.1.take (x.2 p)).drop (if p = 0 then 0 else x.2 (p - 1))
def TXR (x : Txt) (t : Nat) (MX MY : Mem) : Prop :=
  (x.2 0 ≤ x.2 1 ∧ x.2 1 ≤ x.2 2 ∧ x.2 2 = x.1.length ∧ x.1.length ≤ 160) ∧ (∀ c ∈ x.1, codeOk c) ∧ (∀ p, p < 3 → dep 0 (sec x p) = some 1) ∧
  (∀ i, i < x.1.length → MX.1 (16 + t) i = encX (x.1.getD i 0) ∧ MY.1 7 (200 * t + i) = nI (x.1.getD i 0)) ∧
  (∀ p, p < 3 → MX.1 (23 + t) p = nI (x.2 p) ∧ MY.1 8 (4 * t + p + 1) = nI (x.2 p)) ∧ MY.1 8 (4 * t) = nI 0
def RA (v : Nat → Nat) (MX MY : Mem) : Prop :=
  (MX.1 1 0 = nI (v 0) ∧ MX.1 1 1 = nI (v 1) ∧ MX.1 1 2 = nI (v 2) ∧ MX.1 1 4 = nI (v 3) ∧ MX.1 1 3 = nI (v 4) ∧ MX.1 14 4 = nI (v 5) ∧ MX.1 1 5 = nI (v 6) ∧ MX.1 10 1 = nI (v 7)) ∧
  (MY.1 0 0 = nI (v 0) ∧ MY.1 0 1 = nI (v 1) ∧ MY.1 0 2 = nI (v 2) ∧ MY.1 0 3 = nI (v 3) ∧ MY.1 0 9 = nI (v 4) ∧ MY.1 0 14 = nI (v 5) ∧ MY.1 0 15 = nI (v 6) ∧ MY.1 0 11 = nI (v 7))
def RB (v : Nat → Nat) : Prop := v 0 < 9 ∧ v 1 < 24 ∧ v 2 < 2 ∧ v 3 ≤ 12 ∧ v 4 < 2 ^ v 3 ∧ 1 ≤ v 5 ∧ v 5 ≤ 6 ∧ v 6 < v 5 ∧ v 7 ≤ 160 ∧ v 8 < 2
def RK (v : Nat → Nat) (MX MY : Mem) : Prop := MX.1 0 3 = nI (v 8) ∧ MY.1 0 16 = nI (v 8) ∧ (v 8 = 1 →
  (MX.1 2 0 = nI (v 10) ∧ MX.1 2 1 = nI (v 11) ∧ MX.1 2 2 = nI (v 12) ∧ MX.1 2 4 = nI (v 13) ∧ MX.1 2 3 = nI (v 14) ∧ MX.1 2 5 = nI (v 16)) ∧
  (MY.1 0 17 = nI (v 10) ∧ MY.1 0 18 = nI (v 11) ∧ MY.1 0 19 = nI (v 12) ∧ MY.1 0 21 = nI (v 13) ∧ MY.1 0 20 = nI (v 14) ∧ MY.1 0 22 = nI (v 16)) ∧
  (v 10 < 9 ∧ v 11 < 24 ∧ v 12 < 2 ∧ v 13 ≤ v 3 ∧ v 14 < 2 ^ v 13 ∧ v 16 < v 5))
def RS (n : Nat) (u : Nat → Nat → Nat) (MX MY : Mem) : Prop := ∀ s, s < n →
  (MX.1 5 s = nI (u 0 s) ∧ MX.1 6 s = nI (u 1 s) ∧ MX.1 7 s = nI (u 2 s) ∧ MX.1 8 s = nI (u 3 s) ∧ MX.1 9 s = nI (u 4 s)) ∧
  (MY.1 1 s = nI (u 0 s) ∧ MY.1 2 s = nI (u 1 s) ∧ MY.1 3 s = nI (u 2 s) ∧ MY.1 4 s = nI (u 3 s) ∧ MY.1 5 s = nI (u 4 s)) ∧
  (u 0 s < 6 ∧ u 1 s < 9 ∧ u 2 s < 9 ∧ u 1 s ≠ u 2 s ∧ 1 ≤ u 3 s ∧ u 3 s ≤ 99 ∧ u 4 s ≤ 99)
def RT (k : Nat) (u : Nat → Nat → Nat) (MX MY : Mem) : Prop := ∀ i, i < k → MX.1 11 i = nI (u 5 i) ∧ MY.1 6 i = nI (u 5 i) ∧ u 5 i < 256
/-- the reference's table of words -/
def wdN (j : Nat) : Nat := ([119, 97, 108, 107, 32, 32, 32, 32, 99, 97, 114, 114, 121, 32, 32, 32, 109, 97, 121, 32, 32, 32, 32, 32, 98, 97, 115, 101, 32, 32, 32, 32, 109, 111, 114, 101, 32, 32, 32, 32, 104, 111, 117, 114, 32, 32, 32, 32, 102, 114, 111, 109, 32, 32, 32, 32, 116, 111, 32, 32, 32, 32, 32, 32, 115, 116, 114, 101, 101, 116, 32, 32, 111, 114, 32, 32, 32, 32, 32, 32, 97, 110, 100, 32, 32, 32, 32, 32, 110, 111, 116, 32, 32, 32, 32, 32] : List Nat).getD j 32
def RX (k : Nat) (tx : Nat → Txt) (MX MY : Mem) : Prop := (∀ t, t < k → TXR (tx t) t MX MY) ∧ ∀ j, j < 96 → MY.1 13 j = nI (wdN j)
def RH (u : Nat → Nat → Nat) (MX MY : Mem) : Prop := ∀ s, s < 4 → (MX.1 (44 + s) 1 = MY.1 9 s ∧ (MY.1 9 s = -1 ∨ MY.1 9 s = 0 ∨ MY.1 9 s = 1 ∨ MY.1 9 s = 2)) ∧ (MX.1 (44 + s) 2 = nI (u 6 s) ∧ MY.1 10 s = nI (u 6 s) ∧ u 6 s ≤ 40) ∧ ∀ i, i < 40 → MX.1 (48 + s) i = MY.1 11 (40 * s + i)
/-- the sets that are seen lie in the queue -/
def RZ (MX : Mem) : Prop := ∃ k, k ≤ 8192 ∧ MX.1 37 4 = nI k ∧ (∀ i, i < k → ∃ m, m < 8192 ∧ MX.1 40 i = nI m) ∧ ∀ m, m < 8192 → MX.1 39 m ≠ 0 → ∃ i, i < k ∧ MX.1 40 i = nI m
def RR (v : Nat → Nat) (u : Nat → Nat → Nat) (tx : Nat → Txt) (MX MY : Mem) : Prop := RA v MX MY ∧ RB v ∧ RK v MX MY ∧ RS (v 3) u MX MY ∧ RT (v 7) u MX MY ∧ RX (v 5) tx MX MY ∧ RH u MX MY ∧ RZ MX
def Sim (MX MY : Mem) : Prop := ∃ v u tx, RR v u tx MX MY
-- frames
theorem RS.fr {n : Nat} {u : Nat → Nat → Nat} {MX MY MX' MY' : Mem} (h : RS n u MX MY) (hX : ∀ k, 5 ≤ k → k ≤ 9 → ∀ s, s < n → MX'.1 k s = MX.1 k s) (hY : ∀ k, 1 ≤ k → k ≤ 5 → ∀ s, s < n → MY'.1 k s = MY.1 k s) : RS n u MX' MY' := by
  intro s hs
  rw [hX 5 (by omega) (by omega) s hs, hX 6 (by omega) (by omega) s hs, hX 7 (by omega) (by omega) s hs, hX 8 (by omega) (by omega) s hs, hX 9 (by omega) (by omega) s hs, hY 1 (by omega) (by omega) s hs, hY 2 (by omega) (by omega) s hs, hY 3 (by omega) (by omega) s hs, hY 4 (by omega) (by omega) s hs, hY 5 (by omega) (by omega) s hs]
  exact h s hs
theorem RT.fr {k : Nat} {u : Nat → Nat → Nat} {MX MY MX' MY' : Mem} (h : RT k u MX MY) (hX : ∀ i, i < k → MX'.1 11 i = MX.1 11 i) (hY : ∀ i, i < k → MY'.1 6 i = MY.1 6 i) : RT k u MX' MY' := by
  intro i hi
  rw [hX i hi, hY i hi]
  exact h i hi
theorem TXR.fr {x : Txt} {t : Nat} {MX MY MX' MY' : Mem} (h : TXR x t MX MY) (h1 : MX'.1 (16 + t) = MX.1 (16 + t)) (h2 : MX'.1 (23 + t) = MX.1 (23 + t)) (h3 : MY'.1 7 = MY.1 7) (h4 : MY'.1 8 = MY.1 8) : TXR x t MX' MY' := by
  unfold TXR at h ⊢
  rw [h1, h2, h3, h4]
  exact h
theorem RX.fr {k : Nat} {tx : Nat → Txt} {MX MY MX' MY' : Mem} (h : RX k tx MX MY) (hk : k ≤ 6) (hX : ∀ c, 16 ≤ c → c ≤ 28 → MX'.1 c = MX.1 c) (h3 : MY'.1 7 = MY.1 7) (h4 : MY'.1 8 = MY.1 8) (h5 : MY'.1 13 = MY.1 13) : RX k tx MX' MY' :=
  ⟨fun t ht => (h.1 t ht).fr (hX _ (by omega) (by omega)) (hX _ (by omega) (by omega)) h3 h4, fun j hj => by rw [h5]; exact h.2 j hj⟩
theorem RH.fr {u : Nat → Nat → Nat} {MX MY MX' MY' : Mem} (h : RH u MX MY) (hX : ∀ c, 44 ≤ c → c ≤ 51 → MX'.1 c = MX.1 c) (h1 : MY'.1 9 = MY.1 9) (h2 : MY'.1 10 = MY.1 10) (h3 : MY'.1 11 = MY.1 11) : RH u MX' MY' := by
  intro s hs
  rw [hX (44 + s) (by omega) (by omega), hX (48 + s) (by omega) (by omega), h1, h2, h3]
  exact h s hs
theorem RZ.fr {MX MX' : Mem} (h : RZ MX) (hX : ∀ c, 37 ≤ c → c ≤ 41 → MX'.1 c = MX.1 c) : RZ MX' := by
  unfold RZ at h ⊢
  rw [hX 37 (by omega) (by omega), hX 39 (by omega) (by omega), hX 40 (by omega) (by omega)]
  exact h
/-- what asks change: nothing but scratch cells -/
def QX (MX MX' : Mem) : Prop := ∀ k, (k < 3 ∨ (4 ≤ k ∧ k ≤ 28) ∨ 43 ≤ k) → MX'.1 k = MX.1 k
def QY (n : Nat) (MY MY' : Mem) : Prop := (∀ k, 1 ≤ k → k ≤ 5 → ∀ s, s < n → MY'.1 k s = MY.1 k s) ∧ (∀ k, 6 ≤ k → k ≤ 13 → MY'.1 k = MY.1 k) ∧ ∀ j, (j < 4 ∨ (9 ≤ j ∧ j ≤ 22)) → MY'.1 0 j = MY.1 0 j
theorem QX.rf (M : Mem) : QX M M := fun _ _ => rfl
theorem QX.tr {A B C : Mem} (h : QX A B) (h2 : QX B C) : QX A C := fun k hk => (h2 k hk).trans (h k hk)
theorem QY.rf (n : Nat) (M : Mem) : QY n M M := ⟨fun _ _ _ _ _ => rfl, fun _ _ _ => rfl, fun _ _ => rfl⟩
theorem QY.tr {n : Nat} {A B C : Mem} (h : QY n A B) (h2 : QY n B C) : QY n A C := ⟨fun k h1 h3 s hs => (h2.1 k h1 h3 s hs).trans (h.1 k h1 h3 s hs), fun k h1 h3 => (h2.2.1 k h1 h3).trans (h.2.1 k h1 h3), fun j hj => (h2.2.2 j hj).trans (h.2.2 j hj)⟩
theorem RR.fr {v : Nat → Nat} {u : Nat → Nat → Nat} {tx : Nat → Txt} {MX MY MX' MY' : Mem} (h : RR v u tx MX MY) (hX : QX MX MX') (hZ : RZ MX') (hY : QY (v 3) MY MY') : RR v u tx MX' MY' := by
  obtain ⟨hA, hB, hK, hS, hT, hTx, hH, -⟩ := h
  obtain ⟨y1, y2, y3⟩ := hY
  refine ⟨?_, hB, ?_, hS.fr (fun k h1 h2 s _ => by rw [hX k (by omega)]) y1, hT.fr (fun i _ => by rw [hX 11 (by omega)]) (fun i _ => by rw [y2 6 (by omega) (by omega)]), hTx.fr hB.2.2.2.2.2.2.1 (fun c h1 h2 => hX c (by omega)) (y2 7 (by omega) (by omega)) (y2 8 (by omega) (by omega)) (y2 13 (by omega) (by omega)), hH.fr (fun c h1 h2 => hX c (by omega)) (y2 9 (by omega) (by omega)) (y2 10 (by omega) (by omega)) (y2 11 (by omega) (by omega)), hZ⟩
  · unfold RA at hA ⊢
    rw [hX 1 (by omega), hX 14 (by omega), hX 10 (by omega), y3 0 (by omega), y3 1 (by omega), y3 2 (by omega), y3 3 (by omega), y3 9 (by omega), y3 14 (by omega), y3 15 (by omega), y3 11 (by omega)]
    exact hA
  · unfold RK at hK ⊢
    rw [hX 0 (by omega), hX 2 (by omega), y3 16 (by omega), y3 17 (by omega), y3 18 (by omega), y3 19 (by omega), y3 20 (by omega), y3 21 (by omega), y3 22 (by omega)]
    exact hK
