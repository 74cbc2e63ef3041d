/-! WORLDS of the two systems, and the rows that the printed walks use. -/
def lt {α β : Type} (x : α) (f : α → β) : β := f x
def gd {α : Type} (c : Prop) [Decidable c] (x : Option α) : Option α := if c then x else none
def ob {α β : Type} (x : Option α) (f : α → Option β) : Option β := x.bind f
def gi {α : Type} (i : Int32) (n : Nat) (x : Option α) : Option α := if i < 0 ∨ n ≤ i.toNatClampNeg then none else x
theorem gi_e {α : Type} {i : Int32} {n : Nat} {x : Option α} {r : α} (h : gi i n x = some r) : vp_in i n ∧ x = some r := by
  unfold gi at h
  by_cases hc : i < 0 ∨ n ≤ i.toNatClampNeg
  · rw [if_pos hc] at h
    cases h
  · rw [if_neg hc] at h
    exact ⟨hc, h⟩
theorem lt_e {α β : Type} {x : α} {f : α → β} {r : β} (h : lt x f = r) : ∃ y, x = y ∧ f y = r := ⟨x, rfl, h⟩
theorem gd_e {α : Type} {c : Prop} [Decidable c] {x : Option α} {r : α} (h : gd c x = some r) : c ∧ x = some r := by
  unfold gd at h
  by_cases hc : c
  · rw [if_pos hc] at h
    exact ⟨hc, h⟩
  · rw [if_neg hc] at h
    cases h
theorem bd_e {α β : Type} {x : Option α} {f : α → Option β} {r : β} (h : ob x f = some r) : ∃ y, x = some y ∧ f y = some r := Option.bind_eq_some_iff.mp h
theorem ip {α : Type} {c : Prop} [Decidable c] {a b r : α} (hc : c) (h : (if c then a else b) = r) : a = r := by rw [if_pos hc] at h; exact h
theorem iq {α : Type} {c : Prop} [Decidable c] {a b r : α} (hc : ¬ c) (h : (if c then a else b) = r) : b = r := by rw [if_neg hc] at h; exact h
theorem bf {b : Bool} (h : b = false) : ¬ b = true := by rw [h]; decide
def ushr (x y : Int32) : Int32 := (x.toUInt32 >>> (y.toUInt32 &&& Int32.toUInt32 31)).toInt32
def jlshl (x : Int64) (y : Int32) : Int64 := x <<< (y.toInt64 &&& 63)
def jlushr (x : Int64) (y : Int32) : Int64 := (x.toUInt64 >>> (y.toInt64.toUInt64 &&& Int64.toUInt64 63)).toInt64
def sch (i : Nat) (k : Int32) : Int32 := (bytS.getD i []).getD k.toNatClampNeg 0
def FU : Nat := 100000
abbrev CtxG : Type := (va_G × (Nat → Nat) × (Nat → Nat) × (Nat → Nat)) × (ClassId × ClassId × ClassId × ClassId)
def shX : Nat → Shp := fun k => match k with
  | 0 => (0, 8, 0, [some 1, some 2, some 3, none, some 4, some 10, some 14, some 31, some 37, some 42, some 43])
  | 1 => (0, 1, 0, [none, none, none, none, none, none])
  | 2 => (0, 1, 0, [none, none, none, none, none, none])
  | 3 => (0, 1, 0, [none, none, none, none, none, none])
  | 4 => (0, 3, 0, [some 5, some 6, some 7, some 8, some 9])
  | 5 => (1, 12, 0, [])
  | 6 => (1, 12, 0, [])
  | 7 => (1, 12, 0, [])
  | 8 => (1, 12, 0, [])
  | 9 => (1, 12, 0, [])
  | 10 => (0, 5, 0, [some 11, none, some 12, some 13, none, none, none, none, none, none])
  | 11 => (1, 160, 0, [])
  | 12 => (1, 160, 0, [])
  | 13 => (1, 3, 0, [])
  | 14 => (0, 6, 0, [some 15, some 22, some 29, some 30, none])
  | 15 => (4, 6, 16, [])
  | 16 => (1, 160, 0, [])
  | 17 => (1, 160, 0, [])
  | 18 => (1, 160, 0, [])
  | 19 => (1, 160, 0, [])
  | 20 => (1, 160, 0, [])
  | 21 => (1, 160, 0, [])
  | 22 => (4, 6, 23, [])
  | 23 => (1, 3, 0, [])
  | 24 => (1, 3, 0, [])
  | 25 => (1, 3, 0, [])
  | 26 => (1, 3, 0, [])
  | 27 => (1, 3, 0, [])
  | 28 => (1, 3, 0, [])
  | 29 => (1, 160, 0, [])
  | 30 => (1, 6, 0, [])
  | 31 => (0, 7, 0, [none, none, none, none, some 32, some 33, some 34, some 35, some 36])
  | 32 => (1, 13, 0, [])
  | 33 => (1, 13, 0, [])
  | 34 => (1, 13, 0, [])
  | 35 => (1, 32, 0, [])
  | 36 => (1, 416, 0, [])
  | 37 => (0, 0, 0, [some 38, some 39, some 40, some 41, none, none])
  | 38 => (2, 8192, 0, [])
  | 39 => (1, 8192, 0, [])
  | 40 => (1, 8192, 0, [])
  | 41 => (1, 4096, 0, [])
  | 42 => (0, 4, 0, [none, none, none])
  | 43 => (3, 4, 44, [])
  | 44 => (0, 2, 0, [some 48, none, none])
  | 45 => (0, 2, 0, [some 49, none, none])
  | 46 => (0, 2, 0, [some 50, none, none])
  | 47 => (0, 2, 0, [some 51, none, none])
  | 48 => (1, 40, 0, [])
  | 49 => (1, 40, 0, [])
  | 50 => (1, 40, 0, [])
  | 51 => (1, 40, 0, [])
  | _ => (9, 0, 0, [])
def shY : Nat → Shp := fun k => match k with
  | 0 => (0, 9, 0, [none, none, none, none, some 1, some 2, some 3, some 4, some 5, none, some 6, none, some 7, some 8, none, none, none, none, none, none, none, none, none, some 9, some 10, some 11, some 12, none, none, none, none, some 13, some 14, none, none, none, some 15, some 16, some 17, some 18, none, some 19, some 20, some 21, none, none, some 22, none, none, none])
  | 1 => (1, 13, 0, [])
  | 2 => (1, 13, 0, [])
  | 3 => (1, 13, 0, [])
  | 4 => (1, 13, 0, [])
  | 5 => (1, 13, 0, [])
  | 6 => (1, 160, 0, [])
  | 7 => (1, 1200, 0, [])
  | 8 => (1, 24, 0, [])
  | 9 => (1, 4, 0, [])
  | 10 => (1, 4, 0, [])
  | 11 => (1, 160, 0, [])
  | 12 => (1, 39, 0, [])
  | 13 => (1, 96, 0, [])
  | 14 => (1, 200, 0, [])
  | 15 => (1, 200, 0, [])
  | 16 => (1, 6, 0, [])
  | 17 => (1, 52, 0, [])
  | 18 => (1, 13, 0, [])
  | 19 => (1, 73728, 0, [])
  | 20 => (1, 73728, 0, [])
  | 21 => (1, 12, 0, [])
  | 22 => (1, 4096, 0, [])
  | _ => (9, 0, 0, [])
def WX (g : CtxG) : CtxW := (g.1, g.2, 52, shX)
def WY (g : CtxG) : CtxW := (g.1, g.2, 23, shY)
def isSet (k : Nat) : Prop := k < 52 ∧ shX k = (0, 1, 0, [none, none, none, none, none, none])
theorem set1 : isSet 1 := ⟨by decide, rfl⟩
theorem set2 : isSet 2 := ⟨by decide, rfl⟩
theorem set3 : isSet 3 := ⟨by decide, rfl⟩
def isSheet (k : Nat) : Prop := k < 52 ∧ shX k = (0, 2, 0, [some (k + 4), none, none]) ∧ k + 4 < 52 ∧ shX (k + 4) = (1, 40, 0, [])
theorem vp_in_cases {i : Int32} {n : Nat} (h : vp_in i n) : i.toNatClampNeg < n := Nat.not_le.mp fun q => h (Or.inr q)
theorem sheets_of {i : Int32} (h : vp_in i 4) : isSheet (44 + i.toNatClampNeg) := by
  have h1 := vp_in_cases h
  generalize i.toNatClampNeg = k at h1 ⊢
  match k, h1 with
  | 0, _ => exact ⟨by decide, rfl, by decide, rfl⟩
  | 1, _ => exact ⟨by decide, rfl, by decide, rfl⟩
  | 2, _ => exact ⟨by decide, rfl, by decide, rfl⟩
  | 3, _ => exact ⟨by decide, rfl, by decide, rfl⟩
  | k + 4, h => omega
theorem code2_of {i : Int32} (h : vp_in i 6) : 16 + i.toNatClampNeg < 52 ∧ shX (16 + i.toNatClampNeg) = (1, 160, 0, []) := by
  have h1 := vp_in_cases h
  generalize i.toNatClampNeg = k at h1 ⊢
  match k, h1 with
  | 0, _ => exact ⟨by decide, rfl⟩
  | 1, _ => exact ⟨by decide, rfl⟩
  | 2, _ => exact ⟨by decide, rfl⟩
  | 3, _ => exact ⟨by decide, rfl⟩
  | 4, _ => exact ⟨by decide, rfl⟩
  | 5, _ => exact ⟨by decide, rfl⟩
  | k + 6, h => omega
theorem ends2_of {i : Int32} (h : vp_in i 6) : 23 + i.toNatClampNeg < 52 ∧ shX (23 + i.toNatClampNeg) = (1, 3, 0, []) := by
  have h1 := vp_in_cases h
  generalize i.toNatClampNeg = k at h1 ⊢
  match k, h1 with
  | 0, _ => exact ⟨by decide, rfl⟩
  | 1, _ => exact ⟨by decide, rfl⟩
  | 2, _ => exact ⟨by decide, rfl⟩
  | 3, _ => exact ⟨by decide, rfl⟩
  | 4, _ => exact ⟨by decide, rfl⟩
  | 5, _ => exact ⟨by decide, rfl⟩
  | k + 6, h => omega
section AWT
variable {Y : CtxM} {w : CtxW} {r : Option Value × Mem} {nL d pc : Nat} {L L1 : List (Nat × Value)} {S : List Value} {M : Mem} {cc : ByteArray} {rt : Option FieldType} {own : String}
theorem aw_nmI {e x : Int32} (h : e = x) (k : AW Y w r nL d pc L (.int x :: S) M) : AW Y w r nL d pc L (.int e :: S) M := by subst h; exact k
theorem aw_nmJ {e x : Int64} (h : e = x) (k : AW Y w r nL d pc L (.long x :: S) M) : AW Y w r nL d pc L (.long e :: S) M := by subst h; exact k
theorem aw_putI1 {idx ci j b : Nat} {ty : FieldType} {fl : List (Option Nat)} {k : Nat} {v : Int32} {M1 : Mem} (hM : wr M k j v = M1) (E : EV Y w cc nL rt own) (F : FL own idx ci j false ty) (hk : k < wN w) (hs : wsh w k = (0, ci, b, fl)) (hf : fl[j]? = some none) (hn : narrow ty (.int v) = .int v ∧ fits ty (.int v) = true) (hd : decode cc pc = .ok (.putfield idx, 3)) (kk : AW Y w r nL d (pc + 3) L S M1) : AW Y w r nL d pc L (.int v :: .ref (wad w k) :: S) M := by subst hM; exact aw_putI E F hk hs hf hn hd kk
theorem aw_iast1 {k n b : Nat} {fl : List (Option Nat)} {i v : Int32} {M1 : Mem} (hM : wr M k i.toNatClampNeg v = M1) (E : EV Y w cc nL rt own) (hk : k < wN w) (hs : wsh w k = (1, n, b, fl)) (hin : vp_in i n) (hd : decode cc pc = .ok (.iastore, 1)) (kk : AW Y w r nL d (pc + 1) L S M1) : AW Y w r nL d pc L (.int v :: .int i :: .ref (wad w k) :: S) M := by subst hM; exact aw_iast E hk hs hin hd kk
theorem aw_last1 {k n b : Nat} {fl : List (Option Nat)} {i : Int32} {v : Int64} {M1 : Mem} (hM : wrL M k i.toNatClampNeg v = M1) (E : EV Y w cc nL rt own) (hk : k < wN w) (hs : wsh w k = (2, n, b, fl)) (hin : vp_in i n) (hd : decode cc pc = .ok (.lastore, 1)) (kk : AW Y w r nL d (pc + 1) L S M1) : AW Y w r nL d pc L (.long v :: .int i :: .ref (wad w k) :: S) M := by subst hM; exact aw_last E hk hs hin hd kk
theorem aw_acopy1 {idx k0 k1 n0 n1 b0 b1 : Nat} {f0 f1 : List (Option Nat)} {sp dp n : Int32} {M1 : Mem} (hM : setC M k1 (va_cpy (M.1 k0) (M.1 k1) sp.toNatClampNeg dp.toNatClampNeg n.toNatClampNeg) = M1) (E : EV Y w cc nL rt own) (hlk : Cond.methodLink own idx arraycopyName ∈ gt) (hk0 : k0 < wN w) (hs0 : wsh w k0 = (1, n0, b0, f0)) (hk1 : k1 < wN w) (hs1 : wsh w k1 = (1, n1, b1, f1)) (hg : ¬ sp < 0 ∧ ¬ dp < 0 ∧ ¬ n < 0 ∧ sp.toNatClampNeg + n.toNatClampNeg ≤ n0 ∧ dp.toNatClampNeg + n.toNatClampNeg ≤ n1) (hcat : (S.map fun v => v.category).sum ≤ 8) (hdd : 1 ≤ d) (hd : decode cc pc = .ok (.invokestatic idx, 3)) (kk : AW Y w r nL d (pc + 3) L S M1) : AW Y w r nL d pc L (.int n :: .int dp :: .ref (wad w k1) :: .int sp :: .ref (wad w k0) :: S) M := by subst hM; exact aw_acopy E hlk hk0 hs0 hk1 hs1 hg hcat hdd hd kk
theorem aw_callVi {y : MethodName} {cc' : ByteArray} {nL' n d' idx k ci b : Nat} {rt' : Option FieldType} {fl : List (Option Nat)} {As St : List Value} {x : Int32} {M' : Mem} (E : EV Y w cc nL rt own) (mv : MV y cc' nL' rt' n) (hlk : Cond.methodLink own idx y ∈ gt) (hk : k < wN w) (hsk : wsh w k = (0, ci, b, fl)) (hcl : (vwCl[ci]?).map (fun q => q.1) = some y.cls) (hn : As.length = n) (C : Ct (yl Y) w y cc' nL' rt' d' (.ref (wad w k) :: As) M (some (.int x), M')) (hst : St = As.reverse ++ .ref (wad w k) :: S) (hcat : (S.map fun v => v.category).sum ≤ 8) (hdd : d' + 1 ≤ d) (hd : decode cc pc = .ok (.invokevirtual idx, 3)) (kk : AW Y w r nL d (pc + 3) L (.int x :: S) M') : AW Y w r nL d pc L St M := aw_callV E mv hlk hk hsk hcl hn C hst hcat hdd hd kk
theorem aw_callSi {y : MethodName} {cc' : ByteArray} {nL' n d' idx : Nat} {rt' : Option FieldType} {As St : List Value} {x : Int32} {M' : Mem} (E : EV Y w cc nL rt own) (mv : MS y cc' nL' rt' n) (hlk : Cond.methodLink own idx y ∈ gt) (hn : As.length = n) (C : Ct (yl Y) w y cc' nL' rt' d' As M (some (.int x), M')) (hst : St = As.reverse ++ S) (hcat : (S.map fun v => v.category).sum ≤ 8) (hdd : d' + 1 ≤ d) (hd : decode cc pc = .ok (.invokestatic idx, 3)) (kk : AW Y w r nL d (pc + 3) L (.int x :: S) M') : AW Y w r nL d pc L St M := aw_callS E mv hlk hn C hst hcat hdd hd kk
theorem aw_callVl {y : MethodName} {cc' : ByteArray} {nL' n d' idx k ci b : Nat} {rt' : Option FieldType} {fl : List (Option Nat)} {As St : List Value} {x : Int64} {M' : Mem} (E : EV Y w cc nL rt own) (mv : MV y cc' nL' rt' n) (hlk : Cond.methodLink own idx y ∈ gt) (hk : k < wN w) (hsk : wsh w k = (0, ci, b, fl)) (hcl : (vwCl[ci]?).map (fun q => q.1) = some y.cls) (hn : As.length = n) (C : Ct (yl Y) w y cc' nL' rt' d' (.ref (wad w k) :: As) M (some (.long x), M')) (hst : St = As.reverse ++ .ref (wad w k) :: S) (hcat : (S.map fun v => v.category).sum ≤ 8) (hdd : d' + 1 ≤ d) (hd : decode cc pc = .ok (.invokevirtual idx, 3)) (kk : AW Y w r nL d (pc + 3) L (.long x :: S) M') : AW Y w r nL d pc L St M := aw_callV E mv hlk hk hsk hcl hn C hst hcat hdd hd kk
theorem aw_callSl {y : MethodName} {cc' : ByteArray} {nL' n d' idx : Nat} {rt' : Option FieldType} {As St : List Value} {x : Int64} {M' : Mem} (E : EV Y w cc nL rt own) (mv : MS y cc' nL' rt' n) (hlk : Cond.methodLink own idx y ∈ gt) (hn : As.length = n) (C : Ct (yl Y) w y cc' nL' rt' d' As M (some (.long x), M')) (hst : St = As.reverse ++ S) (hcat : (S.map fun v => v.category).sum ≤ 8) (hdd : d' + 1 ≤ d) (hd : decode cc pc = .ok (.invokestatic idx, 3)) (kk : AW Y w r nL d (pc + 3) L (.long x :: S) M') : AW Y w r nL d pc L St M := aw_callS E mv hlk hn C hst hcat hdd hd kk
theorem aw_callVv {y : MethodName} {cc' : ByteArray} {nL' n d' idx k ci b : Nat} {rt' : Option FieldType} {fl : List (Option Nat)} {As St : List Value} {M' : Mem} (E : EV Y w cc nL rt own) (mv : MV y cc' nL' rt' n) (hlk : Cond.methodLink own idx y ∈ gt) (hk : k < wN w) (hsk : wsh w k = (0, ci, b, fl)) (hcl : (vwCl[ci]?).map (fun q => q.1) = some y.cls) (hn : As.length = n) (C : Ct (yl Y) w y cc' nL' rt' d' (.ref (wad w k) :: As) M (none, M')) (hst : St = As.reverse ++ .ref (wad w k) :: S) (hcat : (S.map fun v => v.category).sum ≤ 8) (hdd : d' + 1 ≤ d) (hd : decode cc pc = .ok (.invokevirtual idx, 3)) (kk : AW Y w r nL d (pc + 3) L (S) M') : AW Y w r nL d pc L St M := aw_callV E mv hlk hk hsk hcl hn C hst hcat hdd hd kk
theorem aw_callSv {y : MethodName} {cc' : ByteArray} {nL' n d' idx : Nat} {rt' : Option FieldType} {As St : List Value} {M' : Mem} (E : EV Y w cc nL rt own) (mv : MS y cc' nL' rt' n) (hlk : Cond.methodLink own idx y ∈ gt) (hn : As.length = n) (C : Ct (yl Y) w y cc' nL' rt' d' As M (none, M')) (hst : St = As.reverse ++ S) (hcat : (S.map fun v => v.category).sum ≤ 8) (hdd : d' + 1 ≤ d) (hd : decode cc pc = .ok (.invokestatic idx, 3)) (kk : AW Y w r nL d (pc + 3) L (S) M') : AW Y w r nL d pc L St M := aw_callS E mv hlk hn C hst hcat hdd hd kk
end AWT
