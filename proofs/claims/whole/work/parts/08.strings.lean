/-! STRING CONSTANTS: length and charAt -/
section AWStr
variable {Y : CtxM} {w : CtxW} {r : Option Value × Mem} {nL d pc : Nat} {L L1 : List (Nat × Value)} {S : List Value} {M : Mem} {cc : ByteArray} {rt : Option FieldType} {own : String}
theorem aw_slen (E : EV Y w cc nL rt own) {i idx : Nat} {v : Int32} (hlk : Cond.methodLink own idx yJ0_length_8abf5 ∈ gt) (hi : i < 3) (hv : Int32.ofNat (lenS.getD i 0) = v) (hcat : (S.map fun v => v.category).sum ≤ 8) (hdd : 7 ≤ d) (hd : decode cc pc = .ok (.invokevirtual idx, 3))
    (kk : AW Y w r nL d (pc + 3) L (.int v :: S) M) : AW Y w r nL d pc L (.ref (wK w i) :: S) M := sorry
theorem aw_sch (E : EV Y w cc nL rt own) {i idx : Nat} {x : Int32} (hlk : Cond.methodLink own idx yJ0_charAt_5068e ∈ gt) (hi : i < 3) (hin : vp_in x (lenS.getD i 0)) (hcat : (S.map fun v => v.category).sum ≤ 8) (hdd : 7 ≤ d) (hd : decode cc pc = .ok (.invokevirtual idx, 3))
    (kk : AW Y w r nL d (pc + 3) L (.int (sch i x) :: S) M) : AW Y w r nL d pc L (.int x :: .ref (wK w i) :: S) M := sorry
end AWStr
