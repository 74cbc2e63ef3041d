/-! THE LAW'S ROWS (this and the next two parts are printed by wip/gen/mk_law.py) -/
section ANL
variable {Z : CtxZ} {nL cs sl pc : Nat} {L L1 : List (Nat × Value)} {S : List Value} {ws : va_W} {cc : ByteArray} {own : String}
theorem an_iadd (E : EN Z cc nL own) {x y : Int32} (hd : decode cc pc = .ok (.iadd, 1)) (k : AN Z nL cs sl (pc + 1) L (.int (x + y) :: S) ws) : AN Z nL cs sl pc L (.int y :: .int x :: S) ws := fun H locs ls hP hD hS hl => lv_iadd E.1 E.2.1 hd (k H locs ls hP hD hS hl)
theorem an_isub (E : EN Z cc nL own) {x y : Int32} (hd : decode cc pc = .ok (.isub, 1)) (k : AN Z nL cs sl (pc + 1) L (.int (x - y) :: S) ws) : AN Z nL cs sl pc L (.int y :: .int x :: S) ws := fun H locs ls hP hD hS hl => lv_isub E.1 E.2.1 hd (k H locs ls hP hD hS hl)
theorem an_iand (E : EN Z cc nL own) {x y : Int32} (hd : decode cc pc = .ok (.iand, 1)) (k : AN Z nL cs sl (pc + 1) L (.int (x &&& y) :: S) ws) : AN Z nL cs sl pc L (.int y :: .int x :: S) ws := fun H locs ls hP hD hS hl => lv_iand E.1 E.2.1 hd (k H locs ls hP hD hS hl)
theorem an_lcmp (E : EN Z cc nL own) {x y : Int64} (hd : decode cc pc = .ok (.lcmp, 1)) (k : AN Z nL cs sl (pc + 1) L (.int (lg_cmp x y) :: S) ws) : AN Z nL cs sl pc L (.long y :: .long x :: S) ws := fun H locs ls hP hD hS hl => W.lcmp E.1 E.2.1 hd (k H locs ls hP hD hS hl)
theorem an_if_eq (E : EN Z cc nL own) {x : Int32} {off : Int} {tgt : Nat} (hd : decode cc pc = .ok (.ifCond .eq off, 3)) (ht : (pc : Int) + off = (tgt : Int)) (kt : x = 0 → AN Z nL cs sl tgt L S ws) (kf : ¬ x = 0 → AN Z nL cs sl (pc + 3) L S ws) : AN Z nL cs sl pc L (.int x :: S) ws := fun H locs ls hP hD hS hl => lv_if_eq E.1 E.2.1 hd ht (fun q => kt q H locs ls hP hD hS hl) (fun q => kf q H locs ls hP hD hS hl)
theorem an_icmp_eq (E : EN Z cc nL own) {x y : Int32} {off : Int} {tgt : Nat} (hd : decode cc pc = .ok (.if_icmp .eq off, 3)) (ht : (pc : Int) + off = (tgt : Int)) (kt : x = y → AN Z nL cs sl tgt L S ws) (kf : ¬ x = y → AN Z nL cs sl (pc + 3) L S ws) : AN Z nL cs sl pc L (.int y :: .int x :: S) ws := fun H locs ls hP hD hS hl => lv_icmp_eq E.1 E.2.1 hd ht (fun q => kt q H locs ls hP hD hS hl) (fun q => kf q H locs ls hP hD hS hl)
theorem an_icmp_gt (E : EN Z cc nL own) {x y : Int32} {off : Int} {tgt : Nat} (hd : decode cc pc = .ok (.if_icmp .gt off, 3)) (ht : (pc : Int) + off = (tgt : Int)) (kt : y < x → AN Z nL cs sl tgt L S ws) (kf : ¬ y < x → AN Z nL cs sl (pc + 3) L S ws) : AN Z nL cs sl pc L (.int y :: .int x :: S) ws := fun H locs ls hP hD hS hl => lv_icmp_gt E.1 E.2.1 hd ht (fun q => kt q H locs ls hP hD hS hl) (fun q => kf q H locs ls hP hD hS hl)
theorem an_tabIn (E : EN Z cc nL own) {dflt lo hi : Int} {offs : Array Int} {len : Nat} {x : Int32} {off : Int} {tgt : Nat} (hd : decode cc pc = .ok (.tableswitch dflt lo hi offs, len)) (h1 : ¬ x.toInt < lo) (h2 : ¬ hi < x.toInt) (ho : offs[(x.toInt - lo).toNat]? = some off) (ht : (pc : Int) + off = (tgt : Int)) (k : AN Z nL cs sl tgt L S ws) : AN Z nL cs sl pc L (.int x :: S) ws := fun H locs ls hP hD hS hl => lv_tableIn E.1 E.2.1 hd h1 h2 ho ht (k H locs ls hP hD hS hl)
theorem an_tabOut (E : EN Z cc nL own) {dflt lo hi : Int} {offs : Array Int} {len : Nat} {x : Int32} {tgt : Nat} (hd : decode cc pc = .ok (.tableswitch dflt lo hi offs, len)) (h : x.toInt < lo ∨ hi < x.toInt) (ht : (pc : Int) + dflt = (tgt : Int)) (k : AN Z nL cs sl tgt L S ws) : AN Z nL cs sl pc L (.int x :: S) ws := fun H locs ls hP hD hS hl => lv_tableOut E.1 E.2.1 hd h ht (k H locs ls hP hD hS hl)
theorem an_slen (E : EN Z cc nL own) {b n : Nat} {xs : Nat → Int32} (hX : va_X b n xs (ys (zY Z)) (ys (zY Z)).heap) (hb : b < (ys (zY Z)).heap.size) (hA : ¬ zA Z b) (hd : decode cc pc = .ok (.arraylength, 1)) (k : AN Z nL cs sl (pc + 1) L (.int (Int32.ofNat n) :: S) ws) : AN Z nL cs sl pc L (.ref b :: S) ws := fun H locs ls hP hD hS hl => va_slen E.1 E.2.1 hX hb hA hS hd (k H locs ls hP hD hS hl)
theorem an_sld (E : EN Z cc nL own) {b n : Nat} {xs : Nat → Int32} {i : Int32} (hX : va_X b n xs (ys (zY Z)) (ys (zY Z)).heap) (hb : b < (ys (zY Z)).heap.size) (hA : ¬ zA Z b) (hin : vp_in i n) (hd : decode cc pc = .ok (.iaload, 1)) (k : AN Z nL cs sl (pc + 1) L (.int (xs i.toNatClampNeg) :: S) ws) : AN Z nL cs sl pc L (.int i :: .ref b :: S) ws := fun H locs ls hP hD hS hl => va_sld E.1 E.2.1 hX hb hA hS hin hd (k H locs ls hP hD hS hl)
theorem an_swap {wa wb : va_W} (k : AN Z nL cs sl pc L S (wb ++ wa)) : AN Z nL cs sl pc L S (wa ++ wb) := an_world (fun H hP hD => ⟨hP.right.app hP.left, hD.right.app hD.left fun i j p q hi hj e => by
  have h1 := (List.getElem?_eq_some_iff.mp hj).1
  have h2 : (wa ++ wb)[wa.length + i]? = some p := by rw [List.getElem?_append_right (Nat.le_add_right _ _), Nat.add_sub_cancel_left]; exact hi
  have h3 : (wa ++ wb)[j]? = some q := by rw [List.getElem?_append_left h1]; exact hj
  have := hD.1 _ _ _ _ h2 h3 e
  omega⟩) k
end ANL
theorem lg_cmp_self (x : Int64) : lg_cmp x x = 0 := by
  unfold lg_cmp
  simp
/-- what the law stands on -/
def LZ (Z : CtxZ) (b n : Nat) (xs : Nat → Int32) : Prop := zR Z = room_1 ∧ EN Z cL_law 4 RL ∧ va_X b n xs (ys (zY Z)) (ys (zY Z)).heap ∧ b < (ys (zY Z)).heap.size ∧ ¬ zA Z b ∧ n ≤ 3584
abbrev LL (b i : Nat) (adX adY : Nat → Nat) : List (Nat × Value) := [(3, .int (nI i)), (2, .ref (adY 0)), (1, .ref (adX 0)), (0, .ref b)]
abbrev WB (Z : CtxZ) (adX adY : Nat → Nat) (MX MY : Mem) : va_W := wl (wZ Z adX 52 shX) MX ++ wl (wZ Z adY 23 shY) MY
section LAWR
variable {Z : CtxZ} {b n i cs sl : Nat} {xs : Nat → Int32} {adX adY : Nat → Nat} {S : List Value} {ws : va_W}
/-- one argument: script[i + k] -/
theorem an_arg (h : LZ Z b n xs) {k p p2 : Nat} (hk : i + k < n) (d0 : decode cL_law p = .ok (.aload_n 0, 1)) (d1 : decode cL_law (p + 1) = .ok (.iload_n 3, 1)) (pu : ∀ S' ws, AN Z 4 cs sl p2 (LL b i adX adY) (.int (nI k) :: S') ws → AN Z 4 cs sl (p + 1 + 1) (LL b i adX adY) S' ws) (d3 : decode cL_law p2 = .ok (.iadd, 1)) (d4 : decode cL_law (p2 + 1) = .ok (.iaload, 1))
    (kk : AN Z 4 cs sl (p2 + 1 + 1) (LL b i adX adY) (.int (xs (i + k)) :: S) ws) : AN Z 4 cs sl p (LL b i adX adY) S ws := by
  obtain ⟨hR, E, hX, hb, hA, hn⟩ := h
  refine an_aload_n E d0 3 rfl (an_iload_n E d1 0 rfl (pu _ _ (an_iadd E d3 ?_)))
  rw [nI_add]
  refine an_sld E hX hb hA (vp_in_nI hk (by omega)) d4 ?_
  rw [nI_clamp (by omega)]
  exact kk
end LAWR
