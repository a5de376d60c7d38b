/-! ===== the law's loop, open for player and for the end ===== -/
section LL8
variable {p : Program} {l : Launch} {e : Env} {Rm : Room} {s : State} {mid : MethodId} {args : Array Value} {below : List Frame} {meth : Method} {c : Code} {Q : State → Prop}
variable {D : va_G} {tc : Nat → ClassId} {ad0 : Nat → Nat} {b L ao : Nat} {xs : Nat → Int32} {O : Heap → Prop} {ec es : Nat}
theorem zl_d23 : (decode code 23 = .ok (.iload 4, 2) ∧ decode code 25 = .ok (.aload_n 0, 1) ∧ decode code 26 = .ok (.arraylength, 1) ∧ decode code 27 = .ok (.bipush 6, 2) ∧ decode code 29 = .ok (.isub, 1) ∧ decode code 30 = .ok (.if_icmp .gt 1532, 3)) ∧ decode code 1556 = .ok (.iinc 4 6, 3) ∧ decode code 1559 = .ok (.goto (-1536), 3) := ⟨⟨by decide +kernel, by decide +kernel, by decide +kernel, by decide +kernel, by decide +kernel, by decide +kernel⟩, by decide +kernel, by decide +kernel⟩
/-- locals of the loop -/
def zLl (b ao : Nat) (ad : Nat → Nat) (i : Nat) (la : Array Slot) : Prop := lv_has la 7 [(4, .int (nI i)), (3, .ref ao), (2, .ref (ad 195)), (1, .ref (ad 0)), (0, .ref b)]
theorem zl_loop_open (C : zLc p Rm s mid args c D tc ad0 b L ao xs O ec es)
    (p5 : ∀ (i q : Nat) (I : ZI) (R : ZR) (n : Nat) (ad : Nat → Nat) (H : Heap) (locs : List Loc) (la : Array Slot), i + 5 < L → zInv q I R n → q ≤ 1000 → zLw D tc s ad0 ao O I R n ad H locs → zLl b ao ad i la → (∀ (I2 : ZI) (R2 : ZR) (n2 : Nat) (ad' : Nat → Nat) (H' : Heap) (locs' : List Loc) (la' : Array Slot), zInv (q + 1) I2 R2 n2 → ad' 0 = ad 0 → ad' 195 = ad 195 → zLw D tc s ad0 ao O I2 R2 n2 ad' H' locs' → zLl b ao ad i la' → W p l e Rm s mid args below meth c H' locs' (n2 + ec) (zs n2 + es) Q (F0 mid 1556 la' [])) → W p l e Rm s mid args below meth c H locs (n + ec) (zs n + es) Q (F0 mid 369 la []))
    (kend : ∀ (q : Nat) (I : ZI) (R : ZR) (n : Nat) (ad : Nat → Nat) (H : Heap) (locs : List Loc) (la : Array Slot), zInv q I R n → zLw D tc s ad0 ao O I R n ad H locs → W p l e Rm s mid args below meth c H locs (n + ec) (zs n + es) Q (F0 mid 1562 la [])) :
    ∀ (N q : Nat) (I : ZI) (R : ZR) (n : Nat) (ad : Nat → Nat) (H : Heap) (locs : List Loc) (la : Array Slot), q + N = 600 → 6 * q ≤ L → zInv q I R n → zLw D tc s ad0 ao O I R n ad H locs → zLl b ao ad (6 * q) la → W p l e Rm s mid args below meth c H locs (n + ec) (zs n + es) Q (F0 mid 23 la []) := by
  have hx := C.1.1
  have hb := C.1.2.1
  have hX := C.2.2.2.1.1
  have hbl := C.2.2.2.1.2.1
  have hL := C.2.2.2.1.2.2
  have hbA : ¬ zB0 s.heap.size b := Nat.not_le.mpr hbl
  obtain ⟨⟨d23, d25, d26, d27, d29, d30⟩, d56, d59⟩ := zl_d23
  intro N
  induction N with
  | zero => intro q I R n ad H locs la hN h6; omega
  | succ N ih =>
    intro q I R n ad H locs la hN h6 h hw hl
    refine lv_iload hx hb d23 (lv_at hl 0 rfl) ?_
    refine lv_aload_n hx hb d25 rfl (lv_at hl 4 rfl) ?_
    refine va_slen hx hb hX hbl hbA hw.2.2.1 d26 ?_
    refine lv_bipush (v := 6) hx hb d27 (by decide) ?_
    refine lv_isub hx hb d29 ?_
    have hsub : (nI L - 6).toInt = (L : Int) - 6 := by
      rw [show (6 : Int32) = nI 6 by decide, pk_sub_toInt (by omega) (by decide)]; rfl
    refine lv_icmp_gt (tgt := 1562) hx hb d30 (by decide) (fun c1 => kend q I R n ad H locs la h hw) (fun c1 => ?_)
    have hi : 6 * q + 5 < L := by
      rcases Nat.lt_or_ge (6 * q + 5) L with y | y
      · exact y
      · refine absurd ?_ c1
        show nI L - 6 < nI (6 * q)
        rw [Int32.lt_iff_toInt_lt, hsub, nI_toInt (by omega)]
        omega
    have nx : ∀ (I2 : ZI) (R2 : ZR) (n2 : Nat) (ad' : Nat → Nat) (H' : Heap) (locs' : List Loc) (la' : Array Slot), zInv (q + 1) I2 R2 n2 → ad' 0 = ad 0 → ad' 195 = ad 195 → zLw D tc s ad0 ao O I2 R2 n2 ad' H' locs' → zLl b ao ad (6 * q) la' → W p l e Rm s mid args below meth c H' locs' (n2 + ec) (zs n2 + es) Q (F0 mid 1556 la' []) := fun I2 R2 n2 ad' H' locs' la' g1 g2 g3 g4 hl' => by
      refine lv_iinc (v := nI (6 * (q + 1))) (lv' := [(4, .int (nI (6 * (q + 1)))), (3, .ref ao), (2, .ref (ad 195)), (1, .ref (ad 0)), (0, .ref b)]) hx hb d56 hl' (k := 0) rfl ?_ (by decide) rfl (fun ls hl2 => ?_)
      · rw [show Int32.ofInt 6 = nI 6 by decide, nI_add]
        exact congrArg nI (by omega)
      · refine lv_goto (tgt := 23) hx hb d59 (by decide) ?_
        exact ih (q + 1) I2 R2 n2 ad' H' locs' ls (by omega) (by omega) g1 g4 (by unfold zLl; rw [g2, g3]; exact hl2)
    exact zl_disp C hi h (by omega) hw hl.1 (lv_at hl 4 rfl) (lv_at hl 3 rfl) (lv_at hl 2 rfl) (lv_at hl 0 rfl) (p5 (6 * q) q I R n ad H locs la hi h (by omega) hw hl nx) (fun I2 R2 n2 ad' H' locs' g1 g2 g3 g4 => nx I2 R2 n2 ad' H' locs' la g1 g2 g3 g4 hl)
end LL8
