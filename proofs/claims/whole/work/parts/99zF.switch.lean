/-! ===== the law's switch ===== -/
section LL7
variable {p : Program} {l : Launch} {e : Env} {Rm : Room} {s : State} {mid : MethodId} {args : Array Value} {below : List Frame} {meth : Method} {c : Code} {Q : State → Prop}
variable {D : va_G} {tc : Nat → ClassId} {ad0 : Nat → Nat} {b L ao : Nat} {xs : Nat → Int32} {O : Heap → Prop} {ec es : Nat}
theorem zl_d33 : decode code 33 = .ok (.aload_n 0, 1) ∧ decode code 34 = .ok (.iload 4, 2) ∧ decode code 36 = .ok (.iaload, 1) ∧ decode code 37 = .ok (.bipush 63, 2) ∧ decode code 39 = .ok (.iand, 1) := ⟨by decide +kernel, by decide +kernel, by decide +kernel, by decide +kernel, by decide +kernel⟩
theorem zl_d40 : decode code 40 = .ok (.tableswitch 1516 0 40 #[180, 253, 278, 291, 304, 329, 397, 434, 459, 484, 521, 546, 571, 596, 609, 646, 671, 696, 721, 770, 807, 844, 869, 894, 919, 956, 981, 1018, 1067, 1116, 1141, 1202, 1227, 1296, 1365, 1402, 1415, 1428, 1441, 1466, 1491], 180) := by decide +kernel
theorem zl_disp (C : zLc p Rm s mid args c D tc ad0 b L ao xs O ec es) {i : Nat} (hia : i + 5 < L) {q : Nat} {I : ZI} {R : ZR} {n : Nat} (h : zInv q I R n) (hq : q ≤ 1000) {ad : Nat → Nat} {H : Heap} {locs : List Loc} {la : Array Slot} (hw : zLw D tc s ad0 ao O I R n ad H locs) (hla : la.size = 7) (l0 : la[0]? = some (.val (.ref b))) (l1 : la[1]? = some (.val (.ref (ad 0)))) (l2 : la[2]? = some (.val (.ref (ad 195)))) (l4 : la[4]? = some (.val (.int (nI i))))
    (k5 : W p l e Rm s mid args below meth c H locs (n + ec) (zs n + es) Q (F0 mid 369 la []))
    (k : ∀ (I2 : ZI) (R2 : ZR) (n2 : Nat) (ad' : Nat → Nat) (H' : Heap) (locs' : List Loc), zInv (q + 1) I2 R2 n2 → ad' 0 = ad 0 → ad' 195 = ad 195 → zLw D tc s ad0 ao O I2 R2 n2 ad' H' locs' → W p l e Rm s mid args below meth c H' locs' (n2 + ec) (zs n2 + es) Q (F0 mid 1556 la [])) : W p l e Rm s mid args below meth c H locs (n + ec) (zs n + es) Q (F0 mid 33 la []) := by
  have hx := C.1.1
  have hb := C.1.2.1
  have hX := C.2.2.2.1.1
  have hbl := C.2.2.2.1.2.1
  have hL := C.2.2.2.1.2.2
  have hbA : ¬ zB0 s.heap.size b := Nat.not_le.mpr hbl
  refine lv_aload_n hx hb zl_d33.1 rfl l0 ?_
  refine lv_iload hx hb zl_d33.2.1 l4 ?_
  refine va_sld hx hb hX hbl hbA hw.2.2.1 (vp_in_nI (show i < L by omega) (by omega)) zl_d33.2.2.1 ?_
  refine lv_bipush (v := 63) hx hb zl_d33.2.2.2.1 (by decide) ?_
  refine lv_iand hx hb zl_d33.2.2.2.2 ?_
  refine lv_topi (fun x _ => ?_)
  by_cases c1 : x.toInt < 0 ∨ 40 < x.toInt
  · exact lv_tableOut (tgt := 1556) hx hb zl_d40 c1 (by decide) (k I R n ad H locs (zInv_f h (by omega) (fun _ _ _ => rfl)) rfl rfl hw)
  · have hx0 : ¬ x < 0 := by
      rw [Int32.lt_iff_toInt_lt]
      have : (0 : Int32).toInt = 0 := by decide
      omega
    obtain ⟨j, hj, rfl⟩ := nI_of hx0
    have e := nI_toInt hj
    rw [e] at c1
    have hj40 : j = 0 ∨ j = 1 ∨ j = 2 ∨ j = 3 ∨ j = 4 ∨ j = 5 ∨ j = 6 ∨ j = 7 ∨ j = 8 ∨ j = 9 ∨ j = 10 ∨ j = 11 ∨ j = 12 ∨ j = 13 ∨ j = 14 ∨ j = 15 ∨ j = 16 ∨ j = 17 ∨ j = 18 ∨ j = 19 ∨ j = 20 ∨ j = 21 ∨ j = 22 ∨ j = 23 ∨ j = 24 ∨ j = 25 ∨ j = 26 ∨ j = 27 ∨ j = 28 ∨ j = 29 ∨ j = 30 ∨ j = 31 ∨ j = 32 ∨ j = 33 ∨ j = 34 ∨ j = 35 ∨ j = 36 ∨ j = 37 ∨ j = 38 ∨ j = 39 ∨ j = 40 := by omega
    rcases hj40 with rfl | rfl | rfl | rfl | rfl | rfl | rfl | rfl | rfl | rfl | rfl | rfl | rfl | rfl | rfl | rfl | rfl | rfl | rfl | rfl | rfl | rfl | rfl | rfl | rfl | rfl | rfl | rfl | rfl | rfl | rfl | rfl | rfl | rfl | rfl | rfl | rfl | rfl | rfl | rfl | rfl
    · exact lv_tableIn (tgt := 220) hx hb zl_d40 (by decide) (by decide) (off := 180) rfl (by decide) (zl_case C zl_o0 (by decide) hia h (zg_0 h hq i) hw hla l0 l1 l2 l4 k)
    · exact lv_tableIn (tgt := 293) hx hb zl_d40 (by decide) (by decide) (off := 253) rfl (by decide) (zl_case C zl_o1 (by decide) hia h (zg_1 h hq i) hw hla l0 l1 l2 l4 k)
    · exact lv_tableIn (tgt := 318) hx hb zl_d40 (by decide) (by decide) (off := 278) rfl (by decide) (zl_case C zl_o2 (by decide) hia h (zg_2 h hq i) hw hla l0 l1 l2 l4 k)
    · exact lv_tableIn (tgt := 331) hx hb zl_d40 (by decide) (by decide) (off := 291) rfl (by decide) (zl_case C zl_o3 (by decide) hia h (zg_3 h hq i) hw hla l0 l1 l2 l4 k)
    · exact lv_tableIn (tgt := 344) hx hb zl_d40 (by decide) (by decide) (off := 304) rfl (by decide) (zl_case C zl_o4 (by decide) hia h (zg_4 h hq i) hw hla l0 l1 l2 l4 k)
    · exact lv_tableIn (tgt := 369) hx hb zl_d40 (by decide) (by decide) (off := 329) rfl (by decide) k5
    · exact lv_tableIn (tgt := 437) hx hb zl_d40 (by decide) (by decide) (off := 397) rfl (by decide) (zl_case C zl_o6 (by decide) hia h (zg_6 h hq i) hw hla l0 l1 l2 l4 k)
    · exact lv_tableIn (tgt := 474) hx hb zl_d40 (by decide) (by decide) (off := 434) rfl (by decide) (zl_case C zl_o7 (by decide) hia h (zg_7 h hq i) hw hla l0 l1 l2 l4 k)
    · exact lv_tableIn (tgt := 499) hx hb zl_d40 (by decide) (by decide) (off := 459) rfl (by decide) (zl_case C zl_o8 (by decide) hia h (zg_8 h hq i) hw hla l0 l1 l2 l4 k)
    · exact lv_tableIn (tgt := 524) hx hb zl_d40 (by decide) (by decide) (off := 484) rfl (by decide) (zl_case C zl_o9 (by decide) hia h (zg_9 h hq i) hw hla l0 l1 l2 l4 k)
    · exact lv_tableIn (tgt := 561) hx hb zl_d40 (by decide) (by decide) (off := 521) rfl (by decide) (zl_case C zl_o10 (by decide) hia h (zg_10 h hq i) hw hla l0 l1 l2 l4 k)
    · exact lv_tableIn (tgt := 586) hx hb zl_d40 (by decide) (by decide) (off := 546) rfl (by decide) (zl_case C zl_o11 (by decide) hia h (zg_11 h hq i) hw hla l0 l1 l2 l4 k)
    · exact lv_tableIn (tgt := 611) hx hb zl_d40 (by decide) (by decide) (off := 571) rfl (by decide) (zl_case C zl_o12 (by decide) hia h (zg_12 h hq i) hw hla l0 l1 l2 l4 k)
    · exact lv_tableIn (tgt := 636) hx hb zl_d40 (by decide) (by decide) (off := 596) rfl (by decide) (zl_case C zl_o13 (by decide) hia h (zg_13 h hq i) hw hla l0 l1 l2 l4 k)
    · exact lv_tableIn (tgt := 649) hx hb zl_d40 (by decide) (by decide) (off := 609) rfl (by decide) (zl_case C zl_o14 (by decide) hia h (zg_14 h hq i) hw hla l0 l1 l2 l4 k)
    · exact lv_tableIn (tgt := 686) hx hb zl_d40 (by decide) (by decide) (off := 646) rfl (by decide) (zl_case C zl_o15 (by decide) hia h (zg_15 h hq i) hw hla l0 l1 l2 l4 k)
    · exact lv_tableIn (tgt := 711) hx hb zl_d40 (by decide) (by decide) (off := 671) rfl (by decide) (zl_case C zl_o16 (by decide) hia h (zg_16 h hq i) hw hla l0 l1 l2 l4 k)
    · exact lv_tableIn (tgt := 736) hx hb zl_d40 (by decide) (by decide) (off := 696) rfl (by decide) (zl_case C zl_o17 (by decide) hia h (zg_17 h hq i) hw hla l0 l1 l2 l4 k)
    · exact lv_tableIn (tgt := 761) hx hb zl_d40 (by decide) (by decide) (off := 721) rfl (by decide) (zl_case C zl_o18 (by decide) hia h (zg_18 h hq i) hw hla l0 l1 l2 l4 k)
    · exact lv_tableIn (tgt := 810) hx hb zl_d40 (by decide) (by decide) (off := 770) rfl (by decide) (zl_case C zl_o19 (by decide) hia h (zg_19 h hq i) hw hla l0 l1 l2 l4 k)
    · exact lv_tableIn (tgt := 847) hx hb zl_d40 (by decide) (by decide) (off := 807) rfl (by decide) (zl_case C zl_o20 (by decide) hia h (zg_20 h hq i) hw hla l0 l1 l2 l4 k)
    · exact lv_tableIn (tgt := 884) hx hb zl_d40 (by decide) (by decide) (off := 844) rfl (by decide) (zl_case C zl_o21 (by decide) hia h (zg_21 h hq i) hw hla l0 l1 l2 l4 k)
    · exact lv_tableIn (tgt := 909) hx hb zl_d40 (by decide) (by decide) (off := 869) rfl (by decide) (zl_case C zl_o22 (by decide) hia h (zg_22 h hq i) hw hla l0 l1 l2 l4 k)
    · exact lv_tableIn (tgt := 934) hx hb zl_d40 (by decide) (by decide) (off := 894) rfl (by decide) (zl_case C zl_o23 (by decide) hia h (zg_23 h hq i) hw hla l0 l1 l2 l4 k)
    · exact lv_tableIn (tgt := 959) hx hb zl_d40 (by decide) (by decide) (off := 919) rfl (by decide) (zl_case C zl_o24 (by decide) hia h (zg_24 h hq i) hw hla l0 l1 l2 l4 k)
    · exact lv_tableIn (tgt := 996) hx hb zl_d40 (by decide) (by decide) (off := 956) rfl (by decide) (zl_case C zl_o25 (by decide) hia h (zg_25 h hq i) hw hla l0 l1 l2 l4 k)
    · exact lv_tableIn (tgt := 1021) hx hb zl_d40 (by decide) (by decide) (off := 981) rfl (by decide) (zl_case C zl_o26 (by decide) hia h (zg_26 h hq i) hw hla l0 l1 l2 l4 k)
    · exact lv_tableIn (tgt := 1058) hx hb zl_d40 (by decide) (by decide) (off := 1018) rfl (by decide) (zl_case C zl_o27 (by decide) hia h (zg_27 h hq i) hw hla l0 l1 l2 l4 k)
    · exact lv_tableIn (tgt := 1107) hx hb zl_d40 (by decide) (by decide) (off := 1067) rfl (by decide) (zl_case C zl_o28 (by decide) hia h (zg_28 h hq i) hw hla l0 l1 l2 l4 k)
    · exact lv_tableIn (tgt := 1156) hx hb zl_d40 (by decide) (by decide) (off := 1116) rfl (by decide) (zl_case C zl_o29 (by decide) hia h (zg_29 h hq i) hw hla l0 l1 l2 l4 k)
    · exact lv_tableIn (tgt := 1181) hx hb zl_d40 (by decide) (by decide) (off := 1141) rfl (by decide) (zl_case C zl_o30 (by decide) hia h (zg_30 h hq i) hw hla l0 l1 l2 l4 k)
    · exact lv_tableIn (tgt := 1242) hx hb zl_d40 (by decide) (by decide) (off := 1202) rfl (by decide) (zl_case C zl_o31 (by decide) hia h (zg_31 h hq i) hw hla l0 l1 l2 l4 k)
    · exact lv_tableIn (tgt := 1267) hx hb zl_d40 (by decide) (by decide) (off := 1227) rfl (by decide) (zl_caseL C zl_o32 hia h (zg_32 h i) hw hla l0 l1 l2 l4 k)
    · exact lv_tableIn (tgt := 1336) hx hb zl_d40 (by decide) (by decide) (off := 1296) rfl (by decide) (zl_caseL C zl_o33 hia h (zg_33 h i) hw hla l0 l1 l2 l4 k)
    · exact lv_tableIn (tgt := 1405) hx hb zl_d40 (by decide) (by decide) (off := 1365) rfl (by decide) (zl_case C zl_o34 (by decide) hia h (zg_34 h hq i) hw hla l0 l1 l2 l4 k)
    · exact lv_tableIn (tgt := 1442) hx hb zl_d40 (by decide) (by decide) (off := 1402) rfl (by decide) (zl_case C zl_o35 (by decide) hia h (zg_35 h hq i) hw hla l0 l1 l2 l4 k)
    · exact lv_tableIn (tgt := 1455) hx hb zl_d40 (by decide) (by decide) (off := 1415) rfl (by decide) (zl_case C zl_o36 (by decide) hia h (zg_36 h hq i) hw hla l0 l1 l2 l4 k)
    · exact lv_tableIn (tgt := 1468) hx hb zl_d40 (by decide) (by decide) (off := 1428) rfl (by decide) (zl_case C zl_o37 (by decide) hia h (zg_37 h hq i) hw hla l0 l1 l2 l4 k)
    · exact lv_tableIn (tgt := 1481) hx hb zl_d40 (by decide) (by decide) (off := 1441) rfl (by decide) (zl_case C zl_o38 (by decide) hia h (zg_38 h hq i) hw hla l0 l1 l2 l4 k)
    · exact lv_tableIn (tgt := 1506) hx hb zl_d40 (by decide) (by decide) (off := 1466) rfl (by decide) (zl_case C zl_o39 (by decide) hia h (zg_39 h hq i) hw hla l0 l1 l2 l4 k)
    · exact lv_tableIn (tgt := 1531) hx hb zl_d40 (by decide) (by decide) (off := 1491) rfl (by decide) (zl_case C zl_o40 (by decide) hia h (zg_40 h hq i) hw hla l0 l1 l2 l4 k)
end LL7
