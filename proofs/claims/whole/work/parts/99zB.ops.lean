/-! ===== the plain cases of the law (written by wip/whole/law.py) ===== -/
def zl_chk (pc a i1 y1 w1 i2 y2 w2 : Nat) (off : Int) : Prop := (decode code pc = .ok (.aload_n 1, 1) ∧ zl_ok (pc + 1) a ∧ decode code (pc + 1 + 6 * a) = .ok (.invokevirtual i1, 3) ∧ decode code (pc + 1 + 6 * a + 3) = .ok (.aload_n 2, 1) ∧ zl_ok (pc + 1 + 6 * a + 3 + 1) a ∧ decode code (pc + 1 + 6 * a + 3 + 1 + 6 * a) = .ok (.invokevirtual i2, 3) ∧ decode code (pc + 1 + 6 * a + 3 + 1 + 6 * a + 3) = .ok (.if_icmp .eq off, 3) ∧ ((pc + 1 + 6 * a + 3 + 1 + 6 * a + 3 : Nat) : Int) + off = ((1556 : Nat) : Int)) ∧ (lw_tbl[w1]? = some (.methodLink RL i1 (z_y y1)) ∧ lw_tbl[w2]? = some (.methodLink RL i2 (z_y y2))) ∧ (y1 < 283 ∧ z_oc y1 = 8 ∧ z_in y1 = false ∧ z_fr y1 ≤ 12 ∧ 8 + (z_ml y1 + 11) + z_lo y1 ≤ 449 ∧ z_np y1 = a + 1 ∧ a + 1 ≤ z_ml y1) ∧ (y2 < 283 ∧ z_oc y2 = 9 ∧ z_in y2 = false ∧ z_fr y2 ≤ 12 ∧ 8 + (z_ml y2 + 11) + z_lo y2 ≤ 449 ∧ z_np y2 = a + 1 ∧ a + 1 ≤ z_ml y2)
/-- feed -/
theorem zl_o0 : zl_chk 220 5 19 111 547 23 172 1478 (1268) := ⟨⟨by decide +kernel, by unfold zl_ok; decide +kernel, by decide +kernel, by decide +kernel, by unfold zl_ok; decide +kernel, by decide +kernel, by decide +kernel, by decide⟩, ⟨by decide +kernel, by decide +kernel⟩, by decide +kernel, by decide +kernel⟩
/-- end -/
theorem zl_o1 : zl_chk 293 1 24 112 558 28 173 1489 (1243) := ⟨⟨by decide +kernel, by unfold zl_ok; decide +kernel, by decide +kernel, by decide +kernel, by unfold zl_ok; decide +kernel, by decide +kernel, by decide +kernel, by decide⟩, ⟨by decide +kernel, by decide +kernel⟩, by decide +kernel, by decide +kernel⟩
/-- fault -/
theorem zl_o2 : zl_chk 318 0 29 113 562 33 188 1493 (1230) := ⟨⟨by decide +kernel, by unfold zl_ok; decide +kernel, by decide +kernel, by decide +kernel, by unfold zl_ok; decide +kernel, by decide +kernel, by decide +kernel, by decide⟩, ⟨by decide +kernel, by decide +kernel⟩, by decide +kernel, by decide +kernel⟩
/-- league -/
theorem zl_o3 : zl_chk 331 0 34 114 712 37 194 1569 (1217) := ⟨⟨by decide +kernel, by unfold zl_ok; decide +kernel, by decide +kernel, by decide +kernel, by unfold zl_ok; decide +kernel, by decide +kernel, by decide +kernel, by decide⟩, ⟨by decide +kernel, by decide +kernel⟩, by decide +kernel, by decide +kernel⟩
/-- rule -/
theorem zl_o4 : zl_chk 344 1 38 115 779 42 196 1596 (1192) := ⟨⟨by decide +kernel, by unfold zl_ok; decide +kernel, by decide +kernel, by decide +kernel, by unfold zl_ok; decide +kernel, by decide +kernel, by decide +kernel, by decide⟩, ⟨by decide +kernel, by decide +kernel⟩, by decide +kernel, by decide +kernel⟩
/-- points -/
theorem zl_o6 : zl_chk 437 2 52 117 784 55 204 1627 (1087) := ⟨⟨by decide +kernel, by unfold zl_ok; decide +kernel, by decide +kernel, by decide +kernel, by unfold zl_ok; decide +kernel, by decide +kernel, by decide +kernel, by decide⟩, ⟨by decide +kernel, by decide +kernel⟩, by decide +kernel, by decide +kernel⟩
/-- now -/
theorem zl_o7 : zl_chk 474 1 56 118 804 59 206 1635 (1062) := ⟨⟨by decide +kernel, by unfold zl_ok; decide +kernel, by decide +kernel, by decide +kernel, by unfold zl_ok; decide +kernel, by decide +kernel, by decide +kernel, by decide⟩, ⟨by decide +kernel, by decide +kernel⟩, by decide +kernel, by decide +kernel⟩
/-- begin -/
theorem zl_o8 : zl_chk 499 1 60 119 820 63 212 1643 (1037) := ⟨⟨by decide +kernel, by unfold zl_ok; decide +kernel, by decide +kernel, by decide +kernel, by unfold zl_ok; decide +kernel, by decide +kernel, by decide +kernel, by decide⟩, ⟨by decide +kernel, by decide +kernel⟩, by decide +kernel, by decide +kernel⟩
/-- swap -/
theorem zl_o9 : zl_chk 524 2 64 121 860 67 215 1670 (1000) := ⟨⟨by decide +kernel, by unfold zl_ok; decide +kernel, by decide +kernel, by decide +kernel, by unfold zl_ok; decide +kernel, by decide +kernel, by decide +kernel, by decide⟩, ⟨by decide +kernel, by decide +kernel⟩, by decide +kernel, by decide +kernel⟩
/-- captain -/
theorem zl_o10 : zl_chk 561 1 68 123 882 71 216 1682 (975) := ⟨⟨by decide +kernel, by unfold zl_ok; decide +kernel, by decide +kernel, by decide +kernel, by unfold zl_ok; decide +kernel, by decide +kernel, by decide +kernel, by decide⟩, ⟨by decide +kernel, by decide +kernel⟩, by decide +kernel, by decide +kernel⟩
/-- chip -/
theorem zl_o11 : zl_chk 586 1 72 124 886 75 217 1686 (950) := ⟨⟨by decide +kernel, by unfold zl_ok; decide +kernel, by decide +kernel, by decide +kernel, by unfold zl_ok; decide +kernel, by decide +kernel, by decide +kernel, by decide⟩, ⟨by decide +kernel, by decide +kernel⟩, by decide +kernel, by decide +kernel⟩
/-- loan -/
theorem zl_o12 : zl_chk 611 1 76 125 899 79 221 1690 (925) := ⟨⟨by decide +kernel, by unfold zl_ok; decide +kernel, by decide +kernel, by decide +kernel, by unfold zl_ok; decide +kernel, by decide +kernel, by decide +kernel, by decide⟩, ⟨by decide +kernel, by decide +kernel⟩, by decide +kernel, by decide +kernel⟩
/-- week -/
theorem zl_o13 : zl_chk 636 0 80 127 911 83 224 1698 (912) := ⟨⟨by decide +kernel, by unfold zl_ok; decide +kernel, by decide +kernel, by decide +kernel, by unfold zl_ok; decide +kernel, by decide +kernel, by decide +kernel, by decide⟩, ⟨by decide +kernel, by decide +kernel⟩, by decide +kernel, by decide +kernel⟩
/-- tale -/
theorem zl_o14 : zl_chk 649 2 84 128 940 87 226 1719 (875) := ⟨⟨by decide +kernel, by unfold zl_ok; decide +kernel, by decide +kernel, by decide +kernel, by unfold zl_ok; decide +kernel, by decide +kernel, by decide +kernel, by decide⟩, ⟨by decide +kernel, by decide +kernel⟩, by decide +kernel, by decide +kernel⟩
/-- team -/
theorem zl_o15 : zl_chk 686 1 88 129 948 91 227 1723 (850) := ⟨⟨by decide +kernel, by unfold zl_ok; decide +kernel, by decide +kernel, by decide +kernel, by unfold zl_ok; decide +kernel, by decide +kernel, by decide +kernel, by decide⟩, ⟨by decide +kernel, by decide +kernel⟩, by decide +kernel, by decide +kernel⟩
/-- price -/
theorem zl_o16 : zl_chk 711 1 92 130 954 95 228 1727 (825) := ⟨⟨by decide +kernel, by unfold zl_ok; decide +kernel, by decide +kernel, by decide +kernel, by unfold zl_ok; decide +kernel, by decide +kernel, by decide +kernel, by decide⟩, ⟨by decide +kernel, by decide +kernel⟩, by decide +kernel, by decide +kernel⟩
/-- teams -/
theorem zl_o17 : zl_chk 736 1 96 131 958 99 229 1731 (800) := ⟨⟨by decide +kernel, by unfold zl_ok; decide +kernel, by decide +kernel, by decide +kernel, by unfold zl_ok; decide +kernel, by decide +kernel, by decide +kernel, by decide⟩, ⟨by decide +kernel, by decide +kernel⟩, by decide +kernel, by decide +kernel⟩
/-- best -/
theorem zl_o18 : zl_chk 761 3 100 133 974 104 232 1739 (751) := ⟨⟨by decide +kernel, by unfold zl_ok; decide +kernel, by decide +kernel, by decide +kernel, by unfold zl_ok; decide +kernel, by decide +kernel, by decide +kernel, by decide⟩, ⟨by decide +kernel, by decide +kernel⟩, by decide +kernel, by decide +kernel⟩
/-- must -/
theorem zl_o19 : zl_chk 810 2 105 134 995 108 233 1752 (714) := ⟨⟨by decide +kernel, by unfold zl_ok; decide +kernel, by decide +kernel, by decide +kernel, by unfold zl_ok; decide +kernel, by decide +kernel, by decide +kernel, by decide⟩, ⟨by decide +kernel, by decide +kernel⟩, by decide +kernel, by decide +kernel⟩
/-- least -/
theorem zl_o20 : zl_chk 847 2 109 136 1003 112 234 1756 (677) := ⟨⟨by decide +kernel, by unfold zl_ok; decide +kernel, by decide +kernel, by decide +kernel, by unfold zl_ok; decide +kernel, by decide +kernel, by decide +kernel, by decide⟩, ⟨by decide +kernel, by decide +kernel⟩, by decide +kernel, by decide +kernel⟩
/-- outdone -/
theorem zl_o21 : zl_chk 884 1 113 141 1044 116 238 1760 (652) := ⟨⟨by decide +kernel, by unfold zl_ok; decide +kernel, by decide +kernel, by decide +kernel, by unfold zl_ok; decide +kernel, by decide +kernel, by decide +kernel, by decide⟩, ⟨by decide +kernel, by decide +kernel⟩, by decide +kernel, by decide +kernel⟩
/-- bestSwap -/
theorem zl_o22 : zl_chk 909 1 117 145 1101 120 239 1776 (627) := ⟨⟨by decide +kernel, by unfold zl_ok; decide +kernel, by decide +kernel, by decide +kernel, by unfold zl_ok; decide +kernel, by decide +kernel, by decide +kernel, by decide⟩, ⟨by decide +kernel, by decide +kernel⟩, by decide +kernel, by decide +kernel⟩
/-- plan -/
theorem zl_o23 : zl_chk 934 1 121 147 1140 124 262 1829 (602) := ⟨⟨by decide +kernel, by unfold zl_ok; decide +kernel, by decide +kernel, by decide +kernel, by unfold zl_ok; decide +kernel, by decide +kernel, by decide +kernel, by decide⟩, ⟨by decide +kernel, by decide +kernel⟩, by decide +kernel, by decide +kernel⟩
/-- priceThen -/
theorem zl_o24 : zl_chk 959 2 125 149 1235 128 241 1780 (565) := ⟨⟨by decide +kernel, by unfold zl_ok; decide +kernel, by decide +kernel, by decide +kernel, by unfold zl_ok; decide +kernel, by decide +kernel, by decide +kernel, by decide⟩, ⟨by decide +kernel, by decide +kernel⟩, by decide +kernel, by decide +kernel⟩
/-- worthThen -/
theorem zl_o25 : zl_chk 996 1 129 150 1239 132 242 1788 (540) := ⟨⟨by decide +kernel, by unfold zl_ok; decide +kernel, by decide +kernel, by decide +kernel, by unfold zl_ok; decide +kernel, by decide +kernel, by decide +kernel, by decide⟩, ⟨by decide +kernel, by decide +kernel⟩, by decide +kernel, by decide +kernel⟩
/-- steady -/
theorem zl_o26 : zl_chk 1021 2 133 138 1022 136 245 1796 (503) := ⟨⟨by decide +kernel, by unfold zl_ok; decide +kernel, by decide +kernel, by decide +kernel, by unfold zl_ok; decide +kernel, by decide +kernel, by decide +kernel, by decide⟩, ⟨by decide +kernel, by decide +kernel⟩, by decide +kernel, by decide +kernel⟩
/-- stairs -/
theorem zl_o27 : zl_chk 1058 3 137 137 1011 140 247 1804 (454) := ⟨⟨by decide +kernel, by unfold zl_ok; decide +kernel, by decide +kernel, by decide +kernel, by unfold zl_ok; decide +kernel, by decide +kernel, by decide +kernel, by decide⟩, ⟨by decide +kernel, by decide +kernel⟩, by decide +kernel, by decide +kernel⟩
/-- held -/
theorem zl_o28 : zl_chk 1107 3 141 132 970 144 248 1812 (405) := ⟨⟨by decide +kernel, by unfold zl_ok; decide +kernel, by decide +kernel, by decide +kernel, by unfold zl_ok; decide +kernel, by decide +kernel, by decide +kernel, by decide⟩, ⟨by decide +kernel, by decide +kernel⟩, by decide +kernel, by decide +kernel⟩
/-- twoSwaps -/
theorem zl_o29 : zl_chk 1156 1 145 146 1128 148 251 1820 (380) := ⟨⟨by decide +kernel, by unfold zl_ok; decide +kernel, by decide +kernel, by decide +kernel, by unfold zl_ok; decide +kernel, by decide +kernel, by decide +kernel, by decide⟩, ⟨by decide +kernel, by decide +kernel⟩, by decide +kernel, by decide +kernel⟩
/-- apart -/
theorem zl_o30 : zl_chk 1181 4 149 139 1035 153 249 1816 (319) := ⟨⟨by decide +kernel, by unfold zl_ok; decide +kernel, by decide +kernel, by decide +kernel, by unfold zl_ok; decide +kernel, by decide +kernel, by decide +kernel, by decide⟩, ⟨by decide +kernel, by decide +kernel⟩, by decide +kernel, by decide +kernel⟩
/-- regret -/
theorem zl_o31 : zl_chk 1242 1 154 140 1040 157 243 1792 (294) := ⟨⟨by decide +kernel, by unfold zl_ok; decide +kernel, by decide +kernel, by decide +kernel, by unfold zl_ok; decide +kernel, by decide +kernel, by decide +kernel, by decide⟩, ⟨by decide +kernel, by decide +kernel⟩, by decide +kernel, by decide +kernel⟩
/-- weight -/
theorem zl_o34 : zl_chk 1405 2 169 142 1056 172 270 1901 (119) := ⟨⟨by decide +kernel, by unfold zl_ok; decide +kernel, by decide +kernel, by decide +kernel, by unfold zl_ok; decide +kernel, by decide +kernel, by decide +kernel, by decide⟩, ⟨by decide +kernel, by decide +kernel⟩, by decide +kernel, by decide +kernel⟩
/-- undo -/
theorem zl_o35 : zl_chk 1442 0 173 153 1262 176 271 1908 (106) := ⟨⟨by decide +kernel, by unfold zl_ok; decide +kernel, by decide +kernel, by decide +kernel, by unfold zl_ok; decide +kernel, by decide +kernel, by decide +kernel, by decide⟩, ⟨by decide +kernel, by decide +kernel⟩, by decide +kernel, by decide +kernel⟩
/-- image -/
theorem zl_o36 : zl_chk 1455 0 177 154 1270 180 272 1912 (93) := ⟨⟨by decide +kernel, by unfold zl_ok; decide +kernel, by decide +kernel, by decide +kernel, by unfold zl_ok; decide +kernel, by decide +kernel, by decide +kernel, by decide⟩, ⟨by decide +kernel, by decide +kernel⟩, by decide +kernel, by decide +kernel⟩
/-- back -/
theorem zl_o37 : zl_chk 1468 0 181 155 1275 184 273 1916 (80) := ⟨⟨by decide +kernel, by unfold zl_ok; decide +kernel, by decide +kernel, by decide +kernel, by unfold zl_ok; decide +kernel, by decide +kernel, by decide +kernel, by decide⟩, ⟨by decide +kernel, by decide +kernel⟩, by decide +kernel, by decide +kernel⟩
/-- status -/
theorem zl_o38 : zl_chk 1481 1 185 156 1279 188 274 1920 (55) := ⟨⟨by decide +kernel, by unfold zl_ok; decide +kernel, by decide +kernel, by decide +kernel, by unfold zl_ok; decide +kernel, by decide +kernel, by decide +kernel, by decide⟩, ⟨by decide +kernel, by decide +kernel⟩, by decide +kernel, by decide +kernel⟩
/-- most -/
theorem zl_o39 : zl_chk 1506 1 189 144 1070 192 279 1924 (30) := ⟨⟨by decide +kernel, by unfold zl_ok; decide +kernel, by decide +kernel, by decide +kernel, by unfold zl_ok; decide +kernel, by decide +kernel, by decide +kernel, by decide⟩, ⟨by decide +kernel, by decide +kernel⟩, by decide +kernel, by decide +kernel⟩
/-- count -/
theorem zl_o40 : zl_chk 1531 1 193 157 1283 196 280 1944 (5) := ⟨⟨by decide +kernel, by unfold zl_ok; decide +kernel, by decide +kernel, by decide +kernel, by unfold zl_ok; decide +kernel, by decide +kernel, by decide +kernel, by decide⟩, ⟨by decide +kernel, by decide +kernel⟩, by decide +kernel, by decide +kernel⟩
