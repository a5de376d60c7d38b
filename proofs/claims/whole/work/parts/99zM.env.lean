/-! ===== what the law's start gives: classes, constants, statics ===== -/
def zfl : List Cond := flatC (Jvm.Cond.and given_1 narrow_1)
def zf_k (j : Nat) : Nat := [44, 153, 155, 157, 159, 161, 163].getD j 0
def zf_m (j : Nat) : Nat := [120, 132, 134, 135, 137, 139, 141].getD j 0
def zf_P (j : Nat) : Nat := [48, 57, 65, 75, 87, 99, 112].getD j 0
def zf_E (j : Nat) : Nat := [135, 150, 167, 186, 205, 225, 246].getD j 0
def zf_S (j : Nat) : Nat := [9, 18, 27].getD j 0
abbrev zf_t (j : Nat) : Term := Term.string RX3 (zf_k j)
set_option maxRecDepth 100000 in
theorem zf_1 : ∀ j, j < 7 → zfl[zf_P j]? = some (.exactly (zf_t j) "java/lang/String") ∧ zfl[zf_P j + 1]? = some (.eq ((zf_t j).field "java/lang/String" "coder" "B") (.int 0)) ∧ zfl[zf_P j + 2]? = some (.arrayOf ((zf_t j).field "java/lang/String" "value" "[B") .byte) ∧ zfl[zf_P j + 3]? = some (.eq ((zf_t j).field "java/lang/String" "value" "[B").length (.int (Int32.ofNat (z_sl.getD j 0)))) ∧ zfl[zf_E j]? = some (.eq (zf_t j) (.string RX9 (zf_m j))) ∧ z_sl.getD j 0 < 6 := by decide +kernel
set_option maxRecDepth 100000 in
theorem zf_2 : ∀ j, j < 7 → ∀ i, i < 5 → i < z_sl.getD j 0 → zfl[zf_P j + 4 + i]? = some (.eq (((zf_t j).field "java/lang/String" "value" "[B").elem (.int (Int32.ofNat i))) (.int ((z_sb.getD j []).getD i 0))) := by decide +kernel
set_option maxRecDepth 100000 in
theorem zf_3 : ∀ j, j < 7 → ∀ i, i < j → zfl[zf_P j + 4 + z_sl.getD j 0 + i]? = some (.not (.eq (zf_t i) (zf_t j))) := by decide +kernel
set_option maxRecDepth 100000 in
theorem zf_4 : ∀ j, j < 3 → zfl[zf_S j + 1]? = some (.arrayOf (.static RX3 (z_sn j) "[I") .int) ∧ zfl[zf_S j + 2]? = some (.eq (Term.length (.static RX3 (z_sn j) "[I")) (.int (Int32.ofNat 6))) ∧ lw_tbl[690 + 2 * j]? = some (.laysStatic RX3 (z_sn j) "[I") := by decide +kernel
set_option maxRecDepth 100000 in
theorem zf_5 : ∀ j, j < 3 → ∀ i, i < 6 → zfl[zf_S j + 3 + i]? = some (.eq (Term.elem (.static RX3 (z_sn j) "[I") (.int (Int32.ofNat i))) (.int (z_sv j i))) := by decide +kernel
set_option maxRecDepth 100000 in
theorem zf_6 : (zfl[4]? = some (.eq (.static RJ0 "COMPACT_STRINGS" "Z") (.int 1)) ∧ zfl[5]? = some (.isRef (.static RJ3 "SIOOBE_FORMATTER" "Ljava/util/function/BiFunction;")) ∧ zfl[36]? = some (.isRef (.static Bundle.tN "UNASSIGNED_STACK" Bundle.steD)) ∧ zfl[37]? = some (.isRef (.static Bundle.tN "SUPPRESSED_SENTINEL" Bundle.listD))) ∧ (lw_tbl[126]? = some (.initialized RX3) ∧ lw_tbl[134]? = some (.initialized RJ0) ∧ lw_tbl[136]? = some (.initialized RJ3) ∧ lw_tbl[141]? = some (.initialized Bundle.tN)) ∧ (lw_tbl[617]? = some (.laysStatic RJ0 "COMPACT_STRINGS" "Z") ∧ lw_tbl[633]? = some (.laysStatic RJ3 "SIOOBE_FORMATTER" "Ljava/util/function/BiFunction;") ∧ lw_tbl[1322]? = some (.laysStatic Bundle.tN "UNASSIGNED_STACK" Bundle.steD) ∧ lw_tbl[1324]? = some (.laysStatic Bundle.tN "SUPPRESSED_SENTINEL" Bundle.listD)) := by decide +kernel
theorem zf_7 : (lw_tbl[169]? = some (.arrayClass .int) ∧ lw_tbl[711]? = some (.arrayClass .byte) ∧ lw_tbl[1949]? = some (.arrayClass .long)) ∧ lw_tbl[259]? = some (.arrayOver (.array .int)) ∧ lw_tbl[331]? = some (.arrayOver (.object RX4)) := by decide +kernel
theorem zf_8 : lw_tbl[1298]? = some (.declares ⟨"java/lang/RuntimeException", "<init>", "()V"⟩) ∧ lw_tbl[1300]? = some (.declares ⟨"java/lang/Exception", "<init>", "()V"⟩) ∧ lw_tbl[1302]? = some (.declares ⟨"java/lang/Throwable", "<init>", "()V"⟩) ∧ lw_tbl[1297]? = some (.castable zxE zxE) := ⟨by decide +kernel, by decide +kernel, by decide +kernel, by decide +kernel⟩
/-- where the texts lie in the pools: Reader's by zf_k, the reference's by zf_m -/
theorem zf_9 : ∀ c, c < 12 → ∀ q ∈ z_SL c, (c = 3 ∧ q.1 = zf_k q.2.1) ∨ (c = 9 ∧ q.1 = zf_m q.2.1) := by decide +kernel
theorem zf_10 : z_cn 3 = RX3 ∧ z_cn 9 = RX9 := by decide +kernel
theorem zf_11 : vwCl.length = 10 := by decide +kernel
section XX5
variable {args : Array Value} {s : State}
theorem zl_xe (hts : ∀ w ∈ lw_tbl, w.before args s = true) (hf : ∀ w ∈ zfl, w.before args s = true) : zXe s.heap.size s s.heap := by
  have hA : ∀ a : Nat, a < s.heap.size → ¬ zB0 s.heap.size a := fun a h => Nat.not_le.mpr h
  obtain ⟨⟨-, -, f3, f4⟩, ⟨-, -, -, t4⟩, -, -, u3, u4⟩ := zf_6
  have at_ : ∀ {w : Cond} {i : Nat}, lw_tbl[i]? = some w → w.before args s = true := fun h => hts _ (List.mem_of_getElem? h)
  have af : ∀ {w : Cond} {i : Nat}, zfl[i]? = some w → w.before args s = true := fun h => hf _ (List.mem_of_getElem? h)
  refine ⟨vx_Zqof (at_ u3) (at_ t4) (af f3) hA, vx_Zqof (at_ u4) (at_ t4) (af f4) hA, fun w hw => ?_⟩
  refine va_Nw.of (zx_badt w hw) (A := args) ?_
  rcases List.mem_cons.mp hw with rfl | hw
  · exact at_ zf_8.1
  rcases List.mem_cons.mp hw with rfl | hw
  · exact at_ zf_8.2.1
  rcases List.mem_cons.mp hw with rfl | hw
  · exact at_ zf_8.2.2.1
  rcases List.mem_cons.mp hw with rfl | hw
  · exact at_ zf_8.2.2.2
  cases hw
theorem zl_arr (hts : ∀ w ∈ lw_tbl, w.before args s = true) {ty : FieldType} {i : Nat} (h : lw_tbl[i]? = some (.arrayClass ty)) : ∃ cA, ArrOfT s cA ty ∧ s.vm.findClass ("[" ++ ty.toString) = some cA := by
  obtain ⟨c, k, comp, h1, h2, h3⟩ := Cond.arrayClass_spec (hts _ (List.mem_of_getElem? h))
  exact ⟨c, fun n z => ⟨fun k h => (by cases h), k, h2, comp, h3⟩, h1⟩
theorem zl_env (hts : ∀ w ∈ lw_tbl, w.before args s = true) (hf : ∀ w ∈ zfl, w.before args s = true) : ∃ (D : va_G) (tc : Nat → ClassId) (ad0 : Nat → Nat), zEnv s.heap.size D tc ad0 s s.heap := by
  have hA : ∀ a : Nat, a < s.heap.size → ¬ zB0 s.heap.size a := fun a h => Nat.not_le.mpr h
  have at_ : ∀ {w : Cond} {i : Nat}, lw_tbl[i]? = some w → w.before args s = true := fun h => hts _ (List.mem_of_getElem? h)
  have af : ∀ {w : Cond} {i : Nat}, zfl[i]? = some w → w.before args s = true := fun h => hf _ (List.mem_of_getElem? h)
  obtain ⟨⟨f1, f2, -, -⟩, ⟨t1, t2, t3, -⟩, u1, u2, -, -⟩ := zf_6
  have hKn : ∀ k, k < 10 → ∃ (cC : ClassId) (iS : Nat → Nat), u_Kn s (z_cn k) (z_T k) (z_N k) cC iS := fun k hk => u_known hts (fun w hw => by
    rw [zlay k hk] at hw
    obtain ⟨j, -, hj⟩ := List.mem_filterMap.mp hw
    exact List.mem_of_getElem? hj) (at_ (zins_ok k hk))
  obtain ⟨dC, dI, hD⟩ : ∃ (dC : Nat → ClassId) (dI : Nat → Nat → Nat), ∀ k, k < 10 → u_Kn s (z_cn k) (z_T k) (z_N k) (dC k) (dI k) := by
    refine ⟨fun k => if h : k < 10 then Classical.choose (hKn k h) else Classical.choose (hKn 0 (by decide)), fun k => if h : k < 10 then Classical.choose (Classical.choose_spec (hKn k h)) else fun _ => 0, fun k hk => ?_⟩
    simp only [dif_pos hk]
    exact Classical.choose_spec (Classical.choose_spec (hKn k hk))
  obtain ⟨cI, aI, nI_⟩ := zl_arr hts zf_7.1.1
  obtain ⟨cB, aB, nB⟩ := zl_arr hts zf_7.1.2.1
  obtain ⟨comp1, cII, k1, -, g1, g2, nII⟩ := Cond.arrayOver_specA (at_ zf_7.2.1)
  have aII : ArrOfT s cII (.array .int) := fun n z => ⟨fun k h => (by cases h), k1, g1, comp1, g2⟩
  obtain ⟨comp2, cS, k2, m1, -, m2, m3, m4⟩ := Cond.arrayOver_spec (at_ zf_7.2.2)
  have aS : ArrOfT s cS (.object RX4) := fun n z => ⟨fun k h => (by cases h), k2, m2, comp2, m3⟩
  obtain ⟨adK, adV, hS, hev⟩ := vk_Sof (args := args) (s := s) (N := 7) (tm := zf_t) (len := z_sl) (byt := z_sb) (A := zB0 s.heap.size) (fun i hi => Nat.lt_trans (zf_1 i hi).2.2.2.2.2 (by decide)) (fun i hi => af (zf_1 i hi).1) (fun i hi => af (zf_1 i hi).2.1) (fun i hi => af (zf_1 i hi).2.2.1) (fun i hi => af (zf_1 i hi).2.2.2.1)
    (fun i hi j hj => af (zf_2 i hi j (by have := (zf_1 i hi).2.2.2.2.2; omega) hj)) (fun i j hi hj hne => by
      rcases Nat.lt_or_gt_of_ne hne with h | h
      · exact Or.inl (af (zf_3 j hj i h))
      · exact Or.inr (af (zf_3 i hi j h))) hA
  have hst : ∀ j, j < 3 → ∃ t : Nat, (Term.static RX3 (z_sn j) "[I").eval args s none [] s = some (.ref t) ∧ va_T .int t 6 (fun i => .int (z_sv j i)) (zB0 s.heap.size) s s.heap := fun j hj =>
    va_Tof (by decide) (af (zf_4 j hj).1) (va_eqt (af (zf_4 j hj).2.1)) (fun i hi => va_eqt (af (zf_5 j hj i hi))) hA
  obtain ⟨t0, p0⟩ := hst 0 (by decide)
  obtain ⟨t1', p1⟩ := hst 1 (by decide)
  obtain ⟨t2', p2⟩ := hst 2 (by decide)
  obtain ⟨ad0, ae, ar⟩ : ∃ ad0 : Nat → Nat, (∀ j, j < 7 → ad0 (1000 + j) = adK j) ∧ ∀ j, j < 3 → (Term.static RX3 (z_sn j) "[I").eval args s none [] s = some (.ref (ad0 (1010 + j))) ∧ va_T .int (ad0 (1010 + j)) 6 (fun i => .int (z_sv j i)) (zB0 s.heap.size) s s.heap := by
    refine ⟨fun a => if a = 1010 then t0 else if a = 1011 then t1' else if a = 1012 then t2' else adK (a - 1000), fun j hj => ?_, fun j hj => ?_⟩
    · show (if 1000 + j = 1010 then t0 else if 1000 + j = 1011 then t1' else if 1000 + j = 1012 then t2' else adK (1000 + j - 1000)) = adK j
      rw [if_neg (by omega), if_neg (by omega), if_neg (by omega)]
      exact congrArg adK (by omega)
    · have : j = 0 ∨ j = 1 ∨ j = 2 := by omega
      rcases this with rfl | rfl | rfl
      · exact p0
      · exact p1
      · exact p2
  refine ⟨(dC, dI), fun k => if k = 20 then cI else if k = 21 then cB else if k = 22 then cII else cS, ad0, ?_⟩
  refine ⟨⟨fun c q hq => ?_, fun k q hq => ?_⟩, ⟨adV, ?_⟩, fun c hc q hq => ?_, fun c hc q hq h1 => ?_, fun j hj => ?_, va_AO.of (at_ zf_7.2.2), zAO_vm rfl (at_ zf_7.2.1), ?_, ?_⟩
  · have hc : c < 10 := by
      rcases Nat.lt_or_ge c 10 with w | w
      · exact w
      · rw [List.getElem?_eq_none (by rw [zf_11]; exact w)] at hq; cases hq
    rw [zvw_ok c hc] at hq
    cases hq
    exact hD c hc
  · match k, hq with
    | 0, hq => cases hq; exact ⟨aI, nI_⟩
    | 1, hq => cases hq; exact ⟨aB, nB⟩
    | 2, hq => cases hq; exact ⟨aII, nII⟩
    | 3, hq => cases hq; exact ⟨aS, k2, comp2, m2, m3, m1, m4⟩
    | k + 4, hq => cases hq
  · refine ⟨fun i hi => ?_, fun i j hi hj h => ?_⟩
    · show va_O _ (ad0 (1000 + i)) _ _ _ ∧ va_OF _ _ _ _ (ad0 (1000 + i)) _ _ _ ∧ va_OF _ _ _ _ (ad0 (1000 + i)) _ _ _ ∧ _
      rw [ae i hi]
      exact hS.1 i hi
    · have h : ad0 (1000 + i) = ad0 (1000 + j) := h
      rw [ae i hi, ae j hj] at h
      exact hS.2 i j hi hj h
  · obtain ⟨g0, gw⟩ := zSL_ok c hc q hq
    refine vk_R.of (at_ gw) ?_
    rw [ae _ g0]
    rcases zf_9 c hc q hq with ⟨rfl, h2⟩ | ⟨rfl, h2⟩
    · rw [zf_10.1, h2]
      exact hev q.2.1 g0
    · rw [zf_10.2, h2]
      exact va_eqR (af (zf_1 q.2.1 g0).2.2.2.2.1) (hev q.2.1 g0)
  · obtain ⟨-, g⟩ := zML_ok c hc q hq
    rcases g with ⟨g, -⟩ | ⟨-, g⟩
    · omega
    · exact va_Nw.of rfl (at_ g)
  · exact ⟨va_Zref (at_ (zf_4 j hj).2.2) (at_ t1) (ar j hj).1 hA, (ar j hj).2⟩
  · exact va_Zof (at_ u1) (at_ t2) (va_eqi (af f1)) hA
  · exact va_Zqof (at_ u2) (at_ t3) (af f2) hA
end XX5
