set_option maxRecDepth 100000 in
theorem zm_max1 : lw_tbl[731]? = some (.static Lib.Math.max.name) := by decide +kernel
set_option maxRecDepth 100000 in
theorem zm_max2 : lw_tbl[732]? = some (.code Lib.Math.max.name Lib.Math.max.code 2 (some .int)) := rfl
set_option maxRecDepth 100000 in
theorem zm_min1 : lw_tbl[728]? = some (.static Lib.Math.min.name) := by decide +kernel
set_option maxRecDepth 100000 in
theorem zm_min2 : lw_tbl[729]? = some (.code Lib.Math.min.name Lib.Math.min.code 2 (some .int)) := rfl
set_option maxRecDepth 100000 in
theorem zm_abs1 : lw_tbl[1065]? = some (.static Lib.Math.abs.name) := by decide +kernel
set_option maxRecDepth 100000 in
theorem zm_abs2 : lw_tbl[1066]? = some (.code Lib.Math.abs.name Lib.Math.abs.code 1 (some .int)) := rfl
set_option maxRecDepth 100000 in
theorem zm_ini : lw_tbl[139]? = some (.initialized "java/lang/Math") := by decide +kernel
set_option maxRecDepth 100000 in
theorem zm_obj1 : lw_tbl[152]? = some (.instanceMethod Lib.objectInit) := by decide +kernel
set_option maxRecDepth 100000 in
theorem zm_obj2 : lw_tbl[153]? = some (.code Lib.objectInit ⟨#[0xb1]⟩ 1 none) := rfl
set_option maxRecDepth 100000 in
theorem zm_cp1 : lw_tbl[852]? = some (.native arraycopyName) := by decide +kernel
set_option maxRecDepth 100000 in
theorem zm_cp2 : lw_tbl[851]? = some (.static arraycopyName) := by decide +kernel
set_option maxRecDepth 100000 in
theorem zm_cp3 : lw_tbl[145]? = some (.initialized "java/lang/System") := by decide +kernel
/-! ===== the calls, and what the JDK does by itself ===== -/
section ZK1
variable {p : Program} {l : Launch} {e : Env} {Rm : Room} {s : State} {mid : MethodId} {args : Array Value} {below : List Frame} {meth : Method} {c : Code} {Q : State → Prop}
variable {base : Nat} {D : va_G} {tc : Nat → ClassId} {A : Nat → Prop} {ad0 : Nat → Nat} {n0 m : Nat}
variable {ls : ZL} {st : List Value} {I : ZI} {R : ZR} {n pc : Nat}
theorem zcb (X : zCx p s mid args meth c m) {i y : Nat} {n' : Nat} (hy : y < 283) (hl : Cond.methodLink (z_cn (z_own m)) i (z_y y) ∈ zW m) (hro : zroom m y = true) (hRf : z_fr m ≤ Rm.frames) (hRl : z_lo m ≤ Rm.locals) {k : Nat} (hk : k = z_np y - (bif Nat.beq (z_oc y) 50 then 0 else 1)) :
    CallB Rm s args (z_cn (z_own m)) i (z_y y) (z_by y) (z_ml y) (z_ret y) (zW y) (zrm2 y n n') (n' - n) (zs n' - zs n) k := by
  obtain ⟨h1, h2, h3, h4, h5, h6, h7⟩ := zy_ok y hy
  obtain ⟨r1, r2⟩ := zroom_spec hro
  refine callB_of k X.2.2.2.2.2.1 (zW_good m hy) rfl rfl rfl (X.2.2.2.2.2.1 _ (zW_at (zq2_ok y hy) rfl)) (X.2.2.2.2.2.1 _ hl) ⟨h3, h4, by rw [hk]; exact h5⟩ ⟨?_, ?_⟩
  · show z_fr y + 1 ≤ Rm.frames
    omega
  · show 8 + (z_ml y + 11) + z_lo y ≤ Rm.locals
    omega
theorem zmap_rev (ad : Nat → Nat) (vs st : List Value) : (vs.reverse ++ st).map (ztr ad) = (vs.map (ztr ad)).reverse ++ st.map (ztr ad) := by rw [List.map_append, List.map_reverse]
theorem za_callV (X : zCx p s mid args meth c m) (E : zEnv base D tc ad0 s s.heap) (hAb : ∀ q, A q → base ≤ q) (hA : ∀ q, s.heap.size ≤ q → A q) (hb : base ≤ s.heap.size) (hRf : z_fr m ≤ Rm.frames) (hRl : z_lo m ≤ Rm.locals) {i y o : Nat} {vs : List Value} {r : Option Value × ZI × ZR × Nat}
    (hd : decode (z_by m) pc = .ok (.invokevirtual i, 3)) (hM : zhM (z_own m) i y = true) (hoc : z_oc y ≠ 50) (hin : z_in y = false) (hro : zroom m y = true) (hlen : vs.length + 1 = z_np y) (hw : zwords st ≤ 8) (hi : zis n o (z_oc y) = true) (hr : n ≤ r.2.2.2) (hRc : r.2.2.2 - n0 ≤ Rm.cells) (hRs : zs r.2.2.2 - zs n0 ≤ Rm.slots) (hn0 : n0 ≤ n)
    (hmet : zMet l base D tc y (.ref o :: vs) I R n r)
    (k : zGo p l e Rm s mid args below meth c Q D tc A ad0 n0 m (pc + 3) ls (r.1.toList ++ st) r.2.1 r.2.2.1 r.2.2.2) : zGo p l e Rm s mid args below meth c Q D tc A ad0 n0 m pc ls ((.ref o :: vs).reverse ++ st) I R n := by
  intro ad H locs la S0
  obtain ⟨hy, hlk⟩ := zhM_spec X.2.2.2.2.2.2.2.2 hM
  have hpop : ∀ v ∈ (.ref o :: vs).reverse ++ st, zwv n v := S0.2.2.2.2.1
  have S : zSt D tc A s ad0 n0 m ad ls st I R n H locs la := by
    obtain ⟨h1, h2, h3, h4, h5, h6⟩ := S0
    exact ⟨h1, h2, h3, h4, fun v hv => h5 v (List.mem_append_right _ hv), h6⟩
  have hvs : ∀ v ∈ (Value.ref o :: vs), zwv n v := fun v hv => hpop v (List.mem_append_left _ (List.mem_reverse.mpr hv))
  have hME := hmet S.2.2.2.1 hvs ad H.size
  obtain ⟨oc1, oc2, oc3⟩ := (zoc_ok y hy).resolve_left hoc
  obtain ⟨y1, y2, y3, y4, y5, y6, y7⟩ := zy_ok y hy
  obtain ⟨ho, hk⟩ := zis_in hi (by omega)
  have he := zwl_get (tc := tc) (ad := ad) (I := I) (R := R) ho
  rw [zent_obj hk oc1] at he
  have hbq : Nat.beq (z_oc y) 50 = false := by
    cases hh : Nat.beq (z_oc y) 50 with
    | false => rfl
    | true => exact absurd (Nat.eq_of_beq_eq_true hh) hoc
  have hq1 := zq1_ok y hy
  rw [hbq] at hq1
  have hinst : (Cond.instanceMethod (z_y y)).before args s = true := X.2.2.2.2.2.1 _ (zW_at hq1 rfl)
  have hsel : (Cond.selects (z_y y).cls (z_y y) (z_y y)).before args s = true := by
    rcases zq3_ok y hy with h | h | h
    · exact absurd h hoc
    · rw [hin] at h; cases h
    · exact X.2.2.2.2.2.1 _ (zW_at h rfl)
  have hzs := zs_le hr
  have hz0 := zs_le hn0
  have hpre : PreV s H (z_y y).cls (ad o) (zPc base D tc ad I R n H.size (.ref o :: vs)) (vs.map (ztr ad)) :=
    ⟨zPc_blind, by have := va_recv E.1 S.1 (zvw_ok _ oc1) he; rw [y2, ← oc2]; exact this, zPc_at E hAb hb S (.ref o :: vs)⟩
  have hnum : (vs.map (ztr ad)).length = z_np y - (bif Nat.beq (z_oc y) 50 then 0 else 1) := by
    rw [hbq, List.length_map]
    show vs.length = z_np y - 1
    omega
  have hstk : ((.ref o :: vs).reverse ++ st).map (ztr ad) = (vs.map (ztr ad)).reverse ++ .ref (ad o) :: st.map (ztr ad) := by
    rw [zmap_rev, List.map_cons, List.reverse_cons, List.append_assoc]
    rfl
  have hrest : 2 * (F0 mid pc la (((.ref o :: vs).reverse ++ st).map (ztr ad))).monitorRoom + ((st.map (ztr ad)).map fun v => v.category).sum ≤ 8 := lv_room (by rw [zwords_tr]; exact hw)
  rcases hlk with hlk | ⟨q, hq, q1, q2, q3⟩
  · refine zc_after hA S hr (va_runV (As := vs.map (ztr ad)) (rest := st.map (ztr ad)) ⟨X.1, X.2.1, X.2.2.2.1, X.2.2.2.2.1, X.2.2.2.2.2.1⟩ hME ⟨zcb X hy hlk hro hRf hRl hnum, hinst, hsel⟩ hpre rfl rfl S.2.2.2.2.2.2.1.1 hstk hrest hd ⟨by omega, by omega⟩) k
  · have hnw := E.2.2.2.1 (z_own m) (zy_ok m X.2.2.2.2.2.2.2.2).1 q hq q1
    rw [q2, q3] at hnw
    obtain ⟨r1, r2⟩ := zroom_spec hro
    have hcn : va_CN Rm s args (z_cn (z_own m)) i (z_y y) "SalaryLid" (z_by y) (z_ml y) (z_ret y) (zW y) (zrm2 y n r.2.2.2) (r.2.2.2 - n) (zs r.2.2.2 - zs n) (vs.map (ztr ad)).length :=
      va_cnB _ X.2.2.2.2.2.1 (zW_good m hy) rfl rfl rfl hnw (X.2.2.2.2.2.1 _ (zW_at (zq2_ok y hy) rfl)) ⟨y3, y4, by rw [hnum]; exact y5⟩ ⟨by show z_fr y + 1 ≤ Rm.frames; omega, by show 8 + (z_ml y + 11) + z_lo y ≤ Rm.locals; omega⟩
    exact zc_after hA S hr (va_runVN (As := vs.map (ztr ad)) (rest := st.map (ztr ad)) ⟨X.1, X.2.1, X.2.2.2.1, X.2.2.2.2.1, X.2.2.2.2.2.1⟩ hME ⟨hcn, hinst, hsel⟩ hpre rfl rfl S.2.2.2.2.2.2.1.1 hstk hrest hd ⟨by omega, by omega⟩) k
theorem za_callS (X : zCx p s mid args meth c m) (E : zEnv base D tc ad0 s s.heap) (hAb : ∀ q, A q → base ≤ q) (hA : ∀ q, s.heap.size ≤ q → A q) (hb : base ≤ s.heap.size) (hRf : z_fr m ≤ Rm.frames) (hRl : z_lo m ≤ Rm.locals) {i y : Nat} {vs : List Value} {r : Option Value × ZI × ZR × Nat}
    (hd : decode (z_by m) pc = .ok (.invokestatic i, 3)) (hM : zhM (z_own m) i y = true) (hoc : z_oc y = 50) (hro : zroom m y = true) (hlen : vs.length = z_np y) (hw : zwords st ≤ 8) (hr : n ≤ r.2.2.2) (hRc : r.2.2.2 - n0 ≤ Rm.cells) (hRs : zs r.2.2.2 - zs n0 ≤ Rm.slots) (hn0 : n0 ≤ n)
    (hmet : zMet l base D tc y vs I R n r)
    (k : zGo p l e Rm s mid args below meth c Q D tc A ad0 n0 m (pc + 3) ls (r.1.toList ++ st) r.2.1 r.2.2.1 r.2.2.2) : zGo p l e Rm s mid args below meth c Q D tc A ad0 n0 m pc ls (vs.reverse ++ st) I R n := by
  intro ad H locs la S0
  obtain ⟨hy, hlk⟩ := zhM_spec X.2.2.2.2.2.2.2.2 hM
  have hpop : ∀ v ∈ vs.reverse ++ st, zwv n v := S0.2.2.2.2.1
  have S : zSt D tc A s ad0 n0 m ad ls st I R n H locs la := by
    obtain ⟨h1, h2, h3, h4, h5, h6⟩ := S0
    exact ⟨h1, h2, h3, h4, fun v hv => h5 v (List.mem_append_right _ hv), h6⟩
  have hvs : ∀ v ∈ vs, zwv n v := fun v hv => hpop v (List.mem_append_left _ (List.mem_reverse.mpr hv))
  have hME := hmet S.2.2.2.1 hvs ad H.size
  obtain ⟨y1, y2, y3, y4, y5, y6, y7⟩ := zy_ok y hy
  have hbq : Nat.beq (z_oc y) 50 = true := by rw [hoc]; rfl
  have hq1 := zq1_ok y hy
  rw [hbq] at hq1
  have hstat : (Cond.static (z_y y)).before args s = true := X.2.2.2.2.2.1 _ (zW_at hq1 rfl)
  have hzs := zs_le hr
  have hz0 := zs_le hn0
  have hpre : PreS s H (zPc base D tc ad I R n H.size vs) (vs.map (ztr ad)) := ⟨zPc_blind, zPc_at E hAb hb S vs⟩
  have hnum : (vs.map (ztr ad)).length = z_np y - (bif Nat.beq (z_oc y) 50 then 0 else 1) := by
    rw [hbq, List.length_map]
    show vs.length = z_np y - 0
    omega
  have hstk : (vs.reverse ++ st).map (ztr ad) = (vs.map (ztr ad)).reverse ++ st.map (ztr ad) := zmap_rev ad vs st
  have hrest : 2 * (F0 mid pc la ((vs.reverse ++ st).map (ztr ad))).monitorRoom + ((st.map (ztr ad)).map fun v => v.category).sum ≤ 8 := lv_room (by rw [zwords_tr]; exact hw)
  rcases hlk with hlk | ⟨q, hq, q1, q2, q3⟩
  · exact zc_after hA S hr (va_runS (As := vs.map (ztr ad)) (rest := st.map (ztr ad)) ⟨X.1, X.2.1, X.2.2.2.1, X.2.2.2.2.1, X.2.2.2.2.2.1⟩ hME ⟨zcb X hy hlk hro hRf hRl hnum, hstat⟩ hpre rfl rfl S.2.2.2.2.2.2.1.1 hstk hrest hd ⟨by omega, by omega⟩) k
  · have hnw := E.2.2.2.1 (z_own m) (zy_ok m X.2.2.2.2.2.2.2.2).1 q hq q1
    rw [q2, q3] at hnw
    obtain ⟨r1, r2⟩ := zroom_spec hro
    have hcn : va_CN Rm s args (z_cn (z_own m)) i (z_y y) "SalaryLid" (z_by y) (z_ml y) (z_ret y) (zW y) (zrm2 y n r.2.2.2) (r.2.2.2 - n) (zs r.2.2.2 - zs n) (vs.map (ztr ad)).length :=
      va_cnB _ X.2.2.2.2.2.1 (zW_good m hy) rfl rfl rfl hnw (X.2.2.2.2.2.1 _ (zW_at (zq2_ok y hy) rfl)) ⟨y3, y4, by rw [hnum]; exact y5⟩ ⟨by show z_fr y + 1 ≤ Rm.frames; omega, by show 8 + (z_ml y + 11) + z_lo y ≤ Rm.locals; omega⟩
    exact zc_after hA S hr (va_runSN (As := vs.map (ztr ad)) (rest := st.map (ztr ad)) ⟨X.1, X.2.1, X.2.2.2.1, X.2.2.2.2.1, X.2.2.2.2.2.1⟩ hME ⟨hcn, hstat, trivial⟩ hpre rfl rfl S.2.2.2.2.2.2.1.1 hstk hrest hd ⟨by omega, by omega⟩) k
theorem zret_init : ∀ y, y < 283 → z_in y = true → (z_ret y).isNone = true := by decide +kernel
theorem za_callI (X : zCx p s mid args meth c m) (E : zEnv base D tc ad0 s s.heap) (hAb : ∀ q, A q → base ≤ q) (hA : ∀ q, s.heap.size ≤ q → A q) (hb : base ≤ s.heap.size) (hRf : z_fr m ≤ Rm.frames) (hRl : z_lo m ≤ Rm.locals) {i y o : Nat} {vs : List Value} {r : Option Value × ZI × ZR × Nat}
    (hd : decode (z_by m) pc = .ok (.invokespecial i, 3)) (hM : zhM (z_own m) i y = true) (hoc : z_oc y ≠ 50) (hin : z_in y = true) (hro : zroom m y = true) (hlen : vs.length + 1 = z_np y) (hw : zwords st ≤ 8) (hr : n ≤ r.2.2.2) (hRc : r.2.2.2 - n0 ≤ Rm.cells) (hRs : zs r.2.2.2 - zs n0 ≤ Rm.slots) (hn0 : n0 ≤ n)
    (hmet : zMet l base D tc y (.ref o :: vs) I R n r)
    (k : zGo p l e Rm s mid args below meth c Q D tc A ad0 n0 m (pc + 3) ls (r.1.toList ++ st) r.2.1 r.2.2.1 r.2.2.2) : zGo p l e Rm s mid args below meth c Q D tc A ad0 n0 m pc ls ((.ref o :: vs).reverse ++ st) I R n := by
  intro ad H locs la S0
  obtain ⟨hy, hlk⟩ := zhM_spec X.2.2.2.2.2.2.2.2 hM
  have hpop : ∀ v ∈ (.ref o :: vs).reverse ++ st, zwv n v := S0.2.2.2.2.1
  have S : zSt D tc A s ad0 n0 m ad ls st I R n H locs la := by
    obtain ⟨h1, h2, h3, h4, h5, h6⟩ := S0
    exact ⟨h1, h2, h3, h4, fun v hv => h5 v (List.mem_append_right _ hv), h6⟩
  have hvs : ∀ v ∈ (Value.ref o :: vs), zwv n v := fun v hv => hpop v (List.mem_append_left _ (List.mem_reverse.mpr hv))
  have hME := hmet S.2.2.2.1 hvs ad H.size
  obtain ⟨y1, y2, y3, y4, y5, y6, y7⟩ := zy_ok y hy
  have hbq : Nat.beq (z_oc y) 50 = false := by
    cases hh : Nat.beq (z_oc y) 50 with
    | false => rfl
    | true => exact absurd (Nat.eq_of_beq_eq_true hh) hoc
  have hq1 := zq1_ok y hy
  rw [hbq] at hq1
  have hinst : (Cond.instanceMethod (z_y y)).before args s = true := X.2.2.2.2.2.1 _ (zW_at hq1 rfl)
  have hyn : (z_y y).name = "<init>" := y7.mp hin
  have hrn : z_ret y = none := Option.isNone_iff_eq_none.mp (zret_init y hy hin)
  have hzs := zs_le hr
  have hz0 := zs_le hn0
  have hpre : PreS s H (zPc base D tc ad I R n H.size (.ref o :: vs)) (.ref (ad o) :: vs.map (ztr ad)) := ⟨zPc_blind, zPc_at E hAb hb S (.ref o :: vs)⟩
  have hnum : (vs.map (ztr ad)).length = z_np y - (bif Nat.beq (z_oc y) 50 then 0 else 1) := by
    rw [hbq, List.length_map]
    show vs.length = z_np y - 1
    omega
  have hstk : ((.ref o :: vs).reverse ++ st).map (ztr ad) = (vs.map (ztr ad)).reverse ++ .ref (ad o) :: st.map (ztr ad) := by
    rw [zmap_rev, List.map_cons, List.reverse_cons, List.append_assoc]
    rfl
  have hrest : 2 * (F0 mid pc la (((.ref o :: vs).reverse ++ st).map (ztr ad))).monitorRoom + ((st.map (ztr ad)).map fun v => v.category).sum ≤ 8 := lv_room (by rw [zwords_tr]; exact hw)
  rcases hlk with hlk | ⟨q, hq, q1, q2, q3⟩
  · have hcb := zcb (n := n) (n' := r.2.2.2) X hy hlk hro hRf hRl hnum
    rw [hrn] at hcb
    exact zc_after hA S hr (va_runI (As := vs.map (ztr ad)) (rest := st.map (ztr ad)) ⟨X.1, X.2.1, X.2.2.2.1, X.2.2.2.2.1, X.2.2.2.2.2.1⟩ hME ⟨hcb, hyn, hinst⟩ hpre rfl rfl S.2.2.2.2.2.2.1.1 hstk hrest hd ⟨by omega, by omega⟩) k
  · have hnw := E.2.2.2.1 (z_own m) (zy_ok m X.2.2.2.2.2.2.2.2).1 q hq q1
    rw [q2, q3] at hnw
    obtain ⟨r1, r2⟩ := zroom_spec hro
    have hcn : va_CN Rm s args (z_cn (z_own m)) i (z_y y) "SalaryLid" (z_by y) (z_ml y) (z_ret y) (zW y) (zrm2 y n r.2.2.2) (r.2.2.2 - n) (zs r.2.2.2 - zs n) (vs.map (ztr ad)).length :=
      va_cnB _ X.2.2.2.2.2.1 (zW_good m hy) rfl rfl rfl hnw (X.2.2.2.2.2.1 _ (zW_at (zq2_ok y hy) rfl)) ⟨y3, y4, by rw [hnum]; exact y5⟩ ⟨by show z_fr y + 1 ≤ Rm.frames; omega, by show 8 + (z_ml y + 11) + z_lo y ≤ Rm.locals; omega⟩
    rw [hrn] at hcn
    exact zc_after hA S hr (va_runIN (As := vs.map (ztr ad)) (rest := st.map (ztr ad)) ⟨X.1, X.2.1, X.2.2.2.1, X.2.2.2.2.1, X.2.2.2.2.2.1⟩ hME ⟨hcn, hyn, hinst⟩ hpre rfl rfl S.2.2.2.2.2.2.1.1 hstk hrest hd ⟨by omega, by omega⟩) k
/-! Math, Object(), arraycopy -/
theorem zhP_spec {m i k : Nat} (hm : m < 283) (h : zhP (z_own m) i k = true) : Cond.methodLink (z_cn (z_own m)) i (z_pn k) ∈ zW m := by
  obtain ⟨q, hq, h1⟩ := List.any_eq_true.mp h
  simp only [Bool.and_eq_true] at h1
  have g := zPL_ok (z_own m) (zy_ok m hm).1 q hq
  rw [Nat.eq_of_beq_eq_true h1.1, Nat.eq_of_beq_eq_true h1.2] at g
  exact zW_at g rfl
theorem za_max (X : zCx p s mid args meth c m) {i : Nat} {x y : Int32} (hd : decode (z_by m) pc = .ok (.invokestatic i, 3)) (hP : zhP (z_own m) i 10 = true) (hw : zwords st ≤ 8) (hf : 1 ≤ Rm.frames) (hl : 22 ≤ Rm.locals) (hc : n - n0 ≤ Rm.cells) (hs : zs n - zs n0 ≤ Rm.slots)
    (k : zGo p l e Rm s mid args below meth c Q D tc A ad0 n0 m (pc + 3) ls (.int (if x < y then y else x) :: st) I R n) : zGo p l e Rm s mid args below meth c Q D tc A ad0 n0 m pc ls (.int y :: .int x :: st) I R n :=
  fun ad H locs la S => va_mmax X.1 X.2.1 (X.2.2.2.1.trans S.2.2.2.2.2.2.1.1.symm) X.2.2.2.2.1 (X.2.2.2.2.2.1 _ (zhP_spec X.2.2.2.2.2.2.2.2 hP)) (X.2.2.2.2.2.1 _ (zW_at zm_max1 rfl)) (X.2.2.2.2.2.1 _ (zW_at zm_ini rfl)) (X.2.2.2.2.2.1 _ (zW_at zm_max2 rfl)) hf (by rw [zwords_tr]; omega) hc hs hd (k ad H locs la (S.pop.pop.push (zwv_int _ _)))
theorem za_min (X : zCx p s mid args meth c m) {i : Nat} {x y : Int32} (hd : decode (z_by m) pc = .ok (.invokestatic i, 3)) (hP : zhP (z_own m) i 11 = true) (hw : zwords st ≤ 8) (hf : 1 ≤ Rm.frames) (hl : 22 ≤ Rm.locals) (hc : n - n0 ≤ Rm.cells) (hs : zs n - zs n0 ≤ Rm.slots)
    (k : zGo p l e Rm s mid args below meth c Q D tc A ad0 n0 m (pc + 3) ls (.int (if y < x then y else x) :: st) I R n) : zGo p l e Rm s mid args below meth c Q D tc A ad0 n0 m pc ls (.int y :: .int x :: st) I R n :=
  fun ad H locs la S => va_mmin X.1 X.2.1 (X.2.2.2.1.trans S.2.2.2.2.2.2.1.1.symm) X.2.2.2.2.1 (X.2.2.2.2.2.1 _ (zhP_spec X.2.2.2.2.2.2.2.2 hP)) (X.2.2.2.2.2.1 _ (zW_at zm_min1 rfl)) (X.2.2.2.2.2.1 _ (zW_at zm_ini rfl)) (X.2.2.2.2.2.1 _ (zW_at zm_min2 rfl)) hf (by rw [zwords_tr]; omega) hc hs hd (k ad H locs la (S.pop.pop.push (zwv_int _ _)))
theorem za_abs (X : zCx p s mid args meth c m) {i : Nat} {x : Int32} (hd : decode (z_by m) pc = .ok (.invokestatic i, 3)) (hP : zhP (z_own m) i 12 = true) (hw : zwords st ≤ 8) (hf : 1 ≤ Rm.frames) (hl : 22 ≤ Rm.locals) (hc : n - n0 ≤ Rm.cells) (hs : zs n - zs n0 ≤ Rm.slots)
    (k : zGo p l e Rm s mid args below meth c Q D tc A ad0 n0 m (pc + 3) ls (.int (if 0 ≤ x then x else 0 - x) :: st) I R n) : zGo p l e Rm s mid args below meth c Q D tc A ad0 n0 m pc ls (.int x :: st) I R n :=
  fun ad H locs la S => va_mabs X.1 X.2.1 (X.2.2.2.1.trans S.2.2.2.2.2.2.1.1.symm) X.2.2.2.2.1 (X.2.2.2.2.2.1 _ (zhP_spec X.2.2.2.2.2.2.2.2 hP)) (X.2.2.2.2.2.1 _ (zW_at zm_abs1 rfl)) (X.2.2.2.2.2.1 _ (zW_at zm_ini rfl)) (X.2.2.2.2.2.1 _ (zW_at zm_abs2 rfl)) hf (by rw [zwords_tr]; omega) hc hs hd (k ad H locs la (S.pop.push (zwv_int _ _)))
theorem za_obj (X : zCx p s mid args meth c m) {i o : Nat} (hd : decode (z_by m) pc = .ok (.invokespecial i, 3)) (hP : zhP (z_own m) i 13 = true) (hw : zwords st ≤ 8) (hf : 1 ≤ Rm.frames) (hl : 22 ≤ Rm.locals)
    (k : zGo p l e Rm s mid args below meth c Q D tc A ad0 n0 m (pc + 3) ls st I R n) : zGo p l e Rm s mid args below meth c Q D tc A ad0 n0 m pc ls (.ref o :: st) I R n :=
  fun ad H locs la S => W.objInit X.1 X.2.1 X.2.2.2.2.1 (X.2.2.2.2.2.1 _ (zhP_spec X.2.2.2.2.2.2.2.2 hP)) (X.2.2.2.2.2.1 _ (zW_at zm_obj1 rfl)) (X.2.2.2.2.2.1 _ (zW_at zm_obj2 rfl)) rfl (S.2.2.2.2.2.2.1.1.trans X.2.2.2.1.symm) (a := ad o) (rest := st.map (ztr ad)) rfl hd hf (by rw [zwords_tr]; show 2 * 0 + _ + 12 ≤ _; omega) (k ad H locs la S.pop)
theorem zent_cpy {ad : Nat → Nat} {a d sp dp cn : Nat} (hk : z_kd d = 20) : zent tc ad (zcp I a sp d dp cn) R d = .inl (tc 20, z_ln d, .inl (va_cpy (I a) (I d) sp dp cn)) := by
  rw [zent_int hk (by omega) (by omega)]
  congr 4
  funext j
  unfold zcp va_cpy
  rw [if_pos rfl]
theorem za_copy (X : zCx p s mid args meth c m) (E : zEnv base D tc ad0 s s.heap) {i a d : Nat} {sp dp cn : Int32} (hd : decode (z_by m) pc = .ok (.invokestatic i, 3)) (hP : zhP (z_own m) i 14 = true) (hw : zwords st ≤ 8) (hf : 1 ≤ Rm.frames) (hl : 60 ≤ Rm.locals) (ha : zis n a 20 = true) (hdd : zis n d 20 = true)
    (h1 : ¬ sp < 0) (h2 : ¬ dp < 0) (h3 : ¬ cn < 0) (h4 : zix sp + zix cn ≤ z_ln a) (h5 : zix dp + zix cn ≤ z_ln d)
    (k : zGo p l e Rm s mid args below meth c Q D tc A ad0 n0 m (pc + 3) ls st (zcp I a (zix sp) d (zix dp) (zix cn)) R n) : zGo p l e Rm s mid args below meth c Q D tc A ad0 n0 m pc ls (.int cn :: .int dp :: .ref d :: .int sp :: .ref a :: st) I R n := by
  intro ad H locs la S
  obtain ⟨g1, g2⟩ := zis_in ha (by omega)
  obtain ⟨g3, g4⟩ := zis_in hdd (by omega)
  have e0 := zwl_get (tc := tc) (ad := ad) (I := I) (R := R) g1
  have e1 := zwl_get (tc := tc) (ad := ad) (I := I) (R := R) g3
  rw [zent_int g2 (by omega) (by omega)] at e0
  rw [zent_int g4 (by omega) (by omega)] at e1
  refine va_copyi (D := D) X.1 X.2.1 (X.2.2.2.1.trans S.2.2.2.2.2.2.1.1.symm) X.2.2.2.2.1 (X.2.2.2.2.2.1 _ (zhP_spec X.2.2.2.2.2.2.2.2 hP)) (X.2.2.2.2.2.1 _ (zW_at zm_cp1 rfl)) (X.2.2.2.2.2.1 _ (zW_at zm_cp2 rfl)) (X.2.2.2.2.2.1 _ (zW_at zm_cp3 rfl)) E.1 S.1 S.2.1 S.2.2.1 a d 0 0 (ty := .int) e0 e1 rfl rfl rfl h1 h2 h3 h4 h5 (fun _ _ => rfl) hf (by rw [zwords_tr]; show _ + (7 + 11) ≤ _; omega) hd (fun H1 locs1 hP hD hS => ?_)
  have e2 : (Sum.inl (tc 20, z_ln d, Sum.inl (va_cpy (I a) (I d) sp.toNatClampNeg dp.toNatClampNeg cn.toNatClampNeg)) : va_E) = zent tc ad (zcp I a (zix sp) d (zix dp) (zix cn)) R d := (zent_cpy g4).symm
  have hne : ∀ b, b ≠ d → zcp I a (zix sp) d (zix dp) (zix cn) b = I b := fun b hb => by funext j; unfold zcp; rw [if_neg hb]
  rw [e2, zwl_set (fun a' h' => zent_dep (hne a' h') rfl)] at hP hD
  exact k ad H1 locs1 la (S.pop.pop.pop.pop.pop.newI (fun a' h' => hne a' (by have := S.2.2.2.1.2.2; omega)) hP hD hS)
end ZK1
