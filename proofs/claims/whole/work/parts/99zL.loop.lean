/-! ===== the law's loop, whole; each turn may make one exception ===== -/
section XX4
variable {p : Program} {l : Launch} {e : Env} {Rm : Room} {s : State} {mid : MethodId} {args : Array Value} {below : List Frame} {meth : Method} {c : Code} {Q : State → Prop}
variable {D : va_G} {tc : Nat → ClassId} {ad0 : Nat → Nat} {b L ao : Nat} {xs : Nat → Int32} {O : Heap → Prop} {ec es : Nat} {cL : ClassId}
theorem zLc.mono {ec' es' : Nat} (C : zLc p Rm s mid args c D tc ad0 b L ao xs O ec es) (h1 : ec' ≤ ec) (h2 : es' ≤ es) : zLc p Rm s mid args c D tc ad0 b L ao xs O ec' es' := by
  obtain ⟨a1, a2, a3, a4, a5, a6, a7, a8⟩ := C
  exact ⟨a1, a2, a3, a4, a5, a6, by omega, by omega⟩
theorem zl_loop (C : zLc p Rm s mid args c D tc ad0 b L ao xs (zOo ao cL) (ec + 600) (es + 3600)) (hst : l.stackTraces = false) (hXe : zXe s.heap.size s s.heap) (hAr : ArrOfT s cL .long) (hab : s.heap.size ≤ ao)
    (kend : ∀ (q : Nat) (I : ZI) (R : ZR) (n : Nat) (ad : Nat → Nat) (H : Heap) (locs : List Loc) (la : Array Slot), q ≤ 600 → zInv q I R n → zLw D tc s ad0 ao (zOo ao cL) I R n ad H locs → W p l e Rm s mid args below meth c H locs (n + (ec + q)) (zs n + (es + 6 * q)) Q (F0 mid 1562 la [])) :
    ∀ (N q : Nat) (I : ZI) (R : ZR) (n : Nat) (ad : Nat → Nat) (H : Heap) (locs : List Loc) (la : Array Slot), q + N = 600 → 6 * q ≤ L → zInv q I R n → zLw D tc s ad0 ao (zOo ao cL) I R n ad H locs → zLl b ao ad (6 * q) la → W p l e Rm s mid args below meth c H locs (n + (ec + q)) (zs n + (es + 6 * q)) Q (F0 mid 23 la []) := by
  have hx := C.1.1
  have hb := C.1.2.1
  have hX := C.2.2.2.1.1
  have hbl := C.2.2.2.1.2.1
  have hL := C.2.2.2.1.2.2
  have hbA : ¬ zB0 s.heap.size b := Nat.not_le.mpr hbl
  obtain ⟨⟨d23, d25, d26, d27, d29, d30⟩, d56, d59⟩ := zl_d23
  intro N
  induction N with
  | zero => intro q I R n ad H locs la hN h6; omega
  | succ N ih =>
    intro q I R n ad H locs la hN h6 h hw hl
    refine lv_iload hx hb d23 (lv_at hl 0 rfl) ?_
    refine lv_aload_n hx hb d25 rfl (lv_at hl 4 rfl) ?_
    refine va_slen hx hb hX hbl hbA hw.2.2.1 d26 ?_
    refine lv_bipush (v := 6) hx hb d27 (by decide) ?_
    refine lv_isub hx hb d29 ?_
    have hsub : (nI L - 6).toInt = (L : Int) - 6 := by
      rw [show (6 : Int32) = nI 6 by decide, pk_sub_toInt (by omega) (by decide)]; rfl
    refine lv_icmp_gt (tgt := 1562) hx hb d30 (by decide) (fun c1 => kend q I R n ad H locs la (by omega) h hw) (fun c1 => ?_)
    have hi : 6 * q + 5 < L := by
      rcases Nat.lt_or_ge (6 * q + 5) L with y | y
      · exact y
      · refine absurd ?_ c1
        show nI L - 6 < nI (6 * q)
        rw [Int32.lt_iff_toInt_lt, hsub, nI_toInt (by omega)]
        omega
    have nx : ∀ (I2 : ZI) (R2 : ZR) (n2 : Nat) (ad' : Nat → Nat) (H' : Heap) (locs' : List Loc) (la' : Array Slot), zInv (q + 1) I2 R2 n2 → ad' 0 = ad 0 → ad' 195 = ad 195 → zLw D tc s ad0 ao (zOo ao cL) I2 R2 n2 ad' H' locs' → zLl b ao ad (6 * q) la' → W p l e Rm s mid args below meth c H' locs' (n2 + (ec + q + 1)) (zs n2 + (es + 6 * q + 6)) Q (F0 mid 1556 la' []) := fun I2 R2 n2 ad' H' locs' la' g1 g2 g3 g4 hl' => by
      refine lv_iinc (v := nI (6 * (q + 1))) (lv' := [(4, .int (nI (6 * (q + 1)))), (3, .ref ao), (2, .ref (ad 195)), (1, .ref (ad 0)), (0, .ref b)]) hx hb d56 hl' (k := 0) rfl ?_ (by decide) rfl (fun ls hl2 => ?_)
      · rw [show Int32.ofInt 6 = nI 6 by decide, nI_add]
        exact congrArg nI (by omega)
      · refine lv_goto (tgt := 23) hx hb d59 (by decide) ?_
        have := ih (q + 1) I2 R2 n2 ad' H' locs' ls (by omega) (by omega) g1 g4 (by unfold zLl; rw [g2, g3]; exact hl2)
        rw [show es + 6 * (q + 1) = es + 6 * q + 6 by omega, show ec + (q + 1) = ec + q + 1 by omega] at this
        exact this
    refine zl_disp (C.mono (by omega) (by omega)) hi h (by omega) hw hl.1 (lv_at hl 4 rfl) (lv_at hl 3 rfl) (lv_at hl 2 rfl) (lv_at hl 0 rfl) (zl_p5 (C.mono (by omega) (by omega)) hst hXe hAr hab hi h hw hl nx) (fun I2 R2 n2 ad' H' locs' g1 g2 g3 g4 => ?_)
    exact W.widen (by omega) (by omega) (nx I2 R2 n2 ad' H' locs' la g1 g2 g3 g4 hl)
/-- 'new' in the law, ahead of its loop -/
theorem zl_new (hx : p.tables.exec = Jvm.exec) (hb : c.code = code) (hown : s.vm.findClass RL = some mid.cls) (hts : ∀ w ∈ lw_tbl, w.before args s = true) (E : zEnv s.heap.size D tc ad0 s s.heap) {i a n pc : Nat} (ha : a < 10) (hlk : Cond.classLink RL i (z_cn a) ∈ lw_tbl) (hk : z_kd n = a) (h281 : n < 281) (hc : n + 1 ≤ Rm.cells) (hs : zs (n + 1) ≤ Rm.slots) {I : ZI} {R : ZR} {ad : Nat → Nat} {H : Heap} {locs : List Loc} {la : Array Slot} {rest : List Value} (hP : va_P D vwCl (zwl tc ad I R n) H) (hD : va_D (zB0 s.heap.size) (zwl tc ad I R n)) (hS : va_S (zB0 s.heap.size) s.heap H locs) (hpu : zpure I R n) (hd : decode code pc = .ok (.new i, 3))
    (k : ∀ (ad' : Nat → Nat) (H' : Heap), zag n ad ad' → va_P D vwCl (zwl tc ad' (zz I n) (zzr R n) (n + 1)) H' → va_D (zB0 s.heap.size) (zwl tc ad' (zz I n) (zzr R n) (n + 1)) → va_S (zB0 s.heap.size) s.heap H' locs → zpure (zz I n) (zzr R n) (n + 1) → W p l e Rm s mid args below meth c H' locs (n + 1) (zs (n + 1)) Q (F0 mid (pc + 3) la (.ref (ad' n) :: rest))) : W p l e Rm s mid args below meth c H locs n (zs n) Q (F0 mid pc la rest) := by
  have hz : z_ln n = z_N a := by rw [zln_ok n h281 (by omega), hk]
  have hzs : zs (n + 1) = zs n + z_N a := by show zs n + z_ln n = _; rw [hz]
  have hfs : ∀ j, j < z_N a → defaultValue (z_ty a j) = vp_V ((List.range (z_N a)).map (fun j => if z_ft a j = 2 then Value.null else Value.int 0)) j := by
    intro j hj
    have h1 := zft_ok a ha j hj
    have h2 := zft_3 a ha j hj
    unfold vp_V
    rw [List.getD_eq_getElem?_getD, List.getElem?_map, List.getElem?_range hj, Option.map_some, Option.getD_some]
    cases ht : z_ty a j <;> rw [ht] at h1 <;> unfold zftb at h1 <;> dsimp only at h1
    case int => rw [if_neg (by omega)]; rfl
    case boolean => rw [if_neg (by omega)]; rfl
    case object => rw [if_pos h1]; rfl
    case array => rw [if_pos h1]; rfl
    all_goals (exfalso; omega)
  have hin : ∀ w ∈ u_ws (z_cn a) (z_T a) (z_N a), w ∈ lw_tbl := fun w hw => by
    rw [zlay a ha] at hw
    obtain ⟨j, -, hj⟩ := List.mem_filterMap.mp hw
    exact List.mem_of_getElem? hj
  refine va_new (D := D) (ci := a) (C := z_cn a) (T := z_T a) (N := z_N a) hx hb hts hin (z_ty a) (zty_ok a ha) hown (hts _ hlk) (hts _ (List.mem_of_getElem? (zins_ok a ha))) (hts _ (List.mem_of_getElem? (zini_ok a ha))) E.1 hP hD hS (fun q h => h) (zvw_ok a ha) hfs hc (by omega) hd (fun q H1 hP' hD' hS' => ?_)
  obtain ⟨ad', hself, hne⟩ : ∃ ad' : Nat → Nat, ad' n = q ∧ ∀ b, b ≠ n → ad' b = ad b := ⟨fun k => if k = n then q else ad k, if_pos rfl, fun b hb => if_neg hb⟩
  have hag : zag n ad ad' := fun k hk => hne k (by omega)
  have hent : zent tc ad' (zz I n) (zzr R n) n = .inr (a, (List.range (z_N a)).map (fun j => if z_ft a j = 2 then Value.null else Value.int 0)) := by
    rw [zent_obj hk ha, hz]
    refine congrArg (fun z : List Value => (Sum.inr (a, z) : va_E)) (List.map_congr_left fun j _ => ?_)
    unfold zfv zz zzr
    rw [if_pos rfl, if_pos rfl]
    rfl
  have hpush := zwl_push (tc := tc) (ad := ad) (ad' := ad') (I := I) (I' := zz I n) (R := R) (R' := zzr R n) (n := n) (fun b hb => by
    have e1 : zent tc ad' (zz I n) (zzr R n) b = zent tc ad I R b := (zent_dep (I := I) (R := R) (by funext j; unfold zz; rw [if_neg (by omega)]) (by funext j; unfold zzr; rw [if_neg (by omega)])).trans (zent_ag hag hpu.1 b)
    rw [e1]
    rw [hne b (by omega)])
  rw [hent, hself] at hpush
  rw [← hpush] at hP' hD'
  have hfin := k ad' H1 hag hP' hD' hS' ⟨zwf_zzr (zwf_up hpu.1 (Nat.le_succ n)), fun j i hj hi => by unfold zz; rw [if_neg (by omega)]; exact hpu.2.1 j i hj hi, by omega⟩
  rw [hself, hzs] at hfin
  exact hfin
/-- a constructor, called by the law -/
theorem zl_callI (hx : p.tables.exec = Jvm.exec) (hb : c.code = code) (hml : c.maxLocals = 7) (hown : s.vm.findClass RL = some mid.cls) (hts : ∀ w ∈ lw_tbl, w.before args s = true) (E : zEnv s.heap.size D tc ad0 s s.heap) {i y o n pc : Nat} (hlk : Cond.methodLink RL i (z_y y) ∈ lw_tbl) (hy : y < 283) (hoc : z_oc y ≠ 50) (hin : z_in y = true) (hRf : z_fr y + 1 ≤ Rm.frames) (hRl : 8 + (z_ml y + 11) + z_lo y ≤ Rm.locals) {I : ZI} {R : ZR} {r : Option Value × ZI × ZR × Nat} (hnp : z_np y = 1) (hml1 : 1 ≤ z_ml y) (hi : o < n) (hRc : r.2.2.2 ≤ Rm.cells) (hRs : zs r.2.2.2 ≤ Rm.slots)
    (hrun : run y 0 (zloc (z_ml y) [.ref o]) [] I R n = some r) {ad : Nat → Nat} {H : Heap} {locs : List Loc} {la : Array Slot} {rest : List Value} (hP : va_P D vwCl (zwl tc ad I R n) H) (hD : va_D (zB0 s.heap.size) (zwl tc ad I R n)) (hS : va_S (zB0 s.heap.size) s.heap H locs) (hpu : zpure I R n) (hag : zag 0 ad0 ad) (hla : la.size = 7) (hro : ((rest.map fun v => v.category).sum) ≤ 8) (hd : decode code pc = .ok (.invokespecial i, 3))
    (k : ∀ (ad' : Nat → Nat) (H' : Heap) (locs' : List Loc), zag n ad ad' → va_P D vwCl (zwl tc ad' r.2.1 r.2.2.1 r.2.2.2) H' → va_D (zB0 s.heap.size) (zwl tc ad' r.2.1 r.2.2.1 r.2.2.2) → va_S (zB0 s.heap.size) s.heap H' locs' → zpure r.2.1 r.2.2.1 r.2.2.2 → W p l e Rm s mid args below meth c H' locs' r.2.2.2 (zs r.2.2.2) Q (F0 mid (pc + 3) la (r.1.toList.map (ztr ad') ++ rest))) : W p l e Rm s mid args below meth c H locs n (zs n) Q (F0 mid pc la (.ref (ad o) :: rest)) := by
  obtain ⟨y1, y2, y3, y4, y5, y6, y7⟩ := zy_ok y hy
  have hbq : Nat.beq (z_oc y) 50 = false := by
    cases hh : Nat.beq (z_oc y) 50 with
    | false => rfl
    | true => exact absurd (Nat.eq_of_beq_eq_true hh) hoc
  have hq1 := zq1_ok y hy
  rw [hbq] at hq1
  have hinst : (Cond.instanceMethod (z_y y)).before args s = true := hts _ (List.mem_of_getElem? hq1)
  have hyn : (z_y y).name = "<init>" := y7.mp hin
  have hrn : z_ret y = none := Option.isNone_iff_eq_none.mp (zret_init y hy hin)
  have hm : n ≤ r.2.2.2 := run_mono hrun
  have hz := zs_le hm
  have hmet : zMet l s.heap.size D tc y [.ref o] I R n r := zmet hy hml1 hrun
  have hvr : ∀ v ∈ ([.ref o] : List Value), zwv n v := fun v hv => by
    rw [List.mem_singleton.mp hv]
    exact zwv_ref (Or.inl hi)
  have hME := hmet hpu hvr ad H.size
  have hpre : PreS s H (zPc s.heap.size D tc ad I R n H.size [.ref o]) (.ref (ad o) :: []) :=
    ⟨zPc_blind, fun U hU hW => ⟨rfl, by rw [hU], by rw [hU]; exact hP, hD, hS.1, by rw [hU]; exact (E.ag hag).to hW (fun a h1 h2 => hS.2.1 a h1 h2)⟩⟩
  have hcb : CallB Rm s args RL i (z_y y) (z_by y) (z_ml y) (z_ret y) (zW y) (zrm2 y n r.2.2.2) (r.2.2.2 - n) (zs r.2.2.2 - zs n) ([] : List Value).length :=
    callB_of _ hts (zl_good hy) rfl rfl rfl (hts _ (List.mem_of_getElem? (zq2_ok y hy))) (hts _ hlk) ⟨y3, y4, by rw [y5, hbq, hnp]; rfl⟩ ⟨hRf, hRl⟩
  rw [hrn] at hcb
  refine zl_after (fun q h => h) hP hD hS (va_runI (As := []) (rest := rest) ⟨hx, hb, hml, hown, hts⟩ hME ⟨hcb, hyn, hinst⟩ hpre rfl rfl hla rfl (lv_room hro) hd ⟨by omega, by omega⟩) (fun ad' H' locs' g1 g2 g3 g4 g5 g6 g7 g8 g9 => ?_)
  rw [show n + (r.2.2.2 - n) = r.2.2.2 by omega, show zs n + (zs r.2.2.2 - zs n) = zs r.2.2.2 by omega]
  exact k ad' H' locs' g1 g2 g3 g5 g6
end XX4
