/-! ===== the law's case of player ===== -/
def zOg (ao : Nat) (cL : ClassId) (g : Nat → Int64) (H : Heap) : Prop := H[ao]? = some (vp_cell cL (1, .inr (.inl g)))
def zOo (ao : Nat) (cL : ClassId) (H : Heap) : Prop := ∃ g, zOg ao cL g H
theorem zOg_fr {ao : Nat} {cL : ClassId} {g : Nat → Int64} (H H' : Heap) (_ : H.size ≤ H'.size) (h : H'[ao]? = H[ao]?) (k : zOg ao cL g H) : zOg ao cL g H' := by unfold zOg; rw [h]; exact k
theorem zOo_fr {ao : Nat} {cL : ClassId} (H H' : Heap) (z : H.size ≤ H'.size) (h : H'[ao]? = H[ao]?) (k : zOo ao cL H) : zOo ao cL H' := k.elim fun g k => ⟨g, zOg_fr H H' z h k⟩
theorem zl_d5 : (decode code 369 = .ok (.aload_n 1, 1) ∧ zl_ok 370 2 ∧ decode code 382 = .ok (.aload_n 3, 1) ∧ decode code 383 = .ok (.invokestatic 43, 3) ∧ decode code 386 = .ok (.istore 5, 2) ∧ decode code 388 = .ok (.aload_n 2, 1) ∧ zl_ok 389 2 ∧ decode code 401 = .ok (.invokevirtual 48, 3) ∧ decode code 404 = .ok (.istore 6, 2) ∧ decode code 406 = .ok (.aload_n 2, 1) ∧ decode code 407 = .ok (.invokevirtual 49, 3)) ∧ (decode code 410 = .ok (.iload 5, 2) ∧ decode code 412 = .ok (.if_icmp .eq 5, 3) ∧ decode code 417 = .ok (.iload 5, 2) ∧ decode code 419 = .ok (.ifCond .ne 15, 3) ∧ decode code 422 = .ok (.aload_n 3, 1) ∧ decode code 423 = .ok (.iconst 0, 1) ∧ decode code 424 = .ok (.laload, 1) ∧ decode code 425 = .ok (.iload 6, 2) ∧ decode code 427 = .ok (.i2l, 1) ∧ decode code 428 = .ok (.lcmp, 1) ∧ decode code 429 = .ok (.ifCond .eq 5, 3) ∧ decode code 434 = .ok (.goto 1122, 3)) :=
  ⟨⟨by decide +kernel, by unfold zl_ok; decide +kernel, by decide +kernel, by decide +kernel, by decide +kernel, by decide +kernel, by unfold zl_ok; decide +kernel, by decide +kernel, by decide +kernel, by decide +kernel, by decide +kernel⟩, ⟨by decide +kernel, by decide +kernel, by decide +kernel, by decide +kernel, by decide +kernel, by decide +kernel, by decide +kernel, by decide +kernel, by decide +kernel, by decide +kernel, by decide +kernel, by decide +kernel⟩⟩
theorem zl_f5 : (202 < 283 ∧ z_oc 202 = 9 ∧ z_in 202 = false ∧ z_fr 202 ≤ 12 ∧ 8 + (z_ml 202 + 11) + z_lo 202 ≤ 449 ∧ z_np 202 = 3 ∧ 3 ≤ z_ml 202 ∧ lw_tbl[1602]? = some (.methodLink RL 48 (z_y 202))) ∧ (166 < 283 ∧ z_oc 166 = 9 ∧ z_in 166 = false ∧ z_fr 166 ≤ 12 ∧ 8 + (z_ml 166 + 11) + z_lo 166 ≤ 449 ∧ z_np 166 = 1 ∧ 1 ≤ z_ml 166 ∧ lw_tbl[1474]? = some (.methodLink RL 49 (z_y 166))) := by decide +kernel
theorem zl_ml5 : z_ml 202 = 3 ∨ 3 < z_ml 202 := by decide +kernel
theorem zp_num : (parseMethodDescriptor yL_player.desc).map (fun d => d.parameters.length) = some 4 := by decide +kernel
section XX3
variable {p : Program} {l : Launch} {e : Env} {Rm : Room} {s : State} {mid : MethodId} {args : Array Value} {below : List Frame} {meth : Method} {c : Code} {Q : State → Prop}
variable {D : va_G} {tc : Nat → ClassId} {ad0 : Nat → Nat} {b L ao : Nat} {xs : Nat → Int32} {ec es mc ms : Nat} {cL : ClassId}
theorem zl_callP (C : zLc p Rm s mid args c D tc ad0 b L ao xs (zOo ao cL) (ec + 1) (es + 6)) (hXe : zXe s.heap.size s s.heap) (hAr : ArrOfT s cL .long) (hab : s.heap.size ≤ ao) (hmc : mc ≤ 1) (hms : ms ≤ 6) {x y k0 : Int32} {f g : Nat → Int64} {I : ZI} {R : ZR} {n : Nat} (hn : n ≤ 281) {ad : Nat → Nat} {H : Heap} {locs : List Loc} {la : Array Slot}
    (hM : vx_Met l yL_player zp_ws (zp_rm mc ms) (zPp s.heap.size D tc ad I R n H.size ao cL f x y) (zQp D tc ad I R n H.size ao cL k0 g) (fun _ _ _ => False) mc ms (zp_A tc ad I R n H.size ao))
    (hw : zLw D tc s ad0 ao (zOg ao cL f) I R n ad H locs) (hla : la.size = 7)
    (k : ∀ (ad' : Nat → Nat) (H' : Heap) (locs' : List Loc), zag n ad ad' → zLw D tc s ad0 ao (zOg ao cL g) I R n ad' H' locs' → W p l e Rm s mid args below meth c H' locs' (n + (ec + mc)) (zs n + (es + ms)) Q (F0 mid 386 la [.int k0])) : W p l e Rm s mid args below meth c H locs (n + ec) (zs n + es) Q (F0 mid 383 la [.ref ao, .int y, .int x, .ref (ad 0)]) := by
  obtain ⟨⟨hx, hb, hml, hown, hts⟩, E, -, -, hRf, hRl, hRc, hRs⟩ := C
  obtain ⟨hP, hD, hS, hpu, hag, ho1, ho2, ho3⟩ := hw
  have hz := zs_le hn
  have hnA := zna (tc := tc) (I := I) (R := R) ho1 ho3
  have hfree : ∀ q, zp_A tc ad I R n H.size ao q → zB0 s.heap.size q := by
    rintro q ((⟨j, en, hj⟩ | hq) | rfl)
    · exact hD.2 j (q, en) hj
    · exact Nat.le_trans hS.1 hq
    · exact hab
  have cw : vx_CSW Rm s args RL 43 yL_player cL_player 5 (some .int) [(0, 10, 13, 13)] zp_ws (zp_rm mc ms) mc ms 4 :=
    ⟨⟨rfl, rfl, by show 9 + 1 ≤ Rm.frames; omega, by show 8 + (5 + 11) + 200 ≤ Rm.locals; omega, pay_in hts zp_goodL, List.mem_cons_self⟩, hts _ (List.mem_of_getElem? zp_t.1), hts _ (List.mem_of_getElem? zp_t.2.2.2.2.2), ⟨by decide, by decide⟩, fun sig h => by
      have h2 := zp_num
      rw [h] at h2
      exact (Option.some.inj h2).symm, hts _ (List.mem_of_getElem? zp_t.2.2.2.1), hts _ (List.mem_of_getElem? zp_t.2.2.2.2.1)⟩
  have hpre : PreS s H (zPp s.heap.size D tc ad I R n H.size ao cL f x y) [.ref (ad 0), .int x, .int y, .ref ao] :=
    ⟨zPp_blind, fun U hU hW => ⟨rfl, by rw [hU], by rw [hU]; exact hP, hD, hS.1, by rw [hU]; exact (E.ag hag).to hW (fun a h1 h2 => hS.2.1 a h1 h2), by rw [hU]; exact hXe.to hW (fun a h1 h2 => hS.2.1 a h1 h2), arrOfT_moved hW.alike hAr, by rw [hU]; exact ho2, ho3⟩⟩
  intro T hT Xs
  rcases vx_runSX (As := [.ref (ad 0), .int x, .int y, .ref ao]) (rest := []) (g := F0 mid 383 la [.ref ao, .int y, .int x, .ref (ad 0)]) (cells := n + ec) (slots := zs n + es) (locs := locs) (below := below) (e := e) (meth := meth) ⟨hx, hb, hml, hown, hts⟩ hM cw hpre rfl rfl hla rfl (lv_room (by decide)) zl_d5.1.2.2.2.1 ⟨by omega, by omega⟩ T hT Xs with ⟨v, st₀, t, T', L9, h0, X', hL, e1, e2, ⟨hv, ⟨ad', hag', hP', hD'⟩, hO', hF⟩, st⟩ | ⟨q, st₀, t, T', L9, E9, ce, h0, X', hL, e1, e2, hq, -⟩
  · obtain ⟨k1, k2, k3⟩ := vx_keep h0 e1 hS (fun q _ h => hfree q h) hfree hL hF
    have hfin := k ad' T'.heap (locs ++ L9) hag' ⟨by rw [e1]; exact hP', hD'.weaken (fun _ q _ h => hfree q.1 (Or.inl h)), k3, hpu, hag.trans (fun a ha => hag' a (by omega)) (Nat.le_refl 0), Nat.lt_of_lt_of_le ho1 k1, by show T'.heap[ao]? = _; rw [e1]; exact hO', fun a ha q => hnA (by have := hD'.2 a _ (zwl_get ha); rw [← q]; exact this)⟩
    have X2 : Stand p l e Rm s mid args below meth c T' (locs ++ L9) (n + (ec + mc)) (zs n + (es + ms)) := by
      rw [← Nat.add_assoc, ← Nat.add_assoc]; exact X'
    obtain ⟨t2, a1, b1⟩ := hfin T' rfl X2
    have hv' : v = some (.int k0) := by cases hv; rfl
    subst hv'
    exact ⟨t2, st t2 a1, b1⟩
  · exact hq.elim
theorem zl_p5g (C : zLc p Rm s mid args c D tc ad0 b L ao xs (zOo ao cL) (ec + 1) (es + 6)) (hXe : zXe s.heap.size s s.heap) (hAr : ArrOfT s cL .long) (hab : s.heap.size ≤ ao) (hmc : mc ≤ 1) (hms : ms ≤ 6) {k0 v2 : Int32} {f g : Nat → Int64} {i q : Nat} {I : ZI} {R : ZR} {n : Nat} (hia : i + 5 < L) (h : zInv q I R n) {ad : Nat → Nat} {H : Heap} {locs : List Loc} {la : Array Slot}
    (hM : vx_Met l yL_player zp_ws (zp_rm mc ms) (zPp s.heap.size D tc ad I R n H.size ao cL f (xs (i + 1)) (xs (i + 2))) (zQp D tc ad I R n H.size ao cL k0 g) (fun _ _ _ => False) mc ms (zp_A tc ad I R n H.size ao))
    (r2 : M_player 195 (xs (i + 1)) (xs (i + 2)) I R n = some (some (.int v2), zup I 195 0 k0, R, n)) (hk0 : k0 = 0 → g 0 = v2.toInt64)
    (hw : zLw D tc s ad0 ao (zOg ao cL f) I R n ad H locs) (hl : zLl b ao ad i la)
    (k : ∀ (I2 : ZI) (R2 : ZR) (n2 : Nat) (ad' : Nat → Nat) (H' : Heap) (locs' : List Loc) (la' : Array Slot), zInv (q + 1) I2 R2 n2 → ad' 0 = ad 0 → ad' 195 = ad 195 → zLw D tc s ad0 ao (zOo ao cL) I2 R2 n2 ad' H' locs' → zLl b ao ad i la' → W p l e Rm s mid args below meth c H' locs' (n2 + (ec + 1)) (zs n2 + (es + 6)) Q (F0 mid 1556 la' [])) : W p l e Rm s mid args below meth c H locs (n + ec) (zs n + es) Q (F0 mid 369 la []) := by
  have C0 := C
  obtain ⟨⟨hx, hb, hml, hown, hts⟩, E, -, ⟨hX, hbl, hL⟩, hRf, hRl, hRc, hRs⟩ := C
  obtain ⟨⟨d369, ok1, d382, d383, d386, d388, ok2, d401, d404, d406, d407⟩, d410, d412, d417, d419, d422, d423, d424, d425, d427, d428, d429, d434⟩ := zl_d5
  obtain ⟨⟨f1, f2, f3, f4, f5, f6, f7, f8⟩, q1, q2, q3, q4, q5, q6, q7, q8⟩ := zl_f5
  have hbA : ¬ zB0 s.heap.size b := Nat.not_le.mpr hbl
  have hn := zInv_n h
  have wv : ∀ v ∈ ([.int (xs (i + 1)), .int (xs (i + 2))] : List Value), zwv n v := fun v hv => by
    rcases List.mem_cons.mp hv with rfl | hv
    · exact zwv_int _ _
    rcases List.mem_cons.mp hv with rfl | hv
    · exact zwv_int _ _
    cases hv
  refine lv_aload_n hx hb d369 rfl (lv_at hl 3 rfl) ?_
  refine zl_args hx hb hX hbl hbA hw.2.2.1 hL (lv_at hl 4 rfl) (lv_at hl 0 rfl) 2 (by decide) (by omega) ok1 ?_
  refine lv_aload_n hx hb d382 rfl (lv_at hl 1 rfl) ?_
  refine zl_callP C0 hXe hAr hab hmc hms hn.2 hM hw hl.1 (fun ad1 H1 locs1 g1 w1 => ?_)
  have e0 : ad1 0 = ad 0 := g1 0 (Or.inl (by omega))
  have e195 : ad1 195 = ad 195 := g1 195 (Or.inl (by omega))
  refine lv_istore (lv' := [(5, .int k0), (4, .int (nI i)), (3, .ref ao), (2, .ref (ad 195)), (1, .ref (ad 0)), (0, .ref b)]) hx hb d386 hl (by decide) rfl (fun la1 hl1 => ?_)
  refine lv_aload_n hx hb d388 rfl (show la1[2]? = some (.val (.ref (ad1 195))) by rw [e195]; exact lv_at hl1 3 rfl) ?_
  refine zl_args hx hb hX hbl hbA w1.2.2.1 hL (lv_at hl1 5 rfl) (lv_at hl1 1 rfl) 2 (by decide) (by omega) ok2 ?_
  refine zl_step (O := zOg ao cL g) (vs := [.int (xs (i + 1)), .int (xs (i + 2))]) (rest := []) (r := (some (.int v2), zup I 195 0 k0, R, n)) hx hb hml hown hts E zOg_fr (List.mem_of_getElem? f8) f1 (by rw [f2]; decide) f3 (by omega) (by omega) (by rw [f6]; rfl) (by rw [f2]; exact zis_lit (by omega) (by decide)) hn.2 (ec := ec + mc) (es := es + ms) (by omega) (by omega) f7 (by rw [show z_ml 202 = 3 by decide +kernel]; exact r2) w1 wv hl1.1 (by decide) d401 (fun ad2 H2 locs2 g2 w2 => ?_)
  have e0' : ad2 0 = ad 0 := (g2 0 (Or.inl (by omega))).trans e0
  have e195' : ad2 195 = ad 195 := (g2 195 (Or.inl (by omega))).trans e195
  refine lv_istore (lv' := [(6, .int v2), (5, .int k0), (4, .int (nI i)), (3, .ref ao), (2, .ref (ad 195)), (1, .ref (ad 0)), (0, .ref b)]) hx hb d404 hl1 (by decide) rfl (fun la2 hl2 => ?_)
  refine lv_aload_n hx hb d406 rfl (show la2[2]? = some (.val (.ref (ad2 195))) by rw [e195']; exact lv_at hl2 4 rfl) ?_
  have rt : run 166 0 (zloc (z_ml 166) [.ref 195]) [] (zup I 195 0 k0) R n = some (some (.int k0), zup I 195 0 k0, R, n) := by
    have st := e_M_thrown 195 (zup I 195 0 k0) R n
    rw [zis_lit (by omega) (by decide), zc_t, zup_s] at st
    rw [show z_ml 166 = 1 by decide +kernel]
    exact st
  refine zl_step (O := zOg ao cL g) (vs := []) (rest := []) (r := (some (.int k0), zup I 195 0 k0, R, n)) hx hb hml hown hts E zOg_fr (List.mem_of_getElem? q8) q1 (by rw [q2]; decide) q3 (by omega) (by omega) (by rw [q6]; rfl) (by rw [q2]; exact zis_lit (by omega) (by decide)) hn.2 (ec := ec + mc) (es := es + ms) (by omega) (by omega) q7 rt w2 (fun v hv => by cases hv) hl2.1 (by decide) d407 (fun ad3 H3 locs3 g3 w3 => ?_)
  have e0'' : ad3 0 = ad 0 := (g3 0 (Or.inl (by omega))).trans e0'
  have e195'' : ad3 195 = ad 195 := (g3 195 (Or.inl (by omega))).trans e195'
  refine lv_iload hx hb d410 (lv_at hl2 1 rfl) ?_
  refine lv_icmp_eq (tgt := 417) hx hb d412 (by decide) (fun _ => ?_) (fun c => absurd rfl c)
  have hend : W p l e Rm s mid args below meth c H3 locs3 (n + (ec + mc)) (zs n + (es + ms)) Q (F0 mid 434 la2 []) := by
    refine lv_goto (tgt := 1556) hx hb d434 (by decide) ?_
    refine W.widen (k := n + (ec + 1)) (n := zs n + (es + 6)) (by omega) (by omega) ?_
    refine k _ R n ad3 H3 locs3 la2 (zInv_t h k0) e0'' e195'' ⟨w3.1, w3.2.1, w3.2.2.1, w3.2.2.2.1, w3.2.2.2.2.1, w3.2.2.2.2.2.1, ⟨g, w3.2.2.2.2.2.2.1⟩, w3.2.2.2.2.2.2.2⟩ (lv_sub hl2 [2, 3, 4, 5, 6] rfl)
  refine lv_iload hx hb d417 (lv_at hl2 1 rfl) ?_
  refine lv_if_ne (tgt := 434) hx hb d419 (by decide) (fun _ => hend) (fun hk => ?_)
  have hk' : k0 = 0 := hk
  refine lv_aload_n hx hb d422 rfl (lv_at hl2 3 rfl) ?_
  refine lv_iconst (v := 0) hx hb d423 (by decide) ?_
  have hO3 : H3[ao]? = some (vp_cell cL (1, .inr (.inl g))) := w3.2.2.2.2.2.2.1
  refine W.lald (v := .long (g 0)) hx hb hO3 (hAr 1 (fun j => .long (g j))) (fun q => by cases q) (by show ¬ ((0 : Int32) < 0 ∨ (arrV _ _ _).slots.size ≤ _); rw [arrV_size]; show ¬ ((0 : Int32) < 0 ∨ 1 ≤ (0 : Int32).toNatClampNeg); decide) (by show (arrV _ _ _).slots[_]? = _; rw [arrV_read _ _ (show (0 : Int32).toNatClampNeg < 1 by decide)]; rfl) rfl rfl d424 ?_
  refine lv_iload (pc := 425) hx hb d425 (lv_at hl2 0 rfl) ?_
  refine lv_i2l (v := v2.toInt64) hx hb d427 rfl ?_
  refine W.lcmp hx hb d428 ?_
  refine lv_if_eq (tgt := 434) hx hb d429 (by decide) (fun _ => hend) (fun hc => absurd ?_ hc)
  rw [hk0 hk']
  unfold lg_cmp
  simp
theorem zl_p5 (C : zLc p Rm s mid args c D tc ad0 b L ao xs (zOo ao cL) (ec + 1) (es + 6)) (hst : l.stackTraces = false) (hXe : zXe s.heap.size s s.heap) (hAr : ArrOfT s cL .long) (hab : s.heap.size ≤ ao) {i q : Nat} {I : ZI} {R : ZR} {n : Nat} (hia : i + 5 < L) (h : zInv q I R n) {ad : Nat → Nat} {H : Heap} {locs : List Loc} {la : Array Slot}
    (hw : zLw D tc s ad0 ao (zOo ao cL) I R n ad H locs) (hl : zLl b ao ad i la)
    (k : ∀ (I2 : ZI) (R2 : ZR) (n2 : Nat) (ad' : Nat → Nat) (H' : Heap) (locs' : List Loc) (la' : Array Slot), zInv (q + 1) I2 R2 n2 → ad' 0 = ad 0 → ad' 195 = ad 195 → zLw D tc s ad0 ao (zOo ao cL) I2 R2 n2 ad' H' locs' → zLl b ao ad i la' → W p l e Rm s mid args below meth c H' locs' (n2 + (ec + 1)) (zs n2 + (es + 6)) Q (F0 mid 1556 la' [])) : W p l e Rm s mid args below meth c H locs (n + ec) (zs n + es) Q (F0 mid 369 la []) := by
  obtain ⟨hP, hD, hS, hpu, hag, ho1, ⟨f, hO⟩, ho3⟩ := hw
  have hn := (zInv_n h).1
  have hw' : zLw D tc s ad0 ao (zOg ao cL f) I R n ad H locs := ⟨hP, hD, hS, hpu, hag, ho1, hO, ho3⟩
  rcases p_player h (xs (i + 1)) (xs (i + 2)) with ⟨v, r1, r2⟩ | ⟨⟨v1, r1, hbad⟩, r2⟩
  · exact zl_p5g C hXe hAr hab (mc := 0) (ms := 0) (by decide) (by decide) hia h (zp_ok hpu hn r1 ad H.size ao cL f) r2 (fun _ => by simp [vp_updL]) hw' hl k
  · exact zl_p5g C hXe hAr hab (mc := 1) (ms := 6) (by decide) (by decide) hia h (zp_thr hst hpu hn r1 hbad ad H.size ao cL f) r2 (fun q => absurd q (by decide)) hw' hl k
end XX3
