/-! ===== the law's own player: it calls SalaryLid.player, and catches what it throws ===== -/
def zp_ws : List Cond := Cond.codeWith yL_player cL_player 5 (some .int) [(0, 10, 13, 13)] :: z_ws
theorem zp_t : lw_tbl[1289]? = some (Cond.codeWith yL_player cL_player 5 (some .int) [(0, 10, 13, 13)]) ∧ lw_tbl[1290]? = some (Cond.classLink RL 13 zxE) ∧ lw_tbl[1291]? = some (Cond.methodLink RL 7 (z_y 116)) ∧ lw_tbl[1287]? = some (Cond.methodLink RL 43 yL_player) ∧ lw_tbl[1288]? = some (Cond.static yL_player) ∧ lw_tbl[123]? = some (Cond.initialized RL) := ⟨by decide +kernel, by decide +kernel, by decide +kernel, by decide +kernel, by decide +kernel, by decide +kernel⟩
theorem zp_at {w : Cond} {i : Nat} (h : lw_tbl[i]? = some w) (hg : goodWord w = true) : w ∈ zp_ws := List.mem_cons_of_mem _ (z_ws_at h hg)
theorem zp_good {y : Nat} (hy : y < 283) : GoodIn zp_ws (zW y) := by
  intro w hw
  have hz : w ∈ z_ws := by
    rcases List.mem_cons.mp hw with h | h
    · rw [h]; exact z_ws_at (zcd y hy) rfl
    · exact h
  exact ⟨List.mem_cons_of_mem _ hz, good_of_word (List.mem_filter.mp hz).2⟩
theorem zp_goodL : GoodIn lw_tbl zp_ws := by
  intro w hw
  have hz : w ∈ z_ws := by
    rcases List.mem_cons.mp hw with h | h
    · rw [h]; exact z_ws_at zp_t.1 rfl
    · exact h
  exact ⟨(List.mem_filter.mp hz).1, good_of_word (List.mem_filter.mp hz).2⟩
theorem zp_d : decode cL_player 0 = .ok (.aload_n 3, 1) ∧ decode cL_player 1 = .ok (.iconst 0, 1) ∧ decode cL_player 2 = .ok (.aload_n 0, 1) ∧ decode cL_player 3 = .ok (.iload_n 1, 1) ∧ decode cL_player 4 = .ok (.iload_n 2, 1) ∧ decode cL_player 5 = .ok (.invokevirtual 7, 3) ∧ decode cL_player 8 = .ok (.i2l, 1) ∧ decode cL_player 9 = .ok (.lastore, 1) ∧ decode cL_player 10 = .ok (.goto 7, 3) ∧ decode cL_player 13 = .ok (.astore 4, 2) ∧ decode cL_player 15 = .ok (.iconst 1, 1) ∧ decode cL_player 16 = .ok (.ireturn, 1) ∧ decode cL_player 17 = .ok (.iconst 0, 1) ∧ decode cL_player 18 = .ok (.ireturn, 1) := ⟨by decide +kernel, by decide +kernel, by decide +kernel, by decide +kernel, by decide +kernel, by decide +kernel, by decide +kernel, by decide +kernel, by decide +kernel, by decide +kernel, by decide +kernel, by decide +kernel, by decide +kernel, by decide +kernel⟩
def zp_rm (mc ms : Nat) : Room := { frames := 9, cells := mc, slots := ms, locals := 200 }
def zp_A (tc : Nat → ClassId) (ad : Nat → Nat) (I : ZI) (R : ZR) (n sz ao : Nat) : Nat → Prop := fun q => va_A (zwl tc ad I R n) sz q ∨ q = ao
def zPp (base : Nat) (D : va_G) (tc : Nat → ClassId) (ad : Nat → Nat) (I : ZI) (R : ZR) (n sz ao : Nat) (cL : ClassId) (f : Nat → Int64) (x y : Int32) : Array Value → State → Prop :=
  va_Pc [.ref (ad 0), .int x, .int y, .ref ao] (fun U => U.heap.size = sz ∧ va_P D vwCl (zwl tc ad I R n) U.heap ∧ va_D (zB0 base) (zwl tc ad I R n) ∧ base ≤ sz ∧ zEnv base D tc ad U U.heap ∧ zXe base U U.heap ∧ ArrOfT U cL .long ∧ U.heap[ao]? = some (vp_cell cL (1, .inr (.inl f))) ∧ ∀ a, a < n → ad a ≠ ao)
def zQp (D : va_G) (tc : Nat → ClassId) (ad : Nat → Nat) (I : ZI) (R : ZR) (n sz ao : Nat) (cL : ClassId) (k : Int32) (g : Nat → Int64) : Array Value → State → Outcome → State → Prop := fun _ st o t =>
  o = .returned (some (.int k)) ∧ (∃ ad' : Nat → Nat, zag n ad ad' ∧ va_P D vwCl (zwl tc ad' I R n) t.heap ∧ va_D (va_A (zwl tc ad I R n) sz) (zwl tc ad' I R n)) ∧ t.heap[ao]? = some (vp_cell cL (1, .inr (.inl g))) ∧ va_F (zp_A tc ad I R n sz ao) st t
theorem zPp_blind {base : Nat} {D : va_G} {tc : Nat → ClassId} {ad : Nat → Nat} {I : ZI} {R : ZR} {n sz ao : Nat} {cL : ClassId} {f : Nat → Int64} {x y : Int32} : FrameBlind (zPp base D tc ad I R n sz ao cL f x y) := by
  intro a U g mk h
  obtain ⟨h1, h2, h3, h4, h5, h6, h7, h8, h9⟩ := h
  exact ⟨h1, h2, h3, h4, h5, h6.same rfl, h7.same rfl, arrOfT_moved (E := U.calling g mk a) (Vm.Alike.refl U.vm) h8, h9⟩
theorem zna {tc : Nat → ClassId} {ad : Nat → Nat} {I : ZI} {R : ZR} {n sz ao : Nat} (hs : ao < sz) (h : ∀ a, a < n → ad a ≠ ao) : ¬ va_A (zwl tc ad I R n) sz ao := by
  rintro (⟨j, en, hj⟩ | hq)
  · have hjn : j < n := by
      rcases Nat.lt_or_ge j n with q | q
      · exact q
      · rw [List.getElem?_eq_none (by rw [zwl_len]; exact q)] at hj; cases hj
    rw [zwl_get hjn] at hj
    injection hj with hj
    injection hj with hj1 hj2
    exact h j hjn hj1
  · omega
section XX2
variable {l : Launch} {base : Nat} {D : va_G} {tc : Nat → ClassId}
theorem zp_ok {x y v : Int32} {I : ZI} {R : ZR} {n : Nat} (hpu : zpure I R n) (hn : 218 ≤ n) (hrun : C_player 0 x y I R n = some (some (.int v), I, R, n)) (ad : Nat → Nat) (sz ao : Nat) (cL : ClassId) (f : Nat → Int64) :
    vx_Met l yL_player zp_ws (zp_rm 0 0) (zPp base D tc ad I R n sz ao cL f x y) (zQp D tc ad I R n sz ao cL 0 (vp_updL f 0 v.toInt64)) (fun _ _ _ => False) 0 0 (zp_A tc ad I R n sz ao) := by
  obtain ⟨d0, d1, d2, d3, d4, d5, d8, d9, d10, -, -, -, d17, d18⟩ := zp_d
  obtain ⟨nf, nl, nml, now_, ncn, -⟩ := zx_num
  obtain ⟨y1, y2, y3, y4, y5, y6, y7⟩ := zy_ok 116 (by decide)
  refine vx_ofWH (cc := cL_player) (maxL := 5) (ret := some .int) (by decide +kernel) rfl ?_
  intro p e s m args below meth c s₁ B hml hv
  obtain ⟨rfl, hsz, hP, hD, hbs, E, hXe, hAr, hO, hna⟩ := hv
  subst hsz
  have hx := B.exec
  have hb := B.bytes
  have hts := atoms_spec (ws := zp_ws) B.pre
  have hown : s.vm.findClass RL = some m.cls := findClass_of_methodNamed B.named
  have aolt : ao < s.heap.size := (Array.getElem?_eq_some_iff.mp hO).1
  have hnA := zna (tc := tc) (I := I) (R := R) aolt hna
  have hl := lv_entry [.ref (ad 0), .int x, .int y, .ref ao] (n := 5) (Nat.le_of_ble_eq_true rfl)
  rw [lg_entry_eq]
  generalize (lg_sl [.ref (ad 0), .int x, .int y, .ref ao] ++ List.replicate (5 - (lg_sl [.ref (ad 0), .int x, .int y, .ref ao]).length) Slot.unset).toArray = la at hl ⊢
  have hl : lv_has la 5 [(0, .ref (ad 0)), (1, .int x), (2, .int y), (3, .ref ao)] := hl
  refine lv_aload_n hx hb d0 rfl (lv_at hl 3 rfl) ?_
  refine lv_iconst (v := 0) hx hb d1 (by decide) ?_
  refine lv_aload_n hx hb d2 rfl (lv_at hl 0 rfl) ?_
  refine lv_iload_n hx hb d3 rfl (lv_at hl 1 rfl) ?_
  refine lv_iload_n hx hb d4 rfl (lv_at hl 2 rfl) ?_
  have hvr : ∀ v ∈ ([.ref 0, .int x, .int y] : List Value), zwv n v := by
    intro v hv
    rcases List.mem_cons.mp hv with rfl | hv
    · exact zwv_ref (Or.inl (by omega))
    rcases List.mem_cons.mp hv with rfl | hv
    · exact zwv_int _ _
    rcases List.mem_cons.mp hv with rfl | hv
    · exact zwv_int _ _
    cases hv
  have hmet : zMet l base D tc 116 [.ref 0, .int x, .int y] I R n (some (.int v), I, R, n) := zmet (by decide) (by rw [nml]; exact Nat.le_refl 3) (by rw [nml]; exact hrun)
  have hME := hmet hpu hvr ad s.heap.size
  have he := zwl_get (tc := tc) (ad := ad) (I := I) (R := R) (show 0 < n by omega)
  rw [zent_obj (a := 8) (by decide) (by decide)] at he
  have hpre : PreV s s.heap (z_y 116).cls (ad 0) (zPc base D tc ad I R n s.heap.size [.ref 0, .int x, .int y]) [.int x, .int y] :=
    ⟨zPc_blind, by have := va_recv E.1 hP (zvw_ok 8 (by decide)) he; rw [y2, now_]; exact this, fun U hU hW => ⟨rfl, by rw [hU], by rw [hU]; exact hP, hD, hbs, by rw [hU]; exact E.to hW (fun _ _ _ => rfl)⟩⟩
  have hcb : CallB (zp_rm 0 0) s ([.ref (ad 0), .int x, .int y, .ref ao] : List Value).toArray RL 7 (z_y 116) (z_by 116) (z_ml 116) (z_ret 116) (zW 116) (zrm2 116 n n) (n - n) (zs n - zs n) 2 :=
    callB_of _ hts (zp_good (by decide)) rfl rfl rfl (hts _ (zp_at (zq2_ok 116 (by decide)) rfl)) (hts _ (zp_at zp_t.2.2.1 rfl)) ⟨y3, y4, y5⟩ ⟨by show z_fr 116 + 1 ≤ 9; omega, by show 8 + (z_ml 116 + 11) + z_lo 116 ≤ 200; omega⟩
  have hinst : (Cond.instanceMethod (z_y 116)).before ([.ref (ad 0), .int x, .int y, .ref ao] : List Value).toArray s = true := hts _ (zp_at (zq1_ok 116 (by decide)) rfl)
  have hsel : (Cond.selects (z_y 116).cls (z_y 116) (z_y 116)).before ([.ref (ad 0), .int x, .int y, .ref ao] : List Value).toArray s = true := by
    rcases zq3_ok 116 (by decide) with h | h | h
    · exact absurd h (by decide)
    · exact absurd h (by decide)
    · exact hts _ (zp_at h rfl)
  have hAA : ∀ q, va_A (zwl tc ad I R n) s.heap.size q → zp_A tc ad I R n s.heap.size ao q := fun q h => Or.inl h
  refine zl_after (A := zp_A tc ad I R n s.heap.size ao) (r := (some (.int v), I, R, n)) (a := (Value.ref (ad 0) :: [.int x, .int y]).toArray) (rest := [.int 0, .ref ao]) (kc := 0) (ks := 0) (fun q h => Or.inl (Or.inr h)) hP (hD.self.weaken (fun _ q _ h => hAA q.1 h)) va_S.rf
    (va_runV (As := [.int x, .int y]) ⟨hx, hb, hml, hown, hts⟩ hME ⟨hcb, hinst, hsel⟩ hpre rfl rfl hl.1 rfl (lv_room (show 1 + (1 + 0) ≤ 8 by decide)) d5 ⟨by show 0 + (n - n) ≤ 0; omega, by show 0 + (zs n - zs n) ≤ 0; omega⟩) (fun ad' H' locs' g1 g2 g3 g4 g5 g6 g7 g8 g9 => ?_)
  refine W.widen (k := 0) (n := 0) (by show 0 + (n - n) ≤ 0; omega) (by show 0 + (zs n - zs n) ≤ 0; omega) ?_
  have hO' : H'[ao]? = some (vp_cell cL (1, .inr (.inl f))) := by rw [g9 ao aolt hnA]; exact hO
  refine lv_i2l (v := v.toInt64) hx hb d8 rfl ?_
  refine W.last (j := 0) (x := v.toInt64) hx hb hO' (hAr 1 (fun j => .long (f j))) (fun q => by cases q) (by show ¬ ((0 : Int32) < 0 ∨ (arrV _ _ _).slots.size ≤ _); rw [arrV_size]; show ¬ ((0 : Int32) < 0 ∨ 1 ≤ (0 : Int32).toNatClampNeg); decide) rfl rfl d9 (fun H1 e1 z1 oq => ?_)
  refine lv_goto (pc := 10) (tgt := 17) hx hb d10 (by decide) ?_
  refine lv_iconst (v := 0) hx hb d17 (by decide) ?_
  have g5' := g5.put (k := (0 : Int32).toNatClampNeg) z1 oq (Or.inr rfl)
  have hne : ∀ a, a < n → ad' a ≠ ao := fun a ha q => hnA (by have := g4.2 a _ (zwl_get ha); rw [← q]; exact this)
  refine vx_ret (W.iret hx hb B.returns (fun t ht _ => ⟨rfl, ⟨ad', g1, ?_, g4⟩, ?_, g5'.F ht⟩) g5'.2.2 d18 B.notSynchronized)
  · rw [ht]
    refine g2.kept (fun k q hk => oq q.1 ?_)
    have hkn : k < n := by
      rcases Nat.lt_or_ge k n with w | w
      · exact w
      · rw [List.getElem?_eq_none (by rw [zwl_len]; exact w)] at hk; cases hk
    rw [zwl_get hkn] at hk
    cases hk
    exact hne k hkn
  · rw [ht, e1]
    rw [vp_cell_l, vp_cell_l, arrV_store]
    congr 2
    funext q
    by_cases hq : q = (0 : Int32).toNatClampNeg
    · subst hq
      simp [updV, vp_updL]
    · have hq' : q ≠ 0 := hq
      simp [updV, vp_updL, hq']
theorem zl_afterX {p : Program} {e : Env} {Rm : Room} {s : State} {mid : MethodId} {args : Array Value} {below : List Frame} {meth : Method} {c : Code} {Q : State → Prop} {A : Nat → Prop} {I : ZI} {R : ZR} {n pc : Nat} (hA : ∀ q, s.heap.size ≤ q → A q) {ad : Nat → Nat} {H : Heap} {locs : List Loc} {la : Array Slot} {st0 rest : List Value} {kc ks mc ms : Nat} (hD : va_D A (zwl tc ad I R n)) (hS : va_S A s.heap H locs) {Qa : State → Outcome → State → Prop} (hQ : ∀ a b c, ¬ Qa a b c)
    (run : vx_Run p l e Rm s mid args below meth c H locs kc ks mc ms (F0 mid pc la st0) rest Qa (zXc D tc ad I R n H.size) (va_A (zwl tc ad I R n) H.size))
    (k : ∀ (ad' : Nat → Nat) (H' : Heap) (locs' : List Loc) (q : Addr) (ce : Cell), zag n ad ad' → va_P D vwCl (zwl tc ad' I R n) H' → va_D (va_A (zwl tc ad I R n) H.size) (zwl tc ad' I R n) → va_S A s.heap H' locs' → H.size ≤ H'.size → (∀ q, q < H.size → ¬ va_A (zwl tc ad I R n) H.size q → H'[q]? = H[q]?) → H'[q]? = some ce → ce.vm = .none → s.vm.findClass zxE = some ce.cls → vx_W p l e Rm s mid args below meth c H' locs' (kc + mc) (ks + ms) Q (F0 mid pc la rest) q) : W p l e Rm s mid args below meth c H locs kc ks Q (F0 mid pc la st0) := by
  intro T hT Xs
  rcases run T hT Xs with ⟨v, st₀, t, T', L, h0, X', hL, e1, e2, hq, st⟩ | ⟨q, st₀, t, T', L, E, ce, h0, X', hL, e1, e2, ⟨rfl, ⟨ad', hag, hP', hD'⟩, hF⟩, hce, hcv, hcl, st⟩
  · exact absurd hq (hQ _ _ _)
  · have hAA : ∀ q, va_A (zwl tc ad I R n) H.size q → A q := by
      intro q hq
      rcases hq with ⟨j, en, hj⟩ | hq
      · exact hD.2 j (q, en) hj
      · exact hA q (Nat.le_trans hS.1 hq)
    obtain ⟨k1, k2, k3⟩ := vx_keep h0 e1 hS (fun q _ h => hAA q h) hAA hL hF
    obtain ⟨t2, a1, b1⟩ := k ad' T'.heap (locs ++ L) q ce hag (by rw [e1]; exact hP') hD' k3 k1 k2 (by rw [e1]; exact hce) hcv hcl T' rfl X'
    exact ⟨t2, st.trans a1, b1⟩
theorem zp_thr (hst : l.stackTraces = false) {x y v1 : Int32} {I : ZI} {R : ZR} {n : Nat} (hpu : zpure I R n) (hn : 218 ≤ n) (h1 : C_isPlayer 0 x I R n = some (some (.int v1), I, R, n)) (hbad : v1 = 0 ∨ y < 0 ∨ 5 < y) (ad : Nat → Nat) (sz ao : Nat) (cL : ClassId) (f : Nat → Int64) :
    vx_Met l yL_player zp_ws (zp_rm 1 6) (zPp base D tc ad I R n sz ao cL f x y) (zQp D tc ad I R n sz ao cL 1 f) (fun _ _ _ => False) 1 6 (zp_A tc ad I R n sz ao) := by
  obtain ⟨d0, d1, d2, d3, d4, d5, d8, d9, d10, d13, d15, d16, d17, d18⟩ := zp_d
  obtain ⟨nf, nl, nml, now_, ncn, -⟩ := zx_num
  obtain ⟨y1, y2, y3, y4, y5, y6, y7⟩ := zy_ok 116 (by decide)
  refine vx_ofWH (cc := cL_player) (maxL := 5) (ret := some .int) (by decide +kernel) rfl ?_
  intro p e s m args below meth c s₁ B hml hv
  obtain ⟨rfl, hsz, hP, hD, hbs, E, hXe, hAr, hO, hna⟩ := hv
  subst hsz
  have hx := B.exec
  have hb := B.bytes
  have hts := atoms_spec (ws := zp_ws) B.pre
  have hown : s.vm.findClass RL = some m.cls := findClass_of_methodNamed B.named
  have aolt : ao < s.heap.size := (Array.getElem?_eq_some_iff.mp hO).1
  have hnA := zna (tc := tc) (I := I) (R := R) aolt hna
  have htab := vx_table (x := yL_player) B (hts _ List.mem_cons_self)
  have hl := lv_entry [.ref (ad 0), .int x, .int y, .ref ao] (n := 5) (Nat.le_of_ble_eq_true rfl)
  rw [lg_entry_eq]
  generalize (lg_sl [.ref (ad 0), .int x, .int y, .ref ao] ++ List.replicate (5 - (lg_sl [.ref (ad 0), .int x, .int y, .ref ao]).length) Slot.unset).toArray = la at hl ⊢
  have hl : lv_has la 5 [(0, .ref (ad 0)), (1, .int x), (2, .int y), (3, .ref ao)] := hl
  refine lv_aload_n hx hb d0 rfl (lv_at hl 3 rfl) ?_
  refine lv_iconst (v := 0) hx hb d1 (by decide) ?_
  refine lv_aload_n hx hb d2 rfl (lv_at hl 0 rfl) ?_
  refine lv_iload_n hx hb d3 rfl (lv_at hl 1 rfl) ?_
  refine lv_iload_n hx hb d4 rfl (lv_at hl 2 rfl) ?_
  have hME := zx_thr (l := l) (base := base) (D := D) (tc := tc) hst hpu hn h1 hbad ad s.heap.size
  have he := zwl_get (tc := tc) (ad := ad) (I := I) (R := R) (show 0 < n by omega)
  rw [zent_obj (a := 8) (by decide) (by decide)] at he
  have hpre : PreV s s.heap (z_y 116).cls (ad 0) (zPx base D tc ad I R n s.heap.size [.ref 0, .int x, .int y]) [.int x, .int y] :=
    ⟨zPx_blind, by have := va_recv E.1 hP (zvw_ok 8 (by decide)) he; rw [y2, now_]; exact this, fun U hU hW => ⟨⟨rfl, by rw [hU], by rw [hU]; exact hP, hD, hbs, by rw [hU]; exact E.to hW (fun _ _ _ => rfl)⟩, by rw [hU]; exact hXe.to hW (fun _ _ _ => rfl)⟩⟩
  have hcb : CallB (zp_rm 1 6) s ([.ref (ad 0), .int x, .int y, .ref ao] : List Value).toArray RL 7 (z_y 116) (z_by 116) (z_ml 116) (z_ret 116) (zW 116) zx_rm 1 6 2 :=
    callB_of _ hts (zp_good (by decide)) rfl rfl rfl (hts _ (zp_at (zq2_ok 116 (by decide)) rfl)) (hts _ (zp_at zp_t.2.2.1 rfl)) ⟨y3, y4, y5⟩ ⟨by decide, by show 8 + (z_ml 116 + 11) + 150 ≤ 200; omega⟩
  have hinst : (Cond.instanceMethod (z_y 116)).before ([.ref (ad 0), .int x, .int y, .ref ao] : List Value).toArray s = true := hts _ (zp_at (zq1_ok 116 (by decide)) rfl)
  have hsel : (Cond.selects (z_y 116).cls (z_y 116) (z_y 116)).before ([.ref (ad 0), .int x, .int y, .ref ao] : List Value).toArray s = true := by
    rcases zq3_ok 116 (by decide) with h | h | h
    · exact absurd h (by decide)
    · exact absurd h (by decide)
    · exact hts _ (zp_at h rfl)
  have hAA : ∀ q, va_A (zwl tc ad I R n) s.heap.size q → zp_A tc ad I R n s.heap.size ao q := fun q h => Or.inl h
  refine zl_afterX (A := zp_A tc ad I R n s.heap.size ao) (rest := [.int 0, .ref ao]) (kc := 0) (ks := 0) (mc := 1) (ms := 6) (fun q h => Or.inl (Or.inr h)) (hD.self.weaken (fun _ q _ h => hAA q.1 h)) va_S.rf (fun _ _ _ h => h)
    (vx_runV (As := [.int x, .int y]) ⟨hx, hb, hml, hown, hts⟩ hME ⟨hcb, hinst, hsel⟩ hpre rfl rfl hl.1 rfl (lv_room (show 1 + (1 + 0) ≤ 8 by decide)) d5 ⟨by decide, by decide⟩) (fun ad' H' locs' q ce g1 g2 g4 g5 g8 g9 c1 c2 c3 => ?_)
  have hcast : (Cond.castable zxE zxE).before ([.ref (ad 0), .int x, .int y, .ref ao] : List Value).toArray s = true := va_Nw.use rfl (hXe.2.2 _ (by simp))
  refine vx_catch (own := RL) (name := zxE) (E := zxE) hown [] { startPc := 0, endPc := 10, handlerPc := 13, catchType := 13 } [] htab (fun z hz => by cases hz) (by decide) (by decide) (hts _ (zp_at zp_t.2.1 rfl)) hcast c1 c2 c3 ?_
  refine lv_astore (lv' := [(4, .ref q), (0, .ref (ad 0)), (1, .int x), (2, .int y), (3, .ref ao)]) hx hb d13 hl (by decide) rfl (fun ls hl2 => ?_)
  refine lv_iconst (v := 1) hx hb d15 (by decide) ?_
  refine vx_ret (W.iret hx hb B.returns (fun t ht _ => ⟨rfl, ⟨ad', g1, by rw [ht]; exact g2, g4⟩, by rw [ht, g9 ao aolt hnA]; exact hO, g5.F ht⟩) g5.2.2 d16 B.notSynchronized)
end XX2
