/-! ===== SalaryLid.player where it throws ===== -/
abbrev zxE : String := "java/util/NoSuchElementException"
abbrev zxN : List String := ["java/lang/RuntimeException", "java/lang/Exception"]
def zxA : List Cond := vx_at0 RX8 133 zxE zxN
abbrev zx_bad : List Cond := [.declares ⟨"java/lang/RuntimeException", "<init>", "()V"⟩, .declares ⟨"java/lang/Exception", "<init>", "()V"⟩, .declares ⟨"java/lang/Throwable", "<init>", "()V"⟩, .castable zxE zxE]
def zx_ps : List Nat := [141, 1317, 1326, 1328, 1331, 1333, 1318, 1319, 152, 153, 1320, 1325, 1329, 1345, 1307, 1346, 1309, 1347, 1311, 1321, 1323, 1313, 1335, 1336, 1337, 1338, 1298, 1338, 1339, 1340, 1341, 1300, 1341, 1342, 1343, 1318, 1302, 1334, 1296, 1297, 1304, 1305, 1306, 1308, 1310, 1312, 1316, 1315, 1314]
set_option maxRecDepth 100000 in
theorem zx_at : zxA = zx_ps.filterMap (fun i => lw_tbl[i]?) := by decide +kernel
set_option maxRecDepth 100000 in
theorem zx_sp : zxA.all (fun w => goodWord w || decide (w ∈ zx_bad)) = true := by decide +kernel
set_option maxRecDepth 100000 in
theorem zx_ot : (Cond.classLink RX8 131 zxE :: Cond.initialized zxE :: zxA).all vx_ot = true := by decide +kernel
theorem zx_badt : ∀ w ∈ zx_bad, w.onTables = true := by
  intro w hw
  rcases List.mem_cons.mp hw with rfl | hw
  · rfl
  rcases List.mem_cons.mp hw with rfl | hw
  · rfl
  rcases List.mem_cons.mp hw with rfl | hw
  · rfl
  rcases List.mem_cons.mp hw with rfl | hw
  · rfl
  cases hw
theorem zx_badw {s U : State} (hW : s.WarmedH U.vm) (h : ∀ w ∈ zx_bad, va_Nw w s) : ∀ w ∈ zx_bad, va_Nw w U := by
  intro w hw
  have h1 := h w hw
  rcases List.mem_cons.mp hw with rfl | hw
  · exact va_Nw.warmD hW h1
  rcases List.mem_cons.mp hw with rfl | hw
  · exact va_Nw.warmD hW h1
  rcases List.mem_cons.mp hw with rfl | hw
  · exact va_Nw.warmD hW h1
  rcases List.mem_cons.mp hw with rfl | hw
  · exact va_Nw.warmC hW h1
  cases hw
/-- what a throw needs of the heap and of the tables -/
def zXe (base : Nat) (U : State) (H : Heap) : Prop := vx_Zq Bundle.tN "UNASSIGNED_STACK" Bundle.steD (zB0 base) U H ∧ vx_Zq Bundle.tN "SUPPRESSED_SENTINEL" Bundle.listD (zB0 base) U H ∧ ∀ w ∈ zx_bad, va_Nw w U
theorem zXe.to {base : Nat} {s U : State} {H H1 : Heap} (h : zXe base s H) (hW : s.WarmedH U.vm) (hq : ∀ a : Nat, a < H.size → ¬ zB0 base a → H1[a]? = H[a]?) : zXe base U H1 := ⟨vx_Zq.kept (vx_Zq.moved hW.alike h.1) hq, vx_Zq.kept (vx_Zq.moved hW.alike h.2.1) hq, zx_badw hW h.2.2⟩
theorem zXe.same {base : Nat} {s U : State} {H : Heap} (h : zXe base s H) (hv : U.vm = s.vm) : zXe base U H := by
  have ha : s.vm.Alike U.vm := by rw [hv]; exact Vm.Alike.refl _
  exact ⟨vx_Zq.moved ha h.1, vx_Zq.moved ha h.2.1, fun w hw => va_Nw.same (zx_badt w hw) hv.symm (h.2.2 w hw)⟩
def zPx (base : Nat) (D : va_G) (tc : Nat → ClassId) (ad : Nat → Nat) (I : ZI) (R : ZR) (n sz : Nat) (vs : List Value) : Array Value → State → Prop := fun a U => zPc base D tc ad I R n sz vs a U ∧ zXe base U U.heap
theorem zPx_blind {base : Nat} {D : va_G} {tc : Nat → ClassId} {ad : Nat → Nat} {I : ZI} {R : ZR} {n sz : Nat} {vs : List Value} : FrameBlind (zPx base D tc ad I R n sz vs) := fun a U g mk h => ⟨zPc_blind a U g mk h.1, h.2.same rfl⟩
/-- what is true where it has thrown -/
def zXc (D : va_G) (tc : Nat → ClassId) (ad : Nat → Nat) (I : ZI) (R : ZR) (n sz : Nat) : String → State → State → Prop := fun E st t => E = zxE ∧ (∃ ad' : Nat → Nat, zag n ad ad' ∧ va_P D vwCl (zwl tc ad' I R n) t.heap ∧ va_D (va_A (zwl tc ad I R n) sz) (zwl tc ad' I R n)) ∧ va_F (va_A (zwl tc ad I R n) sz) st t
def zx_rm : Room := { frames := 8, cells := 1, slots := 6, locals := 150 }
theorem zx_d : decode (z_by 116) 0 = .ok (.aload_n 0, 1) ∧ decode (z_by 116) 1 = .ok (.iload_n 1, 1) ∧ decode (z_by 116) 2 = .ok (.invokevirtual 127, 3) ∧ decode (z_by 116) 5 = .ok (.ifCond .eq 12, 3) ∧ decode (z_by 116) 8 = .ok (.iload_n 2, 1) ∧ decode (z_by 116) 9 = .ok (.ifCond .lt 8, 3) ∧ decode (z_by 116) 12 = .ok (.iload_n 2, 1) ∧ decode (z_by 116) 13 = .ok (.iconst 5, 1) ∧ decode (z_by 116) 14 = .ok (.if_icmp .le 11, 3) ∧ decode (z_by 116) 17 = .ok (.new 131, 3) ∧ decode (z_by 116) 20 = .ok (.dup, 1) ∧ decode (z_by 116) 21 = .ok (.invokespecial 133, 3) ∧ decode (z_by 116) 24 = .ok (.athrow, 1) := ⟨by decide +kernel, by decide +kernel, by decide +kernel, by decide +kernel, by decide +kernel, by decide +kernel, by decide +kernel, by decide +kernel, by decide +kernel, by decide +kernel, by decide +kernel, by decide +kernel, by decide +kernel⟩
theorem zx_num : z_fr 116 ≤ 8 ∧ z_lo 116 ≤ 150 ∧ z_ml 116 = 3 ∧ z_own 116 = 8 ∧ z_cn 8 = RX8 ∧ zhM (z_own 116) 127 160 = true ∧ z_oc 160 = 8 ∧ z_in 160 = false ∧ zroom 116 160 = true ∧ z_np 160 = 2 ∧ z_ml 160 = 2 := by decide +kernel
theorem zx_lk : lw_tbl[1295]? = some (.classLink RX8 131 zxE) ∧ lw_tbl[144]? = some (.initialized zxE) := ⟨by decide +kernel, by decide +kernel⟩
section XX1
variable {l : Launch} {base : Nat} {D : va_G} {tc : Nat → ClassId}
theorem zx_thr (hst : l.stackTraces = false) {x y v1 : Int32} {I : ZI} {R : ZR} {n : Nat} (hpu : zpure I R n) (hn : 218 ≤ n) (h1 : C_isPlayer 0 x I R n = some (some (.int v1), I, R, n)) (hbad : v1 = 0 ∨ y < 0 ∨ 5 < y) (ad : Nat → Nat) (sz : Nat) :
    vx_Met l (z_y 116) (zW 116) zx_rm (zPx base D tc ad I R n sz [.ref 0, .int x, .int y]) (fun _ _ _ _ => False) (zXc D tc ad I R n sz) 1 6 (va_A (zwl tc ad I R n) sz) := by
  obtain ⟨y1, y2, y3, y4, y5, y6, y7⟩ := zy_ok 116 (by decide)
  obtain ⟨d0, d1, d2, d5, d8, d9, d12, d13, d14, d17, d20, d21, d24⟩ := zx_d
  obtain ⟨nf, nl, nml, now_, ncn, nM, noc, nin, nro, nnp, nml2⟩ := zx_num
  refine vx_ofW (cc := z_by 116) (maxL := z_ml 116) (ret := z_ret 116) y6 rfl ?_
  intro p e s m args below meth c s₁ B hml hT hv
  obtain ⟨⟨rfl, hsz, hP, hD, hbs, E⟩, hXe⟩ := hv
  subst hsz
  have hts := atoms_spec (ws := zW 116) B.pre
  have hown : s.vm.findClass (z_cn (z_own 116)) = some m.cls := by rw [← y2]; exact findClass_of_methodNamed B.named
  have X : zCx p s m (([.ref 0, .int x, .int y] : List Value).map (ztr ad)).toArray meth c 116 := ⟨B.exec, B.bytes, B.returns, hml, hown, hts, B.notSynchronized, (name_of_methodNamed B.named B.method).1, by decide⟩
  have hAb : ∀ q, va_A (zwl tc ad I R n) s.heap.size q → base ≤ q := by
    intro q hq
    rcases hq with ⟨k, en, hk⟩ | hq
    · exact hD.2 k (q, en) hk
    · exact Nat.le_trans hbs hq
  have hvs : ∀ v ∈ ([.ref 0, .int x, .int y] : List Value), zwv n v := by
    intro v hv
    rcases List.mem_cons.mp hv with rfl | hv
    · exact zwv_ref (Or.inl (by omega))
    rcases List.mem_cons.mp hv with rfl | hv
    · exact zwv_int _ _
    rcases List.mem_cons.mp hv with rfl | hv
    · exact zwv_int _ _
    cases hv
  have hl := lv_entry (([.ref 0, .int x, .int y] : List Value).map (ztr ad)) (n := z_ml 116) (by rw [lg_len, nml]; exact Nat.le_refl 3)
  rw [lg_entry_eq]
  generalize (lg_sl (([.ref 0, .int x, .int y] : List Value).map (ztr ad)) ++ List.replicate (z_ml 116 - (lg_sl (([.ref 0, .int x, .int y] : List Value).map (ztr ad))).length) Slot.unset).toArray = la at hl ⊢
  obtain ⟨g1, g2⟩ := zloc_spec ad [.ref 0, .int x, .int y] (z_ml 116) (fun v hv => (hvs v hv).2) (by rw [nml]; exact Nat.le_refl 3)
  have S : zSt D tc (va_A (zwl tc ad I R n) s.heap.size) s ad n 116 ad (zloc (z_ml 116) [.ref 0, .int x, .int y]) [] I R n s.heap [] la :=
    ⟨hP, hD.self, va_S.rf, hpu, (fun v hv => absurd hv List.not_mem_nil), fun i v hv => ⟨hvs v (g2 i v hv).1, by have := hl.2.2 (0 + i, ztr ad v) ((g2 i v hv).2 0); rw [Nat.zero_add] at this; exact this⟩, ⟨hl.1, g1, hl.2.1⟩, Nat.le_refl _, zag.rf _ _⟩
  have hloc : zloc (z_ml 116) [.ref 0, .int x, .int y] = [some (.ref 0), some (.int x), some (.int y)] := by rw [nml]; rfl
  rw [hloc] at S
  have hthrow : zGo p l e zx_rm s m (([.ref 0, .int x, .int y] : List Value).map (ztr ad)).toArray below meth c (vx_MQ below (fun _ _ _ _ => False) (zXc D tc ad I R n s.heap.size) (([.ref 0, .int x, .int y] : List Value).map (ztr ad)).toArray s 1 6 (va_A (zwl tc ad I R n) s.heap.size)) D tc (va_A (zwl tc ad I R n) s.heap.size) ad n 116 17 [some (.ref 0), some (.int x), some (.int y)] [] I R n := by
    intro ad2 H2 locs2 la2 S2
    rw [Nat.sub_self, Nat.sub_self]
    refine vx_throw0 (A := va_A (zwl tc ad I R n) s.heap.size) (names := zxN) (cls := zxE) X.1 X.2.1 hst (own := RX8) (ik := 131) (ic := 133) (by rw [← ncn, ← now_]; exact X.2.2.2.2.1) (by decide +kernel) (by decide +kernel) (hts _ (zW_at zx_lk.1 rfl)) (hts _ (zW_at zx_lk.2 rfl)) ?_ ?_ (hXe.1.narrow hAb) (hXe.2.1.narrow hAb) S2.2.2.1 (by rw [S2.2.2.2.2.2.2.1.1]; exact hml.symm) d17 d20 d21 d24 (fun q hq => (hT q hq).elim) (by decide) (by show 0 + (13 * 3 + 42) ≤ 150; decide) (by decide) (by decide) X.2.2.2.2.2.2.1 ?_ S2.2.2.1.2.2 (by decide) (by decide)
    · intro w hw
      have hg := List.all_eq_true.mp zx_sp w hw
      rw [Bool.or_eq_true] at hg
      rcases hg with hg | hg
      · have hw' : w ∈ zxA := hw
        rw [zx_at] at hw'
        obtain ⟨i, -, hi⟩ := List.mem_filterMap.mp hw'
        exact hts _ (zW_at hi hg)
      · have hb := of_decide_eq_true hg
        exact va_Nw.use (zx_badt w hb) (hXe.2.2 w hb)
    · intro w hw
      exact List.all_eq_true.mp zx_ot w hw
    · intro t hvm hz hq
      refine ⟨rfl, ⟨ad2, S2.2.2.2.2.2.2.2.2, S2.1.kept (fun k q hk => hq q.1 ((S2.1 k q hk).lt)), S2.2.1⟩, Nat.le_trans S2.2.2.1.1 hz, fun q g1 g2 => (hq q (Nat.lt_of_lt_of_le g1 S2.2.2.1.1)).trans (S2.2.2.1.2.1 q g1 g2)⟩
  have hgo : zGo p l e zx_rm s m (([.ref 0, .int x, .int y] : List Value).map (ztr ad)).toArray below meth c (vx_MQ below (fun _ _ _ _ => False) (zXc D tc ad I R n s.heap.size) (([.ref 0, .int x, .int y] : List Value).map (ztr ad)).toArray s 1 6 (va_A (zwl tc ad I R n) s.heap.size)) D tc (va_A (zwl tc ad I R n) s.heap.size) ad n 116 2 [some (.ref 0), some (.int x), some (.int y)] ((.ref 0 :: [.int x]).reverse ++ []) I R n := by
    refine za_callV (y := 160) (r := (some (.int v1), I, R, n)) X E hAb (fun q h => Or.inr h) hbs nf nl d2 nM (by rw [noc]; decide) nin nro (by rw [nnp]; rfl) (by decide) (by rw [noc]; exact zis_lit (by omega) (by decide)) (Nat.le_refl _) (by show n - n ≤ 1; omega) (by show zs n - zs n ≤ 6; omega) (Nat.le_refl _) (zmet (by decide) (by rw [nml2]; exact Nat.le_refl 2) (by rw [nml2]; exact h1)) ?_
    intro ad2 H2 locs2 la2 S2
    have S3 := S2.pop
    refine lv_if_eq (tgt := 17) X.1 X.2.1 d5 (by decide) (fun _ => hthrow ad2 H2 locs2 la2 S3) (fun hv => ?_)
    refine lv_iload_n X.1 X.2.1 d8 rfl ((S2.2.2.2.2.2.1 2 (.int y) rfl).2) ?_
    refine lv_if_lt (tgt := 17) X.1 X.2.1 d9 (by decide) (fun _ => hthrow ad2 H2 locs2 la2 S3) (fun hy0 => ?_)
    refine lv_iload_n X.1 X.2.1 d12 rfl ((S2.2.2.2.2.2.1 2 (.int y) rfl).2) ?_
    refine lv_iconst (v := 5) X.1 X.2.1 d13 (by decide) ?_
    refine lv_icmp_le (tgt := 25) X.1 X.2.1 d14 (by decide) (fun hy5 => ?_) (fun _ => hthrow ad2 H2 locs2 la2 S3)
    rcases hbad with h | h | h
    · exact absurd h hv
    · exact absurd h hy0
    · exact absurd h (by rw [Int32.not_lt]; exact hy5)
  have hfin := hgo ad s.heap [] la ((S.push (hvs _ List.mem_cons_self)).push (hvs (.int x) (List.mem_cons_of_mem _ List.mem_cons_self)))
  rw [Nat.sub_self, Nat.sub_self] at hfin
  refine lv_aload_n X.1 X.2.1 d0 rfl ((S.2.2.2.2.2.1 0 (.ref 0) rfl).2) ?_
  refine lv_iload_n X.1 X.2.1 d1 rfl ((S.2.2.2.2.2.1 1 (.int x) rfl).2) ?_
  exact hfin
end XX1
