section LL3
variable {p : Program} {l : Launch} {e : Env} {Rm : Room} {s : State} {mid : MethodId} {args : Array Value} {below : List Frame} {meth : Method} {c : Code} {Q : State → Prop}
variable {D : va_G} {tc : Nat → ClassId} {ad0 : Nat → Nat} {b L ao : Nat} {xs : Nat → Int32} {O : Heap → Prop}
theorem run_mono {m pc : Nat} {ls : ZL} {st : List Value} {I : ZI} {R : ZR} {n : Nat} {r : Option Value × ZI × ZR × Nat} (h : run m pc ls st I R n = some r) : n ≤ r.2.2.2 := by
  obtain ⟨k, hk⟩ := (run_iff r).mp h
  exact zmn_ev k m pc ls st I R n r hk
theorem zInv_n {q : Nat} {I : ZI} {R : ZR} {n : Nat} (h : zInv q I R n) : 218 ≤ n ∧ n ≤ 281 := by
  refine ⟨h.1.M.1, ?_⟩
  rcases h.2.2 with k | ⟨_, _, _, _, _, _, _, k⟩
  · have := k.1.1; omega
  · rcases k.1.2.2.2.2.2.2 with y | y <;> omega
/-- the law's world between two calls -/
def zLw (D : va_G) (tc : Nat → ClassId) (s : State) (ad0 : Nat → Nat) (ao : Nat) (O : Heap → Prop) (I : ZI) (R : ZR) (n : Nat) (ad : Nat → Nat) (H : Heap) (locs : List Loc) : Prop := va_P D vwCl (zwl tc ad I R n) H ∧ va_D (zB0 s.heap.size) (zwl tc ad I R n) ∧ va_S (zB0 s.heap.size) s.heap H locs ∧ zpure I R n ∧ zag 0 ad0 ad ∧ (ao < H.size ∧ O H ∧ ∀ a, a < n → ad a ≠ ao)
theorem zl_as_tr (ad : Nat → Nat) (i : Nat) : ∀ a, (zl_as xs i a).map (ztr ad) = zl_as xs i a
  | 0 => rfl
  | a + 1 => by
    show ztr ad (.int (xs (i + (a + 1)))) :: (zl_as xs i a).map (ztr ad) = _
    rw [zl_as_tr ad i a]; rfl
theorem zl_as_len (i : Nat) : ∀ a, (zl_as xs i a).length = a
  | 0 => rfl
  | a + 1 => by show (zl_as xs i a).length + 1 = a + 1; rw [zl_as_len i a]
theorem zl_as_wv (i n : Nat) : ∀ a, ∀ v ∈ zl_as xs i a, zwv n v
  | 0 => fun v h => by cases h
  | a + 1 => fun v h => by
    rcases List.mem_cons.mp h with h | h
    · rw [h]; exact ⟨fun b hb => (nomatch hb), fun x hx => (nomatch hx)⟩
    · exact zl_as_wv i n a v h
/-- one call of the law, in its world -/
theorem zl_step (hx : p.tables.exec = Jvm.exec) (hb : c.code = code) (hml : c.maxLocals = 7) (hown : s.vm.findClass RL = some mid.cls) (hts : ∀ w ∈ lw_tbl, w.before args s = true) (E : zEnv s.heap.size D tc ad0 s s.heap) (hO : ∀ H H' : Heap, H.size ≤ H'.size → H'[ao]? = H[ao]? → O H → O H') {i y o : Nat} (hlk : Cond.methodLink RL i (z_y y) ∈ lw_tbl) (hy : y < 283) (hoc : z_oc y ≠ 50) (hin : z_in y = false) (hRf : z_fr y + 1 ≤ Rm.frames) (hRl : 8 + (z_ml y + 11) + z_lo y ≤ Rm.locals) {vs : List Value} {r : Option Value × ZI × ZR × Nat} (hlen : vs.length + 1 = z_np y) {I : ZI} {R : ZR} {n : Nat} (hi : zis n o (z_oc y) = true) {ec es : Nat} (hn : r.2.2.2 ≤ 281) (hRc : 281 + ec ≤ Rm.cells) (hRs : zs 281 + es ≤ Rm.slots) (hwd : zwords (.ref o :: vs) ≤ z_ml y) (hrun : run y 0 (zloc (z_ml y) (.ref o :: vs)) [] I R n = some r) {ad : Nat → Nat} {H : Heap} {locs : List Loc} {la : Array Slot} {rest : List Value} {pc : Nat} (hw : zLw D tc s ad0 ao O I R n ad H locs) (hvs : ∀ v ∈ vs, zwv n v) (hla : la.size = 7) (hro : ((rest.map fun v => v.category).sum) ≤ 8) (hd : decode code pc = .ok (.invokevirtual i, 3))
    (k : ∀ (ad' : Nat → Nat) (H' : Heap) (locs' : List Loc), zag n ad ad' → zLw D tc s ad0 ao O r.2.1 r.2.2.1 r.2.2.2 ad' H' locs' → W p l e Rm s mid args below meth c H' locs' (r.2.2.2 + ec) (zs r.2.2.2 + es) Q (F0 mid (pc + 3) la (r.1.toList.map (ztr ad') ++ rest))) : W p l e Rm s mid args below meth c H locs (n + ec) (zs n + es) Q (F0 mid pc la ((vs.map (ztr ad)).reverse ++ .ref (ad o) :: rest)) := by
  have hm := run_mono hrun
  have hz := zs_le hm
  have hz2 := zs_le hn
  obtain ⟨hP, hD, hS, hpu, hag, ho1, ho2, ho3⟩ := hw
  refine zl_callV hx hb hml hown hts E hlk hy hoc hin hRf hRl hlen hi (kc := n + ec) (ks := zs n + es) (by omega) (by omega) (zmet hy hwd hrun) hP hD hS hpu hag hvs hla hro hd (fun ad' H' locs' g1 g2 g3 g4 g5 g6 g7 g8 g9 => ?_)
  have hna : ¬ va_A (zwl tc ad I R n) H.size ao := by
    rintro (⟨j, en, hj⟩ | hq)
    · have hjn : j < n := by
        rcases Nat.lt_or_ge j n with q | q
        · exact q
        · rw [List.getElem?_eq_none (by unfold zwl; rw [List.length_map, List.length_range]; exact q)] at hj; cases hj
      rw [zwl_get hjn] at hj
      injection hj with hj
      injection hj with hj1 hj2
      exact ho3 j hjn hj1
    · omega
  have c1 : r.2.2.2 + ec = n + ec + (r.2.2.2 - n) := by omega
  have c2 : zs r.2.2.2 + es = zs n + es + (zs r.2.2.2 - zs n) := by omega
  rw [← c1, ← c2]
  refine k ad' H' locs' g1 ⟨g2, g3, g5, g6, hag.trans (fun a ha => g1 a (by omega)) (Nat.le_refl 0), Nat.lt_of_lt_of_le ho1 g8, hO H H' g8 (g9 ao ho1 hna) ho2, fun a ha e => ?_⟩
  have := g4.2 a (ad' a, zent tc ad' r.2.1 r.2.2.1 a) (zwl_get ha)
  rw [e] at this
  exact hna this
/-- one plain case of the law: both sides called, their answers compared -/
theorem zl_op (hx : p.tables.exec = Jvm.exec) (hb : c.code = code) (hml : c.maxLocals = 7) (hown : s.vm.findClass RL = some mid.cls) (hts : ∀ w ∈ lw_tbl, w.before args s = true) (E : zEnv s.heap.size D tc ad0 s s.heap) (hO : ∀ H H' : Heap, H.size ≤ H'.size → H'[ao]? = H[ao]? → O H → O H') (hX : va_X b L xs s s.heap) (hbl : b < s.heap.size) (hL : L ≤ 3072) (hRf : 12 + 1 ≤ Rm.frames) (hRl : 8 + (30 + 11) + 400 ≤ Rm.locals) {ec es : Nat} (hRc : 281 + ec ≤ Rm.cells) (hRs : zs 281 + es ≤ Rm.slots)
    {i1 y1 i2 y2 : Nat} (lk1 : Cond.methodLink RL i1 (z_y y1) ∈ lw_tbl) (lk2 : Cond.methodLink RL i2 (z_y y2) ∈ lw_tbl) {a : Nat} (f1 : y1 < 283 ∧ z_oc y1 = 8 ∧ z_in y1 = false ∧ z_fr y1 ≤ 12 ∧ 8 + (z_ml y1 + 11) + z_lo y1 ≤ 449 ∧ z_np y1 = a + 1 ∧ a + 1 ≤ z_ml y1) (f2 : y2 < 283 ∧ z_oc y2 = 9 ∧ z_in y2 = false ∧ z_fr y2 ≤ 12 ∧ 8 + (z_ml y2 + 11) + z_lo y2 ≤ 449 ∧ z_np y2 = a + 1 ∧ a + 1 ≤ z_ml y2)
    {pc : Nat} {off : Int} {i : Nat} (ha : a ≤ 5) (hia : i + a < L) (d0 : decode code pc = .ok (.aload_n 1, 1)) (ok1 : zl_ok (pc + 1) a) (d1 : decode code (pc + 1 + 6 * a) = .ok (.invokevirtual i1, 3)) (d2 : decode code (pc + 1 + 6 * a + 3) = .ok (.aload_n 2, 1)) (ok2 : zl_ok (pc + 1 + 6 * a + 3 + 1) a) (d3 : decode code (pc + 1 + 6 * a + 3 + 1 + 6 * a) = .ok (.invokevirtual i2, 3)) (d4 : decode code (pc + 1 + 6 * a + 3 + 1 + 6 * a + 3) = .ok (.if_icmp .eq off, 3)) (ht : ((pc + 1 + 6 * a + 3 + 1 + 6 * a + 3 : Nat) : Int) + off = ((1556 : Nat) : Int))
    {q : Nat} {I : ZI} {R : ZR} {n : Nat} (hn : 218 ≤ n) {v : Int32} {I1 : ZI} {R1 : ZR} {n1 : Nat} {I2 : ZI} {R2 : ZR} {n2 : Nat} (r1 : run y1 0 (zloc (z_ml y1) (.ref 0 :: (zl_as xs i a).reverse)) [] I R n = some (some (.int v), I1, R1, n1)) (r2 : run y2 0 (zloc (z_ml y2) (.ref 195 :: (zl_as xs i a).reverse)) [] I1 R1 n1 = some (some (.int v), I2, R2, n2)) (inv : zInv (q + 1) I2 R2 n2)
    {ad : Nat → Nat} {H : Heap} {locs : List Loc} {la : Array Slot} (hw : zLw D tc s ad0 ao O I R n ad H locs) (hla : la.size = 7) (l0 : la[0]? = some (.val (.ref b))) (l1 : la[1]? = some (.val (.ref (ad 0)))) (l2 : la[2]? = some (.val (.ref (ad 195)))) (l4 : la[4]? = some (.val (.int (nI i))))
    (k : ∀ (ad' : Nat → Nat) (H' : Heap) (locs' : List Loc), ad' 0 = ad 0 → ad' 195 = ad 195 → zLw D tc s ad0 ao O I2 R2 n2 ad' H' locs' → W p l e Rm s mid args below meth c H' locs' (n2 + ec) (zs n2 + es) Q (F0 mid 1556 la [])) : W p l e Rm s mid args below meth c H locs (n + ec) (zs n + es) Q (F0 mid pc la []) := by
  have hbA : ¬ zB0 s.heap.size b := Nat.not_le.mpr hbl
  have m1 := run_mono r1
  have m2 := run_mono r2
  have n281 := (zInv_n inv).2
  have m1' : n ≤ n1 := m1
  have m2' : n1 ≤ n2 := m2
  have wd : ∀ o, zwords (.ref o :: (zl_as xs i a).reverse) = a + 1 := fun o => by
    have w : ∀ (vs : List Value), (∀ v ∈ vs, ∃ x, v = .int x) → zwords vs = vs.length := fun vs => by
      induction vs with
      | nil => intro _; rfl
      | cons v vs ih =>
        intro h
        obtain ⟨x, hx⟩ := h v List.mem_cons_self
        subst hx
        show zwords vs + 1 = vs.length + 1
        rw [ih (fun v hv => h v (List.mem_cons_of_mem _ hv))]
    have al : ∀ a, ∀ v ∈ zl_as xs i a, ∃ x, v = .int x := fun a => by
      induction a with
      | zero => intro v h; cases h
      | succ a ih =>
        intro v h
        rcases List.mem_cons.mp h with h | h
        · exact ⟨_, h⟩
        · exact ih v h
    show zwords (zl_as xs i a).reverse + 1 = a + 1
    rw [w _ (fun v hv => al a v (List.mem_reverse.mp hv)), List.length_reverse, zl_as_len]
  have rv : ∀ ad : Nat → Nat, (((zl_as xs i a).reverse).map (ztr ad)).reverse = zl_as xs i a := fun ad => by rw [List.map_reverse, List.reverse_reverse, zl_as_tr]
  have wv : ∀ n, ∀ v ∈ (zl_as xs i a).reverse, zwv n v := fun n v hv => zl_as_wv i n a v (List.mem_reverse.mp hv)
  have ln : (zl_as xs i a).reverse.length = a := by rw [List.length_reverse, zl_as_len]
  refine lv_aload_n hx hb d0 rfl l1 ?_
  refine zl_args hx hb hX hbl hbA hw.2.2.1 hL l0 l4 a ha hia ok1 ?_
  rw [← rv ad]
  refine zl_step (r := (some (.int v), I1, R1, n1)) hx hb hml hown hts E hO lk1 f1.1 (by rw [f1.2.1]; decide) f1.2.2.1 (by have := f1.2.2.2.1; omega) (by have := f1.2.2.2.2.1; omega) (by rw [ln, f1.2.2.2.2.2.1]) (by rw [f1.2.1]; exact zis_lit (by omega) (by decide)) (by show n1 ≤ 281; omega) hRc hRs (by rw [wd]; exact f1.2.2.2.2.2.2) r1 hw (wv n) hla (by decide) d1 (fun ad1 H1 locs1 g1 w1 => ?_)
  have e0 : ad1 0 = ad 0 := g1 0 (Or.inl (by omega))
  have e195 : ad1 195 = ad 195 := g1 195 (Or.inl (by omega))
  refine lv_aload_n hx hb d2 rfl (show la[2]? = some (.val (.ref (ad1 195))) by rw [e195]; exact l2) ?_
  refine zl_args hx hb hX hbl hbA w1.2.2.1 hL l0 l4 a ha hia ok2 ?_
  rw [← rv ad1]
  refine zl_step (r := (some (.int v), I2, R2, n2)) hx hb hml hown hts E hO lk2 f2.1 (by rw [f2.2.1]; decide) f2.2.2.1 (by have := f2.2.2.2.1; omega) (by have := f2.2.2.2.2.1; omega) (by rw [ln, f2.2.2.2.2.2.1]) (by rw [f2.2.1]; exact zis_lit (by omega) (by decide)) n281 hRc hRs (by rw [wd]; exact f2.2.2.2.2.2.2) r2 w1 (wv n1) hla (show 1 + 0 ≤ 8 by decide) d3 (fun ad2 H2 locs2 g2 w2 => ?_)
  refine lv_icmp_eq (tgt := 1556) hx hb d4 ht (fun _ => ?_) (fun c => absurd rfl c)
  exact k ad2 H2 locs2 ((g2 0 (Or.inl (by omega))).trans e0) ((g2 195 (Or.inl (by omega))).trans e195) w2
end LL3
