/-! ===== THE LAW: its calls ===== -/
section LL1
variable {p : Program} {l : Launch} {e : Env} {Rm : Room} {s : State} {mid : MethodId} {args : Array Value} {below : List Frame} {meth : Method} {c : Code} {Q : State → Prop}
variable {D : va_G} {tc : Nat → ClassId} {A : Nat → Prop} {ad0 : Nat → Nat} {n0 : Nat}
variable {I : ZI} {R : ZR} {n pc : Nat}
theorem zl_good {y : Nat} (hy : y < 283) : GoodIn lw_tbl (zW y) := by
  intro w hw
  have hz : w ∈ z_ws := by
    rcases List.mem_cons.mp hw with h | h
    · rw [h]; exact z_ws_at (zcd y hy) rfl
    · exact h
  exact ⟨(List.mem_filter.mp hz).1, good_of_word (List.mem_filter.mp hz).2⟩
/-- behind a call of the law -/
theorem zl_after (hA : ∀ q, s.heap.size ≤ q → A q) {ad : Nat → Nat} {H : Heap} {locs : List Loc} {la : Array Slot} {st0 rest : List Value} {kc ks : Nat} (hP : va_P D vwCl (zwl tc ad I R n) H) (hD : va_D A (zwl tc ad I R n)) (hS : va_S A s.heap H locs) {r : Option Value × ZI × ZR × Nat} {a : Array Value}
    (run : va_Run p l e Rm s mid args below meth c H locs kc ks (r.2.2.2 - n) (zs r.2.2.2 - zs n) (F0 mid pc la st0) rest (zQc D tc ad I R n H.size r a) (va_A (zwl tc ad I R n) H.size))
    (k : ∀ (ad' : Nat → Nat) (H' : Heap) (locs' : List Loc), zag n ad ad' → va_P D vwCl (zwl tc ad' r.2.1 r.2.2.1 r.2.2.2) H' → va_D A (zwl tc ad' r.2.1 r.2.2.1 r.2.2.2) → va_D (va_A (zwl tc ad I R n) H.size) (zwl tc ad' r.2.1 r.2.2.1 r.2.2.2) → va_S A s.heap H' locs' → zpure r.2.1 r.2.2.1 r.2.2.2 → n ≤ r.2.2.2 → H.size ≤ H'.size → (∀ q, q < H.size → ¬ va_A (zwl tc ad I R n) H.size q → H'[q]? = H[q]?) → W p l e Rm s mid args below meth c H' locs' (kc + (r.2.2.2 - n)) (ks + (zs r.2.2.2 - zs n)) Q (F0 mid (pc + 3) la (r.1.toList.map (ztr ad') ++ rest))) : W p l e Rm s mid args below meth c H locs kc ks Q (F0 mid pc la st0) := by
  intro T hT Xs
  obtain ⟨v, st₀, t, T', L, h0, X', hL, e1, e2, ⟨⟨ad', hag, hv, hP', hD'⟩, hF, hpu, hn, hw⟩, stp⟩ := run T hT Xs
  have hAA : ∀ q, va_A (zwl tc ad I R n) H.size q → A q := by
    intro q hq
    rcases hq with ⟨j, en, hj⟩ | hq
    · exact hD.2 j (q, en) hj
    · exact hA q (Nat.le_trans hS.1 hq)
  obtain ⟨f1, f2⟩ := hF
  rw [h0] at f1 f2
  have hS' : va_S A s.heap T'.heap (locs ++ L) := by
    refine ⟨Nat.le_trans hS.1 (by rw [e1]; exact f1), fun q h1 h2 => ?_, fun q hq => ?_⟩
    · rw [e1, f2 q (Nat.lt_of_lt_of_le h1 hS.1) (fun z => h2 (hAA q z))]
      exact hS.2.1 q h1 h2
    · rcases List.mem_append.mp hq with h | h
      · exact hS.2.2 q h
      · exact hAA _ (hL q h)
  have hk := k ad' T'.heap (locs ++ L) hag (by rw [e1]; exact hP') (hD'.weaken (fun _ q _ h => hAA q.1 h)) hD' hS' hpu hn (by rw [e1]; exact f1) (fun q h1 h2 => by rw [e1]; exact f2 q h1 h2)
  obtain ⟨t2, a1, b1⟩ := hk T' rfl X'
  have hv' : v = r.1.map (ztr ad') := by cases hv; rfl
  refine ⟨t2, stp t2 ?_, b1⟩
  have e3 : v.toList ++ rest = r.1.toList.map (ztr ad') ++ rest := by
    rw [hv']
    congr 1
    cases r.1 <;> rfl
  rw [e3]
  exact a1
theorem zl_callV (hx : p.tables.exec = Jvm.exec) (hb : c.code = code) (hml : c.maxLocals = 7) (hown : s.vm.findClass RL = some mid.cls) (hts : ∀ w ∈ lw_tbl, w.before args s = true) (E : zEnv s.heap.size D tc ad0 s s.heap) {i y o : Nat} (hlk : Cond.methodLink RL i (z_y y) ∈ lw_tbl) (hy : y < 283) (hoc : z_oc y ≠ 50) (hin : z_in y = false) (hRf : z_fr y + 1 ≤ Rm.frames) (hRl : 8 + (z_ml y + 11) + z_lo y ≤ Rm.locals) {vs : List Value} {r : Option Value × ZI × ZR × Nat} (hlen : vs.length + 1 = z_np y) (hi : zis n o (z_oc y) = true) {kc ks : Nat} (hRc : kc + (r.2.2.2 - n) ≤ Rm.cells) (hRs : ks + (zs r.2.2.2 - zs n) ≤ Rm.slots)
    (hmet : zMet l s.heap.size D tc y (.ref o :: vs) I R n r) {ad : Nat → Nat} {H : Heap} {locs : List Loc} {la : Array Slot} {rest : List Value} (hP : va_P D vwCl (zwl tc ad I R n) H) (hD : va_D (zB0 s.heap.size) (zwl tc ad I R n)) (hS : va_S (zB0 s.heap.size) s.heap H locs) (hpu : zpure I R n) (hag : zag n0 ad0 ad) (hvs : ∀ v ∈ vs, zwv n v) (hla : la.size = 7) (hro : ((rest.map fun v => v.category).sum) ≤ 8) (hd : decode code pc = .ok (.invokevirtual i, 3))
    (k : ∀ (ad' : Nat → Nat) (H' : Heap) (locs' : List Loc), zag n ad ad' → va_P D vwCl (zwl tc ad' r.2.1 r.2.2.1 r.2.2.2) H' → va_D (zB0 s.heap.size) (zwl tc ad' r.2.1 r.2.2.1 r.2.2.2) → va_D (va_A (zwl tc ad I R n) H.size) (zwl tc ad' r.2.1 r.2.2.1 r.2.2.2) → va_S (zB0 s.heap.size) s.heap H' locs' → zpure r.2.1 r.2.2.1 r.2.2.2 → n ≤ r.2.2.2 → H.size ≤ H'.size → (∀ q, q < H.size → ¬ va_A (zwl tc ad I R n) H.size q → H'[q]? = H[q]?) → W p l e Rm s mid args below meth c H' locs' (kc + (r.2.2.2 - n)) (ks + (zs r.2.2.2 - zs n)) Q (F0 mid (pc + 3) la (r.1.toList.map (ztr ad') ++ rest))) : W p l e Rm s mid args below meth c H locs kc ks Q (F0 mid pc la ((vs.map (ztr ad)).reverse ++ .ref (ad o) :: rest)) := by
  obtain ⟨oc1, oc2, oc3⟩ := (zoc_ok y hy).resolve_left hoc
  obtain ⟨y1, y2, y3, y4, y5, y6, y7⟩ := zy_ok y hy
  obtain ⟨ho, hk⟩ := zis_in hi (by omega)
  have he := zwl_get (tc := tc) (ad := ad) (I := I) (R := R) ho
  rw [zent_obj hk oc1] at he
  have hbq : Nat.beq (z_oc y) 50 = false := by
    cases hh : Nat.beq (z_oc y) 50 with
    | false => rfl
    | true => exact absurd (Nat.eq_of_beq_eq_true hh) hoc
  have hq1 := zq1_ok y hy
  rw [hbq] at hq1
  have hinst : (Cond.instanceMethod (z_y y)).before args s = true := hts _ (List.mem_of_getElem? hq1)
  have hsel : (Cond.selects (z_y y).cls (z_y y) (z_y y)).before args s = true := by
    rcases zq3_ok y hy with h | h | h
    · exact absurd h hoc
    · rw [hin] at h; cases h
    · exact hts _ (List.mem_of_getElem? h)
  have hvr : ∀ v ∈ (Value.ref o :: vs), zwv n v := fun v hv => by
    rcases List.mem_cons.mp hv with h | h
    · rw [h]
      exact ⟨fun b hb => by injection hb with hb; rw [← hb]; exact Or.inl ho, fun x hx => by cases hx⟩
    · exact hvs v h
  have hME := hmet hpu hvr ad H.size
  have hat : ∀ U : State, U.heap = H → s.WarmedH U.vm → zPc s.heap.size D tc ad I R n H.size (.ref o :: vs) ((Value.ref o :: vs).map (ztr ad)).toArray U := by
    intro U hU hW
    refine ⟨rfl, by rw [hU], by rw [hU]; exact hP, hD, hS.1, ?_⟩
    rw [hU]
    exact (E.ag hag).to hW (fun a h1 h2 => hS.2.1 a h1 h2)
  have hpre : PreV s H (z_y y).cls (ad o) (zPc s.heap.size D tc ad I R n H.size (.ref o :: vs)) (vs.map (ztr ad)) :=
    ⟨zPc_blind, by have := va_recv E.1 hP (zvw_ok _ oc1) he; rw [y2, ← oc2]; exact this, hat⟩
  have hnum : (vs.map (ztr ad)).length = z_np y - (bif Nat.beq (z_oc y) 50 then 0 else 1) := by
    rw [hbq, List.length_map]
    show vs.length = z_np y - 1
    omega
  have hcb : CallB Rm s args RL i (z_y y) (z_by y) (z_ml y) (z_ret y) (zW y) (zrm2 y n r.2.2.2) (r.2.2.2 - n) (zs r.2.2.2 - zs n) (vs.map (ztr ad)).length :=
    callB_of _ hts (zl_good hy) rfl rfl rfl (hts _ (List.mem_of_getElem? (zq2_ok y hy))) (hts _ hlk) ⟨y3, y4, by rw [hnum]; exact y5⟩ ⟨hRf, hRl⟩
  exact zl_after (fun q h => h) hP hD hS (va_runV (As := vs.map (ztr ad)) (rest := rest) ⟨hx, hb, hml, hown, hts⟩ hME ⟨hcb, hinst, hsel⟩ hpre rfl rfl hla rfl (lv_room hro) hd ⟨hRc, hRs⟩) k
end LL1
