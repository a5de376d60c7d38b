/-! ===== THE METHODS: what the pure machine answers, the machine answers ===== -/
theorem zpad_get : ∀ (k i : Nat), zget (zpad k) i = none
  | 0, _ => rfl
  | _ + 1, 0 => rfl
  | k + 1, i + 1 => zpad_get k i
theorem zpad_len : ∀ k : Nat, (zpad k).length = k
  | 0 => rfl
  | k + 1 => by show (zpad k).length + 1 = k + 1; rw [zpad_len k]
theorem zloc_spec (ad : Nat → Nat) : ∀ (vs : List Value) (N : Nat), (∀ v ∈ vs, ∀ x, v ≠ .double x) → zwords vs ≤ N → (zloc N vs).length = N ∧ ∀ (i : Nat) (v : Value), zget (zloc N vs) i = some v → v ∈ vs ∧ ∀ k : Nat, (k + i, ztr ad v) ∈ lv_args k (vs.map (ztr ad))
  | [], N, _, _ => by
    have e : zloc N [] = zpad N := by unfold zloc; rfl
    rw [e]
    exact ⟨zpad_len N, fun i v h => by rw [zpad_get] at h; cases h⟩
  | w :: vs, N, hnd, hw => by
    have hnd' : ∀ v ∈ vs, ∀ x, v ≠ .double x := fun v hv => hnd v (List.mem_cons_of_mem _ hv)
    by_cases hl : ∃ x, w = .long x
    · obtain ⟨x, rfl⟩ := hl
      have hw' : zwords vs + 2 ≤ N := hw
      obtain ⟨M, rfl⟩ : ∃ M, N = M + 2 := ⟨N - 2, by omega⟩
      have e : zloc (M + 2) (.long x :: vs) = some (.long x) :: none :: zloc M vs := rfl
      rw [e]
      obtain ⟨h1, h2⟩ := zloc_spec ad vs M hnd' (by omega)
      refine ⟨by show (zloc M vs).length + 1 + 1 = _; rw [h1], fun i v hv => ?_⟩
      match i, hv with
      | 0, hv =>
        have hv : some (Value.long x) = some v := hv
        cases hv
        exact ⟨List.mem_cons_self, fun k => List.mem_cons_self⟩
      | 1, hv => have hv : (none : Option Value) = some v := hv; cases hv
      | i + 2, hv =>
        obtain ⟨g1, g2⟩ := h2 i v hv
        refine ⟨List.mem_cons_of_mem _ g1, fun k => ?_⟩
        have := g2 (k + 2)
        have e2 : k + (i + 2) = k + 2 + i := by omega
        rw [e2]
        exact List.mem_cons_of_mem _ this
    · have hc : w.category = 1 := by
        cases w <;> first | rfl | exact absurd ⟨_, rfl⟩ hl | exact absurd rfl (hnd _ List.mem_cons_self _)
      have hw' : zwords vs + 1 ≤ N := by
        cases w <;> first | exact hw | exact absurd ⟨_, rfl⟩ hl | exact absurd rfl (hnd _ List.mem_cons_self _)
      obtain ⟨M, rfl⟩ : ∃ M, N = M + 1 := ⟨N - 1, by omega⟩
      have e : zloc (M + 1) (w :: vs) = some w :: zloc M vs := by
        cases w <;> first | (cases M <;> rfl) | exact absurd ⟨_, rfl⟩ hl
      rw [e]
      obtain ⟨h1, h2⟩ := zloc_spec ad vs M hnd' (by omega)
      refine ⟨by show (zloc M vs).length + 1 = _; rw [h1], fun i v hv => ?_⟩
      match i, hv with
      | 0, hv =>
        have hv : some w = some v := hv
        cases hv
        exact ⟨List.mem_cons_self, fun k => List.mem_cons_self⟩
      | i + 1, hv =>
        obtain ⟨g1, g2⟩ := h2 i v hv
        refine ⟨List.mem_cons_of_mem _ g1, fun k => ?_⟩
        have := g2 (k + 1)
        have e2 : k + (i + 1) = k + 1 + i := by omega
        rw [e2]
        have e3 : lv_args k ((w :: vs).map (ztr ad)) = (k, ztr ad w) :: lv_args (k + 1) (vs.map (ztr ad)) := by
          show (k, ztr ad w) :: lv_args (if (ztr ad w).category = 2 then k + 2 else k + 1) _ = _
          rw [ztr_cat, hc, if_neg (by decide)]
        rw [e3]
        exact List.mem_cons_of_mem _ this
theorem lg_len (ad : Nat → Nat) (vs : List Value) : (lg_sl (vs.map (ztr ad))).length = zwords vs := by
  rw [← zwords_tr ad vs]
  generalize vs.map (ztr ad) = ws
  induction ws with
  | nil => rfl
  | cons w ws ih =>
    have e : lg_sl (w :: ws) = (if w.category = 2 then [.val w, .second] else [.val w]) ++ lg_sl ws := rfl
    rw [e, List.length_append, ih, List.map_cons, List.sum_cons]
    rcases lv_cat w with h | h
    · rw [if_neg (by omega), h]; rfl
    · rw [if_pos h, h]; rfl
section ZMain
variable {l : Launch} {base : Nat} {D : va_G} {tc : Nat → ClassId}
/-- a method's contract out of its body's -/
theorem zmet_of {y : Nat} {vs : List Value} {I : ZI} {R : ZR} {n : Nat} {r : Option Value × ZI × ZR × Nat} (hy : y < 283) (hw : zwords vs ≤ z_ml y)
    (body : ∀ (p : Program) (e : Env) (s : State) (mid : MethodId) (args : Array Value) (below : List Frame) (meth : Method) (c : Code) (ad : Nat → Nat), zCx p s mid args meth c y → zEnv base D tc ad s s.heap → base ≤ s.heap.size → (∀ q, va_A (zwl tc ad I R n) s.heap.size q → base ≤ q) →
      zGo p l e (zrm2 y n r.2.2.2) s mid args below meth c (MQ below (zQc D tc ad I R n s.heap.size r) args s (r.2.2.2 - n) (zs r.2.2.2 - zs n) (va_A (zwl tc ad I R n) s.heap.size)) D tc (va_A (zwl tc ad I R n) s.heap.size) ad n y 0 (zloc (z_ml y) vs) [] I R n) : zMet l base D tc y vs I R n r := by
  intro hpu hvs ad sz
  obtain ⟨y1, y2, y3, y4, y5, y6, y7⟩ := zy_ok y hy
  refine Met.ofW (cc := z_by y) (maxL := z_ml y) (ret := z_ret y) y6 rfl ?_
  intro p e s m args below meth c s₁ B hml hv
  obtain ⟨rfl, hsz, hP, hD, hbs, E⟩ := hv
  subst hsz
  have hts := atoms_spec (ws := zW y) B.pre
  have hown : s.vm.findClass (z_cn (z_own y)) = some m.cls := by rw [← y2]; exact findClass_of_methodNamed B.named
  have X : zCx p s m (vs.map (ztr ad)).toArray meth c y := ⟨B.exec, B.bytes, B.returns, hml, hown, hts, B.notSynchronized, (name_of_methodNamed B.named B.method).1, hy⟩
  have hAb : ∀ q, va_A (zwl tc ad I R n) s.heap.size q → base ≤ q := by
    intro q hq
    rcases hq with ⟨k, en, hk⟩ | hq
    · exact hD.2 k (q, en) hk
    · exact Nat.le_trans hbs hq
  have hl := lv_entry (vs.map (ztr ad)) (n := z_ml y) (by rw [lg_len]; exact hw)
  rw [lg_entry_eq]
  generalize (lg_sl (vs.map (ztr ad)) ++ List.replicate (z_ml y - (lg_sl (vs.map (ztr ad))).length) Slot.unset).toArray = la at hl ⊢
  obtain ⟨g1, g2⟩ := zloc_spec ad vs (z_ml y) (fun v hv => (hvs v hv).2) hw
  have S : zSt D tc (va_A (zwl tc ad I R n) s.heap.size) s ad n y ad (zloc (z_ml y) vs) [] I R n s.heap [] la :=
    ⟨hP, hD.self, va_S.rf, hpu, (fun v hv => absurd hv List.not_mem_nil), fun i v hv => ⟨hvs v (g2 i v hv).1, by have := hl.2.2 (0 + i, ztr ad v) ((g2 i v hv).2 0); rw [Nat.zero_add] at this; exact this⟩, ⟨hl.1, g1, hl.2.1⟩, Nat.le_refl _, zag.rf _ _⟩
  have hgo := body p e s m (vs.map (ztr ad)).toArray below meth c ad X E hbs hAb ad s.heap [] la S
  rw [Nat.sub_self, Nat.sub_self] at hgo
  exact hgo
theorem z_body (k : Nat) (hC : ∀ y vs I R n r, y < 283 → zwords vs ≤ z_ml y → ∀ j, j < k → zev j y 0 (zloc (z_ml y) vs) [] I R n = some r → zMet l base D tc y vs I R n r) :
    ∀ j, j ≤ k → ∀ {p : Program} {e : Env} {Rm : Room} {s : State} {mid : MethodId} {args : Array Value} {below : List Frame} {meth : Method} {c : Code} {ad0 : Nat → Nat} {n0 m : Nat} {I0 : ZI} {R0 : ZR} {r : Option Value × ZI × ZR × Nat}, zCx p s mid args meth c m → zEnv base D tc ad0 s s.heap → base ≤ s.heap.size → (∀ q, va_A (zwl tc ad0 I0 R0 n0) s.heap.size q → base ≤ q) → Rm = zrm2 m n0 r.2.2.2 →
      ∀ pc ls st I R n, zev j m pc ls st I R n = some r → zGo p l e Rm s mid args below meth c (MQ below (zQc D tc ad0 I0 R0 n0 s.heap.size r) args s (r.2.2.2 - n0) (zs r.2.2.2 - zs n0) (va_A (zwl tc ad0 I0 R0 n0) s.heap.size)) D tc (va_A (zwl tc ad0 I0 R0 n0) s.heap.size) ad0 n0 m pc ls st I R n := by
  intro j
  induction j with
  | zero =>
    intro _ p e Rm s mid args below meth c ad0 n0 m I0 R0 r X E hb hAb hRm pc ls st I R n h
    cases h
  | succ j ih =>
    intro hj p e Rm s mid args below meth c ad0 n0 m I0 R0 r X E hb hAb hRm pc ls st I R n h
    intro ad H locs la S
    exact z_step X E hb hAb hRm (K := zev j m) (C := fun y ls I R n => zev j y 0 ls [] I R n) (fun pc ls st I R n => zmn_ev j m pc ls st I R n) (fun y ls I R n => zmn_ev j y 0 ls [] I R n)
      (fun pc ls st I R n h => ih (by omega) X E hb hAb hRm pc ls st I R n h) (fun y vs I R n r' hy hw h => hC y vs I R n r' hy hw j (by omega) h) pc ls st I R n S.2.2.2.2.2.2.2.1 h ad H locs la S
theorem z_sound : ∀ (k y : Nat) (vs : List Value) (I : ZI) (R : ZR) (n : Nat) (r : Option Value × ZI × ZR × Nat), y < 283 → zwords vs ≤ z_ml y → zev k y 0 (zloc (z_ml y) vs) [] I R n = some r → zMet l base D tc y vs I R n r := by
  intro k
  induction k using Nat.strongRecOn with
  | _ k ih =>
    intro y vs I R n r hy hw h
    refine zmet_of hy hw (fun p e s mid args below meth c ad X E hb hAb => ?_)
    exact z_body k (fun y vs I R n r hy hw j hj h => ih j hj y vs I R n r hy hw h) k (Nat.le_refl k) X E hb hAb rfl 0 (zloc (z_ml y) vs) [] I R n h
/-- a method that the pure machine answers is met by the machine -/
theorem zmet {y : Nat} {vs : List Value} {I : ZI} {R : ZR} {n : Nat} {r : Option Value × ZI × ZR × Nat} (hy : y < 283) (hw : zwords vs ≤ z_ml y) (h : run y 0 (zloc (z_ml y) vs) [] I R n = some r) : zMet l base D tc y vs I R n r := by
  obtain ⟨k, hk⟩ := (run_iff r).mp h
  exact z_sound k y vs I R n r hy hw hk
/-- from the middle of a method -/
theorem zgo_run {p : Program} {e : Env} {s : State} {mid : MethodId} {args : Array Value} {below : List Frame} {meth : Method} {c : Code} {ad0 : Nat → Nat} {n0 m : Nat} {I0 : ZI} {R0 : ZR} {r : Option Value × ZI × ZR × Nat} (X : zCx p s mid args meth c m) (E : zEnv base D tc ad0 s s.heap) (hb : base ≤ s.heap.size) (hAb : ∀ q, va_A (zwl tc ad0 I0 R0 n0) s.heap.size q → base ≤ q)
    {pc : Nat} {ls : ZL} {st : List Value} {I : ZI} {R : ZR} {n : Nat} (h : run m pc ls st I R n = some r) : zGo p l e (zrm2 m n0 r.2.2.2) s mid args below meth c (MQ below (zQc D tc ad0 I0 R0 n0 s.heap.size r) args s (r.2.2.2 - n0) (zs r.2.2.2 - zs n0) (va_A (zwl tc ad0 I0 R0 n0) s.heap.size)) D tc (va_A (zwl tc ad0 I0 R0 n0) s.heap.size) ad0 n0 m pc ls st I R n := by
  obtain ⟨k, hk⟩ := (run_iff r).mp h
  exact z_body k (fun y vs I R n r hy hw j _ h => z_sound j y vs I R n r hy hw h) k (Nat.le_refl k) X E hb hAb rfl pc ls st I R n hk
end ZMain
