/-! ===== what the classes, the constants and the statics are, at any state of a run ===== -/
def ztys (tc : Nat → ClassId) : List (ClassId × FieldType) := [(tc 20, .int), (tc 21, .byte), (tc 22, .array .int), (tc 23, .object RX4)]
def z_sl : List Nat := [5, 3, 4, 5, 4, 4, 4]
def z_sb : List (List Int32) := [[115, 108, 111, 116, 115], [108, 105, 100], [99, 108, 117, 98], [119, 101, 101, 107, 115], [99, 111, 115, 116], [114, 105, 115, 101], [102, 97, 108, 108]]
def zB0 (base : Nat) : Nat → Prop := fun q => base ≤ q
def zEnv (base : Nat) (D : va_G) (tc : Nat → ClassId) (ad : Nat → Nat) (U : State) (H : Heap) : Prop :=
  va_K D vwCl (ztys tc) U ∧
  (∃ adV : Nat → Nat, vk_S 7 z_sl z_sb (fun j => ad (1000 + j)) adV (zB0 base) U H) ∧
  (∀ c, c < 12 → ∀ q ∈ z_SL c, vk_R (z_cn c) q.1 (z_st q.2.1) (ad (1000 + q.2.1)) U) ∧
  (∀ c, c < 12 → ∀ q ∈ z_ML c, q.2.2.1 = 1 → va_Nw (.methodLinkNest (z_cn c) q.1 (z_y q.2.1) "SalaryLid") U) ∧
  (∀ j, j < 3 → va_Z RX3 (z_sn j) "[I" (.ref (ad (1010 + j))) (zB0 base) U H ∧ va_T .int (ad (1010 + j)) 6 (fun i => .int (z_sv j i)) (zB0 base) U H) ∧
  va_AO RX4 U ∧ (Cond.arrayOver (.array .int)).before #[] U = true ∧
  va_Z RJ0 "COMPACT_STRINGS" "Z" (.int 1) (zB0 base) U H ∧ va_Zq RJ3 "SIOOBE_FORMATTER" "Ljava/util/function/BiFunction;" (zB0 base) U H
theorem zAO_vm {ty : FieldType} {u U : State} {a b : Array Value} (hv : U.vm = u.vm) (h : (Cond.arrayOver ty).before a u = true) : (Cond.arrayOver ty).before b U = true := by
  unfold Cond.before Cond.holds at h ⊢
  simp only [Cond.value] at h ⊢
  rw [hv]
  exact h
theorem zEnv.to {base : Nat} {D : va_G} {tc : Nat → ClassId} {ad : Nat → Nat} {s U : State} {H H1 : Heap} (h : zEnv base D tc ad s H) (hW : s.WarmedH U.vm) (hq : ∀ a : Nat, a < H.size → ¬ zB0 base a → H1[a]? = H[a]?) : zEnv base D tc ad U H1 := by
  obtain ⟨h1, ⟨adV, h2⟩, h3, h4, h5, h6, h7, h8, h9⟩ := h
  have ha := hW.alike
  refine ⟨h1.moved ha, ⟨adV, (h2.moved ha).kept hq⟩, fun c hc q hm => (h3 c hc q hm).warm hW, fun c hc q hm hn => (h4 c hc q hm hn).warmM hW, fun j hj => ⟨((h5 j hj).1.moved ha).kept hq, ((h5 j hj).2.moved ha).kept hq⟩, h6.moved ha, ?_, (h8.moved ha).kept hq, (h9.moved ha).kept hq⟩
  have h7' : (Cond.arrayOver (.array .int)).before #[] (s.setVm U.vm) = true := by rw [Cond.arrayOver_setVmC ha]; exact h7
  exact zAO_vm (u := s.setVm U.vm) rfl h7'
theorem zEnv.same {base : Nat} {D : va_G} {tc : Nat → ClassId} {ad : Nat → Nat} {s U : State} {H : Heap} (h : zEnv base D tc ad s H) (hv : U.vm = s.vm) : zEnv base D tc ad U H := by
  obtain ⟨h1, ⟨adV, h2⟩, h3, h4, h5, h6, h7, h8, h9⟩ := h
  have ha : s.vm.Alike U.vm := by rw [hv]; exact Vm.Alike.refl _
  exact ⟨h1.moved ha, ⟨adV, h2.moved ha⟩, fun c hc q hm => (h3 c hc q hm).same hv, fun c hc q hm hn => (h4 c hc q hm hn).same rfl hv.symm, fun j hj => ⟨(h5 j hj).1.moved ha, (h5 j hj).2.moved ha⟩, h6.moved ha, zAO_vm hv h7, h8.moved ha, h9.moved ha⟩
theorem zEnv.ag {base : Nat} {D : va_G} {tc : Nat → ClassId} {n : Nat} {ad ad' : Nat → Nat} {s : State} {H : Heap} (h : zEnv base D tc ad s H) (g : zag n ad ad') : zEnv base D tc ad' s H := by
  have e : ∀ j, ad' (1000 + j) = ad (1000 + j) := fun j => g _ (Or.inr (by omega))
  have e2 : ∀ j, ad' (1010 + j) = ad (1010 + j) := fun j => g _ (Or.inr (by omega))
  unfold zEnv at h ⊢
  simp only [e, e2]
  exact h
/-- what holds of a method's body while it runs -/
def zCx (p : Program) (s : State) (mid : MethodId) (args : Array Value) (meth : Method) (c : Code) (m : Nat) : Prop :=
  p.tables.exec = Jvm.exec ∧ c.code = z_by m ∧ meth.sig.returnType = z_ret m ∧ c.maxLocals = z_ml m ∧ s.vm.findClass (z_cn (z_own m)) = some mid.cls ∧ (∀ w ∈ zW m, w.before args s = true) ∧ meth.locks = false ∧ meth.name = (z_y m).name ∧ m < 283
/-- the machine's state is the pure one's -/
def zSt (D : va_G) (tc : Nat → ClassId) (A : Nat → Prop) (s : State) (ad0 : Nat → Nat) (n0 m : Nat) (ad : Nat → Nat) (ls : ZL) (st : List Value) (I : ZI) (R : ZR) (n : Nat) (H : Heap) (locs : List Loc) (la : Array Slot) : Prop :=
  va_P D vwCl (zwl tc ad I R n) H ∧ va_D A (zwl tc ad I R n) ∧ va_S A s.heap H locs ∧ (zwf R n ∧ (∀ j i, j < 3 → i < 6 → I (1010 + j) i = z_sv j i) ∧ n ≤ 1000) ∧ (∀ v ∈ st, zwv n v) ∧
  (∀ i v, zget ls i = some v → zwv n v ∧ la[i]? = some (.val (ztr ad v))) ∧ (la.size = z_ml m ∧ ls.length = z_ml m ∧ lv_wf la) ∧ n0 ≤ n ∧ zag n0 ad0 ad
section ZS
variable {p : Program} {l : Launch} {e : Env} {Rm : Room} {s : State} {mid : MethodId} {args : Array Value} {below : List Frame} {meth : Method} {c : Code} {Q : State → Prop}
variable {base : Nat} {D : va_G} {tc : Nat → ClassId} {A : Nat → Prop} {ad0 : Nat → Nat} {n0 m : Nat}
variable {ad : Nat → Nat} {ls : ZL} {st : List Value} {I : ZI} {R : ZR} {n pc : Nat} {H : Heap} {locs : List Loc} {la : Array Slot}
theorem zSt.pop {v : Value} (S : zSt D tc A s ad0 n0 m ad ls (v :: st) I R n H locs la) : zSt D tc A s ad0 n0 m ad ls st I R n H locs la := by
  obtain ⟨h1, h2, h3, h4, h5, h6⟩ := S
  exact ⟨h1, h2, h3, h4, fun w hw => h5 w (List.mem_cons_of_mem _ hw), h6⟩
theorem zSt.push (S : zSt D tc A s ad0 n0 m ad ls st I R n H locs la) {v : Value} (hv : zwv n v) : zSt D tc A s ad0 n0 m ad ls (v :: st) I R n H locs la := by
  obtain ⟨h1, h2, h3, h4, h5, h6⟩ := S
  exact ⟨h1, h2, h3, h4, fun w hw => (List.mem_cons.mp hw).elim (fun q => by rw [q]; exact hv) (h5 w), h6⟩
theorem zSt.top {v : Value} (S : zSt D tc A s ad0 n0 m ad ls (v :: st) I R n H locs la) : zwv n v := S.2.2.2.2.1 v List.mem_cons_self
def zGo (p : Program) (l : Launch) (e : Env) (Rm : Room) (s : State) (mid : MethodId) (args : Array Value) (below : List Frame) (meth : Method) (c : Code) (Q : State → Prop) (D : va_G) (tc : Nat → ClassId) (A : Nat → Prop) (ad0 : Nat → Nat) (n0 m : Nat) (pc : Nat) (ls : ZL) (st : List Value) (I : ZI) (R : ZR) (n : Nat) : Prop :=
  ∀ (ad : Nat → Nat) (H : Heap) (locs : List Loc) (la : Array Slot), zSt D tc A s ad0 n0 m ad ls st I R n H locs la → W p l e Rm s mid args below meth c H locs (n - n0) (zs n - zs n0) Q (F0 mid pc la (st.map (ztr ad)))
/-- reading the zc -/
theorem zc_some {b : Bool} {x : ZO} {r : Option Value × ZI × ZR × Nat} (h : zc b x = some r) : b = true ∧ x = some r := by
  cases b
  · cases h
  · exact ⟨rfl, h⟩
theorem zget_mask : ∀ (b : List Bool) (ls : ZL) (i : Nat) (v : Value), zget (zmask b ls) i = some v → zget ls i = some v
  | [], _, _, _, h => h
  | _ :: _, [], _, _, h => h
  | b :: bs, x :: ls, 0, v, h => by
    cases b
    · cases h
    · exact h
  | b :: bs, x :: ls, i + 1, v, h => zget_mask bs ls i v h
theorem zmask_len : ∀ (b : List Bool) (ls : ZL), (zmask b ls).length = ls.length
  | [], _ => rfl
  | _ :: _, [] => rfl
  | _ :: bs, _ :: ls => by show _ + 1 = _ + 1; rw [zmask_len bs ls]
theorem zSt.mask {b : List Bool} (S : zSt D tc A s ad0 n0 m ad ls st I R n H locs la) : zSt D tc A s ad0 n0 m ad (zmask b ls) st I R n H locs la := by
  obtain ⟨h1, h2, h3, h4, h5, h6, ⟨h7, h8, h9⟩, h10⟩ := S
  exact ⟨h1, h2, h3, h4, h5, fun i v hv => h6 i v (zget_mask b ls i v hv), ⟨h7, by rw [zmask_len]; exact h8, h9⟩, h10⟩
theorem zget_set_self : ∀ (ls : ZL) (i : Nat) (v w : Value), zget (zset ls i (some v)) i = some w → w = v
  | [], _, _, _, h => by cases h
  | _ :: _, 0, _, _, h => by cases h; rfl
  | _ :: xs, i + 1, v, w, h => zget_set_self xs i v w h
theorem zget_set_ne : ∀ (ls : ZL) (i j : Nat) (v : Option Value), j ≠ i → zget (zset ls i v) j = zget ls j
  | [], _, _, _, _ => rfl
  | _ :: _, 0, 0, _, h => absurd rfl h
  | _ :: _, 0, j + 1, _, _ => rfl
  | _ :: _, i + 1, 0, _, _ => rfl
  | _ :: xs, i + 1, j + 1, v, h => zget_set_ne xs i j v (fun q => h (by rw [q]))
theorem zget_set_none : ∀ (ls : ZL) (i : Nat), zget (zset ls i none) i = none
  | [], _ => rfl
  | _ :: _, 0 => rfl
  | _ :: xs, i + 1 => zget_set_none xs i
theorem zset_len : ∀ (ls : ZL) (i : Nat) (v : Option Value), (zset ls i v).length = ls.length
  | [], _, _ => rfl
  | _ :: _, 0, _ => rfl
  | _ :: xs, i + 1, v => by show _ + 1 = _ + 1; rw [zset_len xs i v]
theorem zok_lt : ∀ (ls : ZL) (i : Nat), zok ls i = true → i < ls.length
  | [], _, h => by cases h
  | _ :: _, 0, _ => Nat.succ_pos _
  | x :: xs, i + 1, h => by
    have h1 : zok xs i = true := by
      unfold zok at h
      split at h
      · cases h
      · cases h
      · exact h
    exact Nat.succ_lt_succ (zok_lt xs i h1)
theorem zok_prev : ∀ (ls : ZL) (i : Nat) (v : Value), zok ls (i + 1) = true → zget ls i = some v → ¬ v.category = 2
  | [], _, _, h, _ => by cases h
  | x :: xs, 0, v, h, hv => by
    have hv : x = some v := hv
    subst hv
    cases v <;> first | (cases h; done) | (intro q; cases q)
  | x :: xs, i + 1, v, h, hv => by
    have h1 : zok xs (i + 1) = true := by
      unfold zok at h
      split at h
      · cases h
      · cases h
      · exact h
    exact zok_prev xs i v h1 hv
/-- the locals as the kit tells them -/
def zas (ad : Nat → Nat) (ls : ZL) : List (Nat × Value) := (List.range ls.length).filterMap fun i => (zget ls i).map fun v => (i, ztr ad v)
theorem zget_lt : ∀ (ls : ZL) (i : Nat) (v : Value), zget ls i = some v → i < ls.length
  | [], _, _, h => by cases h
  | _ :: _, 0, _, _ => Nat.succ_pos _
  | _ :: xs, i + 1, v, h => Nat.succ_lt_succ (zget_lt xs i v h)
theorem zas_mem {ad : Nat → Nat} {ls : ZL} {i : Nat} {v : Value} (h : zget ls i = some v) : (i, ztr ad v) ∈ zas ad ls := List.mem_filterMap.mpr ⟨i, List.mem_range.mpr (zget_lt ls i v h), by rw [h]; rfl⟩
theorem zSt.lv (S : zSt D tc A s ad0 n0 m ad ls st I R n H locs la) : lv_has la (z_ml m) (zas ad ls) := by
  obtain ⟨-, -, -, -, -, h6, ⟨h7, -, h9⟩, -⟩ := S
  refine ⟨h7, h9, fun q hq => ?_⟩
  obtain ⟨i, -, hi⟩ := List.mem_filterMap.mp hq
  cases hg : zget ls i with
  | none => rw [hg] at hi; cases hi
  | some v => rw [hg] at hi; cases hi; exact (h6 i v hg).2
theorem ztr_cat (ad : Nat → Nat) (v : Value) : (ztr ad v).category = v.category := by cases v <;> rfl
theorem zSt.store (S : zSt D tc A s ad0 n0 m ad ls st I R n H locs la) {i : Nat} {v : Value} (hv : zwv n v) (ho : zok ls i = true) {la' : Array Slot} (hl : lv_has la' (z_ml m) ((i, ztr ad v) :: (zas ad ls).filter (fun q => !(q.1 == i) && !(q.1 + 1 == i && q.2.category == 2)))) : zSt D tc A s ad0 n0 m ad (zset ls i (some v)) st I R n H locs la' := by
  obtain ⟨h1, h2, h3, h4, h5, h6, ⟨h7, h8, h9⟩, h10⟩ := S
  refine ⟨h1, h2, h3, h4, h5, fun j w hw => ?_, ⟨hl.1, by rw [zset_len]; exact h8, hl.2.1⟩, h10⟩
  by_cases hj : j = i
  · subst hj
    have := zget_set_self ls j v w hw
    subst this
    exact ⟨hv, hl.2.2 (j, ztr ad w) List.mem_cons_self⟩
  · rw [zget_set_ne ls i j (some v) hj] at hw
    refine ⟨(h6 j w hw).1, hl.2.2 (j, ztr ad w) (List.mem_cons_of_mem _ (List.mem_filter.mpr ⟨zas_mem hw, ?_⟩))⟩
    have hc : ¬ (j + 1 = i ∧ w.category = 2) := fun ⟨q1, q2⟩ => zok_prev ls j w (by rw [q1]; exact ho) hw q2
    simp only [Bool.and_eq_true, Bool.not_eq_true', beq_eq_false_iff_ne, Bool.and_eq_false_iff, ztr_cat]
    refine ⟨hj, ?_⟩
    by_cases q : j + 1 = i
    · exact Or.inr (fun q2 => hc ⟨q, q2⟩)
    · exact Or.inl q
theorem zSt.store2 (S : zSt D tc A s ad0 n0 m ad ls st I R n H locs la) {i : Nat} {x : Int64} (ho : zok ls i = true) {la' : Array Slot} (hl : lv_has la' (z_ml m) ((i, Value.long x) :: (zas ad ls).filter (fun q => !(q.1 == i) && (!(q.1 == i + 1) && !(q.1 + 1 == i && q.2.category == 2))))) : zSt D tc A s ad0 n0 m ad (zset (zset ls i (some (.long x))) (i + 1) none) st I R n H locs la' := by
  obtain ⟨h1, h2, h3, h4, h5, h6, ⟨h7, h8, h9⟩, h10⟩ := S
  refine ⟨h1, h2, h3, h4, h5, fun j w hw => ?_, ⟨hl.1, by rw [zset_len, zset_len]; exact h8, hl.2.1⟩, h10⟩
  by_cases hj1 : j = i + 1
  · subst hj1
    rw [zget_set_none] at hw
    cases hw
  rw [zget_set_ne _ _ _ _ hj1] at hw
  by_cases hj : j = i
  · subst hj
    have := zget_set_self ls j (.long x) w hw
    subst this
    exact ⟨zwv_long _ _, hl.2.2 (j, Value.long x) List.mem_cons_self⟩
  · rw [zget_set_ne ls i j _ hj] at hw
    refine ⟨(h6 j w hw).1, hl.2.2 (j, ztr ad w) (List.mem_cons_of_mem _ (List.mem_filter.mpr ⟨zas_mem hw, ?_⟩))⟩
    have hc : ¬ (j + 1 = i ∧ w.category = 2) := fun ⟨q1, q2⟩ => zok_prev ls j w (by rw [q1]; exact ho) hw q2
    simp only [Bool.and_eq_true, Bool.not_eq_true', beq_eq_false_iff_ne, Bool.and_eq_false_iff, ztr_cat]
    refine ⟨hj, hj1, ?_⟩
    by_cases q : j + 1 = i
    · exact Or.inr (fun q2 => hc ⟨q, q2⟩)
    · exact Or.inl q
end ZS
