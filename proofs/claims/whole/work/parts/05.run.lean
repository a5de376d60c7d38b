/-! ===== what a method answers, however long it takes ===== -/
def zle (x y : ZO) : Prop := ∀ r, x = some r → y = some r
theorem zle.rf (x : ZO) : zle x x := fun _ h => h
theorem zle.trans {x y z : ZO} (h : zle x y) (g : zle y z) : zle x z := fun r hr => g r (h r hr)
/-- the answer rests on finitely many answers of K and C, and grows with them -/
def zcn (F : ZK → ZC → ZO) : Prop :=
  (∀ (K K' : ZK) (C C' : ZC), (∀ pc ls st I R n, zle (K pc ls st I R n) (K' pc ls st I R n)) → (∀ y ls I R n, zle (C y ls I R n) (C' y ls I R n)) → zle (F K C) (F K' C')) ∧
  ∀ (K : Nat → ZK) (C : Nat → ZC) (K' : ZK) (C' : ZC), (∀ i j, i ≤ j → ∀ pc ls st I R n, zle (K i pc ls st I R n) (K j pc ls st I R n)) → (∀ i j, i ≤ j → ∀ y ls I R n, zle (C i y ls I R n) (C j y ls I R n)) →
    (∀ pc ls st I R n r, K' pc ls st I R n = some r → ∃ i, K i pc ls st I R n = some r) → (∀ y ls I R n r, C' y ls I R n = some r → ∃ i, C i y ls I R n = some r) → ∀ r, F K' C' = some r → ∃ i, F (K i) (C i) = some r
theorem zcn_c (o : ZO) : zcn (fun _ _ => o) := ⟨fun _ _ _ _ _ _ => zle.rf _, fun _ _ _ _ _ _ _ _ _ h => ⟨0, h⟩⟩
theorem zcn_K {pc : Nat} {ls : ZL} {st : List Value} {I : ZI} {R : ZR} {n : Nat} : zcn (fun K _ => K pc ls st I R n) := ⟨fun _ _ _ _ h _ => h _ _ _ _ _ _, fun _ _ _ _ _ _ h _ r hr => h _ _ _ _ _ _ r hr⟩
theorem zcn_zc {b : Bool} {F : ZK → ZC → ZO} (h : zcn F) : zcn (fun K C => zc b (F K C)) := by
  cases b
  · exact zcn_c none
  · exact h
theorem zcn_cond {b : Bool} {F G : ZK → ZC → ZO} (h : zcn F) (g : zcn G) : zcn (fun K C => bif b then F K C else G K C) := by
  cases b
  · exact g
  · exact h
theorem zcn_ite {p : Prop} [Decidable p] {F G : ZK → ZC → ZO} (h : zcn F) (g : zcn G) : zcn (fun K C => if p then F K C else G K C) := by
  by_cases hp : p
  · simp only [if_pos hp]; exact h
  · simp only [if_neg hp]; exact g
theorem zcn_zr {o : Option Nat} {F : Nat → ZK → ZC → ZO} (h : ∀ x, zcn (F x)) : zcn (fun K C => zr o (fun x => F x K C)) := by
  cases o with
  | none => exact zcn_c none
  | some x => exact h x
theorem zcn_zi {st : List Value} {F : Int32 → List Value → ZK → ZC → ZO} (h : ∀ x s, zcn (F x s)) : zcn (fun K C => zi st (fun x s => F x s K C)) := by
  unfold zi; split
  · exact h _ _
  · exact zcn_c none
theorem zcn_zii {st : List Value} {F : Int32 → Int32 → List Value → ZK → ZC → ZO} (h : ∀ x y s, zcn (F x y s)) : zcn (fun K C => zii st (fun x y s => F x y s K C)) := by
  unfold zii; split
  · exact h _ _ _
  · exact zcn_c none
theorem zcn_zll {st : List Value} {F : Int64 → Int64 → List Value → ZK → ZC → ZO} (h : ∀ x y s, zcn (F x y s)) : zcn (fun K C => zll st (fun x y s => F x y s K C)) := by
  unfold zll; split
  · exact h _ _ _
  · exact zcn_c none
theorem zcn_zil {st : List Value} {F : Int64 → Int32 → List Value → ZK → ZC → ZO} (h : ∀ x y s, zcn (F x y s)) : zcn (fun K C => zil st (fun x y s => F x y s K C)) := by
  unfold zil; split
  · exact h _ _ _
  · exact zcn_c none
theorem zcn_zl {st : List Value} {F : Int64 → List Value → ZK → ZC → ZO} (h : ∀ x s, zcn (F x s)) : zcn (fun K C => zl st (fun x s => F x s K C)) := by
  unfold zl; split
  · exact h _ _
  · exact zcn_c none
theorem zcn_za {st : List Value} {F : Nat → List Value → ZK → ZC → ZO} (h : ∀ x s, zcn (F x s)) : zcn (fun K C => za st (fun x s => F x s K C)) := by
  unfold za; split
  · exact h _ _
  · exact zcn_c none
theorem zcn_zia {st : List Value} {F : Nat → Int32 → List Value → ZK → ZC → ZO} (h : ∀ x y s, zcn (F x y s)) : zcn (fun K C => zia st (fun x y s => F x y s K C)) := by
  unfold zia; split
  · exact h _ _ _
  · exact zcn_c none
theorem zcn_zgi {ls : ZL} {a : Nat} {F : Int32 → ZK → ZC → ZO} (h : ∀ x, zcn (F x)) : zcn (fun K C => zgi ls a (fun x => F x K C)) := by
  unfold zgi; split
  · exact h _
  · exact zcn_c none
theorem zcn_zgl {ls : ZL} {a : Nat} {F : Int64 → ZK → ZC → ZO} (h : ∀ x, zcn (F x)) : zcn (fun K C => zgl ls a (fun x => F x K C)) := by
  unfold zgl; split
  · exact h _
  · exact zcn_c none
theorem zcn_zga {ls : ZL} {a : Nat} {F : Nat → ZK → ZC → ZO} (h : ∀ x, zcn (F x)) : zcn (fun K C => zga ls a (fun x => F x K C)) := by
  unfold zga; split
  · exact h _
  · exact zcn_c none
theorem zcn_zci {v : Value} {F : Int32 → ZK → ZC → ZO} (h : ∀ x, zcn (F x)) : zcn (fun K C => zci v (fun x => F x K C)) := by
  unfold zci; split
  · exact h _
  · exact zcn_c none
theorem zcn_zbr {q : ClassFile.Cond} {x y : Int32} {F G : ZK → ZC → ZO} (h : zcn F) (g : zcn G) : zcn (fun K C => zbr q x y (F K C) (G K C)) := by
  cases q
  · exact zcn_ite h g
  · exact zcn_ite g h
  · exact zcn_ite h g
  · exact zcn_ite g h
  · exact zcn_ite h g
  · exact zcn_ite g h
theorem zcn_zsw {x : Int32} {d : Nat} {sw : List (Int32 × Nat)} {F : Nat → ZK → ZC → ZO} (h : ∀ t, zcn (F t)) : zcn (fun K C => zsw x (fun t => F t K C) d sw) := by
  induction sw with
  | nil => exact h d
  | cons p ps ih => exact zcn_ite (h p.2) ih
theorem zcn_zpop {m : Nat} {st acc : List Value} {F : List Value → List Value → ZK → ZC → ZO} (h : ∀ v s, zcn (F v s)) : zcn (fun K C => zpop m st acc (fun v s => F v s K C)) := by
  induction m generalizing st acc with
  | zero => exact h _ _
  | succ m ih =>
    cases st with
    | nil => exact zcn_c none
    | cons v st => exact ih
/-- a call, then what follows it -/
theorem zcn_b {y : Nat} {ls : ZL} {I : ZI} {R : ZR} {n : Nat} {G : (Option Value × ZI × ZR × Nat) → ZK → ZC → ZO} (h : ∀ r, zcn (G r)) {B : ZO → ZK → ZC → ZO} (hB : ∀ r K C, B (some r) K C = G r K C) (hN : ∀ K C, B none K C = none) : zcn (fun K C => B (C y ls I R n) K C) := by
  refine ⟨fun K K' C C' hK hC r hr => ?_, fun K C K' C' mK mC hK hC r hr => ?_⟩
  · show B (C' y ls I R n) K' C' = some r
    have hr : B (C y ls I R n) K C = some r := hr
    cases hc : C y ls I R n with
    | none => rw [hc, hN] at hr; cases hr
    | some q =>
      rw [hc, hB] at hr
      rw [hC _ _ _ _ _ _ hc, hB]
      exact (h q).1 K K' C C' hK hC r hr
  · have hr : B (C' y ls I R n) K' C' = some r := hr
    cases hc : C' y ls I R n with
    | none => rw [hc, hN] at hr; cases hr
    | some q =>
      rw [hc, hB] at hr
      obtain ⟨i, hi⟩ := hC _ _ _ _ _ _ hc
      obtain ⟨j, hj⟩ := (h q).2 K C K' C' mK mC hK hC r hr
      refine ⟨max i j, ?_⟩
      have h1 := mC i (max i j) (Nat.le_max_left _ _) _ _ _ _ _ _ hi
      have h2 := (h q).1 _ _ _ _ (mK j (max i j) (Nat.le_max_right _ _)) (mC j (max i j) (Nat.le_max_right _ _)) _ hj
      show B (C (max i j) y ls I R n) _ _ = _
      rw [h1, hB]
      exact h2
theorem zcn_zbI {y : Nat} {ls : ZL} {I : ZI} {R : ZR} {n : Nat} {F : Int32 → ZI → ZR → Nat → ZK → ZC → ZO} (h : ∀ x I R n, zcn (F x I R n)) : zcn (fun K C => zbI (C y ls I R n) (fun x I R n => F x I R n K C)) := by
  refine zcn_b (G := fun r K C => zbI (some r) (fun x I R n => F x I R n K C)) (fun r => ?_) (B := fun o K C => zbI o (fun x I R n => F x I R n K C)) (fun r K C => rfl) (fun K C => rfl)
  unfold zbI; split
  · exact h _ _ _ _
  · exact zcn_c none
theorem zcn_zbR {y : Nat} {ls : ZL} {I : ZI} {R : ZR} {n : Nat} {F : Nat → ZI → ZR → Nat → ZK → ZC → ZO} (h : ∀ x I R n, zcn (F x I R n)) : zcn (fun K C => zbR (C y ls I R n) (fun x I R n => F x I R n K C)) := by
  refine zcn_b (G := fun r K C => zbR (some r) (fun x I R n => F x I R n K C)) (fun r => ?_) (B := fun o K C => zbR o (fun x I R n => F x I R n K C)) (fun r K C => rfl) (fun K C => rfl)
  unfold zbR; split
  · exact h _ _ _ _
  · exact zcn_c none
theorem zcn_zbV {y : Nat} {ls : ZL} {I : ZI} {R : ZR} {n : Nat} {F : ZI → ZR → Nat → ZK → ZC → ZO} (h : ∀ I R n, zcn (F I R n)) : zcn (fun K C => zbV (C y ls I R n) (fun I R n => F I R n K C)) := by
  refine zcn_b (G := fun r K C => zbV (some r) (fun I R n => F I R n K C)) (fun r => ?_) (B := fun o K C => zbV o (fun I R n => F I R n K C)) (fun r K C => rfl) (fun K C => rfl)
  unfold zbV; split
  · exact h _ _ _
  · exact zcn_c none
theorem zcn_call {nx a b : Nat} {ls : ZL} {st : List Value} {I : ZI} {R : ZR} {n : Nat} : zcn (fun K C => zcall nx a b K C ls st I R n) := by
  unfold zcall
  split
  · exact zcn_zpop fun _ _ => zcn_zc (zcn_zc (zcn_zbV fun _ _ _ => zcn_K))
  · exact zcn_zpop fun _ _ => zcn_zc (zcn_zc (zcn_zbI fun _ _ _ _ => zcn_K))
  · exact zcn_zpop fun _ _ => zcn_zc (zcn_zc (zcn_zbR fun _ _ _ _ => zcn_K))
  · exact zcn_zii fun _ _ _ => zcn_zc zcn_K
  · exact zcn_zii fun _ _ _ => zcn_zc zcn_K
  · exact zcn_zi fun _ _ => zcn_zc zcn_K
  · exact zcn_za fun _ _ => zcn_zc zcn_K
  · exact zcn_zii fun _ _ _ => zcn_za fun _ _ => zcn_zi fun _ _ => zcn_za fun _ _ => zcn_zc (zcn_zc (zcn_zc zcn_K))
  · exact zcn_za fun _ _ => zcn_zc (zcn_zc zcn_K)
  · exact zcn_zia fun _ _ _ => zcn_zc (zcn_zc zcn_K)
  · exact zcn_c none
set_option maxHeartbeats 4000000 in
theorem zcn_do {i : Instr} {rt nx a b : Nat} {v : Value} {sw : List (Int32 × Nat)} {ls : ZL} {st : List Value} {I : ZI} {R : ZR} {n : Nat} : zcn (fun K C => zdo i rt nx a b v sw K C ls st I R n) := by
  cases i
  case dup => cases st with
    | nil => exact zcn_c none
    | cons v st => exact zcn_zc zcn_K
  case pop => cases st with
    | nil => exact zcn_c none
    | cons v st => exact zcn_zc zcn_K
  case dup2 => cases st with
    | nil => exact zcn_c none
    | cons v st => cases st with
      | nil => exact zcn_c none
      | cons w st => exact zcn_zc zcn_K
  case invokevirtual => exact zcn_call
  case invokestatic => exact zcn_call
  case invokespecial => exact zcn_call
  case getfield => exact zcn_za fun _ _ => zcn_zc (zcn_cond (zcn_zr fun _ => zcn_K) zcn_K)
  case putfield => exact zcn_cond (zcn_za fun _ _ => zcn_za fun _ _ => zcn_zc zcn_K) (zcn_zi fun _ _ => zcn_za fun _ _ => zcn_zc (zcn_zc zcn_K))
  case aaload => exact zcn_zia fun _ _ _ => zcn_zc (zcn_zr fun _ => zcn_K)
  case iastore => exact zcn_zi fun _ _ => zcn_zia fun _ _ _ => zcn_zc zcn_K
  case bastore => exact zcn_zi fun _ _ => zcn_zia fun _ _ _ => zcn_zc zcn_K
  case aastore => exact zcn_za fun _ _ => zcn_zia fun _ _ _ => zcn_zc zcn_K
  case ifCond => exact zcn_zi fun _ _ => zcn_zbr zcn_K zcn_K
  case if_icmp => exact zcn_zii fun _ _ _ => zcn_zbr zcn_K zcn_K
  case tableswitch => exact zcn_zi fun _ _ => zcn_zsw fun _ => zcn_K
  case lookupswitch => exact zcn_zi fun _ _ => zcn_zsw fun _ => zcn_K
  case iinc => exact zcn_zgi fun _ => zcn_zci fun _ => zcn_zc zcn_K
  all_goals first
    | exact zcn_c _
    | exact zcn_K
    | exact zcn_zii fun _ _ _ => zcn_K
    | exact zcn_zii fun _ _ _ => zcn_zc zcn_K
    | exact zcn_zi fun _ _ => zcn_K
    | exact zcn_zi fun _ _ => zcn_zc zcn_K
    | exact zcn_za fun _ _ => zcn_zc zcn_K
    | exact zcn_zl fun _ _ => zcn_K
    | exact zcn_zl fun _ _ => zcn_zc zcn_K
    | exact zcn_zll fun _ _ _ => zcn_K
    | exact zcn_zll fun _ _ _ => zcn_zc zcn_K
    | exact zcn_zil fun _ _ _ => zcn_K
    | exact zcn_zgi fun _ => zcn_K
    | exact zcn_zgl fun _ => zcn_K
    | exact zcn_zga fun _ => zcn_K
    | exact zcn_zia fun _ _ _ => zcn_zc zcn_K
    | exact zcn_zc zcn_K
theorem zcn_st {m pc : Nat} {ls : ZL} {st : List Value} {I : ZI} {R : ZR} {n : Nat} : zcn (fun K C => zst m K C pc ls st I R n) := by
  unfold zst
  split
  · exact zcn_do
  · exact zcn_c none
theorem zev_up : ∀ (k m pc : Nat) (ls : ZL) (st : List Value) (I : ZI) (R : ZR) (n : Nat), zle (zev k m pc ls st I R n) (zev (k + 1) m pc ls st I R n)
  | 0, _, _, _, _, _, _, _ => fun _ h => by cases h
  | k + 1, m, pc, ls, st, I, R, n => zcn_st.1 _ _ _ _ (fun pc ls st I R n => zev_up k m pc ls st I R n) (fun y ls I R n => zev_up k y 0 ls [] I R n)
theorem zev_le {i j : Nat} (h : i ≤ j) (m pc : Nat) (ls : ZL) (st : List Value) (I : ZI) (R : ZR) (n : Nat) : zle (zev i m pc ls st I R n) (zev j m pc ls st I R n) := by
  induction h with
  | refl => exact zle.rf _
  | step h ih => exact ih.trans (zev_up _ m pc ls st I R n)
noncomputable def run (m pc : Nat) (ls : ZL) (st : List Value) (I : ZI) (R : ZR) (n : Nat) : ZO := Classical.epsilon (fun o : ZO => ∀ r, o = some r ↔ ∃ k, zev k m pc ls st I R n = some r)
theorem run_iff {m pc : Nat} {ls : ZL} {st : List Value} {I : ZI} {R : ZR} {n : Nat} (r : Option Value × ZI × ZR × Nat) : run m pc ls st I R n = some r ↔ ∃ k, zev k m pc ls st I R n = some r := by
  have h : ∃ o : ZO, ∀ r, o = some r ↔ ∃ k, zev k m pc ls st I R n = some r := by
    by_cases hx : ∃ k r, zev k m pc ls st I R n = some r
    · obtain ⟨k, q, hq⟩ := hx
      refine ⟨some q, fun r => ⟨fun h => ⟨k, by rw [hq]; exact h⟩, fun ⟨j, hj⟩ => ?_⟩⟩
      have h1 := zev_le (Nat.le_max_left k j) m pc ls st I R n _ hq
      have h2 := zev_le (Nat.le_max_right k j) m pc ls st I R n _ hj
      rw [← h1, ← h2]
    · exact ⟨none, fun r => ⟨(fun h => nomatch h), fun h => absurd ⟨h.choose, r, h.choose_spec⟩ hx⟩⟩
  exact Classical.epsilon_spec h r
noncomputable def runC : ZC := fun y ls I R n => run y 0 ls [] I R n
theorem zext {x y : ZO} (h : zle x y) (g : zle y x) : x = y := by
  cases x with
  | none => cases y with
    | none => rfl
    | some q => exact g q rfl
  | some q => exact (h q rfl).symm
theorem run_eq (m pc : Nat) (ls : ZL) (st : List Value) (I : ZI) (R : ZR) (n : Nat) : run m pc ls st I R n = zst m (run m) runC pc ls st I R n := by
  refine zext (fun r hr => ?_) (fun r hr => ?_)
  · obtain ⟨k, hk⟩ := (run_iff r).mp hr
    cases k with
    | zero => cases hk
    | succ k => exact (zcn_st (m := m)).1 _ _ _ _ (fun pc ls st I R n r h => (run_iff r).mpr ⟨k, h⟩) (fun y ls I R n r h => (run_iff r).mpr ⟨k, h⟩) r hk
  · obtain ⟨k, hk⟩ := (zcn_st (m := m) (pc := pc) (ls := ls) (st := st) (I := I) (R := R) (n := n)).2 (fun k => zev k m) (fun k y ls I R n => zev k y 0 ls [] I R n) (run m) runC
      (fun i j h pc ls st I R n => zev_le h m pc ls st I R n) (fun i j h y ls I R n => zev_le h y 0 ls [] I R n)
      (fun pc ls st I R n r h => (run_iff r).mp h) (fun y ls I R n r h => (run_iff r).mp h) r hr
    exact (run_iff r).mpr ⟨k + 1, hk⟩
def z_mk (m pc : Nat) : List Bool := match z_I m pc with
  | some (_, _, _, _, _, msk, _) => msk
  | none => []
theorem zmask_2 : ∀ (b : List Bool) (ls : ZL), zmask b (zmask b ls) = zmask b ls
  | [], _ => rfl
  | _ :: _, [] => rfl
  | b :: bs, x :: ls => by
    show (bif b then (bif b then x else none) else none) :: zmask bs (zmask bs ls) = (bif b then x else none) :: zmask bs ls
    rw [zmask_2 bs ls]
    cases b <;> rfl
theorem run_mask (m pc : Nat) (ls : ZL) (st : List Value) (I : ZI) (R : ZR) (n : Nat) : run m pc (zmask (z_mk m pc) ls) st I R n = run m pc ls st I R n := by
  rw [run_eq, run_eq m pc ls]
  unfold zst z_mk
  cases h : z_I m pc with
  | none => rfl
  | some q =>
    obtain ⟨i, nx, a, b, v, msk, sw⟩ := q
    dsimp only
    rw [zmask_2]
/-- instructions up to the next stop -/
noncomputable def zss (m : Nat) (stop : Nat → Bool) : Nat → ZK
  | 0 => run m
  | k + 1 => fun pc ls st I R n => bif stop pc then run m pc (zmask (z_mk m pc) ls) st I R n else zst m (zss m stop k) runC pc ls st I R n
theorem zss_run (m : Nat) (stop : Nat → Bool) : ∀ k, zss m stop k = run m
  | 0 => rfl
  | k + 1 => by
    funext pc ls st I R n
    show (bif stop pc then run m pc (zmask (z_mk m pc) ls) st I R n else zst m (zss m stop k) runC pc ls st I R n) = _
    rw [zss_run m stop k, run_mask, ← run_eq]
    cases stop pc <;> rfl
theorem zblk (m : Nat) (stop : Nat → Bool) (k pc : Nat) (ls : ZL) (st : List Value) (I : ZI) (R : ZR) (n : Nat) : run m pc ls st I R n = zst m (zss m stop k) runC pc ls st I R n := by
  rw [zss_run, ← run_eq]
