def z_ip (c : Nat) : Nat := bif Nat.ble 5 c then (bif Nat.ble 7 c then (bif Nat.ble 8 c then (bif Nat.ble 9 c then (bif Nat.beq c 9 then 1357 else 0) else (bif Nat.beq c 8 then 147 else 0)) else (bif Nat.beq c 7 then 199 else 0)) else (bif Nat.ble 6 c then (bif Nat.beq c 6 then 155 else 0) else (bif Nat.beq c 5 then 345 else 0))) else (bif Nat.ble 2 c then (bif Nat.ble 3 c then (bif Nat.ble 4 c then (bif Nat.beq c 4 then 253 else 0) else (bif Nat.beq c 3 then 171 else 0)) else (bif Nat.beq c 2 then 375 else 0)) else (bif Nat.ble 1 c then (bif Nat.beq c 1 then 442 else 0) else (bif Nat.beq c 0 then 325 else 0)))
def z_jp (c : Nat) : Nat := bif Nat.ble 5 c then (bif Nat.ble 7 c then (bif Nat.ble 8 c then (bif Nat.ble 9 c then (bif Nat.beq c 9 then 133 else 0) else (bif Nat.beq c 8 then 124 else 0)) else (bif Nat.beq c 7 then 127 else 0)) else (bif Nat.ble 6 c then (bif Nat.beq c 6 then 125 else 0) else (bif Nat.beq c 5 then 130 else 0))) else (bif Nat.ble 2 c then (bif Nat.ble 3 c then (bif Nat.ble 4 c then (bif Nat.beq c 4 then 128 else 0) else (bif Nat.beq c 3 then 126 else 0)) else (bif Nat.beq c 2 then 131 else 0)) else (bif Nat.ble 1 c then (bif Nat.beq c 1 then 132 else 0) else (bif Nat.beq c 0 then 129 else 0)))
set_option maxRecDepth 100000 in
theorem zins_ok : ∀ a, a < 10 → lw_tbl[z_ip a]? = some (.instantiable (z_cn a) (z_N a)) := by decide +kernel
set_option maxRecDepth 100000 in
theorem zini_ok : ∀ a, a < 10 → lw_tbl[z_jp a]? = some (.initialized (z_cn a)) := by decide +kernel
set_option maxRecDepth 100000 in
theorem zarr_i : lw_tbl[169]? = some (.arrayClass .int) := by decide +kernel
set_option maxRecDepth 100000 in
theorem zarr_b : lw_tbl[711]? = some (.arrayClass .byte) := by decide +kernel
/-! ===== new cells ===== -/
theorem zln_le : ∀ a, a < 281 → z_ln a ≤ 8008 := by decide +kernel
theorem zhC_spec {m i a : Nat} (hm : m < 283) (ha : a < 10) (h : zhC (z_own m) i a = true) : Cond.classLink (z_cn (z_own m)) i (z_cn a) ∈ zW m := by
  obtain ⟨q, hq, h1⟩ := List.any_eq_true.mp h
  simp only [Bool.and_eq_true] at h1
  have e1 := Nat.eq_of_beq_eq_true h1.1
  have e2 := Nat.eq_of_beq_eq_true h1.2
  rcases zCL_ok (z_own m) (zy_ok m hm).1 q hq with ⟨-, g⟩ | ⟨g, -⟩
  · rw [e1, e2] at g; exact zW_at g rfl
  · omega
theorem zhC_spec2 {m i : Nat} (hm : m < 283) (h : zhC (z_own m) i 22 = true) : Cond.classLink (z_cn (z_own m)) i "[[I" ∈ zW m := by
  obtain ⟨q, hq, h1⟩ := List.any_eq_true.mp h
  simp only [Bool.and_eq_true] at h1
  have e1 := Nat.eq_of_beq_eq_true h1.1
  have e2 := Nat.eq_of_beq_eq_true h1.2
  rcases zCL_ok (z_own m) (zy_ok m hm).1 q hq with ⟨g, -⟩ | ⟨-, g⟩
  · omega
  · rw [e1] at g; exact zW_at g rfl
section ZN
variable {p : Program} {l : Launch} {e : Env} {Rm : Room} {s : State} {mid : MethodId} {args : Array Value} {below : List Frame} {meth : Method} {c : Code} {Q : State → Prop}
variable {base : Nat} {D : va_G} {tc : Nat → ClassId} {A : Nat → Prop} {ad0 : Nat → Nat} {n0 m : Nat}
variable {ls : ZL} {st : List Value} {I : ZI} {R : ZR} {n pc : Nat}
theorem zSt.grow {ad ad' : Nat → Nat} {H H1 : Heap} {locs locs1 : List Loc} {la : Array Slot} (S : zSt D tc A s ad0 n0 m ad ls st I R n H locs la) {I' : ZI} {R' : ZR} {n' : Nat} (hn : n ≤ n') (hn' : n' ≤ 1000) (hag : zag n ad ad') (hI : ∀ a, 1000 ≤ a → I' a = I a) (hR : zwf R' n') (hP : va_P D vwCl (zwl tc ad' I' R' n') H1) (hD : va_D A (zwl tc ad' I' R' n')) (hS : va_S A s.heap H1 locs1) : zSt D tc A s ad0 n0 m ad' ls st I' R' n' H1 locs1 la := by
  obtain ⟨-, -, -, ⟨-, h5, -⟩, h7, h8, h9, h10, h11⟩ := S
  exact ⟨hP, hD, hS, ⟨hR, fun j i hj hi => by rw [hI _ (by omega)]; exact h5 j i hj hi, hn'⟩, fun v hv => (h7 v hv).up hn, fun i v hv => ⟨(h8 i v hv).1.up hn, by rw [ztr_ag hag (h8 i v hv).1]; exact (h8 i v hv).2⟩, h9, Nat.le_trans h10 hn, h11.trans hag h10⟩
theorem zGo.grown {ad ad' : Nat → Nat} {H H1 : Heap} {locs locs1 : List Loc} {la : Array Slot} (S : zSt D tc A s ad0 n0 m ad ls st I R n H locs la) {I' : ZI} {R' : ZR} {n' : Nat} (hn : n < n') (hn' : n' ≤ 1000) (hag : zag n ad ad') (hI : ∀ a, 1000 ≤ a → I' a = I a) (hR : zwf R' n') (hP : va_P D vwCl (zwl tc ad' I' R' n') H1) (hD : va_D A (zwl tc ad' I' R' n')) (hS : va_S A s.heap H1 locs1)
    {pc' : Nat} (k : zGo p l e Rm s mid args below meth c Q D tc A ad0 n0 m pc' ls (.ref n :: st) I' R' n') : W p l e Rm s mid args below meth c H1 locs1 (n' - n0) (zs n' - zs n0) Q (F0 mid pc' la (.ref (ad' n) :: st.map (ztr ad))) := by
  have := k ad' H1 locs1 la ((S.grow (Nat.le_of_lt hn) hn' hag hI hR hP hD hS).push (zwv_ref (Or.inl hn)))
  rw [List.map_cons, ztr_map hag S.2.2.2.2.1] at this
  exact this
theorem zag_new {n q : Nat} {ad : Nat → Nat} (hn : n < 1000) : zag n ad (fun k => if k = n then q else ad k) := by
  intro k hk
  show (if k = n then q else ad k) = ad k
  rw [if_neg (by omega)]
theorem zs_step {n n0 k : Nat} (h : n0 ≤ n) (hk : z_ln n = k) : zs (n + 1) - zs n0 = zs n - zs n0 + k := by
  have := zs_le h
  show zs n + z_ln n - zs n0 = _
  omega
theorem zwf_up {R : ZR} {n n' : Nat} (h : zwf R n) (hn : n ≤ n') : zwf R n' := fun a i b hb => (h a i b hb).imp (fun q => Nat.lt_of_lt_of_le q hn) id
theorem zwf_zzr {R : ZR} {n a : Nat} (h : zwf R n) : zwf (zzr R a) n := by
  intro x i b hb
  unfold zzr at hb
  split at hb
  · cases hb
  · exact h x i b hb
theorem za_new (X : zCx p s mid args meth c m) (E : zEnv base D tc ad0 s s.heap) (hA : ∀ q, s.heap.size ≤ q → A q) {i a : Nat} (hd : decode (z_by m) pc = .ok (.new i, 3)) (ha : a < 10) (hC : zhC (z_own m) i a = true) (hk : z_kd n = a) (hc : n + 1 - n0 ≤ Rm.cells) (hs : zs (n + 1) - zs n0 ≤ Rm.slots)
    (k : zGo p l e Rm s mid args below meth c Q D tc A ad0 n0 m (pc + 3) ls (.ref n :: st) (zz I n) (zzr R n) (n + 1)) : zGo p l e Rm s mid args below meth c Q D tc A ad0 n0 m pc ls st I R n := by
  intro ad H locs la S
  have hn0 := S.2.2.2.2.2.2.2.1
  have hn1 : n < 1000 := by
    rcases Nat.lt_or_ge n 1000 with q | q
    · exact q
    · have := zkd_big n q; omega
  have h281 : n < 281 := zkd_281 n hn1 (by omega)
  have hz : z_ln n = z_N a := by rw [zln_ok n h281 (by omega), hk]
  have hst := zs_step hn0 hz
  have hfs : ∀ j, j < z_N a → defaultValue (z_ty a j) = vp_V ((List.range (z_N a)).map (fun j => if z_ft a j = 2 then Value.null else Value.int 0)) j := by
    intro j hj
    have h1 := zft_ok a ha j hj
    have h2 := zft_3 a ha j hj
    unfold vp_V
    rw [List.getD_eq_getElem?_getD, List.getElem?_map, List.getElem?_range hj, Option.map_some, Option.getD_some]
    cases ht : z_ty a j <;> rw [ht] at h1 <;> unfold zftb at h1 <;> dsimp only at h1
    case int => rw [if_neg (by omega)]; rfl
    case boolean => rw [if_neg (by omega)]; rfl
    case object => rw [if_pos h1]; rfl
    case array => rw [if_pos h1]; rfl
    all_goals (exfalso; omega)
  refine va_new (D := D) (ci := a) (C := z_cn a) (T := z_T a) (N := z_N a) X.1 X.2.1 X.2.2.2.2.2.1 (zlay_in ha) (z_ty a) (zty_ok a ha) X.2.2.2.2.1 (X.2.2.2.2.2.1 _ (zhC_spec X.2.2.2.2.2.2.2.2 ha hC)) (X.2.2.2.2.2.1 _ (zW_at (zins_ok a ha) rfl)) (X.2.2.2.2.2.1 _ (zW_at (zini_ok a ha) rfl)) E.1 S.1 S.2.1 S.2.2.1 hA (zvw_ok a ha) hfs (by omega) (by omega) hd (fun q H1 hP hD hS => ?_)
  obtain ⟨ad', hself, hne⟩ : ∃ ad' : Nat → Nat, ad' n = q ∧ ∀ b, b ≠ n → ad' b = ad b := ⟨fun k => if k = n then q else ad k, if_pos rfl, fun b hb => if_neg hb⟩
  have hag : zag n ad ad' := fun k hk => hne k (by omega)
  have hent : zent tc ad' (zz I n) (zzr R n) n = .inr (a, (List.range (z_N a)).map (fun j => if z_ft a j = 2 then Value.null else Value.int 0)) := by
    rw [zent_obj hk ha, hz]
    congr 2
    apply List.map_congr_left
    intro j _
    unfold zfv zz zzr
    rw [if_pos rfl, if_pos rfl]
    rfl
  have hpush := zwl_push (tc := tc) (ad := ad) (ad' := ad') (I := I) (I' := zz I n) (R := R) (R' := zzr R n) (n := n) (fun b hb => by
    have e1 : zent tc ad' (zz I n) (zzr R n) b = zent tc ad I R b := (zent_dep (I := I) (R := R) (by funext j; unfold zz; rw [if_neg (by omega)]) (by funext j; unfold zzr; rw [if_neg (by omega)])).trans (zent_ag hag S.2.2.2.1.1 b)
    rw [e1]
    rw [hne b (by omega)])
  rw [hent, hself] at hpush
  rw [← hpush] at hP hD
  have := zGo.grown S (Nat.lt_succ_self n) (by omega) hag (fun b hb => by funext j; unfold zz; rw [if_neg (by omega)]) (zwf_zzr (zwf_up S.2.2.2.1.1 (Nat.le_succ n))) hP hD hS k
  rw [hself, hst] at this
  have e2 : n + 1 - n0 = n - n0 + 1 := by omega
  rw [e2] at this
  exact this
theorem zcls_eq {U : State} {D : va_G} {cl : List vw_C} {tys : List (ClassId × FieldType)} {ty : FieldType} {cA cB : ClassId} (hK : va_K D cl (tys ++ [(cA, ty)]) U) {j : Nat} (hj : tys[j]? = some (cB, ty)) (hp : ∀ C, ty ≠ .object C) : cA = cB := by
  have h1 := (hK.2 tys.length (cA, ty) (by simp)).2
  have h2 := (hK.2 j (cB, ty) (by rw [List.getElem?_append_left (List.getElem?_eq_some_iff.mp hj).1]; exact hj)).2
  cases ty with
  | object C => exact absurd rfl (hp C)
  | _ => exact Option.some.inj (h1.symm.trans h2)
theorem za_newa (X : zCx p s mid args meth c m) (E : zEnv base D tc ad0 s s.heap) (hA : ∀ q, s.heap.size ≤ q → A q) {aty : ArrayType} {a j : Nat} {ty : FieldType} {x : Int32} (hd : decode (z_by m) pc = .ok (.newarray aty, 2)) (hk : z_kd n = a) (h20 : ¬ a < 10) (h22 : a < 22) (hty : newarray.typeOf aty = ty) (harr : Cond.arrayClass (newarray.typeOf aty) ∈ zW m) (hj : (ztys tc)[j]? = some (tc a, ty)) (hdef : defaultValue ty = .int 0) (hcb : componentBytes ty ≤ 8) (hno : ∀ C, ty ≠ .object C)
    (hx : ¬ x < 0) (hN : z_ln n = zix x) (hc : n + 1 - n0 ≤ Rm.cells) (hs : zs (n + 1) - zs n0 ≤ Rm.slots)
    (k : zGo p l e Rm s mid args below meth c Q D tc A ad0 n0 m (pc + 2) ls (.ref n :: st) (zz I n) R (n + 1)) : zGo p l e Rm s mid args below meth c Q D tc A ad0 n0 m pc ls (.int x :: st) I R n := by
  intro ad H locs la S0
  have S := S0.pop
  have hn0 := S.2.2.2.2.2.2.2.1
  have hn1 : n < 1000 := by
    rcases Nat.lt_or_ge n 1000 with q | q
    · exact q
    · have := zkd_big n q; omega
  have h281 : n < 281 := zkd_281 n hn1 (by omega)
  have hle := zln_le n h281
  have hst := zs_step hn0 (rfl : z_ln n = z_ln n)
  have hbytes : z_ln n * componentBytes ty ≤ 536870912 := Nat.le_trans (Nat.mul_le_mul hle hcb) (Nat.le_of_ble_eq_true rfl)
  refine va_newa (D := D) X.1 X.2.1 (X.2.2.2.2.2.1 _ harr) hty E.1 S.1 S.2.1 S.2.2.1 hA (a0 := (z_ln n, .inl (fun _ => 0))) (fun cA => by rw [vp_cell_i, hdef]) hx hN.symm hbytes (by omega) (by omega) hd (fun q cA H1 hK hP hD hS => ?_)
  have hcA : cA = tc a := zcls_eq hK hj hno
  subst hcA
  obtain ⟨ad', hself, hne⟩ : ∃ ad' : Nat → Nat, ad' n = q ∧ ∀ b, b ≠ n → ad' b = ad b := ⟨fun k => if k = n then q else ad k, if_pos rfl, fun b hb => if_neg hb⟩
  have hag : zag n ad ad' := fun k hk => hne k (by omega)
  have hent : zent tc ad' (zz I n) R n = .inl (tc a, z_ln n, .inl (fun _ => 0)) := by
    rw [zent_int hk h20 h22]
    congr 4
    funext j
    unfold zz
    rw [if_pos rfl]
  have hpush := zwl_push (tc := tc) (ad := ad) (ad' := ad') (I := I) (I' := zz I n) (R := R) (R' := R) (n := n) (fun b hb => by
    have e1 : zent tc ad' (zz I n) R b = zent tc ad I R b := (zent_dep (I := I) (R := R) (by funext j; unfold zz; rw [if_neg (by omega)]) rfl).trans (zent_ag hag S.2.2.2.1.1 b)
    rw [e1]
    rw [hne b (by omega)])
  rw [hent, hself] at hpush
  rw [← hpush] at hP hD
  have := zGo.grown S (Nat.lt_succ_self n) (by omega) hag (fun b hb => by funext j; unfold zz; rw [if_neg (by omega)]) (zwf_up S.2.2.2.1.1 (Nat.le_succ n)) hP hD hS k
  rw [hself, hst] at this
  have e2 : n + 1 - n0 = n - n0 + 1 := by omega
  rw [e2] at this
  exact this
theorem za_newq (X : zCx p s mid args meth c m) (E : zEnv base D tc ad0 s s.heap) (hA : ∀ q, s.heap.size ≤ q → A q) {i : Nat} {x : Int32} (hd : decode (z_by m) pc = .ok (.anewarray i, 3)) (hC : zhC (z_own m) i 4 = true) (hk : z_kd n = 23)
    (hx : ¬ x < 0) (hN : z_ln n = zix x) (hc : n + 1 - n0 ≤ Rm.cells) (hs : zs (n + 1) - zs n0 ≤ Rm.slots)
    (k : zGo p l e Rm s mid args below meth c Q D tc A ad0 n0 m (pc + 3) ls (.ref n :: st) I (zzr R n) (n + 1)) : zGo p l e Rm s mid args below meth c Q D tc A ad0 n0 m pc ls (.int x :: st) I R n := by
  intro ad H locs la S0
  have S := S0.pop
  have hn0 := S.2.2.2.2.2.2.2.1
  have hn1 : n < 1000 := by
    rcases Nat.lt_or_ge n 1000 with q | q
    · exact q
    · have := zkd_big n q; omega
  have h281 : n < 281 := zkd_281 n hn1 (by omega)
  have hle := zln_le n h281
  have hst := zs_step hn0 (rfl : z_ln n = z_ln n)
  refine va_newq (D := D) (C := RX4) X.1 X.2.1 X.2.2.2.2.1 (X.2.2.2.2.2.1 _ (zhC_spec (a := 4) X.2.2.2.2.2.2.2.2 (by omega) hC)) E.2.2.2.2.2.1 E.1 S.1 S.2.1 S.2.2.1 hA hx hN.symm (by omega) (by omega) (by omega) hd (fun q cA H1 hK hP hD hS => ?_)
  have hcA : cA = tc 23 := by
    obtain ⟨kA, comp, -, -, -, h1⟩ := (hK.2 4 (cA, .object RX4) rfl).2
    obtain ⟨kB, comp2, -, -, -, h2⟩ := (E.1.2 3 (tc 23, .object RX4) rfl).2
    exact Option.some.inj (h1.symm.trans h2)
  subst hcA
  obtain ⟨ad', hself, hne⟩ : ∃ ad' : Nat → Nat, ad' n = q ∧ ∀ b, b ≠ n → ad' b = ad b := ⟨fun k => if k = n then q else ad k, if_pos rfl, fun b hb => if_neg hb⟩
  have hag : zag n ad ad' := fun k hk => hne k (by omega)
  have hent : zent tc ad' I (zzr R n) n = .inl (tc 23, z_ln n, .inr (.inr (.inr (.inr (fun _ => none))))) := by
    rw [zent_ref hk (by omega)]
    congr 7
    funext j
    unfold zzr
    rw [if_pos rfl]
    rfl
  have hpush := zwl_push (tc := tc) (ad := ad) (ad' := ad') (I := I) (I' := I) (R := R) (R' := zzr R n) (n := n) (fun b hb => by
    have e1 : zent tc ad' I (zzr R n) b = zent tc ad I R b := (zent_dep (I := I) (R := R) rfl (by funext j; unfold zzr; rw [if_neg (by omega)])).trans (zent_ag hag S.2.2.2.1.1 b)
    rw [e1]
    rw [hne b (by omega)])
  rw [hent, hself] at hpush
  rw [← hpush] at hP hD
  have := zGo.grown S (Nat.lt_succ_self n) (by omega) hag (fun b hb => rfl) (zwf_zzr (zwf_up S.2.2.2.1.1 (Nat.le_succ n))) hP hD hS k
  rw [hself, hst] at this
  have e2 : n + 1 - n0 = n - n0 + 1 := by omega
  rw [e2] at this
  exact this
end ZN
