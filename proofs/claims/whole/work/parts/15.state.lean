def z_LP (c : Nat) : List Nat := bif Nat.ble 5 c then (bif Nat.ble 7 c then (bif Nat.ble 8 c then (bif Nat.ble 9 c then (bif Nat.beq c 9 then [1399, 1401, 1403, 1405, 1407, 1409, 1411, 1413, 1415, 1417, 1419, 1421, 1423, 1425, 1427, 1429, 1431, 1433, 1435, 1437, 1439, 1441, 1443, 1445, 1447, 1449, 1451, 1453, 1455, 1457, 1459, 1461, 1463, 1465, 1467, 1469, 1471] else []) else (bif Nat.beq c 8 then [520, 522, 524, 526, 528, 530, 532, 534, 536, 538, 540, 542, 544] else [])) else (bif Nat.beq c 7 then [225, 227, 229, 231, 233, 235, 237, 239, 241, 243, 245, 247, 249] else [])) else (bif Nat.ble 6 c then (bif Nat.beq c 6 then [164, 166] else []) else (bif Nat.beq c 5 then [359, 361, 363, 365, 367, 369, 371] else []))) else (bif Nat.ble 2 c then (bif Nat.ble 3 c then (bif Nat.ble 4 c then (bif Nat.beq c 4 then [297, 299, 301, 303, 305, 307, 309, 311, 313, 315, 317, 319, 321] else []) else (bif Nat.beq c 3 then [183, 185, 187, 189, 191, 193, 195] else [])) else (bif Nat.beq c 2 then [404, 406, 408, 410, 412, 414, 416, 418, 420, 422, 424, 426, 428, 430, 432, 434, 436, 438] else [])) else (bif Nat.ble 1 c then (bif Nat.beq c 1 then [486, 488, 490, 492, 494, 496, 498, 500, 502, 504] else []) else (bif Nat.beq c 0 then [337, 339, 341] else [])))
set_option maxRecDepth 100000 in
theorem zlay : ∀ a, a < 10 → u_ws (z_cn a) (z_T a) (z_N a) = (z_LP a).filterMap (fun i => lw_tbl[i]?) := by decide +kernel
/-! ===== the machine's state, told by names: what stays true, what a state of both is ===== -/
def z_ws : List Cond := lw_tbl.filter goodWord
theorem z_ws_at {w : Cond} {i : Nat} (h : lw_tbl[i]? = some w) (hg : goodWord w = true) : w ∈ z_ws := List.mem_filter.mpr ⟨List.mem_of_getElem? h, hg⟩
def zW (m : Nat) : List Cond := Cond.code (z_y m) (z_by m) (z_ml m) (z_ret m) :: z_ws
theorem zW_of {m : Nat} {w : Cond} (h : w ∈ z_ws) : w ∈ zW m := List.mem_cons_of_mem _ h
theorem zW_at {m : Nat} {w : Cond} {i : Nat} (h : lw_tbl[i]? = some w) (hg : goodWord w = true) : w ∈ zW m := zW_of (z_ws_at h hg)
theorem zW_good (m : Nat) {y : Nat} (hy : y < 283) : GoodIn (zW m) (zW y) := by
  intro w hw
  have hz : w ∈ z_ws := by
    rcases List.mem_cons.mp hw with h | h
    · rw [h]; exact z_ws_at (zcd y hy) rfl
    · exact h
  exact ⟨zW_of hz, good_of_word (List.mem_filter.mp hz).2⟩
/-- a name's address -/
def ztr (ad : Nat → Nat) (v : Value) : Value := match v with
  | .ref a => .ref (ad a)
  | v => v
def zfv (ad : Nat → Nat) (I : ZI) (R : ZR) (c a k : Nat) : Value := if z_ft c k = 2 then va_rf ((R a k).map ad) else .int (I a k)
def zent (tc : Nat → ClassId) (ad : Nat → Nat) (I : ZI) (R : ZR) (a : Nat) : va_E :=
  if z_kd a < 10 then .inr (z_kd a, (List.range (z_ln a)).map (zfv ad I R (z_kd a) a))
  else if z_kd a < 22 then .inl (tc (z_kd a), z_ln a, .inl (I a))
  else .inl (tc (z_kd a), z_ln a, .inr (.inr (.inr (.inr (fun j => (R a j).map ad)))))
def zwl (tc : Nat → ClassId) (ad : Nat → Nat) (I : ZI) (R : ZR) (n : Nat) : va_W := (List.range n).map fun a => (ad a, zent tc ad I R a)
theorem zwl_get {tc : Nat → ClassId} {ad : Nat → Nat} {I : ZI} {R : ZR} {n a : Nat} (h : a < n) : (zwl tc ad I R n)[a]? = some (ad a, zent tc ad I R a) := by
  unfold zwl
  rw [List.getElem?_map, List.getElem?_range h]
  rfl
theorem zwl_len {tc : Nat → ClassId} {ad : Nat → Nat} {I : ZI} {R : ZR} {n : Nat} : (zwl tc ad I R n).length = n := by
  unfold zwl; rw [List.length_map, List.length_range]
theorem zwl_set {tc : Nat → ClassId} {ad : Nat → Nat} {I I' : ZI} {R R' : ZR} {n o : Nat} (h : ∀ a, a ≠ o → zent tc ad I' R' a = zent tc ad I R a) : (zwl tc ad I R n).set o (ad o, zent tc ad I' R' o) = zwl tc ad I' R' n := by
  apply List.ext_getElem?
  intro k
  by_cases hk : k < n
  · rw [zwl_get hk]
    by_cases ho : k = o
    · subst ho
      rw [List.getElem?_set_self (by rw [zwl_len]; exact hk)]
    · rw [List.getElem?_set_ne (fun q => ho q.symm), zwl_get hk, h k ho]
  · rw [List.getElem?_eq_none (by rw [List.length_set, zwl_len]; omega), List.getElem?_eq_none (by rw [zwl_len]; omega)]
theorem zwl_push {tc : Nat → ClassId} {ad ad' : Nat → Nat} {I I' : ZI} {R R' : ZR} {n : Nat} (h : ∀ a, a < n → (ad' a, zent tc ad' I' R' a) = (ad a, zent tc ad I R a)) : zwl tc ad' I' R' (n + 1) = zwl tc ad I R n ++ [(ad' n, zent tc ad' I' R' n)] := by
  unfold zwl
  rw [List.range_succ, List.map_append]
  congr 1
  exact List.map_congr_left fun a ha => h a (List.mem_range.mp ha)
/-- names that are there, and constants' -/
def zwv (n : Nat) (v : Value) : Prop := (∀ b, v = .ref b → b < n ∨ 1000 ≤ b) ∧ ∀ x, v ≠ .double x
def zwf (R : ZR) (n : Nat) : Prop := ∀ a i b, R a i = some b → b < n ∨ 1000 ≤ b
def zag (n : Nat) (ad ad' : Nat → Nat) : Prop := ∀ k, (k < n ∨ 1000 ≤ k) → ad' k = ad k
theorem zag.rf (n : Nat) (ad : Nat → Nat) : zag n ad ad := fun _ _ => rfl
theorem zag.trans {n n' : Nat} {ad ad' ad'' : Nat → Nat} (h : zag n ad ad') (g : zag n' ad' ad'') (hn : n ≤ n') : zag n ad ad'' := fun k hk => (g k (hk.imp (fun q => Nat.lt_of_lt_of_le q hn) id)).trans (h k hk)
theorem zwv.up {n n' : Nat} {v : Value} (h : zwv n v) (hn : n ≤ n') : zwv n' v := ⟨fun b hb => (h.1 b hb).imp (fun q => Nat.lt_of_lt_of_le q hn) id, h.2⟩
theorem zwv_int (n : Nat) (x : Int32) : zwv n (.int x) := ⟨(fun _ h => by cases h), (fun _ h => by cases h)⟩
theorem zwv_long (n : Nat) (x : Int64) : zwv n (.long x) := ⟨(fun _ h => by cases h), (fun _ h => by cases h)⟩
theorem zwv_ref {n a : Nat} (h : a < n ∨ 1000 ≤ a) : zwv n (.ref a) := ⟨(fun _ q => by cases q; exact h), (fun _ q => by cases q)⟩
theorem ztr_ag {n : Nat} {ad ad' : Nat → Nat} {v : Value} (h : zag n ad ad') (hv : zwv n v) : ztr ad' v = ztr ad v := by
  cases v with
  | ref a => show Value.ref _ = Value.ref _; rw [h a (hv.1 a rfl)]
  | _ => rfl
theorem ztr_map {n : Nat} {ad ad' : Nat → Nat} {st : List Value} (h : zag n ad ad') (hv : ∀ v ∈ st, zwv n v) : st.map (ztr ad') = st.map (ztr ad) := List.map_congr_left fun v hm => ztr_ag h (hv v hm)
theorem zmap_ag {R : ZR} {n : Nat} {ad ad' : Nat → Nat} (h : zag n ad ad') (hR : zwf R n) (a k : Nat) : (R a k).map ad' = (R a k).map ad := by
  cases hr : R a k with
  | none => rfl
  | some b => show some _ = some _; rw [h b (hR a k b hr)]
theorem zent_ag {tc : Nat → ClassId} {I : ZI} {R : ZR} {n : Nat} {ad ad' : Nat → Nat} (h : zag n ad ad') (hR : zwf R n) (a : Nat) : zent tc ad' I R a = zent tc ad I R a := by
  unfold zent zfv
  simp only [zmap_ag h hR]
theorem zkd_small : ∀ a, a < 1013 → 1000 ≤ a → z_kd a = 24 ∨ z_kd a = 25 ∨ z_kd a = 99 := by decide +kernel
set_option maxRecDepth 20000 in
set_option maxHeartbeats 4000000 in
theorem zkd_large (a : Nat) (h : 1013 ≤ a) : z_kd a = 99 := by
  have h1 : ∀ k, k ≤ 1012 → Nat.ble k a = true := fun k hk => Nat.ble_eq_true_of_le (by omega)
  have h2 : ∀ k, k ≤ 1012 → Nat.beq a k = false := fun k hk => by
    cases hb : Nat.beq a k with
    | false => rfl
    | true => have := Nat.eq_of_beq_eq_true hb; omega
  unfold z_kd
  repeat (first | rw [h1 _ (by decide)]; dsimp only [cond_true] | rw [h2 _ (by decide)]; dsimp only [cond_false])
theorem zkd_big (a : Nat) (h : 1000 ≤ a) : z_kd a = 24 ∨ z_kd a = 25 ∨ z_kd a = 99 := by
  by_cases hb : a < 1013
  · exact zkd_small a hb h
  · exact Or.inr (Or.inr (zkd_large a (by omega)))
theorem zis_in {n a k : Nat} (h : zis n a k = true) (hk : k < 24) : a < n ∧ z_kd a = k := by
  unfold zis at h
  rw [Bool.and_eq_true, Bool.or_eq_true] at h
  have hkd := Nat.eq_of_beq_eq_true h.2
  rcases h.1 with h1 | h1
  · exact ⟨Nat.le_of_ble_eq_true h1, hkd⟩
  · have := zkd_big a (Nat.le_of_ble_eq_true h1)
    omega
theorem zln_ok : ∀ a, a < 281 → z_kd a < 10 → z_ln a = z_N (z_kd a) := by decide +kernel
theorem zkd_281 : ∀ a, a < 1000 → z_kd a ≠ 99 → a < 281 := by decide +kernel
theorem zkd_24 : ∀ a, a < 1013 → z_kd a = 24 → 1010 ≤ a ∧ a < 1013 ∧ z_ln a = 6 := by decide +kernel
theorem zkd_25 : ∀ a, a < 1013 → z_kd a = 25 → 1000 ≤ a ∧ a < 1007 := by decide +kernel
theorem zfields {n a k : Nat} (h : zis n a k = true) (hk : k < 10) (hn : n ≤ 1000) : z_ln a = z_N k := by
  obtain ⟨h1, h2⟩ := zis_in h (by omega)
  have h3 := zkd_281 a (by omega) (by omega)
  rw [zln_ok a h3 (by omega), h2]
def zs : Nat → Nat
  | 0 => 0
  | n + 1 => zs n + z_ln n
theorem zs_le {a b : Nat} (h : a ≤ b) : zs a ≤ zs b := by
  induction h with
  | refl => exact Nat.le_refl _
  | step h ih => exact Nat.le_trans ih (Nat.le_add_right _ _)
/-- the answer's heap isn't smaller -/
def zmn (n : Nat) (o : ZO) : Prop := ∀ r, o = some r → n ≤ r.2.2.2
section ZP
variable {P : ZO → Prop}
theorem zP_zc (hn : P none) {b : Bool} {x : ZO} (h : P x) : P (zc b x) := by cases b; exact hn; exact h
theorem zP_cond {b : Bool} {x y : ZO} (h : P x) (g : P y) : P (bif b then x else y) := by cases b; exact g; exact h
theorem zP_zr (hn : P none) {o : Option Nat} {k : Nat → ZO} (h : ∀ x, P (k x)) : P (zr o k) := by
  cases o with
  | none => exact hn
  | some x => exact h x
theorem zP_zi (hn : P none) {st : List Value} {k : Int32 → List Value → ZO} (h : ∀ x s, P (k x s)) : P (zi st k) := by
  unfold zi; split
  · exact h _ _
  · exact hn
theorem zP_zii (hn : P none) {st : List Value} {k : Int32 → Int32 → List Value → ZO} (h : ∀ x y s, P (k x y s)) : P (zii st k) := by
  unfold zii; split
  · exact h _ _ _
  · exact hn
theorem zP_zll (hn : P none) {st : List Value} {k : Int64 → Int64 → List Value → ZO} (h : ∀ x y s, P (k x y s)) : P (zll st k) := by
  unfold zll; split
  · exact h _ _ _
  · exact hn
theorem zP_zil (hn : P none) {st : List Value} {k : Int64 → Int32 → List Value → ZO} (h : ∀ x y s, P (k x y s)) : P (zil st k) := by
  unfold zil; split
  · exact h _ _ _
  · exact hn
theorem zP_zl (hn : P none) {st : List Value} {k : Int64 → List Value → ZO} (h : ∀ x s, P (k x s)) : P (zl st k) := by
  unfold zl; split
  · exact h _ _
  · exact hn
theorem zP_za (hn : P none) {st : List Value} {k : Nat → List Value → ZO} (h : ∀ x s, P (k x s)) : P (za st k) := by
  unfold za; split
  · exact h _ _
  · exact hn
theorem zP_zia (hn : P none) {st : List Value} {k : Nat → Int32 → List Value → ZO} (h : ∀ x y s, P (k x y s)) : P (zia st k) := by
  unfold zia; split
  · exact h _ _ _
  · exact hn
theorem zP_zgi (hn : P none) {ls : ZL} {a : Nat} {k : Int32 → ZO} (h : ∀ x, P (k x)) : P (zgi ls a k) := by
  unfold zgi; split
  · exact h _
  · exact hn
theorem zP_zgl (hn : P none) {ls : ZL} {a : Nat} {k : Int64 → ZO} (h : ∀ x, P (k x)) : P (zgl ls a k) := by
  unfold zgl; split
  · exact h _
  · exact hn
theorem zP_zga (hn : P none) {ls : ZL} {a : Nat} {k : Nat → ZO} (h : ∀ x, P (k x)) : P (zga ls a k) := by
  unfold zga; split
  · exact h _
  · exact hn
theorem zP_zci (hn : P none) {v : Value} {k : Int32 → ZO} (h : ∀ x, P (k x)) : P (zci v k) := by
  unfold zci; split
  · exact h _
  · exact hn
theorem zP_zbr {q : ClassFile.Cond} {x y : Int32} {t f : ZO} (h : P t) (g : P f) : P (zbr q x y t f) := by
  cases q <;> (unfold zbr; dsimp only; split) <;> assumption
theorem zP_zsw {x : Int32} {d : Nat} {sw : List (Int32 × Nat)} {k : Nat → ZO} (h : ∀ t, P (k t)) : P (zsw x k d sw) := by
  induction sw with
  | nil => exact h d
  | cons p ps ih =>
    unfold zsw; split
    · exact h p.2
    · exact ih
theorem zP_zpop (hn : P none) {m : Nat} {st acc : List Value} {k : List Value → List Value → ZO} (h : ∀ v s, P (k v s)) : P (zpop m st acc k) := by
  induction m generalizing st acc with
  | zero => exact h _ _
  | succ m ih =>
    cases st with
    | nil => exact hn
    | cons v st => exact ih
end ZP
theorem zmn_b {n : Nat} {o : ZO} (ho : zmn n o) {f : ZO → ZO} (hf : ∀ r, n ≤ r.2.2.2 → zmn n (f (some r))) (hn : f none = none) : zmn n (f o) := by
  cases o with
  | none => rw [hn]; exact fun _ h => by cases h
  | some r => exact hf r (ho r rfl)
theorem zmn_none (n : Nat) : zmn n none := fun _ h => by cases h
theorem zmn_up {n n' : Nat} {o : ZO} (h : zmn n' o) (hn : n ≤ n') : zmn n o := fun r hr => Nat.le_trans hn (h r hr)
section ZMN
variable {K : ZK} {C : ZC}
theorem zmn_call (hK : ∀ pc ls st I R n, zmn n (K pc ls st I R n)) (hC : ∀ y ls I R n, zmn n (C y ls I R n)) (nx a b : Nat) (ls : ZL) (st : List Value) (I : ZI) (R : ZR) (n : Nat) : zmn n (zcall nx a b K C ls st I R n) := by
  have N := zmn_none n
  unfold zcall
  split
  · refine zP_zpop N fun vs s => zP_zc N (zP_zc N ?_)
    refine zmn_b (f := fun o => zbV o fun I R n => K nx ls s I R n) (hC _ _ _ _ _) (fun r hr => ?_) rfl
    unfold zbV; dsimp only; split
    · rename_i h; cases h; exact zmn_up (hK _ _ _ _ _ _) hr
    · exact N
  · refine zP_zpop N fun vs s => zP_zc N (zP_zc N ?_)
    refine zmn_b (f := fun o => zbI o fun x I R n => K nx ls (.int x :: s) I R n) (hC _ _ _ _ _) (fun r hr => ?_) rfl
    unfold zbI; dsimp only; split
    · rename_i h; cases h; exact zmn_up (hK _ _ _ _ _ _) hr
    · exact N
  · refine zP_zpop N fun vs s => zP_zc N (zP_zc N ?_)
    refine zmn_b (f := fun o => zbR o fun x I R n => K nx ls (.ref x :: s) I R n) (hC _ _ _ _ _) (fun r hr => ?_) rfl
    unfold zbR; dsimp only; split
    · rename_i h; cases h; exact zmn_up (hK _ _ _ _ _ _) hr
    · exact N
  · exact zP_zii N fun _ _ _ => zP_zc N (hK _ _ _ _ _ _)
  · exact zP_zii N fun _ _ _ => zP_zc N (hK _ _ _ _ _ _)
  · exact zP_zi N fun _ _ => zP_zc N (hK _ _ _ _ _ _)
  · exact zP_za N fun _ _ => zP_zc N (hK _ _ _ _ _ _)
  · exact zP_zii N fun _ _ _ => zP_za N fun _ _ => zP_zi N fun _ _ => zP_za N fun _ _ => zP_zc N (zP_zc N (zP_zc N (hK _ _ _ _ _ _)))
  · exact zP_za N fun _ _ => zP_zc N (zP_zc N (hK _ _ _ _ _ _))
  · exact zP_zia N fun _ _ _ => zP_zc N (zP_zc N (hK _ _ _ _ _ _))
  · exact N
set_option maxHeartbeats 4000000 in
theorem zmn_do (hK : ∀ pc ls st I R n, zmn n (K pc ls st I R n)) (hC : ∀ y ls I R n, zmn n (C y ls I R n)) (i : Instr) (rt nx a b : Nat) (v : Value) (sw : List (Int32 × Nat)) (ls : ZL) (st : List Value) (I : ZI) (R : ZR) (n : Nat) : zmn n (zdo i rt nx a b v sw K C ls st I R n) := by
  have N := zmn_none n
  have hr : ∀ (v : Option Value) (I : ZI) (R : ZR), zmn n (some (v, I, R, n)) := fun v I R r h => by cases h; exact Nat.le_refl _
  cases i
  case dup => cases st with
    | nil => exact N
    | cons v st => exact zP_zc N (hK _ _ _ _ _ _)
  case pop => cases st with
    | nil => exact N
    | cons v st => exact zP_zc N (hK _ _ _ _ _ _)
  case dup2 => cases st with
    | nil => exact N
    | cons v st => cases st with
      | nil => exact N
      | cons w st => exact zP_zc N (hK _ _ _ _ _ _)
  case invokevirtual => exact zmn_call hK hC _ _ _ _ _ _ _ _
  case invokestatic => exact zmn_call hK hC _ _ _ _ _ _ _ _
  case invokespecial => exact zmn_call hK hC _ _ _ _ _ _ _ _
  case getfield => exact zP_za N fun _ _ => zP_zc N (zP_cond (zP_zr N fun _ => hK _ _ _ _ _ _) (hK _ _ _ _ _ _))
  case putfield => exact zP_cond (zP_za N fun _ _ => zP_za N fun _ _ => zP_zc N (hK _ _ _ _ _ _)) (zP_zi N fun _ _ => zP_za N fun _ _ => zP_zc N (zP_zc N (hK _ _ _ _ _ _)))
  case aaload => exact zP_zia N fun _ _ _ => zP_zc N (zP_zr N fun _ => hK _ _ _ _ _ _)
  case iastore => exact zP_zi N fun _ _ => zP_zia N fun _ _ _ => zP_zc N (hK _ _ _ _ _ _)
  case bastore => exact zP_zi N fun _ _ => zP_zia N fun _ _ _ => zP_zc N (hK _ _ _ _ _ _)
  case aastore => exact zP_za N fun _ _ => zP_zia N fun _ _ _ => zP_zc N (hK _ _ _ _ _ _)
  case ifCond => exact zP_zi N fun _ _ => zP_zbr (hK _ _ _ _ _ _) (hK _ _ _ _ _ _)
  case if_icmp => exact zP_zii N fun _ _ _ => zP_zbr (hK _ _ _ _ _ _) (hK _ _ _ _ _ _)
  case tableswitch => exact zP_zi N fun _ _ => zP_zsw fun _ => hK _ _ _ _ _ _
  case lookupswitch => exact zP_zi N fun _ _ => zP_zsw fun _ => hK _ _ _ _ _ _
  case iinc => exact zP_zgi N fun _ => zP_zci N fun _ => zP_zc N (hK _ _ _ _ _ _)
  case new => exact zP_zc N (zmn_up (hK _ _ _ _ _ _) (Nat.le_succ n))
  case newarray => exact zP_zi N fun _ _ => zP_zc N (zmn_up (hK _ _ _ _ _ _) (Nat.le_succ n))
  case anewarray => exact zP_zi N fun _ _ => zP_zc N (zmn_up (hK _ _ _ _ _ _) (Nat.le_succ n))
  case multianewarray => exact zP_zii N fun _ _ _ => zP_zc N (zmn_up (hK _ _ _ _ _ _) (by omega))
  case ireturn => unfold zdo; dsimp only; split <;> first | exact hr _ _ _ | exact zP_zc N (hr _ _ _) | exact N
  case areturn => unfold zdo; dsimp only; split <;> first | exact hr _ _ _ | exact N
  case return_ => unfold zdo; dsimp only; split <;> first | exact hr _ _ _ | exact N
  all_goals first
    | exact N
    | exact hK _ _ _ _ _ _
    | exact zP_zii N fun _ _ _ => hK _ _ _ _ _ _
    | exact zP_zii N fun _ _ _ => zP_zc N (hK _ _ _ _ _ _)
    | exact zP_zi N fun _ _ => hK _ _ _ _ _ _
    | exact zP_zi N fun _ _ => zP_zc N (hK _ _ _ _ _ _)
    | exact zP_za N fun _ _ => zP_zc N (hK _ _ _ _ _ _)
    | exact zP_zl N fun _ _ => hK _ _ _ _ _ _
    | exact zP_zl N fun _ _ => zP_zc N (hK _ _ _ _ _ _)
    | exact zP_zll N fun _ _ _ => hK _ _ _ _ _ _
    | exact zP_zll N fun _ _ _ => zP_zc N (hK _ _ _ _ _ _)
    | exact zP_zil N fun _ _ _ => hK _ _ _ _ _ _
    | exact zP_zgi N fun _ => hK _ _ _ _ _ _
    | exact zP_zgl N fun _ => hK _ _ _ _ _ _
    | exact zP_zga N fun _ => hK _ _ _ _ _ _
    | exact zP_zia N fun _ _ _ => zP_zc N (hK _ _ _ _ _ _)
    | exact zP_zc N (hK _ _ _ _ _ _)
end ZMN
theorem zmn_ev : ∀ (k m pc : Nat) (ls : ZL) (st : List Value) (I : ZI) (R : ZR) (n : Nat), zmn n (zev k m pc ls st I R n)
  | 0, _, _, _, _, _, _, n => zmn_none n
  | k + 1, m, pc, ls, st, I, R, n => by
    show zmn n (zst m (zev k m) (fun y ls I R n => zev k y 0 ls [] I R n) pc ls st I R n)
    unfold zst
    split
    · exact zmn_do (fun pc ls st I R n => zmn_ev k m pc ls st I R n) (fun y ls I R n => zmn_ev k y 0 ls [] I R n) _ _ _ _ _ _ _ _ _ _ _ _
    · exact zmn_none n
