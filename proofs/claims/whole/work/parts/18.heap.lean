/-! ===== the heap's instructions ===== -/
theorem zty_ok : ∀ a, a < 10 → ∀ k, k < z_N a → parseFieldDescriptor (z_T a k).2.2.1 = some (z_ty a k) := by decide +kernel
theorem znm_ok : ∀ a, a < 10 → ∀ i, i < z_N a → ∀ j, j < z_N a → i ≠ j → (z_T a i).2.1 ≠ (z_T a j).2.1 := by
  intro a h
  match a, h with
  | 0, _ => exact nmX0
  | 1, _ => exact nmX1
  | 2, _ => exact nmX2
  | 3, _ => exact nmX3
  | 4, _ => exact nmX4
  | 5, _ => exact nmX5
  | 6, _ => exact nmX6
  | 7, _ => exact nmX7
  | 8, _ => exact nmX8
  | 9, _ => exact nmX9
def zftb (ty : FieldType) : Nat := match ty with
  | .int => 0
  | .boolean => 1
  | .object _ => 2
  | .array _ => 2
  | _ => 9
theorem zft_ok : ∀ a, a < 10 → ∀ k, k < z_N a → z_ft a k = zftb (z_ty a k) := by decide +kernel
theorem zft_3 : ∀ a, a < 10 → ∀ k, k < z_N a → z_ft a k < 3 := by decide +kernel
theorem zlay_good (a : Nat) : ∀ w ∈ u_ws (z_cn a) (z_T a) (z_N a), goodWord w = true := by
  intro w hw
  obtain ⟨k, -, rfl⟩ := List.mem_map.mp hw
  unfold u_lay
  split <;> rfl
theorem zlay_in {a m : Nat} (ha : a < 10) : ∀ w ∈ u_ws (z_cn a) (z_T a) (z_N a), w ∈ zW m := by
  intro w hw
  have hg := zlay_good a w hw
  rw [zlay a ha] at hw
  obtain ⟨i, -, hi⟩ := List.mem_filterMap.mp hw
  exact zW_at hi hg
theorem zhF_spec {m i a b : Nat} (hm : m < 283) (h : zhF (z_own m) i a b = true) : a < 10 ∧ b < z_N a ∧ Cond.fieldLink (z_cn (z_own m)) i (z_T a b).1 (z_T a b).2.1 (z_T a b).2.2.1 ∈ zW m := by
  obtain ⟨q, hq, h1⟩ := List.any_eq_true.mp h
  simp only [Bool.and_eq_true] at h1
  have e1 := Nat.eq_of_beq_eq_true h1.1.1
  have e2 := Nat.eq_of_beq_eq_true h1.1.2
  have e3 := Nat.eq_of_beq_eq_true h1.2
  obtain ⟨g1, g2, g3⟩ := zFL_ok (z_own m) (zy_ok m hm).1 q hq
  rw [e1, e2, e3] at g1
  rw [e2] at g2
  rw [e2, e3] at g3
  exact ⟨g2, g3, zW_at g1 rfl⟩
theorem zmap_set {α : Type} (N b : Nat) (f : Nat → α) (v : α) : ((List.range N).map f).set b v = (List.range N).map (fun j => if j = b then v else f j) := by
  apply List.ext_getElem?
  intro k
  by_cases hk : k < N
  · by_cases hb : k = b
    · subst hb
      rw [List.getElem?_set_self (by rw [List.length_map, List.length_range]; exact hk), List.getElem?_map, List.getElem?_range hk]
      simp
    · rw [List.getElem?_set_ne (fun q => hb q.symm), List.getElem?_map, List.getElem?_map, List.getElem?_range hk]
      simp [hb]
  · rw [List.getElem?_eq_none (by rw [List.length_set, List.length_map, List.length_range]; omega), List.getElem?_eq_none (by rw [List.length_map, List.length_range]; omega)]
section ZH0
variable {tc : Nat → ClassId} {ad : Nat → Nat} {I : ZI} {R : ZR}
theorem zent_obj {o a : Nat} (h : z_kd o = a) (ha : a < 10) : zent tc ad I R o = .inr (a, (List.range (z_ln o)).map (zfv ad I R a o)) := by
  unfold zent; rw [h, if_pos ha]
theorem zent_int {o a : Nat} (h : z_kd o = a) (h1 : ¬ a < 10) (h2 : a < 22) : zent tc ad I R o = .inl (tc a, z_ln o, .inl (I o)) := by
  unfold zent; rw [h, if_neg h1, if_pos h2]
theorem zent_ref {o a : Nat} (h : z_kd o = a) (h2 : ¬ a < 22) : zent tc ad I R o = .inl (tc a, z_ln o, .inr (.inr (.inr (.inr (fun j => (R o j).map ad))))) := by
  unfold zent; rw [h, if_neg (by omega), if_neg h2]
theorem zup_ne {o k : Nat} {x : Int32} {a : Nat} (h : a ≠ o) : zup I o k x a = I a := by
  funext j; unfold zup; rw [if_neg h]
theorem zur_ne {o k : Nat} {x : Option Nat} {a : Nat} (h : a ≠ o) : zur R o k x a = R a := by
  funext j; unfold zur; rw [if_neg h]
theorem zent_dep {I' : ZI} {R' : ZR} {a : Nat} (hI : I' a = I a) (hR : R' a = R a) : zent tc ad I' R' a = zent tc ad I R a := by
  unfold zent zfv; simp only [hI, hR]
theorem zent_putI {o a b : Nat} {x : Int32} (h : z_kd o = a) (ha : a < 10) (hf : z_ft a b ≠ 2) : zent tc ad (zup I o b x) R o = .inr (a, ((List.range (z_ln o)).map (zfv ad I R a o)).set b (.int x)) := by
  rw [zent_obj h ha, zmap_set]
  congr 2
  apply List.map_congr_left
  intro j _
  unfold zfv zup
  by_cases hj : j = b
  · subst hj; rw [if_neg hf, if_pos rfl, if_pos rfl, if_pos rfl]
  · rw [if_pos rfl, if_neg hj, if_neg hj]
theorem zent_putR {o a b x : Nat} (h : z_kd o = a) (ha : a < 10) (hf : z_ft a b = 2) : zent tc ad I (zur R o b (some x)) o = .inr (a, ((List.range (z_ln o)).map (zfv ad I R a o)).set b (.ref (ad x))) := by
  rw [zent_obj h ha, zmap_set]
  congr 2
  apply List.map_congr_left
  intro j _
  unfold zfv zur
  by_cases hj : j = b
  · subst hj; rw [if_pos hf, if_pos rfl, if_pos rfl, if_pos rfl]; rfl
  · rw [if_pos rfl, if_neg hj, if_neg hj]
theorem zent_astI {o a k : Nat} {x : Int32} (h : z_kd o = a) (h1 : ¬ a < 10) (h2 : a < 22) : zent tc ad (zup I o k x) R o = .inl (tc a, z_ln o, .inl (upd (I o) k x)) := by
  rw [zent_int h h1 h2]
  congr 4
  funext j
  unfold zup upd
  rw [if_pos rfl]
theorem zent_astR {o k x : Nat} (h : z_kd o = 23) : zent tc ad I (zur R o k (some x)) o = .inl (tc 23, z_ln o, .inr (.inr (.inr (.inr (va_up (fun j => (R o j).map ad) k (some (ad x))))))) := by
  rw [zent_ref h (by omega)]
  congr 7
  funext j
  unfold zur va_up
  rw [if_pos rfl]
  by_cases hj : j = k
  · subst hj; rw [if_pos rfl, if_pos rfl]; rfl
  · rw [if_neg hj, if_neg hj]
end ZH0
theorem zin_spec {a : Nat} {i : Int32} (h : zin a i = true) : vp_in i (z_ln a) := by
  unfold zin at h
  simp only [Bool.and_eq_true, Bool.not_eq_true', decide_eq_false_iff_not] at h
  have h2 : zix i < z_ln a := Nat.le_of_ble_eq_true h.2
  intro q
  rcases q with q | q
  · exact h.1 q
  · have : z_ln a ≤ zix i := q
    omega
section ZH
variable {p : Program} {l : Launch} {e : Env} {Rm : Room} {s : State} {mid : MethodId} {args : Array Value} {below : List Frame} {meth : Method} {c : Code} {Q : State → Prop}
variable {base : Nat} {D : va_G} {tc : Nat → ClassId} {A : Nat → Prop} {ad0 : Nat → Nat} {n0 m : Nat}
variable {ls : ZL} {st : List Value} {I : ZI} {R : ZR} {n pc : Nat}
theorem zSt.newI {ad : Nat → Nat} {H H1 : Heap} {locs locs1 : List Loc} {la : Array Slot} (S : zSt D tc A s ad0 n0 m ad ls st I R n H locs la) {I' : ZI} (hI : ∀ a, 1000 ≤ a → I' a = I a) (hP : va_P D vwCl (zwl tc ad I' R n) H1) (hD : va_D A (zwl tc ad I' R n)) (hS : va_S A s.heap H1 locs1) : zSt D tc A s ad0 n0 m ad ls st I' R n H1 locs1 la := by
  obtain ⟨-, -, -, ⟨h4, h5, h6⟩, h7⟩ := S
  exact ⟨hP, hD, hS, ⟨h4, fun j i hj hi => by rw [hI _ (by omega)]; exact h5 j i hj hi, h6⟩, h7⟩
theorem zSt.newR {ad : Nat → Nat} {H H1 : Heap} {locs locs1 : List Loc} {la : Array Slot} (S : zSt D tc A s ad0 n0 m ad ls st I R n H locs la) {R' : ZR} (hR : zwf R' n) (hP : va_P D vwCl (zwl tc ad I R' n) H1) (hD : va_D A (zwl tc ad I R' n)) (hS : va_S A s.heap H1 locs1) : zSt D tc A s ad0 n0 m ad ls st I R' n H1 locs1 la := by
  obtain ⟨-, -, -, ⟨-, h5, h6⟩, h7⟩ := S
  exact ⟨hP, hD, hS, ⟨hR, h5, h6⟩, h7⟩
theorem zwf_put {R : ZR} {n o k x : Nat} (h : zwf R n) (hx : x < n ∨ 1000 ≤ x) : zwf (zur R o k (some x)) n := by
  intro a i b hb
  unfold zur at hb
  split at hb
  · split at hb
    · cases hb; exact hx
    · exact h a i b hb
  · exact h a i b hb
theorem za_getI (X : zCx p s mid args meth c m) (E : zEnv base D tc ad0 s s.heap) {i a b o : Nat} (hd : decode (z_by m) pc = .ok (.getfield i, 3)) (hF : zhF (z_own m) i a b = true) (hi : zis n o a = true) (hf : z_ft a b ≠ 2)
    (k : zGo p l e Rm s mid args below meth c Q D tc A ad0 n0 m (pc + 3) ls (.int (I o b) :: st) I R n) : zGo p l e Rm s mid args below meth c Q D tc A ad0 n0 m pc ls (.ref o :: st) I R n := by
  intro ad H locs la S
  obtain ⟨ha, hb, hl⟩ := zhF_spec X.2.2.2.2.2.2.2.2 hF
  obtain ⟨ho, hk⟩ := zis_in hi (by omega)
  have hz : z_ln o = z_N a := zfields hi ha S.2.2.2.1.2.2
  have he := zwl_get (tc := tc) (ad := ad) (I := I) (R := R) ho
  rw [zent_obj hk ha] at he
  refine va_get (D := D) (ci := a) (C := z_cn a) (T := z_T a) (N := z_N a) X.1 X.2.1 X.2.2.2.2.2.1 (zlay_in ha) X.2.2.2.2.1 E.1 S.1 o he (zvw_ok a ha) b hb (X.2.2.2.2.2.1 _ hl) (fun _ h => h) (v := .int (I o b)) ?_ hd (k ad H locs la (S.pop.push (zwv_int _ _)))
  rw [List.getElem?_map, List.getElem?_range (by rw [hz]; exact hb)]
  unfold zfv
  rw [Option.map_some, if_neg hf]
theorem za_getR (X : zCx p s mid args meth c m) (E : zEnv base D tc ad0 s s.heap) {i a b o x : Nat} (hd : decode (z_by m) pc = .ok (.getfield i, 3)) (hF : zhF (z_own m) i a b = true) (hi : zis n o a = true) (hf : z_ft a b = 2) (hx : R o b = some x)
    (k : zGo p l e Rm s mid args below meth c Q D tc A ad0 n0 m (pc + 3) ls (.ref x :: st) I R n) : zGo p l e Rm s mid args below meth c Q D tc A ad0 n0 m pc ls (.ref o :: st) I R n := by
  intro ad H locs la S
  obtain ⟨ha, hb, hl⟩ := zhF_spec X.2.2.2.2.2.2.2.2 hF
  obtain ⟨ho, hk⟩ := zis_in hi (by omega)
  have hz : z_ln o = z_N a := zfields hi ha S.2.2.2.1.2.2
  have he := zwl_get (tc := tc) (ad := ad) (I := I) (R := R) ho
  rw [zent_obj hk ha] at he
  refine va_get (D := D) (ci := a) (C := z_cn a) (T := z_T a) (N := z_N a) X.1 X.2.1 X.2.2.2.2.2.1 (zlay_in ha) X.2.2.2.2.1 E.1 S.1 o he (zvw_ok a ha) b hb (X.2.2.2.2.2.1 _ hl) (fun _ h => h) (v := .ref (ad x)) ?_ hd (k ad H locs la (S.pop.push (zwv_ref (S.2.2.2.1.1 o b x hx))))
  rw [List.getElem?_map, List.getElem?_range (by rw [hz]; exact hb)]
  unfold zfv
  rw [Option.map_some, if_pos hf, hx]
  rfl
/-- a field is written: final ones in a constructor of their class -/
theorem za_put0 (X : zCx p s mid args meth c m) (E : zEnv base D tc ad0 s s.heap) {i a b o : Nat} {v : Value} (hd : decode (z_by m) pc = .ok (.putfield i, 3)) (hF : zhF (z_own m) i a b = true) (hfi : (!((z_T a b).2.2.2) || (z_in m && decide ((z_T a b).1 = z_cn (z_own m)))) = true) (hi : zis n o a = true)
    {ad : Nat → Nat} {H : Heap} {locs : List Loc} {la : Array Slot} {rest : List Value} (hP : va_P D vwCl (zwl tc ad I R n) H) (hD : va_D A (zwl tc ad I R n)) (hS : va_S A s.heap H locs) (hn1000 : n ≤ 1000)
    (hn : narrow (z_ty a b) v = v) (hfit : fits (z_ty a b) v = true)
    (kk : ∀ (H1 : Heap) (locs1 : List Loc), va_P D vwCl ((zwl tc ad I R n).set o (ad o, .inr (a, ((List.range (z_ln o)).map (zfv ad I R a o)).set b v))) H1 → va_D A ((zwl tc ad I R n).set o (ad o, .inr (a, ((List.range (z_ln o)).map (zfv ad I R a o)).set b v))) → va_S A s.heap H1 locs1 → W p l e Rm s mid args below meth c H1 locs1 (n - n0) (zs n - zs n0) Q (F0 mid (pc + 3) la rest)) :
    W p l e Rm s mid args below meth c H locs (n - n0) (zs n - zs n0) Q (F0 mid pc la (v :: .ref (ad o) :: rest)) := by
  obtain ⟨ha, hb, hl⟩ := zhF_spec X.2.2.2.2.2.2.2.2 hF
  obtain ⟨ho, hk⟩ := zis_in hi (by omega)
  have hz : z_ln o = z_N a := zfields hi ha hn1000
  have he := zwl_get (tc := tc) (ad := ad) (I := I) (R := R) ho
  rw [zent_obj hk ha] at he
  have hlen : b < ((List.range (z_ln o)).map (zfv ad I R a o)).length := by rw [List.length_map, List.length_range, hz]; exact hb
  cases hfin : (z_T a b).2.2.2 with
  | false => exact va_put (D := D) (ci := a) (C := z_cn a) (T := z_T a) (N := z_N a) X.1 X.2.1 X.2.2.2.2.2.1 (zlay_in ha) (z_ty a) (zty_ok a ha) (znm_ok a ha) X.2.2.2.2.1 E.1 hP hD hS o he (zvw_ok a ha) b hb (X.2.2.2.2.2.1 _ hl) (fun _ h => h) hfin (zty_ok a ha b hb) hn hfit hlen hd kk
  | true =>
    rw [hfin] at hfi
    simp only [Bool.not_true, Bool.false_or, Bool.and_eq_true, decide_eq_true_eq] at hfi
    have hin : meth.name = "<init>" := by rw [X.2.2.2.2.2.2.2.1]; exact ((zy_ok m X.2.2.2.2.2.2.2.2).2.2.2.2.2.2).mp hfi.1
    exact va_putF (D := D) (ci := a) (C := z_cn a) (T := z_T a) (N := z_N a) X.1 X.2.1 X.2.2.2.2.2.1 (zlay_in ha) (z_ty a) (zty_ok a ha) (znm_ok a ha) X.2.2.2.2.1 E.1 hP hD hS o he (zvw_ok a ha) b hb (X.2.2.2.2.2.1 _ hl) (fun _ h => h) hfin hin hfi.2 (zty_ok a ha b hb) hn hfit hlen hd kk
theorem za_putI (X : zCx p s mid args meth c m) (E : zEnv base D tc ad0 s s.heap) {i a b o : Nat} {x : Int32} (hd : decode (z_by m) pc = .ok (.putfield i, 3)) (hF : zhF (z_own m) i a b = true) (hfi : (!((z_T a b).2.2.2) || (z_in m && decide ((z_T a b).1 = z_cn (z_own m)))) = true) (hi : zis n o a = true) (hf : z_ft a b ≠ 2) (hx : (Nat.beq (z_ft a b) 0 || zbool x) = true)
    (k : zGo p l e Rm s mid args below meth c Q D tc A ad0 n0 m (pc + 3) ls st (zup I o b x) R n) : zGo p l e Rm s mid args below meth c Q D tc A ad0 n0 m pc ls (.int x :: .ref o :: st) I R n := by
  intro ad H locs la S
  obtain ⟨ha, hb, -⟩ := zhF_spec X.2.2.2.2.2.2.2.2 hF
  obtain ⟨ho, hk⟩ := zis_in hi (by omega)
  have hty := zft_ok a ha b hb
  have hf3 := zft_3 a ha b hb
  have hxx : z_ft a b = 0 ∨ (x = 0 ∨ x = 1) := by
    rcases (Bool.or_eq_true _ _).mp hx with q | q
    · exact Or.inl (Nat.eq_of_beq_eq_true q)
    · unfold zbool at q
      simp only [Bool.or_eq_true, decide_eq_true_eq] at q
      exact Or.inr q
  have hnf : narrow (z_ty a b) (.int x) = .int x ∧ fits (z_ty a b) (.int x) = true := by
    cases ht : z_ty a b <;> rw [ht] at hty <;> unfold zftb at hty <;> dsimp only at hty
    case int => exact ⟨rfl, rfl⟩
    case boolean =>
      rcases hxx with q | q | q
      · omega
      · subst q; exact ⟨by decide, by decide⟩
      · subst q; exact ⟨by decide, by decide⟩
    all_goals (exfalso; omega)
  refine za_put0 (v := .int x) X E hd hF hfi hi S.1 S.2.1 S.2.2.1 S.2.2.2.1.2.2 hnf.1 hnf.2 (fun H1 locs1 hP hD hS => ?_)
  rw [← zent_putI hk ha hf, zwl_set (fun a' h' => zent_dep (zup_ne h') rfl)] at hP hD
  exact k ad H1 locs1 la (S.pop.pop.newI (fun a' h' => zup_ne (by have := S.2.2.2.1.2.2; omega)) hP hD hS)
theorem za_putR (X : zCx p s mid args meth c m) (E : zEnv base D tc ad0 s s.heap) {i a b o x : Nat} (hd : decode (z_by m) pc = .ok (.putfield i, 3)) (hF : zhF (z_own m) i a b = true) (hfi : (!((z_T a b).2.2.2) || (z_in m && decide ((z_T a b).1 = z_cn (z_own m)))) = true) (hi : zis n o a = true) (hf : z_ft a b = 2)
    (k : zGo p l e Rm s mid args below meth c Q D tc A ad0 n0 m (pc + 3) ls st I (zur R o b (some x)) n) : zGo p l e Rm s mid args below meth c Q D tc A ad0 n0 m pc ls (.ref x :: .ref o :: st) I R n := by
  intro ad H locs la S
  obtain ⟨ha, hb, -⟩ := zhF_spec X.2.2.2.2.2.2.2.2 hF
  obtain ⟨ho, hk⟩ := zis_in hi (by omega)
  have hty := zft_ok a ha b hb
  have hnf : narrow (z_ty a b) (.ref (ad x)) = .ref (ad x) ∧ fits (z_ty a b) (.ref (ad x)) = true := by
    cases ht : z_ty a b <;> rw [ht, hf] at hty <;> unfold zftb at hty <;> dsimp only at hty
    case object => exact ⟨rfl, rfl⟩
    case array => exact ⟨rfl, rfl⟩
    all_goals (exfalso; omega)
  refine za_put0 (v := .ref (ad x)) X E hd hF hfi hi S.1 S.2.1 S.2.2.1 S.2.2.2.1.2.2 hnf.1 hnf.2 (fun H1 locs1 hP hD hS => ?_)
  rw [← zent_putR hk ha hf, zwl_set (fun a' h' => zent_dep rfl (zur_ne h'))] at hP hD
  exact k ad H1 locs1 la (S.pop.pop.newR (zwf_put S.2.2.2.1.1 (S.top.1 x rfl)) hP hD hS)
theorem za_iald (X : zCx p s mid args meth c m) (E : zEnv base D tc ad0 s s.heap) (hAb : ∀ q, A q → base ≤ q) {o : Nat} {i : Int32} (hd : decode (z_by m) pc = .ok (.iaload, 1)) (hi : (zis n o 20 || zis n o 24) = true) (hin : zin o i = true)
    (k : zGo p l e Rm s mid args below meth c Q D tc A ad0 n0 m (pc + 1) ls (.int (I o (zix i)) :: st) I R n) : zGo p l e Rm s mid args below meth c Q D tc A ad0 n0 m pc ls (.int i :: .ref o :: st) I R n := by
  intro ad H locs la S
  rcases (Bool.or_eq_true _ _).mp hi with h | h
  · obtain ⟨ho, hk⟩ := zis_in h (by omega)
    have he := zwl_get (tc := tc) (ad := ad) (I := I) (R := R) ho
    rw [zent_int hk (by omega) (by omega)] at he
    exact va_iald (D := D) X.1 X.2.1 E.1 S.1 o 0 he rfl (zin_spec hin) hd (k ad H locs la (S.pop.pop.push (zwv_int _ _)))
  · unfold zis at h
    rw [Bool.and_eq_true] at h
    have hk := Nat.eq_of_beq_eq_true h.2
    have hlt : o < 1013 := by
      rcases Nat.lt_or_ge o 1013 with q | q
      · exact q
      · rw [zkd_large o q] at hk; cases hk
    obtain ⟨g1, g2, g3⟩ := zkd_24 o hlt hk
    obtain ⟨j, hj⟩ : ∃ j, o = 1010 + j := ⟨o - 1010, by omega⟩
    have hj3 : j < 3 := by omega
    have hv := zin_spec hin
    rw [g3] at hv
    have hix : zix i < 6 := Nat.not_le.mp fun q => hv (Or.inr q)
    have had : ad o = ad0 o := S.2.2.2.2.2.2.2.2 o (Or.inr (by omega))
    have hT := ((E.2.2.2.2.1 j hj3).2).narrow (B := A) (fun q h => hAb q h)
    rw [← hj, ← had] at hT
    refine va_ti X.1 X.2.1 hT S.2.2.1 hv (v := .int (I o (zix i))) ?_ hd (k ad H locs la (S.pop.pop.push (zwv_int _ _)))
    rw [hj, S.2.2.2.1.2.1 j (zix i) hj3 hix]
    rfl
theorem za_bald (X : zCx p s mid args meth c m) (E : zEnv base D tc ad0 s s.heap) {o : Nat} {i : Int32} (hd : decode (z_by m) pc = .ok (.baload, 1)) (h : zis n o 21 = true) (hin : zin o i = true)
    (k : zGo p l e Rm s mid args below meth c Q D tc A ad0 n0 m (pc + 1) ls (.int (I o (zix i)) :: st) I R n) : zGo p l e Rm s mid args below meth c Q D tc A ad0 n0 m pc ls (.int i :: .ref o :: st) I R n := by
  intro ad H locs la S
  obtain ⟨ho, hk⟩ := zis_in h (by omega)
  have he := zwl_get (tc := tc) (ad := ad) (I := I) (R := R) ho
  rw [zent_int hk (by omega) (by omega)] at he
  exact va_bald (D := D) X.1 X.2.1 E.1 S.1 o 1 he rfl (zin_spec hin) hd (k ad H locs la (S.pop.pop.push (zwv_int _ _)))
theorem za_aald (X : zCx p s mid args meth c m) (E : zEnv base D tc ad0 s s.heap) {o x : Nat} {i : Int32} (hd : decode (z_by m) pc = .ok (.aaload, 1)) (h : (zis n o 22 || zis n o 23) = true) (hin : zin o i = true) (hx : R o (zix i) = some x)
    (k : zGo p l e Rm s mid args below meth c Q D tc A ad0 n0 m (pc + 1) ls (.ref x :: st) I R n) : zGo p l e Rm s mid args below meth c Q D tc A ad0 n0 m pc ls (.int i :: .ref o :: st) I R n := by
  intro ad H locs la S
  have key : ∀ (a : Nat) (ty : FieldType), a < 24 → ¬ a < 22 → zis n o a = true → (ztys tc)[a - 20]? = some (tc a, ty) → ty.isReference = true → W p l e Rm s mid args below meth c H locs (n - n0) (zs n - zs n0) Q (F0 mid pc la (.int i :: .ref (ad o) :: st.map (ztr ad))) := by
    intro a ty ha1 ha2 hi hty hr
    obtain ⟨ho, hk⟩ := zis_in hi ha1
    have he := zwl_get (tc := tc) (ad := ad) (I := I) (R := R) ho
    rw [zent_ref hk ha2] at he
    have hv := zin_spec hin
    have hlt : i.toNatClampNeg < z_ln o := Nat.not_le.mp fun q => hv (Or.inr q)
    have hP := S.1 o _ he
    refine W.aald (v := .ref (ad x)) (ty := ty) X.1 X.2.1 hP ((E.1.2 (a - 20) _ hty).1 (z_ln o) (fun j => va_rf ((R o j).map ad))) hr (fun q => by cases q) (by show ¬ (i < 0 ∨ (arrV _ _ _).slots.size ≤ _); rw [arrV_size]; exact hv) ?_ rfl rfl hd (k ad H locs la (S.pop.pop.push (zwv_ref (S.2.2.2.1.1 o _ x hx))))
    show (arrV _ _ _).slots[_]? = _
    rw [arrV_read _ _ hlt]
    have hx' : R o i.toNatClampNeg = some x := hx
    show some (va_rf (Option.map ad (R o i.toNatClampNeg))) = _
    rw [hx']
    rfl
  rcases (Bool.or_eq_true _ _).mp h with h | h
  · exact key 22 (.array .int) (by omega) (by omega) h rfl rfl
  · exact key 23 (.object RX4) (by omega) (by omega) h rfl rfl
theorem za_iast (X : zCx p s mid args meth c m) (E : zEnv base D tc ad0 s s.heap) {o : Nat} {i x : Int32} (hd : decode (z_by m) pc = .ok (.iastore, 1)) (h : zis n o 20 = true) (hin : zin o i = true)
    (k : zGo p l e Rm s mid args below meth c Q D tc A ad0 n0 m (pc + 1) ls st (zup I o (zix i) x) R n) : zGo p l e Rm s mid args below meth c Q D tc A ad0 n0 m pc ls (.int x :: .int i :: .ref o :: st) I R n := by
  intro ad H locs la S
  obtain ⟨ho, hk⟩ := zis_in h (by omega)
  have he := zwl_get (tc := tc) (ad := ad) (I := I) (R := R) ho
  rw [zent_int hk (by omega) (by omega)] at he
  refine va_iast (D := D) X.1 X.2.1 E.1 S.1 S.2.1 S.2.2.1 o 0 he rfl (zin_spec hin) hd (fun H1 locs1 hP hD hS => ?_)
  have e1 : (Sum.inl (tc 20, z_ln o, Sum.inl (upd (I o) i.toNatClampNeg x)) : va_E) = zent tc ad (zup I o (zix i) x) R o := (zent_astI hk (by omega) (by omega)).symm
  rw [e1, zwl_set (fun a' h' => zent_dep (zup_ne h') rfl)] at hP hD
  exact k ad H1 locs1 la (S.pop.pop.pop.newI (fun a' h' => zup_ne (by have := S.2.2.2.1.2.2; omega)) hP hD hS)
theorem za_bast (X : zCx p s mid args meth c m) (E : zEnv base D tc ad0 s s.heap) {o : Nat} {i x : Int32} (hd : decode (z_by m) pc = .ok (.bastore, 1)) (h : zis n o 21 = true) (hin : zin o i = true)
    (k : zGo p l e Rm s mid args below meth c Q D tc A ad0 n0 m (pc + 1) ls st (zup I o (zix i) x.toInt8.toInt32) R n) : zGo p l e Rm s mid args below meth c Q D tc A ad0 n0 m pc ls (.int x :: .int i :: .ref o :: st) I R n := by
  intro ad H locs la S
  obtain ⟨ho, hk⟩ := zis_in h (by omega)
  have he := zwl_get (tc := tc) (ad := ad) (I := I) (R := R) ho
  rw [zent_int hk (by omega) (by omega)] at he
  refine va_bast (D := D) X.1 X.2.1 E.1 S.1 S.2.1 S.2.2.1 o 1 he rfl (zin_spec hin) hd (fun H1 locs1 hP hD hS => ?_)
  have e1 : (Sum.inl (tc 21, z_ln o, Sum.inl (upd (I o) i.toNatClampNeg x.toInt8.toInt32)) : va_E) = zent tc ad (zup I o (zix i) x.toInt8.toInt32) R o := (zent_astI hk (by omega) (by omega)).symm
  have en : vp_nar .byte x = x.toInt8.toInt32 := rfl
  rw [en, e1, zwl_set (fun a' h' => zent_dep (zup_ne h') rfl)] at hP hD
  exact k ad H1 locs1 la (S.pop.pop.pop.newI (fun a' h' => zup_ne (by have := S.2.2.2.1.2.2; omega)) hP hD hS)
theorem za_aast (X : zCx p s mid args meth c m) (E : zEnv base D tc ad0 s s.heap) {o x : Nat} {i : Int32} (hd : decode (z_by m) pc = .ok (.aastore, 1)) (h : zis n o 23 = true) (hin : zin o i = true) (hx : zis n x 4 = true)
    (k : zGo p l e Rm s mid args below meth c Q D tc A ad0 n0 m (pc + 1) ls st I (zur R o (zix i) (some x)) n) : zGo p l e Rm s mid args below meth c Q D tc A ad0 n0 m pc ls (.ref x :: .int i :: .ref o :: st) I R n := by
  intro ad H locs la S
  obtain ⟨ho, hk⟩ := zis_in h (by omega)
  obtain ⟨hxl, hxk⟩ := zis_in hx (by omega)
  have he := zwl_get (tc := tc) (ad := ad) (I := I) (R := R) ho
  rw [zent_ref hk (by omega)] at he
  have hv := zwl_get (tc := tc) (ad := ad) (I := I) (R := R) hxl
  rw [zent_obj hxk (by omega)] at hv
  refine va_astq (D := D) X.1 X.2.1 E.1 S.1 S.2.1 S.2.2.1 o 3 x 4 he (r := (z_cn 4, z_T 4, z_N 4)) rfl hv (zvw_ok 4 (by omega)) (zin_spec hin) hd (fun H1 locs1 hP hD hS => ?_)
  have e1 := (zent_astR (tc := tc) (ad := ad) (I := I) (R := R) (o := o) (k := i.toNatClampNeg) (x := x) hk).symm
  rw [e1, zwl_set (fun a' h' => zent_dep rfl (zur_ne h'))] at hP hD
  exact k ad H1 locs1 la (S.pop.pop.pop.newR (zwf_put S.2.2.2.1.1 (Or.inl hxl)) hP hD hS)
theorem za_alen (X : zCx p s mid args meth c m) (E : zEnv base D tc ad0 s s.heap) {o : Nat} (hd : decode (z_by m) pc = .ok (.arraylength, 1)) (h : (zis n o 20 || zis n o 21 || zis n o 22 || zis n o 23) = true)
    (k : zGo p l e Rm s mid args below meth c Q D tc A ad0 n0 m (pc + 1) ls (.int (Int32.ofNat (z_ln o)) :: st) I R n) : zGo p l e Rm s mid args below meth c Q D tc A ad0 n0 m pc ls (.ref o :: st) I R n := by
  intro ad H locs la S
  have key : ∀ (a : Nat) (ty : FieldType), a < 24 → ¬ a < 10 → zis n o a = true → (ztys tc)[a - 20]? = some (tc a, ty) → W p l e Rm s mid args below meth c H locs (n - n0) (zs n - zs n0) Q (F0 mid pc la (.ref (ad o) :: st.map (ztr ad))) := by
    intro a ty ha1 ha2 hi hty
    obtain ⟨ho, hk⟩ := zis_in hi ha1
    have he := zwl_get (tc := tc) (ad := ad) (I := I) (R := R) ho
    by_cases h2 : a < 22
    · rw [zent_int hk ha2 h2] at he
      exact va_alen (D := D) X.1 X.2.1 E.1 S.1 o (a - 20) he hty rfl hd (k ad H locs la (S.pop.push (zwv_int _ _)))
    · rw [zent_ref hk h2] at he
      exact va_alen (D := D) X.1 X.2.1 E.1 S.1 o (a - 20) he hty rfl hd (k ad H locs la (S.pop.push (zwv_int _ _)))
  simp only [Bool.or_eq_true] at h
  rcases h with ((h | h) | h) | h
  · exact key 20 .int (by omega) (by omega) h rfl
  · exact key 21 .byte (by omega) (by omega) h rfl
  · exact key 22 (.array .int) (by omega) (by omega) h rfl
  · exact key 23 (.object RX4) (by omega) (by omega) h rfl
end ZH
