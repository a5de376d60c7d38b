/-! ===== rows of rows; calls ===== -/
theorem vr_outer (c : ClassId) (N h0 : Nat) : ∀ i : Nat, Jvm.Free.Multi.outerC c N h0 i = arrV c N (fun j => va_rf (if j < i then some (h0 + 1 + j) else none))
  | 0 => by
    show ({ cls := c, slots := Array.replicate N .null, vm := .none } : Cell) = _
    rw [arrV_new]
    refine congrArg (arrV c N) (funext fun j => ?_)
    simp [va_rf]
  | i + 1 => by
    show (Jvm.Free.Multi.outerC c N h0 i).setSlot i (.ref (h0 + 1 + i)) = _
    rw [vr_outer c N h0 i, arrV_store]
    refine congrArg (arrV c N) (funext fun j => ?_)
    by_cases e : j = i
    · subst e
      simp [updV, va_rf]
    · by_cases h : j < i
      · simp [updV, e, h, Nat.lt_succ_of_lt h]
      · simp [updV, e, h, show ¬ j < i + 1 by omega]
theorem zs_rows {n K : Nat} : ∀ N, (∀ j, j < N → z_ln (n + 1 + j) = K) → zs (n + 1 + N) = zs n + z_ln n + N * K
  | 0, _ => by simp [zs]
  | N + 1, h => by
    have h1 := zs_rows N (fun j hj => h j (by omega))
    show zs (n + 1 + N) + z_ln (n + 1 + N) = _
    rw [h1, h N (by omega), Nat.succ_mul]
    omega
theorem zwl_inv {tc : Nat → ClassId} {ad : Nat → Nat} {I : ZI} {R : ZR} {n k : Nat} {q : Nat × va_E} (h : (zwl tc ad I R n)[k]? = some q) : k < n ∧ q = (ad k, zent tc ad I R k) := by
  have hk : k < n := by
    have := (List.getElem?_eq_some_iff.mp h).1
    rw [zwl_len] at this
    exact this
  rw [zwl_get hk] at h
  exact ⟨hk, (Option.some.inj h).symm⟩
section ZM
variable {p : Program} {l : Launch} {e : Env} {Rm : Room} {s : State} {mid : MethodId} {args : Array Value} {below : List Frame} {meth : Method} {c : Code} {Q : State → Prop}
variable {base : Nat} {D : va_G} {tc : Nat → ClassId} {A : Nat → Prop} {ad0 : Nat → Nat} {n0 m : Nat}
variable {ls : ZL} {st : List Value} {I : ZI} {R : ZR} {n pc : Nat}
set_option maxHeartbeats 4000000 in
theorem za_multi (X : zCx p s mid args meth c m) (E : zEnv base D tc ad0 s s.heap) (hA : ∀ q, s.heap.size ≤ q → A q) {i : Nat} {x y : Int32} (hd : decode (z_by m) pc = .ok (.multianewarray i 2, 4)) (hC : zhC (z_own m) i 22 = true) (hmk : zmka n x y = true)
    (hc : n + 1 + zix x - n0 ≤ Rm.cells) (hs : zs (n + 1 + zix x) - zs n0 ≤ Rm.slots)
    (k : zGo p l e Rm s mid args below meth c Q D tc A ad0 n0 m (pc + 4) ls (.ref n :: st) (zzm I n (zix x)) (zrm R n (zix x)) (n + 1 + zix x)) : zGo p l e Rm s mid args below meth c Q D tc A ad0 n0 m pc ls (.int y :: .int x :: st) I R n := by
  intro ad H locs la S0
  have S := S0.pop.pop
  unfold zmka at hmk
  simp only [Bool.and_eq_true, Bool.not_eq_true', decide_eq_false_iff_not, List.all_eq_true, List.mem_range] at hmk
  obtain ⟨⟨⟨⟨⟨hx, hy⟩, hk22⟩, hln⟩, hKle⟩, hin⟩ := hmk
  have hk22 := Nat.eq_of_beq_eq_true hk22
  have hln := Nat.eq_of_beq_eq_true hln
  generalize hN : zix x = N at *
  generalize hKK : zix y = K at *
  have hN' : x.toNatClampNeg = N := hN
  have hK' : y.toNatClampNeg = K := hKK
  have hk20 : ∀ j, j < N → z_kd (n + 1 + j) = 20 ∧ z_ln (n + 1 + j) = K := fun j hj => ⟨Nat.eq_of_beq_eq_true (hin j hj).1, Nat.eq_of_beq_eq_true (hin j hj).2⟩
  have hn0 := S.2.2.2.2.2.2.2.1
  have sm : ∀ a b, z_kd a = b → b < 24 → a < 281 := by
    intro a b h1 h2
    refine zkd_281 a ?_ (by omega)
    rcases Nat.lt_or_ge a 1000 with q | q
    · exact q
    · have := zkd_big a q; omega
  have hn281 : n < 281 := sm n 22 hk22 (by omega)
  have hNle : n + 1 + N ≤ 281 := by
    rcases Nat.eq_zero_or_pos N with q | q
    · omega
    · have := sm (n + 1 + (N - 1)) 20 (hk20 (N - 1) (by omega)).1 (by omega)
      omega
  have hKle : K ≤ 8008 := Nat.le_of_ble_eq_true hKle
  have hrows := zs_rows (n := n) (K := K) N (fun j hj => (hk20 j hj).2)
  rw [hln] at hrows
  have hz0 := zs_le hn0
  have hNK : N * K ≤ 281 * 8008 := Nat.mul_le_mul (by omega) hKle
  intro T hT Xs
  have hlk : (Cond.classLink (z_cn (z_own m)) i ("[" ++ (FieldType.array .int).toString)).before args s = true := X.2.2.2.2.2.1 _ (zhC_spec2 X.2.2.2.2.2.2.2.2 hC)
  obtain ⟨vm₁, cA, comp, -, fA, fC, -, -, X', step⟩ := Xs.multianewarray2F X.1 X.2.2.2.2.1 hlk (zAO_vm rfl E.2.2.2.2.2.2.1) (X.2.2.2.2.2.1 _ (zW_at zarr_i rfl)) (g := F0 mid pc la (.int y :: .int x :: st.map (ztr ad))) rfl (by rw [X.2.1]; exact hd) rfl hx hy (by rw [hN']; omega) (by rw [hK']; show K * 4 ≤ _; omega) (by rw [hK']; omega) rfl rfl (by rw [hN']; omega) (by rw [hN', hK']; omega)
  rw [hN', hK'] at X' step
  have hcA : cA = tc 22 := Option.some.inj (fA.symm.trans (E.1.2 2 (tc 22, .array .int) rfl).2)
  have hcomp : comp = tc 20 := Option.some.inj (fC.symm.trans (E.1.2 0 (tc 20, .int) rfl).2)
  subst hcA hcomp
  have hTh : (T.setVm vm₁).heap = H := hT
  have f1 := (Jvm.Free.Multi.fill_facts (T.setVm vm₁) (tc 22) (tc 20) N K (defaultValue .int) N).1
  have f2 := (Jvm.Free.Multi.fill_facts (T.setVm vm₁) (tc 22) (tc 20) N K (defaultValue .int) N).2.1
  have hold : ∀ x : Nat, x < H.size → (Jvm.Free.Multi.fill (T.setVm vm₁) (tc 22) (tc 20) N K (defaultValue .int) N).heap[x]? = H[x]? := fun x hx => by
    have := Jvm.Free.Multi.fill_old (T.setVm vm₁) (tc 22) (tc 20) N K (defaultValue .int) (a := x) (by rw [hTh]; exact hx) N
    rw [hTh] at this
    exact this
  have hrow : ∀ j : Nat, j < N → (Jvm.Free.Multi.fill (T.setVm vm₁) (tc 22) (tc 20) N K (defaultValue .int) N).heap[H.size + 1 + j]? = some (arrV (tc 20) K (fun _ => .int 0)) := fun j hj => by
    have := Jvm.Free.Multi.fill_inner (T.setVm vm₁) (tc 22) (tc 20) N K (defaultValue .int) N j hj
    rw [hTh] at this
    rw [this]
    exact congrArg some (arrV_new (tc 20) K (.int 0))
  rw [hTh] at f1 f2
  rw [vr_outer] at f2
  generalize (Jvm.Free.Multi.fill (T.setVm vm₁) (tc 22) (tc 20) N K (defaultValue .int) N) = F at *
  obtain ⟨ad', hnew, hne⟩ : ∃ ad' : Nat → Nat, (∀ j, j ≤ N → ad' (n + j) = H.size + j) ∧ ∀ b, (b < n ∨ n + N < b) → ad' b = ad b := by
    refine ⟨fun k => if n ≤ k ∧ k ≤ n + N then H.size + (k - n) else ad k, fun j hj => ?_, fun b hb => ?_⟩
    · show (if n ≤ n + j ∧ n + j ≤ n + N then H.size + (n + j - n) else ad (n + j)) = _
      rw [if_pos ⟨by omega, by omega⟩]
      omega
    · show (if n ≤ b ∧ b ≤ n + N then H.size + (b - n) else ad b) = _
      rw [if_neg (by omega)]
  have hag : zag n ad ad' := fun k hk => hne k (by omega)
  have eold : ∀ b, b < n → zent tc ad' (zzm I n N) (zrm R n N) b = zent tc ad I R b := fun b hb =>
    (zent_dep (I := I) (R := R) (by funext j; unfold zzm; rw [if_neg (by omega)]) (by funext j; unfold zrm; rw [if_neg (by omega)])).trans (zent_ag hag S.2.2.2.1.1 b)
  have eout : zent tc ad' (zzm I n N) (zrm R n N) n = .inl (tc 22, N, .inr (.inr (.inr (.inr (fun j => if j < N then some (H.size + 1 + j) else none))))) := by
    rw [zent_ref hk22 (by omega), hln]
    congr 7
    funext j
    unfold zrm
    rw [if_pos rfl]
    by_cases hj : j < N
    · rw [if_pos hj, if_pos hj, Option.map_some]
      have := hnew (1 + j) (by omega)
      rw [← Nat.add_assoc, ← Nat.add_assoc] at this
      rw [this]
    · rw [if_neg hj, if_neg hj]; rfl
  have einn : ∀ j, j < N → zent tc ad' (zzm I n N) (zrm R n N) (n + 1 + j) = .inl (tc 20, K, .inl (fun _ => 0)) := by
    intro j hj
    rw [zent_int (hk20 j hj).1 (by omega) (by omega), (hk20 j hj).2]
    congr 4
    funext i
    unfold zzm
    rw [if_pos (by omega)]
  have hP : va_P D vwCl (zwl tc ad' (zzm I n N) (zrm R n N) (n + 1 + N)) F.heap := by
    intro b q hq
    obtain ⟨hb, rfl⟩ := zwl_inv hq
    by_cases h1 : b < n
    · rw [eold b h1, hne b (Or.inl h1)]
      have h2 := S.1 b _ (zwl_get h1)
      exact h2.kept (hold _ h2.lt)
    · by_cases h2 : b = n
      · subst h2
        rw [eout]
        have := hnew 0 (by omega)
        rw [Nat.add_zero, Nat.add_zero] at this
        rw [this]
        exact f2
      · obtain ⟨j, rfl⟩ : ∃ j, b = n + 1 + j := ⟨b - n - 1, by omega⟩
        rw [einn j (by omega)]
        have := hnew (1 + j) (by omega)
        rw [← Nat.add_assoc, ← Nat.add_assoc] at this
        rw [this]
        exact hrow j (by omega)
  have hadr : ∀ b, b < n + 1 + N → (b < n ∧ ad' b = ad b ∧ ad b < H.size) ∨ (n ≤ b ∧ ad' b = H.size + (b - n)) := by
    intro b hb
    by_cases h1 : b < n
    · exact Or.inl ⟨h1, hne b (Or.inl h1), (S.1 b _ (zwl_get h1)).lt⟩
    · obtain ⟨j, rfl⟩ : ∃ j, b = n + j := ⟨b - n, by omega⟩
      refine Or.inr ⟨by omega, ?_⟩
      rw [hnew j (by omega)]
      omega
  have hD : va_D A (zwl tc ad' (zzm I n N) (zrm R n N) (n + 1 + N)) := by
    refine ⟨fun i j x y hi hj hxy => ?_, fun b q hq => ?_⟩
    · obtain ⟨h1, rfl⟩ := zwl_inv hi
      obtain ⟨h2, rfl⟩ := zwl_inv hj
      have hxy : ad' i = ad' j := hxy
      rcases hadr i h1 with ⟨g1, g2, g3⟩ | ⟨g1, g2⟩ <;> rcases hadr j h2 with ⟨k1, k2, k3⟩ | ⟨k1, k2⟩
      · exact S.2.1.1 i j _ _ (zwl_get g1) (zwl_get k1) (by rw [← g2, ← k2]; exact hxy)
      · omega
      · omega
      · omega
    · obtain ⟨h1, rfl⟩ := zwl_inv hq
      rcases hadr b h1 with ⟨g1, g2, g3⟩ | ⟨g1, g2⟩
      · show A (ad' b)
        rw [g2]
        exact S.2.1.2 b _ (zwl_get g1)
      · show A (ad' b)
        rw [g2]
        exact hA _ (by have := S.2.2.1.1; omega)
  have hS' : va_S A s.heap F.heap locs := ⟨by rw [f1]; have := S.2.2.1.1; omega, fun q h1 h2 => by rw [hold q (Nat.lt_of_lt_of_le h1 S.2.2.1.1)]; exact S.2.2.1.2.1 q h1 h2, S.2.2.1.2.2⟩
  have hwf : zwf (zrm R n N) (n + 1 + N) := by
    intro a i b hb
    unfold zrm at hb
    split at hb
    · split at hb
      · cases hb; exact Or.inl (by omega)
      · cases hb
    · exact (S.2.2.2.1.1 a i b hb).imp (fun q => by omega) id
  have hgo := zGo.grown S (by omega : n < n + 1 + N) (by omega) hag (fun b hb => by funext j; unfold zzm; rw [if_neg (by omega)]) hwf hP hD hS' k
  have h00 := hnew 0 (by omega)
  rw [Nat.add_zero, Nat.add_zero] at h00
  rw [h00] at hgo
  have c1 : n + 1 + N - n0 = n - n0 + 1 + N := by omega
  have c2 : zs (n + 1 + N) - zs n0 = zs n - zs n0 + N + N * K := by omega
  rw [c1, c2] at hgo
  obtain ⟨t, a1, b1⟩ := hgo F rfl X'
  refine ⟨t, step t ?_, b1⟩
  have e9 : T.heap.size = H.size := by rw [hT]
  rw [e9]
  exact a1
end ZM
/-! calls -/
def zrm2 (y n n' : Nat) : Room := { frames := z_fr y, cells := n' - n, slots := zs n' - zs n, locals := z_lo y }
def zPc (base : Nat) (D : va_G) (tc : Nat → ClassId) (ad : Nat → Nat) (I : ZI) (R : ZR) (n sz : Nat) (vs : List Value) : Array Value → State → Prop :=
  va_Pc (vs.map (ztr ad)) (fun U => U.heap.size = sz ∧ va_P D vwCl (zwl tc ad I R n) U.heap ∧ va_D (zB0 base) (zwl tc ad I R n) ∧ base ≤ sz ∧ zEnv base D tc ad U U.heap)
def zpure (I : ZI) (R : ZR) (n : Nat) : Prop := zwf R n ∧ (∀ j i, j < 3 → i < 6 → I (1010 + j) i = z_sv j i) ∧ n ≤ 1000
def zQc (D : va_G) (tc : Nat → ClassId) (ad : Nat → Nat) (I : ZI) (R : ZR) (n sz : Nat) (r : Option Value × ZI × ZR × Nat) : Array Value → State → Outcome → State → Prop := fun _ st o t =>
  (∃ ad' : Nat → Nat, zag n ad ad' ∧ o = .returned (r.1.map (ztr ad')) ∧ va_P D vwCl (zwl tc ad' r.2.1 r.2.2.1 r.2.2.2) t.heap ∧ va_D (va_A (zwl tc ad I R n) sz) (zwl tc ad' r.2.1 r.2.2.1 r.2.2.2)) ∧ va_F (va_A (zwl tc ad I R n) sz) st t ∧ zpure r.2.1 r.2.2.1 r.2.2.2 ∧ n ≤ r.2.2.2 ∧ ∀ v, r.1 = some v → zwv r.2.2.2 v
def zMet (l : Launch) (base : Nat) (D : va_G) (tc : Nat → ClassId) (y : Nat) (vs : List Value) (I : ZI) (R : ZR) (n : Nat) (r : Option Value × ZI × ZR × Nat) : Prop :=
  zpure I R n → (∀ v ∈ vs, zwv n v) → ∀ (ad : Nat → Nat) (sz : Nat), Met l (z_y y) (zW y) (zrm2 y n r.2.2.2) (zPc base D tc ad I R n sz vs) (zQc D tc ad I R n sz r) (r.2.2.2 - n) (zs r.2.2.2 - zs n) (va_A (zwl tc ad I R n) sz)
theorem zpop_spec {r : Option Value × ZI × ZR × Nat} {k : List Value → List Value → ZO} : ∀ (m : Nat) (st acc : List Value), zpop m st acc k = some r → ∃ vs st', vs.length = m ∧ st = vs.reverse ++ st' ∧ k (vs ++ acc) st' = some r
  | 0, st, acc, h => ⟨[], st, rfl, rfl, h⟩
  | m + 1, [], acc, h => by cases h
  | m + 1, v :: st, acc, h => by
    obtain ⟨vs, st', h1, h2, h3⟩ := zpop_spec m st (v :: acc) h
    exact ⟨vs ++ [v], st', by simp [h1], by rw [h2]; simp, by simpa using h3⟩
theorem zwords_cat : ∀ st : List Value, (st.map fun v => v.category).sum = zwords st
  | [] => rfl
  | v :: st => by
    rw [List.map_cons, List.sum_cons, zwords_cat st]
    cases v <;> first | (show 2 + _ = _ + 2; omega) | (show 1 + _ = _ + 1; omega)
theorem zwords_tr (ad : Nat → Nat) (st : List Value) : ((st.map (ztr ad)).map fun v => v.category).sum = zwords st := by
  rw [← zwords_cat, List.map_map]
  congr 1
  exact List.map_congr_left fun v _ => ztr_cat ad v
section ZCall
variable {p : Program} {l : Launch} {e : Env} {Rm : Room} {s : State} {mid : MethodId} {args : Array Value} {below : List Frame} {meth : Method} {c : Code} {Q : State → Prop}
variable {base : Nat} {D : va_G} {tc : Nat → ClassId} {A : Nat → Prop} {ad0 : Nat → Nat} {n0 m : Nat}
variable {ls : ZL} {st : List Value} {I : ZI} {R : ZR} {n pc : Nat}
/-- behind a call that has run -/
theorem zc_after (hA : ∀ q, s.heap.size ≤ q → A q) {ad : Nat → Nat} {H : Heap} {locs : List Loc} {la : Array Slot} {st0 : List Value} (S : zSt D tc A s ad0 n0 m ad ls st I R n H locs la) {r : Option Value × ZI × ZR × Nat} {a : Array Value} (hr : n ≤ r.2.2.2)
    (run : va_Run p l e Rm s mid args below meth c H locs (n - n0) (zs n - zs n0) (r.2.2.2 - n) (zs r.2.2.2 - zs n) (F0 mid pc la st0) (st.map (ztr ad)) (zQc D tc ad I R n H.size r a) (va_A (zwl tc ad I R n) H.size))
    (k : zGo p l e Rm s mid args below meth c Q D tc A ad0 n0 m (pc + 3) ls (r.1.toList ++ st) r.2.1 r.2.2.1 r.2.2.2) : W p l e Rm s mid args below meth c H locs (n - n0) (zs n - zs n0) Q (F0 mid pc la st0) := by
  intro T hT Xs
  obtain ⟨v, st₀, t, T', L, h0, X', hL, e1, e2, ⟨⟨ad', hag, hv, hP, hD⟩, hF, hpu, hn, hw⟩, stp⟩ := run T hT Xs
  have hn0 := S.2.2.2.2.2.2.2.1
  have hAA : ∀ q, va_A (zwl tc ad I R n) H.size q → A q := by
    intro q hq
    rcases hq with ⟨j, en, hj⟩ | hq
    · exact S.2.1.2 j (q, en) hj
    · exact hA q (Nat.le_trans S.2.2.1.1 hq)
  have hS' : va_S A s.heap T'.heap (locs ++ L) := by
    obtain ⟨f1, f2⟩ := hF
    rw [h0] at f1 f2
    refine ⟨Nat.le_trans S.2.2.1.1 (by rw [e1]; exact f1), fun q h1 h2 => ?_, fun q hq => ?_⟩
    · rw [e1, f2 q (Nat.lt_of_lt_of_le h1 S.2.2.1.1) (fun z => h2 (hAA q z))]
      exact S.2.2.1.2.1 q h1 h2
    · rcases List.mem_append.mp hq with h | h
      · exact S.2.2.1.2.2 q h
      · exact hAA _ (hL q h)
  have S2 : zSt D tc A s ad0 n0 m ad' ls st r.2.1 r.2.2.1 r.2.2.2 T'.heap (locs ++ L) la := by
    obtain ⟨-, -, -, -, h7, h8, h9, h10, h11⟩ := S
    exact ⟨by rw [e1]; exact hP, hD.weaken (fun _ q _ h => hAA q.1 h), hS', hpu, fun v hv => (h7 v hv).up hn, fun i v hv => ⟨(h8 i v hv).1.up hn, by rw [ztr_ag hag (h8 i v hv).1]; exact (h8 i v hv).2⟩, h9, Nat.le_trans h10 hn, h11.trans hag h10⟩
  have S3 : zSt D tc A s ad0 n0 m ad' ls (r.1.toList ++ st) r.2.1 r.2.2.1 r.2.2.2 T'.heap (locs ++ L) la := by
    cases h1 : r.1 with
    | none => exact S2
    | some w => exact S2.push (hw w h1)
  have hk := k ad' T'.heap (locs ++ L) la S3
  have c1 : r.2.2.2 - n0 = n - n0 + (r.2.2.2 - n) := by omega
  have c2 : zs r.2.2.2 - zs n0 = zs n - zs n0 + (zs r.2.2.2 - zs n) := by
    have := zs_le hr
    have := zs_le hn0
    omega
  rw [c1, c2] at hk
  obtain ⟨t2, a1, b1⟩ := hk T' rfl X'
  have hv' : v = r.1.map (ztr ad') := by cases hv; rfl
  refine ⟨t2, stp t2 ?_, b1⟩
  have e3 : v.toList ++ st.map (ztr ad) = (r.1.toList ++ st).map (ztr ad') := by
    rw [hv', List.map_append, ztr_map hag S.2.2.2.2.1]
    congr 1
    cases r.1 <;> rfl
  rw [e3]
  exact a1
theorem zPc_blind {ad : Nat → Nat} {sz : Nat} {vs : List Value} : FrameBlind (zPc base D tc ad I R n sz vs) := by
  intro a U g mk h
  obtain ⟨h1, h2, h3, h4, h5, h6⟩ := h
  exact ⟨h1, h2, h3, h4, h5, h6.same rfl⟩
theorem zPc_at {ad : Nat → Nat} {H : Heap} {locs : List Loc} {la : Array Slot} (E : zEnv base D tc ad0 s s.heap) (hAb : ∀ q, A q → base ≤ q) (hb : base ≤ s.heap.size) (S : zSt D tc A s ad0 n0 m ad ls st I R n H locs la) (vs : List Value) : ∀ U : State, U.heap = H → s.WarmedH U.vm → zPc base D tc ad I R n H.size vs (vs.map (ztr ad)).toArray U := by
  intro U hU hW
  refine ⟨rfl, by rw [hU], by rw [hU]; exact S.1, S.2.1.weaken (fun _ q _ h => hAb q.1 h), Nat.le_trans hb S.2.2.1.1, ?_⟩
  rw [hU]
  refine (E.ag S.2.2.2.2.2.2.2.2).to hW (fun a h1 h2 => S.2.2.1.2.1 a h1 (fun q => h2 (hAb a q)))
theorem zroom_spec {m a : Nat} (h : zroom m a = true) : z_fr a + 1 ≤ z_fr m ∧ 8 + (z_ml a + 11) + z_lo a ≤ z_lo m := by
  unfold zroom at h
  rw [Bool.and_eq_true] at h
  exact ⟨Nat.le_of_ble_eq_true h.1, Nat.le_of_ble_eq_true h.2⟩
theorem zhM_spec {m i y : Nat} (hm : m < 283) (h : zhM (z_own m) i y = true) : y < 283 ∧ (Cond.methodLink (z_cn (z_own m)) i (z_y y) ∈ zW m ∨ ∃ q ∈ z_ML (z_own m), q.2.2.1 = 1 ∧ q.1 = i ∧ q.2.1 = y) := by
  obtain ⟨q, hq, h1⟩ := List.any_eq_true.mp h
  simp only [Bool.and_eq_true] at h1
  have e1 := Nat.eq_of_beq_eq_true h1.1
  have e2 := Nat.eq_of_beq_eq_true h1.2
  obtain ⟨g0, g⟩ := zML_ok (z_own m) (zy_ok m hm).1 q hq
  rw [e2] at g0
  refine ⟨g0, ?_⟩
  rcases g with ⟨-, g⟩ | ⟨g, -⟩
  · rw [e1, e2] at g; exact Or.inl (zW_at g rfl)
  · exact Or.inr ⟨q, hq, g, e1, e2⟩
end ZCall
