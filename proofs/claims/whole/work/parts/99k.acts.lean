/-! ===== acts: what is kept ===== -/
section LAc
variable {q : Nat} {I : ZI} {R : ZR} {n L L' P Wk z m : Nat} {t : Nat → Nat}
theorem M_keeps_ok {J : ZI} (h : WM R n) {mm : Nat} (hm : mm ≤ 12) (h24 : J 195 24 = nI mm) : ∃ J', M_keeps 195 J R n = some (none, J', R, n) ∧ J' 195 24 = nI (if mm = 12 then 12 else mm + 1) ∧ (∀ j, j < 79 → J' 210 (79 * (if mm = 12 then 11 else mm) + j) = J 208 j) ∧ (∀ k j, k < (if mm = 12 then 11 else mm) → j < 79 → J' 210 (79 * k + j) = J 210 (79 * (if mm = 12 then k + 1 else k) + j)) ∧ ∀ b j, b ≠ 210 → (b = 195 → j ≠ 24) → J' b j = J b j := by
  by_cases c : mm = 12
  · subst c
    obtain ⟨J', a1, a2, a3, a4, a5⟩ := M_keeps_full h (show J 195 24 = 12 by rw [h24]; decide)
    rw [if_pos rfl, if_pos rfl]
    refine ⟨J', a1, a2, a3, fun k j hk hj => ?_, a5⟩
    rw [if_pos rfl, a4 (79 * k + j) (by omega)]
    congr 1
    omega
  · obtain ⟨J', a1, a2, a3, a4, a5⟩ := M_keeps_small h (show mm < 12 by omega) h24
    rw [if_neg c, if_neg c]
    exact ⟨J', a1, a2, a3, fun k j hk hj => by rw [if_neg c]; exact a4 _ (by omega), a5⟩
theorem C_keepAct_ok (W : zWc R n) {nx mm : Nat} (h1 : nx < 12) (h2 : mm ≤ 12) (f1 : I 28 1 = nI nx) (f2 : I 28 2 = nI mm) (hb : zbool (I 10 2) = true) : ∃ I1, C_keepAct 0 I R n = some (none, I1, R, n) ∧ I1 28 1 = nI ((nx + 1) % 12) ∧ I1 28 2 = nI (if mm = 12 then 12 else mm + 1) ∧ (∀ j, 2 ≤ j → j ≤ 12 → I1 (30 + 9 * nx) j = I 10 j) ∧ (∀ j, j < 16 → I1 (30 + 9 * nx + 1) j = I 11 j) ∧ (∀ w j, w < 6 → j < 6 → I1 (30 + 9 * nx + 3 + w) j = I (13 + w) j) ∧ I1 141 10 = 0 ∧ ∀ b j, b ≠ 28 → (b < 30 + 9 * nx ∨ 30 + 9 * nx + 9 ≤ b) → (b = 141 → j ≠ 10) → I1 b j = I b j := by
  obtain ⟨I', a1, a2, a3, a4, a5, a6, a7⟩ := Hist_add_ok (I := I) W.H W.S h1 f1 f2 h2 hb
  have sc := e_C_keepAct 0 I R n
  simp only [W.k, W.1, zc_t, zr_s, a1, zbV_s] at sc
  refine ⟨_, sc, ?_, ?_, fun j h1 h2 => ?_, fun j hj => ?_, fun w j hw hj => ?_, zup_s _ _ _ _, fun b j b1 b2 b3 => ?_⟩
  · rw [zup_n _ (by decide)]; exact a2
  · rw [zup_n _ (by decide)]; exact a3
  · rw [zup_n _ (by omega)]; exact a4 j h1 h2
  · rw [zup_n _ (by omega)]; exact a5 j hj
  · rw [zup_n _ (by omega)]; exact a6 w j hw hj
  · by_cases e : b = 141
    · rw [zup_k _ (b3 e)]; exact a7 b j b1 b2
    · rw [zup_n _ e]; exact a7 b j b1 b2
theorem zHi_push {F : ZI} (hP : P ≤ 16) (hWk : Wk ≤ 6) {nx mm : Nat} (h1 : nx < 12) (h2 : mm ≤ 12) (hold : ∀ k, k < mm → zSE I L P Wk q (I (30 + 9 * ((nx + 12 - mm + k) % 12))) (I (30 + 9 * ((nx + 12 - mm + k) % 12) + 1)) (fun w => I (30 + 9 * ((nx + 12 - mm + k) % 12) + 3 + w)) (fun j => I 210 (79 * k + j))) (hse : zSE I L P Wk q (I 10) (I 11) (fun w => I (13 + w)) (I 208)) (hb : ∀ b, L ≤ b → b < L + 22 → F b = I b) (f1 : F 28 1 = nI ((nx + 1) % 12)) (f2 : F 28 2 = nI (if mm = 12 then 12 else mm + 1)) (c1 : ∀ j, 2 ≤ j → j ≤ 12 → F (30 + 9 * nx) j = I 10 j) (c2 : ∀ j, j < 16 → F (30 + 9 * nx + 1) j = I 11 j) (c3 : ∀ w j, w < 6 → j < 6 → F (30 + 9 * nx + 3 + w) j = I (13 + w) j) (fr : ∀ b j, 30 ≤ b → b < 138 → (b < 30 + 9 * nx ∨ 30 + 9 * nx + 9 ≤ b) → F b j = I b j) (g24 : F 195 24 = nI (if mm = 12 then 12 else mm + 1)) (g1 : ∀ j, j < 79 → F 210 (79 * (if mm = 12 then 11 else mm) + j) = I 208 j) (g2 : ∀ k j, k < (if mm = 12 then 11 else mm) → j < 79 → F 210 (79 * k + j) = I 210 (79 * (if mm = 12 then k + 1 else k) + j)) : zHi F L P Wk (q + 1) := by
  have old : ∀ k k' s, s < 12 → s ≠ nx → zSE I L P Wk q (I (30 + 9 * s)) (I (30 + 9 * s + 1)) (fun w => I (30 + 9 * s + 3 + w)) (fun j => I 210 (79 * k' + j)) → (∀ j, j < 79 → F 210 (79 * k + j) = I 210 (79 * k' + j)) → zSE F L P Wk (q + 1) (F (30 + 9 * s)) (F (30 + 9 * s + 1)) (fun w => F (30 + 9 * s + 3 + w)) (fun j => F 210 (79 * k + j)) := fun k k' s hs hne h e => zSE_c h (by omega) hP hWk hb (fun j _ _ => fr _ _ (by omega) (by omega) (by omega)) (fun j _ => fr _ _ (by omega) (by omega) (by omega)) (fun w j _ _ => fr _ _ (by omega) (by omega) (by omega)) (fun j hj => e j hj)
  have new : ∀ k, (∀ j, j < 79 → F 210 (79 * k + j) = I 208 j) → zSE F L P Wk (q + 1) (F (30 + 9 * nx)) (F (30 + 9 * nx + 1)) (fun w => F (30 + 9 * nx + 3 + w)) (fun j => F 210 (79 * k + j)) := fun k e => zSE_c hse (by omega) hP hWk hb c1 c2 c3 e
  refine ⟨(nx + 1) % 12, if mm = 12 then 12 else mm + 1, Nat.mod_lt _ (by decide), by split <;> omega, f1, f2, g24, fun k hk => ?_⟩
  by_cases c : mm = 12
  · subst c
    rw [if_pos rfl] at hk ⊢
    rw [if_pos rfl] at g1
    by_cases ck : k = 11
    · subst ck
      have e : ((nx + 1) % 12 + 12 - 12 + 11) % 12 = nx := by omega
      rw [e]; exact new 11 g1
    · have e : ((nx + 1) % 12 + 12 - 12 + k) % 12 = (nx + 12 - 12 + (k + 1)) % 12 := by omega
      rw [e]
      exact old k (k + 1) _ (Nat.mod_lt _ (by decide)) (by omega) (hold (k + 1) (by omega)) (fun j hj => by
        have := g2 k j (by rw [if_pos rfl]; omega) hj
        rw [if_pos rfl] at this; exact this)
  · rw [if_neg c] at hk ⊢
    rw [if_neg c] at g1
    by_cases ck : k = mm
    · subst ck
      have e : ((nx + 1) % 12 + 12 - (k + 1) + k) % 12 = nx := by omega
      rw [e]; exact new k g1
    · have e : ((nx + 1) % 12 + 12 - (mm + 1) + k) % 12 = (nx + 12 - mm + k) % 12 := by omega
      rw [e]
      exact old k k _ (Nat.mod_lt _ (by decide)) (by omega) (hold k (by omega)) (fun j hj => by
        have := g2 k j (by rw [if_neg c]; omega) hj
        rw [if_neg c] at this; exact this)
/-- what acts may change -/
def zact (b j : Nat) : Prop := (10 ≤ b ∧ b ≤ 18) ∨ (28 ≤ b ∧ b ≤ 137) ∨ (b = 141 ∧ j = 10) ∨ b = 208 ∨ b = 210 ∨ (b = 195 ∧ j = 24)
theorem zInv_act {F : ZI} {q' : Nat} (h : zInv q I R n) (k : zLea q I R n L L' P Wk z m t) (hq : q ≤ q') (hJ : ∀ b j, (b = 195 → j ≠ 0) → ¬ zact b j → F b j = I b j) (hS : zSE F L P Wk q' (F 10) (F 11) (fun w => F (13 + w)) (F 208)) (hH : zHi F L P Wk q') (hr : F 141 10 = 0) : zInv q' F R n := by
  have iL := k.1.1
  have i1 := isL_i iL
  have g := k.2.2.1
  have hP := g.1.2.1
  have hWk := g.2.1.2.1
  have hb : ∀ b, L ≤ b → b < L + 22 → F b = I b := fun b h1 h2 => funext fun j => hJ b j (by omega) (by unfold zact; omega)
  have row : ∀ b, b ≠ 195 → ¬ ((10 ≤ b ∧ b ≤ 18) ∨ (28 ≤ b ∧ b ≤ 137) ∨ b = 141 ∨ b = 208 ∨ b = 210) → F b = I b := fun b h1 h2 => funext fun j => hJ b j (by omega) (by unfold zact; omega)
  have cell : ∀ j, j ≠ 0 → j ≠ 24 → F 195 j = I 195 j := fun j h1 h2 => hJ 195 j (fun _ => h1) (by unfold zact; omega)
  refine ⟨h.1, zBs_f h.2.1 (fun b j hb => hJ b j (by unfold zbsr at hb; omega) (by unfold zbsr at hb; unfold zact; omega)), Or.inr ⟨L, L', P, Wk, z, m, t, k.1, ?_, zLg_c g hb (cell _ (by decide) (by decide)) (row _ (by decide) (by omega)) (row _ (by decide) (by omega)) (row _ (by decide) (by omega)) (row _ (by decide) (by omega)) (row _ (by decide) (by omega)), zTt_c k.2.2.2.1 hb (by rw [row 4 (by decide) (by omega)]) (by rw [row 4 (by decide) (by omega)]) (row _ (by decide) (by omega)) (row _ (by decide) (by omega)) (cell _ (by decide) (by decide)) (row _ (by decide) (by omega)), zCa_c k.2.2.2.2.1 hWk hb (by rw [row 4 (by decide) (by omega)]) (by rw [row 4 (by decide) (by omega)]) (row _ (by decide) (by omega)) (row _ (by decide) (by omega)), hS, hH, ?_, Or.inl hr⟩⟩
  · rw [row 0 (by decide) (by omega), cell 18 (by decide) (by decide)]; exact k.2.1
  · rcases k.2.2.2.2.2.2.2.1 with b | b
    · exact Or.inl (by rw [row 0 (by decide) (by omega), cell 25 (by decide) (by decide)]; exact b)
    · refine Or.inr ⟨by rw [row 0 (by decide) (by omega)]; exact b.1, by rw [cell 25 (by decide) (by decide)]; exact b.2.1, ?_⟩
      exact zSE_c b.2.2 hq hP hWk hb (fun j _ _ => by rw [row 19 (by decide) (by omega)]) (fun j _ => by rw [row 20 (by decide) (by omega)]) (fun w j hw _ => by show F (22 + w) j = I (22 + w) j; rw [row (22 + w) (by omega) (by omega)]) (fun j _ => by rw [row 209 (by decide) (by omega)])
/-- what a refusal leaves alone -/
def zrf (I J : ZI) : Prop := ∀ b j, b ≠ 150 → (b = 195 → j ≠ 0) → J b j = I b j
theorem zrf_k {J : ZI} (k : zLea q I R n L L' P Wk z m t) (f : zrf I J) : zLea q J R n L L' P Wk z m t := zLea_f k (Nat.le_refl _) (fun b j hb => f b j (by unfold zirr at hb; omega) (by unfold zirr at hb; omega))
theorem zrf_r (I : ZI) (k : Nat) (x : Int32) : zrf I (zup (zup I 150 k x) 195 0 0) := fun b j h1 h2 => by
  by_cases e : b = 195
  · rw [zup_k _ (h2 e), zup_n _ h1]
  · rw [zup_n _ e, zup_n _ h1]
theorem zrf_0 (I : ZI) : zrf I (zup I 195 0 0) := fun b j h1 h2 => by
  by_cases e : b = 195
  · rw [zup_k _ (h2 e)]
  · rw [zup_n _ e]
theorem zAg_ref (h : zInv q I R n) {k : Nat} (hk : k < 5) {c mm : ZI → ZR → Nat → ZO} {v : Int32} (hc : c I R n = some (some (.int v), zup I 150 k (I 150 k + 1), R, n)) (hm : mm (zup I 150 k (I 150 k + 1)) R n = some (some (.int v), zup (zup (zup I 150 k (I 150 k + 1)) 195 0 0) 211 k ((zup (zup I 150 k (I 150 k + 1)) 195 0 0) 211 k + 1), R, n)) : zAg q I R n c mm := ⟨v, _, R, n, _, R, n, hc, hm, zInv_r h hk⟩
theorem zown_c (O : Nat) {P : Nat} (hO : O < 2 ^ P) (hP : P ≤ 16) (x : Int32) : (∃ i, i < P ∧ x = nI i ∧ O.testBit i = true ∧ (if zlt x 16 = 1 ∧ O.testBit (zix x) = true then (1 : Int32) else 0) = 1) ∨ ((if zlt x 16 = 1 ∧ O.testBit (zix x) = true then (1 : Int32) else 0) = 0 ∧ (zlt x P = 0 ∨ ∃ i, i < P ∧ x = nI i ∧ O.testBit i = false)) := by
  by_cases c : zlt x 16 = 1 ∧ O.testBit (zix x) = true
  · rw [if_pos c]
    obtain ⟨i, hi, rfl⟩ := zlt_ne (show ¬ zlt x 16 = 0 by rw [c.1]; decide) (by decide)
    have b := c.2
    rw [zix_nI (by omega)] at b
    refine Or.inl ⟨i, ?_, rfl, b, rfl⟩
    by_cases d : i < P
    · exact d
    · have : O < 2 ^ i := Nat.lt_of_lt_of_le hO (Nat.pow_le_pow_right (by decide) (by omega))
      rw [Nat.testBit_lt_two_pow this] at b; cases b
  · rw [if_neg c]
    refine Or.inr ⟨rfl, ?_⟩
    rcases zlt_cases x (N := P) (by omega) with d | ⟨i, hi, rfl, d⟩
    · exact Or.inl d
    · refine Or.inr ⟨i, hi, rfl, ?_⟩
      cases e : O.testBit i with
      | false => rfl
      | true => exact absurd ⟨zlt_in (by omega) (by decide), by rw [zix_nI (by omega)]; exact e⟩ c
theorem p_captain (h : zInv q I R n) (x : Int32) : zAg q I R n (C_captain 0 x) (M_captain 195 x) := by
  have W := h.1
  have hM := W.M
  have sc := e_C_captain 0 x I R n
  have r0 := C_refuse_ok (I := I) W (k := 0) (by decide) (x := 0) nI_0.symm
  have r1 := C_refuse_ok (I := I) W (k := 1) (by decide) (x := 1) (by decide)
  have m0 := fun J : ZI => M_refuse_ok (I := J) hM (k := 0) (by decide) (x := 0) nI_0.symm
  have m1 := fun J : ZI => M_refuse_ok (I := J) hM (k := 1) (by decide) (x := 1) (by decide)
  rcases h.2.2 with k | ⟨L, L', P, Wk, z, m, t, k⟩
  · have sm := e_M_captain 195 x (zup I 150 0 (I 150 0 + 1)) R n
    simp only [W.k, C_inPlay_N W k, zc_t, zbI_s, if_true, r0] at sc
    simp only [hM.k, M_isPlaying_N hM (show zup (zup I 150 0 (I 150 0 + 1)) 195 0 0 195 18 = 0 by rw [zup_k _ (by decide), zup_n _ (by decide)]; exact k.2.1.2), zc_t, zbI_s, if_true, m0] at sm
    exact zAg_ref h (by decide) sc sm
  · have g := k.2.2.1
    have hP := g.1.2.1
    have hWk := g.2.1.2.1
    obtain ⟨be, mo, w, f, sw, O, u, l, a1, a2, a3, a4, a5, a6, a7, a8, a9, a10, a11, a12, a13, a14⟩ := k.2.2.2.2.2.1
    have hO2 := z65 a7.2.2.1 hP
    have r8 : ∀ {J : ZI}, zrf I J → ∀ j, J 208 j = I 208 j := fun f j => f 208 j (by decide) (by omega)
    have pl : ∀ J : ZI, zrf I J → M_isPlaying 195 J R n = some (some (.int (zbo (be && decide (w < Wk)))), J, R, n) := fun J f => M_isPlaying_L hM (zrf_k k f).2.2.1 (zrf_k k f).2.1.2 (by rw [r8 f]; exact a1.2) (by rw [r8 f]; exact a3.2.1) a3.2.2
    simp only [W.k, W.1, C_inPlay_L W k a1.1 a3.1 a3.2.2, zc_t, zr_s, zbI_s, r0, r1] at sc
    cases hbw : (be && decide (w < Wk)) with
    | false =>
      rw [hbw, if_pos (by decide)] at sc
      have sm := e_M_captain 195 x (zup I 150 0 (I 150 0 + 1)) R n
      simp only [hM.k, pl _ (zrf_r I 0 _), hbw, zc_t, zbI_s, if_pos (show zbo false = 0 by decide), m0] at sm
      exact zAg_ref h (by decide) sc sm
    | true =>
      have hbe : be = true := by cases be with | true => rfl | false => cases hbw
      subst hbe
      rw [hbw, if_neg (by decide)] at sc
      simp only [Se_owns_any W.S a7.1 (show O < 2 ^ 16 by omega), zbI_s] at sc
      have mp : ∀ J : ZI, zrf I J → M_isPlayer 195 x J R n = some (some (.int (zlt x P)), J, R, n) := fun J f => M_isPlayer_ok hM (zrf_k k f).2.1.2 (zrf_k k f).2.2.1.1.2.2.2 g.1.1 hP
      have mo' : ∀ (J : ZI) i, zrf I J → i < 32 → M_isOwned 195 (nI i) J R n = some (some (.int (if O.testBit i = true then 1 else 0)), J, R, n) := fun J i f hi => M_isOwned_ok hM (by rw [r8 f, a1.2]; rfl) (by rw [r8 f]; exact a7.2.1) (by omega) hi
      obtain ⟨cb, cb1, cb2, cb3⟩ := a6 rfl
      rcases zown_c O a7.2.2.1 hP x with ⟨i, hi, rfl, hb, e⟩ | ⟨e, d⟩
      · rw [e, if_neg (by decide)] at sc
        simp only [W.k, W.1, zc_t, zr_s, cb2] at sc
        by_cases cc : nI cb = nI i
        · rw [if_pos cc] at sc
          have sm := e_M_captain 195 (nI i) (zup I 150 1 (I 150 1 + 1)) R n
          have f := zrf_r I 1 (I 150 1 + 1)
          simp only [hM.k, hM.2, pl _ f, hbw, zc_t, zr_s, zbI_s, if_neg (show ¬ zbo true = 0 by decide), mp _ f, zlt_in hi (show P < 2 ^ 31 by omega), if_neg (show ¬ (1 : Int32) = 0 by decide), mo' _ i f (by omega), hb, if_true, zin208, zixs, Bool.true_or, Bool.true_and, r8 f, cb3, if_pos cc, m1] at sm
          simp only [r1, zbI_s] at sc
          exact zAg_ref h (by decide) sc sm
        · rw [if_neg cc] at sc
          obtain ⟨nx, mm, n1, n2, n3, n4, n5, n6⟩ := k.2.2.2.2.2.2.1
          obtain ⟨I1, c1, c2, c3, c4, c5, c6, c7, c8⟩ := C_keepAct_ok (I := I) W n1 n2 n3 n4 (by rw [a1.1]; exact zbool_bo _)
          simp only [c1, zbV_s, W.k, W.1, zc_t, zr_s] at sc
          have f1 : ∀ b j, b ≠ 10 → b ≠ 28 → (b < 30 + 9 * nx ∨ 30 + 9 * nx + 9 ≤ b) → (b = 141 → j ≠ 10) → (zup I1 10 7 (nI i)) b j = I b j := fun b j h1 h2 h3 h4 => by rw [zup_n _ h1]; exact c8 b j h2 h3 h4
          generalize hC : zup I1 10 7 (nI i) = C at *
          have kC : ∀ b j, (zup C 195 0 0) b j = if b = 195 ∧ j = 0 then 0 else C b j := fun b j => by
            by_cases e1 : b = 195
            · by_cases e2 : j = 0
              · rw [if_pos ⟨e1, e2⟩, e1, e2, zup_s]
              · rw [if_neg (fun q => e2 q.2), zup_k _ e2]
            · rw [if_neg (fun q => e1 q.1), zup_n _ e1]
          have D : ∀ b j, b ≠ 10 → b ≠ 28 → (b < 30 + 9 * nx ∨ 30 + 9 * nx + 9 ≤ b) → (b = 141 → j ≠ 10) → (b = 195 → j ≠ 0) → (zup C 195 0 0) b j = I b j := fun b j h1 h2 h3 h4 h5 => by
            rw [kC, if_neg (fun q => h5 q.1 q.2)]; exact f1 b j h1 h2 h3 h4
          have d8 : ∀ j, zup C 195 0 0 208 j = I 208 j := fun j => D 208 j (by decide) (by decide) (by omega) (by omega) (by omega)
          have i1 := isL_i k.1.1
          have gJ : zLg (zup C 195 0 0) L P Wk z := zLg_c g (fun b h1 h2 => funext fun j => D b j (by omega) (by omega) (by omega) (by omega) (by omega)) (D _ _ (by decide) (by decide) (by omega) (by omega) (by omega)) (funext fun j => D _ _ (by decide) (by decide) (by omega) (by omega) (by omega)) (funext fun j => D _ _ (by decide) (by decide) (by omega) (by omega) (by omega)) (funext fun j => D _ _ (by decide) (by decide) (by omega) (by omega) (by omega)) (funext fun j => D _ _ (by decide) (by decide) (by omega) (by omega) (by omega)) (funext fun j => D _ _ (by decide) (by decide) (by omega) (by omega) (by omega))
          have j18 : zup C 195 0 0 195 18 = 1 := by rw [D _ _ (by decide) (by decide) (by omega) (by omega) (by omega)]; exact k.2.1.2
          obtain ⟨K, k1, k2, k3, k4, k5⟩ := M_keeps_ok (J := zup C 195 0 0) hM n2 (by rw [D _ _ (by decide) (by decide) (by omega) (by omega) (by omega)]; exact n5)
          have K8 : ∀ j, K 208 j = I 208 j := fun j => by rw [k5 208 j (by decide) (by omega)]; exact d8 j
          have sm := e_M_captain 195 (nI i) C R n
          simp only [hM.k, hM.2, M_isPlaying_L hM gJ j18 (show zup C 195 0 0 208 0 = zbo true by rw [d8]; exact a1.2) (show zup C 195 0 0 208 9 = nI w by rw [d8]; exact a3.2.1) a3.2.2, hbw, zc_t, zr_s, zbI_s, if_neg (show ¬ zbo true = 0 by decide), M_isPlayer_ok hM j18 gJ.1.2.2.2 g.1.1 hP, zlt_in hi (show P < 2 ^ 31 by omega), if_neg (show ¬ (1 : Int32) = 0 by decide), M_isOwned_ok hM (show zup C 195 0 0 208 0 = 1 by rw [d8, a1.2]; rfl) (show zup C 195 0 0 208 1 = nI O by rw [d8]; exact a7.2.1) (show O < 2 ^ 31 by omega) (show i < 32 by omega), hb, if_true, zin208, zixs, Bool.true_or, Bool.true_and, d8, cb3, if_neg cc, k1, zbV_s, K8] at sm
          have i7 : I1 10 7 = nI cb := by rw [c8 _ _ (by decide) (by omega) (by omega)]; exact cb2
          rw [i7] at sc
          refine ⟨_, C, R, n, _, R, n, sc, sm, ?_⟩
          have F : ∀ b j, b ≠ 10 → b ≠ 28 → b ≠ 208 → b ≠ 210 → (b < 30 + 9 * nx ∨ 30 + 9 * nx + 9 ≤ b) → (b = 141 → j ≠ 10) → (b = 195 → j ≠ 0 ∧ j ≠ 24) → (zup K 208 3 (nI i)) b j = I b j := fun b j h1 h2 h3 h4 h5 h6 h7 => by
            rw [zup_n _ h3, k5 b j h4 (fun e => (h7 e).2)]; exact D b j h1 h2 h5 h6 (fun e => (h7 e).1)
          have toC : ∀ b j, b ≠ 195 → b ≠ 208 → b ≠ 210 → (zup K 208 3 (nI i)) b j = C b j := fun b j h1 h2 h3 => by
            rw [zup_n _ h2, k5 b j h3 (fun e => absurd e h1), kC, if_neg (fun q => h1 q.1)]
          have toI1 : ∀ b j, b ≠ 195 → b ≠ 208 → b ≠ 210 → (b = 10 → j ≠ 7) → (zup K 208 3 (nI i)) b j = I1 b j := fun b j h1 h2 h3 h4 => by
            rw [toC b j h1 h2 h3, ← hC]
            by_cases e : b = 10
            · rw [zup_k _ (h4 e)]
            · rw [zup_n _ e]
          have hbF : ∀ b, L ≤ b → b < L + 22 → (zup K 208 3 (nI i)) b = I b := fun b h1 h2 => funext fun j => F b j (by omega) (by omega) (by omega) (by omega) (by omega) (by omega) (by omega)
          refine zInv_act h k (by omega) (fun b j h1 h2 => F b j (by unfold zact at h2; omega) (by unfold zact at h2; omega) (by unfold zact at h2; omega) (by unfold zact at h2; omega) (by unfold zact at h2; omega) (by unfold zact at h2; omega) (fun e => ⟨h1 e, by unfold zact at h2; omega⟩)) ?_ ?_ ?_
          · have s10 : ∀ j, j ≠ 7 → (zup K 208 3 (nI i)) 10 j = I 10 j := fun j hj => by rw [toI1 10 j (by decide) (by decide) (by decide) (fun _ => hj)]; exact c8 _ _ (by decide) (by omega) (by omega)
            have s8 : ∀ j, j ≠ 3 → (zup K 208 3 (nI i)) 208 j = I 208 j := fun j hj => by rw [zup_k _ hj]; exact K8 j
            have s11 : ∀ j, (zup K 208 3 (nI i)) 11 j = I 11 j := fun j => F 11 j (by decide) (by decide) (by decide) (by decide) (by omega) (by omega) (by omega)
            have e15 := hbF (L + 15 + w) (by omega) (by omega)
            have s117 : (zup K 208 3 (nI i)) 10 7 = nI i := by rw [toC 10 7 (by decide) (by decide) (by decide), ← hC, zup_s]
            refine ⟨true, mo, w, f, sw, O, u, l, ?_, ?_, ?_, ?_, ?_, ?_, ?_, ?_, ?_, ?_, ?_, ?_, ?_, ?_⟩
            · rw [s10 2 (by decide), s8 0 (by decide)]; exact a1
            · rw [s10 3 (by decide), s8 2 (by decide)]; exact ⟨a2.1, a2.2.1, by omega⟩
            · rw [s10 4 (by decide), s8 9 (by decide)]; exact a3
            · rw [s10 5 (by decide), s8 4 (by decide)]; exact a4
            · rw [s10 6 (by decide), s8 5 (by decide)]; exact ⟨a5.1, a5.2.1, by omega⟩
            · intro _; exact ⟨i, hi, s117, zup_s _ _ _ _⟩
            · rw [s10 8 (by decide), s8 1 (by decide), cTeam_c hbF]; exact ⟨a7.1, a7.2.1, a7.2.2.1, a7.2.2.2.1, fun e => by cases e⟩
            · rw [s10 9 (by decide), s8 6 (by decide)]; exact a8
            · rw [s10 10 (by decide), s8 7 (by decide), cTeam_c hbF, s10 3 (by decide), e15, show (zup K 208 3 (nI i)) 11 = I 11 from funext s11]; exact a9
            · rw [s10 11 (by decide), s8 10 (by decide)]; exact a10
            · rw [s10 12 (by decide), s8 8 (by decide)]; exact a11
            · intro j hj ho; rw [s11, s8 (27 + j) (by omega)]; exact a12 j hj ho
            · intro w' j h1 h2
              show (zup K 208 3 (nI i)) (13 + w') j = _
              rw [F (13 + w') j (by omega) (by omega) (by omega) (by omega) (by omega) (by omega) (by omega), s8 _ (by omega)]; exact a13 w' j h1 h2
            · intro j hj; rw [s8 (11 + j) (by omega), e15]; exact a14 j hj
          · refine zHi_push hP hWk n1 n2 n6 k.2.2.2.2.2.1 hbF ?_ ?_ (fun j h1 h2 => ?_) (fun j hj => ?_) (fun w j hw hj => ?_) (fun b j h1 h2 h3 => ?_) ?_ (fun j hj => ?_) (fun k' j hk' hj => ?_)
            · rw [toI1 _ _ (by decide) (by decide) (by decide) (by decide)]; exact c2
            · rw [toI1 _ _ (by decide) (by decide) (by decide) (by decide)]; exact c3
            · rw [toI1 _ _ (by omega) (by omega) (by omega) (by omega)]; exact c4 j h1 h2
            · rw [toI1 _ _ (by omega) (by omega) (by omega) (by omega)]; exact c5 j hj
            · rw [toI1 _ _ (by omega) (by omega) (by omega) (by omega)]; exact c6 w j hw hj
            · exact F b j (by omega) (by omega) (by omega) (by omega) h3 (by omega) (by omega)
            · rw [zup_n _ (by decide)]; exact k2
            · rw [zup_n _ (by decide), k3 j hj]; exact d8 j
            · rw [zup_n _ (by decide), k4 k' j hk' hj]; exact D 210 _ (by decide) (by decide) (by omega) (by omega) (by omega)
          · rw [toI1 _ _ (by decide) (by decide) (by decide) (by decide)]; exact c7
      · rw [e, if_pos rfl] at sc
        have sm := e_M_captain 195 x (zup I 150 1 (I 150 1 + 1)) R n
        have f := zrf_r I 1 (I 150 1 + 1)
        simp only [hM.k, hM.2, pl _ f, hbw, zc_t, zr_s, zbI_s, if_neg (show ¬ zbo true = 0 by decide), mp _ f, m1] at sm
        simp only [W.k, zc_t, r1, zbI_s] at sc
        rcases d with d | ⟨i, hi, rfl, d⟩
        · rw [d, if_pos rfl] at sm
          exact zAg_ref h (by decide) sc sm
        · simp only [zlt_in hi (show P < 2 ^ 31 by omega), if_neg (show ¬ (1 : Int32) = 0 by decide), mo' _ i f (by omega), d, zbI_s, if_neg (show ¬ (false = true) by decide), if_true, m1, hM.k, zc_t] at sm
          exact zAg_ref h (by decide) sc sm
end LAc
