/-! ===== acts: chip, begin ===== -/
section LAd
variable {q : Nat} {I : ZI} {R : ZR} {n L L' P Wk z m : Nat} {t : Nat → Nat}
/-- an act: kept on both sides, then the class changes its season, the reference its row -/
theorem zact_all (h : zInv q I R n) (k : zLea q I R n L L' P Wk z m t) : ∃ I1, C_keepAct 0 I R n = some (none, I1, R, n) ∧ (∀ b j, b < 28 ∨ (138 ≤ b ∧ (b = 141 → j ≠ 10)) → I1 b j = I b j) ∧ ∀ C : ZI, (∀ b j, ¬ (10 ≤ b ∧ b ≤ 18) → C b j = I1 b j) → ((∀ j, zup C 195 0 0 208 j = I 208 j) ∧ (∀ b, L ≤ b → b < L + 22 → zup C 195 0 0 b = I b) ∧ zLg (zup C 195 0 0) L P Wk z ∧ zup C 195 0 0 195 18 = 1 ∧ ∃ K, M_keeps 195 (zup C 195 0 0) R n = some (none, K, R, n) ∧ (∀ b j, b ≠ 210 → (b = 195 → j ≠ 24) → K b j = zup C 195 0 0 b j) ∧ (∀ j, K 208 j = I 208 j) ∧ ∀ F : ZI, (∀ b j, b ≠ 208 → F b j = K b j) → (∀ b, L ≤ b → b < L + 22 → F b = I b) ∧ (zSE F L P Wk (q + 1) (C 10) (C 11) (fun w => C (13 + w)) (F 208) → zInv (q + 1) F R n)) := by
  have W := h.1
  have hM := W.M
  have g := k.2.2.1
  have hP := g.1.2.1
  have hWk := g.2.1.2.1
  have i1 := isL_i k.1.1
  obtain ⟨nx, mm, n1, n2, n3, n4, n5, n6⟩ := k.2.2.2.2.2.2.1
  have hbo : zbool (I 10 2) = true := by
    obtain ⟨be, mo, w, f, sw, O, u, l, a1, -⟩ := k.2.2.2.2.2.1
    rw [a1.1]; exact zbool_bo _
  obtain ⟨I1, c1, c2, c3, c4, c5, c6, c7, c8⟩ := C_keepAct_ok (I := I) W n1 n2 n3 n4 hbo
  refine ⟨I1, c1, fun b j hb => c8 b j (by omega) (by omega) (by omega), fun C hC => ?_⟩
  have kC : ∀ b j, (b = 195 → j ≠ 0) → (zup C 195 0 0) b j = C b j := fun b j hb => by
    by_cases e1 : b = 195
    · exact zup_k b (hb e1)
    · exact zup_n _ e1
  have D : ∀ b j, ¬ (10 ≤ b ∧ b ≤ 18) → b ≠ 28 → (b < 30 + 9 * nx ∨ 30 + 9 * nx + 9 ≤ b) → (b = 141 → j ≠ 10) → (b = 195 → j ≠ 0) → (zup C 195 0 0) b j = I b j := fun b j h1 h2 h3 h4 h5 => by
    rw [kC b j h5, hC b j h1]; exact c8 b j h2 h3 h4
  have d8 : ∀ j, zup C 195 0 0 208 j = I 208 j := fun j => D 208 j (by omega) (by decide) (by omega) (by omega) (by omega)
  have hbJ : ∀ b, L ≤ b → b < L + 22 → zup C 195 0 0 b = I b := fun b h1 h2 => funext fun j => D b j (by omega) (by omega) (by omega) (by omega) (by omega)
  have gJ : zLg (zup C 195 0 0) L P Wk z := zLg_c g hbJ (D _ _ (by omega) (by decide) (by omega) (by omega) (by omega)) (funext fun j => D _ _ (by omega) (by decide) (by omega) (by omega) (by omega)) (funext fun j => D _ _ (by omega) (by decide) (by omega) (by omega) (by omega)) (funext fun j => D _ _ (by omega) (by decide) (by omega) (by omega) (by omega)) (funext fun j => D _ _ (by omega) (by decide) (by omega) (by omega) (by omega)) (funext fun j => D _ _ (by omega) (by decide) (by omega) (by omega) (by omega))
  obtain ⟨K, k1, k2, k3, k4, k5⟩ := M_keeps_ok (J := zup C 195 0 0) hM n2 (by rw [D _ _ (by omega) (by decide) (by omega) (by omega) (by omega)]; exact n5)
  refine ⟨d8, hbJ, gJ, by rw [D _ _ (by omega) (by decide) (by omega) (by omega) (by omega)]; exact k.2.1.2, K, k1, k5, fun j => by rw [k5 208 j (by decide) (by omega)]; exact d8 j, fun F hF => ?_⟩
  have toC : ∀ b j, b ≠ 195 → b ≠ 208 → b ≠ 210 → F b j = C b j := fun b j h1 h2 h3 => by
    rw [hF b j h2, k5 b j h3 (fun e => absurd e h1), kC b j (fun e => absurd e h1)]
  have toI : ∀ b j, ¬ (10 ≤ b ∧ b ≤ 18) → b ≠ 28 → b ≠ 208 → b ≠ 210 → (b < 30 + 9 * nx ∨ 30 + 9 * nx + 9 ≤ b) → (b = 141 → j ≠ 10) → (b = 195 → j ≠ 0 ∧ j ≠ 24) → F b j = I b j := fun b j h1 h2 h3 h4 h5 h6 h7 => by
    rw [hF b j h3, k5 b j h4 (fun e => (h7 e).2)]; exact D b j h1 h2 h5 h6 (fun e => (h7 e).1)
  have toI1 : ∀ b j, b ≠ 195 → b ≠ 208 → b ≠ 210 → ¬ (10 ≤ b ∧ b ≤ 18) → F b j = I1 b j := fun b j h1 h2 h3 h4 => by
    rw [toC b j h1 h2 h3]; exact hC b j h4
  have hbF : ∀ b, L ≤ b → b < L + 22 → F b = I b := fun b h1 h2 => funext fun j => toI b j (by omega) (by omega) (by omega) (by omega) (by omega) (by omega) (by omega)
  refine ⟨hbF, fun hS => zInv_act h k (by omega) (fun b j h1 h2 => toI b j (by unfold zact at h2; omega) (by unfold zact at h2; omega) (by unfold zact at h2; omega) (by unfold zact at h2; omega) (by unfold zact at h2; omega) (by unfold zact at h2; omega) (fun e => ⟨h1 e, by unfold zact at h2; omega⟩)) ?_ ?_ ?_⟩
  · rw [show F 10 = C 10 from funext fun j => toC 10 j (by decide) (by decide) (by decide), show F 11 = C 11 from funext fun j => toC 11 j (by decide) (by decide) (by decide)]
    refine zSE_c hS (Nat.le_refl _) hP hWk (fun _ _ _ => rfl) (fun _ _ _ => rfl) (fun _ _ => rfl) (fun w j hw _ => ?_) (fun _ _ => rfl)
    show F (13 + w) j = C (13 + w) j
    exact toC _ j (by omega) (by omega) (by omega)
  · refine zHi_push hP hWk n1 n2 n6 k.2.2.2.2.2.1 hbF ?_ ?_ (fun j h1 h2 => ?_) (fun j hj => ?_) (fun w j hw hj => ?_) (fun b j h1 h2 h3 => ?_) ?_ (fun j hj => ?_) (fun k' j hk' hj => ?_)
    · rw [toI1 _ _ (by decide) (by decide) (by decide) (by omega)]; exact c2
    · rw [toI1 _ _ (by decide) (by decide) (by decide) (by omega)]; exact c3
    · rw [toI1 _ _ (by omega) (by omega) (by omega) (by omega)]; exact c4 j h1 h2
    · rw [toI1 _ _ (by omega) (by omega) (by omega) (by omega)]; exact c5 j hj
    · rw [toI1 _ _ (by omega) (by omega) (by omega) (by omega)]; exact c6 w j hw hj
    · exact toI b j (by omega) (by omega) (by omega) (by omega) h3 (by omega) (by omega)
    · rw [hF _ _ (by decide)]; exact k2
    · rw [hF _ _ (by decide), k3 j hj]; exact d8 j
    · rw [hF _ _ (by decide), k4 k' j hk' hj]; exact D 210 _ (by omega) (by decide) (by omega) (by omega) (by omega)
  · rw [toI1 _ _ (by decide) (by decide) (by decide) (by omega)]; exact c7
theorem z3bits : ∀ u, u < 8 → ∀ c, c < 3 → (nI u ||| ((1 : Int32) <<< (nI c &&& 31))) = nI (u ||| 2 ^ c) ∧ (u ||| 2 ^ c) < 8 ∧ (u.testBit 2 = true → (u ||| 2 ^ c).testBit 2 = true) ∧ (2 ≤ c → (u ||| 2 ^ c).testBit 2 = true) := by decide +kernel
theorem p_chip (h : zInv q I R n) (x : Int32) : zAg q I R n (C_chip 0 x) (M_chip 195 x) := by
  have W := h.1
  have hM := W.M
  have sc := e_C_chip 0 x I R n
  have r0 := C_refuse_ok (I := I) W (k := 0) (by decide) (x := 0) nI_0.symm
  have r1 := C_refuse_ok (I := I) W (k := 1) (by decide) (x := 1) (by decide)
  have r4 := C_refuse_ok (I := I) W (k := 4) (by decide) (x := 4) (by decide)
  have m0 := fun J : ZI => M_refuse_ok (I := J) hM (k := 0) (by decide) (x := 0) nI_0.symm
  have m1 := fun J : ZI => M_refuse_ok (I := J) hM (k := 1) (by decide) (x := 1) (by decide)
  have m4 := fun J : ZI => M_refuse_ok (I := J) hM (k := 4) (by decide) (x := 4) (by decide)
  rcases h.2.2 with k | ⟨L, L', P, Wk, z, m, t, k⟩
  · have sm := e_M_chip 195 x (zup I 150 0 (I 150 0 + 1)) R n
    simp only [W.k, C_inPlay_N W k, zc_t, zbI_s, if_true, r0] at sc
    simp only [hM.k, M_isPlaying_N hM (show zup (zup I 150 0 (I 150 0 + 1)) 195 0 0 195 18 = 0 by rw [zup_k _ (by decide), zup_n _ (by decide)]; exact k.2.1.2), zc_t, zbI_s, if_true, m0] at sm
    exact zAg_ref h (by decide) sc sm
  · have g := k.2.2.1
    have hP := g.1.2.1
    have hWk := g.2.1.2.1
    obtain ⟨be, mo, w, f, sw, O, u, l, a1, a2, a3, a4, a5, a6, a7, a8, a9, a10, a11, a12, a13, a14⟩ := k.2.2.2.2.2.1
    have hO2 := z65 a7.2.2.1 hP
    have r8 : ∀ {J : ZI}, zrf I J → ∀ j, J 208 j = I 208 j := fun f j => f 208 j (by decide) (by omega)
    have pl : ∀ J : ZI, zrf I J → M_isPlaying 195 J R n = some (some (.int (zbo (be && decide (w < Wk)))), J, R, n) := fun J f => M_isPlaying_L hM (zrf_k k f).2.2.1 (zrf_k k f).2.1.2 (by rw [r8 f]; exact a1.2) (by rw [r8 f]; exact a3.2.1) a3.2.2
    have im := fun J : ZI => M_isIn_ok (I := J) (R := R) (n := n) x.toInt64 0 1
    rw [zIs x (N := 2) (by decide) (by decide) (by decide)] at im
    simp only [W.k, C_inPlay_L W k a1.1 a3.1 a3.2.2, zc_t, zbI_s, r0, r1] at sc
    cases hbw : (be && decide (w < Wk)) with
    | false =>
      rw [hbw, if_pos (by decide)] at sc
      have sm := e_M_chip 195 x (zup I 150 0 (I 150 0 + 1)) R n
      simp only [hM.k, pl _ (zrf_r I 0 _), hbw, zc_t, zbI_s, if_pos (show zbo false = 0 by decide), m0] at sm
      exact zAg_ref h (by decide) sc sm
    | true =>
      have hbe : be = true := by cases be with | true => rfl | false => cases hbw
      subst hbe
      rw [hbw, if_neg (by decide)] at sc
      rcases zlt_cases x (N := 2) (by decide) with d | ⟨c, hc, rfl, d⟩
      · rw [if_neg (fun e => by rw [e] at d; exact absurd d (by decide)), if_neg (fun e => by rw [e] at d; exact absurd d (by decide))] at sc
        have sm := e_M_chip 195 x (zup I 150 1 (I 150 1 + 1)) R n
        simp only [hM.k, pl _ (zrf_r I 1 _), hbw, zc_t, zbI_s, if_neg (show ¬ zbo true = 0 by decide), im, d, if_true, m1] at sm
        exact zAg_ref h (by decide) sc sm
      · have sc2 : C_chip 0 (nI c) I R n = C_chip_28 0 (nI c) I R n := by
          rw [sc]
          have c2 : c = 0 ∨ c = 1 := by omega
          rcases c2 with rfl | rfl
          · rw [if_pos nI_0]
          · rw [if_neg (by decide), if_pos (by decide)]
        have s28 := e_C_chip_28 0 (nI c) I R n
        simp only [W.k, W.1, zc_t, zr_s, Se_chipIsFree_ok W.S a8.1 a8.2.2 (show c < 32 by omega), zbI_s, r4] at s28
        by_cases cf : I 10 10 = -1 ∧ u.testBit c = false
        · rw [if_pos cf, if_neg (by decide)] at s28
          obtain ⟨I1, c1, c8, act⟩ := zact_all h k
          have i10 : ∀ j, I1 10 j = I 10 j := fun j => c8 10 j (by omega)
          have zb := z3bits u a8.2.2 c (by omega)
          have bc := zbits_ok (I := zup (zup I1 10 9 (nI (u ||| 2 ^ c))) 10 10 (nI c)) (R := R) (n := n) (X := u ||| 2 ^ c) (by omega)
          simp only [c1, zbV_s, W.k, W.1, zc_t, zr_s, Se_play_ok W.S, i10, a8.1, zb.1, zup_k 10 (show (9 : Nat) ≠ 10 by decide), zup_s, bc, zbI_s] at s28
          obtain ⟨d8, hbJ, gJ, j18, K, k1, k5, K8, fin⟩ := act (zup (zup I1 10 9 (nI (u ||| 2 ^ c))) 10 10 (nI c)) (fun b j hb => by rw [zup_n _ (by omega), zup_n _ (by omega)])
          generalize hC : zup (zup I1 10 9 (nI (u ||| 2 ^ c))) 10 10 (nI c) = C at *
          have sm := e_M_chip 195 (nI c) C R n
          have mi := M_manyIn_ok (I := zup (zup K 208 6 (nI (u ||| 2 ^ c))) 208 7 (nI c)) (R := R) (n := n) (S := u ||| 2 ^ c) (by omega)
          simp only [hM.k, hM.2, M_isPlaying_L hM gJ j18 (show zup C 195 0 0 208 0 = zbo true by rw [d8]; exact a1.2) (show zup C 195 0 0 208 9 = nI w by rw [d8]; exact a3.2.1) a3.2.2, hbw, zc_t, zr_s, zbI_s, if_neg (show ¬ zbo true = 0 by decide), im, d, if_neg (show ¬ (1 : Int32) = 0 by decide), zin208, zixs, Bool.true_or, Bool.true_and, d8, a8.2.1, M_has_ok (show u < 2 ^ 31 by omega) (show c < 32 by omega), cf.2, if_neg (show ¬ (false = true) by decide), if_true, ← a9.1, cf.1, k1, zbV_s, K8, zb.1, zup_k 208 (show (6 : Nat) ≠ 7 by decide), zup_s, mi] at sm
          obtain ⟨hbF, fin2⟩ := fin (zup (zup K 208 6 (nI (u ||| 2 ^ c))) 208 7 (nI c)) (fun b j hb => by rw [zup_n _ hb, zup_n _ hb])
          refine ⟨_, C, R, n, _, R, n, sc2.trans s28, sm, fin2 ?_⟩
          have s10 : ∀ j, j ≠ 9 → j ≠ 10 → C 10 j = I 10 j := fun j h1 h2 => by rw [← hC, zup_k _ h2, zup_k _ h1]; exact i10 j
          have s8 : ∀ j, j ≠ 6 → j ≠ 7 → (zup (zup K 208 6 (nI (u ||| 2 ^ c))) 208 7 (nI c)) 208 j = I 208 j := fun j h1 h2 => by rw [zup_k _ h2, zup_k _ h1]; exact K8 j
          have s11 : ∀ b j, b ≠ 10 → b < 28 → C b j = I b j := fun b j h1 h2 => by rw [← hC, zup_n _ h1, zup_n _ h1]; exact c8 b j (Or.inl h2)
          have e15 := hbF (L + 15 + w) (by omega) (by omega)
          refine ⟨true, mo, w, f, sw, O, u ||| 2 ^ c, l, ?_, ?_, ?_, ?_, ?_, ?_, ?_, ?_, ?_, ?_, ?_, ?_, ?_, ?_⟩
          · rw [s10 2 (by decide) (by decide), s8 0 (by decide) (by decide)]; exact a1
          · rw [s10 3 (by decide) (by decide), s8 2 (by decide) (by decide)]; exact ⟨a2.1, a2.2.1, by omega⟩
          · rw [s10 4 (by decide) (by decide), s8 9 (by decide) (by decide)]; exact a3
          · rw [s10 5 (by decide) (by decide), s8 4 (by decide) (by decide)]; exact a4
          · rw [s10 6 (by decide) (by decide), s8 5 (by decide) (by decide)]; exact ⟨a5.1, a5.2.1, by omega⟩
          · rw [s10 7 (by decide) (by decide), s8 3 (by decide) (by decide)]; exact a6
          · rw [s10 8 (by decide) (by decide), s8 1 (by decide) (by decide), cTeam_c hbF]; exact ⟨a7.1, a7.2.1, a7.2.2.1, a7.2.2.2.1, fun e => by cases e⟩
          · refine ⟨?_, ?_, zb.2.1⟩
            · rw [← hC, zup_k _ (by decide), zup_s]
            · rw [zup_k _ (by decide), zup_s]
          · have e1 : C 10 10 = nI c := by rw [← hC, zup_s]
            have e2 : (zup (zup K 208 6 (nI (u ||| 2 ^ c))) 208 7 (nI c)) 208 7 = nI c := zup_s _ _ _ _
            rw [e1, e2]
            have c2 : c = 0 ∨ c = 1 := by omega
            rcases c2 with rfl | rfl
            · exact ⟨rfl, Or.inr (Or.inl nI_0)⟩
            · exact ⟨rfl, Or.inr (Or.inr (Or.inl (by decide)))⟩
          · rw [s10 11 (by decide) (by decide), s8 10 (by decide) (by decide)]; exact a10
          · rw [s10 12 (by decide) (by decide), s8 8 (by decide) (by decide)]; exact a11
          · intro j hj ho; rw [s11 11 j (by decide) (by decide), s8 (27 + j) (by omega) (by omega)]; exact a12 j hj ho
          · intro w' j h1 h2
            show C (13 + w') j = _
            rw [s11 (13 + w') j (by omega) (by omega), s8 _ (by omega) (by omega)]; exact a13 w' j h1 h2
          · intro j hj; rw [s8 (11 + j) (by omega) (by omega), e15]; exact a14 j hj
        · rw [if_neg cf, if_pos rfl] at s28
          have sm := e_M_chip 195 (nI c) (zup I 150 4 (I 150 4 + 1)) R n
          have fr := zrf_r I 4 (I 150 4 + 1)
          simp only [hM.k, hM.2, pl _ fr, hbw, zc_t, zr_s, zbI_s, if_neg (show ¬ zbo true = 0 by decide), im, d, if_neg (show ¬ (1 : Int32) = 0 by decide), zin208, zixs, Bool.true_or, Bool.true_and, r8 fr, a8.2.1, M_has_ok (show u < 2 ^ 31 by omega) (show c < 32 by omega), ← a9.1, m4] at sm
          refine zAg_ref h (by decide) (sc2.trans s28) ?_
          rw [sm]
          cases hu : u.testBit c with
          | true => rw [if_neg (show ¬ (if true = true then (1 : Int32) else 0) = 0 by decide)]
          | false =>
            rw [if_pos (show (if false = true then (1 : Int32) else 0) = 0 from rfl), if_neg (fun e => cf ⟨e, hu⟩)]
end LAd
