/-! ===== swap ===== -/
theorem zbrings_r : ∀ a b : Nat, 1 ≤ a → a ≤ 99 → 1 ≤ b → b ≤ 99 → ∃ v, 1 ≤ v ∧ v ≤ 99 ∧ zbrings (nI a) (nI b) = nI v := by
  intro a b a1 a2 b1 b2
  unfold zbrings
  by_cases c : nI b < nI a
  · rw [if_pos c]
    rw [nI_ltI (by omega) (by omega)] at c
    have t2 : (2 : Int32) = nI 2 := by decide
    rw [zsubN (by omega), t2, pk_div (by omega) (by decide) (by decide), nI_add]
    exact ⟨b + (a - b) / 2, by omega, by omega, rfl⟩
  · rw [if_neg c]; exact ⟨a, a1, a2, rfl⟩
section LAf
variable {q : Nat} {I : ZI} {R : ZR} {n L L' P Wk z m : Nat} {t : Nat → Nat}
theorem p_swap (h : zInv q I R n) (hq : q ≤ 100000) (x y : Int32) : zAg q I R n (C_swap 0 x y) (M_swap 195 x y) := by
  have W := h.1
  have hM := W.M
  have sc := e_C_swap 0 x y I R n
  have wn := e_C_whyNotSwap 0 x y I R n
  have rr := fun k (hk : k < 5) => C_refuse_ok (I := I) W (k := k) hk (x := nI k) rfl
  have m0 := fun J : ZI => M_refuse_ok (I := J) hM (k := 0) (by decide) (x := 0) nI_0.symm
  have m1 := fun J : ZI => M_refuse_ok (I := J) hM (k := 1) (by decide) (x := 1) (by decide)
  have m2 := fun J : ZI => M_refuse_ok (I := J) hM (k := 2) (by decide) (x := 2) (by decide)
  have m3 := fun J : ZI => M_refuse_ok (I := J) hM (k := 3) (by decide) (x := 3) (by decide)
  have m4 := fun J : ZI => M_refuse_ok (I := J) hM (k := 4) (by decide) (x := 4) (by decide)
  have cfin : ∀ k, k < 5 → ∀ x', x' = nI k → C_whyNotSwap 0 x y I R n = some (some (.int x'), I, R, n) → C_swap 0 x y I R n = some (some (.int (-1)), zup I 150 k (I 150 k + 1), R, n) := fun k hk x' hx e => by
    subst hx
    simp only [W.k, e, zc_t, zbI_s, if_neg (nI_nm1 (show k < 2 ^ 31 by omega)), rr k hk] at sc
    exact sc
  rcases h.2.2 with k | ⟨L, L', P, Wk, z, m, t, k⟩
  · have sm := e_M_swap 195 x y (zup I 150 0 (I 150 0 + 1)) R n
    simp only [W.k, C_inPlay_N W k, zc_t, zbI_s, if_true] at wn
    simp only [hM.k, M_isPlaying_N hM (show zup (zup I 150 0 (I 150 0 + 1)) 195 0 0 195 18 = 0 by rw [zup_k _ (by decide), zup_n _ (by decide)]; exact k.2.1.2), zc_t, zbI_s, if_true, m0] at sm
    exact zAg_ref h (by decide) (cfin 0 (by decide) _ nI_0.symm wn) sm
  · have g := k.2.2.1
    have hL := W.L k.1.1
    have hP := g.1.2.1
    have hWk := g.2.1.2.1
    have i1 := isL_i k.1.1
    obtain ⟨be, mo, w, f, sw, O, u, l, a1, a2, a3, a4, a5, a6, a7, a8, a9, a10, a11, a12, a13, a14⟩ := k.2.2.2.2.2.1
    have hO2 := z65 a7.2.2.1 hP
    have r8 : ∀ {J : ZI}, zrf I J → ∀ j, J 208 j = I 208 j := fun f j => f 208 j (by decide) (by omega)
    have j18 : ∀ {J : ZI}, zrf I J → J 195 18 = 1 := fun f => by rw [f 195 18 (by decide) (by decide)]; exact k.2.1.2
    have pl : ∀ J : ZI, zrf I J → M_isPlaying 195 J R n = some (some (.int (zbo (be && decide (w < Wk)))), J, R, n) := fun J f => M_isPlaying_L hM (zrf_k k f).2.2.1 (zrf_k k f).2.1.2 (by rw [r8 f]; exact a1.2) (by rw [r8 f]; exact a3.2.1) a3.2.2
    simp only [W.k, W.1, C_inPlay_L W k a1.1 a3.1 a3.2.2, zc_t, zr_s, zbI_s] at wn
    cases hbw : (be && decide (w < Wk)) with
    | false =>
      rw [hbw, if_pos (by decide)] at wn
      have sm := e_M_swap 195 x y (zup I 150 0 (I 150 0 + 1)) R n
      simp only [hM.k, pl _ (zrf_r I 0 _), hbw, zc_t, zbI_s, if_pos (show zbo false = 0 by decide), m0] at sm
      exact zAg_ref h (by decide) (cfin 0 (by decide) _ nI_0.symm wn) sm
    | true =>
      have hbe : be = true := by cases be with | true => rfl | false => cases hbw
      have hwW : w < Wk := by
        rw [hbe, Bool.true_and] at hbw
        exact of_decide_eq_true hbw
      subst hbe
      rw [hbw, if_neg (by decide)] at wn
      simp only [Se_owns_any W.S a7.1 (show O < 2 ^ 16 by omega), zbI_s] at wn
      have mp : ∀ (J : ZI) v, zrf I J → M_isPlayer 195 v J R n = some (some (.int (zlt v P)), J, R, n) := fun J v f => M_isPlayer_ok hM (zrf_k k f).2.1.2 (zrf_k k f).2.2.1.1.2.2.2 g.1.1 hP
      have mo' : ∀ (J : ZI) i, zrf I J → i < 32 → M_isOwned 195 (nI i) J R n = some (some (.int (if O.testBit i = true then 1 else 0)), J, R, n) := fun J i f hi => M_isOwned_ok hM (by rw [r8 f, a1.2]; rfl) (by rw [r8 f]; exact a7.2.1) (by omega) hi
      have fr1 := zrf_r I 1 (I 150 1 + 1)
      have sm1 := e_M_swap 195 x y (zup I 150 1 (I 150 1 + 1)) R n
      simp only [hM.k, pl _ fr1, hbw, zc_t, zbI_s, if_neg (show ¬ zbo true = 0 by decide), mp _ _ fr1, m1] at sm1
      rcases zown_c O a7.2.2.1 hP x with ⟨a, ha, rfl, hba, e⟩ | ⟨e, d⟩
      · rw [e, if_neg (by decide)] at wn
        simp only [W.k, W.1, k.1.2.2.2.1, hL.k, zc_t, zr_s, Lg_hasPlayer_ok hL g.1.2.2.1, zbI_s] at wn
        simp only [zlt_in ha (show P < 2 ^ 31 by omega), if_neg (show ¬ (1 : Int32) = 0 by decide), mo' _ a fr1 (by omega), hba, if_true, zbI_s, hM.k, zc_t, mp _ _ fr1, m1] at sm1
        rcases zlt_cases y (N := P) (by omega) with d | ⟨b, hb, rfl, d⟩
        · rw [d, if_pos rfl] at wn
          rw [d, if_pos rfl] at sm1
          exact zAg_ref h (by decide) (cfin 1 (by decide) _ (by decide) wn) sm1
        · rw [d, if_neg (by decide)] at wn
          rw [d, if_neg (by decide)] at sm1
          have ob := zown_c O a7.2.2.1 hP (nI b)
          simp only [Se_owns_any W.S a7.1 (show O < 2 ^ 16 by omega), zbI_s, W.k, W.1, zc_t, zr_s] at wn
          simp only [mo' _ b fr1 (by omega), zbI_s, hM.k, hM.2, zc_t, zr_s, m1] at sm1
          cases hbb : O.testBit b with
          | true =>
            have e1 : (if zlt (nI b) 16 = 1 ∧ O.testBit (zix (nI b)) = true then (1 : Int32) else 0) = 1 := if_pos ⟨zlt_in (by omega) (by decide), by rw [zix_nI (by omega)]; exact hbb⟩
            rw [e1, if_neg (by decide)] at wn
            rw [hbb, if_neg (show ¬ (if true = true then (1 : Int32) else 0) = 0 by decide)] at sm1
            exact zAg_ref h (by decide) (cfin 1 (by decide) _ (by decide) wn) sm1
          | false =>
            have e1 : (if zlt (nI b) 16 = 1 ∧ O.testBit (zix (nI b)) = true then (1 : Int32) else 0) = 0 := if_neg (fun q => by rw [zix_nI (by omega), hbb] at q; cases q.2)
            rw [e1, if_pos rfl] at wn
            have ht := a7.2.2.2.1 rfl
            have zlt31 : zswp O a b < 2 ^ P := zswp_lt a7.2.2.1 ha hb
            have zlt65 := z65 zlt31 hP
            by_cases c4 : I 10 10 = 2
            · rw [if_pos c4] at wn
              have fr := zrf_r I 4 (I 150 4 + 1)
              have sm := e_M_swap 195 (nI a) (nI b) (zup I 150 4 (I 150 4 + 1)) R n
              simp only [hM.k, hM.2, pl _ fr, hbw, zc_t, zr_s, zbI_s, if_neg (show ¬ zbo true = 0 by decide), mp _ _ fr, zlt_in ha (show P < 2 ^ 31 by omega), zlt_in hb (show P < 2 ^ 31 by omega), if_neg (show ¬ (1 : Int32) = 0 by decide), mo' _ a fr (by omega), mo' _ b fr (by omega), hba, hbb, if_true, if_neg (show ¬ (false = true) by decide), zin208, zixs, Bool.true_or, Bool.true_and, r8 fr, ← a9.1, if_pos c4, m4] at sm
              exact zAg_ref h (by decide) (cfin 4 (by decide) _ (by decide) wn) sm
            · rw [if_neg c4] at wn
              have sI := zswp_I2 (S := O) (show a < 31 by omega) (show b < 31 by omega)
              have sM := zswp_M (S := O) hO2 hba hbb (show a < 16 by omega) (show b < 16 by omega)
              obtain ⟨pa, pa1, pa2, pa3⟩ := (g.2.2.2.2.2.2.1 w a a3.2.2 ha).1
              obtain ⟨pb, pb1, pb2, pb3⟩ := (g.2.2.2.2.2.2.1 w b a3.2.2 hb).1
              obtain ⟨va, va1, va2, va3, va4⟩ := a12 a ha hba
              obtain ⟨br, br1, br2, br3⟩ := zbrings_r pa va pa1 pa2 va1 va2
              have sb := Se_brings_ok (I := I) W.S (show a < 16 by omega) (nI pa)
              rw [show I (10 + 1) a = nI va from va3, br3] at sb
              simp only [k.1.2.2.2.1, W.k, W.1, hL.k, hL.r, zc_t, zr_s, a7.1, sI, Lg_isTeam_ok (S := zswp O a b) hL hP g.2.2.2.2.2.2.2.2.1 g.2.2.2.2.2.2.2.2.2, zbI_s, a3.1, zin_of hL.ln.2.2.2.2.2.2.2 (show w < 7 by omega) (by decide), zix_nI (show w < 2 ^ 31 by omega), hL.2.2.2.2 w (by omega), (hL.pw (show w < 7 by omega)).1, zin_of (hL.pw (show w < 7 by omega)).2 (show a < 16 by omega) (by decide), zin_of (hL.pw (show w < 7 by omega)).2 (show b < 16 by omega) (by decide), zix_nI (show a < 2 ^ 31 by omega), zix_nI (show b < 2 ^ 31 by omega), Bool.true_or, Bool.true_and, pa3, pb3, sb, a2.1, nI_add] at wn
              have ej : ∀ {J : ZI}, zLg J L P Wk z → (∀ b, L ≤ b → b < L + 22 → J b = I b) → zb01 (mTeam J (zswp O a b) P) = zb01 (cTeam I L (zswp O a b) P) := fun gJ hb => zb01_c (by rw [mTeam_c gJ, cTeam_c hb])
              have g11 : I 208 (11 + a) = nI pa := by rw [a14 a ha]; exact pa3
              have g11b : I 208 (11 + b) = nI pb := by rw [a14 b hb]; exact pb3
              have prb : ∀ {J : ZI}, (∀ j, J 208 j = I 208 j) → M_brings2 195 (nI a) J R n = some (some (.int (nI br)), J, R, n) := fun e => by
                rw [M_brings2_ok hM (show a < 16 by omega), e, e, g11, va4, br3]
              have prp : ∀ {J : ZI}, (∀ j, J 208 j = I 208 j) → M_priceOf 195 (nI b) J R n = some (some (.int (nI pb)), J, R, n) := fun e => by
                rw [M_priceOf_ok hM (show b < 16 by omega), e, g11b]
              have swp : ∀ {J : ZI}, (∀ j, J 208 j = I 208 j) → M_swapped 195 (nI a) (nI b) J R n = some (some (.int (nI (zswp O a b))), J, R, n) := fun e => by
                rw [M_swapped_ok hM, e, a7.2.1, sM]
              have mob := a2.2.2
              rcases zb01_cases (cTeam I L (zswp O a b) P) with ⟨ht2, d3⟩ | ⟨-, d3⟩
              · rw [d3, if_neg (by decide)] at wn
                by_cases c2 : nI (mo + br) < nI pb
                · rw [if_pos c2] at wn
                  rw [nI_ltI (by omega) (by omega)] at c2
                  have fr := zrf_r I 2 (I 150 2 + 1)
                  have neg : nI mo + nI br - nI pb < 0 := by
                    rw [nI_add, Int32.lt_iff_toInt_lt, pk_sub_toInt (by omega) (by omega)]
                    have : (0 : Int32).toInt = 0 := by decide
                    omega
                  have sm := e_M_swap 195 (nI a) (nI b) (zup I 150 2 (I 150 2 + 1)) R n
                  simp only [hM.k, hM.2, pl _ fr, hbw, zc_t, zr_s, zbI_s, if_neg (show ¬ zbo true = 0 by decide), mp _ _ fr, zlt_in ha (show P < 2 ^ 31 by omega), zlt_in hb (show P < 2 ^ 31 by omega), if_neg (show ¬ (1 : Int32) = 0 by decide), mo' _ a fr (by omega), mo' _ b fr (by omega), hba, hbb, if_true, if_neg (show ¬ (false = true) by decide), zin208, zixs, Bool.true_or, Bool.true_and, r8 fr, ← a9.1, if_neg c4, swp (r8 fr), M_isTeam_ok (S := zswp O a b) hM (show zswp O a b < 2 ^ 31 by omega) hP (zrf_k k fr).2.2.1.1.2.2.2, ej (zrf_k k fr).2.2.1 (fun b h1 h2 => funext fun j => fr b j (by omega) (by omega)), d3, prb (r8 fr), prp (r8 fr), a2.2.1, if_pos neg, m2] at sm
                  exact zAg_ref h (by decide) (cfin 2 (by decide) _ (by decide) wn) sm
                · rw [if_neg c2] at wn
                  rw [nI_ltI (by omega) (by omega)] at c2
                  have pos : ¬ nI mo + nI br - nI pb < 0 := by
                    rw [nI_add, zsubN (by omega)]; exact nI_pos (by omega)
                  have em : nI mo + nI br - nI pb = nI (mo + br - pb) := by rw [nI_add, zsubN (by omega)]
                  obtain ⟨I1, c1, c8, act⟩ := zact_all h k
                  have i10 : ∀ b j, b < 28 → I1 b j = I b j := fun b j hb => c8 b j (Or.inl hb)
                  have hbI1 : ∀ b, L ≤ b → b < L + 22 → I1 b = I b := fun b h1 h2 => funext fun j => c8 b j (by omega)
                  obtain ⟨C, o1, o2, o3, o4, o5, o6⟩ := Se_exchange_ok (I := I1) (S := O) (a := a) (b := b) W.S (by rw [i10 _ _ (by decide)]; exact a7.1) (by omega) (by omega) (hL.pw (show w < 7 by omega)).1 (hL.pw (show w < 7 by omega)).2 (by omega)
                  rw [hbI1 (L + 15 + w) (by omega) (by omega), show I1 (10 + 1) a = nI va by rw [i10 _ _ (by decide)]; exact va3, pa3, pb3, br3, i10 10 3 (by decide), i10 10 6 (by decide), i10 10 7 (by decide), a2.1, a5.1] at o2
                  rw [hbI1 (L + 15 + w) (by omega) (by omega), pb3] at o3
                  have em2 : nI mo + (nI br - nI pb) = nI (mo + br - pb) := by rw [← em, Int32.sub_eq_add_neg, Int32.sub_eq_add_neg, Int32.add_assoc]
                  rw [em2] at o2
                  simp only [W.k, W.1, wn, zc_t, zr_s, zbI_s, if_true, c1, zbV_s, k.1.2.2.2.1, hL.k, hL.r, i10 10 4 (by decide), a3.1, zin_of hL.ln.2.2.2.2.2.2.2 (show w < 7 by omega) (by decide), zix_nI (show w < 2 ^ 31 by omega), hL.2.2.2.2 w (by omega), Bool.true_or, Bool.true_and, o1, o2.1] at sc
                  obtain ⟨d8, hbJ, gJ, j18', K, k1, k5, K8, fin⟩ := act C (fun b j hb => o6 b j (by omega) (by omega))
                  obtain ⟨cb, cb1, cb2, cb3⟩ := a6 rfl
                  have e27 : (27 : Int32) + nI b = nI (27 + b) := nI_add 27 b
                  have pK : ∀ F : ZI, (∀ j, j ≠ 1 → j ≠ 2 → F 208 j = I 208 j) → M_priceOf 195 (nI b) F R n = some (some (.int (nI pb)), F, R, n) := fun F e => by
                    rw [M_priceOf_ok hM (show b < 16 by omega), e _ (by omega) (by omega), g11b]
                  have F1 : ∀ j, j ≠ 1 → j ≠ 2 → (zup (zup K 208 1 (nI (zswp O a b))) 208 2 (nI (mo + br - pb))) 208 j = I 208 j := fun j h1 h2 => by rw [zup_k _ h2, zup_k _ h1]; exact K8 j
                  have sm := e_M_swap 195 (nI a) (nI b) C R n
                  simp only [hM.k, hM.2, M_isPlaying_L hM gJ j18' (show zup C 195 0 0 208 0 = zbo true by rw [d8]; exact a1.2) (show zup C 195 0 0 208 9 = nI w by rw [d8]; exact a3.2.1) a3.2.2, hbw, zc_t, zr_s, zbI_s, if_neg (show ¬ zbo true = 0 by decide), M_isPlayer_ok hM j18' gJ.1.2.2.2 g.1.1 hP, zlt_in ha (show P < 2 ^ 31 by omega), zlt_in hb (show P < 2 ^ 31 by omega), if_neg (show ¬ (1 : Int32) = 0 by decide), M_isOwned_ok hM (show zup C 195 0 0 208 0 = 1 by rw [d8, a1.2]; rfl) (show zup C 195 0 0 208 1 = nI O by rw [d8]; exact a7.2.1) (show O < 2 ^ 31 by omega) (show a < 32 by omega), M_isOwned_ok hM (show zup C 195 0 0 208 0 = 1 by rw [d8, a1.2]; rfl) (show zup C 195 0 0 208 1 = nI O by rw [d8]; exact a7.2.1) (show O < 2 ^ 31 by omega) (show b < 32 by omega), hba, hbb, if_true, if_neg (show ¬ (false = true) by decide), zin208, zixs, Bool.true_or, Bool.true_and, d8, ← a9.1, if_neg c4, swp d8, M_isTeam_ok (S := zswp O a b) hM (show zswp O a b < 2 ^ 31 by omega) hP gJ.1.2.2.2, ej gJ hbJ, d3, prb d8, prp d8, a2.2.1, em, if_neg (show ¬ nI (mo + br - pb) < 0 from nI_pos (by omega)), k1, zbV_s, swp K8, pK _ F1, e27, zin79b (show 27 + b < 79 by omega), zix_nI (show 27 + b < 2 ^ 31 by omega), zup_k 208 (show (5 : Nat) ≠ 27 + b by omega), zup_k 208 (show (3 : Nat) ≠ 27 + b by omega), zup_k 208 (show (3 : Nat) ≠ 5 by decide), F1 5 (by decide) (by decide), F1 3 (by decide) (by decide), a5.2.1, cb3, nI_1] at sm
                  have bits : ∀ i, (zswp O a b).testBit i = true → i = b ∨ (i ≠ b ∧ O.testBit i = true) := fun i hi => by
                    by_cases e : i = b
                    · exact Or.inl e
                    · refine Or.inr ⟨e, ?_⟩
                      rw [zswp_bit] at hi
                      by_cases e2 : i = a
                      · rw [e2, hba, decide_eq_true rfl, decide_eq_false (fun q => e (e2.trans q))] at hi; cases hi
                      · rw [decide_eq_false e2, decide_eq_false e] at hi
                        cases q : O.testBit i with
                        | true => rfl
                        | false => rw [q] at hi; cases hi
                  have fine : ∀ (F : ZI), (∀ b j, b ≠ 208 → F b j = K b j) → (∀ j, j ≠ 1 → j ≠ 2 → j ≠ 3 → j ≠ 5 → j ≠ 27 + b → F 208 j = I 208 j) → F 208 1 = nI (zswp O a b) → F 208 2 = nI (mo + br - pb) → F 208 5 = nI (sw + 1) → F 208 (27 + b) = nI pb → F 208 3 = (if nI cb = nI a then nI b else nI cb) → zInv (q + 1) F R n := fun F f0 f1 f2 f3 f4 f5 f6 => by
                    obtain ⟨hbF, fin2⟩ := fin F f0
                    refine fin2 ?_
                    have s10 : ∀ j, j ≠ 3 → j ≠ 6 → j ≠ 7 → j ≠ 8 → C 10 j = I 10 j := fun j h1 h2 h3 h4 => by rw [o5 j h1 h2 h3 h4]; exact i10 10 j (by decide)
                    have e15 := hbF (L + 15 + w) (by omega) (by omega)
                    refine ⟨true, mo + br - pb, w, f, sw + 1, zswp O a b, u, l, ?_, ⟨o2.1, f3, by omega⟩, ?_, ?_, ⟨by rw [o2.2.2.1, nI_1], f4, by omega⟩, fun _ => ?_, ⟨o2.2.1, f2, zlt31, fun _ => by rw [cTeam_c hbF]; exact ht2, fun e => by cases e⟩, ?_, ?_, ?_, ?_, fun i hi ho => ?_, fun w' j h1 h2 => ?_, fun i hi => ?_⟩
                    · rw [s10 2 (by decide) (by decide) (by decide) (by decide), f1 0 (by decide) (by decide) (by decide) (by decide) (by omega)]; exact a1
                    · rw [s10 4 (by decide) (by decide) (by decide) (by decide), f1 9 (by decide) (by decide) (by decide) (by decide) (by omega)]; exact a3
                    · rw [s10 5 (by decide) (by decide) (by decide) (by decide), f1 4 (by decide) (by decide) (by decide) (by decide) (by omega)]; exact a4
                    · rw [o2.2.2.2, f6, cb2]
                      by_cases e : nI cb = nI a
                      · rw [if_pos e]; exact ⟨b, hb, rfl, rfl⟩
                      · rw [if_neg e]; exact ⟨cb, cb1, rfl, rfl⟩
                    · rw [s10 9 (by decide) (by decide) (by decide) (by decide), f1 6 (by decide) (by decide) (by decide) (by decide) (by omega)]; exact a8
                    · rw [s10 10 (by decide) (by decide) (by decide) (by decide), f1 7 (by decide) (by decide) (by decide) (by decide) (by omega)]
                      refine ⟨a9.1, ?_⟩
                      rcases a9.2 with y | y | y | y
                      · exact Or.inl y
                      · exact Or.inr (Or.inl y)
                      · exact Or.inr (Or.inr (Or.inl y))
                      · exact absurd y.1 c4
                    · rw [s10 11 (by decide) (by decide) (by decide) (by decide), f1 10 (by decide) (by decide) (by decide) (by decide) (by omega)]; exact a10
                    · rw [s10 12 (by decide) (by decide) (by decide) (by decide), f1 8 (by decide) (by decide) (by decide) (by decide) (by omega)]; exact a11
                    · rcases bits i ho with e | ⟨e, ho'⟩
                      · subst e
                        exact ⟨pb, pb1, pb2, o3, f5⟩
                      · have o4' := o4 i e
                        rw [show C 11 i = I 11 i by rw [show C 11 i = I1 (10 + 1) i from o4']; exact i10 11 i (by decide), f1 (27 + i) (by omega) (by omega) (by omega) (by omega) (by omega)]
                        exact a12 i hi ho'
                    · show C (13 + w') j = _
                      rw [o6 (13 + w') j (by omega) (by omega), i10 (13 + w') j (by omega), f1 _ (by omega) (by omega) (by omega) (by omega) (by omega)]; exact a13 w' j h1 h2
                    · rw [f1 (11 + i) (by omega) (by omega) (by omega) (by omega) (by omega), e15]; exact a14 i hi
                  have cell : ∀ (x5 : Int32) j, j ≠ 1 → j ≠ 2 → j ≠ 5 → j ≠ 27 + b → (zup (zup (zup (zup K 208 1 (nI (zswp O a b))) 208 2 (nI (mo + br - pb))) 208 (27 + b) (nI pb)) 208 5 x5) 208 j = I 208 j := fun x5 j h1 h2 h3 h4 => by
                    rw [zup_k _ h3, zup_k _ h4, zup_k _ h2, zup_k _ h1]; exact K8 j
                  by_cases ec : nI cb = nI a
                  · rw [if_pos ec] at sm
                    refine ⟨_, C, R, n, _, R, n, sc, sm, fine _ (fun b j hb => by rw [zup_n _ hb, zup_n _ hb, zup_n _ hb, zup_n _ hb, zup_n _ hb]) (fun j h1 h2 h3 h4 h5 => by rw [zup_k _ h3]; exact cell _ j h1 h2 h4 h5) ?_ ?_ ?_ ?_ ?_⟩
                    · rw [zup_k _ (by decide), zup_k _ (by decide), zup_k _ (by omega), zup_k _ (by decide), zup_s]
                    · rw [zup_k _ (by decide), zup_k _ (by decide), zup_k _ (by omega), zup_s]
                    · rw [zup_k _ (by decide), zup_s]
                    · rw [zup_k _ (by omega), zup_k _ (by omega), zup_s]
                    · rw [zup_s, if_pos ec]
                  · rw [if_neg ec] at sm
                    refine ⟨_, C, R, n, _, R, n, sc, sm, fine _ (fun b j hb => by rw [zup_n _ hb, zup_n _ hb, zup_n _ hb, zup_n _ hb]) (fun j h1 h2 h3 h4 h5 => cell _ j h1 h2 h4 h5) ?_ ?_ ?_ ?_ ?_⟩
                    · rw [zup_k _ (by decide), zup_k _ (by omega), zup_k _ (by decide), zup_s]
                    · rw [zup_k _ (by decide), zup_k _ (by omega), zup_s]
                    · rw [zup_s]
                    · rw [zup_k _ (by omega), zup_s]
                    · rw [cell _ 3 (by decide) (by decide) (by decide) (by omega), cb3, if_neg ec]
              · rw [d3, if_pos rfl] at wn
                have fr := zrf_r I 3 (I 150 3 + 1)
                have sm := e_M_swap 195 (nI a) (nI b) (zup I 150 3 (I 150 3 + 1)) R n
                simp only [hM.k, hM.2, pl _ fr, hbw, zc_t, zr_s, zbI_s, if_neg (show ¬ zbo true = 0 by decide), mp _ _ fr, zlt_in ha (show P < 2 ^ 31 by omega), zlt_in hb (show P < 2 ^ 31 by omega), if_neg (show ¬ (1 : Int32) = 0 by decide), mo' _ a fr (by omega), mo' _ b fr (by omega), hba, hbb, if_true, if_neg (show ¬ (false = true) by decide), zin208, zixs, Bool.true_or, Bool.true_and, r8 fr, ← a9.1, if_neg c4, swp (r8 fr), M_isTeam_ok (S := zswp O a b) hM (show zswp O a b < 2 ^ 31 by omega) hP (zrf_k k fr).2.2.1.1.2.2.2, ej (zrf_k k fr).2.2.1 (fun b h1 h2 => funext fun j => fr b j (by omega) (by omega)), d3, m3] at sm
                exact zAg_ref h (by decide) (cfin 3 (by decide) _ (by decide) wn) sm
      · rw [e, if_pos rfl] at wn
        rcases d with d | ⟨i, hi, rfl, d⟩
        · rw [d, if_pos rfl] at sm1
          exact zAg_ref h (by decide) (cfin 1 (by decide) _ (by decide) wn) sm1
        · simp only [zlt_in hi (show P < 2 ^ 31 by omega), if_neg (show ¬ (1 : Int32) = 0 by decide), mo' _ i fr1 (by omega), d, zbI_s, if_neg (show ¬ (false = true) by decide), if_true, m1, hM.k, zc_t] at sm1
          exact zAg_ref h (by decide) (cfin 1 (by decide) _ (by decide) wn) sm1
end LAf
