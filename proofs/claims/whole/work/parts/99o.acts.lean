/-! ===== loan, undo, image, back ===== -/
section LAg
variable {q : Nat} {I : ZI} {R : ZR} {n L L' P Wk z m : Nat} {t : Nat → Nat}
theorem p_loan (h : zInv q I R n) (hq : q ≤ 100000) (x : Int32) : zAg q I R n (C_loan 0 x) (M_loan 195 x) := by
  have W := h.1
  have hM := W.M
  have sc := e_C_loan 0 x I R n
  have wn := e_C_whyNotLoan 0 x I R n
  have rr := fun k (hk : k < 5) => C_refuse_ok (I := I) W (k := k) hk (x := nI k) rfl
  have m0 := fun J : ZI => M_refuse_ok (I := J) hM (k := 0) (by decide) (x := 0) nI_0.symm
  have m1 := fun J : ZI => M_refuse_ok (I := J) hM (k := 1) (by decide) (x := 1) (by decide)
  have m2 := fun J : ZI => M_refuse_ok (I := J) hM (k := 2) (by decide) (x := 2) (by decide)
  have m3 := fun J : ZI => M_refuse_ok (I := J) hM (k := 3) (by decide) (x := 3) (by decide)
  have m4 := fun J : ZI => M_refuse_ok (I := J) hM (k := 4) (by decide) (x := 4) (by decide)
  have t2 : (2 : Int32) = nI 2 := by decide
  have cfin : ∀ k, k < 5 → ∀ x', x' = nI k → C_whyNotLoan 0 x I R n = some (some (.int x'), I, R, n) → C_loan 0 x I R n = some (some (.int (-1)), zup I 150 k (I 150 k + 1), R, n) := fun k hk x' hx e => by
    subst hx
    simp only [W.k, e, zc_t, zbI_s, if_neg (nI_nm1 (show k < 2 ^ 31 by omega)), rr k hk] at sc
    exact sc
  rcases h.2.2 with k | ⟨L, L', P, Wk, z, m, t, k⟩
  · have sm := e_M_loan 195 x (zup I 150 0 (I 150 0 + 1)) R n
    simp only [W.k, C_inPlay_N W k, zc_t, zbI_s, if_true] at wn
    simp only [hM.k, M_isPlaying_N hM (show zup (zup I 150 0 (I 150 0 + 1)) 195 0 0 195 18 = 0 by rw [zup_k _ (by decide), zup_n _ (by decide)]; exact k.2.1.2), zc_t, zbI_s, if_true, m0] at sm
    exact zAg_ref h (by decide) (cfin 0 (by decide) _ nI_0.symm wn) sm
  · have g := k.2.2.1
    have hL := W.L k.1.1
    have hP := g.1.2.1
    have hWk := g.2.1.2.1
    have i1 := isL_i k.1.1
    obtain ⟨be, mo, w, f, sw, O, u, l, a1, a2, a3, a4, a5, a6, a7, a8, a9, a10, a11, a12, a13, a14⟩ := k.2.2.2.2.2.1
    have hO2 := z65 a7.2.2.1 hP
    have r8 : ∀ {J : ZI}, zrf I J → ∀ j, J 208 j = I 208 j := fun f j => f 208 j (by decide) (by omega)
    have j18 : ∀ {J : ZI}, zrf I J → J 195 18 = 1 := fun f => by rw [f 195 18 (by decide) (by decide)]; exact k.2.1.2
    have pl : ∀ J : ZI, zrf I J → M_isPlaying 195 J R n = some (some (.int (zbo (be && decide (w < Wk)))), J, R, n) := fun J f => M_isPlaying_L hM (zrf_k k f).2.2.1 (zrf_k k f).2.1.2 (by rw [r8 f]; exact a1.2) (by rw [r8 f]; exact a3.2.1) a3.2.2
    simp only [W.k, W.1, C_inPlay_L W k a1.1 a3.1 a3.2.2, zc_t, zr_s, zbI_s, k.1.2.2.2.1, hL.k, Lg_knows_ok hL g.1.2.2.1] at wn
    cases hbw : (be && decide (w < Wk)) with
    | false =>
      rw [hbw, if_pos (by decide)] at wn
      have sm := e_M_loan 195 x (zup I 150 0 (I 150 0 + 1)) R n
      simp only [hM.k, pl _ (zrf_r I 0 _), hbw, zc_t, zbI_s, if_pos (show zbo false = 0 by decide), m0] at sm
      exact zAg_ref h (by decide) (cfin 0 (by decide) _ nI_0.symm wn) sm
    | true =>
      have hbe : be = true := by cases be with | true => rfl | false => cases hbw
      have hwW : w < Wk := by
        rw [hbe, Bool.true_and] at hbw
        exact of_decide_eq_true hbw
      subst hbe
      rw [hbw, if_neg (by decide)] at wn
      have ms : ∀ J : ZI, zrf I J → M_isSet 195 x J R n = some (some (.int (zset1 x P)), J, R, n) := fun J f => M_isSet_ok hM (j18 f) (zrf_k k f).2.2.1.1.2.2.2
      rcases zset1_cases x hP with c | ⟨S, hS, rfl, c⟩
      · rw [c, if_pos rfl] at wn
        have fr := zrf_r I 1 (I 150 1 + 1)
        have sm := e_M_loan 195 x (zup I 150 1 (I 150 1 + 1)) R n
        simp only [hM.k, pl _ fr, hbw, zc_t, zbI_s, if_neg (show ¬ zbo true = 0 by decide), ms _ fr, c, if_true, m1] at sm
        exact zAg_ref h (by decide) (cfin 1 (by decide) _ (by decide) wn) sm
      · have hS2 := z65 hS hP
        rw [c, if_neg (by decide)] at wn
        have cf := Se_chipIsFree_ok (I := I) W.S a8.1 a8.2.2 (show 2 < 32 by decide)
        rw [← t2] at cf
        have wo := Se_worth_ok (I := I) W.S a7.1 (show O < 2 ^ 31 by omega) (hL.pw (show w < 7 by omega)).1 (hL.pw (show w < 7 by omega)).2
        rw [show I (10 + 1) = I 11 from rfl] at wo
        simp only [W.k, W.1, zc_t, zr_s, cf, zbI_s, a5.1, k.1.2.2.2.1, hL.k, hL.r, Lg_isTeam_ok (S := S) hL hP g.2.2.2.2.2.2.2.2.1 g.2.2.2.2.2.2.2.2.2, a3.1, zin_of hL.ln.2.2.2.2.2.2.2 (show w < 7 by omega) (by decide), zix_nI (show w < 2 ^ 31 by omega), hL.2.2.2.2 w (by omega), Bool.true_or, Bool.true_and, wo, Lg_priceOf_ok (S := S) hL (show S < 2 ^ 31 by omega) hP g.1.2.2.1 (show w < 7 by omega)] at wn
        have mh : ∀ J : ZI, M_has (nI u) 2 J R n = some (some (.int (if u.testBit 2 = true then 1 else 0)), J, R, n) := fun J => by
          rw [t2]; exact M_has_ok (by omega) (by decide)
        have fr4 := zrf_r I 4 (I 150 4 + 1)
        have sm4 := e_M_loan 195 (nI S) (zup I 150 4 (I 150 4 + 1)) R n
        simp only [hM.k, hM.2, pl _ fr4, hbw, zc_t, zr_s, zbI_s, if_neg (show ¬ zbo true = 0 by decide), ms _ fr4, c, if_neg (show ¬ (1 : Int32) = 0 by decide), zin208, zixs, Bool.true_or, Bool.true_and, r8 fr4, a8.2.1, mh, ← a9.1, a5.2.1, m4] at sm4
        by_cases cfr : I 10 10 = -1 ∧ u.testBit 2 = false
        · rw [if_pos cfr, if_neg (by decide)] at wn
          rw [cfr.2, if_pos (show (if false = true then (1 : Int32) else 0) = 0 from rfl), if_pos cfr.1] at sm4
          by_cases csw : 0 < nI sw
          · rw [if_pos csw] at wn sm4
            exact zAg_ref h (by decide) (cfin 4 (by decide) _ (by decide) wn) sm4
          · rw [if_neg csw] at wn
            have ej : ∀ {J : ZI}, zLg J L P Wk z → (∀ b, L ≤ b → b < L + 22 → J b = I b) → zb01 (mTeam J S P) = zb01 (cTeam I L S P) := fun gJ hb => zb01_c (by rw [mTeam_c gJ, cTeam_c hb])
            have epr : zsum S (fun i => I 208 (11 + i)) P = zsum S (I (L + 15 + w)) P := zsum_congr (fun i hi _ => a14 i hi)
            have ew : zsum O (fun i => zbrings (I 208 (11 + i)) (I 208 (27 + i))) P = zsum O (fun i => zbrings (I (L + 15 + w) i) (I 11 i)) 16 := (zsum16 a7.2.2.1 hP (fun i hi ho => by
              obtain ⟨v, -, -, v1, v2⟩ := a12 i hi ho
              rw [v1, v2, a14 i hi])).symm
            have mw : ∀ J : ZI, (∀ j, J 208 j = I 208 j) → J 195 17 = nI P → M_worth 195 J R n = some (some (.int (I 10 3 + zsum O (fun i => zbrings (I (L + 15 + w) i) (I 11 i)) 16)), J, R, n) := fun J e e17 => by
              have w1 := M_worth_ok (I := J) (R := R) (n := n) hM (S := O) (by rw [e, a1.2]; rfl) (by rw [e]; exact a7.2.1) (by omega) e17 hP
              simp only [e] at w1
              rw [w1, ew, a2.1, a2.2.1]
            have mpr : ∀ J : ZI, (∀ j, J 208 j = I 208 j) → J 195 17 = nI P → M_pricesOf 195 (nI S) J R n = some (some (.int (zsum S (I (L + 15 + w)) P)), J, R, n) := fun J e e17 => by
              have w1 := M_pricesOf_ok (I := J) (R := R) (n := n) hM (S := S) (by omega) hP e17
              simp only [e] at w1
              rw [w1, epr]
            rcases zb01_cases (cTeam I L S P) with ⟨ht, d⟩ | ⟨-, d⟩
            · rw [d, if_neg (by decide)] at wn
              by_cases c2 : I 10 3 + zsum O (fun i => zbrings (I (L + 15 + w) i) (I 11 i)) 16 < zsum S (I (L + 15 + w)) P
              · rw [if_pos c2] at wn
                have fr := zrf_r I 2 (I 150 2 + 1)
                have sm := e_M_loan 195 (nI S) (zup I 150 2 (I 150 2 + 1)) R n
                simp only [hM.k, hM.2, pl _ fr, hbw, zc_t, zr_s, zbI_s, if_neg (show ¬ zbo true = 0 by decide), ms _ fr, c, if_neg (show ¬ (1 : Int32) = 0 by decide), zin208, zixs, Bool.true_or, Bool.true_and, r8 fr, a8.2.1, mh, ← a9.1, a5.2.1, cfr.1, cfr.2, if_true, if_neg (show ¬ (false = true) by decide), if_neg csw, M_isTeam_ok (S := S) hM (show S < 2 ^ 31 by omega) hP (zrf_k k fr).2.2.1.1.2.2.2, ej (zrf_k k fr).2.2.1 (fun b h1 h2 => funext fun j => fr b j (by omega) (by omega)), d, mpr _ (r8 fr) (zrf_k k fr).2.2.1.1.2.2.2, mw _ (r8 fr) (zrf_k k fr).2.2.1.1.2.2.2, if_pos c2, m2] at sm
                exact zAg_ref h (by decide) (cfin 2 (by decide) _ (by decide) wn) sm
              · rw [if_neg c2] at wn
                obtain ⟨I1, c1, c8, act⟩ := zact_all h k
                have i10 : ∀ b j, b < 28 → I1 b j = I b j := fun b j hb => c8 b j (Or.inl hb)
                have hbI1 : ∀ b, L ≤ b → b < L + 22 → I1 b = I b := fun b h1 h2 => funext fun j => c8 b j (by omega)
                have zb := z3bits u a8.2.2 2 (by decide)
                rw [← t2] at zb
                have zb4 : nI u ||| 4 = nI (u ||| 2 ^ 2) := (zsh2 u a8.2.2).2.2.2.1
                obtain ⟨d8, hbJ, gJ, j18', K, k1, k5, K8, fin⟩ := act (zup (zup (zup I1 10 9 (nI (u ||| 2 ^ 2))) 10 10 2) 10 12 (nI S)) (fun b j hb => by rw [zup_n _ (by omega), zup_n _ (by omega), zup_n _ (by omega)])
                have tp := Lg_topPlayer_ok (I := zup (zup (zup I1 10 9 (nI (u ||| 2 ^ 2))) 10 10 2) 10 12 (nI S)) (R := R) (n := n) hL (S := S) (by omega) hP (by rw [zup_n _ (by omega), zup_n _ (by omega), zup_n _ (by omega), hbI1 L (by omega) (by omega)]; exact g.1.2.2.1) (show w < 6 by omega)
                rw [show (zup (zup (zup I1 10 9 (nI (u ||| 2 ^ 2))) 10 10 2) 10 12 (nI S)) (L + 8 + w) = I (L + 8 + w) from funext fun j => by rw [zup_n _ (by omega), zup_n _ (by omega), zup_n _ (by omega), hbI1 _ (by omega) (by omega)]] at tp
                have i4 : zup (zup (zup I1 10 9 (nI (u ||| 2 ^ 2))) 10 10 2) 10 12 (nI S) 10 4 = nI w := by rw [zup_k _ (by decide), zup_k _ (by decide), zup_k _ (by decide), i10 _ _ (by decide)]; exact a3.1
                simp only [W.k, W.1, wn, zc_t, zr_s, zbI_s, if_true, c1, zbV_s, Se_play_ok W.S, i10 10 9 (by decide), a8.1, zb.1, k.1.2.2.2.1, hL.k, i4, tp] at sc
                generalize hC : zup (zup (zup I1 10 9 (nI (u ||| 2 ^ 2))) 10 10 2) 10 12 (nI S) = C at *
                have k17 : K 195 17 = nI P := by rw [k5 _ _ (by decide) (by decide)]; exact gJ.1.2.2.2
                have bc := M_bestCaptain_ok (I := zup (zup (zup K 208 6 (nI (u ||| 2 ^ 2))) 208 7 2) 208 8 (nI S)) (R := R) (n := n) hM (S := S) (by omega) hP (by rw [zup_n _ (by decide), zup_n _ (by decide), zup_n _ (by decide)]; exact k17) (show w < 6 by omega)
                have cp : zcap S (fun i => (zup (zup (zup K 208 6 (nI (u ||| 2 ^ 2))) 208 7 2) 208 8 (nI S)) 206 (6 * i + w)) P = zcap S (I (L + 8 + w)) P := zcap_c (fun i hi _ => by
                  rw [zup_n _ (by decide), zup_n _ (by decide), zup_n _ (by decide), k5 206 _ (by decide) (by omega), ← (gJ.2.2.2.2.2.2.2.1 w i hwW hi).1, hbJ _ (by omega) (by omega)])
                rw [cp] at bc
                have k9 : zup (zup (zup K 208 6 (nI (u ||| 2 ^ 2))) 208 7 2) 208 8 (nI S) 208 9 = nI w := by rw [zup_k _ (by decide), zup_k _ (by decide), zup_k _ (by decide), K8]; exact a3.2.1
                have sm := e_M_loan 195 (nI S) C R n
                simp only [hM.k, hM.2, M_isPlaying_L hM gJ j18' (show zup C 195 0 0 208 0 = zbo true by rw [d8]; exact a1.2) (show zup C 195 0 0 208 9 = nI w by rw [d8]; exact a3.2.1) a3.2.2, hbw, zc_t, zr_s, zbI_s, if_neg (show ¬ zbo true = 0 by decide), M_isSet_ok hM j18' gJ.1.2.2.2, c, if_neg (show ¬ (1 : Int32) = 0 by decide), zin208, zixs, Bool.true_or, Bool.true_and, d8, a8.2.1, mh, ← a9.1, a5.2.1, cfr.1, cfr.2, if_true, if_neg (show ¬ (false = true) by decide), if_neg csw, M_isTeam_ok (S := S) hM (show S < 2 ^ 31 by omega) hP gJ.1.2.2.2, ej gJ hbJ, d, mpr _ d8 gJ.1.2.2.2, mw _ d8 gJ.1.2.2.2, if_neg c2, k1, zbV_s, K8, zb4, k9, bc] at sm
                obtain ⟨hbF, fin2⟩ := fin (zup (zup (zup K 208 6 (nI (u ||| 2 ^ 2))) 208 7 2) 208 8 (nI S)) (fun b j hb => by rw [zup_n _ hb, zup_n _ hb, zup_n _ hb])
                refine ⟨_, C, R, n, _, R, n, sc, sm, fin2 ?_⟩
                have s10 : ∀ j, j ≠ 9 → j ≠ 10 → j ≠ 12 → C 10 j = I 10 j := fun j h1 h2 h3 => by rw [← hC, zup_k _ h3, zup_k _ h2, zup_k _ h1]; exact i10 10 j (by decide)
                have s8 : ∀ j, j ≠ 6 → j ≠ 7 → j ≠ 8 → (zup (zup (zup K 208 6 (nI (u ||| 2 ^ 2))) 208 7 2) 208 8 (nI S)) 208 j = I 208 j := fun j h1 h2 h3 => by rw [zup_k _ h3, zup_k _ h2, zup_k _ h1]; exact K8 j
                have s11 : ∀ b j, b ≠ 10 → b < 28 → C b j = I b j := fun b j h1 h2 => by rw [← hC, zup_n _ h1, zup_n _ h1, zup_n _ h1]; exact i10 b j h2
                have e15 := hbF (L + 15 + w) (by omega) (by omega)
                have eC10 : C 10 10 = 2 := by rw [← hC, zup_k _ (by decide), zup_s]
                have eF7 : (zup (zup (zup K 208 6 (nI (u ||| 2 ^ 2))) 208 7 2) 208 8 (nI S)) 208 7 = 2 := by rw [zup_k _ (by decide), zup_s]
                refine ⟨true, mo, w, f, sw, O, u ||| 2 ^ 2, S, ?_, ?_, ?_, ?_, ?_, ?_, ?_, ?_, ?_, ?_, ?_, ?_, ?_, ?_⟩
                · rw [s10 2 (by decide) (by decide) (by decide), s8 0 (by decide) (by decide) (by decide)]; exact a1
                · rw [s10 3 (by decide) (by decide) (by decide), s8 2 (by decide) (by decide) (by decide)]; exact ⟨a2.1, a2.2.1, by omega⟩
                · rw [s10 4 (by decide) (by decide) (by decide), s8 9 (by decide) (by decide) (by decide)]; exact a3
                · rw [s10 5 (by decide) (by decide) (by decide), s8 4 (by decide) (by decide) (by decide)]; exact a4
                · rw [s10 6 (by decide) (by decide) (by decide), s8 5 (by decide) (by decide) (by decide)]; exact ⟨a5.1, a5.2.1, by omega⟩
                · rw [s10 7 (by decide) (by decide) (by decide), s8 3 (by decide) (by decide) (by decide)]; exact a6
                · rw [s10 8 (by decide) (by decide) (by decide), s8 1 (by decide) (by decide) (by decide), cTeam_c hbF]; exact ⟨a7.1, a7.2.1, a7.2.2.1, a7.2.2.2.1, fun e => by cases e⟩
                · refine ⟨?_, ?_, zb.2.1⟩
                  · rw [← hC, zup_k _ (by decide), zup_k _ (by decide), zup_s]
                  · rw [zup_k _ (by decide), zup_k _ (by decide), zup_s]
                · rw [eC10, eF7]
                  refine ⟨rfl, Or.inr (Or.inr (Or.inr ⟨rfl, zb.2.2.2 (by decide), Classical.byContradiction (fun q0 => csw (zgt0 (by omega) (by have := a5.2.2; omega))), ?_, ?_⟩))⟩
                  · rw [cTeam_c hbF]; exact ht
                  · rw [s10 3 (by decide) (by decide) (by decide), e15, show C 11 = I 11 from funext fun j => s11 11 j (by decide) (by decide)]; exact c2
                · rw [s10 11 (by decide) (by decide) (by decide), s8 10 (by decide) (by decide) (by decide)]; exact a10
                · exact ⟨by rw [← hC, zup_s], zup_s _ _ _ _, hS⟩
                · intro j hj ho; rw [s11 11 j (by decide) (by decide), s8 (27 + j) (by omega) (by omega) (by omega)]; exact a12 j hj ho
                · intro w' j h1 h2
                  show C (13 + w') j = _
                  rw [s11 (13 + w') j (by omega) (by omega), s8 _ (by omega) (by omega) (by omega)]; exact a13 w' j h1 h2
                · intro j hj; rw [s8 (11 + j) (by omega) (by omega) (by omega), e15]; exact a14 j hj
            · rw [d, if_pos rfl] at wn
              have fr := zrf_r I 3 (I 150 3 + 1)
              have sm := e_M_loan 195 (nI S) (zup I 150 3 (I 150 3 + 1)) R n
              simp only [hM.k, hM.2, pl _ fr, hbw, zc_t, zr_s, zbI_s, if_neg (show ¬ zbo true = 0 by decide), ms _ fr, c, if_neg (show ¬ (1 : Int32) = 0 by decide), zin208, zixs, Bool.true_or, Bool.true_and, r8 fr, a8.2.1, mh, ← a9.1, a5.2.1, cfr.1, cfr.2, if_true, if_neg (show ¬ (false = true) by decide), if_neg csw, M_isTeam_ok (S := S) hM (show S < 2 ^ 31 by omega) hP (zrf_k k fr).2.2.1.1.2.2.2, ej (zrf_k k fr).2.2.1 (fun b h1 h2 => funext fun j => fr b j (by omega) (by omega)), d, m3] at sm
              exact zAg_ref h (by decide) (cfin 3 (by decide) _ (by decide) wn) sm
        · rw [if_neg cfr, if_pos rfl] at wn
          refine zAg_ref h (by decide) (cfin 4 (by decide) _ (by decide) wn) ?_
          rw [sm4]
          cases hu : u.testBit 2 with
          | true => rw [if_neg (show ¬ (if true = true then (1 : Int32) else 0) = 0 by decide)]
          | false => rw [if_pos (show (if false = true then (1 : Int32) else 0) = 0 from rfl), if_neg (fun e => cfr ⟨e, hu⟩)]
theorem p_undo (h : zInv q I R n) : zAg q I R n (C_undo 0) (M_undo 195) := by
  have W := h.1
  have hM := W.M
  have sc := e_C_undo 0 I R n
  have t1 : (1 : Int32) = nI 1 := by decide
  have t24 : zup I 195 0 0 195 24 = I 195 24 := zT5 (by decide)
  rcases h.2.2 with k | ⟨L, L', P, Wk, z, m, t, k⟩
  · have sm := e_M_undo 195 I R n
    simp only [W.k, W.1, zc_t, zr_s, k.2.2.2.2.1.1, if_pos (show (0 : Int32) < 1 by decide)] at sc
    simp only [hM.k, t24, k.2.2.2.2.1.2, zc_t, if_true] at sm
    exact zAg_ro h sc sm
  · have g := k.2.2.1
    have hP := g.1.2.1
    have hWk := g.2.1.2.1
    have i1 := isL_i k.1.1
    obtain ⟨nx, mm, n1, n2, n3, n4, n5, n6⟩ := k.2.2.2.2.2.2.1
    simp only [W.k, W.1, zc_t, zr_s, n4] at sc
    rcases Nat.eq_zero_or_pos mm with c | c
    · subst c
      have sm := e_M_undo 195 I R n
      rw [if_pos (show nI 0 < 1 by decide)] at sc
      simp only [hM.k, t24, n5, zc_t, nI_0, if_true] at sm
      exact zAg_ro h sc sm
    · obtain ⟨m', rfl⟩ : ∃ m', mm = m' + 1 := ⟨mm - 1, by omega⟩
      rw [t1, if_neg (nI_nlt (by omega) (by omega))] at sc
      have se := n6 m' (by omega)
      have ei : (nx + 12 - (m' + 1) + m') % 12 = (nx + 11) % 12 := by omega
      rw [ei] at se
      have kl : (nx + 11) % 12 < 12 := Nat.mod_lt _ (by decide)
      have ek : ((nx + 11) % 12 + 1) % 12 = nx := by omega
      generalize hk : (nx + 11) % 12 = s at *
      have hbo : zbool (I (30 + 9 * s) 2) = true := by
        obtain ⟨be, mo, w, f, sw, O, u, l, a1, -⟩ := se
        rw [a1.1]; exact zbool_bo _
      obtain ⟨I', b1, b2, b3, b4, b5, b6, b7⟩ := Hist_takeBack_ok (I := I) W.H W.S kl (by rw [ek]; exact n3) n4 hbo
      simp only [b1, zbV_s, W.k, W.1, zc_t, zr_s, zup_n 2 (show (28 : Nat) ≠ 141 by decide), b3] at sc
      have j24 : zup (zup I' 141 10 0) 195 0 0 195 24 = nI (m' + 1) := by rw [zup_k _ (by decide), zup_n _ (by decide), b7 _ _ (by decide) (by omega)]; exact n5
      have sm := e_M_undo 195 (zup I' 141 10 0) R n
      simp only [hM.k, zc_t, j24, if_neg (show ¬ nI (m' + 1) = 0 from nI_ne0 (by omega) (by omega)), nI_pred] at sm
      obtain ⟨F, f1, f2, f3⟩ := M_undo26_ok (I := zup (zup (zup I' 141 10 0) 195 0 0) 195 24 (nI m')) (R := R) (n := n) hM (show m' < 12 by omega) (zup_s _ _ _ _)
      have toI' : ∀ b j, b ≠ 208 → (b = 195 → j ≠ 0 ∧ j ≠ 24) → (b = 141 → j ≠ 10) → F b j = I' b j := fun b j h1 h2 h3 => by
        rw [f3 b j h1]
        by_cases e : b = 195
        · rw [zup_k _ (h2 e).2, zup_k _ (h2 e).1, zup_n _ (by omega)]
        · rw [zup_n _ e, zup_n _ e]
          by_cases e2 : b = 141
          · rw [zup_k _ (h3 e2)]
          · rw [zup_n _ e2]
      have toI : ∀ b j, b ≠ 208 → b ≠ 28 → (b < 10 ∨ 19 ≤ b) → (b = 195 → j ≠ 0 ∧ j ≠ 24) → (b = 141 → j ≠ 10) → F b j = I b j := fun b j h1 h2 h3 h4 h5 => by
        rw [toI' b j h1 h4 h5]; exact b7 b j h2 h3
      have hbF : ∀ b, L ≤ b → b < L + 22 → F b = I b := fun b h1 h2 => funext fun j => toI b j (by omega) (by omega) (by omega) (by omega) (by omega)
      refine ⟨_, _, R, n, F, R, n, sc, sm.trans f1, zInv_act h k (by omega) (fun b j h1 h2 => toI b j (by unfold zact at h2; omega) (by unfold zact at h2; omega) (by unfold zact at h2; omega) (fun e => ⟨h1 e, by unfold zact at h2; omega⟩) (by unfold zact at h2; omega)) ?_ ?_ ?_⟩
      · refine zSE_c se (by omega) hP hWk hbF (fun j h1 h2 => ?_) (fun j hj => ?_) (fun w j hw hj => ?_) (fun j hj => ?_)
        · rw [toI' 10 j (by decide) (by omega) (by omega)]; exact b4 j h1 h2
        · rw [toI' 11 j (by decide) (by omega) (by omega)]; exact b5 j hj
        · show F (13 + w) j = _
          rw [toI' (13 + w) j (by omega) (by omega) (by omega)]; exact b6 w j hw hj
        · rw [f2 j hj, zup_n _ (by decide), zup_n _ (by decide), zup_n _ (by decide)]; exact b7 _ _ (by decide) (by omega)
      · refine ⟨s, m', kl, by omega, ?_, ?_, ?_, fun k' hk' => ?_⟩
        · rw [toI' _ _ (by decide) (by omega) (by omega)]; exact b2
        · rw [toI' _ _ (by decide) (by omega) (by omega)]; exact b3
        · rw [f3 _ _ (by decide), zup_s]
        · have ej : (s + 12 - m' + k') % 12 = (nx + 12 - (m' + 1) + k') % 12 := by omega
          have lj : (nx + 12 - (m' + 1) + k') % 12 < 12 := Nat.mod_lt _ (by decide)
          rw [ej]
          exact zSE_c (n6 k' (by omega)) (by omega) hP hWk hbF (fun j _ _ => toI _ _ (by omega) (by omega) (by omega) (by omega) (by omega)) (fun j _ => toI _ _ (by omega) (by omega) (by omega) (by omega) (by omega)) (fun w j _ _ => toI _ _ (by omega) (by omega) (by omega) (by omega) (by omega)) (fun j _ => toI _ _ (by omega) (by omega) (by omega) (by omega) (by omega))
      · rw [f3 _ _ (by decide), zup_n _ (by decide), zup_n _ (by decide), zup_s]
theorem p_back (h : zInv q I R n) : zAg q I R n (C_back 0) (M_back 195) := by
  have W := h.1
  have hM := W.M
  have sc := e_C_back 0 I R n
  have t25 : zup I 195 0 0 195 25 = I 195 25 := zT5 (by decide)
  rcases h.2.2 with k | ⟨L, L', P, Wk, z, m, t, k⟩
  · have sm := e_M_back 195 I R n
    simp only [W.k, zc_t, k.2.2.2.1.1, if_true] at sc
    simp only [hM.k, t25, k.2.2.2.1.2, zc_t, if_true] at sm
    exact zAg_ro h sc sm
  · have g := k.2.2.1
    have hP := g.1.2.1
    have hWk := g.2.1.2.1
    have i1 := isL_i k.1.1
    rcases k.2.2.2.2.2.2.2.1 with b | ⟨b1, b2, se⟩
    · have sm := e_M_back 195 I R n
      simp only [W.k, zc_t, b.1, if_true] at sc
      simp only [hM.k, t25, b.2, zc_t, if_true] at sm
      exact zAg_ro h sc sm
    · obtain ⟨nx, mm, n1, n2, n3, n4, n5, n6⟩ := k.2.2.2.2.2.2.1
      have hbo : zbool (I 19 2) = true := by
        obtain ⟨be, mo, w, f, sw, O, u, l, a1, -⟩ := se
        rw [a1.1]; exact zbool_bo _
      obtain ⟨I', c1, c2, c3, c4, c5⟩ := Se_copy_ok (I := I) W.S2 W.S (by omega) hbo
      simp only [W.k, W.1, zc_t, zr_s, b1, if_neg (show ¬ (1 : Int32) = 0 by decide), c1, zbV_s, zup_n 4 (show (10 : Nat) ≠ 141 by decide), zup_n 4 (show (10 : Nat) ≠ 28 by decide), c2 4 (by decide) (by decide)] at sc
      have j25 : zup (zup (zup I' 28 2 0) 141 10 0) 195 0 0 195 25 = 1 := by rw [zup_k _ (by decide), zup_n _ (by decide), zup_n _ (by decide), c5 _ _ (by omega)]; exact b2
      have sm := e_M_back 195 (zup (zup I' 28 2 0) 141 10 0) R n
      simp only [hM.k, zc_t, j25, if_neg (show ¬ (1 : Int32) = 0 by decide)] at sm
      obtain ⟨J, f1, f2, f3⟩ := M_back16_ok (I := zup (zup (zup I' 28 2 0) 141 10 0) 195 0 0) (R := R) (n := n) hM
      have sm2 := sm.trans f1
      have e9 : zup (zup (zup I' 28 2 0) 141 10 0) 195 0 0 209 9 = I 19 4 := by
        rw [zup_n _ (by decide), zup_n _ (by decide), zup_n _ (by decide), c5 _ _ (by omega)]
        obtain ⟨be, mo, w, f, sw, O, u, l, a1, a2, a3, -⟩ := se
        rw [a3.1, a3.2.1]
      rw [e9] at sm2
      have toI' : ∀ b j, b ≠ 208 → (b = 195 → j ≠ 0 ∧ j ≠ 24) → (b = 141 → j ≠ 10) → (b = 28 → j ≠ 2) → (zup J 195 24 0) b j = I' b j := fun b j h1 h2 h3 h4 => by
        have e0 : (zup J 195 24 0) b j = J b j := by
          by_cases e : b = 195
          · exact zup_k b (h2 e).2
          · exact zup_n _ e
        rw [e0, f3 b j h1]
        have e1 : zup (zup (zup I' 28 2 0) 141 10 0) 195 0 0 b j = zup (zup I' 28 2 0) 141 10 0 b j := by
          by_cases e : b = 195
          · exact zup_k b (h2 e).1
          · exact zup_n _ e
        have e2 : zup (zup I' 28 2 0) 141 10 0 b j = zup I' 28 2 0 b j := by
          by_cases e : b = 141
          · exact zup_k b (h3 e)
          · exact zup_n _ e
        have e3 : zup I' 28 2 0 b j = I' b j := by
          by_cases e : b = 28
          · exact zup_k b (h4 e)
          · exact zup_n _ e
        rw [e1, e2, e3]
      have toI : ∀ b j, b ≠ 208 → (b < 10 ∨ 19 ≤ b) → (b = 195 → j ≠ 0 ∧ j ≠ 24) → (b = 141 → j ≠ 10) → (b = 28 → j ≠ 2) → (zup J 195 24 0) b j = I b j := fun b j h1 h3 h4 h5 h6 => by
        rw [toI' b j h1 h4 h5 h6]; exact c5 b j h3
      have hbF : ∀ b, L ≤ b → b < L + 22 → (zup J 195 24 0) b = I b := fun b h1 h2 => funext fun j => toI b j (by omega) (by omega) (by omega) (by omega) (by omega)
      refine ⟨_, _, R, n, _, R, n, sc, sm2, zInv_act h k (by omega) (fun b j h1 h2 => toI b j (by unfold zact at h2; omega) (by unfold zact at h2; omega) (fun e => ⟨h1 e, by unfold zact at h2; omega⟩) (by unfold zact at h2; omega) (by unfold zact at h2; omega)) ?_ ?_ ?_⟩
      · refine zSE_c se (by omega) hP hWk hbF (fun j h1 h2 => ?_) (fun j hj => ?_) (fun w j hw hj => ?_) (fun j hj => ?_)
        · rw [toI' 10 j (by decide) (by omega) (by omega) (by omega)]; exact c2 j h1 h2
        · rw [toI' 11 j (by decide) (by omega) (by omega) (by omega)]; exact c3 j hj
        · show (zup J 195 24 0) (13 + w) j = _
          rw [toI' (13 + w) j (by omega) (by omega) (by omega) (by omega)]; exact c4 w j hw hj
        · rw [zup_n _ (by decide), f2 j hj, zup_n _ (by decide), zup_n _ (by decide), zup_n _ (by decide)]; exact c5 _ _ (by omega)
      · refine ⟨nx, 0, n1, by omega, ?_, ?_, ?_, fun k' hk' => by omega⟩
        · rw [toI _ _ (by decide) (by omega) (by omega) (by omega) (by omega)]; exact n3
        · rw [zup_n _ (by decide), f3 _ _ (by decide), zup_n _ (by decide), zup_n _ (by decide), zup_s]; exact nI_0.symm
        · rw [zup_s]; exact nI_0.symm
      · rw [zup_n _ (by decide), f3 _ _ (by decide), zup_n _ (by decide), zup_s]
theorem p_image (h : zInv q I R n) : zAg q I R n (C_image 0) (M_image 195) := by
  have W := h.1
  have hM := W.M
  have sc := e_C_image 0 I R n
  have t18 : zup I 195 0 0 195 18 = I 195 18 := zT5 (by decide)
  rcases h.2.2 with k | ⟨L, L', P, Wk, z, m, t, k⟩
  · have sm := e_M_image 195 I R n
    simp only [W.k, zc_t, k.2.1, if_true] at sc
    simp only [hM.k, t18, k.2.1, zc_t, if_true] at sm
    exact zAg_ro h sc sm
  · have g := k.2.2.1
    have hP := g.1.2.1
    have hWk := g.2.1.2.1
    have i1 := isL_i k.1.1
    have i2 := isL_i k.1.2.1
    have se := k.2.2.2.2.2.1
    have hbo : zbool (I 10 2) = true := by
      obtain ⟨be, mo, w, f, sw, O, u, l, a1, -⟩ := se
      rw [a1.1]; exact zbool_bo _
    obtain ⟨I', c1, c2, c3, c4, c5⟩ := Se_copy_ok (I := I) W.S W.S2 (by omega) hbo
    simp only [W.k, W.1, zc_t, zr_s, k.2.1, if_neg (show ¬ (1 : Int32) = 0 by decide), c1, zbV_s, zup_n 4 (show (10 : Nat) ≠ 0 by decide), c5 10 4 (by omega)] at sc
    have j18 : zup (zup I' 0 12 1) 195 0 0 195 18 = 1 := by rw [zup_k _ (by decide), zup_n _ (by decide), c5 _ _ (by omega)]; exact k.2.1.2
    have sm := e_M_image 195 (zup I' 0 12 1) R n
    simp only [hM.k, zc_t, j18, if_neg (show ¬ (1 : Int32) = 0 by decide)] at sm
    obtain ⟨J, f1, f2, f3⟩ := M_image16_ok (I := zup (zup I' 0 12 1) 195 0 0) (R := R) (n := n) hM
    have sm2 := sm.trans f1
    have e9 : zup (zup I' 0 12 1) 195 0 0 208 9 = I 10 4 := by
      rw [zup_n _ (by decide), zup_n _ (by decide), c5 _ _ (by omega)]
      obtain ⟨be, mo, w, f, sw, O, u, l, a1, a2, a3, -⟩ := se
      rw [a3.1, a3.2.1]
    rw [e9] at sm2
    have toI' : ∀ b j, b ≠ 209 → (b = 195 → j ≠ 0 ∧ j ≠ 25) → (b = 0 → j ≠ 12) → (zup J 195 25 1) b j = I' b j := fun b j h1 h2 h3 => by
      have e0 : (zup J 195 25 1) b j = J b j := by
        by_cases e : b = 195
        · exact zup_k b (h2 e).2
        · exact zup_n _ e
      rw [e0, f3 b j h1]
      have e1 : zup (zup I' 0 12 1) 195 0 0 b j = zup I' 0 12 1 b j := by
        by_cases e : b = 195
        · exact zup_k b (h2 e).1
        · exact zup_n _ e
      have e2 : zup I' 0 12 1 b j = I' b j := by
        by_cases e : b = 0
        · exact zup_k b (h3 e)
        · exact zup_n _ e
      rw [e1, e2]
    have toI : ∀ b j, b ≠ 209 → (b < 19 ∨ 28 ≤ b) → (b = 195 → j ≠ 0 ∧ j ≠ 25) → (b = 0 → j ≠ 12) → (zup J 195 25 1) b j = I b j := fun b j h1 h3 h4 h5 => by
      rw [toI' b j h1 h4 h5]; exact c5 b j h3
    generalize hF : zup J 195 25 1 = F at *
    have row : ∀ b, b ≠ 209 → b ≠ 195 → b ≠ 0 → (b < 19 ∨ 28 ≤ b) → F b = I b := fun b h1 h2 h3 h4 => funext fun j => toI b j h1 h4 (fun e => absurd e h2) (fun e => absurd e h3)
    have hbF : ∀ b, L ≤ b → b < L + 22 → F b = I b := fun b h1 h2 => row b (by omega) (by omega) (by omega) (by omega)
    have cell : ∀ j, j ≠ 0 → j ≠ 25 → F 195 j = I 195 j := fun j h1 h2 => toI 195 j (by decide) (by omega) (fun _ => ⟨h1, h2⟩) (by omega)
    refine ⟨_, _, R, n, F, R, n, sc, sm2, W, zBs_f h.2.1 (fun b j hb => toI b j (by unfold zbsr at hb; omega) (by unfold zbsr at hb; omega) (by unfold zbsr at hb; omega) (by unfold zbsr at hb; omega)), Or.inr ⟨L, L', P, Wk, z, m, t, k.1, ?_, zLg_c g hbF (cell _ (by decide) (by decide)) (row _ (by decide) (by decide) (by decide) (by omega)) (row _ (by decide) (by decide) (by decide) (by omega)) (row _ (by decide) (by decide) (by decide) (by omega)) (row _ (by decide) (by decide) (by decide) (by omega)) (row _ (by decide) (by decide) (by decide) (by omega)), zTt_c k.2.2.2.1 hbF (by rw [row 4 (by decide) (by decide) (by decide) (by omega)]) (by rw [row 4 (by decide) (by decide) (by decide) (by omega)]) (row _ (by decide) (by decide) (by decide) (by omega)) (row _ (by decide) (by decide) (by decide) (by omega)) (cell _ (by decide) (by decide)) (row _ (by decide) (by decide) (by decide) (by omega)), zCa_c k.2.2.2.2.1 hWk hbF (by rw [row 4 (by decide) (by decide) (by decide) (by omega)]) (by rw [row 4 (by decide) (by decide) (by decide) (by omega)]) (row _ (by decide) (by decide) (by decide) (by omega)) (row _ (by decide) (by decide) (by decide) (by omega)), ?_, ?_, Or.inr ⟨?_, ?_, ?_⟩, ?_⟩⟩
    · rw [toI 0 11 (by decide) (by omega) (by omega) (by decide), cell 18 (by decide) (by decide)]; exact k.2.1
    · exact zSE_c se (by omega) hP hWk hbF (fun j _ _ => by rw [row 10 (by decide) (by decide) (by decide) (by omega)]) (fun j _ => by rw [row 11 (by decide) (by decide) (by decide) (by omega)]) (fun w j hw _ => by show F (13 + w) j = I (13 + w) j; rw [row (13 + w) (by omega) (by omega) (by omega) (by omega)]) (fun j _ => by rw [row 208 (by decide) (by decide) (by decide) (by omega)])
    · obtain ⟨nx, mm, n1, n2, n3, n4, n5, n6⟩ := k.2.2.2.2.2.2.1
      refine ⟨nx, mm, n1, n2, by rw [row 28 (by decide) (by decide) (by decide) (by omega)]; exact n3, by rw [row 28 (by decide) (by decide) (by decide) (by omega)]; exact n4, by rw [cell 24 (by decide) (by decide)]; exact n5, fun k' hk' => ?_⟩
      have lj : (nx + 12 - mm + k') % 12 < 12 := Nat.mod_lt _ (by decide)
      exact zSE_c (n6 k' hk') (by omega) hP hWk hbF (fun j _ _ => by rw [row _ (by omega) (by omega) (by omega) (by omega)]) (fun j _ => by rw [row _ (by omega) (by omega) (by omega) (by omega)]) (fun w j hw _ => by show F (30 + 9 * ((nx + 12 - mm + k') % 12) + 3 + w) j = _; rw [row _ (by omega) (by omega) (by omega) (by omega)]) (fun j _ => by show F 210 _ = _; rw [row 210 (by decide) (by decide) (by decide) (by omega)])
    · rw [← hF, zup_n _ (by decide), f3 _ _ (by decide), zup_n _ (by decide), zup_s]
    · rw [← hF, zup_s]
    · refine zSE_c se (by omega) hP hWk hbF (fun j h1 h2 => ?_) (fun j hj => ?_) (fun w j hw hj => ?_) (fun j hj => ?_)
      · rw [toI' 19 j (by decide) (by omega) (by omega)]; exact c2 j h1 h2
      · rw [toI' 20 j (by decide) (by omega) (by omega)]; exact c3 j hj
      · show F (22 + w) j = _
        rw [toI' (22 + w) j (by omega) (by omega) (by omega)]; exact c4 w j hw hj
      · rw [← hF, zup_n _ (by decide), f2 j hj, zup_n _ (by decide), zup_n _ (by decide)]; exact c5 _ _ (by omega)
    · rcases k.2.2.2.2.2.2.2.2 with b | b
      · exact Or.inl (by rw [row 141 (by decide) (by decide) (by decide) (by omega)]; exact b)
      · refine Or.inr ⟨by rw [row 141 (by decide) (by decide) (by decide) (by omega)]; exact b.1, b.2.1, zPln_c b.2.2 hWk hbF (row _ (by decide) (by decide) (by decide) (by omega)) (row _ (by decide) (by decide) (by decide) (by omega)) (by rw [row 141 (by decide) (by decide) (by decide) (by omega)]) (by rw [row 141 (by decide) (by decide) (by decide) (by omega)]) (row _ (by decide) (by decide) (by decide) (by omega)) (row _ (by decide) (by decide) (by decide) (by omega))⟩
end LAg
