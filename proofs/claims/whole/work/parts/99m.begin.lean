/-! ===== begin, loan ===== -/
section LAe
variable {q : Nat} {I : ZI} {R : ZR} {n L L' P Wk z m : Nat} {t : Nat → Nat}
theorem zfirst_of {c : Nat → Bool} : ∀ k i j, i ≤ j → j < i + k → c j = true → ∃ b, zfirst c i k = some b ∧ i ≤ b ∧ b < i + k
  | 0, i, j, h1, h2, _ => by omega
  | k + 1, i, j, h1, h2, h3 => by
    show ∃ b, (bif c i then some i else zfirst c (i + 1) k) = some b ∧ _
    cases hc : c i with
    | true => exact ⟨i, rfl, by omega, by omega⟩
    | false =>
      have : i ≠ j := fun e => by rw [e, h3] at hc; cases hc
      obtain ⟨b, b1, b2, b3⟩ := zfirst_of k (i + 1) j (by omega) (by omega) h3
      exact ⟨b, b1, by omega, by omega⟩
theorem zlow_of {S P : Nat} (h0 : S ≠ 0) (hS : S < 2 ^ P) : ∃ b, zfirst (fun i => S.testBit i) 0 P = some b ∧ b < P := by
  obtain ⟨i, hi⟩ := Nat.exists_testBit_of_ne_zero h0
  have c : i < P := by
    by_cases c : i < P
    · exact c
    · have : S < 2 ^ i := Nat.lt_of_lt_of_le hS (Nat.pow_le_pow_right (by decide) (by omega))
      rw [Nat.testBit_lt_two_pow this] at hi; cases hi
  obtain ⟨b, b1, -, b3⟩ := zfirst_of (c := fun i => S.testBit i) P 0 i (by omega) (by omega) hi
  exact ⟨b, b1, by omega⟩
theorem p_begin (h : zInv q I R n) (x : Int32) : zAg q I R n (C_begin 0 x) (M_begin 195 x) := by
  have W := h.1
  have hM := W.M
  have sc := e_C_begin 0 x I R n
  have wn := e_C_whyNotBegin 0 x I R n
  have rr := fun k (hk : k < 5) => C_refuse_ok (I := I) W (k := k) hk (x := nI k) rfl
  have mr := fun k (hk : k < 5) (J : ZI) => M_refuse_ok (I := J) hM (k := k) hk (x := nI k) rfl
  have m0 := fun J : ZI => M_refuse_ok (I := J) hM (k := 0) (by decide) (x := 0) nI_0.symm
  have t1 : (1 : Int32) = nI 1 := by decide
  have t2 : (2 : Int32) = nI 2 := by decide
  have t3 : (3 : Int32) = nI 3 := by decide
  have cfin : ∀ k, k < 5 → C_whyNotBegin 0 x I R n = some (some (.int (nI k)), I, R, n) → C_begin 0 x I R n = some (some (.int (-1)), zup I 150 k (I 150 k + 1), R, n) := fun k hk e => by
    simp only [W.k, e, zc_t, zbI_s, if_neg (nI_nm1 (show k < 2 ^ 31 by omega)), rr k hk] at sc
    exact sc
  rcases h.2.2 with k | ⟨L, L', P, Wk, z, m, t, k⟩
  · have sm := e_M_begin 195 x (zup I 150 0 (I 150 0 + 1)) R n
    simp only [W.k, k.2.1, zc_t, if_true] at wn
    simp only [hM.k, show zup (zup I 150 0 (I 150 0 + 1)) 195 0 0 195 18 = 0 by rw [zup_k _ (by decide), zup_n _ (by decide)]; exact k.2.1.2, zc_t, zbI_s, if_true, m0] at sm
    rw [← nI_0] at wn
    exact zAg_ref h (by decide) (cfin 0 (by decide) wn) sm
  · have g := k.2.2.1
    have hL := W.L k.1.1
    have hP := g.1.2.1
    have hWk := g.2.1.2.1
    have i1 := isL_i k.1.1
    obtain ⟨be, mo, w, f, sw, O, u, l, a1, a2, a3, a4, a5, a6, a7, a8, a9, a10, a11, a12, a13, a14⟩ := k.2.2.2.2.2.1
    have r8 : ∀ {J : ZI}, zrf I J → ∀ j, J 208 j = I 208 j := fun f j => f 208 j (by decide) (by omega)
    have j18 : ∀ {J : ZI}, zrf I J → J 195 18 = 1 := fun f => by rw [f 195 18 (by decide) (by decide)]; exact k.2.1.2
    cases be with
    | true =>
      simp only [W.k, W.1, k.2.1, zc_t, zr_s, if_neg (show ¬ (1 : Int32) = 0 by decide), a1.1, if_neg (show ¬ zbo true = 0 by decide)] at wn
      rw [← nI_0] at wn
      have sm := e_M_begin 195 x (zup I 150 0 (I 150 0 + 1)) R n
      have fr := zrf_r I 0 (I 150 0 + 1)
      simp only [hM.k, hM.2, j18 fr, zc_t, zr_s, if_neg (show ¬ (1 : Int32) = 0 by decide), zin208, zixs, Bool.true_or, Bool.true_and, r8 fr, a1.2, if_pos (show zbo true = 1 by decide), m0, zbI_s] at sm
      exact zAg_ref h (by decide) (cfin 0 (by decide) wn) sm
    | false =>
      obtain ⟨o0, w0, s0, u0, l0, ch0, sc0⟩ := a7.2.2.2.2 rfl
      subst o0; subst w0; subst s0; subst u0; subst l0
      simp only [W.k, W.1, k.2.1, k.1.2.2.2.1, hL.k, hL.r, zc_t, zr_s, if_neg (show ¬ (1 : Int32) = 0 by decide), a1.1, if_pos (show zbo false = 0 by decide), Lg_knows_ok hL g.1.2.2.1, zbI_s] at wn
      have smJ : ∀ C : ZI, zup C 195 0 0 195 18 = 1 → zup C 195 0 0 208 0 = zbo false → zup C 195 0 0 195 17 = nI P → M_begin 195 x C R n = (if zset1 x P = 0 then zbI (M_refuse 195 1 (zup C 195 0 0) R n) (fun v18 I18 R18 n18 => some (some (.int v18), I18, R18, n18)) else M_begin 195 x C R n) := fun C e1 e2 e3 => by
        have sm := e_M_begin 195 x C R n
        simp only [hM.k, hM.2, e1, zc_t, zr_s, if_neg (show ¬ (1 : Int32) = 0 by decide), zin208, zixs, Bool.true_or, Bool.true_and, e2, if_neg (show ¬ zbo false = 1 by decide), M_isSet_ok hM e1 e3, zbI_s] at sm
        by_cases c : zset1 x P = 0
        · rw [if_pos c] at sm ⊢; exact sm
        · rw [if_neg c]
      rcases zset1_cases x hP with c | ⟨S, hS, rfl, c⟩
      · rw [c, if_pos rfl, t1] at wn
        have fr := zrf_r I 1 (I 150 1 + 1)
        have sm := smJ (zup I 150 1 (I 150 1 + 1)) (j18 fr) (by rw [r8 fr]; exact a1.2) (zrf_k k fr).2.2.1.1.2.2.2
        rw [c, if_pos rfl, t1, mr 1 (by decide), zbI_s] at sm
        exact zAg_ref h (by decide) (cfin 1 (by decide) wn) sm
      · have hS2 := z65 hS hP
        rw [c, if_neg (by decide)] at wn
        have po := Lg_priceOf_ok (I := I) (S := S) hL (by omega) hP g.1.2.2.1 (show 0 < 7 by decide)
        rw [nI_0] at po
        simp only [Lg_isTeam_ok (S := S) hL hP g.2.2.2.2.2.2.2.2.1 g.2.2.2.2.2.2.2.2.2, zbI_s, po, zin_of hL.ln.2.1 (show 0 < 6 by decide) (by decide), W.k, W.1, k.1.2.2.2.1, hL.k, hL.r, zc_t, zr_s, hL.zrules, zixs, Bool.true_or, Bool.true_and] at wn
        have ej : ∀ {J : ZI}, zLg J L P Wk z → (∀ b, L ≤ b → b < L + 22 → J b = I b) → zb01 (mTeam J S P) = zb01 (cTeam I L S P) := fun gJ hb => zb01_c (by rw [mTeam_c gJ, cTeam_c hb])
        have pj : ∀ {J : ZI}, (∀ j, J 208 j = I 208 j) → zsum S (fun i => J 208 (11 + i)) P = zsum S (I (L + 15 + 0)) P := fun e => zsum_congr (fun i hi _ => by rw [e]; exact a14 i hi)
        have smT : ∀ C : ZI, zup C 195 0 0 195 18 = 1 → (∀ j, zup C 195 0 0 208 j = I 208 j) → zLg (zup C 195 0 0) L P Wk z → (∀ b, L ≤ b → b < L + 22 → zup C 195 0 0 b = I b) → M_begin 195 (nI S) C R n = (if zb01 (cTeam I L S P) = 0 then zbI (M_refuse 195 3 (zup C 195 0 0) R n) (fun v I R n => some (some (.int v), I, R, n)) else if I (L + 2) 0 < zsum S (I (L + 15 + 0)) P then zbI (M_refuse 195 2 (zup C 195 0 0) R n) (fun v I R n => some (some (.int v), I, R, n)) else M_begin 195 (nI S) C R n) := fun C e1 e2 e3 e4 => by
          have sm := e_M_begin 195 (nI S) C R n
          obtain ⟨v, -, -, v1, v2⟩ := e3.2.2.2.1 0 (by decide)
          have v2 : zup C 195 0 0 198 4 = nI v := v2
          rw [e4 (L + 2) (by omega) (by omega)] at v1
          simp only [hM.k, hM.2, e1, zc_t, zr_s, if_neg (show ¬ (1 : Int32) = 0 by decide), zin208, zin198, zixs, Bool.true_or, Bool.true_and, e2, a1.2, if_neg (show ¬ zbo false = 1 by decide), M_isSet_ok hM e1 e3.1.2.2.2, zbI_s, c, M_isTeam_ok (S := S) hM (show S < 2 ^ 31 by omega) hP e3.1.2.2.2, ej e3 e4, M_pricesOf_ok (S := S) hM (show S < 2 ^ 31 by omega) hP e3.1.2.2.2, v2] at sm
          rw [show zsum S (fun i => I 208 (11 + i)) P = zsum S (I (L + 15 + 0)) P from zsum_congr (fun i hi _ => a14 i hi), ← v1] at sm
          by_cases d : zb01 (cTeam I L S P) = 0
          · rw [if_pos d] at sm ⊢; exact sm
          · rw [if_neg d] at sm ⊢
            by_cases d2 : I (L + 2) 0 < zsum S (I (L + 15 + 0)) P
            · rw [if_pos d2] at sm ⊢; exact sm
            · rw [if_neg d2]
        rcases zb01_cases (cTeam I L S P) with ⟨ht, d⟩ | ⟨-, d⟩
        · rw [d, if_neg (by decide)] at wn
          by_cases d2 : I (L + 2) 0 < zsum S (I (L + 15 + 0)) P
          · rw [if_pos d2, t2] at wn
            have fr := zrf_r I 2 (I 150 2 + 1)
            have sm := smT (zup I 150 2 (I 150 2 + 1)) (j18 fr) (r8 fr) (zrf_k k fr).2.2.1 (fun b h1 h2 => funext fun j => fr b j (by omega) (by omega))
            rw [d, if_neg (by decide), if_pos d2, t2, mr 2 (by decide), zbI_s] at sm
            exact zAg_ref h (by decide) (cfin 2 (by decide) wn) sm
          · rw [if_neg d2] at wn
            obtain ⟨tS0, tP, tB⟩ := zteam_f g hS ht
            obtain ⟨p, p1, p2, p3⟩ := tP 0 (by omega)
            obtain ⟨v0, v1, v2, v3, v4⟩ := g.2.2.2.1 0 (by decide)
            have v2 : v0 ≤ 599 := v2
            have v4 : I 198 4 = nI v0 := v4
            rw [v3, p3, nI_ltI (by omega) (by omega)] at d2
            obtain ⟨b, b1, b2⟩ := zlow_of tS0 hS
            obtain ⟨I1, c1, c8, act⟩ := zact_all h k
            have hbI1 : ∀ b, L ≤ b → b < L + 22 → I1 b = I b := fun b h1 h2 => funext fun j => c8 b j (by omega)
            obtain ⟨C, o1, o2, o3, o4⟩ := Se_open_ok (I := I1) W.S hL (S := S) (by omega) hP (by rw [hbI1 L (by omega) (by omega)]; exact g.1.2.2.1)
            rw [hbI1 (L + 2) (by omega) (by omega), hbI1 (L + 15) (by omega) (by omega), v3, show zsum S (I (L + 15)) P = nI p from p3, zsubN (by omega), b1, zo_some] at o2
            rw [hbI1 (L + 15) (by omega) (by omega)] at o3
            simp only [W.k, W.1, wn, zc_t, zr_s, zbI_s, if_true, c1, zbV_s, k.1.2.2.2.1, o1, o2.2.1] at sc
            obtain ⟨d8, hbJ, gJ, j18', K, k1, k5, K8, fin⟩ := act C (fun b j hb => o4 b j (by omega) (by omega))
            have sm := e_M_begin 195 (nI S) C R n
            have J1 : zup C 195 0 0 198 4 = nI v0 := by
              obtain ⟨v, -, -, v5, v6⟩ := gJ.2.2.2.1 0 (by decide)
              have v6 : zup C 195 0 0 198 4 = nI v := v6
              rw [hbJ (L + 2) (by omega) (by omega), v3] at v5
              rw [v6, ← v5]
            have K1 : K 198 4 = nI v0 := by rw [k5 _ _ (by decide) (by decide)]; exact J1
            have K17 : K 195 17 = nI P := by rw [k5 _ _ (by decide) (by decide)]; exact gJ.1.2.2.2
            have epr : zsum S (fun i => I 208 (11 + i)) P = nI p := by rw [← p3]; exact zsum_congr (fun i hi _ => a14 i hi)
            have nlt : ¬ nI v0 < nI p := nI_nlt (by omega) (by omega)
            have mp2 := M_pricesOf_ok (I := zup (zup K 208 0 1) 208 1 (nI S)) (R := R) (n := n) hM (S := S) (by omega) hP (by rw [zup_n _ (by decide), zup_n _ (by decide)]; exact K17)
            rw [show zsum S (fun i => zup (zup K 208 0 1) 208 1 (nI S) 208 (11 + i)) P = nI p by rw [← epr]; exact zsum_congr (fun i _ _ => by rw [zup_k _ (by omega), zup_k _ (by omega), K8])] at mp2
            have ml := fun J : ZI => M_lowest_ok (I := J) (R := R) (n := n) (S := S) (b := b) (by omega) hP b1
            simp only [hM.k, hM.2, j18', zc_t, zr_s, if_neg (show ¬ (1 : Int32) = 0 by decide), zin208, zin198, zixs, Bool.true_or, Bool.true_and, d8, a1.2, if_neg (show ¬ zbo false = 1 by decide), M_isSet_ok hM j18' gJ.1.2.2.2, zbI_s, c, M_isTeam_ok (S := S) hM (show S < 2 ^ 31 by omega) hP gJ.1.2.2.2, ej gJ hbJ, d, M_pricesOf_ok (S := S) hM (show S < 2 ^ 31 by omega) hP gJ.1.2.2.2, J1, epr, if_neg nlt, k1, zbV_s, mp2, zup_n 4 (show (198 : Nat) ≠ 208 by decide), K1, ml, zsubN (show p ≤ v0 by omega)] at sm
            obtain ⟨F, q1, q2, q3⟩ := M_begin131_ok (I := zup (zup (zup (zup (zup K 208 0 1) 208 1 (nI S)) 208 2 (nI (v0 - p))) 208 3 (nI b)) 208 4 1) (R := R) (n := n) hM hP (by rw [zup_n _ (by decide), zup_n _ (by decide), zup_n _ (by decide), zup_n _ (by decide), zup_n _ (by decide)]; exact K17)
            have sm2 := sm.trans q1
            rw [zup_k _ (show (2 : Nat) ≠ 4 by decide), zup_k _ (show (2 : Nat) ≠ 3 by decide), zup_s] at sm2
            obtain ⟨hbF, fin2⟩ := fin F (fun b j hb => by
              rw [q3 b j (fun e => absurd e hb), zup_n _ hb, zup_n _ hb, zup_n _ hb, zup_n _ hb, zup_n _ hb])
            refine ⟨_, C, R, n, F, R, n, sc, sm2, fin2 ?_⟩
            have s8 : ∀ j, 5 ≤ j → (j < 27 ∨ 27 + P ≤ j) → F 208 j = I 208 j := fun j h1 h2 => by
              rw [q3 208 j (fun _ => h2), zup_k _ (by omega), zup_k _ (by omega), zup_k _ (by omega), zup_k _ (by omega), zup_k _ (by omega)]; exact K8 j
            refine ⟨true, v0 - p, 0, 1, 0, S, 0, 0, ⟨o2.1.trans (by decide), ?_⟩, ⟨o2.2.1, ?_, by omega⟩, ⟨o2.2.2.1.trans (by decide), ?_, by omega⟩, ⟨o2.2.2.2.1.trans (by decide), ?_, by omega, fun _ => by omega⟩, ⟨o2.2.2.2.2.1.trans (by decide), ?_, by omega⟩, fun _ => ⟨b, b2, o2.2.2.2.2.2.1, ?_⟩, ⟨o2.2.2.2.2.2.2.1, ?_, hS, fun _ => by rw [cTeam_c hbF]; exact ht, fun e => by cases e⟩, ⟨o2.2.2.2.2.2.2.2.1.trans (by decide), ?_, by omega⟩, ⟨?_, Or.inl o2.2.2.2.2.2.2.2.2.1⟩, ?_, ⟨o2.2.2.2.2.2.2.2.2.2.2.trans (by decide), ?_, Nat.two_pow_pos P⟩, fun i hi ho => ?_, fun w' j hw' _ => by omega, fun i hi => ?_⟩
            · rw [q3 208 0 (fun _ => Or.inl (by omega)), zup_k _ (by decide), zup_k _ (by decide), zup_k _ (by decide), zup_k _ (by decide), zup_s]; rfl
            · rw [q3 208 2 (fun _ => Or.inl (by omega)), zup_k _ (by decide), zup_k _ (by decide), zup_s]
            · rw [s8 9 (by decide) (Or.inl (by decide)), a3.2.1]
            · rw [q3 208 4 (fun _ => Or.inl (by omega)), zup_s]; decide
            · rw [s8 5 (by decide) (Or.inl (by decide)), a5.2.1]
            · rw [q3 208 3 (fun _ => Or.inl (by omega)), zup_k _ (by decide), zup_s]
            · rw [q3 208 1 (fun _ => Or.inl (by omega)), zup_k _ (by decide), zup_k _ (by decide), zup_k _ (by decide), zup_s]
            · rw [s8 6 (by decide) (Or.inl (by decide)), a8.2.1]
            · rw [s8 7 (by decide) (Or.inl (by decide)), ← a9.1, ch0]; exact o2.2.2.2.2.2.2.2.2.1
            · rw [s8 10 (by decide) (Or.inl (by decide)), ← a10, sc0]; exact o2.2.2.2.2.2.2.2.2.2.1
            · rw [s8 8 (by decide) (Or.inl (by decide)), a11.2.1]
            · obtain ⟨⟨v, y1, y2, y3⟩, -⟩ := g.2.2.2.2.2.2.1 0 i (by omega) hi
              have y3 : I (L + 15) i = nI v := y3
              refine ⟨v, y1, y2, by rw [← y3]; exact o3 i hi ho, ?_⟩
              rw [q2 i hi, zup_k _ (by omega), zup_k _ (by omega), zup_k _ (by omega), zup_k _ (by omega), zup_k _ (by omega), K8, a14 i hi]; exact y3
            · rw [s8 (11 + i) (by omega) (Or.inl (by omega)), hbF (L + 15 + 0) (by omega) (by omega)]; exact a14 i hi
        · rw [d, if_pos rfl, t3] at wn
          have fr := zrf_r I 3 (I 150 3 + 1)
          have sm := smT (zup I 150 3 (I 150 3 + 1)) (j18 fr) (r8 fr) (zrf_k k fr).2.2.1 (fun b h1 h2 => funext fun j => fr b j (by omega) (by omega))
          rw [d, if_pos rfl, t3, mr 3 (by decide), zbI_s] at sm
          exact zAg_ref h (by decide) (cfin 3 (by decide) wn) sm
end LAe
