/-! ===== plan, both sides ===== -/
section LPi
variable {q : Nat} {I : ZI} {R : ZR} {n L L' P Wk z m : Nat} {t : Nat → Nat}
theorem zct_le (p : Nat → Bool) : ∀ k, zct p k ≤ k
  | 0 => Nat.le_refl _
  | k + 1 => by
    have := zct_le p k
    rw [zct_succ]
    split <;> omega
theorem zplan_both (h : zInv q I R n) (hq : q ≤ 1000) (k : zLea q I R n L L' P Wk z m t) {w : Nat} (h2 : I 10 2 = 1) (h4 : I 10 4 = nI w) (hw : w < Wk) (pn : zPln I L P Wk m t) {x x2 : Int32} (hx : x = 0 ∨ x = 1 ∨ (x2 = 1 ∧ ∃ i, w ≤ i ∧ i < Wk ∧ x = nI (10 + i)) ∨ (x2 = 0 ∧ ∃ i, w ≤ i ∧ i < Wk ∧ x = nI (20 + i))) : ∃ v F, C_plan_95 0 x x2 I R n = some (some (.int v), I, R, n) ∧ M_plan_137 195 x x2 (zup I 195 0 0) R n = some (some (.int v), F, R, n) ∧ zInv (q + 1) F R n := by
  have W := h.1
  have hM := W.M
  have kJ := zLea_t k 0
  have gJ := kJ.2.2.1
  have g := k.2.2.1
  have hP := g.1.2.1
  have hWk := g.2.1.2.1
  have hinv := zInv_t h 0
  obtain ⟨be, mo, w', f, sw, O, u, l, a1, a2, a3, a4, a5, a6, a7, a8, a9, a10, a11, a12, a13, a14⟩ := k.2.2.2.2.2.1
  have hbe : be = true := by
    have := a1.1
    rw [h2] at this
    cases be with | true => rfl | false => exact absurd this (by decide)
  subst hbe
  have ew : w' = w := by
    have := a3.1
    rw [h4, nI_eq (by omega) (by omega)] at this
    exact this.symm
  subst ew
  have hO2 := z65 a7.2.2.1 hP
  have hl2 := z65 a11.2.2 hP
  obtain ⟨co, -, co2, co3, co4⟩ := g.2.2.2.1 3 (by decide)
  have co9 : co ≤ 9 := co2
  have tt := k.2.2.2.1
  have r8 : ∀ j, zup I 195 0 0 208 j = I 208 j := fun j => zup_n _ (by decide)
  have sw1 : sw ≤ 1000 := by have := a5.2.2; omega
  -- the worth, and the teams that can be paid for
  have ewo : zup I 195 0 0 208 2 + zsum O (fun i => zbrings (zup I 195 0 0 208 (11 + i)) (zup I 195 0 0 208 (27 + i))) P = I 10 3 + zsum O (fun i => zbrings (I (L + 15 + w') i) (I 11 i)) 16 := by
    have e : zsum O (fun i => zbrings (I (L + 15 + w') i) (I 11 i)) 16 = zsum O (fun i => zbrings (I 208 (11 + i)) (I 208 (27 + i))) P := zsum16 a7.2.2.1 hP (fun i hi ho => by
      obtain ⟨v, -, -, v1, v2⟩ := a12 i hi ho
      rw [v1, v2, a14 i hi])
    simp only [r8]
    rw [e, a2.1, a2.2.1]
  have wo := M_worth_ok (I := zup I 195 0 0) (R := R) (n := n) hM (S := O) (by rw [r8, a1.2]; rfl) (by rw [r8]; exact a7.2.1) (by omega) gJ.1.2.2.2 hP
  rw [ewo] at wo
  have un := M_teamsUnder_ok (I := zup I 195 0 0) (R := R) (n := n) hM kJ.2.2.2.1.2.1 hP gJ.1.2.2.2 (I 10 3 + zsum O (fun i => zbrings (I (L + 15 + w') i) (I 11 i)) 16)
  have ch := M_laysChoices_ok (I := zup I 195 0 0) (R := R) (n := n) (O := O) hM kJ.2.2.2.1.2.1 hP gJ.1.2.2.2 (by rw [r8, a1.2]; rfl) (by rw [r8]; exact a7.2.1) (by omega) (I 10 3 + zsum O (fun i => zbrings (I (L + 15 + w') i) (I 11 i)) 16) ewo.symm
  have ec : (fun k => !(decide (I 10 3 + zsum O (fun i => zbrings (I (L + 15 + w') i) (I 11 i)) 16 < mPr (zup I 195 0 0) P (t k)))) = fun k => !(decide (I 10 3 + zsum O (fun i => zbrings (I (L + 15 + w') i) (I 11 i)) 16 < zsum (t k) (I (L + 15 + w')) P)) := funext fun j => by rw [zPr_eq k h4 (by omega)]
  rw [ec] at un ch
  obtain ⟨p11, pS⟩ := pn w' O f u sw l co a3.1 a7.1 a4.1 a8.1 a5.1 a11.1 co3 (by omega) (by omega) (by have := a4.2.2.1; omega) a8.2.2 (by omega) (by omega) (by omega) _ rfl
  have ci : (I 10 10 = 2 ∧ u.testBit 2 = true ∧ sw = 0 ∧ cTeam I L l P ∧ ¬ I 10 3 + zsum O (fun i => zbrings (I (L + 15 + w') i) (I 11 i)) 16 < zsum l (I (L + 15 + w')) P) → ∃ i, i < m ∧ t i = l ∧ (fun k => !(decide (I 10 3 + zsum O (fun i => zbrings (I (L + 15 + w') i) (I 11 i)) 16 < zsum (t k) (I (L + 15 + w')) P))) i = true := fun y => by
    obtain ⟨i, i1, i2⟩ := tt.2.2.2.1 l a11.2.2 y.2.2.2.1
    refine ⟨i, i1, i2, ?_⟩
    show (!(decide _)) = true
    rw [i2, decide_eq_false y.2.2.2.2]; rfl
  generalize hcd : (fun k => !(decide (I 10 3 + zsum O (fun i => zbrings (I (L + 15 + w') i) (I 11 i)) 16 < zsum (t k) (I (L + 15 + w')) P))) = cd at *
  have hm := tt.1.2.1
  have hN := zct_le cd m
  have k141 := W.k.2.2.2.2.2.2.2.2.1
  have hp := e_Pl_hasPlan 141 I R n
  simp only [k141, zc_t, p11] at hp
  have sc := e_C_plan_95 0 x x2 I R n
  simp only [W.k, W.1, zc_t, zr_s, hp, p11] at sc
  have sm := e_M_plan_137 195 x x2 (zup I 195 0 0) R n
  simp only [hM.k, zc_t, wo, zbI_s, un] at sm
  by_cases x1 : x = 1
  · rw [if_pos x1] at sc sm
    exact ⟨_, _, sc, sm, hinv⟩
  · rw [if_neg x1] at sc sm
    have t40 : (40 : Int32) = nI 40 := by decide
    by_cases n0 : zct cd m = 0
    · rw [n0, nI_0, if_neg (show ¬ (0 : Int32) < 0 by decide)] at sc
      simp only [zbI_s, if_true, W.k, W.1, zc_t, zr_s, p11, n0, nI_0, if_neg (show ¬ (0 : Int32) < 0 by decide)] at sc
      rw [n0, nI_0, if_pos rfl] at sm
      exact ⟨_, _, sc, sm, hinv⟩
    · have pos : (0 : Int32) < nI (zct cd m) := by
        rw [← nI_0, nI_ltI (by decide) (by omega)]; omega
      have ne0 : ¬ nI (zct cd m) = 0 := by
        rw [← nI_0, nI_eq (by omega) (by decide)]; exact n0
      rw [if_pos pos] at sc
      rw [if_neg ne0, t40] at sm
      rw [t40] at sc
      by_cases n40 : 40 < zct cd m
      · have l40 : nI 40 < nI (zct cd m) := (nI_ltI (by decide) (by omega)).mpr n40
        rw [if_pos l40] at sm sc
        simp only [zbI_s, if_true, W.k, W.1, zc_t, zr_s, p11] at sc
        rw [if_pos pos] at sc
        exact ⟨_, _, sc, sm, hinv⟩
      · have l40 : ¬ nI 40 < nI (zct cd m) := fun e => n40 ((nI_ltI (by decide) (by omega)).mp e)
        rw [if_neg l40] at sm sc
        simp only [zbI_s, if_neg (show ¬ (1 : Int32) = 0 by decide)] at sc
        obtain ⟨J3, c1, c2, c3, c4⟩ := ch (by omega)
        have S := pS (by omega) (by omega)
        have tk : ∀ j, j < zct cd m → ∃ i, i < m ∧ zChs m cd t j = t i := fun j hj => by
          obtain ⟨i, y1, -, -, y4⟩ := zChs_ex (m := m) (cond := cd) t hj
          exact ⟨i, y1, y4⟩
        have r3 : ∀ b, b ≠ 214 → b ≠ 195 → J3 b = I b := fun b h1 h2 => funext fun j => by rw [c4 b j h1 (fun e => absurd e h2), zup_n _ h2]
        have r38 := r3 208 (by decide) (by decide)
        have r36 := r3 206 (by decide) (by decide)
        have r398 := r3 198 (by decide) (by decide)
        have zm : zMp J3 (zct cd m) P w' Wk co sw O (zChs m cd t) (zpl I L P (zChs m cd t)) (ztp I L P (zChs m cd t)) := by
          refine ⟨⟨c2, by omega, by omega⟩, fun j hj => ⟨c3 j hj, ?_⟩, ⟨hP, ?_⟩, fun v j hv hj => ?_, ⟨by rw [r38]; exact a7.2.1, by rw [r38]; exact a3.2.1, by rw [r38]; exact a5.2.1⟩, ⟨by rw [r398]; exact co4, by rw [r398]; exact g.2.1.2.2.2⟩, ⟨co9, sw1, hw, hWk⟩, fun v j _ hv hj => ?_⟩
          · obtain ⟨i, y1, y2⟩ := tk j hj
            rw [y2]; exact (tt.1.2.2 i y1).2.1
          · rw [c4 195 17 (by decide) (by decide)]; exact gJ.1.2.2.2
          · obtain ⟨i, y1, y2⟩ := tk j hj
            rw [y2]; exact zcap_ne _ (tt.1.2.2 i y1).2.2 (tt.2.2.1 i y1).1
          · obtain ⟨i, y1, y2⟩ := tk j hj
            have tf := (zteam_f g (tt.2.2.1 i y1).1 (tt.2.2.1 i y1).2).2.2 v hv
            have es := zSc_eq k hv (x := 0) (zChs m cd t j)
            have e1 : mPl J3 P (zChs m cd t) v j = zwith (zChs m cd t j) (I (L + 8 + v)) P := by
              rw [← es]
              unfold mPl mSc
              rw [r36]; rfl
            have e2 : zsum (zChs m cd t j) (fun i => J3 206 (6 * i + v)) P = zsum (zChs m cd t j) (I (L + 8 + v)) P := zsum_congr (fun i hi _ => by
              rw [r36]; exact ((g.2.2.2.2.2.2.2.1 v i hv hi).1).symm)
            have e3 : mTp J3 P (zChs m cd t) v j = zwith (zChs m cd t j) (I (L + 8 + v)) P - zsum (zChs m cd t j) (I (L + 8 + v)) P := by
              have : mTp J3 P (zChs m cd t) v j = mPl J3 P (zChs m cd t) v j - zsum (zChs m cd t j) (fun i => J3 206 (6 * i + v)) P := rfl
              rw [this, e1, e2]
            unfold zpl ztp
            rw [if_pos (show v < 6 by omega), if_pos (show v < 6 by omega), e1, e3]
            unfold cPl cTp
            refine ⟨rfl, rfl, ?_, ?_⟩
            · rw [y2]; exact ⟨by have := tf.1.1; omega, by have := tf.1.2; omega⟩
            · rw [y2]; exact ⟨by have := tf.2.1; omega, by have := tf.2.2; omega⟩
        have e7 : J3 208 7 = I 10 10 := by rw [r38]; exact a9.1.symm
        obtain ⟨V, K, v1, v2, v3, v4, v5⟩ : ∃ V K, M_laysValues 195 J3 R n = some (none, V, R, n) ∧ M_laysPlan 195 V R n = some (none, K, R, n) ∧ zPS (zpl I L P (zChs m cd t)) (ztp I L P (zChs m cd t)) (zChs m cd t) co (zct cd m) Wk w' O f u sw l (J3 208 7) (V 215 (zsta w' 40 f u)) (K 216) (K 217) ∧ (∀ q j, (q = 195 → j ≠ 33 ∧ j ≠ 34) → q ≠ 215 → V q j = J3 q j) ∧ ∀ q j, (q = 195 → j ≠ 33 ∧ j ≠ 34) → q ≠ 215 → q ≠ 216 → q ≠ 217 → K q j = J3 q j := by
          have own : J3 208 7 = -1 ∨ J3 208 7 = 0 ∨ J3 208 7 = 1 → _ := fun y => M_plan_own (l := l) hM zm y (by rw [r38]; exact a4.2.1) (by rw [r38]; exact a8.2.1) (a4.2.2.2 rfl) a4.2.2.1 a8.2.2
          rcases a9.2 with y | y | y | y
          · exact own (Or.inl (e7.trans y))
          · exact own (Or.inr (Or.inl (e7.trans y)))
          · exact own (Or.inr (Or.inr (e7.trans y)))
          · obtain ⟨i, i1, i2, i3⟩ := ci y
            exact M_plan_lent hM zm (e7.trans y.1) (by rw [r38]; exact a11.2.1) (by omega) (by
              rw [← i2]
              exact zcap_ne _ (tt.1.2.2 i i1).2.2 (tt.2.2.1 i i1).1) y.2.1 ⟨zct cd i, zct_lt cd i1 i3, by rw [zChs_at i1 i3, i2]⟩ (by rw [r38]; exact a4.2.1) (by rw [r38]; exact a8.2.1) (a4.2.2.2 rfl) a4.2.2.1 a8.2.2
        rw [e7] at v3
        obtain ⟨u1, u2⟩ := zPS_u S v3
        simp only [hM.k, zc_t, c1, zbV_s, v1] at sm
        have fV : ∀ b j, ¬ zir0 b j → V b j = zup I 195 0 0 b j := fun b j hb => by
          rw [v4 b j (by unfold zir0 at hb; omega) (by unfold zir0 at hb; omega), c4 b j (by unfold zir0 at hb; omega) (by unfold zir0 at hb; omega)]
        have fK : ∀ b j, ¬ zir0 b j → K b j = zup I 195 0 0 b j := fun b j hb => by
          rw [v5 b j (by unfold zir0 at hb; omega) (by unfold zir0 at hb; omega) (by unfold zir0 at hb; omega) (by unfold zir0 at hb; omega), c4 b j (by unfold zir0 at hb; omega) (by unfold zir0 at hb; omega)]
        by_cases x0 : x = 0
        · rw [if_pos x0] at sc sm
          simp only [W.k, W.1, zc_t, zr_s] at sc
          have V8 : ∀ j, V 208 j = I 208 j := fun j => by rw [v4 208 j (fun e => absurd e (by decide)) (by decide), r38]
          have sa := M_stateAt_ok (I := V) (R := R) (n := n) (x0 := V 208 9) (x1 := nI 40) (x2 := V 208 4) (x3 := V 208 6) (by rw [V8]; exact a3.2.1) rfl (by rw [V8]; exact a4.2.1) (by rw [V8]; exact a8.2.1)
          have bs : zsta w' 40 f u < 6888 := by
            unfold zsta
            have := a4.2.2.1
            have := a8.2.2
            omega
          have zs : zin 215 (nI (zsta w' 40 f u)) = true := zin_nI (by show _ < 6888; exact bs) (by omega)
          simp only [hM.k, hM.2, zc_t, zr_s, zin208, zixs, Bool.true_or, Bool.true_and, sa, zbI_s, zs, zix_nI (show zsta w' 40 f u < 2 ^ 31 by omega)] at sm
          refine ⟨_, V, sc, ?_, zInv_f hinv (Nat.le_refl _) fV⟩
          rw [sm, u1]
        · rw [if_neg x0] at sc sm
          simp only [v2, zbV_s] at sm
          rcases hx with y | y | ⟨y, i, i1, i2, rfl⟩ | ⟨y, i, i1, i2, rfl⟩
          · exact absurd y x0
          · exact absurd y x1
          · have ei : nI (10 + i) - 10 = nI i := by
              rw [show (10 : Int32) = nI 10 by decide, zsubN (by omega)]
              congr 1
              omega
            have z1 : zin 148 (nI i) = true := zin_nI (by show _ < 6; omega) (by omega)
            have z2 : zin 216 (nI i) = true := zin_nI (by show _ < 6; omega) (by omega)
            have k148 : zis n 148 20 = true := zis_lit (by have := hM.1; omega) (by decide)
            rw [if_neg (by rw [y]; decide)] at sc sm
            simp only [W.k, W.1, W.2.2.2.2.2.1.2.1, zc_t, zr_s, ei, k148, z1, Bool.true_or, Bool.true_and, zix_nI (show i < 2 ^ 31 by omega)] at sc
            simp only [hM.k, hM.2, zc_t, zr_s, ei, z2, Bool.true_or, Bool.true_and, zix_nI (show i < 2 ^ 31 by omega)] at sm
            refine ⟨_, K, sc, ?_, zInv_f hinv (Nat.le_refl _) fK⟩
            rw [sm, (u2 i i1 i2).1]
          · have ei : nI (20 + i) - 20 = nI i := by
              rw [show (20 : Int32) = nI 20 by decide, zsubN (by omega)]
              congr 1
              omega
            have z1 : zin 149 (nI i) = true := zin_nI (by show _ < 6; omega) (by omega)
            have z2 : zin 217 (nI i) = true := zin_nI (by show _ < 6; omega) (by omega)
            have k149 : zis n 149 20 = true := zis_lit (by have := hM.1; omega) (by decide)
            rw [if_pos y] at sc sm
            simp only [W.k, W.1, W.2.2.2.2.2.1.2.2, zc_t, zr_s, ei, k149, z1, Bool.true_or, Bool.true_and, zix_nI (show i < 2 ^ 31 by omega)] at sc
            simp only [hM.k, hM.2, zc_t, zr_s, ei, z2, Bool.true_or, Bool.true_and, zix_nI (show i < 2 ^ 31 by omega)] at sm
            refine ⟨_, K, sc, ?_, zInv_f hinv (Nat.le_refl _) fK⟩
            rw [sm, (u2 i i1 i2).2]
theorem p_plan (h : zInv q I R n) (hq : q ≤ 1000) (x : Int32) : zAg q I R n (C_plan 0 x) (M_plan 195 x) := by
  have W := h.1
  have hM := W.M
  have sc := e_C_plan 0 x I R n
  rcases h.2.2 with k | ⟨L, L', P, Wk, z, m, t, k⟩
  · simp only [W.k, C_inPlay_N W k, zc_t, zbI_s, if_true] at sc
    have sm := M_plan_fl (I := I) hM x
    have s8 := e_M_plan_108 195 x (zTc (x.toInt64 - 10) (I 208 9) (I 198 6)) (zTc (x.toInt64 - 20) (I 208 9) (I 198 6)) (zup I 195 0 0) R n
    simp only [hM.k, M_isPlaying_N hM (show zup I 195 0 0 195 18 = 0 by rw [zup_k _ (by decide)]; exact k.2.1.2), zc_t, zbI_s, if_true] at s8
    exact zAg_ro h sc (sm.trans s8)
  · have g := k.2.2.1
    have hWk := g.2.1.2.1
    obtain ⟨be, mo, w, f, sw, O, u, l, a1, a2, a3, -⟩ := k.2.2.2.2.2.1
    simp only [W.k, C_inPlay_L W k a1.1 a3.1 a3.2.2, zc_t, zbI_s] at sc
    -- the reference, behind the flags
    have m8 : ∀ (J : ZI) (R' : ZR) (n' : Nat), zLea q J R' n' L L' P Wk z m t → WM R' n' → J 208 0 = zbo be → J 208 9 = nI w → M_plan 195 x J R' n' = if zbo (be && decide (w < Wk)) = 0 then some (some (.int (-1000000)), zup J 195 0 0, R', n') else (if zlt x 2 = 0 then (if zTc (x.toInt64 - 10) (nI w) (nI Wk) = 0 then (if zTc (x.toInt64 - 20) (nI w) (nI Wk) = 0 then some (some (.int (-1000000)), zup J 195 0 0, R', n') else M_plan_137 195 x (zTc (x.toInt64 - 10) (nI w) (nI Wk)) (zup J 195 0 0) R' n') else M_plan_137 195 x (zTc (x.toInt64 - 10) (nI w) (nI Wk)) (zup J 195 0 0) R' n') else M_plan_137 195 x (zTc (x.toInt64 - 10) (nI w) (nI Wk)) (zup J 195 0 0) R' n') := fun J R' n' kJ hM' j0 j9 => by
      have kT := zLea_t kJ 0
      have im := M_isIn_ok (I := zup J 195 0 0) (R := R') (n := n') x.toInt64 0 1
      rw [zIs x (N := 2) (by decide) (by decide) (by decide)] at im
      rw [M_plan_fl hM' x, j9, show J 198 6 = nI Wk from kJ.2.2.1.2.1.2.2.2]
      have s8 := e_M_plan_108 195 x (zTc (x.toInt64 - 10) (nI w) (nI Wk)) (zTc (x.toInt64 - 20) (nI w) (nI Wk)) (zup J 195 0 0) R' n'
      simp only [hM'.k, M_isPlaying_L hM' kT.2.2.1 kT.2.1.2 (show zup J 195 0 0 208 0 = zbo be by rw [zup_n _ (by decide)]; exact j0) (show zup J 195 0 0 208 9 = nI w by rw [zup_n _ (by decide)]; exact j9) a3.2.2, zc_t, zbI_s, im] at s8
      exact s8
    cases hbw : (be && decide (w < Wk)) with
    | false =>
      rw [hbw, if_pos (by decide)] at sc
      have sm := m8 I R n k hM a1.2 a3.2.1
      rw [hbw, if_pos (by decide)] at sm
      exact zAg_ro h sc sm
    | true =>
      have hbe : be = true := by cases be with | true => rfl | false => cases hbw
      have hwW : w < Wk := by
        rw [hbe, Bool.true_and] at hbw
        exact of_decide_eq_true hbw
      subst hbe
      rw [hbw, if_neg (by decide)] at sc
      simp only [C_isToCome_L W k, zbI_s, W.k, zc_t, a3.1] at sc
      have m9 : ∀ (J : ZI) (R' : ZR) (n' : Nat), zLea q J R' n' L L' P Wk z m t → WM R' n' → J 208 0 = zbo true → J 208 9 = nI w → _ := fun J R' n' kJ hM' j0 j9 => by
        have e := m8 J R' n' kJ hM' j0 j9
        rw [hbw, if_neg (show ¬ zbo true = 0 by decide)] at e
        exact e
      -- the plan is made, and told
      have go : ∀ x2 : Int32, (x = 0 ∨ x = 1 ∨ (x2 = 1 ∧ ∃ i, w ≤ i ∧ i < Wk ∧ x = nI (10 + i)) ∨ (x2 = 0 ∧ ∃ i, w ≤ i ∧ i < Wk ∧ x = nI (20 + i))) → C_plan 0 x I R n = C_plan_52 0 x x2 I R n → (∀ (J : ZI) (R' : ZR) (n' : Nat), zLea q J R' n' L L' P Wk z m t → WM R' n' → J 208 0 = zbo true → J 208 9 = nI w → M_plan 195 x J R' n' = M_plan_137 195 x x2 (zup J 195 0 0) R' n') → zAg q I R n (C_plan 0 x) (M_plan 195 x) := fun x2 hx e1 e2 => by
        obtain ⟨J, R9, n9, y1, y2, y3, y4, y5⟩ := C_plan_made h hq k (w := w) (by rw [a1.1]; rfl) a3.1 hwW x x2
        have e10 := y5 10 (by omega)
        have e208 := y5 208 (by omega)
        obtain ⟨v, F, z1, z2, z3⟩ := zplan_both y2 hq y3 (w := w) (by rw [e10, a1.1]; rfl) (by rw [e10]; exact a3.1) hwW y4.2.2 (x := x) (x2 := x2) hx
        exact ⟨v, J, R9, n9, F, R9, n9, e1.trans (y1.trans z1), (e2 J R9 n9 y3 y2.1.M (by rw [e208]; exact a1.2) (by rw [e208]; exact a3.2.1)).trans z2, z3⟩
      have f1 := zTc_c x (c := 10) (w := w) (Wk := Wk) (by decide) (z64sub x).1 a3.2.2 g.2.1.1 hWk
      have f2 := zTc_c x (c := 20) (w := w) (Wk := Wk) (by decide) (z64sub x).2 a3.2.2 g.2.1.1 hWk
      have e01 : (x = 0 ∨ x = 1) → zlt x 2 = 1 := fun y => by rcases y with rfl | rfl <;> decide
      have n01 : zlt x 2 = 0 → ¬ x = 0 ∧ ¬ x = 1 := fun y => ⟨fun e => by rw [e] at y; exact absurd y (by decide), fun e => by rw [e] at y; exact absurd y (by decide)⟩
      rcases zlt_cases x (N := 2) (by decide) with d | ⟨j, hj, rfl, d⟩
      · rw [if_neg (n01 d).1, if_neg (n01 d).2] at sc
        rcases f1 with ⟨g1, g2⟩ | ⟨i, i1, i2, i3, g1, g2⟩
        · rw [g2, if_pos rfl] at sc
          rcases f2 with ⟨g3, g4⟩ | ⟨i, i1, i2, i3, g3, g4⟩
          · rw [g4, if_pos rfl] at sc
            have sm := m9 I R n k hM a1.2 a3.2.1
            rw [d, if_pos rfl, g1, if_pos rfl, g3, if_pos rfl] at sm
            exact zAg_ro h sc sm
          · rw [g4, if_neg (by decide)] at sc
            refine go 0 (Or.inr (Or.inr (Or.inr ⟨rfl, i, i1, i2, i3⟩))) sc (fun J R' n' q1 q2 q3 q4 => ?_)
            have sm := m9 J R' n' q1 q2 q3 q4
            rw [d, if_pos rfl, g1, if_pos rfl, g3, if_neg (by decide)] at sm
            exact sm
        · rw [g2, if_neg (by decide)] at sc
          refine go 1 (Or.inr (Or.inr (Or.inl ⟨rfl, i, i1, i2, i3⟩))) sc (fun J R' n' q1 q2 q3 q4 => ?_)
          have sm := m9 J R' n' q1 q2 q3 q4
          rw [d, if_pos rfl, g1, if_neg (by decide)] at sm
          exact sm
      · have ff : zTc ((nI j).toInt64 - 10) (nI w) (nI Wk) = 0 ∧ zTd ((nI j).toInt64 - 10) (nI w) (nI Wk) = 0 := by
          rcases f1 with y | ⟨i, i1, i2, i3, -⟩
          · exact y
          · rw [nI_eq (by omega) (by omega)] at i3; omega
        have j2 : nI j = 0 ∨ nI j = 1 := by
          have : j = 0 ∨ j = 1 := by omega
          rcases this with rfl | rfl
          · exact Or.inl nI_0
          · exact Or.inr (by decide)
        have sc' : C_plan 0 (nI j) I R n = C_plan_52 0 (nI j) 0 I R n := by
          rw [sc, ff.2]
          rcases j2 with y | y
          · rw [if_pos y]
          · rw [if_pos y]
            by_cases y0 : nI j = 0
            · rw [if_pos y0]
            · rw [if_neg y0]
        refine go 0 (by rcases j2 with y | y; exact Or.inl y; exact Or.inr (Or.inl y)) sc' (fun J R' n' q1 q2 q3 q4 => ?_)
        have sm := m9 J R' n' q1 q2 q3 q4
        rw [d, if_neg (show ¬ (1 : Int32) = 0 by decide), ff.1] at sm
        exact sm
end LPi
