/-! ===== most, weight, player ===== -/
theorem zmul_cmp {a b c d : Int32} (ha : zbd 594 a) (hb : zbd 99 b) (hc : zbd 594 c) (hd : zbd 99 d) : (a * b < c * d) ↔ (a.toInt64 * b.toInt64 < c.toInt64 * d.toInt64) := by
  have ab : (a.toInt * b.toInt).natAbs ≤ 594 * 99 := by
    rw [Int.natAbs_mul]
    exact Nat.mul_le_mul (by unfold zbd at ha; omega) (by unfold zbd at hb; omega)
  have cd : (c.toInt * d.toInt).natAbs ≤ 594 * 99 := by
    rw [Int.natAbs_mul]
    exact Nat.mul_le_mul (by unfold zbd at hc; omega) (by unfold zbd at hd; omega)
  have m64 : ∀ x y : Int32, (x.toInt * y.toInt).natAbs ≤ 594 * 99 → (x.toInt64 * y.toInt64).toInt = x.toInt * y.toInt := fun x y h => by
    rw [Int64.toInt_mul, Int32.toInt_toInt64, Int32.toInt_toInt64]
    exact Int.bmod_eq_of_le (by omega) (by omega)
  rw [Int32.lt_iff_toInt_lt, Int64.lt_iff_toInt_lt, zmulI (by omega) (by omega), zmulI (by omega) (by omega), m64 a b ab, m64 c d cd]
theorem zabs_ok {x : Int32} (h : zbd 594 x) : ∃ a, a ≤ 594 ∧ zabs x = nI a ∧ (if x < 0 then -x else x) = nI a := by
  unfold zbd at h
  by_cases c : x < 0
  · have c' : ¬ (0 : Int32) ≤ x := by rw [Int32.le_iff_toInt_le]; rw [Int32.lt_iff_toInt_lt] at c; omega
    refine ⟨(-x.toInt).toNat, by omega, ?_, ?_⟩
    · unfold zabs
      rw [if_neg c']
      apply Int32.toInt_inj.mp
      rw [Int32.lt_iff_toInt_lt] at c
      have z0 : (0 : Int32).toInt = 0 := by decide
      rw [zsubI (by omega) (by omega), nI_toInt (by omega)]
      omega
    · rw [if_pos c]
      apply Int32.toInt_inj.mp
      rw [Int32.lt_iff_toInt_lt] at c
      have z0 : (0 : Int32).toInt = 0 := by decide
      have e : -x = 0 - x := by rw [Int32.zero_sub]
      rw [e, zsubI (by omega) (by omega), nI_toInt (by omega)]
      omega
  · obtain ⟨j, hj, rfl⟩ := nI_of c
    rw [nI_toInt hj] at h
    refine ⟨j, by omega, ?_, by rw [if_neg c]⟩
    unfold zabs
    rw [if_pos (nI_pos' hj)]
section LRf
variable {q : Nat} {I : ZI} {R : ZR} {n L L' P Wk z m : Nat} {t : Nat → Nat}
theorem zrow_J (g : zLg I L P Wk z) {i : Nat} (hi : i < P) (w0 k : Nat) (hk : w0 + k ≤ Wk) : zrow (fun w => I (L + 8 + w) i) w0 k = zrow (fun w => I 206 (6 * i + w)) w0 k := zrow_c k (fun w hw => (g.2.2.2.2.2.2.2.1 w i (by omega) hi).1)
theorem p_most (h : zInv q I R n) (x : Int32) : zAg q I R n (C_most 0 x) (M_most 195 x) := by
  have W := h.1
  have hM := W.M
  have sc := e_C_most 0 x I R n
  have sm := e_M_most 195 x I R n
  have t18 : zup I 195 0 0 195 18 = I 195 18 := zT5 (by decide)
  rcases h.2.2 with k | ⟨L, L', P, Wk, z, m, t, k⟩
  · simp only [W.k, k.2.1, zc_t, if_true] at sc
    simp only [hM.k, t18, k.2.1, zc_t, if_true] at sm
    exact zAg_ro h sc sm
  · have hL := W.L k.1.1
    have g := k.2.2.1
    have kJ := zLea_t k 0
    have gJ := kJ.2.2.1
    have h1P := g.1.1
    have hP := g.1.2.1
    have h1W := g.2.1.1
    have hWk := g.2.1.2.1
    obtain ⟨be, mo, w, f, sw, O, u, l, a1, a2, a3, a4, a5, a6, a7, a8, a9, a10, a11, a12, a13, a14⟩ := k.2.2.2.2.2.1
    have pts : ∀ w j, w < Wk → j < P → zsm (I (L + 8 + w) j) := fun w j h1 h2 => by
      have := (g.2.2.2.2.2.2.2.1 w j h1 h2).2
      unfold zbd at this; unfold zsm; omega
    have im := M_isIn_ok (I := zup I 195 0 0) (R := R) (n := n) x.toInt64 0 5
    rw [zIs x (N := 6) (by decide) (by decide) (by decide)] at im
    have er : ∀ i, i < P → zrow (fun w => I (L + 8 + w) i) 0 (Wk - 0) = zrow (fun w => zup I 195 0 0 206 (6 * i + w)) 0 (Wk - 0) := fun i hi => by
      rw [zrow_J g hi 0 (Wk - 0) (by omega)]
      exact zrow_c _ (fun w _ => (zTn I 0 _ (by decide)).symm)
    have rb : ∀ i, i < P → zbd 594 (zrow (fun w => zup I 195 0 0 206 (6 * i + w)) 0 (Wk - 0)) := fun i hi => by
      rw [← er i hi]
      exact zbd_mono (zrow_bd (Wk - 0) (by omega) (fun w hw => (g.2.2.2.2.2.2.2.1 w i (by omega) hi).2)) (by omega)
    have pb : ∀ i, i < P → I (L + 15 + w) i = zup I 195 0 0 208 (11 + i) ∧ zbd 99 (zup I 195 0 0 208 (11 + i)) := fun i hi => by
      obtain ⟨⟨v, v1, v2, v3⟩, -⟩ := g.2.2.2.2.2.2.1 w i a3.2.2 hi
      rw [zT8, a14 i hi]
      exact ⟨rfl, by rw [v3]; exact zbd_nI v2 (by decide)⟩
    simp only [W.k, W.1, k.2.1, k.1.2.2.2.1, hL.k, zc_t, zr_s, if_neg (show ¬ (1 : Int32) = 0 by decide), a3.1, Lg_mostPoints_ok hL g.1.2.2.1 h1P hP g.2.1.2.2.1 hWk, Lg_mostPrice_ok hL (show w < 7 by omega) g.1.2.2.1 h1P hP, Lg_mostWeight_ok hL (show w < 7 by omega) g.1.2.2.1 h1P hP g.2.1.2.2.1 hWk, C_weeks_L W k, zlt_nI (show w < 2 ^ 31 by omega) (show Wk < 2 ^ 31 by omega), Lg_outdoneAtAll_ok hL g.1.2.2.1 hP g.2.1.2.2.1 hWk a3.2.2 pts, Lg_greatestClub_ok hL hP g.2.2.2.2.2.2.2.2.2, Lg_richestWeek_ok hL g.1.2.2.1 hP g.2.1.2.2.1 h1W hWk, zbI_s] at sc
    simp only [hM.k, t18, k.2.1, zc_t, if_neg (show ¬ (1 : Int32) = 0 by decide), im, zbI_s, M_isOver_ok hM, zT8, a3.2.1, gJ.2.1.2.2.2, nI_eq (show w < 2 ^ 31 by omega) (show Wk < 2 ^ 31 by omega), M_outdoneMany_ok hM gJ.1.2.2.2 hP gJ.2.1.2.2.2 hWk (show zup I 195 0 0 208 9 = nI w by rw [zT8]; exact a3.2.1) a3.2.2, M_fullestClub_ok hM gJ.1.2.2.2 hP, M_richestWeek_ok hM gJ.1.2.2.2 hP gJ.2.1.2.2.2 h1W hWk] at sm
    rcases zlt_cases x (N := 6) (by decide) with c | ⟨j, hj, rfl, c⟩
    · rw [c, if_pos rfl] at sm
      refine zAg_ro h ?_ sm
      have ne : ∀ j, j < 6 → ¬ x = nI j := fun j hj e => by rw [e, zlt_in hj (by decide)] at c; exact absurd c (by decide)
      rw [sc, if_neg (fun e => ne 0 (by decide) (e.trans (show (0 : Int32) = nI 0 by decide))), if_neg (fun e => ne 1 (by decide) (e.trans (show (1 : Int32) = nI 1 by decide))), if_neg (fun e => ne 2 (by decide) (e.trans (show (2 : Int32) = nI 2 by decide))), if_neg (fun e => ne 3 (by decide) (e.trans (show (3 : Int32) = nI 3 by decide))), if_neg (fun e => ne 4 (by decide) (e.trans (show (4 : Int32) = nI 4 by decide))), if_neg (fun e => ne 5 (by decide) (e.trans (show (5 : Int32) = nI 5 by decide)))]
    · rw [c, if_neg (by decide)] at sm
      have j6 : j = 0 ∨ j = 1 ∨ j = 2 ∨ j = 3 ∨ j = 4 ∨ j = 5 := by omega
      have t3 : (3 : Int32) = nI 3 := by decide
      rcases j6 with rfl | rfl | rfl | rfl | rfl | rfl
      · rw [if_pos nI_0] at sc
        rw [if_pos (by decide), show nI 0 = 0 from nI_0, M_mostOf0_ok hM gJ.1.2.2.2 h1P hP gJ.2.1.2.2.2 hWk, zbI_s] at sm
        rw [zbest_c (d := fun a b => decide (zrow (fun w => zup I 195 0 0 206 (6 * b + w)) 0 (Wk - 0) < zrow (fun w => zup I 195 0 0 206 (6 * a + w)) 0 (Wk - 0))) (P - 1) (fun a b h1 h2 => by rw [er a (by omega), er b (by omega)])] at sc
        exact zAg_ro h sc sm
      · rw [if_neg (by decide), if_pos (by decide)] at sc
        rw [if_pos (by decide), show nI 1 = 1 by decide, M_mostOf1_ok hM gJ.1.2.2.2 h1P hP, zbI_s] at sm
        rw [zbest_c (d := fun a b => decide (zup I 195 0 0 208 (11 + b) < zup I 195 0 0 208 (11 + a))) (P - 1) (fun a b h1 h2 => by rw [(pb a (by omega)).1, (pb b (by omega)).1])] at sc
        exact zAg_ro h sc sm
      · rw [if_neg (by decide), if_neg (by decide), if_pos (by decide)] at sc
        rw [if_pos (by decide), show nI 2 = 2 by decide, M_mostOf2_ok hM gJ.1.2.2.2 h1P hP gJ.2.1.2.2.2 hWk, zbI_s] at sm
        rw [zbest_c (d := fun a b => decide ((zrow (fun w => zup I 195 0 0 206 (6 * b + w)) 0 (Wk - 0)).toInt64 * (zup I 195 0 0 208 (11 + a)).toInt64 < (zrow (fun w => zup I 195 0 0 206 (6 * a + w)) 0 (Wk - 0)).toInt64 * (zup I 195 0 0 208 (11 + b)).toInt64)) (P - 1) (fun a b h1 h2 => by
          rw [er a (by omega), er b (by omega), (pb a (by omega)).1, (pb b (by omega)).1]
          exact decide_eq_decide.mpr (zmul_cmp (rb b (by omega)) (pb a (by omega)).2 (rb a (by omega)) (pb b (by omega)).2))] at sc
        exact zAg_ro h sc sm
      · rw [if_neg (by decide), if_neg (by decide), if_neg (by decide), if_pos (by decide)] at sc
        rw [if_neg (by decide), if_pos (by decide)] at sm
        by_cases cw : w < Wk
        · rw [if_pos cw, if_neg (by decide)] at sc
          rw [if_neg (show ¬ w = Wk by omega), if_pos rfl] at sm
          rw [zmany_c (pl' := zup I 195 0 0 203) (pr' := fun j => zup I 195 0 0 208 (11 + j)) (pt' := fun w j => zup I 195 0 0 206 (6 * j + w)) a3.2.2 (fun j hj => by
            obtain ⟨⟨v, -, v1, v2⟩, -⟩ := g.2.2.2.2.2.1 j hj
            rw [zTn I 0 _ (by decide), v1, v2]) (fun j hj => (pb j hj).1) (fun w j h1 h2 => by rw [zTn I 0 _ (by decide), (g.2.2.2.2.2.2.2.1 w j h1 h2).1]) P (Nat.le_refl _)] at sc
          exact zAg_ro h sc sm
        · rw [if_neg cw, if_pos rfl] at sc
          rw [if_pos (show w = Wk by have := a3.2.2; omega), if_neg (by decide)] at sm
          exact zAg_ro h sc sm
      · rw [if_neg (by decide), if_neg (by decide), if_neg (by decide), if_neg (by decide), if_pos (by decide)] at sc
        rw [if_neg (by decide), if_neg (by decide), if_pos (by decide)] at sm
        have ec : ∀ b, zcnt 65535 (fun i => decide (I (L + 4) i = nI b)) P = zcnt 65535 (fun i => decide (zup I 195 0 0 204 i = nI b)) P := fun b => zcnt_ext (fun i hi => by
          obtain ⟨-, ⟨v, -, v1, v2⟩⟩ := g.2.2.2.2.2.1 i hi
          rw [zTn I 0 _ (by decide), v1, v2])
        simp only [ec] at sc
        exact zAg_ro h sc sm
      · rw [if_neg (by decide), if_neg (by decide), if_neg (by decide), if_neg (by decide), if_neg (by decide), if_pos (by decide)] at sc
        rw [if_neg (by decide), if_neg (by decide), if_neg (by decide)] at sm
        have es : ∀ b, b < Wk → zsum (2 ^ P - 1) (I (L + 8 + b)) P = zsum (2 ^ P - 1) (fun i => zup I 195 0 0 206 (6 * i + b)) P := fun b hb => zsum_congr (fun i hi _ => by rw [zTn I 0 _ (by decide), (g.2.2.2.2.2.2.2.1 b i hb hi).1])
        rw [zbest_c (d := fun a b => decide (zsum (2 ^ P - 1) (fun i => zup I 195 0 0 206 (6 * i + b)) P < zsum (2 ^ P - 1) (fun i => zup I 195 0 0 206 (6 * i + a)) P)) (Wk - 1) (fun a b h1 h2 => by rw [es a (by omega), es b (by omega)])] at sc
        exact zAg_ro h sc sm
theorem p_weight (h : zInv q I R n) (x y : Int32) : zAg q I R n (C_weight 0 x y) (M_weight 195 x y) := by
  have W := h.1
  have hM := W.M
  have sc := e_C_weight 0 x y I R n
  have sm := e_M_weight 195 x y I R n
  have t18 : zup I 195 0 0 195 18 = I 195 18 := zT5 (by decide)
  rcases h.2.2 with k | ⟨L, L', P, Wk, z, m, t, k⟩
  · simp only [W.k, C_isPlayer_N W k, zc_t, zbI_s, if_true] at sc
    simp only [hM.k, M_isPlayer_no hM (show zup I 195 0 0 195 18 = 0 by rw [t18]; exact k.2.1.2), zc_t, zbI_s, if_true] at sm
    exact zAg_ro h sc sm
  · have hL := W.L k.1.1
    have g := k.2.2.1
    have kJ := zLea_t k 0
    have gJ := kJ.2.2.1
    have hP := g.1.2.1
    have hWk := g.2.1.2.1
    obtain ⟨be, mo, w, f, sw, O, u, l, a1, a2, a3, a4, a5, a6, a7, a8, a9, a10, a11, a12, a13, a14⟩ := k.2.2.2.2.2.1
    have im := M_isIn_ok (I := zup I 195 0 0) (R := R) (n := n) y.toInt64 0 1
    rw [zIs y (N := 2) (by decide) (by decide) (by decide)] at im
    simp only [W.k, C_isPlayer_L W k, zc_t, zbI_s] at sc
    simp only [hM.k, M_isPlayer_ok hM kJ.2.1.2 gJ.1.2.2.2 g.1.1 hP, im, zc_t, zbI_s] at sm
    rcases zlt_cases x (N := P) (by omega) with c | ⟨i, hi, rfl, c⟩
    · rw [c, if_pos rfl] at sc sm; exact zAg_ro h sc sm
    · rw [c, if_neg (by decide)] at sc sm
      have pf := Lg_pointsFrom_ok (I := I) hL (show i < 16 by omega) g.2.1.2.2.1 hWk (Nat.zero_le _)
      have pi := M_pointsIn_ok (I := zup I 195 0 0) hM (show i < 16 by omega) gJ.2.1.2.2.2 hWk (Nat.zero_le _)
      rw [nI_0] at pf pi
      have er : zrow (fun w => I (L + 8 + w) i) 0 (Wk - 0) = zrow (fun w => zup I 195 0 0 206 (6 * i + w)) 0 (Wk - 0) := by
        rw [zrow_J g hi 0 (Wk - 0) (by omega)]
        exact zrow_c _ (fun w _ => (zTn I 0 _ (by decide)).symm)
      have rb : zbd 594 (zrow (fun w => zup I 195 0 0 206 (6 * i + w)) 0 (Wk - 0)) := by
        rw [← er]
        exact zbd_mono (zrow_bd (Wk - 0) (by omega) (fun w hw => (g.2.2.2.2.2.2.2.1 w i (by omega) hi).2)) (by omega)
      rw [er] at pf
      generalize zrow (fun w => zup I 195 0 0 206 (6 * i + w)) 0 (Wk - 0) = ab at *
      obtain ⟨⟨v, v1, v2, v3⟩, -⟩ := g.2.2.2.2.2.2.1 w i a3.2.2 hi
      obtain ⟨a, b1, b2, b3⟩ := zabs_ok rb
      have gd := C_greatestDivisor_ok (I := I) (R := R) (n := n) (a := a) (b := v) (by omega) v2
      have gm := M_common13_ok (I := zup I 195 0 0) (R := R) (n := n) v a (by omega) (by omega)
      have cm : M_common ab (nI v) (zup I 195 0 0) R n = some (some (.int (nI (Nat.gcd v a))), zup I 195 0 0, R, n) := by
        rw [e_M_common]
        by_cases cc : ab < 0
        · rw [if_pos cc] at b3 ⊢; rw [b3]; exact gm
        · rw [if_neg cc] at b3 ⊢; rw [b3]; exact gm
      have gpos : 0 < Nat.gcd v a := Nat.gcd_pos_of_pos_left _ (by omega)
      have gle : Nat.gcd v a ≤ v := Nat.gcd_le_left _ (by omega)
      have g0 : ¬ nI (Nat.gcd v a) = 0 := nI_ne0 gpos (by omega)
      have pm := M_priceOf_ok (I := zup I 195 0 0) hM (show i < 16 by omega)
      rw [zT8, a14 i hi, v3] at pm
      have s20 := e_C_weight_20 0 (nI i) y I R n
      simp only [W.k, W.1, k.1.2.2.2.1, hL.k, hL.r, zc_t, zr_s, pf, zbI_s, a3.1, zin_of hL.ln.2.2.2.2.2.2.2 (show w < 7 by omega) (by decide), zix_nI (show w < 2 ^ 31 by omega), hL.2.2.2.2 w (by omega), (hL.pw (show w < 7 by omega)).1, zin_of (hL.pw (show w < 7 by omega)).2 (show i < 16 by omega) (by decide), zix_nI (show i < 2 ^ 31 by omega), Bool.true_or, Bool.true_and, v3, b2, gd, if_neg g0, decide_eq_false g0, Bool.not_false] at s20
      simp only [pi, pm, cm, hM.k, zc_t, zbI_s, decide_eq_false g0, Bool.not_false] at sm
      rcases zlt_cases y (N := 2) (by decide) with d | ⟨j, hj, rfl, d⟩
      · rw [d, if_pos rfl] at sm
        refine zAg_ro h ?_ sm
        rw [sc, if_neg (fun q => by rw [q] at d; exact absurd d (by decide)), if_neg (fun q => by rw [q] at d; exact absurd d (by decide))]
      · rw [d, if_neg (by decide)] at sm
        have j2 : j = 0 ∨ j = 1 := by omega
        rcases j2 with rfl | rfl
        · rw [if_pos nI_0] at sc sm s20
          exact zAg_ro h (sc.trans s20) sm
        · rw [if_neg (show ¬ nI 1 = 0 by decide)] at sc sm s20
          rw [if_pos (by decide)] at sc
          exact zAg_ro h (sc.trans s20) sm
/-- player: both throw, or both answer alike -/
theorem p_player (h : zInv q I R n) (x y : Int32) : (∃ v, C_player 0 x y I R n = some (some (.int v), I, R, n) ∧ M_player 195 x y I R n = some (some (.int v), zup I 195 0 0, R, n)) ∨ ((∃ v1, C_isPlayer 0 x I R n = some (some (.int v1), I, R, n) ∧ (v1 = 0 ∨ y < 0 ∨ 5 < y)) ∧ M_player 195 x y I R n = some (some (.int 0), zup I 195 0 1, R, n)) := by
  have W := h.1
  have hM := W.M
  have sc := e_C_player 0 x y I R n
  have sm := e_M_player 195 x y I R n
  have thr : M_player_26 195 x y 195 1 I R n = some (some (.int 0), zup I 195 0 1, R, n) := by
    rw [e_M_player_26]
    simp only [hM.k, zc_t, zup_s]
    rw [if_pos (by decide)]
  rcases h.2.2 with k | ⟨L, L', P, Wk, z, m, t, k⟩
  · simp only [hM.k, M_isPlayer_no hM k.2.1.2, zc_t, zbI_s, if_true] at sm
    exact Or.inr ⟨⟨0, C_isPlayer_N W k x, Or.inl rfl⟩, sm.trans thr⟩
  · have hL := W.L k.1.1
    have g := k.2.2.1
    have kJ := zLea_t k 0
    have gJ := kJ.2.2.1
    have hP := g.1.2.1
    have hWk := g.2.1.2.1
    obtain ⟨be, mo, w, f, sw, O, u, l, a1, a2, a3, a4, a5, a6, a7, a8, a9, a10, a11, a12, a13, a14⟩ := k.2.2.2.2.2.1
    have hO2 := z65 a7.2.2.1 hP
    have im := M_isIn_ok (I := I) (R := R) (n := n) y.toInt64 0 5
    rw [zIs y (N := 6) (by decide) (by decide) (by decide)] at im
    simp only [hM.k, M_isPlayer_ok hM k.2.1.2 g.1.2.2.2 g.1.1 hP, im, zc_t, zbI_s] at sm
    have cp := C_isPlayer_L W k x
    rcases zlt_cases x (N := P) (by omega) with c | ⟨i, hi, rfl, c⟩
    · rw [c, if_pos rfl] at sm
      rw [c] at cp
      exact Or.inr ⟨⟨0, cp, Or.inl rfl⟩, sm.trans thr⟩
    · rw [c, if_neg (by decide)] at sm
      rcases zlt_cases y (N := 6) (by decide) with d | ⟨j, hj, rfl, d⟩
      · rw [d, if_pos rfl] at sm
        refine Or.inr ⟨⟨_, cp, Or.inr ?_⟩, sm.trans thr⟩
        rcases zlt_no d with e | ⟨e1, e2⟩
        · exact Or.inl e
        · obtain ⟨b, hb, rfl⟩ := nI_of e1
          rw [nI_ltI hb (by decide)] at e2
          have t5 : (5 : Int32) = nI 5 := by decide
          exact Or.inr (by rw [t5]; exact nI_lt (by omega) hb)
      · rw [d, if_neg (by decide)] at sm
        rw [c] at cp
        refine Or.inl ?_
        have t5 : (5 : Int32) = nI 5 := by decide
        simp only [W.k, W.1, W.r10, W.k10, cp, zc_t, zr_s, zbI_s, if_neg (show ¬ (1 : Int32) = 0 by decide), if_neg (nI_pos (show j < 2 ^ 31 by omega)), t5, if_neg (nI_nlt (show j ≤ 5 by omega) (show 5 < 2 ^ 31 by decide)), k.1.2.2.2.1, hL.k, hL.r, a3.1, zin_of hL.ln.2.2.2.2.2.2.2 (show w < 7 by omega) (by decide), zix_nI (show w < 2 ^ 31 by omega), hL.2.2.2.2 w (by omega), (hL.pw (show w < 7 by omega)).1, zin_of (hL.pw (show w < 7 by omega)).2 (show i < 16 by omega) (by decide), zix_nI (show i < 2 ^ 31 by omega), zin_of hL.ln.2.2.1 (show i < 16 by omega) (by decide), zin_of hL.ln.2.2.2.1 (show i < 16 by omega) (by decide), Bool.true_or, Bool.true_and, Se_owns_ok W.S a7.1 (show O < 2 ^ 31 by omega) (show i < 16 by omega), zin_of W.S.ln.1 (show i < 16 by omega) (by decide), Se_brings_ok W.S (show i < 16 by omega)] at sc
        have s26 := e_M_player_26 195 (nI i) (nI j) 195 0 I R n
        have i3 := zin203 (show i < 16 by omega)
        have i4 := zin204 (show i < 16 by omega)
        have pm := M_priceOf_ok (I := zup I 195 0 0) hM (show i < 16 by omega)
        have e27 : (27 : Int32) + nI i = nI (27 + i) := nI_add 27 i
        have br := M_brings2_ok (I := zup I 195 0 0) hM (show i < 16 by omega)
        have pi := M_pointsIn_ok (I := zup I 195 0 0) hM (show i < 16 by omega) gJ.2.1.2.2.2 hWk (Nat.zero_le _)
        have pf := Lg_pointsFrom_ok (I := I) hL (show i < 16 by omega) g.2.1.2.2.1 hWk (Nat.zero_le _)
        rw [nI_0] at pi pf
        have er : zrow (fun w => I (L + 8 + w) i) 0 (Wk - 0) = zrow (fun w => zup I 195 0 0 206 (6 * i + w)) 0 (Wk - 0) := by
          rw [zrow_J g hi 0 (Wk - 0) (by omega)]
          exact zrow_c _ (fun w _ => (zTn I 0 _ (by decide)).symm)
        have ow : M_isOwned 195 (nI i) (zup I 195 0 0) R n = some (some (.int (if O.testBit i = true then 1 else 0)), zup I 195 0 0, R, n) := by
          cases be with
          | true => exact M_isOwned_ok hM (by rw [zT8, a1.2]; rfl) (by rw [zT8]; exact a7.2.1) (by omega) (by omega)
          | false =>
            have o0 := (a7.2.2.2.2 rfl).1
            subst o0
            rw [Nat.zero_testBit, if_neg (by decide)]
            exact M_isOwned_no hM (by rw [zT8, a1.2]; rfl)
        simp only [hM.k, hM.2, zc_t, zr_s, zup_s, if_neg (show ¬ (0 : Int32) < 0 by decide), i3, i4, Bool.true_or, Bool.true_and, zix_nI (show i < 2 ^ 31 by omega), pm, zbI_s, ow, e27, zin79b (show 27 + i < 79 by omega), zix_nI (show 27 + i < 2 ^ 31 by omega), br, pi, zT8, zTn I 0 i (show (203 : Nat) ≠ 195 by decide), zTn I 0 i (show (204 : Nat) ≠ 195 by decide)] at s26
        simp only [pf, zbI_s, er] at sc
        have sm2 := sm.trans s26
        obtain ⟨⟨p, -, p1, p2⟩, ⟨cl, -, c1, c2⟩⟩ := g.2.2.2.2.2.1 i hi
        have hown : O.testBit i = true → I 11 i = I 208 (27 + i) := fun o => by
          obtain ⟨v, -, -, v1, v2⟩ := a12 i hi o
          rw [v1, v2]
        have j6 : j = 0 ∨ j = 1 ∨ j = 2 ∨ j = 3 ∨ j = 4 ∨ j = 5 := by omega
        rcases j6 with rfl | rfl | rfl | rfl | rfl | rfl
        · rw [if_pos nI_0] at sc sm2
          exact ⟨_, sc, by rw [p1, ← p2]; exact sm2⟩
        · rw [if_neg (by decide), if_pos (by decide)] at sc sm2
          exact ⟨_, sc, by rw [c1, ← c2]; exact sm2⟩
        · rw [if_neg (by decide), if_neg (by decide), if_pos (by decide)] at sc sm2
          exact ⟨_, sc, by rw [← a14 i hi]; exact sm2⟩
        · rw [if_neg (by decide), if_neg (by decide), if_neg (by decide), if_pos (by decide)] at sc sm2
          cases o : O.testBit i with
          | false =>
            rw [o, if_pos (by decide)] at sc sm2
            exact ⟨_, sc, sm2⟩
          | true =>
            rw [o, if_neg (by decide)] at sc sm2
            exact ⟨_, sc, by rw [hown o]; exact sm2⟩
        · rw [if_neg (by decide), if_neg (by decide), if_neg (by decide), if_neg (by decide), if_pos (by decide)] at sc sm2
          cases o : O.testBit i with
          | false =>
            rw [o, if_pos (by decide)] at sc sm2
            exact ⟨_, sc, sm2⟩
          | true =>
            rw [o, if_neg (by decide)] at sc sm2
            refine ⟨_, sc, ?_⟩
            show M_player 195 (nI i) (nI 4) I R n = some (some (.int (zbrings (I (L + 15 + w) i) (I 11 i))), zup I 195 0 0, R, n)
            rw [hown o, ← a14 i hi]; exact sm2
        · rw [if_neg (by decide), if_neg (by decide), if_neg (by decide), if_neg (by decide), if_neg (by decide)] at sc sm2
          exact ⟨_, sc, sm2⟩
end LRf
