/-! ===== steady, regret, rival, ahead ===== -/
theorem zmnW_c {f g : Nat → Int32} {w0 : Nat} : ∀ k, (∀ w, w0 ≤ w → w ≤ w0 + k → f w = g w) → zmnW f w0 k = zmnW g w0 k
  | 0, h => h w0 (by omega) (by omega)
  | k + 1, h => by
    show zmin (zmnW f w0 k) (f (w0 + (k + 1))) = zmin (zmnW g w0 k) (g (w0 + (k + 1)))
    rw [zmnW_c k (fun w h1 h2 => h w h1 (by omega)), h (w0 + (k + 1)) (by omega) (by omega)]
theorem zmnW_bd {f : Nat → Int32} {w0 K : Nat} : ∀ k, (∀ w, w0 ≤ w → w ≤ w0 + k → zbd K (f w)) → zbd K (zmnW f w0 k)
  | 0, h => h w0 (by omega) (by omega)
  | k + 1, h => by
    show zbd K (zmin (zmnW f w0 k) (f (w0 + (k + 1))))
    unfold zmin
    split
    · exact h (w0 + (k + 1)) (by omega) (by omega)
    · exact zmnW_bd k (fun w h1 h2 => h w h1 (by omega))
section LTd
variable {q : Nat} {I : ZI} {R : ZR} {n L L' P Wk z m : Nat} {t : Nat → Nat}
theorem p_steady (h : zInv q I R n) (x y : Int32) : zAg q I R n (C_steady 0 x y) (M_steady 195 x y) := by
  have W := h.1
  have hM := W.M
  have sc := e_C_steady 0 x y I R n
  have t18 : zup I 195 0 0 195 18 = I 195 18 := zT5 (by decide)
  rcases h.2.2 with k | ⟨L, L', P, Wk, z, m, t, k⟩
  · have sm := e_M_steady 195 x y I R n
    simp only [W.k, C_weeks_N W k, zc_t, zbI_s, if_true] at sc
    simp only [hM.k, t18, k.2.1, zc_t, if_true] at sm
    exact zAg_ro h sc sm
  · have g := k.2.2.1
    have hL := W.L k.1.1
    have hP := g.1.2.1
    have hWk := g.2.1.2.1
    have i1 := isL_i k.1.1
    obtain ⟨be, mo, w, f, sw, O, u, l, a1, a2, a3, a4, a5, a6, a7, a8, a9, a10, a11, a12, a13, a14⟩ := k.2.2.2.2.2.1
    simp only [W.k, C_weeks_L W k, zc_t, zbI_s, a3.1, zlt_nI (show w < 2 ^ 31 by omega) (show Wk < 2 ^ 31 by omega)] at sc
    by_cases cw : w < Wk
    · rw [if_pos cw, if_neg (by decide)] at sc
      by_cases cy : zlt y 2 = 0
      · have kJ := zLea_t k 0
        have gJ := kJ.2.2.1
        have im := M_isIn_ok (I := zup I 195 0 0) (R := R) (n := n) y.toInt64 0 1
        rw [zIs y (N := 2) (by decide) (by decide) (by decide), cy] at im
        have sm := e_M_steady 195 x y I R n
        simp only [hM.k, t18, k.2.1, zc_t, if_neg (show ¬ (1 : Int32) = 0 by decide), M_isOver_ok hM, zT8, a3.2.1, gJ.2.1.2.2.2, nI_eq (show w < 2 ^ 31 by omega) (show Wk < 2 ^ 31 by omega), if_neg (show ¬ w = Wk by omega), zbI_s, if_true, im, ite_self] at sm
        refine zAg_ro h ?_ sm
        rw [sc, if_neg (fun e => by rw [e] at cy; exact absurd cy (by decide)), if_neg (fun e => by rw [e] at cy; exact absurd cy (by decide))]
      · obtain ⟨j, hj, rfl⟩ := zlt_ne cy (by decide)
        have sc2 : C_steady 0 x (nI j) I R n = C_steady_19 0 x (nI j) I R n := by
          rw [sc]
          have j2 : j = 0 ∨ j = 1 := by omega
          rcases j2 with rfl | rfl
          · rw [if_pos nI_0]
          · rw [if_neg (by decide), if_pos (by decide)]
        obtain ⟨I1, e1, e2, e3, k1, h1⟩ := C_prices h k a3.2.2
        have g1 := k1.2.2.1
        have b4 : I1 10 4 = nI w := by rw [e3 _ _ (by decide) (by decide)]; exact a3.1
        have low : ∀ w k, w < Wk → k < P → (-100000000 : Int32) < I1 (L + 8 + w) k := fun w i h1 h2 => (zlow_bd (g1.2.2.2.2.2.2.2.1 w i h1 h2).2 (by decide)).2
        obtain ⟨J, s1, s2, s3⟩ := Tb_steadiest_ok (I := I1) (R := R) (n := n) k1.1.2.2.2.2.2.1 hL x k1.2.2.2.1.1 hP g1.1.2.2.1 g1.2.1.2.2.1 hWk cw low (fun i w hi _ => zcap_ne _ (k1.2.2.2.1.1.2.2 i hi).2.2 (k1.2.2.2.1.2.2.1 i hi).1) (fun i hi => (zlow_bd (zmnW_bd (K := 693) (Wk - w - 1) (fun w' h1 h2 => ((zteam_f g1 (k1.2.2.2.1.2.2.1 i hi).1 (k1.2.2.2.1.2.2.1 i hi).2).2.2 w' (by omega)).1)) (by decide)).2)
        have hJ : zInv q J R n := zInv_f h1 (Nat.le_refl _) (fun b j hb => s3 b j (by unfold zir0 at hb; omega))
        have kJ0 : zLea q J R n L L' P Wk z m t := zLea_f k1 (Nat.le_refl _) (fun b j hb => s3 b j (by unfold zirr at hb; omega))
        have kJ := zLea_t kJ0 0
        have gJ := kJ.2.2.1
        have wt := kJ0.1.2.2.2.2.2.1
        have s19 := e_C_steady_19 0 x (nI j) I R n
        simp only [W.k, W.1, zc_t, zr_s, a3.1, e1, zbV_s, b4, s1, zbI_s] at s19
        have sm := e_M_steady 195 x (nI j) J R n
        have im := M_isIn_ok (I := zup J 195 0 0) (R := R) (n := n) (nI j).toInt64 0 1
        rw [zIs (nI j) (N := 2) (by decide) (by decide) (by decide), zlt_in hj (by decide)] at im
        have j9 : zup J 195 0 0 208 9 = nI w := by rw [zT8, s3 _ _ (by decide), e3 _ _ (by decide) (by decide)]; exact a3.2.1
        simp only [hM.k, kJ.2.1, zc_t, if_neg (show ¬ (1 : Int32) = 0 by decide), M_isOver_ok hM, j9, gJ.2.1.2.2.2, nI_eq (show w < 2 ^ 31 by omega) (show Wk < 2 ^ 31 by omega), if_neg (show ¬ w = Wk by omega), zbI_s, if_true, im] at sm
        have m41 := M_steady41_ok (I := zup J 195 0 0) (R := R) (n := n) hM x (nI j) kJ.2.2.2.1.2.1 hP gJ.1.2.2.2 gJ.2.1.2.2.2 hWk j9 cw (fun i w hi _ => zcap_ne _ (kJ.2.2.2.1.1.2.2 i hi).2.2 (kJ.2.2.2.1.2.2.1 i hi).1)
        have eJ : ∀ b, L ≤ b → b < L + 22 → J b = I1 b := fun b h1 h2 => funext fun i => s3 _ _ (by omega)
        have ew : ∀ i, zmnW (fun w => mSc (zup J 195 0 0) P w (t i)) w (Wk - w - 1) = zmnW (fun w => zwith (t i) (I1 (L + 8 + w)) P) w (Wk - w - 1) := fun i => zmnW_c _ (fun w' h1 h2 => by rw [zSc_eq kJ0 (show w' < Wk by omega), eJ _ (by omega) (by omega)])
        have ep : ∀ i, i < m → mPr (zup J 195 0 0) P (t i) = I1 219 i := fun i hi => by
          rw [zPr_eq kJ0 (show J 10 4 = nI w by rw [s3 _ _ (by decide)]; exact b4) (by omega), e2 i hi, eJ _ (by omega) (by omega)]
        simp only [ew] at m41
        rw [zcapc_c (c := fun k => !(decide (x < mPr (zup J 195 0 0) P (t k)))) (d := fun k => !(decide (x < I1 219 k))) (fun i hi => by rw [ep i hi]) (fun i _ => rfl)] at m41
        by_cases cx : x < 0
        · rw [if_pos cx] at sm
          rw [zcapc_0 (fun i hi => by rw [e2 i hi]; exact zneg_no k1 a3.2.2 cx i hi), zo_none, if_pos rfl] at s19
          exact zAg_w (I2 := zup J 195 0 0) (sc2.trans s19) sm hJ zt_ir0
        · rw [if_neg cx] at sm
          have sm2 := sm.trans m41
          cases hz : zcapc (fun k => !(decide (x < I1 219 k))) (fun k => zmnW (fun w => zwith (t k) (I1 (L + 8 + w)) P) w (Wk - w - 1)) m with
          | none =>
            rw [hz] at sm2
            rw [hz, zo_none, if_pos rfl] at s19
            exact zAg_w (I2 := zup J 195 0 0) (sc2.trans s19) sm2 hJ zt_ir0
          | some b =>
            have hb := (zcapc_lt hz).1
            have mm := k1.2.2.2.1.1.2.1
            have tb := kJ0.2.2.2.1.1.2.2 b hb
            rw [hz] at sm2 s2
            rw [hz, zo_some, if_neg (nI_nm1 (by omega))] at s19
            simp only [W.k, W.1, wt.k, wt.r, zc_t, zr_s, zin218 (show b < 3136 by omega), zix_nI (show b < 2 ^ 31 by omega), Bool.true_or, Bool.true_and, tb.1, s2] at s19
            have j2 : j = 0 ∨ j = 1 := by omega
            rcases j2 with rfl | rfl
            · rw [if_pos nI_0] at s19
              dsimp only at sm2
              rw [if_neg (by decide)] at sm2
              exact zAg_w (I2 := zup J 195 0 0) (sc2.trans s19) sm2 hJ zt_ir0
            · rw [if_neg (by decide)] at s19
              dsimp only at sm2
              rw [if_pos (by decide)] at sm2
              exact zAg_w (I2 := zup J 195 0 0) (sc2.trans s19) sm2 hJ zt_ir0
    · rw [if_neg cw, if_pos rfl] at sc
      have gJ := (zLea_t k 0).2.2.1
      have sm := e_M_steady 195 x y I R n
      simp only [hM.k, t18, k.2.1, zc_t, if_neg (show ¬ (1 : Int32) = 0 by decide), M_isOver_ok hM, zT8, a3.2.1, gJ.2.1.2.2.2, nI_eq (show w < 2 ^ 31 by omega) (show Wk < 2 ^ 31 by omega), if_pos (show w = Wk by have := a3.2.2; omega), zbI_s] at sm
      exact zAg_ro h sc sm
theorem M_fore_prev {J : ZI} (hM : WM R n) {i w : Nat} (hi : i < 16) (hw : w < 6) : M_foretold 195 (nI i) (nI w - 1) J R n = some (some (.int (mFore J i w)), J, R, n) := by
  rcases Nat.eq_zero_or_pos w with c | c
  · subst c
    exact M_foretold_m1 hM hi
  · obtain ⟨v, rfl⟩ : ∃ v, w = v + 1 := ⟨w - 1, by omega⟩
    rw [nI_pred]
    exact M_foretold_ok hM hi (by omega)
theorem e43 {w j : Nat} : (43 : Int32) + 6 * nI w + nI j = nI (43 + (6 * w + j)) := by
  have t43 : (43 : Int32) = nI 43 := by decide
  have t6 : (6 : Int32) = nI 6 := by decide
  rw [t43, t6, pk_mul, nI_add, nI_add, Nat.add_assoc]
theorem M_regret53_ok {J : ZI} (hM : WM R n) {k w : Nat} (ht : zTmM J m t) (hP : P ≤ 16) (hp : J 195 17 = nI P) (hw : w < 6) (hk : k < m) (hne : zcap (t k) (fun i => J 206 (6 * i + w)) P ≠ none) (x : Int32) : M_regret_53 195 (nI w) x (nI k) 0 0 J R n = if J 208 (43 + (6 * w + 5)) < zsum (t k) (fun i => mFore J i w) P then M_regret_39 195 (nI w) x (nI (k + 1)) J R n else M_regret_39 195 (nI w) (zmax x (mSc J P w (t k))) (nI (k + 1)) J R n := by
  have hm := ht.2.1
  have tk := ht.2.2 k hk
  have key : ∀ j, j ≤ P → M_regret_53 195 (nI w) x (nI k) 0 (nI 0) J R n = M_regret_53 195 (nI w) x (nI k) (zsum (t k) (fun i => mFore J i w) j) (nI j) J R n := by
    intro j
    induction j with
    | zero => intro _; rfl
    | succ j ih =>
      intro hj
      have st := e_M_regret_53 195 (nI w) x (nI k) (zsum (t k) (fun i => mFore J i w) j) (nI j) J R n
      simp only [hM.k, hM.2, zc_t, zr_s, hp, if_pos (nI_lt (show j < P by omega) (show P < 2 ^ 31 by omega)), zin207 (show k < 3136 by omega), zix_nI (show k < 2 ^ 31 by omega), Bool.true_or, Bool.true_and, tk.1, M_has_ok (show t k < 2 ^ 31 by omega) (show j < 32 by omega), zbI_s, M_fore_prev hM (show j < 16 by omega) hw, nI_1, Int32.add_zero] at st
      rw [ih (by omega), st, zsum_succ]
      cases hb : (t k).testBit j with
      | false => rw [if_pos (show (if false = true then (1 : Int32) else 0) = 0 from rfl), if_neg (show ¬ (false = true) by decide), Int32.add_zero]
      | true => rw [if_neg (show ¬ (if true = true then (1 : Int32) else 0) = 0 by decide), if_pos (show true = true from rfl)]
  have e := key P (Nat.le_refl _)
  rw [nI_0] at e
  have t5 : (5 : Int32) = nI 5 := by decide
  have st := e_M_regret_53 195 (nI w) x (nI k) (zsum (t k) (fun i => mFore J i w) P) (nI P) J R n
  rw [hp, if_neg (nI_nlt (Nat.le_refl _) (by omega)), t5, e43] at st
  simp only [hM.k, hM.2, zc_t, zr_s, zin79b (show 43 + (6 * w + 5) < 79 by omega), zix_nI (show 43 + (6 * w + 5) < 2 ^ 31 by omega), zin207 (show k < 3136 by omega), zix_nI (show k < 2 ^ 31 by omega), Bool.true_or, Bool.true_and, tk.1, M_withBest_ok hM (show t k < 2 ^ 31 by omega) hP hp hw hne, zbI_s, nI_1] at st
  exact e.trans st
def zWh (W : Nat → Int32) (o : Option Nat) : Int32 := match o with
  | none => -1000000
  | some b => W b
theorem M_regret39_ok {J : ZI} (hM : WM R n) {w : Nat} (ht : zTmM J m t) (hP : P ≤ 16) (hp : J 195 17 = nI P) (hw : w < 6) (hne : ∀ k, k < m → zcap (t k) (fun i => J 206 (6 * i + w)) P ≠ none) (hlow : ∀ k, k < m → (-1000000 : Int32) < mSc J P w (t k)) : M_regret_39 195 (nI w) (-1000000) 0 J R n = some (some (.int (match zcapc (fun k => !(decide (J 208 (43 + (6 * w + 5)) < zsum (t k) (fun i => mFore J i w) P))) (fun k => mSc J P w (t k)) m with
    | none => 0
    | some b => mSc J P w (t b) - J 208 (43 + (6 * w + 0)))), J, R, n) := by
  have hm := ht.2.1
  have key : ∀ k, k ≤ m → M_regret_39 195 (nI w) (-1000000) (nI 0) J R n = M_regret_39 195 (nI w) (zWh (fun k => mSc J P w (t k)) (zcapc (fun k => !(decide (J 208 (43 + (6 * w + 5)) < zsum (t k) (fun i => mFore J i w) P))) (fun k => mSc J P w (t k)) k)) (nI k) J R n := by
    intro k
    induction k with
    | zero => intro _; rfl
    | succ k ih =>
      intro hk
      have st := e_M_regret_39 195 (nI w) (zWh (fun k => mSc J P w (t k)) (zcapc (fun k => !(decide (J 208 (43 + (6 * w + 5)) < zsum (t k) (fun i => mFore J i w) P))) (fun k => mSc J P w (t k)) k)) (nI k) J R n
      rw [ht.1, if_pos (nI_lt (show k < m by omega) (by omega)), M_regret53_ok hM ht hP hp hw (show k < m by omega) (hne k (by omega))] at st
      simp only [hM.k, zc_t] at st
      rw [ih (by omega), st, zcapc_succ]
      by_cases c : J 208 (43 + (6 * w + 5)) < zsum (t k) (fun i => mFore J i w) P
      · rw [if_pos c, decide_eq_true c, if_neg (by decide)]
      · rw [if_neg c, decide_eq_false c, if_pos (by decide)]
        cases hz : zcapc (fun k => !(decide (J 208 (43 + (6 * w + 5)) < zsum (t k) (fun i => mFore J i w) P))) (fun k => mSc J P w (t k)) k with
        | none =>
          have : zmax (zWh (fun k => mSc J P w (t k)) none) (mSc J P w (t k)) = mSc J P w (t k) := by
            unfold zmax zWh
            rw [if_pos (hlow k (by omega))]
          rw [this]; rfl
        | some b =>
          have : zmax (zWh (fun k => mSc J P w (t k)) (some b)) (mSc J P w (t k)) = if mSc J P w (t b) < mSc J P w (t k) then mSc J P w (t k) else mSc J P w (t b) := rfl
          rw [this]
          dsimp only
          by_cases d : mSc J P w (t b) < mSc J P w (t k)
          · rw [if_pos d, if_pos d]; rfl
          · rw [if_neg d, if_neg d]; rfl
  have e := key m (Nat.le_refl _)
  rw [nI_0] at e
  have t0 : (43 : Int32) + 6 * nI w = nI (43 + (6 * w + 0)) := by
    have := e43 (w := w) (j := 0)
    rw [nI_0, Int32.add_zero] at this
    exact this
  have st := e_M_regret_39 195 (nI w) (zWh (fun k => mSc J P w (t k)) (zcapc (fun k => !(decide (J 208 (43 + (6 * w + 5)) < zsum (t k) (fun i => mFore J i w) P))) (fun k => mSc J P w (t k)) m)) (nI m) J R n
  rw [ht.1, if_neg (nI_nlt (Nat.le_refl _) (by omega)), t0] at st
  simp only [hM.k, hM.2, zc_t, zr_s, zin79b (show 43 + (6 * w + 0) < 79 by omega), zix_nI (show 43 + (6 * w + 0) < 2 ^ 31 by omega), Bool.true_or, Bool.true_and] at st
  rw [e, st]
  cases hz : zcapc (fun k => !(decide (J 208 (43 + (6 * w + 5)) < zsum (t k) (fun i => mFore J i w) P))) (fun k => mSc J P w (t k)) m with
  | none => rw [if_pos (show zWh (fun k => mSc J P w (t k)) none = -1000000 from rfl)]
  | some b =>
    have hb := (zcapc_lt hz).1
    have lo := hlow b hb
    rw [if_neg (fun q => by
      have q' : mSc J P w (t b) = -1000000 := q
      rw [q'] at lo; exact absurd lo (by decide))]
    rfl
theorem p_regret (h : zInv q I R n) (x : Int32) : zAg q I R n (C_regret 0 x) (M_regret 195 x) := by
  have W := h.1
  have hM := W.M
  have sc := e_C_regret 0 x I R n
  have t18 : zup I 195 0 0 195 18 = I 195 18 := zT5 (by decide)
  rcases h.2.2 with k | ⟨L, L', P, Wk, z, m, t, k⟩
  · have sm := e_M_regret 195 x I R n
    simp only [W.k, C_wasPlayed_N W k, zc_t, zbI_s, if_true] at sc
    simp only [hM.k, t18, k.2.1, zc_t, if_true] at sm
    exact zAg_ro h sc sm
  · have g := k.2.2.1
    have hP := g.1.2.1
    have hWk := g.2.1.2.1
    have i1 := isL_i k.1.1
    obtain ⟨be, mo, w, f, sw, O, u, l, a1, a2, a3, a4, a5, a6, a7, a8, a9, a10, a11, a12, a13, a14⟩ := k.2.2.2.2.2.1
    have im := fun J : ZI => M_isIn_ok (I := J) (R := R) (n := n) x.toInt64 0 (nI w - 1).toInt64
    rw [zIs0 x (show w < 2 ^ 31 by omega)] at im
    simp only [W.k, C_wasPlayed_L W k a3.1 a3.2.2, zc_t, zbI_s] at sc
    rcases zlt_cases x (N := w) (by omega) with c | ⟨a, ha, rfl, c⟩
    · have sm := e_M_regret 195 x I R n
      simp only [hM.k, hM.2, t18, k.2.1, zc_t, zr_s, zin208, zixs, Bool.true_or, Bool.true_and, zT8, a3.2.1, if_neg (show ¬ (1 : Int32) = 0 by decide), im, zbI_s, c, if_true] at sm
      rw [c, if_pos rfl] at sc
      exact zAg_ro h sc sm
    · have haW : a < Wk := by have := a3.2.2; omega
      obtain ⟨I1, e1, e2, e3, k1, h1⟩ := C_prices h k (show a ≤ Wk by omega)
      obtain ⟨I2, f1, f2, f3, k2, h2⟩ := C_scores h1 k1 haW
      have g2 := k2.2.2.1
      have wt := k2.1.2.2.2.2.2.1
      have g219 : ∀ j, j < m → I2 219 j = zsum (t j) (I2 (L + 15 + a)) P := fun j hj => by
        rw [f3 219 j (by decide) (by omega), e2 j hj, show I2 (L + 15 + a) = I1 (L + 15 + a) from funext fun i => f3 _ _ (by omega) (by omega)]
      have kJ := zLea_t k2 0
      have gJ := kJ.2.2.1
      have ln6 : z_ln (13 + a) = 6 := (W.kr10 (show a < 6 by omega)).2
      have zr : zin (13 + a) 0 = true ∧ zin (13 + a) 5 = true := ⟨zin_of ln6 (show 0 < 6 by decide) (by decide), zin_of ln6 (show 5 < 6 by decide) (by decide)⟩
      rw [c, if_neg (by decide)] at sc
      simp only [W.k, W.1, W.r10, W.k10, W.rr10 (show a < 6 by omega), (W.kr10 (show a < 6 by omega)).1, zin_of W.S.ln.2 (show a < 6 by omega) (by decide), zix_nI (show a < 2 ^ 31 by omega), zr, zixs, Bool.true_or, Bool.true_and, zc_t, zr_s, e1, f1, zbV_s, Tb_bestUnder_ok wt _ k2.2.2.2.1.1.1 k2.2.2.2.1.1.2.1, zbI_s] at sc
      have ta : ∀ j, j < 6 → I2 (13 + a) j = I2 208 (43 + (6 * a + j)) := fun j hj => by
        rw [f3 (13 + a) j (by omega) (by omega), f3 208 _ (by decide) (by omega), e3 (13 + a) j (by omega) (by omega), e3 208 _ (by decide) (by omega)]
        exact a13 a j ha hj
      have sm := e_M_regret 195 (nI a) I2 R n
      have i9 : I2 208 9 = nI w := by rw [f3 _ _ (by decide) (by decide), e3 _ _ (by decide) (by decide)]; exact a3.2.1
      simp only [hM.k, hM.2, kJ.2.1, zc_t, zr_s, zin208, zixs, Bool.true_or, Bool.true_and, zT8, i9, if_neg (show ¬ (1 : Int32) = 0 by decide), im, zbI_s, c] at sm
      have tmf : ∀ i, i < m → zbd 693 (zwith (t i) (I2 (L + 8 + a)) P) := fun i hi => ((zteam_f g2 (k2.2.2.2.1.2.2.1 i hi).1 (k2.2.2.2.1.2.2.1 i hi).2).2.2 a haW).1
      have m39 := M_regret39_ok (J := zup I2 195 0 0) (R := R) (n := n) (w := a) hM kJ.2.2.2.1.2.1 hP gJ.1.2.2.2 (by omega) (fun i hi => zcap_ne _ (kJ.2.2.2.1.1.2.2 i hi).2.2 (kJ.2.2.2.1.2.2.1 i hi).1) (fun i hi => by rw [zSc_eq k2 haW]; exact (zlow_bd (tmf i hi) (by decide)).1)
      have ep : ∀ i, i < m → zsum (t i) (fun j => mFore (zup I2 195 0 0) j a) P = I2 219 i := fun i hi => by
        rw [g219 i hi]
        exact zsum_congr (fun j hj _ => by
          have := (gJ.2.2.2.2.2.2.1 a j (by omega) hj).2
          rw [zTn I2 0 j (by omega)] at this
          exact this.symm)
      rw [zcapc_c (d := fun k => !(decide (I2 (13 + a) 5 < I2 219 k))) (g := I2 220) (fun i hi => by rw [ep i hi, zT8, ta 5 (by decide)]) (fun i hi => by rw [zSc_eq k2 haW, f2 i hi])] at m39
      have sm2 := sm.trans m39
      cases hz : zcapc (fun k => !(decide (I2 (13 + a) 5 < I2 219 k))) (I2 220) m with
      | none =>
        rw [hz] at sm2
        rw [hz, zo_none, if_pos rfl] at sc
        exact zAg_w (I2 := zup I2 195 0 0) sc sm2 h2 zt_ir0
      | some b =>
        have hb := (zcapc_lt hz).1
        have mm := k2.2.2.2.1.1.2.1
        rw [hz] at sm2
        dsimp only at sm2
        rw [zSc_eq k2 haW, zT8, ← ta 0 (by decide), ← f2 b hb] at sm2
        rw [hz, zo_some, if_neg (nI_nm1 (by omega))] at sc
        simp only [W.k, W.1, wt.k, wt.r, zc_t, zr_s, zin218 (show b < 3136 by omega), zix_nI (show b < 2 ^ 31 by omega), Bool.true_or, Bool.true_and, (W.kr10 (show a < 6 by omega)).1, zr] at sc
        exact zAg_w (I2 := zup I2 195 0 0) sc sm2 h2 zt_ir0
end LTd
