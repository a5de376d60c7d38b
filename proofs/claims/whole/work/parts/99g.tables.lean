/-! ===== held, best, must, least ===== -/
theorem zand2 (T i j : Nat) : (T &&& (2 ^ i ||| 2 ^ j) = 2 ^ i ||| 2 ^ j) ↔ (T.testBit i = true ∧ T.testBit j = true) := by
  constructor
  · intro e
    constructor
    · have h : (T &&& (2 ^ i ||| 2 ^ j)).testBit i = (2 ^ i ||| 2 ^ j).testBit i := by rw [e]
      rw [Nat.testBit_and, Nat.testBit_or, Nat.testBit_two_pow_self, Bool.true_or, Bool.and_true] at h
      exact h
    · have h : (T &&& (2 ^ i ||| 2 ^ j)).testBit j = (2 ^ i ||| 2 ^ j).testBit j := by rw [e]
      rw [Nat.testBit_and, Nat.testBit_or, Nat.testBit_two_pow_self, Bool.or_true, Bool.and_true] at h
      exact h
  · intro ⟨h1, h2⟩
    apply Nat.eq_of_testBit_eq
    intro b
    rw [Nat.testBit_and, Nat.testBit_or, Nat.testBit_two_pow, Nat.testBit_two_pow]
    by_cases c1 : i = b
    · subst c1; rw [h1, decide_eq_true rfl]; rfl
    · by_cases c2 : j = b
      · subst c2; rw [h2, decide_eq_true rfl, Bool.or_true]; rfl
      · rw [decide_eq_false c1, decide_eq_false c2, Bool.or_false, Bool.and_false]
theorem zdab (a b : Bool) : decide (a = true ∧ b = true) = (a && b) := by cases a <;> cases b <;> rfl
theorem zcapc_c {c d : Nat → Bool} {f g : Nat → Int32} : ∀ {k : Nat}, (∀ i, i < k → c i = d i) → (∀ i, i < k → f i = g i) → zcapc c f k = zcapc d g k
  | 0, _, _ => rfl
  | k + 1, h1, h2 => by
    rw [zcapc_succ, zcapc_succ, ← zcapc_c (c := c) (d := d) (f := f) (g := g) (fun i hi => h1 i (by omega)) (fun i hi => h2 i (by omega)), h1 k (by omega)]
    by_cases e : d k = true
    · rw [if_pos e, if_pos e]
      cases hz : zcapc c f k with
      | none => rfl
      | some b =>
        have hb := zcapc_lt hz
        dsimp only
        rw [h2 b (by omega), h2 k (by omega)]
    · rw [if_neg e, if_neg e]
theorem zcapc_0 {c : Nat → Bool} {f : Nat → Int32} : ∀ {k : Nat}, (∀ i, i < k → c i = false) → zcapc c f k = none
  | 0, _ => rfl
  | k + 1, h => by
    rw [zcapc_succ, h k (by omega), if_neg (by decide)]
    exact zcapc_0 (fun i hi => h i (by omega))
theorem zall_c {x : Int32} {c d : Nat → Bool} {f g : Nat → Int32} : ∀ {k : Nat}, (∀ i, i < k → c i = d i) → (∀ i, i < k → f i = g i) → zall x c f k = zall x d g k
  | 0, _, _ => rfl
  | k + 1, h1, h2 => by
    rw [zall_succ, zall_succ, zall_c (x := x) (c := c) (d := d) (f := f) (g := g) (fun i hi => h1 i (by omega)) (fun i hi => h2 i (by omega)), h1 k (by omega), h2 k (by omega)]
theorem zall_x (x : Int32) (c : Nat → Bool) (f : Nat → Int32) : ∀ k, zall x c f k = x &&& zall (-1) c f k
  | 0 => by show x = x &&& (-1); rw [Int32.and_neg_one]
  | k + 1 => by
    rw [zall_succ, zall_succ, zall_x x c f k]
    by_cases e : c k = true
    · rw [if_pos e, if_pos e, Int32.and_assoc]
    · rw [if_neg e, if_neg e]
theorem zall_in {c : Nat → Bool} {f : Nat → Int32} {b : Nat} (hc : c b = true) : ∀ k, b < k → f b &&& zall (-1) c f k = zall (-1) c f k
  | 0, h => by omega
  | k + 1, h => by
    rw [zall_succ]
    by_cases e : b = k
    · subst e
      rw [if_pos hc, Int32.and_comm (zall (-1) c f b), ← Int32.and_assoc, Int32.and_self]
    · by_cases e2 : c k = true
      · rw [if_pos e2, ← Int32.and_assoc, zall_in hc k (by omega)]
      · rw [if_neg e2, zall_in hc k (by omega)]
theorem zlst_c {c d : Nat → Bool} {f g : Nat → Int32} : ∀ {k : Nat}, (∀ i, i < k → c i = d i) → (∀ i, i < k → f i = g i) → zlst c f k = zlst d g k
  | 0, _, _ => rfl
  | k + 1, h1, h2 => by
    rw [zlst_succ, zlst_succ, zlst_c (c := c) (d := d) (f := f) (g := g) (fun i hi => h1 i (by omega)) (fun i hi => h2 i (by omega)), h1 k (by omega), h2 k (by omega)]
section LTc
variable {q : Nat} {I : ZI} {R : ZR} {n L L' P Wk z m : Nat} {t : Nat → Nat}
theorem p_held (h : zInv q I R n) (x y v : Int32) : zAg q I R n (C_held 0 x y v) (M_held 195 x y v) := by
  have W := h.1
  have hM := W.M
  have sc := e_C_held 0 x y v I R n
  have t18 : zup I 195 0 0 195 18 = I 195 18 := zT5 (by decide)
  rcases h.2.2 with k | ⟨L, L', P, Wk, z, m, t, k⟩
  · have sm := e_M_held 195 x y v I R n
    simp only [W.k, C_isPlayer_N W k, zc_t, zbI_s, if_true, ite_self] at sc
    simp only [hM.k, M_isPlayer_no hM (show zup I 195 0 0 195 18 = 0 by rw [t18]; exact k.2.1.2), zc_t, zbI_s, if_true] at sm
    exact zAg_ro h sc sm
  · have g := k.2.2.1
    have hP := g.1.2.1
    have hWk := g.2.1.2.1
    obtain ⟨be, mo, w, f, sw, O, u, l, a1, a2, a3, a4, a5, a6, a7, a8, a9, a10, a11, a12, a13, a14⟩ := k.2.2.2.2.2.1
    obtain ⟨I1, e1, e2, e3, k1, h1⟩ := C_prices h k a3.2.2
    simp only [W.k, W.1, zc_t, zr_s, C_isPlayer_L W k, a3.1, e1, zbV_s, zbI_s, Tb_sizeUnder_ok k1.1.2.2.2.2.2.1 x _ k1.2.2.2.1.1.1 k1.2.2.2.1.1.2.1] at sc
    by_cases c : (x < 0 ∨ zlt y P = 0 ∨ zlt v P = 0)
    · have kJ := zLea_t k 0
      have gJ := kJ.2.2.1
      have sm := e_M_held 195 x y v I R n
      simp only [hM.k, M_isPlayer_ok hM kJ.2.1.2 gJ.1.2.2.2 g.1.1 hP, zc_t, zbI_s] at sm
      refine zAg_ro h (v := -1) ?_ ?_
      · rw [sc]
        rcases c with c | c | c
        · rw [if_pos c]
        · rw [if_pos c, ite_self]
        · rw [if_pos c, ite_self, ite_self]
      · rw [sm]
        rcases c with c | c | c
        · rw [if_pos c, ite_self, ite_self]
        · rw [if_pos c]
        · rw [if_pos c, ite_self]
    · have c1 : ¬ x < 0 := fun z => c (Or.inl z)
      have c2 : ¬ zlt y P = 0 := fun z => c (Or.inr (Or.inl z))
      have c3 : ¬ zlt v P = 0 := fun z => c (Or.inr (Or.inr z))
      obtain ⟨i, hi, rfl⟩ := zlt_ne c2 (by omega)
      obtain ⟨j, hj, rfl⟩ := zlt_ne c3 (by omega)
      have kJ := zLea_t k1 0
      have gJ := kJ.2.2.1
      have sm := e_M_held 195 x (nI i) (nI j) I1 R n
      simp only [hM.k, M_isPlayer_ok hM kJ.2.1.2 gJ.1.2.2.2 g.1.1 hP, zc_t, zbI_s, if_neg c1, if_neg c2, if_neg c3, M_held33_ok hM kJ.2.2.2.1.2.1 hP gJ.1.2.2.2 (show i < 16 by omega) (show j < 16 by omega)] at sm
      rw [if_neg c1, if_neg c2, if_neg c3, zshl1 i (by omega), zshl1 j (by omega), zorN] at sc
      refine zAg_w (I2 := zup I1 195 0 0) sc ?_ h1 zt_ir0
      rw [zct_ext (q := fun k => (t k).testBit i && ((t k).testBit j && !(decide (x < mPr (zup I1 195 0 0) P (t k))))) (fun b hb => by
        have tb := k1.2.2.2.1.1.2.2 b hb
        have le : (2 ^ i ||| 2 ^ j) < 2 ^ 16 := Nat.or_lt_two_pow (Nat.pow_lt_pow_right (by decide) (by omega)) (Nat.pow_lt_pow_right (by decide) (by omega))
        have le2 : t b &&& (2 ^ i ||| 2 ^ j) < 2 ^ 31 := Nat.lt_of_le_of_lt Nat.and_le_left (by omega)
        rw [zPr_eq k1 (show I1 10 4 = nI w by rw [e3 _ _ (by decide) (by decide)]; exact a3.1) (by omega), e2 b hb, tb.1, zandN]
        have : decide (nI (t b &&& (2 ^ i ||| 2 ^ j)) = nI (2 ^ i ||| 2 ^ j)) = ((t b).testBit i && (t b).testBit j) := by
          rw [← zdab]
          exact decide_eq_decide.mpr ((nI_eq le2 (by omega)).trans (zand2 (t b) i j))
        rw [this]
        generalize (t b).testBit i = A
        generalize (t b).testBit j = B
        generalize decide (x < zsum (t b) (I1 (L + 15 + w)) P) = C
        cases A <;> cases B <;> cases C <;> rfl)]
      exact sm
/-- the class looks for the best team -/
theorem C_bestNow_L (h : zInv q I R n) (k : zLea q I R n L L' P Wk z m t) {w w1 : Nat} (h4 : I 10 4 = nI w) (hw : w ≤ Wk) (hw1 : w1 < Wk) (l : Int32) : ∃ I2, C_bestNow 0 (nI w1) l I R n = some (some (.int (zo (zcapc (fun j => !(decide (l < zsum (t j) (I2 (L + 15 + w)) P))) (fun j => zwith (t j) (I2 (L + 8 + w1)) P) m))), I2, R, n) ∧ (∀ j, j < m → I2 219 j = zsum (t j) (I2 (L + 15 + w)) P) ∧ (∀ j, j < m → I2 220 j = zwith (t j) (I2 (L + 8 + w1)) P) ∧ I2 10 4 = nI w ∧ zLea q I2 R n L L' P Wk z m t ∧ zInv q I2 R n := by
  have W := h.1
  have i1 := isL_i k.1.1
  have hWk := k.2.2.1.2.1.2.1
  obtain ⟨I1, e1, e2, e3, k1, h1⟩ := C_prices h k hw
  obtain ⟨I2, f1, f2, f3, k2, h2⟩ := C_scores h1 k1 hw1
  have g219 : ∀ j, j < m → I2 219 j = zsum (t j) (I2 (L + 15 + w)) P := fun j hj => by
    rw [f3 219 j (by decide) (by omega), e2 j hj, show I2 (L + 15 + w) = I1 (L + 15 + w) from funext fun i => f3 _ _ (by omega) (by omega)]
  have st := e_C_bestNow 0 (nI w1) l I R n
  simp only [W.k, W.1, zc_t, zr_s, h4, e1, zbV_s, f1, Tb_bestUnder_ok k2.1.2.2.2.2.2.1 l k2.2.2.2.1.1.1 k2.2.2.2.1.1.2.1, zbI_s] at st
  rw [zcapc_c (d := fun j => !(decide (l < zsum (t j) (I2 (L + 15 + w)) P))) (g := fun j => zwith (t j) (I2 (L + 8 + w1)) P) (fun j hj => by rw [g219 j hj]) f2] at st
  exact ⟨I2, st, g219, f2, by rw [f3 _ _ (by decide) (by decide), e3 _ _ (by decide) (by decide)]; exact h4, k2, h2⟩
theorem zneg_no (k : zLea q I R n L L' P Wk z m t) {w : Nat} (hw : w ≤ Wk) {l : Int32} (hl : l < 0) : ∀ j, j < m → (!(decide (l < zsum (t j) (I (L + 15 + w)) P))) = false := fun j hj => by
  obtain ⟨b1, b2⟩ := k.2.2.2.1.2.2.1 j hj
  obtain ⟨p, p1, p2, p3⟩ := (zteam_f k.2.2.1 b1 b2).2.1 w hw
  have : l < nI p := by
    rw [Int32.lt_iff_toInt_lt] at *
    rw [nI_toInt (by omega)]
    have : (0 : Int32).toInt = 0 := by decide
    omega
  rw [p3, decide_eq_true this]; rfl
theorem zin218 {j : Nat} (h : j < 3136) : zin 218 (nI j) = true ∧ zin 220 (nI j) = true := ⟨(zinT h).1, (zinT h).2.2.1⟩
theorem zir27 {J : ZI} (hJ : ∀ b j, (b = 195 → j ≠ 27) → J b j = (zup I 195 0 0) b j) : ∀ b j, ¬ zir0 b j → J b j = I b j := fun b j hb => by
  rw [hJ b j (by unfold zir0 at hb; omega)]
  exact zt_ir0 b j hb
theorem p_best (h : zInv q I R n) (x y v : Int32) : zAg q I R n (C_best 0 x y v) (M_best 195 x y v) := by
  have W := h.1
  have hM := W.M
  have sc := e_C_best 0 x y v I R n
  have t18 : zup I 195 0 0 195 18 = I 195 18 := zT5 (by decide)
  rcases h.2.2 with k | ⟨L, L', P, Wk, z, m, t, k⟩
  · have sm := e_M_best 195 x y v I R n
    simp only [W.k, C_isWeek_N W k, zc_t, zbI_s, if_true] at sc
    simp only [hM.k, M_isWeek_no hM (show zup I 195 0 0 195 18 = 0 by rw [t18]; exact k.2.1.2), zc_t, zbI_s, if_true] at sm
    exact zAg_ro h sc sm
  · have g := k.2.2.1
    have hL := W.L k.1.1
    have hP := g.1.2.1
    have hWk := g.2.1.2.1
    have kJ := zLea_t k 0
    have gJ := kJ.2.2.1
    obtain ⟨be, mo, w, f, sw, O, u, l, a1, a2, a3, a4, a5, a6, a7, a8, a9, a10, a11, a12, a13, a14⟩ := k.2.2.2.2.2.1
    have im := fun J : ZI => M_isIn_ok (I := J) (R := R) (n := n) v.toInt64 0 2
    have iz := zIs v (N := 3) (by decide) (by decide) (y := 2) (by decide)
    rw [iz] at im
    simp only [W.k, C_isWeek_L W k, zc_t, zbI_s] at sc
    rcases zlt_cases x (N := Wk) (by omega) with c | ⟨w1, hw1, rfl, c⟩
    · have sm := e_M_best 195 x y v I R n
      simp only [hM.k, M_isWeek_ok hM kJ.2.1.2 gJ.2.1.2.2.2 g.2.1.1 hWk, zc_t, zbI_s] at sm
      rw [c, if_pos rfl] at sc sm
      exact zAg_ro h sc sm
    · rw [c, if_neg (by decide)] at sc
      rcases zlt_cases v (N := 3) (by decide) with d | ⟨j, hj, rfl, d⟩
      · have sm := e_M_best 195 (nI w1) y v I R n
        simp only [hM.k, M_isWeek_ok hM kJ.2.1.2 gJ.2.1.2.2.2 g.2.1.1 hWk, zc_t, zbI_s, im, c, d, if_neg (show ¬ (1 : Int32) = 0 by decide), if_true, ite_self] at sm
        refine zAg_ro h ?_ sm
        rw [sc]
        rcases zlt_no d with e | ⟨e1, e2⟩
        · rw [if_pos e]
        · obtain ⟨b, hb, rfl⟩ := nI_of e1
          rw [nI_ltI hb (by decide)] at e2
          have t2 : (2 : Int32) = nI 2 := by decide
          rw [if_neg e1, t2, if_pos (nI_lt (by omega) hb)]
      · have t2 : (2 : Int32) = nI 2 := by decide
        rw [if_neg (nI_pos (by omega)), t2, if_neg (nI_nlt (by omega) (by decide))] at sc
        obtain ⟨I2, b1, b2, b3, b4, k2, h2⟩ := C_bestNow_L h k a3.1 a3.2.2 hw1 y
        simp only [W.k, b1, zc_t, zbI_s] at sc
        have kJ := zLea_t k2 0
        have gJ := kJ.2.2.1
        have sm := e_M_best 195 (nI w1) y (nI j) I2 R n
        simp only [hM.k, M_isWeek_ok hM kJ.2.1.2 gJ.2.1.2.2.2 g.2.1.1 hWk, zc_t, zbI_s, im, c, d, if_neg (show ¬ (1 : Int32) = 0 by decide)] at sm
        by_cases cy : y < 0
        · rw [zcapc_0 (zneg_no k2 a3.2.2 cy), zo_none, if_pos rfl] at sc
          rw [if_pos cy] at sm
          exact zAg_w (I2 := zup I2 195 0 0) sc sm h2 zt_ir0
        · rw [if_neg cy] at sm
          obtain ⟨J, m1, m2, m3⟩ := M_bestTeam_ok (I := zup I2 195 0 0) (R := R) (n := n) hM kJ.2.2.2.1.2.1 hP gJ.1.2.2.2 (show w1 < 6 by omega) (fun i hi => zcap_ne _ (kJ.2.2.2.1.1.2.2 i hi).2.2 (kJ.2.2.2.1.2.2.1 i hi).1) y
          have ecap : zcapc (fun i => !(decide (y < mPr (zup I2 195 0 0) P (t i)))) (fun i => mSc (zup I2 195 0 0) P w1 (t i)) m = zcapc (fun j => !(decide (y < zsum (t j) (I2 (L + 15 + w)) P))) (fun j => zwith (t j) (I2 (L + 8 + w1)) P) m := zcapc_c (fun i _ => by rw [zPr_eq k2 b4 (by omega)]) (fun i _ => zSc_eq k2 hw1 (t i))
          rw [ecap] at m1 m2
          simp only [m1, zbI_s] at sm
          have fJ := zir27 m3
          cases hz : zcapc (fun j => !(decide (y < zsum (t j) (I2 (L + 15 + w)) P))) (fun j => zwith (t j) (I2 (L + 8 + w1)) P) m with
          | none =>
            rw [hz, zo_none, if_pos rfl] at sc
            rw [hz, if_pos (show zot t none = -1 from rfl)] at sm
            exact zAg_w (I2 := J) sc sm h2 fJ
          | some b =>
            have hb := (zcapc_lt hz).1
            have mm := k2.2.2.2.1.1.2.1
            have tb := k2.2.2.2.1.1.2.2 b hb
            rw [hz, zo_some, if_neg (nI_nm1 (by omega))] at sc
            rw [hz, if_neg (show ¬ zot t (some b) = -1 from nI_nm1 (by omega)), show zot t (some b) = nI (t b) from rfl] at sm
            have bc := M_bestCaptain_ok (I := J) (R := R) (n := n) hM (S := t b) (by omega) hP (show J 195 17 = nI P by rw [m3 _ _ (by decide)]; exact gJ.1.2.2.2) (show w1 < 6 by omega)
            have cp : zcap (t b) (fun i => J 206 (6 * i + w1)) P = zcap (t b) (I2 (L + 8 + w1)) P := zcap_c (fun i hi _ => by rw [m3 206 _ (by omega), zTn I2 0 _ (by decide), (k2.2.2.1.2.2.2.2.2.2.2.1 w1 i hw1 hi).1])
            rw [cp] at bc
            have wt := k2.1.2.2.2.2.2.1
            simp only [W.k, W.1, wt.k, wt.r, zc_t, zr_s, zin218 (show b < 3136 by omega), zix_nI (show b < 2 ^ 31 by omega), Bool.true_or, Bool.true_and, b3 b hb, tb.1, k2.1.2.2.2.1, hL.k, Lg_topPlayer_ok hL (show t b < 2 ^ 31 by omega) hP k2.2.2.1.1.2.2.1 (show w1 < 6 by omega), zbI_s] at sc
            simp only [hM.k, zc_t, m2 b hz, zSc_eq k2 hw1 (t b), bc, zbI_s] at sm
            have j3 : j = 0 ∨ j = 1 ∨ j = 2 := by omega
            rcases j3 with rfl | rfl | rfl
            · rw [if_pos nI_0] at sc sm
              exact zAg_w (I2 := J) sc sm h2 fJ
            · rw [if_neg (by decide), if_pos (by decide)] at sc sm
              exact zAg_w (I2 := J) sc sm h2 fJ
            · rw [if_neg (by decide), if_neg (by decide)] at sc sm
              exact zAg_w (I2 := J) sc sm h2 fJ
theorem p_must (h : zInv q I R n) (x y : Int32) : zAg q I R n (C_must 0 x y) (M_must 195 x y) := by
  have W := h.1
  have hM := W.M
  have sc := e_C_must 0 x y I R n
  have t18 : zup I 195 0 0 195 18 = I 195 18 := zT5 (by decide)
  have s18 : C_must_18 0 y (-1) I R n = some (some (.int (-1000000)), I, R, n) := by rw [e_C_must_18, if_pos rfl]
  rcases h.2.2 with k | ⟨L, L', P, Wk, z, m, t, k⟩
  · have sm := e_M_must 195 x y I R n
    simp only [W.k, C_isWeek_N W k, zc_t, zbI_s, if_true] at sc
    simp only [hM.k, M_isWeek_no hM (show zup I 195 0 0 195 18 = 0 by rw [t18]; exact k.2.1.2), zc_t, zbI_s, if_true] at sm
    exact zAg_ro h (sc.trans s18) sm
  · have g := k.2.2.1
    have hP := g.1.2.1
    have hWk := g.2.1.2.1
    have kJ := zLea_t k 0
    have gJ := kJ.2.2.1
    obtain ⟨be, mo, w, f, sw, O, u, l, a1, a2, a3, a4, a5, a6, a7, a8, a9, a10, a11, a12, a13, a14⟩ := k.2.2.2.2.2.1
    simp only [W.k, C_isWeek_L W k, zc_t, zbI_s] at sc
    rcases zlt_cases x (N := Wk) (by omega) with c | ⟨w1, hw1, rfl, c⟩
    · have sm := e_M_must 195 x y I R n
      simp only [hM.k, M_isWeek_ok hM kJ.2.1.2 gJ.2.1.2.2.2 g.2.1.1 hWk, zc_t, zbI_s] at sm
      rw [c, if_pos rfl] at sc sm
      exact zAg_ro h (sc.trans s18) sm
    · rw [c, if_neg (by decide)] at sc
      obtain ⟨I2, b1, b2, b3, b4, k2, h2⟩ := C_bestNow_L h k a3.1 a3.2.2 hw1 y
      simp only [W.k, b1, zc_t, zbI_s] at sc
      have kJ := zLea_t k2 0
      have gJ := kJ.2.2.1
      have sm := e_M_must 195 (nI w1) y I2 R n
      simp only [hM.k, M_isWeek_ok hM kJ.2.1.2 gJ.2.1.2.2.2 g.2.1.1 hWk, zc_t, zbI_s, c, if_neg (show ¬ (1 : Int32) = 0 by decide)] at sm
      have s18 : C_must_18 0 y (-1) I2 R n = some (some (.int (-1000000)), I2, R, n) := by rw [e_C_must_18, if_pos rfl]
      by_cases cy : y < 0
      · rw [zcapc_0 (zneg_no k2 a3.2.2 cy), zo_none] at sc
        rw [if_pos cy] at sm
        exact zAg_w (I2 := zup I2 195 0 0) (sc.trans s18) sm h2 zt_ir0
      · rw [if_neg cy] at sm
        have hne : ∀ i, i < m → zcap (t i) (fun i => zup I2 195 0 0 206 (6 * i + w1)) P ≠ none := fun i hi => zcap_ne _ (kJ.2.2.2.1.1.2.2 i hi).2.2 (kJ.2.2.2.1.2.2.1 i hi).1
        obtain ⟨J, m1, m2, m3⟩ := M_bestTeam_ok (I := zup I2 195 0 0) (R := R) (n := n) hM kJ.2.2.2.1.2.1 hP gJ.1.2.2.2 (show w1 < 6 by omega) hne y
        have ecap : zcapc (fun i => !(decide (y < mPr (zup I2 195 0 0) P (t i)))) (fun i => mSc (zup I2 195 0 0) P w1 (t i)) m = zcapc (fun j => !(decide (y < zsum (t j) (I2 (L + 15 + w)) P))) (fun j => zwith (t j) (I2 (L + 8 + w1)) P) m := zcapc_c (fun i _ => by rw [zPr_eq k2 b4 (by omega)]) (fun i _ => zSc_eq k2 hw1 (t i))
        rw [ecap] at m1 m2
        simp only [m1, zbI_s] at sm
        have fJ := zir27 m3
        cases hz : zcapc (fun j => !(decide (y < zsum (t j) (I2 (L + 15 + w)) P))) (fun j => zwith (t j) (I2 (L + 8 + w1)) P) m with
        | none =>
          rw [hz, zo_none] at sc
          rw [hz, if_pos (show zot t none = -1 from rfl)] at sm
          exact zAg_w (I2 := J) (sc.trans s18) sm h2 fJ
        | some b =>
          have hb := zcapc_lt hz
          have mm := k2.2.2.2.1.1.2.1
          have tb := k2.2.2.2.1.1.2.2 b hb.1
          rw [hz, zo_some] at sc
          rw [hz, if_neg (show ¬ zot t (some b) = -1 from nI_nm1 (by omega)), show zot t (some b) = nI (t b) from rfl] at sm
          have wt := k2.1.2.2.2.2.2.1
          have s2 := e_C_must_18 0 y (nI b) I2 R n
          rw [if_neg (nI_nm1 (by omega))] at s2
          simp only [W.k, W.1, wt.k, wt.r, zc_t, zr_s, zin218 (show b < 3136 by omega), zix_nI (show b < 2 ^ 31 by omega), Bool.true_or, Bool.true_and, b3 b hb.1, Tb_sharedBy_ok wt y _ k2.2.2.2.1.1.1 k2.2.2.2.1.1.2.1, zbI_s] at s2
          have JT : zTmM J m t := by
            unfold zTmM
            rw [m3 195 20 (by decide), show J 207 = zup I2 195 0 0 207 from funext fun i => m3 _ _ (by omega)]
            exact kJ.2.2.2.1.2.1
          have J6 : ∀ w, (fun i => J 206 (6 * i + w)) = fun i => zup I2 195 0 0 206 (6 * i + w) := fun w => funext fun i => m3 _ _ (by omega)
          have mk := M_must38_ok (I := J) (R := R) (n := n) hM JT hP (show J 195 17 = nI P by rw [m3 _ _ (by decide)]; exact gJ.1.2.2.2) (show w1 < 6 by omega) (fun i hi => by rw [J6]; exact hne i hi) y (nI (t b))
          rw [m2 b hz, zSc_eq k2 hw1 (t b)] at mk
          have ePr : ∀ S, mPr J P S = zsum S (I2 (L + 15 + w)) P := fun S => by
            rw [← zPr_eq k2 b4 (show w < 2 ^ 31 by omega) (x := 0) S]
            unfold mPr
            exact zsum_congr (fun i _ _ => m3 208 _ (by omega))
          have eSc : ∀ S, mSc J P w1 S = zwith S (I2 (L + 8 + w1)) P := fun S => by
            rw [← zSc_eq k2 hw1 (x := 0) S]
            unfold mSc
            rw [J6]
          refine zAg_w (I2 := J) (v := zall (-1) (fun k => !(decide (y < I2 219 k)) && decide (I2 220 k = zwith (t b) (I2 (L + 8 + w1)) P)) (I2 218) m) (sc.trans s2) ?_ h2 fJ
          refine sm.trans (mk.trans ?_)
          rw [zall_x]
          have e1 : zall (-1) (fun k => !(decide (y < mPr J P (t k))) && decide (mSc J P w1 (t k) = zwith (t b) (I2 (L + 8 + w1)) P)) (J 207) m = zall (-1) (fun k => !(decide (y < I2 219 k)) && decide (I2 220 k = zwith (t b) (I2 (L + 8 + w1)) P)) (I2 218) m := zall_c (fun i hi => by rw [ePr, eSc, b2 i hi, b3 i hi]) (fun i hi => by rw [(JT.2.2 i hi).1, (k2.2.2.2.1.1.2.2 i hi).1])
          have e2 : nI (t b) = I2 218 b := tb.1.symm
          rw [e1, e2, zall_in (b := b) (by
            rw [b2 b hb.1, b3 b hb.1, decide_eq_true rfl, Bool.and_true]; exact hb.2) m hb.1]
theorem p_least (h : zInv q I R n) (x y : Int32) : zAg q I R n (C_least 0 x y) (M_least 195 x y) := by
  have W := h.1
  have hM := W.M
  have sc := e_C_least 0 x y I R n
  have t18 : zup I 195 0 0 195 18 = I 195 18 := zT5 (by decide)
  rcases h.2.2 with k | ⟨L, L', P, Wk, z, m, t, k⟩
  · have sm := e_M_least 195 x y I R n
    simp only [W.k, C_isWeek_N W k, zc_t, zbI_s, if_true] at sc
    simp only [hM.k, M_isWeek_no hM (show zup I 195 0 0 195 18 = 0 by rw [t18]; exact k.2.1.2), zc_t, zbI_s, if_true] at sm
    exact zAg_ro h sc sm
  · have g := k.2.2.1
    have hP := g.1.2.1
    have hWk := g.2.1.2.1
    have kJ := zLea_t k 0
    have gJ := kJ.2.2.1
    obtain ⟨be, mo, w, f, sw, O, u, l, a1, a2, a3, a4, a5, a6, a7, a8, a9, a10, a11, a12, a13, a14⟩ := k.2.2.2.2.2.1
    rcases zlt_cases x (N := Wk) (by omega) with c | ⟨w1, hw1, rfl, c⟩
    · have sm := e_M_least 195 x y I R n
      simp only [W.k, C_isWeek_L W k, zc_t, zbI_s, c, if_true] at sc
      simp only [hM.k, M_isWeek_ok hM kJ.2.1.2 gJ.2.1.2.2.2 g.2.1.1 hWk, zc_t, zbI_s, c, if_true] at sm
      exact zAg_ro h sc sm
    · obtain ⟨I1, e1, e2, e3, k1, h1⟩ := C_prices h k a3.2.2
      obtain ⟨I2, f1, f2, f3, k2, h2⟩ := C_scores h1 k1 hw1
      have i1 := isL_i k.1.1
      have g219 : ∀ j, j < m → I2 219 j = zsum (t j) (I2 (L + 15 + w)) P := fun j hj => by
        rw [f3 219 j (by decide) (by omega), e2 j hj, show I2 (L + 15 + w) = I1 (L + 15 + w) from funext fun i => f3 _ _ (by omega) (by omega)]
      have b4 : I2 10 4 = nI w := by rw [f3 _ _ (by decide) (by decide), e3 _ _ (by decide) (by decide)]; exact a3.1
      simp only [W.k, W.1, C_isWeek_L W k, zc_t, zr_s, zbI_s, c, if_neg (show ¬ (1 : Int32) = 0 by decide), a3.1, e1, f1, zbV_s, Tb_leastFor_ok k2.1.2.2.2.2.2.1 y k2.2.2.2.1.1.1 k2.2.2.2.1.1.2.1] at sc
      have kJ := zLea_t k2 0
      have gJ := kJ.2.2.1
      have sm := e_M_least 195 (nI w1) y I2 R n
      simp only [hM.k, M_isWeek_ok hM kJ.2.1.2 gJ.2.1.2.2.2 g.2.1.1 hWk, zc_t, zbI_s, c, if_neg (show ¬ (1 : Int32) = 0 by decide), M_least20_ok hM kJ.2.2.2.1.2.1 hP gJ.1.2.2.2 (show w1 < 6 by omega) (fun i hi => zcap_ne _ (kJ.2.2.2.1.1.2.2 i hi).2.2 (kJ.2.2.2.1.2.2.1 i hi).1)] at sm
      refine zAg_w (I2 := zup I2 195 0 0) sc ?_ h2 zt_ir0
      rw [zlst_c (d := fun k => !(decide (mSc (zup I2 195 0 0) P w1 (t k) < y))) (g := fun k => mPr (zup I2 195 0 0) P (t k)) (fun i hi => by rw [f2 i hi, zSc_eq k2 hw1]) (fun i hi => by rw [g219 i hi, zPr_eq k2 b4 (by omega)])]
      exact sm
end LTc
