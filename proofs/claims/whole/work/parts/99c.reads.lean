/-! ===== calls that only read ===== -/
theorem zsubN {a b : Nat} (h : b ≤ a) : nI a - nI b = nI (a - b) := by
  have e := nI_add (a - b) b
  rw [Nat.sub_add_cancel h] at e
  rw [← e, Int32.add_sub_cancel]
theorem zIs0 (x : Int32) {w : Nat} (hw : w < 2 ^ 31) : (if x.toInt64 < (0 : Int64) then (0 : Int32) else if (nI w - 1).toInt64 < x.toInt64 then 0 else 1) = zlt x w := by
  rcases Nat.eq_zero_or_pos w with c | c
  · subst c
    rw [z64_0]
    simp only [z64_lt]
    unfold zlt
    by_cases c1 : x < 0
    · rw [if_pos c1, if_pos c1]
    · rw [if_neg c1, if_neg c1]
      obtain ⟨j, hj, rfl⟩ := nI_of c1
      have : nI 0 - 1 < nI j := by
        rw [Int32.lt_iff_toInt_lt, nI_toInt hj]
        have : (nI 0 - 1).toInt = -1 := by decide
        omega
      rw [if_pos this, if_neg (nI_nlt (by omega) hj)]
  · exact zlt_pred x c hw
theorem zlt_no {x : Int32} {N : Nat} (h : zlt x N = 0) : x < 0 ∨ (¬ x < 0 ∧ ¬ x < nI N) := by
  unfold zlt at h
  by_cases c : x < 0
  · exact Or.inl c
  · rw [if_neg c] at h
    by_cases c2 : x < nI N
    · rw [if_pos c2] at h; exact absurd h (by decide)
    · exact Or.inr ⟨c, c2⟩
theorem zsum16 {O P : Nat} {f g : Nat → Int32} (hO : O < 2 ^ P) (hP : P ≤ 16) (h : ∀ i, i < P → O.testBit i = true → f i = g i) : zsum O f 16 = zsum O g P := by
  rw [zsum_zero f (Nat.div_eq_of_lt hO) 16 hP]
  exact zsum_congr h
theorem z65 {S P : Nat} (h : S < 2 ^ P) (hP : P ≤ 16) : S < 65536 := Nat.lt_of_lt_of_le h (show 2 ^ P ≤ 2 ^ 16 from Nat.pow_le_pow_right (by decide) hP)
section LRd
variable {q : Nat} {I : ZI} {R : ZR} {n L L' P Wk z m : Nat} {t : Nat → Nat}
theorem mSlots_c (h : zLg I L P Wk z) (S : Nat) : mSlots I S P ↔ cSlots I L S P := by
  obtain ⟨-, -, -, -, a5, a6, -⟩ := h
  have e : ∀ k, zcnt S (fun i => decide (I 203 i = nI k)) P = zcnt S (fun i => decide (I (L + 3) i = nI k)) P := fun k => zcnt_ext (fun i hi => by
    obtain ⟨⟨v, -, v1, v2⟩, -⟩ := a6 i hi
    rw [v1, v2])
  constructor
  · intro g k hk
    obtain ⟨v, -, v1, v2⟩ := a5 k hk
    rw [← e, v1, ← v2]; exact g k hk
  · intro g k hk
    obtain ⟨v, -, v1, v2⟩ := a5 k hk
    rw [e, v2, ← v1]; exact g k hk
theorem mClubs_c (h : zLg I L P Wk z) (S : Nat) : mClubs I S P ↔ cClubs I L S P := by
  obtain ⟨-, -, -, a4, -, a6, -⟩ := h
  have e : ∀ k, zcnt S (fun i => decide (I 204 i = nI k)) P = zcnt S (fun i => decide (I (L + 4) i = nI k)) P := fun k => zcnt_ext (fun i hi => by
    obtain ⟨-, ⟨v, -, v1, v2⟩⟩ := a6 i hi
    rw [v1, v2])
  obtain ⟨v, -, -, v1, v2⟩ := a4 1 (by decide)
  have v2 : I 198 5 = nI v := v2
  constructor
  · intro g k hk
    rw [← e, v1, ← v2]; exact g k hk
  · intro g k hk
    rw [e, v2, ← v1]; exact g k hk
theorem mTeam_c (h : zLg I L P Wk z) (S : Nat) : mTeam I S P ↔ cTeam I L S P := by
  unfold mTeam cTeam
  rw [mSlots_c h, mClubs_c h]
theorem zb01_c {p r : Prop} (h : p ↔ r) : zb01 p = zb01 r := by rw [propext h]
theorem zb01_cases (p : Prop) : (p ∧ zb01 p = 1) ∨ (¬ p ∧ zb01 p = 0) := by
  by_cases c : p
  · exact Or.inl ⟨c, zb01_t c⟩
  · exact Or.inr ⟨c, zb01_f c⟩
theorem zWc.r10 (W : zWc R n) : R 10 0 = some 11 ∧ R 10 1 = some 12 := W.S.r
theorem zWc.rr10 (W : zWc R n) {w : Nat} (hw : w < 6) : R 12 w = some (13 + w) := W.S.rr hw
theorem zWc.k10 (W : zWc R n) : zis n 11 20 = true ∧ zis n 12 22 = true := ⟨W.S.k.2.1, W.S.k.2.2⟩
theorem zWc.kr10 (W : zWc R n) {w : Nat} (hw : w < 6) : zis n (13 + w) 20 = true ∧ z_ln (13 + w) = 6 := W.S.rw hw
theorem p_count (h : zInv q I R n) (x : Int32) : zAg q I R n (C_count 0 x) (M_count 195 x) := by
  have W := h.1
  have hM := W.M
  obtain ⟨⟨T, -, t2, t3⟩, -, -⟩ := h.2.1
  have sc := e_C_count 0 x I R n
  have sm := e_M_count 195 x I R n
  simp only [W.k, W.1, zc_t, zr_s] at sc
  simp only [hM.k, zc_t] at sm
  have e24 : I 28 2 = I 195 24 := by
    rcases h.2.2 with k | ⟨L, L', P, Wk, z, m, t, k⟩
    · rw [k.2.2.2.2.1.1, k.2.2.2.2.1.2]
    · obtain ⟨nx, mm, -, -, -, b4, b5, -⟩ := k.2.2.2.2.2.2.1
      rw [b4, b5]
  by_cases c0 : x = 0
  · rw [if_pos c0] at sc sm
    exact zAg_ro h sc (by rw [t2.1, ← t3.1, ← zT5 (I := I) (x := 0) (show 2 ≠ 0 by decide)]; exact sm)
  · rw [if_neg c0] at sc sm
    by_cases c1 : x = 1
    · rw [if_pos c1] at sc sm
      exact zAg_ro h sc (by rw [e24, ← zT5 (I := I) (x := 0) (show 24 ≠ 0 by decide)]; exact sm)
    · rw [if_neg c1] at sc sm
      exact zAg_ro h sc sm
theorem p_rule (h : zInv q I R n) (x : Int32) : zAg q I R n (C_rule 0 x) (M_rule 195 x) := by
  have W := h.1
  have hM := W.M
  have sc := e_C_rule 0 x I R n
  have sm := e_M_rule 195 x I R n
  have im := M_isIn_ok (I := zup I 195 0 0) (R := R) (n := n) x.toInt64 0 9
  rw [zIs x (N := 10) (by decide) (by decide) (by decide)] at im
  have t18 : zup I 195 0 0 195 18 = I 195 18 := zT5 (by decide)
  rcases h.2.2 with k | ⟨L, L', P, Wk, z, m, t, k⟩
  · simp only [W.k, k.2.1, zc_t, if_true] at sc
    simp only [hM.k, t18, k.2.1, zc_t, if_true] at sm
    exact zAg_ro h sc sm
  · have hL := W.L k.1.1
    have g := k.2.2.1
    have gJ := (zLea_t k 0).2.2.1
    simp only [W.k, k.2.1, k.1.2.2.2.1, hL.k, hL.r, zc_t, zr_s, if_neg (show ¬ (1 : Int32) = 0 by decide)] at sc
    simp only [hM.k, hM.2, t18, k.2.1, zc_t, zr_s, if_neg (show ¬ (1 : Int32) = 0 by decide), im, zbI_s, M_size_ok hM] at sm
    have t4 : (4 : Int32) = nI 4 := by decide
    have t10 : (10 : Int32) = nI 10 := by decide
    rcases zlt_cases x (N := 10) (by decide) with c | ⟨j, hj, rfl, c⟩
    · rw [c, if_pos rfl, gJ.1.2.2.2, gJ.2.2.1.2.2.2] at sm
      rw [g.1.2.2.1, g.2.2.1.2.2.1] at sc
      have sc2 : C_rule 0 x I R n = if x = 10 then some (some (.int (nI P)), I, R, n) else if x = 11 then some (some (.int (nI z)), I, R, n) else some (some (.int (-1000000)), I, R, n) := by
        rw [sc]
        rcases zlt_no c with c1 | ⟨c1, c2⟩
        · rw [if_pos c1, if_neg (fun y => by rw [y] at c1; exact absurd c1 (by decide)), if_neg (fun y => by rw [y] at c1; exact absurd c1 (by decide))]
        · have c3 : ¬ x < 4 := fun y => c2 (by rw [Int32.lt_iff_toInt_lt] at *; have : (4 : Int32).toInt = 4 := by decide
                                               have : (nI 10).toInt = 10 := by decide
                                               omega)
          have c4 : ¬ x < 10 := by rw [t10]; exact c2
          rw [if_neg c1, if_neg c3, if_neg c4]
      by_cases d1 : x = 10
      · rw [if_pos d1] at sc2 sm; exact zAg_ro h sc2 sm
      · rw [if_neg d1] at sc2 sm
        by_cases d2 : x = 11
        · rw [if_pos d2] at sc2 sm; exact zAg_ro h sc2 sm
        · rw [if_neg d2] at sc2 sm; exact zAg_ro h sc2 sm
    · rw [c, if_neg (by decide)] at sm
      have i1 : zin 198 (nI j) = true := zin_nI (by show _ < 10; omega) (by omega)
      simp only [i1, Bool.true_or, Bool.true_and, zc_t, zix_nI (show j < 2 ^ 31 by omega), zTn I 0 j (show (198 : Nat) ≠ 195 by decide)] at sm
      rw [if_neg (nI_pos (by omega))] at sc
      by_cases d : j < 4
      · obtain ⟨v, -, v1, v2⟩ := g.2.2.2.2.1 j d
        rw [t4, if_pos (nI_lt d (by decide))] at sc
        simp only [zin_of hL.ln.1 d (by decide), Bool.true_or, Bool.true_and, zc_t, zix_nI (show j < 2 ^ 31 by omega), v1] at sc
        rw [v2] at sm
        exact zAg_ro h sc sm
      · obtain ⟨v, -, -, v1, v2⟩ := g.2.2.2.1 (j - 4) (by omega)
        rw [show 4 + (j - 4) = j by omega] at v2
        rw [t4, if_neg (nI_nlt (by omega) (by omega)), t10, if_pos (nI_lt hj (by decide)), zsubN (by omega)] at sc
        simp only [zin_of hL.ln.2.1 (show j - 4 < 6 by omega) (by decide), Bool.true_or, Bool.true_and, zc_t, zix_nI (show j - 4 < 2 ^ 31 by omega), v1] at sc
        rw [v2] at sm
        exact zAg_ro h sc sm
theorem p_points (h : zInv q I R n) (x y : Int32) : zAg q I R n (C_points 0 x y) (M_points 195 x y) := by
  have W := h.1
  have hM := W.M
  have sc := e_C_points 0 x y I R n
  have sm := e_M_points 195 x y I R n
  have t18 : zup I 195 0 0 195 18 = I 195 18 := zT5 (by decide)
  rcases h.2.2 with k | ⟨L, L', P, Wk, z, m, t, k⟩
  · simp only [W.k, C_isPlayer_N W k, zc_t, zbI_s, if_true] at sc
    simp only [hM.k, M_isPlayer_no hM (show zup I 195 0 0 195 18 = 0 by rw [t18]; exact k.2.1.2), zc_t, zbI_s, if_true] at sm
    exact zAg_ro h sc sm
  · have hL := W.L k.1.1
    have g := k.2.2.1
    have kJ := zLea_t k 0
    have gJ := kJ.2.2.1
    have hP := g.1.2.1
    have hWk := g.2.1.2.1
    simp only [W.k, C_isPlayer_L W k, C_isWeek_L W k, k.1.2.2.2.1, hL.k, hL.r, zc_t, zr_s, zbI_s] at sc
    simp only [hM.k, hM.2, M_isPlayer_ok hM kJ.2.1.2 gJ.1.2.2.2 g.1.1 hP, M_isWeek_ok hM kJ.2.1.2 gJ.2.1.2.2.2 g.2.1.1 hWk, zc_t, zr_s, zbI_s] at sm
    rcases zlt_cases x (N := P) (by omega) with c | ⟨i, hi, rfl, c⟩
    · rw [c, if_pos rfl] at sc sm; exact zAg_ro h sc sm
    · rw [c, if_neg (by decide)] at sc sm
      rcases zlt_cases y (N := Wk) (by omega) with d | ⟨w, hw, rfl, d⟩
      · rw [d, if_pos rfl] at sc sm; exact zAg_ro h sc sm
      · rw [d, if_neg (by decide)] at sc sm
        simp only [zin_of hL.ln.2.2.2.2.2.2.1 (show w < 6 by omega) (by decide), zix_nI (show w < 2 ^ 31 by omega), hL.2.2.2.1 w (by omega), (hL.rw (show w < 6 by omega)).1, zin_of (hL.rw (show w < 6 by omega)).2 (show i < 16 by omega) (by decide), zix_nI (show i < 2 ^ 31 by omega), Bool.true_or, Bool.true_and, zc_t, zr_s] at sc
        simp only [zpt, zin206 (show i < 16 by omega) (show w < 6 by omega), zix_nI (show 6 * i + w < 2 ^ 31 by omega), Bool.true_or, Bool.true_and, zc_t, zTn I 0 _ (show (206 : Nat) ≠ 195 by decide)] at sm
        exact zAg_ro h sc (by rw [(g.2.2.2.2.2.2.2.1 w i hw hi).1]; exact sm)
theorem p_now (h : zInv q I R n) (x : Int32) : zAg q I R n (C_now 0 x) (M_now 195 x) := by
  have W := h.1
  have hM := W.M
  have sc := e_C_now 0 x I R n
  have sm := e_M_now 195 x I R n
  simp only [hM.k, hM.2, zc_t, zr_s, zin208, zixs, Bool.true_or, Bool.true_and, zT8] at sm
  rcases h.2.2 with k | ⟨L, L', P, Wk, z, m, t, k⟩
  · simp only [W.k, W.1, k.2.2.1, zc_t, zr_s, if_true] at sc
    simp only [k.2.2.1, if_true] at sm
    exact zAg_ro h sc sm
  · have hL := W.L k.1.1
    have g := k.2.2.1
    have kJ := zLea_t k 0
    have gJ := kJ.2.2.1
    have hP := g.1.2.1
    have hWk := g.2.1.2.1
    obtain ⟨be, mo, w, f, sw, O, u, l, a1, a2, a3, a4, a5, a6, a7, a8, a9, a10, a11, a12, a13, a14⟩ := k.2.2.2.2.2.1
    have wo := Se_worth_ok (I := I) W.S a7.1 (show O < 2 ^ 31 by have := z65 a7.2.2.1 hP; omega) (hL.pw (show w < 7 by omega)).1 (hL.pw (show w < 7 by omega)).2
    simp only [W.k, W.1, k.1.2.2.2.1, hL.k, hL.r, zc_t, zr_s, a1.1, a3.1, zin_of hL.ln.2.2.2.2.2.2.2 (show w < 7 by omega) (by decide), zix_nI (show w < 2 ^ 31 by omega), hL.2.2.2.2 w (by omega), Bool.true_or, Bool.true_and, wo, zbI_s] at sc
    rw [a1.2] at sm
    cases be with
    | false =>
      rw [if_pos (by decide)] at sc sm
      exact zAg_ro h sc sm
    | true =>
      rw [if_neg (by decide)] at sc sm
      have wm := M_worth_ok (I := zup I 195 0 0) hM (S := O) (by rw [zT8, a1.2]; rfl) (by rw [zT8]; exact a7.2.1) (by have := z65 a7.2.2.1 hP; omega) gJ.1.2.2.2 hP
      simp only [zT8] at wm
      simp only [wm, zbI_s, a2.2.1] at sm
      obtain ⟨b, -, b1, b2⟩ := a6 rfl
      have ew : zsum O (fun i => zbrings (I (L + 15 + w) i) (I 11 i)) 16 = zsum O (fun i => zbrings (I 208 (11 + i)) (I 208 (27 + i))) P := zsum16 a7.2.2.1 hP (fun i hi ho => by
        obtain ⟨v, -, -, v1, v2⟩ := a12 i hi ho
        rw [v1, v2, a14 i hi])
      have e11 : I (10 + 1) = I 11 := rfl
      rw [e11, ew, a2.1] at sc
      by_cases c0 : x = 0
      · rw [if_pos c0] at sc sm; exact zAg_ro h sc sm
      rw [if_neg c0] at sc sm
      by_cases c1 : x = 1
      · rw [if_pos c1] at sc sm; exact zAg_ro h sc sm
      rw [if_neg c1] at sc sm
      by_cases c2 : x = 2
      · rw [if_pos c2] at sc sm; exact zAg_ro h sc (by rw [← a3.2.1]; exact sm)
      rw [if_neg c2] at sc sm
      by_cases c3 : x = 3
      · rw [if_pos c3] at sc sm; exact zAg_ro h sc (by rw [a4.1, ← a4.2.1]; exact sm)
      rw [if_neg c3] at sc sm
      by_cases c4 : x = 4
      · rw [if_pos c4] at sc sm; exact zAg_ro h sc (by rw [a5.1, ← a5.2.1]; exact sm)
      rw [if_neg c4] at sc sm
      by_cases c5 : x = 5
      · rw [if_pos c5] at sc sm; exact zAg_ro h sc (by rw [b1, ← b2]; exact sm)
      rw [if_neg c5] at sc sm
      by_cases c6 : x = 6
      · rw [if_pos c6] at sc sm; exact zAg_ro h sc (by rw [a7.1, ← a7.2.1]; exact sm)
      rw [if_neg c6] at sc sm
      by_cases c7 : x = 7
      · rw [if_pos c7] at sc sm; exact zAg_ro h sc (by rw [a8.1, ← a8.2.1]; exact sm)
      rw [if_neg c7] at sc sm
      by_cases c8 : x = 8
      · rw [if_pos c8] at sc sm; exact zAg_ro h sc (by rw [a9.1]; exact sm)
      rw [if_neg c8] at sc sm
      by_cases c9 : x = 9
      · rw [if_pos c9] at sc sm; exact zAg_ro h sc (by rw [a10]; exact sm)
      rw [if_neg c9] at sc sm
      by_cases c10 : x = 10
      · rw [if_pos c10] at sc sm; exact zAg_ro h sc (by rw [a11.1, ← a11.2.1]; exact sm)
      rw [if_neg c10] at sc sm
      exact zAg_ro h sc sm
theorem zin79b {k : Nat} (h : k < 79) : zin 208 (nI k) = true := (zin79 h).1
theorem p_tale (h : zInv q I R n) (x y : Int32) : zAg q I R n (C_tale 0 x y) (M_tale 195 x y) := by
  have W := h.1
  have hM := W.M
  have sc := e_C_tale 0 x y I R n
  have sm := e_M_tale 195 x y I R n
  have t18 : zup I 195 0 0 195 18 = I 195 18 := zT5 (by decide)
  rcases h.2.2 with k | ⟨L, L', P, Wk, z, m, t, k⟩
  · simp only [W.k, C_wasPlayed_N W k, zc_t, zbI_s, if_true] at sc
    simp only [hM.k, t18, k.2.1, zc_t, if_true] at sm
    exact zAg_ro h sc sm
  · have hWk := k.2.2.1.2.1.2.1
    obtain ⟨be, mo, w, f, sw, O, u, l, a1, a2, a3, a4, a5, a6, a7, a8, a9, a10, a11, a12, a13, a14⟩ := k.2.2.2.2.2.1
    have im := M_isIn_ok (I := zup I 195 0 0) (R := R) (n := n) x.toInt64 0 (nI w - 1).toInt64
    rw [zIs0 x (show w < 2 ^ 31 by omega)] at im
    have im2 := M_isIn_ok (I := zup I 195 0 0) (R := R) (n := n) y.toInt64 0 5
    rw [zIs y (N := 6) (by decide) (by decide) (by decide)] at im2
    simp only [W.k, W.1, W.r10, W.k10, C_wasPlayed_L W k a3.1 a3.2.2, zc_t, zr_s, zbI_s] at sc
    simp only [hM.k, hM.2, t18, k.2.1, zc_t, zr_s, zin208, zixs, Bool.true_or, Bool.true_and, zT8, a3.2.1, if_neg (show ¬ (1 : Int32) = 0 by decide), im, im2, zbI_s] at sm
    rcases zlt_cases x (N := w) (by omega) with c | ⟨a, ha, rfl, c⟩
    · rw [c, if_pos rfl] at sc sm; exact zAg_ro h sc sm
    · rw [c, if_neg (by decide)] at sc sm
      have t6 : (6 : Int32) = nI 6 := by decide
      rcases zlt_cases y (N := 6) (by decide) with d | ⟨j, hj, rfl, d⟩
      · rw [d, if_pos rfl] at sm
        refine zAg_ro h ?_ sm
        rw [sc]
        rcases zlt_no d with c1 | ⟨c1, c2⟩
        · rw [if_pos c1]
        · rw [t6, if_neg c1, if_neg c2]
      · rw [d, if_neg (by decide)] at sm
        rw [if_neg (nI_pos (by omega)), t6, if_pos (nI_lt hj (by decide))] at sc
        have kr := W.kr10 (show a < 6 by omega)
        simp only [zin_of W.S.ln.2 (show a < 6 by omega) (by decide), zix_nI (show a < 2 ^ 31 by omega), zix_nI (show j < 2 ^ 31 by omega), W.rr10 (show a < 6 by omega), kr.1, zin_of kr.2 hj (by decide), Bool.true_or, Bool.true_and, zc_t, zr_s] at sc
        have e43 : (43 : Int32) + 6 * nI a + nI j = nI (43 + (6 * a + j)) := by
          have t43 : (43 : Int32) = nI 43 := by decide
          rw [t43, t6, pk_mul, nI_add, nI_add, Nat.add_assoc]
        simp only [e43, zin79b (show 43 + (6 * a + j) < 79 by omega), zix_nI (show 43 + (6 * a + j) < 2 ^ 31 by omega), Bool.true_or, Bool.true_and, zc_t, zT8] at sm
        exact zAg_ro h sc (by rw [show I (13 + a) j = I 208 (43 + (6 * a + j)) from a13 a j ha hj]; exact sm)
end LRd
