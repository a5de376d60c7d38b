/-! ===== more calls that only read ===== -/
section LRe
variable {q : Nat} {I : ZI} {R : ZR} {n L L' P Wk z m : Nat} {t : Nat → Nat}
theorem p_team (h : zInv q I R n) (x : Int32) : zAg q I R n (C_team 0 x) (M_team 195 x) := by
  have W := h.1
  have hM := W.M
  have sc := e_C_team 0 x I R n
  have sm := e_M_team 195 x I R n
  have t18 : zup I 195 0 0 195 18 = I 195 18 := zT5 (by decide)
  rcases h.2.2 with k | ⟨L, L', P, Wk, z, m, t, k⟩
  · simp only [W.k, k.2.1, zc_t, if_true] at sc
    simp only [hM.k, t18, k.2.1, zc_t, if_true] at sm
    exact zAg_ro h sc sm
  · have hL := W.L k.1.1
    have g := k.2.2.1
    have kJ := zLea_t k 0
    have gJ := kJ.2.2.1
    have hP := g.1.2.1
    simp only [W.k, k.2.1, k.1.2.2.2.1, hL.k, zc_t, zr_s, if_neg (show ¬ (1 : Int32) = 0 by decide), Lg_knows_ok hL g.1.2.2.1, zbI_s] at sc
    simp only [hM.k, t18, k.2.1, zc_t, if_neg (show ¬ (1 : Int32) = 0 by decide), M_isSet_ok hM kJ.2.1.2 gJ.1.2.2.2, zbI_s] at sm
    rcases zset1_cases x hP with c | ⟨S, hS, rfl, c⟩
    · rw [c, if_pos rfl] at sc sm; exact zAg_ro h sc sm
    · have hS2 := z65 hS hP
      rw [c, if_neg (by decide)] at sc sm
      simp only [Lg_fillsSlots_ok (S := S) hL hP g.2.2.2.2.2.2.2.2.1, Lg_keepsClubs_ok (S := S) hL hP g.2.2.2.2.2.2.2.2.2, zbI_s, W.k, k.1.2.2.2.1, hL.k, zc_t, zr_s] at sc
      simp only [M_hasSlots_ok (S := S) hM (by omega) hP gJ.1.2.2.2, M_hasClubs_ok (S := S) hM (by omega) hP gJ.1.2.2.2, zbI_s, hM.k, zc_t] at sm
      have e1 : zb01 (mSlots (zup I 195 0 0) S P) = zb01 (cSlots I L S P) := zb01_c (by
        rw [mSlots_c gJ, cSlots_c (J := zup I 195 0 0) (I := I) (funext fun j => zTn I 0 j (by have := isL_i k.1.1; omega)) (funext fun j => zTn I 0 j (by have := isL_i k.1.1; omega))])
      have e2 : zb01 (mClubs (zup I 195 0 0) S P) = zb01 (cClubs I L S P) := zb01_c (by
        rw [mClubs_c gJ]
        unfold cClubs
        rw [show zup I 195 0 0 (L + 2) = I (L + 2) from funext fun j => zTn I 0 j (by have := isL_i k.1.1; omega), show zup I 195 0 0 (L + 4) = I (L + 4) from funext fun j => zTn I 0 j (by have := isL_i k.1.1; omega)])
      rw [e1, e2] at sm
      rcases zb01_cases (cSlots I L S P) with ⟨-, d⟩ | ⟨-, d⟩
      · rw [d, if_neg (by decide)] at sc sm
        rcases zb01_cases (cClubs I L S P) with ⟨-, d⟩ | ⟨-, d⟩
        · rw [d, if_neg (by decide)] at sc sm; exact zAg_ro h sc sm
        · rw [d, if_pos rfl] at sc sm; exact zAg_ro h sc sm
      · rw [d, if_pos rfl] at sc sm; exact zAg_ro h sc sm
theorem p_price (h : zInv q I R n) (x : Int32) : zAg q I R n (C_price 0 x) (M_price 195 x) := by
  have W := h.1
  have hM := W.M
  have sc := e_C_price 0 x I R n
  have sm := e_M_price 195 x I R n
  have t18 : zup I 195 0 0 195 18 = I 195 18 := zT5 (by decide)
  rcases h.2.2 with k | ⟨L, L', P, Wk, z, m, t, k⟩
  · simp only [W.k, k.2.1, zc_t, if_true] at sc
    simp only [hM.k, M_isSet_no hM (show zup I 195 0 0 195 18 = 0 by rw [t18]; exact k.2.1.2), zbI_s, zc_t, if_true] at sm
    exact zAg_ro h sc sm
  · have hL := W.L k.1.1
    have g := k.2.2.1
    have kJ := zLea_t k 0
    have gJ := kJ.2.2.1
    have hP := g.1.2.1
    have hWk := g.2.1.2.1
    obtain ⟨be, mo, w, f, sw, O, u, l, a1, a2, a3, a4, a5, a6, a7, a8, a9, a10, a11, a12, a13, a14⟩ := k.2.2.2.2.2.1
    simp only [W.k, W.1, k.2.1, k.1.2.2.2.1, hL.k, zc_t, zr_s, if_neg (show ¬ (1 : Int32) = 0 by decide), Lg_knows_ok hL g.1.2.2.1, zbI_s, a3.1] at sc
    simp only [hM.k, zc_t, M_isSet_ok hM kJ.2.1.2 gJ.1.2.2.2, zbI_s] at sm
    rcases zset1_cases x hP with c | ⟨S, hS, rfl, c⟩
    · rw [c, if_pos rfl] at sc sm; exact zAg_ro h sc sm
    · have hS2 := z65 hS hP
      rw [c, if_neg (by decide)] at sc sm
      simp only [Lg_priceOf_ok (S := S) hL (by omega) hP g.1.2.2.1 (show w < 7 by omega), zbI_s] at sc
      simp only [M_pricesOf_ok (S := S) hM (by omega) hP gJ.1.2.2.2, zbI_s, zT8] at sm
      have e : zsum S (I (L + 15 + w)) P = zsum S (fun i => I 208 (11 + i)) P := zsum_congr (fun i hi _ => (a14 i hi).symm)
      exact zAg_ro h sc (by rw [e]; exact sm)
theorem p_priceThen (h : zInv q I R n) (x y : Int32) : zAg q I R n (C_priceThen 0 x y) (M_priceThen 195 x y) := by
  have W := h.1
  have hM := W.M
  have sc := e_C_priceThen 0 x y I R n
  have sm := e_M_priceThen 195 x y I R n
  have t18 : zup I 195 0 0 195 18 = I 195 18 := zT5 (by decide)
  rcases h.2.2 with k | ⟨L, L', P, Wk, z, m, t, k⟩
  · simp only [W.k, C_isPlayer_N W k, zc_t, zbI_s, if_true] at sc
    simp only [hM.k, M_isPlayer_no hM (show zup I 195 0 0 195 18 = 0 by rw [t18]; exact k.2.1.2), zc_t, zbI_s, if_true] at sm
    exact zAg_ro h sc sm
  · have hL := W.L k.1.1
    have g := k.2.2.1
    have kJ := zLea_t k 0
    have gJ := kJ.2.2.1
    have hP := g.1.2.1
    have hWk := g.2.1.2.1
    have i1 := isL_i k.1.1
    simp only [W.k, C_isPlayer_L W k, C_isWeek_L W k, k.1.2.2.2.1, hL.k, hL.r, zc_t, zr_s, zbI_s] at sc
    simp only [hM.k, hM.2, M_isPlayer_ok hM kJ.2.1.2 gJ.1.2.2.2 g.1.1 hP, M_isWeek_ok hM kJ.2.1.2 gJ.2.1.2.2.2 g.2.1.1 hWk, zc_t, zr_s, zbI_s] at sm
    rcases zlt_cases x (N := P) (by omega) with c | ⟨i, hi, rfl, c⟩
    · rw [c, if_pos rfl] at sc sm; exact zAg_ro h sc sm
    · rw [c, if_neg (by decide)] at sc sm
      rcases zlt_cases y (N := Wk) (by omega) with d | ⟨w, hw, rfl, d⟩
      · rw [d, if_pos rfl] at sc sm; exact zAg_ro h sc sm
      · rw [d, if_neg (by decide)] at sc sm
        simp only [nI_1, zin_of hL.ln.2.2.2.2.2.2.2 (show w + 1 < 7 by omega) (by decide), zix_nI (show w + 1 < 2 ^ 31 by omega), hL.2.2.2.2 (w + 1) (by omega), (hL.pw (show w + 1 < 7 by omega)).1, zin_of (hL.pw (show w + 1 < 7 by omega)).2 (show i < 16 by omega) (by decide), zix_nI (show i < 2 ^ 31 by omega), Bool.true_or, Bool.true_and, zc_t, zr_s] at sc
        simp only [M_foretold_ok hM (show i < 16 by omega) (show w < 6 by omega), zbI_s] at sm
        have e := (gJ.2.2.2.2.2.2.1 (w + 1) i (by omega) hi).2
        rw [zTn I 0 i (by omega)] at e
        exact zAg_ro h sc (by rw [e]; exact sm)
theorem M_worthThen45_ok {J : ZI} (h : WM R n) {O P w : Nat} (hb : J 208 0 = 1) (ht : J 208 1 = nI O) (hO : O < 2 ^ 31) (hp : J 195 17 = nI P) (hP : P ≤ 16) (hw : w < 6) (x : Int32) : M_worthThen_45 195 (nI w) x 0 J R n = some (some (.int (x + zsum O (fun i => zbrings (mFore J i (w + 1)) (J 208 (27 + i))) P)), J, R, n) := by
  have key : ∀ k, k ≤ P → M_worthThen_45 195 (nI w) x (nI 0) J R n = M_worthThen_45 195 (nI w) (x + zsum O (fun i => zbrings (mFore J i (w + 1)) (J 208 (27 + i))) k) (nI k) J R n := by
    intro k
    induction k with
    | zero => intro _; show _ = M_worthThen_45 195 (nI w) (x + 0) _ _ _ _; rw [Int32.add_zero]
    | succ k ih =>
      intro hk
      have e27 : (27 : Int32) + nI k = nI (27 + k) := nI_add 27 k
      have e3 : (!(decide ((2 : Nat) = 0))) = true := by decide
      have st := e_M_worthThen_45 195 (nI w) (x + zsum O (fun i => zbrings (mFore J i (w + 1)) (J 208 (27 + i))) k) (nI k) J R n
      simp only [h.k, h.2, zc_t, zr_s, hp, if_pos (nI_lt (show k < P by omega) (show P < 2 ^ 31 by omega)), M_isOwned_ok h hb ht hO (show k < 32 by omega), zbI_s, e27, e3, zin79b (show 27 + k < 79 by omega), Bool.true_or, Bool.true_and, zix_nI (show 27 + k < 2 ^ 31 by omega), M_foretold_ok h (show k < 16 by omega) hw, nI_1] at st
      rw [ih (by omega), zsum_succ, st]
      cases hbit : O.testBit k with
      | false => rw [if_pos (show (if false = true then (1 : Int32) else 0) = 0 from rfl), if_neg (show ¬ (false = true) by decide), Int32.add_zero]
      | true =>
        have eb : zbrings (mFore J k (w + 1)) (J 208 (27 + k)) = if J 208 (27 + k) < mFore J k (w + 1) then J 208 (27 + k) + (mFore J k (w + 1) - J 208 (27 + k)) / 2 else mFore J k (w + 1) := rfl
        rw [if_neg (show ¬ (if true = true then (1 : Int32) else 0) = 0 by decide), if_pos (show true = true from rfl), ← Int32.add_assoc x, eb]
        by_cases c : J 208 (27 + k) < mFore J k (w + 1)
        · rw [if_pos c, if_pos c]
        · rw [if_neg c, if_neg c]
  have e := key P (Nat.le_refl _)
  rw [nI_0] at e
  rw [e, e_M_worthThen_45]
  simp only [h.k, zc_t, hp]
  rw [if_neg (nI_nlt (Nat.le_refl _) (by omega))]
theorem p_worthThen (h : zInv q I R n) (x : Int32) : zAg q I R n (C_worthThen 0 x) (M_worthThen 195 x) := by
  have W := h.1
  have hM := W.M
  have sc := e_C_worthThen 0 x I R n
  have sm := e_M_worthThen 195 x I R n
  simp only [hM.k, hM.2, zc_t, zr_s, zin208, zixs, Bool.true_or, Bool.true_and, zT8] at sm
  rcases h.2.2 with k | ⟨L, L', P, Wk, z, m, t, k⟩
  · simp only [W.k, W.1, k.2.2.1, zc_t, zr_s, if_true] at sc
    simp only [k.2.2.1, if_true] at sm
    exact zAg_ro h sc sm
  · have hL := W.L k.1.1
    have g := k.2.2.1
    have kJ := zLea_t k 0
    have gJ := kJ.2.2.1
    have hP := g.1.2.1
    have hWk := g.2.1.2.1
    have i1 := isL_i k.1.1
    obtain ⟨be, mo, w, f, sw, O, u, l, a1, a2, a3, a4, a5, a6, a7, a8, a9, a10, a11, a12, a13, a14⟩ := k.2.2.2.2.2.1
    have hO2 := z65 a7.2.2.1 hP
    simp only [W.k, W.1, k.1.2.2.2.1, hL.k, hL.r, zc_t, zr_s, a1.1, a3.1, C_isWeek_L W k, zbI_s] at sc
    simp only [a1.2, M_isWeek_ok hM kJ.2.1.2 gJ.2.1.2.2.2 g.2.1.1 hWk, hM.k, hM.2, zc_t, zr_s, zin208, zixs, Bool.true_or, Bool.true_and, zbI_s, zT8, a3.2.1] at sm
    cases be with
    | false =>
      rw [if_pos (by decide)] at sc sm
      exact zAg_ro h sc sm
    | true =>
      rw [if_neg (by decide)] at sc sm
      rcases zlt_cases x (N := Wk) (by omega) with d | ⟨y, hy, rfl, d⟩
      · rw [d, if_pos rfl] at sc sm; exact zAg_ro h sc sm
      · rw [d, if_neg (by decide)] at sc sm
        by_cases c : nI y < nI w
        · rw [if_pos c] at sc sm; exact zAg_ro h sc sm
        · rw [if_neg c] at sc sm
          have wo := Se_worth_ok (I := I) W.S a7.1 (show O < 2 ^ 31 by omega) (hL.pw (show y + 1 < 7 by omega)).1 (hL.pw (show y + 1 < 7 by omega)).2
          simp only [nI_1, zin_of hL.ln.2.2.2.2.2.2.2 (show y + 1 < 7 by omega) (by decide), zix_nI (show y + 1 < 2 ^ 31 by omega), hL.2.2.2.2 (y + 1) (by omega), Bool.true_or, Bool.true_and, zc_t, zr_s, wo, zbI_s] at sc
          have wm := M_worthThen45_ok (J := zup I 195 0 0) (R := R) (n := n) (w := y) hM (O := O) (by rw [zT8, a1.2]; rfl) (by rw [zT8]; exact a7.2.1) (by omega) gJ.1.2.2.2 hP (by omega) (I 208 2)
          rw [wm, a2.2.1] at sm
          have e11 : I (10 + 1) = I 11 := rfl
          have ew : zsum O (fun i => zbrings (I (L + 15 + (y + 1)) i) (I 11 i)) 16 = zsum O (fun i => zbrings (mFore (zup I 195 0 0) i (y + 1)) (zup I 195 0 0 208 (27 + i))) P := zsum16 a7.2.2.1 hP (fun i hi ho => by
            obtain ⟨v, -, -, v1, v2⟩ := a12 i hi ho
            have e := (gJ.2.2.2.2.2.2.1 (y + 1) i (by omega) hi).2
            rw [zTn I 0 i (by omega)] at e
            rw [v1, zT8, v2, e])
          rw [e11, ew, a2.1] at sc
          exact zAg_ro h sc sm
theorem p_apart (h : zInv q I R n) (x y v u : Int32) : zAg q I R n (C_apart 0 x y v u) (M_apart 195 x y v u) := by
  have W := h.1
  have hM := W.M
  have sc := e_C_apart 0 x y v u I R n
  have sm := e_M_apart 195 x y v u I R n
  have t18 : zup I 195 0 0 195 18 = I 195 18 := zT5 (by decide)
  rcases h.2.2 with k | ⟨L, L', P, Wk, z, m, t, k⟩
  · simp only [W.k, C_isWeek_N W k, zc_t, zbI_s, if_true] at sc
    simp only [hM.k, M_isSet_no hM (show zup I 195 0 0 195 18 = 0 by rw [t18]; exact k.2.1.2), zbI_s, zc_t, if_true] at sm
    exact zAg_ro h sc sm
  · have hL := W.L k.1.1
    have g := k.2.2.1
    have kJ := zLea_t k 0
    have gJ := kJ.2.2.1
    have hP := g.1.2.1
    have hWk := g.2.1.2.1
    have im := M_isIn_ok (I := zup I 195 0 0) (R := R) (n := n) u.toInt64 0 1
    rw [zIs u (N := 2) (by decide) (by decide) (by decide)] at im
    simp only [W.k, k.1.2.2.2.1, hL.k, zc_t, zr_s, C_isWeek_L W k, Lg_knows_ok hL g.1.2.2.1, zbI_s] at sc
    simp only [hM.k, zc_t, M_isSet_ok hM kJ.2.1.2 gJ.1.2.2.2, M_isWeek_ok hM kJ.2.1.2 gJ.2.1.2.2.2 g.2.1.1 hWk, im, zbI_s] at sm
    rcases zlt_cases v (N := Wk) (by omega) with d | ⟨w, hw, rfl, d⟩
    · rw [d, if_pos rfl] at sc
      rw [d, if_pos (show (0 : Int32) = 0 from rfl), ite_self, ite_self] at sm
      exact zAg_ro h sc sm
    · rw [d, if_neg (by decide)] at sc
      rw [d, if_neg (show ¬ (1 : Int32) = 0 by decide)] at sm
      rcases zset1_cases x hP with c | ⟨S, hS, rfl, c⟩
      · rw [c, if_pos rfl] at sc sm; exact zAg_ro h sc sm
      · have hS2 := z65 hS hP
        rw [c, if_neg (by decide)] at sc sm
        rcases zset1_cases y hP with c | ⟨T, hT, rfl, c⟩
        · rw [c, if_pos rfl] at sc sm; exact zAg_ro h sc sm
        · have hT2 := z65 hT hP
          rw [c, if_neg (by decide)] at sc sm
          rw [zandn hS2, zandn hT2] at sc sm
          have b1 : S &&& (65535 ^^^ T) < 2 ^ 31 := Nat.lt_of_le_of_lt Nat.and_le_left (by omega)
          have b2 : T &&& (65535 ^^^ S) < 2 ^ 31 := Nat.lt_of_le_of_lt Nat.and_le_left (by omega)
          simp only [Lg_pointsOf_ok hL b1 hP g.1.2.2.1 (show w < 6 by omega), Lg_pointsOf_ok hL b2 hP g.1.2.2.1 (show w < 6 by omega), zbI_s] at sc
          simp only [M_pointsOf_ok hM b1 hP gJ.1.2.2.2 (show w < 6 by omega), M_pointsOf_ok hM b2 hP gJ.1.2.2.2 (show w < 6 by omega), zbI_s] at sm
          have e : ∀ A, zsum A (I (L + 8 + w)) P = zsum A (fun i => zup I 195 0 0 206 (6 * i + w)) P := fun A => zsum_congr (fun i hi _ => by rw [zTn I 0 _ (by decide), (g.2.2.2.2.2.2.2.1 w i hw hi).1])
          rw [e, e] at sc
          rcases zlt_cases u (N := 2) (by decide) with d | ⟨j, hj, rfl, d⟩
          · rw [d, if_pos rfl] at sm
            refine zAg_ro h ?_ sm
            rw [sc, if_neg (fun q => by rw [q] at d; exact absurd d (by decide)), if_neg (fun q => by rw [q] at d; exact absurd d (by decide))]
          · rw [d, if_neg (by decide)] at sm
            have j2 : j = 0 ∨ j = 1 := by omega
            rcases j2 with rfl | rfl
            · rw [if_pos nI_0] at sc sm; exact zAg_ro h sc sm
            · rw [if_neg (by decide)] at sc sm
              rw [if_pos (by decide)] at sc
              exact zAg_ro h sc sm
theorem zoutL_c {o i : Nat} {pt pt' : Nat → Nat → Int32} {Wk : Nat} : ∀ k w b, w + k = Wk → (∀ w', w' < Wk → pt w' o = pt' w' o ∧ pt w' i = pt' w' i) → zoutL o i pt k w b = zoutL o i pt' k w b
  | 0, _, _, _, _ => rfl
  | k + 1, w, b, hk, h => by
    show (if pt w o < pt w i then false else zoutL o i pt k (w + 1) (b || decide (pt w i < pt w o))) = (if pt' w o < pt' w i then false else zoutL o i pt' k (w + 1) (b || decide (pt' w i < pt' w o)))
    rw [(h w (by omega)).1, (h w (by omega)).2, zoutL_c k (w + 1) _ (by omega) h]
theorem zfirst_c {c d : Nat → Bool} : ∀ k i, (∀ j, i ≤ j → j < i + k → c j = d j) → zfirst c i k = zfirst d i k
  | 0, _, _ => rfl
  | k + 1, i, h => by
    show (bif c i then some i else zfirst c (i + 1) k) = (bif d i then some i else zfirst d (i + 1) k)
    rw [h i (by omega) (by omega), zfirst_c k (i + 1) (fun j h1 h2 => h j (by omega) (by omega))]
theorem zwho_c {pl pl' pr pr' : Nat → Int32} {pt pt' : Nat → Nat → Int32} {w0 Wk P i : Nat} (hi : i < P) (h0 : w0 ≤ Wk) (h1 : ∀ j, j < P → pl j = pl' j) (h2 : ∀ j, j < P → pr j = pr' j) (h3 : ∀ w j, w < Wk → j < P → pt w j = pt' w j) : zwho pl pr pt w0 Wk P i = zwho pl' pr' pt' w0 Wk P i := by
  unfold zwho
  refine zfirst_c P 0 (fun o _ ho => ?_)
  unfold zoutd
  rw [h1 o (by omega), h1 i hi, h2 o (by omega), h2 i hi, zoutL_c (Wk := Wk) (Wk - w0) w0 _ (by omega) (fun w hw => ⟨h3 w o hw (by omega), h3 w i hw hi⟩)]
theorem zmany_c {pl pl' pr pr' : Nat → Int32} {pt pt' : Nat → Nat → Int32} {w0 Wk P : Nat} (h0 : w0 ≤ Wk) (h1 : ∀ j, j < P → pl j = pl' j) (h2 : ∀ j, j < P → pr j = pr' j) (h3 : ∀ w j, w < Wk → j < P → pt w j = pt' w j) : ∀ k, k ≤ P → zmany pl pr pt w0 Wk P k = zmany pl' pr' pt' w0 Wk P k
  | 0, _ => rfl
  | k + 1, hk => by rw [zmany_succ, zmany_succ, zmany_c h0 h1 h2 h3 k (by omega), zwho_c (by omega) h0 h1 h2 h3]
theorem zbest_c {c d : Nat → Nat → Bool} : ∀ k, (∀ a b, a ≤ k → b ≤ k → c a b = d a b) → zbest c k = zbest d k
  | 0, _ => rfl
  | k + 1, h => by
    rw [zbest_succ, zbest_succ, zbest_c k (fun a b h1 h2 => h a b (by omega) (by omega)), h (k + 1) _ (by omega) (by have := zbest_le d k; omega)]
theorem zrow_c {f g : Nat → Int32} {w0 : Nat} : ∀ k, (∀ w, w < w0 + k → f w = g w) → zrow f w0 k = zrow g w0 k
  | 0, _ => rfl
  | k + 1, h => by
    show zrow f w0 k + f (w0 + k) = zrow g w0 k + g (w0 + k)
    rw [zrow_c k (fun w hw => h w (by omega)), h (w0 + k) (by omega)]
theorem zrow_bd {f : Nat → Int32} {w0 : Nat} : ∀ k, k ≤ 6 → (∀ w, w < w0 + k → zbd 99 (f w)) → zbd (99 * k) (zrow f w0 k)
  | 0, _, _ => by show zbd 0 0; unfold zbd; decide
  | k + 1, hk, h => by
    have i := zrow_bd (f := f) (w0 := w0) k (by omega) (fun w hw => h w (by omega))
    have := zbd_add i (h (w0 + k) (by omega)) (by omega)
    exact zbd_mono this.1 (by omega)
theorem p_outdone (h : zInv q I R n) (x : Int32) : zAg q I R n (C_outdone 0 x) (M_outdone 195 x) := by
  have W := h.1
  have hM := W.M
  have sc := e_C_outdone 0 x I R n
  have sm := e_M_outdone 195 x I R n
  have t18 : zup I 195 0 0 195 18 = I 195 18 := zT5 (by decide)
  rcases h.2.2 with k | ⟨L, L', P, Wk, z, m, t, k⟩
  · simp only [W.k, C_weeks_N W k, zc_t, zbI_s, if_true] at sc
    simp only [hM.k, M_isPlayer_no hM (show zup I 195 0 0 195 18 = 0 by rw [t18]; exact k.2.1.2), zc_t, zbI_s, if_true] at sm
    exact zAg_ro h sc sm
  · have hL := W.L k.1.1
    have g := k.2.2.1
    have kJ := zLea_t k 0
    have gJ := kJ.2.2.1
    have hP := g.1.2.1
    have hWk := g.2.1.2.1
    obtain ⟨be, mo, w, f, sw, O, u, l, a1, a2, a3, a4, a5, a6, a7, a8, a9, a10, a11, a12, a13, a14⟩ := k.2.2.2.2.2.1
    simp only [W.k, W.1, C_weeks_L W k, k.1.2.2.2.1, hL.k, zc_t, zr_s, zbI_s, a3.1, zlt_nI (show w < 2 ^ 31 by omega) (show Wk < 2 ^ 31 by omega), Lg_hasPlayer_ok hL g.1.2.2.1] at sc
    simp only [hM.k, M_isPlayer_ok hM kJ.2.1.2 gJ.1.2.2.2 g.1.1 hP, M_isOver_ok hM, zT8, a3.2.1, gJ.2.1.2.2.2, nI_eq (show w < 2 ^ 31 by omega) (show Wk < 2 ^ 31 by omega), zc_t, zbI_s] at sm
    by_cases cw : w < Wk
    · rw [if_pos cw, if_neg (by decide)] at sc
      rw [if_neg (show ¬ w = Wk by omega), if_pos (show (0 : Int32) = 0 from rfl)] at sm
      rcases zlt_cases x (N := P) (by omega) with c | ⟨i, hi, rfl, c⟩
      · rw [c, if_pos rfl] at sc sm; exact zAg_ro h sc sm
      · rw [c, if_neg (by decide)] at sc sm
        have pts : ∀ w j, w < Wk → j < P → zsm (I (L + 8 + w) j) := fun w j h1 h2 => by
          have := (g.2.2.2.2.2.2.2.1 w j h1 h2).2
          unfold zbd at this; unfold zsm; omega
        simp only [Lg_whoOutdoes_ok hL hi g.1.2.2.1 hP g.2.1.2.2.1 hWk a3.2.2 pts, zbI_s] at sc
        simp only [M_outdoneBy_ok hM (show i < 16 by omega) gJ.1.2.2.2 hP gJ.2.1.2.2.2 hWk (show zup I 195 0 0 208 9 = nI w by rw [zT8]; exact a3.2.1) a3.2.2, zbI_s] at sm
        rw [zwho_c (pl' := zup I 195 0 0 203) (pr' := fun j => zup I 195 0 0 208 (11 + j)) (pt' := fun w j => zup I 195 0 0 206 (6 * j + w)) hi a3.2.2 (fun j hj => by
          obtain ⟨⟨v, -, v1, v2⟩, -⟩ := g.2.2.2.2.2.1 j hj
          rw [zTn I 0 _ (by decide), v1, v2]) (fun j hj => by rw [zT8, a14 j hj]) (fun w j h1 h2 => by rw [zTn I 0 _ (by decide), (g.2.2.2.2.2.2.2.1 w j h1 h2).1])] at sc
        exact zAg_ro h sc sm
    · rw [if_neg cw, if_pos rfl] at sc
      rw [if_pos (show w = Wk by have := a3.2.2; omega), if_neg (show ¬ (1 : Int32) = 0 by decide), ite_self] at sm
      exact zAg_ro h sc sm
end LRe
