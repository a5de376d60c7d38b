section LSt
variable {q : Nat} {I J : ZI} {R : ZR} {n L L' P Wk z m : Nat} {t : Nat → Nat}
theorem cCan_c {w X : Nat} {mo : Int32} {i o : Nat} (iL : isL L) (hw : w < 7) (h : ∀ b, b < 195 → b ≠ 138 → b ≠ 139 → b ≠ 140 → J b = I b) : cCan J L w P X mo i o = cCan I L w P X mo i o := by
  have i1 := isL_i iL
  have i2 : L + 22 ≤ 195 := by rcases iL with y | y <;> omega
  unfold cCan cClubs
  rw [h 10 (by decide) (by decide) (by decide) (by decide), h (L + 3) (by omega) (by omega) (by omega) (by omega), h (L + 15 + w) (by omega) (by omega) (by omega) (by omega), h (L + 2) (by omega) (by omega) (by omega) (by omega), h (L + 4) (by omega) (by omega) (by omega) (by omega)]
theorem cF1_c {w O : Nat} {G : Nat → Int32} {i o : Nat} {a : Bool × Int32 × Int32 × Int32 × Int32 × Int32} (iL : isL L) (hw : w < 7) (h : ∀ b, b < 195 → b ≠ 138 → b ≠ 139 → b ≠ 140 → J b = I b) : cF1 J L w P O G i o a = cF1 I L w P O G i o a := by
  have i1 := isL_i iL
  have i2 : L + 22 ≤ 195 := by rcases iL with y | y <;> omega
  unfold cF1
  rw [cCan_c iL hw h, h 10 (by decide) (by decide) (by decide) (by decide), h 11 (by decide) (by decide) (by decide) (by decide), h (L + 15 + w) (by omega) (by omega) (by omega) (by omega)]
theorem cF2_c {w O : Nat} {G : Nat → Int32} {i o i2 o2 : Nat} {left : Int32} {a : Bool × Int32 × Int32 × Int32 × Int32 × Int32} (iL : isL L) (hw : w < 7) (h : ∀ b, b < 195 → b ≠ 138 → b ≠ 139 → b ≠ 140 → J b = I b) : cF2 J L w P O G i o left i2 o2 a = cF2 I L w P O G i o left i2 o2 a := by
  have i1 := isL_i iL
  have i2 : L + 22 ≤ 195 := by rcases iL with y | y <;> omega
  unfold cF2
  rw [cCan_c iL hw h, h 11 (by decide) (by decide) (by decide) (by decide), h (L + 15 + w) (by omega) (by omega) (by omega) (by omega)]
theorem cF3_c {w O : Nat} {G : Nat → Int32} {i o : Nat} {a : Bool × Int32 × Int32 × Int32 × Int32 × Int32} (iL : isL L) (hw : w < 7) (h : ∀ b, b < 195 → b ≠ 138 → b ≠ 139 → b ≠ 140 → J b = I b) : cF3 J L w P O G i o a = cF3 I L w P O G i o a := by
  have i1 := isL_i iL
  have i2 : L + 22 ≤ 195 := by rcases iL with y | y <;> omega
  unfold cF3
  rw [cCan_c iL hw h, h 10 (by decide) (by decide) (by decide) (by decide), h 11 (by decide) (by decide) (by decide) (by decide), h (L + 15 + w) (by omega) (by omega) (by omega) (by omega)]
  rw [show (fun i2 => zgo (cF2 J L w P O G i o (I 10 3 + zbrings (I (L + 15 + w) i) (I 11 i) - I (L + 15 + w) o) i2) P 0) = fun i2 => zgo (cF2 I L w P O G i o (I 10 3 + zbrings (I (L + 15 + w) i) (I 11 i) - I (L + 15 + w) o) i2) P 0 from funext fun i2 => funext fun b => zgo_congr _ _ _ (fun _ _ _ _ => cF2_c iL hw h)]
/-- behind a search: the invariant, and what the reference's search needs -/
theorem zfound (h : zInv q I R n) (hq : q ≤ 100000) (k : zLea q I R n L L' P Wk z m t) {mo w f sw O u l : Nat} (a2 : I 10 3 = nI mo ∧ I 208 2 = nI mo ∧ mo ≤ 1000 + 100 * q) (a3 : I 10 4 = nI w ∧ I 208 9 = nI w ∧ w ≤ Wk) (a7 : cTeam I L O P) (a12 : ∀ i, i < P → O.testBit i = true → ∃ v, 1 ≤ v ∧ v ≤ 99 ∧ I 11 i = nI v ∧ I 208 (27 + i) = nI v) (a14 : ∀ i, i < P → I 208 (11 + i) = I (L + 15 + w) i) (hJ : ∀ b, b ≠ 138 → b ≠ 139 → b ≠ 140 → J b = I b) : zInv (q + 1) (zup J 195 0 0) (zRs R L w) n ∧ zLg (zup J 195 0 0) L P Wk z ∧ zSf (zup J 195 0 0) L P w O mo ∧ ∀ i, i < P → mG (zup J 195 0 0) w Wk i = zrow (fun w => I (L + 8 + w) i) w (Wk - w) := by
  have iL := k.1.1
  have i1 := isL_i iL
  have i2 : L + 22 ≤ 195 := by rcases iL with y | y <;> omega
  have g := k.2.2.1
  have hWk := g.2.1.2.1
  have row : ∀ b, b ≠ 138 → b ≠ 139 → b ≠ 140 → b ≠ 195 → zup J 195 0 0 b = I b := fun b h1 h2 h3 h4 => funext fun j => by rw [zup_n _ h4, hJ b h1 h2 h3]
  have kJ := zLea_f (q' := q + 1) (J := zup J 195 0 0) k (by omega) (fun b j hb => by
    have h1 : b ≠ 138 ∧ b ≠ 139 ∧ b ≠ 140 := by unfold zirr at hb; omega
    by_cases e : b = 195
    · rw [zup_k _ (by unfold zirr at hb; omega), hJ b h1.1 h1.2.1 h1.2.2]
    · rw [row b h1.1 h1.2.1 h1.2.2 e])
  have gJ := kJ.2.2.1
  refine ⟨⟨zWc_z (zWc_z (zWc_z h.1 (by omega)) (by omega)) (by omega), zBs_f h.2.1 (fun b j hb => ?_), Or.inr ⟨L, L', P, Wk, z, m, t, zLea_z (zLea_z (zLea_z kJ (by omega)) (by omega)) (by omega)⟩⟩, gJ, ⟨?_, ?_, fun i hi hb => ?_, fun i hi => ?_⟩, fun i hi => ?_⟩
  · by_cases e : b = 195
    · rw [zup_k _ (by unfold zbsr at hb; omega), hJ b (by omega) (by omega) (by omega)]
    · rw [row b (by unfold zbsr at hb; omega) (by unfold zbsr at hb; omega) (by unfold zbsr at hb; omega) e]
  · have := (cTeam_c (S := O) (P := P) (I := I) (J := zup J 195 0 0) (L := L) (fun b h1 h2 => row b (by omega) (by omega) (by omega) (by omega))).symm ▸ a7
    exact this.1
  · rw [row 10 (by decide) (by decide) (by decide) (by decide), row 208 (by decide) (by decide) (by decide) (by decide)]
    exact ⟨a2.1, a2.2.1, by omega⟩
  · rw [row 11 (by decide) (by decide) (by decide) (by decide), row 208 (by decide) (by decide) (by decide) (by decide)]
    exact a12 i hi hb
  · rw [row 208 (by decide) (by decide) (by decide) (by decide), row (L + 15 + w) (by omega) (by omega) (by omega) (by omega)]
    exact ⟨a14 i hi, (g.2.2.2.2.2.2.1 w i a3.2.2 hi).1⟩
  · have hz := zrow_J gJ hi w (Wk - w) (by omega)
    unfold mG
    rw [← hz]
    exact zrow_c _ (fun v hv => by rw [row (L + 8 + v) (by omega) (by omega) (by omega) (by omega)])
theorem p_bestSwap (h : zInv q I R n) (hq : q ≤ 100000) (x : Int32) : zAg q I R n (C_bestSwap 0 x) (M_bestSwap 195 x) := by
  have W := h.1
  have hM := W.M
  have hn := hM.1
  have sc := e_C_bestSwap 0 x I R n
  rcases h.2.2 with k | ⟨L, L', P, Wk, z, m, t, k⟩
  · have sm := e_M_bestSwap 195 x I R n
    simp only [W.k, C_inPlay_N W k, zc_t, zbI_s, if_true] at sc
    simp only [hM.k, M_isPlaying_N hM (show zup I 195 0 0 195 18 = 0 by rw [zup_k _ (by decide)]; exact k.2.1.2), zc_t, zbI_s, if_true] at sm
    exact zAg_ro h sc sm
  · have g := k.2.2.1
    have hL := W.L k.1.1
    have hP := g.1.2.1
    have hWk := g.2.1.2.1
    have iL := k.1.1
    have i1 := isL_i iL
    have i2 : L + 22 ≤ 195 := by rcases iL with y | y <;> omega
    obtain ⟨be, mo, w, f, sw, O, u, l, a1, a2, a3, a4, a5, a6, a7, a8, a9, a10, a11, a12, a13, a14⟩ := k.2.2.2.2.2.1
    have hO2 := z65 a7.2.2.1 hP
    have im := fun (J : ZI) (R' : ZR) => M_isIn_ok (I := J) (R := R') (n := n) x.toInt64 0 2
    rw [zIs x (N := 3) (by decide) (by decide) (y := 2) (by decide)] at im
    simp only [W.k, C_inPlay_L W k a1.1 a3.1 a3.2.2, zc_t, zbI_s] at sc
    have kJ := zLea_t k 0
    have pl : M_isPlaying 195 (zup I 195 0 0) R n = some (some (.int (zbo (be && decide (w < Wk)))), zup I 195 0 0, R, n) := M_isPlaying_L hM kJ.2.2.1 kJ.2.1.2 (by rw [zup_n _ (by decide)]; exact a1.2) (by rw [zup_n _ (by decide)]; exact a3.2.1) a3.2.2
    have sm0 := e_M_bestSwap 195 x I R n
    simp only [hM.k, pl, zc_t, zbI_s, im] at sm0
    cases hbw : (be && decide (w < Wk)) with
    | false =>
      rw [hbw, if_pos (by decide)] at sc sm0
      exact zAg_ro h sc sm0
    | true =>
      have hbe : be = true := by cases be with | true => rfl | false => cases hbw
      have hwW : w < Wk := by
        rw [hbe, Bool.true_and] at hbw
        exact of_decide_eq_true hbw
      subst hbe
      rw [hbw, if_neg (by decide)] at sc sm0
      rw [show (2 : Int32) = nI 2 by decide, zcl3 x (by decide)] at sc
      rcases zlt_cases x (N := 3) (by decide) with d | ⟨j, hj, rfl, d⟩
      · rw [d, if_pos rfl] at sm0
        rw [if_pos d] at sc
        exact zAg_ro h sc sm0
      · rw [if_neg (by rw [d]; decide)] at sc
        obtain ⟨b1, b2, b3, J, b4, b5, b6, b7, b8⟩ := Sw_start_ok (I := I) (R := R) (n := n) (L := L) (w := w) (Wk := Wk) (P := P) (by omega) W.2.2.2.2.1.1 W.2.2.2.2.1.2 hL W.S a3.1 a3.2.2 hWk g.2.1.2.2.1 hP g.1.2.2.1
        have e10 : J 10 = I 10 := b8 10 (by decide) (by decide)
        obtain ⟨J', c1, c2, c3⟩ := Sw_one_outer (I := J) (R := zRs R L w) (n := n) (P := P) (O := O) (G := J 140) b1 b2 b3 (by omega) (by omega) hP (zSets_congr (b8 _ (by omega) (by omega)) (b8 _ (by omega) (by omega)) g.2.2.2.2.2.2.2.2.2) (by rw [b8 L (by omega) (by omega)]; exact g.1.2.2.1) (by rw [e10]; exact a7.1) (fun _ _ => rfl) P 0 J (false, 0, -1, -1, -1, -1) (by omega) (fun _ _ _ => rfl) ⟨b5, b6, fun e => by cases e⟩
        have hJ' : ∀ b, b ≠ 138 → b ≠ 139 → b ≠ 140 → J' b = I b := fun b h1 h2 h3 => by rw [c2 b h1 h2, b8 b h1 h3]
        obtain ⟨d1, d2, d3, d4⟩ := zfound h hq k (w := w) (O := O) (f := f) (sw := sw) (u := u) (l := l) a2 a3 (a7.2.2.2.1 rfl) a12 a14 hJ'
        have hM1 := d1.1.M
        have kJ2 : zWc (zRs R L w) n := d1.1
        have fo := e_Sw_findOne 138 L 10 I R n
        rw [nI_0] at c1
        simp only [W.k, b4, zc_t, zbV_s, c1] at fo
        simp only [W.k, W.1, k.1.2.2.2.1, zc_t, zr_s, fo, zbI_s, kJ2.k, kJ2.1, kJ2.2.2.2.2.1.1] at sc
        have row : ∀ b, b ≠ 138 → b ≠ 139 → b ≠ 140 → b ≠ 195 → zup J' 195 0 0 b = I b := fun b h1 h2 h3 h4 => funext fun j => by rw [zup_n _ h4, hJ' b h1 h2 h3]
        have sm := e_M_bestSwap 195 (nI j) J' (zRs R L w) n
        have e18 : zup J' 195 0 0 195 18 = 1 := by rw [zup_k _ (by decide), hJ' 195 (by decide) (by decide) (by decide)]; exact k.2.1.2
        have r8 := row 208 (by decide) (by decide) (by decide) (by decide)
        simp only [hM1.k, hM1.2, M_isPlaying_L hM1 d2 e18 (show zup J' 195 0 0 208 0 = zbo true by rw [r8]; exact a1.2) (show zup J' 195 0 0 208 9 = nI w by rw [r8]; exact a3.2.1) a3.2.2, hbw, zc_t, zr_s, zbI_s, im, d, if_neg (show ¬ zbo true = 0 by decide), if_neg (show ¬ (1 : Int32) = 0 by decide), zin208, zixs, Bool.true_or, Bool.true_and, r8, ← a9.1] at sm
        by_cases ch : I 10 10 = 2
        · rw [if_pos ch] at sm
          have e0 : zgo (fun i => zgo (cF1 J L w P O (J 140) i) P 0) P 0 (false, (0 : Int32), (-1 : Int32), (-1 : Int32), (-1 : Int32), (-1 : Int32)) = (false, 0, -1, -1, -1, -1) := zgo_id _ _ _ (fun i b => zgo_id _ _ _ (fun o b => by
            unfold cF1
            rw [cCan_2 (by rw [e10]; exact ch)]; rfl))
          rw [e0] at sc
          rw [if_pos (show zbo false = 0 by decide)] at sc
          exact ⟨_, J', _, n, _, _, n, sc, sm, d1⟩
        · rw [if_neg ch] at sm
          have er : zgo (fun i => zgo (cF1 J L w P O (J 140) i) P 0) P 0 (false, (0 : Int32), (-1 : Int32), (-1 : Int32), (-1 : Int32), (-1 : Int32)) = zgo (fun i => zgo (mF1 (zup J' 195 0 0) w Wk P O i) P 0) P 0 (false, 0, -1, -1, -1, -1) := by
            refine zgo_congr _ _ _ (fun i b _ h2 => zgo_congr _ _ _ (fun o b2 _ h4 => ?_))
            rw [← zF1_eq d2 (by rw [row 10 (by decide) (by decide) (by decide) (by decide)]; exact ch) d3 (show i < P by omega) (show o < P by omega) b2]
            rw [cF1_c (I := zup J' 195 0 0) (J := J) iL (by omega) (fun b h1 h2 h3 h4 => by rw [row b h2 h3 h4 (by omega), b8 b h2 h4])]
            unfold cF1
            rw [b7 o (by omega), b7 i (by omega), d4 o (by omega), d4 i (by omega)]
          obtain ⟨r, r1, r2, r3⟩ := M_one_outer (I := zup J' 195 0 0) (R := zRs R L w) (n := n) (w := w) (Wk := Wk) (P := P) (O := O) hM1 hP d2.1.2.2.2 (by rw [r8, a1.2]; rfl) (by rw [r8]; exact a7.2.1) a7.2.2.1 d2.2.1.2.2.2 hWk (by rw [r8]; exact a3.2.1) a3.2.2 (nI j) P 0 (false, 0, -1, -1, -1, -1) (by omega) ⟨fun _ => rfl, fun e => by cases e⟩
          rw [nI_0] at r3
          rw [er, ← r1] at sc c3
          have sm2 := sm.trans r3
          obtain ⟨y1, y2, y3⟩ := c3
          refine ⟨_, J', _, n, _, _, n, ?_, sm2, d1⟩
          rw [sc]
          cases hr : r.1 with
          | false => rw [if_pos (show zbo false = 0 by decide), if_neg (by decide)]
          | true =>
            obtain ⟨v0, v1, v2, v3⟩ := y3 hr
            rw [if_neg (show ¬ zbo true = 0 by decide), if_pos rfl]
            have j3 : j = 0 ∨ j = 1 ∨ j = 2 := by omega
            have k139 : zis n 139 20 = true := (zkS (by omega)).2.1
            rcases j3 with rfl | rfl | rfl
            · rw [if_neg (show ¬ nI 0 = nI 2 by decide), if_pos nI_0]
              simp only [k139, nI_0, zin139, Bool.true_or, Bool.true_and, zc_t, show zix (0 : Int32) = 0 by decide, v0]
            · rw [if_neg (show ¬ nI 1 = nI 2 by decide), if_neg (show ¬ nI 1 = 0 by decide), if_pos (by decide)]
              simp only [k139, show nI 1 = (1 : Int32) by decide, zin139, Bool.true_or, Bool.true_and, zc_t, show zix (1 : Int32) = 1 by decide, v1]
            · rw [if_pos (by decide), if_neg (show ¬ nI 2 = 0 by decide), if_neg (show ¬ nI 2 = 1 by decide), y2]
theorem p_twoSwaps (h : zInv q I R n) (hq : q ≤ 100000) (x : Int32) : zAg q I R n (C_twoSwaps 0 x) (M_twoSwaps 195 x) := by
  have W := h.1
  have hM := W.M
  have hn := hM.1
  have sc := e_C_twoSwaps 0 x I R n
  rcases h.2.2 with k | ⟨L, L', P, Wk, z, m, t, k⟩
  · have sm := e_M_twoSwaps 195 x I R n
    simp only [W.k, C_inPlay_N W k, zc_t, zbI_s, if_true] at sc
    simp only [hM.k, M_isPlaying_N hM (show zup I 195 0 0 195 18 = 0 by rw [zup_k _ (by decide)]; exact k.2.1.2), zc_t, zbI_s, if_true] at sm
    exact zAg_ro h sc sm
  · have g := k.2.2.1
    have hL := W.L k.1.1
    have hP := g.1.2.1
    have hWk := g.2.1.2.1
    have iL := k.1.1
    have i1 := isL_i iL
    have i2 : L + 22 ≤ 195 := by rcases iL with y | y <;> omega
    obtain ⟨be, mo, w, f, sw, O, u, l, a1, a2, a3, a4, a5, a6, a7, a8, a9, a10, a11, a12, a13, a14⟩ := k.2.2.2.2.2.1
    have hO2 := z65 a7.2.2.1 hP
    have im := fun (J : ZI) (R' : ZR) => M_isIn_ok (I := J) (R := R') (n := n) x.toInt64 0 4
    rw [zIs x (N := 5) (by decide) (by decide) (y := 4) (by decide)] at im
    simp only [W.k, C_inPlay_L W k a1.1 a3.1 a3.2.2, zc_t, zbI_s] at sc
    have kJ := zLea_t k 0
    have pl : M_isPlaying 195 (zup I 195 0 0) R n = some (some (.int (zbo (be && decide (w < Wk)))), zup I 195 0 0, R, n) := M_isPlaying_L hM kJ.2.2.1 kJ.2.1.2 (by rw [zup_n _ (by decide)]; exact a1.2) (by rw [zup_n _ (by decide)]; exact a3.2.1) a3.2.2
    have sm0 := e_M_twoSwaps 195 x I R n
    simp only [hM.k, pl, zc_t, zbI_s, im] at sm0
    cases hbw : (be && decide (w < Wk)) with
    | false =>
      rw [hbw, if_pos (by decide)] at sc sm0
      exact zAg_ro h sc sm0
    | true =>
      have hbe : be = true := by cases be with | true => rfl | false => cases hbw
      have hwW : w < Wk := by
        rw [hbe, Bool.true_and] at hbw
        exact of_decide_eq_true hbw
      subst hbe
      rw [hbw, if_neg (by decide)] at sc sm0
      rw [show (4 : Int32) = nI 4 by decide, zcl3 x (by decide)] at sc
      rcases zlt_cases x (N := 5) (by decide) with d | ⟨j, hj, rfl, d⟩
      · rw [d, if_pos rfl] at sm0
        rw [if_pos d] at sc
        exact zAg_ro h sc sm0
      · rw [if_neg (by rw [d]; decide)] at sc
        obtain ⟨b1, b2, b3, J, b4, b5, b6, b7, b8⟩ := Sw_start_ok (I := I) (R := R) (n := n) (L := L) (w := w) (Wk := Wk) (P := P) (by omega) W.2.2.2.2.1.1 W.2.2.2.2.1.2 hL W.S a3.1 a3.2.2 hWk g.2.1.2.2.1 hP g.1.2.2.1
        have e10 : J 10 = I 10 := b8 10 (by decide) (by decide)
        obtain ⟨J', c1, c2, c3⟩ := Sw_two_outer (I := J) (R := zRs R L w) (n := n) (P := P) (O := O) (G := J 140) b1 b2 b3 a7.2.2.1 (by omega) hP (zSets_congr (b8 _ (by omega) (by omega)) (b8 _ (by omega) (by omega)) g.2.2.2.2.2.2.2.2.2) (by rw [b8 L (by omega) (by omega)]; exact g.1.2.2.1) (by rw [e10]; exact a7.1) (fun _ _ => rfl) P 0 J (false, 0, -1, -1, -1, -1) (by omega) (fun _ _ _ => rfl) ⟨b5, b6, fun e => by cases e⟩
        have hJ' : ∀ b, b ≠ 138 → b ≠ 139 → b ≠ 140 → J' b = I b := fun b h1 h2 h3 => by rw [c2 b h1 h2, b8 b h1 h3]
        obtain ⟨d1, d2, d3, d4⟩ := zfound h hq k (w := w) (O := O) (f := f) (sw := sw) (u := u) (l := l) a2 a3 (a7.2.2.2.1 rfl) a12 a14 hJ'
        have hM1 := d1.1.M
        have kJ2 : zWc (zRs R L w) n := d1.1
        have fo := e_Sw_findTwo 138 L 10 I R n
        rw [nI_0] at c1
        simp only [W.k, b4, zc_t, zbV_s, c1] at fo
        simp only [W.k, W.1, k.1.2.2.2.1, zc_t, zr_s, fo, zbI_s, kJ2.k, kJ2.1, kJ2.2.2.2.2.1.1] at sc
        have row : ∀ b, b ≠ 138 → b ≠ 139 → b ≠ 140 → b ≠ 195 → zup J' 195 0 0 b = I b := fun b h1 h2 h3 h4 => funext fun j => by rw [zup_n _ h4, hJ' b h1 h2 h3]
        have sm := e_M_twoSwaps 195 (nI j) J' (zRs R L w) n
        have e18 : zup J' 195 0 0 195 18 = 1 := by rw [zup_k _ (by decide), hJ' 195 (by decide) (by decide) (by decide)]; exact k.2.1.2
        have r8 := row 208 (by decide) (by decide) (by decide) (by decide)
        simp only [hM1.k, hM1.2, M_isPlaying_L hM1 d2 e18 (show zup J' 195 0 0 208 0 = zbo true by rw [r8]; exact a1.2) (show zup J' 195 0 0 208 9 = nI w by rw [r8]; exact a3.2.1) a3.2.2, hbw, zc_t, zr_s, zbI_s, im, d, if_neg (show ¬ zbo true = 0 by decide), if_neg (show ¬ (1 : Int32) = 0 by decide), zin208, zixs, Bool.true_or, Bool.true_and, r8, ← a9.1] at sm
        by_cases ch : I 10 10 = 2
        · rw [if_pos ch] at sm
          have e0 : zgo (fun i => zgo (cF3 J L w P O (J 140) i) P 0) P 0 (false, (0 : Int32), (-1 : Int32), (-1 : Int32), (-1 : Int32), (-1 : Int32)) = (false, 0, -1, -1, -1, -1) := zgo_id _ _ _ (fun i b => zgo_id _ _ _ (fun o b => by
            unfold cF3
            rw [cCan_2 (by rw [e10]; exact ch)]; rfl))
          rw [e0] at sc
          rw [if_pos (show zbo false = 0 by decide)] at sc
          exact ⟨_, J', _, n, _, _, n, sc, sm, d1⟩
        · rw [if_neg ch] at sm
          have er : zgo (fun i => zgo (cF3 J L w P O (J 140) i) P 0) P 0 (false, (0 : Int32), (-1 : Int32), (-1 : Int32), (-1 : Int32), (-1 : Int32)) = zgo (fun i => zgo (mF3 (zup J' 195 0 0) w Wk P O i) P 0) P 0 (false, 0, -1, -1, -1, -1) := by
            refine zgo_congr _ _ _ (fun i b _ h2 => zgo_congr _ _ _ (fun o b2 _ h4 => ?_))
            rw [← zF3_eq d2 (by rw [row 10 (by decide) (by decide) (by decide) (by decide)]; exact ch) d3 (show i < P by omega) (show o < P by omega) b2]
            rw [cF3_c (I := zup J' 195 0 0) (J := J) iL (by omega) (fun b h1 h2 h3 h4 => by rw [row b h2 h3 h4 (by omega), b8 b h2 h4])]
            unfold cF3
            by_cases cc : cCan (zup J' 195 0 0) L w P O (zup J' 195 0 0 10 3 + zbrings (zup J' 195 0 0 (L + 15 + w) i) (zup J' 195 0 0 11 i)) i o = true
            · rw [if_pos cc, if_pos cc]
              refine zgo_congr _ _ _ (fun i2 b3 _ h6 => zgo_congr _ _ _ (fun o2 b4 _ h8 => ?_))
              unfold cF2
              rw [b7 o (by omega), b7 i (by omega), b7 o2 (by omega), b7 i2 (by omega), d4 o (by omega), d4 i (by omega), d4 o2 (by omega), d4 i2 (by omega)]
            · rw [if_neg cc, if_neg cc]
          obtain ⟨J2, r, r1, r2, r4, r3⟩ := M_two_outer (I := zup J' 195 0 0) (R := zRs R L w) (n := n) (w := w) (Wk := Wk) (P := P) (O := O) hM1 hP d2.1.2.2.2 (by rw [r8, a1.2]; rfl) (by rw [r8]; exact a7.2.1) a7.2.2.1 d2.2.1.2.2.2 hWk (by rw [r8]; exact a3.2.1) a3.2.2 (x := j) hj P 0 (zup (zup J' 195 0 0) 213 0 (-1)) (false, 0, -1, -1, -1, -1) (by omega) (fun b hb => funext fun i => zup_n _ hb) ⟨by rw [zup_s], fun e => (nomatch e), fun _ => rfl, fun e => (nomatch e)⟩
          rw [nI_0] at r3
          rw [er, ← r1] at sc c3
          have z213 : zin 213 0 = true := by decide
          simp only [hM1.2, zr_s, hM1.k, z213, Bool.true_and, zc_t, show zix (0 : Int32) = 0 by decide] at sm
          have sm2 := sm.trans r3
          obtain ⟨y1, y2, y3⟩ := c3
          obtain ⟨x1, x2, -⟩ := r2
          refine ⟨_, J', _, n, _, _, n, ?_, sm2, zInv_f d1 (Nat.le_refl _) (fun b j hb => by rw [r4 b (by unfold zir0 at hb; omega)])⟩
          rw [sc]
          cases hr : r.1 with
          | false => rw [if_pos (show zbo false = 0 by decide), if_neg (by decide)]
          | true =>
            obtain ⟨v0, v1, v2, v3⟩ := y3 hr
            obtain ⟨u1, u2, u3, u4⟩ := x2 hr
            rw [if_neg (show ¬ zbo true = 0 by decide), if_pos rfl]
            have j3 : j = 0 ∨ j = 1 ∨ j = 2 ∨ j = 3 ∨ j = 4 := by omega
            have k139 : zis n 139 20 = true := (zkS (by omega)).2.1
            have t2 : nI 2 = 2 := by decide
            have t3 : nI 3 = 3 := by decide
            rcases j3 with rfl | rfl | rfl | rfl | rfl
            · rw [if_neg (show ¬ nI 0 = nI 4 by decide), x1]
              simp only [k139, nI_0, zin139, Bool.true_or, Bool.true_and, zc_t, show zix (0 : Int32) = 0 by decide, v0]
            · rw [if_neg (show ¬ nI 1 = nI 4 by decide), u1]
              simp only [k139, show nI 1 = (1 : Int32) by decide, zin139, Bool.true_or, Bool.true_and, zc_t, show zix (1 : Int32) = 1 by decide, v1]
            · rw [if_neg (show ¬ nI 2 = nI 4 by decide), u2]
              simp only [k139, t2, zin139, Bool.true_or, Bool.true_and, zc_t, show zix (2 : Int32) = 2 by decide, v2]
            · rw [if_neg (show ¬ nI 3 = nI 4 by decide), u3]
              simp only [k139, t3, zin139, Bool.true_or, Bool.true_and, zc_t, show zix (3 : Int32) = 3 by decide, v3]
            · rw [if_pos rfl, y2, u4]
end LSt
