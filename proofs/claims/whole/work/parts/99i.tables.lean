/-! ===== rival, ahead, stairs ===== -/
section LTe
variable {q : Nat} {I : ZI} {R : ZR} {n L L' P Wk z m : Nat} {t : Nat → Nat}
theorem zdr_eq (k : zLea q I R n L L' P Wk z m t) {x : Int32} {i : Nat} : (!(decide (zup I 195 0 x 198 4 < mTo (zup I 195 0 x) P (t i)))) = (!(decide (I (L + 2) 0 < zsum (t i) (I (L + 15)) P))) := by
  have g := k.2.2.1
  obtain ⟨v, -, -, v1, v2⟩ := g.2.2.2.1 0 (by decide)
  have v2 : I 198 4 = nI v := v2
  have e : mTo (zup I 195 0 x) P (t i) = zsum (t i) (I (L + 15)) P := by
    unfold mTo
    exact zsum_congr (fun j hj _ => by
      rw [zTn I x _ (by decide)]
      exact ((g.2.2.2.2.2.2.1 0 j (by omega) hj).2).symm)
  rw [e, zTn I x _ (by decide), v2, v1]
/-- the team that a seed draws, on both sides -/
theorem zdraw (W : zWc R n) (k : zLea q I R n L L' P Wk z m t) (x : Int64) : (zct (fun i => !(decide (I (L + 2) 0 < zsum (t i) (I (L + 15)) P))) m = 0 ∧ Tb_draw 4 x I R n = some (some (.int (-1)), I, R, n)) ∨ (1 ≤ zct (fun i => !(decide (I (L + 2) 0 < zsum (t i) (I (L + 15)) P))) m ∧ ∃ b, b < m ∧ Tb_draw 4 x I R n = some (some (.int (nI (t b))), I, R, n) ∧ M_rivalTeam 195 x (nI (zct (fun i => !(decide (I (L + 2) 0 < zsum (t i) (I (L + 15)) P))) m)) (zup I 195 0 0) R n = some (some (.int (nI (t b))), zup I 195 0 0, R, n)) := by
  have hM := W.M
  have wt := k.1.2.2.2.2.2.1
  have kJ := zLea_t k 0
  have gJ := kJ.2.2.1
  have hP := gJ.1.2.1
  have tt := k.2.2.2.1
  have hm := tt.1.2.1
  have zle : ∀ q : Nat → Bool, ∀ k, zct q k ≤ k := by
    intro q k
    induction k with
    | zero => exact Nat.le_refl _
    | succ k ih => rw [zct_succ]; split <;> omega
  have dm := zle (fun i => !(decide (I (L + 2) 0 < zsum (t i) (I (L + 15)) P))) m
  have i7 := tt.2.2.2.2.1
  have i221 := tt.2.2.2.2.2
  have ed : (fun k => !(decide (zup I 195 0 0 198 4 < mTo (zup I 195 0 0) P (t k)))) = fun i => !(decide (I (L + 2) 0 < zsum (t i) (I (L + 15)) P)) := funext fun i => zdr_eq k
  generalize hcd : (fun i => !(decide (I (L + 2) 0 < zsum (t i) (I (L + 15)) P))) = cd at *
  rcases Nat.eq_zero_or_pos (zct cd m) with c | c
  · refine Or.inl ⟨c, Tb_draw_no wt x (by rw [i7, c]; exact nI_0)⟩
  · obtain ⟨r, hr, er⟩ := zdrw_ok x (D := zct cd m) c (by omega)
    obtain ⟨b, b1, b2, b3⟩ := zct_kth cd hr
    have d1 := Tb_draw_ok (I := I) wt x i7 c (by omega) hr er
    have b2' : (!(decide (I (L + 2) 0 < zsum (t b) (I (L + 15)) P))) = true := by rw [← b2, ← hcd]
    have e221 := i221 b b1 b2'
    rw [b3] at e221
    rw [e221] at d1
    have mt := M_rivalTeam_ok (I := zup I 195 0 0) (R := R) (n := n) hM (k := b) (D := zct cd m) x kJ.2.2.2.1.2.1 hP gJ.1.2.2.2 b1 (by rw [zdr_eq k]; exact b2') c (by omega) (by rw [ed, b3]; exact er)
    exact Or.inr ⟨c, b, b1, d1, mt⟩
theorem zscores (W : zWc R n) (k : zLea q I R n L L' P Wk z m t) {b : Nat} (hb : b < m) : ∃ v, Lg_scoreOfAllWeeks L (nI (t b)) I R n = some (some (.int v), I, R, n) ∧ M_allWeeks 195 (nI (t b)) (zup I 195 0 0) R n = some (some (.int v), zup I 195 0 0, R, n) := by
  have hM := W.M
  have hL := W.L k.1.1
  have g := k.2.2.1
  have kJ := zLea_t k 0
  have gJ := kJ.2.2.1
  have hP := g.1.2.1
  have hWk := g.2.1.2.1
  have tb := k.2.2.2.1.1.2.2 b hb
  have tp := k.2.2.2.1.2.2.1 b hb
  have s1 := Lg_scoreOfAllWeeks_ok (I := I) hL (S := t b) (by omega) hP g.1.2.2.1 g.2.1.2.2.1 hWk (fun w i h1 h2 => (zlow_bd (g.2.2.2.2.2.2.2.1 w i h1 h2).2 (by decide)).2) tb.2.2 (fun w _ => zcap_ne _ tb.2.2 tp.1)
  have s2 := M_allWeeks_ok (I := zup I 195 0 0) hM (S := t b) (by omega) hP gJ.1.2.2.2 gJ.2.1.2.2.2 hWk (fun w _ => zcap_ne _ tb.2.2 tp.1)
  refine ⟨_, s1, ?_⟩
  rw [zrow_c (g := fun w => zwith (t b) (fun i => zup I 195 0 0 206 (6 * i + w)) P) Wk (fun w hw => (zSc_eq k (show w < Wk by omega) (x := 0) (t b)).symm)]
  exact s2
theorem p_rival (h : zInv q I R n) (x : Int64) (y : Int32) : zAg q I R n (C_rival 0 x y) (M_rival 195 x y) := by
  have W := h.1
  have hM := W.M
  have sc := e_C_rival 0 x y I R n
  have sm := e_M_rival 195 x y I R n
  have t18 : zup I 195 0 0 195 18 = I 195 18 := zT5 (by decide)
  rcases h.2.2 with k | ⟨L, L', P, Wk, z, m, t, k⟩
  · simp only [W.k, k.2.1, zc_t, if_true] at sc
    simp only [hM.k, t18, k.2.1, zc_t, if_true] at sm
    exact zAg_ro h sc sm
  · have hL := W.L k.1.1
    have kJ := zLea_t k 0
    have gJ := kJ.2.2.1
    have hP := gJ.1.2.1
    have hm := k.2.2.2.1.1.2.1
    have im := M_isIn_ok (I := zup I 195 0 0) (R := R) (n := n) y.toInt64 0 1
    rw [zIs y (N := 2) (by decide) (by decide) (by decide)] at im
    have rm := M_rivalMany_ok (I := zup I 195 0 0) hM kJ.2.2.2.1.2.1 hP gJ.1.2.2.2
    rw [show (fun k => !(decide (zup I 195 0 0 198 4 < mTo (zup I 195 0 0) P (t k)))) = fun i => !(decide (I (L + 2) 0 < zsum (t i) (I (L + 15)) P)) from funext fun i => zdr_eq k] at rm
    simp only [W.k, k.2.1, zc_t, if_neg (show ¬ (1 : Int32) = 0 by decide)] at sc
    simp only [hM.k, t18, k.2.1, zc_t, if_neg (show ¬ (1 : Int32) = 0 by decide), im, rm, zbI_s] at sm
    rcases zlt_cases y (N := 2) (by decide) with d | ⟨j, hj, rfl, d⟩
    · rw [d, if_pos rfl] at sm
      refine zAg_ro h ?_ sm
      rw [sc, if_neg (fun e => by rw [e] at d; exact absurd d (by decide)), if_neg (fun e => by rw [e] at d; exact absurd d (by decide))]
    · rw [d, if_neg (by decide)] at sm
      have sc2 : C_rival 0 x (nI j) I R n = C_rival_19 0 x (nI j) I R n := by
        rw [sc]
        have j2 : j = 0 ∨ j = 1 := by omega
        rcases j2 with rfl | rfl
        · rw [if_pos nI_0]
        · rw [if_neg (by decide), if_pos (by decide)]
      have s19 := e_C_rival_19 0 x (nI j) I R n
      have zle : ∀ q : Nat → Bool, ∀ k, zct q k ≤ k := by
        intro q k
        induction k with
        | zero => exact Nat.le_refl _
        | succ k ih => rw [zct_succ]; split <;> omega
      have dm := zle (fun i => !(decide (I (L + 2) 0 < zsum (t i) (I (L + 15)) P))) m
      rcases zdraw W k x with ⟨c, d1⟩ | ⟨c, b, hb, d1, d2⟩
      · simp only [W.k, W.1, zc_t, zr_s, d1, zbI_s, if_true] at s19
        rw [c, nI_0, if_pos rfl] at sm
        exact zAg_ro h (sc2.trans s19) sm
      · have tb := k.2.2.2.1.1.2.2 b hb
        obtain ⟨v, v1, v2⟩ := zscores W k hb
        simp only [W.k, W.1, zc_t, zr_s, d1, zbI_s, if_neg (nI_nm1 (show t b < 2 ^ 31 by omega)), k.1.2.2.2.1, hL.k, v1] at s19
        rw [if_neg (nI_ne0 (by omega) (by omega))] at sm
        simp only [d2, v2, zbI_s, hM.k, zc_t] at sm
        have j2 : j = 0 ∨ j = 1 := by omega
        rcases j2 with rfl | rfl
        · rw [if_pos nI_0] at s19
          rw [if_neg (by decide)] at sm
          exact zAg_ro h (sc2.trans s19) sm
        · rw [if_neg (by decide)] at s19
          rw [if_pos (by decide)] at sm
          exact zAg_ro h (sc2.trans s19) sm
theorem p_ahead (h : zInv q I R n) (x : Int64) (y : Int32) : zAg q I R n (C_ahead 0 x y) (M_ahead_ 195 x y) := by
  have W := h.1
  have hM := W.M
  have sc := e_C_ahead 0 x y I R n
  have sm := e_M_ahead_ 195 x y I R n
  simp only [hM.k, hM.2, zc_t, zr_s, zin208, zixs, Bool.true_or, Bool.true_and, zT8] at sm
  rcases h.2.2 with k | ⟨L, L', P, Wk, z, m, t, k⟩
  · simp only [W.k, W.1, k.2.2.1, zc_t, zr_s, if_true] at sc
    simp only [k.2.2.1, if_true] at sm
    exact zAg_ro h sc sm
  · have hL := W.L k.1.1
    have kJ := zLea_t k 0
    have gJ := kJ.2.2.1
    have hP := gJ.1.2.1
    have hm := k.2.2.2.1.1.2.1
    obtain ⟨be, mo, w, f, sw, O, u, l, a1, a2, a3, a4, a5, a6, a7, a8, a9, a10, a11, a12, a13, a14⟩ := k.2.2.2.2.2.1
    have rm := M_rivalMany_ok (I := zup I 195 0 0) hM kJ.2.2.2.1.2.1 hP gJ.1.2.2.2
    rw [show (fun k => !(decide (zup I 195 0 0 198 4 < mTo (zup I 195 0 0) P (t k)))) = fun i => !(decide (I (L + 2) 0 < zsum (t i) (I (L + 15)) P)) from funext fun i => zdr_eq k] at rm
    have im := M_isIn_ok (I := zup I 195 0 0) (R := R) (n := n) y.toInt64 1 50
    have o1 : (1 : Int64) = Int32.toInt64 1 := by decide
    have o50 : (50 : Int64) = Int32.toInt64 50 := by decide
    simp only [o1, o50, z64_lt] at im
    simp only [W.k, W.1, zc_t, zr_s, a1.1] at sc
    simp only [a1.2, hM.k, o1, o50, im, rm, zc_t, zbI_s] at sm
    cases be with
    | false =>
      rw [if_pos (by decide)] at sc sm
      exact zAg_ro h sc sm
    | true =>
      rw [if_neg (by decide)] at sc sm
      by_cases c1 : y < 1
      · rw [if_pos c1] at sc
        rw [if_pos c1, if_pos rfl] at sm
        exact zAg_ro h sc sm
      · rw [if_neg c1] at sc sm
        by_cases c2 : 50 < y
        · rw [if_pos c2] at sc
          rw [if_pos c2, if_pos rfl] at sm
          exact zAg_ro h sc sm
        · rw [if_neg c2] at sc
          rw [if_neg c2, if_neg (show ¬ (1 : Int32) = 0 by decide)] at sm
          have c0 : ¬ y < 0 := fun e => c1 (by rw [Int32.lt_iff_toInt_lt] at *; have : (0 : Int32).toInt = 0 := by decide
                                               have : (1 : Int32).toInt = 1 := by decide
                                               omega)
          obtain ⟨N, hN, rfl⟩ := nI_of c0
          have n1 : 1 ≤ N := by
            have t1 : (1 : Int32) = nI 1 := by decide
            rw [t1, nI_ltI hN (by decide)] at c1; omega
          have n50 : N ≤ 50 := by
            have t1 : (50 : Int32) = nI 50 := by decide
            rw [t1, nI_ltI (by decide) hN] at c2; omega
          have zle : ∀ q : Nat → Bool, ∀ k, zct q k ≤ k := by
            intro q k
            induction k with
            | zero => exact Nat.le_refl _
            | succ k ih => rw [zct_succ]; split <;> omega
          have dm := zle (fun i => !(decide (I (L + 2) 0 < zsum (t i) (I (L + 15)) P))) m
          rcases Nat.eq_zero_or_pos (zct (fun i => !(decide (I (L + 2) 0 < zsum (t i) (I (L + 15)) P))) m) with cD | cD
          · rw [cD, nI_0, if_pos rfl] at sm
            refine zAg_ro h (sc.trans ?_) sm
            rcases zdraw W k (x + Int32.toInt64 0) with ⟨-, d1⟩ | ⟨c, -⟩
            · have st := e_C_ahead_29 0 x (nI N) 0 0 I R n
              rw [if_pos (show (0 : Int32) < nI N from zgt0 (by omega) (by omega))] at st
              simp only [W.k, W.1, zc_t, zr_s, d1, zbI_s, if_true] at st
              exact st
            · omega
          · rw [if_neg (nI_ne0 cD (by omega))] at sm
            have key : ∀ j, j ≤ N → ∃ v, C_ahead_29 0 x (nI N) 0 (nI 0) I R n = C_ahead_29 0 x (nI N) v (nI j) I R n ∧ M_ahead__47 195 x (nI N) (nI (zct (fun i => !(decide (I (L + 2) 0 < zsum (t i) (I (L + 15)) P))) m)) 0 (nI 0) (zup I 195 0 0) R n = M_ahead__47 195 x (nI N) (nI (zct (fun i => !(decide (I (L + 2) 0 < zsum (t i) (I (L + 15)) P))) m)) v (nI j) (zup I 195 0 0) R n := by
              intro j
              induction j with
              | zero => intro _; exact ⟨0, rfl, rfl⟩
              | succ j ih =>
                intro hj
                obtain ⟨v, v1, v2⟩ := ih (by omega)
                rcases zdraw W k (x + Int32.toInt64 (nI j)) with ⟨c, -⟩ | ⟨-, b, hb, d1, d2⟩
                · omega
                · have tb := k.2.2.2.1.1.2.2 b hb
                  obtain ⟨s, s1, s2⟩ := zscores W k hb
                  have st := e_C_ahead_29 0 x (nI N) v (nI j) I R n
                  rw [if_pos (nI_lt (show j < N by omega) (by omega))] at st
                  simp only [W.k, W.1, zc_t, zr_s, d1, zbI_s, if_neg (nI_nm1 (show t b < 2 ^ 31 by omega)), k.1.2.2.2.1, hL.k, s1, nI_1] at st
                  have sn := e_M_ahead__47 195 x (nI N) (nI (zct (fun i => !(decide (I (L + 2) 0 < zsum (t i) (I (L + 15)) P))) m)) v (nI j) (zup I 195 0 0) R n
                  rw [if_pos (nI_lt (show j < N by omega) (by omega))] at sn
                  simp only [hM.k, hM.2, zc_t, zr_s, d2, zbI_s, s2, zin208, zixs, Bool.true_or, Bool.true_and, zT8, nI_1, Int32.add_zero] at sn
                  rw [a10] at st
                  by_cases cc : I 208 10 < s
                  · rw [if_pos cc] at st sn; exact ⟨v + 1, v1.trans st, v2.trans sn⟩
                  · rw [if_neg cc] at st sn; exact ⟨v, v1.trans st, v2.trans sn⟩
            obtain ⟨v, v1, v2⟩ := key N (Nat.le_refl _)
            rw [nI_0] at v1 v2
            have st := e_C_ahead_29 0 x (nI N) v (nI N) I R n
            rw [if_neg (nI_nlt (Nat.le_refl _) hN)] at st
            have sn := e_M_ahead__47 195 x (nI N) (nI (zct (fun i => !(decide (I (L + 2) 0 < zsum (t i) (I (L + 15)) P))) m)) v (nI N) (zup I 195 0 0) R n
            rw [if_neg (nI_nlt (Nat.le_refl _) hN)] at sn
            exact zAg_ro h (sc.trans (v1.trans st)) (sm.trans (v2.trans sn))
end LTe
/-! the stairs -/
theorem zstr_inc (o : Nat → Option Int32) (d : Int32) (hd : ∀ l v, o l = some v → d < v) (l : Nat) : (zstr o (l + 1)).1 = (zstr o l).1 ∨ (zstr o (l + 1)).1 = (zstr o l).1 + 1 := by
  rcases zstr_step o l d hd (zstr_low o d hd l) with ⟨-, e⟩ | ⟨-, e⟩
  · rw [e]; exact Or.inr rfl
  · rw [e]; exact Or.inl rfl
theorem zstr_mono (o : Nat → Option Int32) (d : Int32) (hd : ∀ l v, o l = some v → d < v) {a : Nat} : ∀ {b}, a ≤ b → (zstr o a).1 ≤ (zstr o b).1 := by
  intro b hab
  induction hab with
  | refl => exact Nat.le_refl _
  | step _ ih =>
    rename_i k _
    show (zstr o a).1 ≤ (zstr o (k + 1)).1
    rcases zstr_inc o d hd k with e | e <;> omega
theorem zstr_hit (o : Nat → Option Int32) (d : Int32) (hd : ∀ l v, o l = some v → d < v) {i : Nat} : ∀ N, i < (zstr o N).1 → ∃ l, l < N ∧ (zstr o l).1 = i ∧ (zstr o (l + 1)).1 = i + 1
  | 0, h => by
    have : (zstr o 0).1 = 0 := rfl
    omega
  | N + 1, h => by
    by_cases c : i < (zstr o N).1
    · obtain ⟨l, l1, l2⟩ := zstr_hit o d hd N c
      exact ⟨l, by omega, l2⟩
    · rcases zstr_inc o d hd N with e | e
      · omega
      · exact ⟨N, by omega, by omega, by omega⟩
theorem zmx_in {pr sc : Nat → Int32} {l : Nat} {Q : Int32 → Prop} : ∀ {k v}, (∀ j, j < k → Q (sc j)) → zmx pr sc l k = some v → Q v
  | 0, v, _, h => by cases h
  | k + 1, v, hq, h => by
    rw [zmx_succ] at h
    by_cases c : pr k = nI l
    · rw [if_pos c] at h
      cases hz : zmx pr sc l k with
      | none => rw [hz] at h; cases h; exact hq k (by omega)
      | some y =>
        rw [hz] at h
        cases h
        rcases zmax_I y (sc k) with ⟨e, -⟩ | ⟨e, -⟩
        · show Q (zmax y (sc k))
          rw [e]; exact zmx_in (fun j hj => hq j (by omega)) hz
        · show Q (zmax y (sc k))
          rw [e]; exact hq k (by omega)
    · rw [if_neg c] at h
      exact zmx_in (fun j hj => hq j (by omega)) h
theorem zmx_c {pr sc pr' sc' : Nat → Int32} {l : Nat} : ∀ {k}, (∀ j, j < k → pr j = pr' j ∧ sc j = sc' j) → zmx pr sc l k = zmx pr' sc' l k
  | 0, _ => rfl
  | k + 1, h => by
    rw [zmx_succ, zmx_succ, zmx_c (pr := pr) (sc := sc) (pr' := pr') (sc' := sc') (fun j hj => h j (by omega)), (h k (by omega)).1, (h k (by omega)).2]
section LTf
variable {q : Nat} {I : ZI} {R : ZR} {n L L' P Wk z m : Nat} {t : Nat → Nat}
theorem Tb_climb86_run2 (hT : WT R n L) {q : Nat} (hq : q < 2 ^ 63) {K : ZI} (o : Nat → Option Int32) (ho : ∀ l, l < 595 → K 222 l = zgd (-100000000) (o l)) (hd : ∀ l v, o l = some v → (-100000000 : Int32) < v) (h11 : K 4 11 = -100000000) : ∀ l, l ≤ 595 → (∀ l', l' < l → (zstr o l').1 < q) → ∃ J, Tb_climb_86 4 (lN q) (nI 0) (nI 0) K R n = Tb_climb_86 4 (lN q) (nI (zstr o l).1) (nI l) J R n ∧ J 4 11 = zlast (-100000000) (zstr o l).2 ∧ (∀ p w, (zstr o l).2 = some (p, w) → J 4 10 = nI p) ∧ ∀ b j, (b = 4 → j ≠ 10 ∧ j ≠ 11) → J b j = K b j := by
  intro l
  induction l with
  | zero => intro _ _; exact ⟨K, rfl, h11, (fun p w h => by cases h), fun _ _ _ => rfl⟩
  | succ l ih =>
    intro hl hlt
    obtain ⟨J, e, a1, a2, a3⟩ := ih (by omega) (fun l' h' => hlt l' (by omega))
    have hc := hlt l (by omega)
    have hle := zstr_le o _ hd l
    have e594 : (594 : Int32) = nI 594 := by decide
    have hcmp : lg_cmp (Int32.toInt64 (nI (zstr o l).1)) (lN q) < 0 := by
      rw [zcmp_lt, nI_l (by omega), pk_lLT (by omega) (by omega)]; exact hc
    have j222 : J 222 l = zgd (-100000000) (o l) := by rw [a3 _ _ (fun z => absurd z (by decide)), ho l (by omega)]
    have st := e_Tb_climb_86 4 (lN q) (nI (zstr o l).1) (nI l) J R n
    rw [e594, if_neg (nI_nlt (show l ≤ 594 by omega) (by omega)), if_pos hcmp] at st
    simp only [hT.k, hT.r, zc_t, zr_s, zin222 (show l < 595 by omega), zix_nI (show l < 2 ^ 31 by omega), Bool.true_or, Bool.true_and, j222, a1, nI_1] at st
    rcases zstr_step o l (-100000000) hd (zstr_low o _ hd l) with ⟨s1, s2⟩ | ⟨s1, s2⟩
    · rw [if_pos s1] at st
      rw [s2]
      refine ⟨_, e.trans st, ?_, ?_, ?_⟩
      · rw [zup_k _ (by decide), zup_s]; rfl
      · intro p w hpw; cases hpw; rw [zup_s]
      · intro b j hb
        by_cases z : b = 4
        · rw [zup_k _ (hb z).1, zup_k _ (hb z).2]; exact a3 b j hb
        · rw [zup_n _ z, zup_n _ z]; exact a3 b j hb
    · rw [if_neg s1] at st
      rw [s2]
      exact ⟨J, e.trans st, a1, a2, a3⟩
theorem p_stairs (h : zInv q I R n) (x y v : Int32) : zAg q I R n (C_stairs 0 x y v) (M_stairs 195 x y v) := by
  have W := h.1
  have hM := W.M
  have sc := e_C_stairs 0 x y v I R n
  have t18 : zup I 195 0 0 195 18 = I 195 18 := zT5 (by decide)
  have e594 : (594 : Int32) = nI 594 := by decide
  rcases h.2.2 with k | ⟨L, L', P, Wk, z, m, t, k⟩
  · have sm := e_M_stairs 195 x y v I R n
    simp only [W.k, C_isWeek_N W k, zc_t, zbI_s, if_true] at sc
    simp only [hM.k, M_isWeek_no hM (show zup I 195 0 0 195 18 = 0 by rw [t18]; exact k.2.1.2), zc_t, zbI_s, if_true] at sm
    exact zAg_ro h sc sm
  · have g := k.2.2.1
    have hP := g.1.2.1
    have hWk := g.2.1.2.1
    have i1 := isL_i k.1.1
    obtain ⟨be, mo, w, f, sw, O, u, l, a1, a2, a3, a4, a5, a6, a7, a8, a9, a10, a11, a12, a13, a14⟩ := k.2.2.2.2.2.1
    have im := fun J : ZI => M_isIn_ok (I := J) (R := R) (n := n) v.toInt64 0 1
    rw [zIs v (N := 2) (by decide) (by decide) (by decide)] at im
    simp only [W.k, C_isWeek_L W k, zc_t, zbI_s] at sc
    have mz : ∀ J : ZI, zLea q J R n L L' P Wk z m t → M_isWeek 195 x (zup J 195 0 0) R n = some (some (.int (zlt x Wk)), zup J 195 0 0, R, n) := fun J kk => M_isWeek_ok hM (zLea_t kk 0).2.1.2 (zLea_t kk 0).2.2.1.2.1.2.2.2 g.2.1.1 hWk
    rcases zlt_cases x (N := Wk) (by omega) with c | ⟨w1, hw1, rfl, c⟩
    · have sm := e_M_stairs 195 x y v I R n
      simp only [hM.k, mz I k, zc_t, zbI_s] at sm
      rw [c, if_pos rfl] at sc sm
      exact zAg_ro h sc sm
    · rw [c, if_neg (by decide)] at sc
      by_cases cy : y < -1
      · have sm := e_M_stairs 195 (nI w1) y v I R n
        simp only [hM.k, mz I k, zc_t, zbI_s, c, if_neg (show ¬ (1 : Int32) = 0 by decide), if_pos cy] at sm
        rw [if_pos cy] at sc
        exact zAg_ro h sc sm
      · rw [if_neg cy] at sc
        by_cases cb : ¬ y = -1 ∧ zlt v 2 = 0
        · have sm := e_M_stairs 195 (nI w1) y v I R n
          simp only [hM.k, mz I k, zc_t, zbI_s, c, if_neg (show ¬ (1 : Int32) = 0 by decide), if_neg cy, if_neg cb.1, im, cb.2, if_true] at sm
          refine zAg_ro h ?_ sm
          have d := cb.2
          rw [sc, if_neg cb.1, if_neg (fun e => by rw [e] at d; exact absurd d (by decide)), if_neg (fun e => by rw [e] at d; exact absurd d (by decide))]
        · have sc2 : C_stairs 0 (nI w1) y v I R n = C_stairs_30 0 (nI w1) y v I R n := by
            rw [sc]
            by_cases e : y = -1
            · rw [if_pos e]
            · have d : ¬ zlt v 2 = 0 := fun q => cb ⟨e, q⟩
              obtain ⟨j, hj, rfl⟩ := zlt_ne d (by decide)
              rw [if_neg e]
              have j2 : j = 0 ∨ j = 1 := by omega
              rcases j2 with rfl | rfl
              · rw [if_pos nI_0]
              · rw [if_neg (by decide), if_pos (by decide)]
          obtain ⟨I1, e1, e2, e3, k1, h1⟩ := C_prices h k a3.2.2
          obtain ⟨I2, f1, f2, f3, k2, h2⟩ := C_scores h1 k1 hw1
          have g2 := k2.2.2.1
          have wt := k2.1.2.2.2.2.2.1
          have tt := k2.2.2.2.1
          have b4 : I2 10 4 = nI w := by rw [f3 _ _ (by decide) (by decide), e3 _ _ (by decide) (by decide)]; exact a3.1
          have g219 : ∀ j, j < m → I2 219 j = zsum (t j) (I2 (L + 15 + w)) P := fun j hj => by
            rw [f3 219 j (by decide) (by omega), e2 j hj, show I2 (L + 15 + w) = I1 (L + 15 + w) from funext fun i => f3 _ _ (by omega) (by omega)]
          have tf := fun j hj => zteam_f g2 (tt.2.2.1 j hj).1 (tt.2.2.1 j hj).2
          have pr : ∀ j, j < m → ∃ p, p < 595 ∧ I2 219 j = nI p := fun j hj => by
            obtain ⟨p, p1, p2, p3⟩ := (tf j hj).2.1 w a3.2.2
            exact ⟨p, by omega, by rw [g219 j hj]; exact p3⟩
          have slo : ∀ j, j < m → (-1000000 : Int32) < I2 220 j ∧ (-100000000 : Int32) < I2 220 j := fun j hj => by
            rw [f2 j hj]; exact zlow_bd ((tf j hj).2.2 w1 hw1).1 (by decide)
          have kJ := zLea_t k2 0
          have gJ := kJ.2.2.1
          have ep : ∀ j, mPr (zup I2 195 0 0) P (t j) = zsum (t j) (I2 (L + 15 + w)) P := fun j => zPr_eq k2 b4 (by omega) (t j)
          obtain ⟨M1, m1, m2, m3⟩ := M_laysMost_ok (I := zup I2 195 0 0) (R := R) (n := n) hM kJ.2.2.2.1.2.1 hP gJ.1.2.2.2 (show w1 < 6 by omega) (fun i hi => zcap_ne _ (kJ.2.2.2.1.1.2.2 i hi).2.2 (kJ.2.2.2.1.2.2.1 i hi).1) (fun j hj => by rw [ep, ← g219 j hj]; exact pr j hj) (fun j hj => by rw [zSc_eq k2 hw1, ← f2 j hj]; exact (slo j hj).1)
          have oM : ∀ l, zmx (fun k => mPr (zup I2 195 0 0) P (t k)) (fun k => mSc (zup I2 195 0 0) P w1 (t k)) l m = zmx (I2 219) (I2 220) l m := fun l => zmx_c (fun j hj => ⟨by rw [ep, g219 j hj], by rw [zSc_eq k2 hw1, f2 j hj]⟩)
          simp only [oM] at m2
          have fM : ∀ b j, ¬ zir0 b j → M1 b j = I2 b j := fun b j hb => by
            rw [m3 b j (by unfold zir0 at hb; omega)]; exact zt_ir0 b j hb
          have hd1 : ∀ l v, (fun l => zmx (I2 219) (I2 220) l m) l = some v → (-100000000 : Int32) < v := fun l v hv => zmx_in (Q := fun v => (-100000000 : Int32) < v) (fun j hj => (slo j hj).2) hv
          have hd2 : ∀ l v, (fun l => zmx (I2 219) (I2 220) l m) l = some v → (-1000000 : Int32) < v := fun l v hv => zmx_in (Q := fun v => (-1000000 : Int32) < v) (fun j hj => (slo j hj).1) hv
          obtain ⟨o, ho⟩ : ∃ o : Nat → Option Int32, o = fun l => zmx (I2 219) (I2 220) l m := ⟨_, rfl⟩
          have m2' : ∀ l, l < 595 → M1 212 l = zgd (-1000000) (o l) := fun l hl => by rw [ho]; exact m2 l hl
          rw [← ho] at hd1 hd2
          have clim : ∀ q, q < 2 ^ 63 → ∃ K, Tb_climb 4 (lN q) I2 R n = Tb_climb_86 4 (lN q) (nI 0) (nI 0) K R n ∧ (∀ l, l < 595 → K 222 l = zgd (-100000000) (o l)) ∧ K 4 11 = -100000000 ∧ ∀ b j, b ≠ 222 → (b = 4 → j ≠ 11) → K b j = I2 b j := fun q hq => by
            obtain ⟨J, j1, j2, j3⟩ := Tb_climb11_ok (I := I2) (R := R) (n := n) wt (lN q) tt.1.1 tt.1.2.1 pr (fun j hj => (slo j hj).2)
            refine ⟨_, by rw [nI_0]; exact j1, fun l hl => ?_, zup_s _ _ _ _, fun b j h1 h2 => ?_⟩
            · rw [zup_n _ (by decide), j2 l hl, ho]
            · by_cases z : b = 4
              · rw [zup_k _ (h2 z)]; exact j3 b j h1
              · rw [zup_n _ z]; exact j3 b j h1
          have hInv : ∀ K : ZI, (∀ b j, b ≠ 222 → (b = 4 → j ≠ 10 ∧ j ≠ 11) → K b j = I2 b j) → zInv q K R n := fun K hK => zInv_f h2 (Nat.le_refl _) (fun b j hb => hK b j (by unfold zir0 at hb; omega) (by unfold zir0 at hb; omega))
          have hMs : ∀ K : ZI, (∀ b j, b ≠ 222 → (b = 4 → j ≠ 10 ∧ j ≠ 11) → K b j = I2 b j) → ∃ K2, (∀ b j, ¬ zir0 b j → K2 b j = K b j) ∧ (∀ l, l < 595 → K2 212 l = zgd (-1000000) (o l)) ∧ M_stairs 195 (nI w1) y v K R n = M_stairs_51 195 y v (-1000000) (nI 0) (nI 0) K2 R n := fun K hK => by
            have kK : zLea q K R n L L' P Wk z m t := zLea_f k2 (Nat.le_refl _) (fun b j hb => hK b j (by unfold zirr at hb; omega) (by unfold zirr at hb; omega))
            have kKJ := zLea_t kK 0
            have eK : ∀ b, L ≤ b → b < L + 22 → K b = I2 b := fun b h1 h2 => funext fun i => hK _ _ (by omega) (by omega)
            have epK : ∀ j, mPr (zup K 195 0 0) P (t j) = zsum (t j) (I2 (L + 15 + w)) P := fun j => by
              rw [zPr_eq kK (show K 10 4 = nI w by rw [hK _ _ (by decide) (by decide)]; exact b4) (by omega), eK _ (by omega) (by omega)]
            have esK : ∀ j, mSc (zup K 195 0 0) P w1 (t j) = zwith (t j) (I2 (L + 8 + w1)) P := fun j => by
              rw [zSc_eq kK hw1, eK _ (by omega) (by omega)]
            obtain ⟨M1, m1, m2, m3⟩ := M_laysMost_ok (I := zup K 195 0 0) (R := R) (n := n) hM kKJ.2.2.2.1.2.1 hP kKJ.2.2.1.1.2.2.2 (show w1 < 6 by omega) (fun i hi => zcap_ne _ (kKJ.2.2.2.1.1.2.2 i hi).2.2 (kKJ.2.2.2.1.2.2.1 i hi).1) (fun j hj => by rw [epK, ← g219 j hj]; exact pr j hj) (fun j hj => by rw [esK, ← f2 j hj]; exact (slo j hj).1)
            have oM : ∀ l, zmx (fun k => mPr (zup K 195 0 0) P (t k)) (fun k => mSc (zup K 195 0 0) P w1 (t k)) l m = zmx (I2 219) (I2 220) l m := fun l => zmx_c (fun j hj => ⟨by rw [epK, g219 j hj], by rw [esK, f2 j hj]⟩)
            simp only [oM] at m2
            have sm := e_M_stairs 195 (nI w1) y v K R n
            simp only [hM.k, mz K kK, zc_t, zbI_s, c, if_neg (show ¬ (1 : Int32) = 0 by decide), if_neg cy, im, m1, zbV_s] at sm
            refine ⟨M1, fun b j hb => ?_, fun l hl => by rw [ho]; exact m2 l hl, ?_⟩
            · rw [m3 b j (by unfold zir0 at hb; omega)]; exact zt_ir0 b j hb
            · rw [nI_0, sm]
              by_cases e : y = -1
              · rw [if_pos e]
              · rw [if_neg e, if_neg (fun q => cb ⟨e, q⟩)]
          have s30 := e_C_stairs_30 0 (nI w1) y v I R n
          simp only [W.k, W.1, wt.k, zc_t, zr_s, a3.1, e1, f1, zbV_s] at s30
          by_cases ey : y = -1
          · rw [if_pos ey] at s30
            obtain ⟨K, c1, c2, c3, c4⟩ := clim 3136 (by decide)
            obtain ⟨K', r1, r2, r3, r4⟩ := Tb_climb86_run2 (R := R) (n := n) wt (q := 3136) (by decide) o c2 hd1 c3 595 (Nat.le_refl _) (fun l' hl' => by have := zstr_le o _ hd1 l'; omega)
            have fK : ∀ b j, b ≠ 222 → (b = 4 → j ≠ 10 ∧ j ≠ 11) → K' b j = I2 b j := fun b j h1 h2 => by rw [r4 b j h2, c4 b j h1 (fun z => (h2 z).2)]
            have fin := e_Tb_climb_86 4 (lN 3136) (nI (zstr o 595).1) (nI 595) K' R n
            rw [if_pos (by decide)] at fin
            have t36 : (3136 : Int64) = lN 3136 := by decide
            rw [t36, c1.trans (r1.trans fin), zbI_s] at s30
            obtain ⟨K2, q1, q2, q3⟩ := hMs K' fK
            have rn := M_stairs51_run (I := K2) (R := R) (n := n) hM (x := y) (y := v) o q2 hd2 595 (Nat.le_refl _) (fun l' hl' => Or.inr (by
              have := zstr_le o _ hd1 l'
              rw [ey]; exact nI_nm1 (by omega)))
            have fm := e_M_stairs_51 195 y v (zlast (-1000000) (zstr o 595).2) (nI (zstr o 595).1) (nI 595) K2 R n
            rw [if_pos (by decide), if_pos ey] at fm
            exact zAg_w (I2 := K2) (sc2.trans s30) (q3.trans (rn.trans fm)) (hInv K' fK) q1
          · rw [if_neg ey] at s30
            have c0 : ¬ y < 0 := fun q => by
              rw [Int32.lt_iff_toInt_lt] at q cy
              have n1 : (-1 : Int32).toInt = -1 := by decide
              have z0 : (0 : Int32).toInt = 0 := by decide
              exact ey (Int32.toInt_inj.mp (by omega))
            obtain ⟨i, hi, rfl⟩ := nI_of c0
            have eq : (nI i).toInt64 + 1 = lN (i + 1) := by rw [nI_l hi, lN_1]
            rw [eq] at s30
            obtain ⟨K, c1, c2, c3, c4⟩ := clim (i + 1) (by omega)
            by_cases ci : i < (zstr o 595).1
            · obtain ⟨l, l1, l2, l3⟩ := zstr_hit o _ hd1 595 ci
              have le := zstr_le o _ hd1 (l + 1)
              obtain ⟨K', r1, r2, r3, r4⟩ := Tb_climb86_run2 (R := R) (n := n) wt (q := i + 1) (by omega) o c2 hd1 c3 (l + 1) (by omega) (fun l' hl' => by have := zstr_mono o _ hd1 (show l' ≤ l by omega); omega)
              have fK : ∀ b j, b ≠ 222 → (b = 4 → j ≠ 10 ∧ j ≠ 11) → K' b j = I2 b j := fun b j h1 h2 => by rw [r4 b j h2, c4 b j h1 (fun z => (h2 z).2)]
              have s1 : zstr o (l + 1) = ((zstr o l).1 + 1, some (l, zgd (-100000000) (o l))) := by
                rcases zstr_step o l (-100000000) hd1 (zstr_low o _ hd1 l) with ⟨-, s⟩ | ⟨-, s⟩
                · exact s
                · rw [s] at l3; omega
              have s2 : zlast (-1000000) (zstr o l).2 < zgd (-1000000) (o l) ∧ zstr o (l + 1) = ((zstr o l).1 + 1, some (l, zgd (-1000000) (o l))) := by
                rcases zstr_step o l (-1000000) hd2 (zstr_low o _ hd2 l) with s | ⟨-, s⟩
                · exact s
                · rw [s] at l3; omega
              have eg : zgd (-100000000) (o l) = zgd (-1000000) (o l) := by
                have := s1.symm.trans s2.2
                injection this with _ h2
                injection h2 with h3
                injection h3
              have fin : Tb_climb_86 4 (lN (i + 1)) (nI (zstr o (l + 1)).1) (nI (l + 1)) K' R n = some (some (.int (nI (i + 1))), K', R, n) := by
                rw [e_Tb_climb_86, l3]
                by_cases c9 : 594 < nI (l + 1)
                · rw [if_pos c9]
                · rw [if_neg c9, if_neg (fun q => by
                    rw [zcmp_lt, nI_l (by omega), pk_lLT (by omega) (by omega)] at q; omega)]
              rw [c1.trans (r1.trans fin), zbI_s] at s30
              have cmp : lg_cmp (Int32.toInt64 (nI (i + 1))) (lN (i + 1)) = 0 := by
                rw [nI_l (by omega)]
                unfold lg_cmp
                rw [if_neg (fun q => by have q' : lN (i + 1) < lN (i + 1) := q; rw [pk_lLT (by omega) (by omega)] at q'; omega), if_pos rfl]
              rw [if_pos cmp] at s30
              have k10 : K' 4 10 = nI l := r3 l _ (by rw [s1])
              have k11 : K' 4 11 = zgd (-1000000) (o l) := by rw [r2, s1, ← eg]; rfl
              simp only [W.k, W.1, zc_t, zr_s, k10, k11] at s30
              obtain ⟨K2, q1, q2, q3⟩ := hMs K' fK
              have rn := M_stairs51_run (I := K2) (R := R) (n := n) hM (x := nI i) (y := v) o q2 hd2 l (by omega) (fun l' hl' => by
                have b1 := zstr_mono o _ hd1 (show l' + 1 ≤ l by omega)
                rcases zstr_inc o _ hd1 l' with e | e
                · exact Or.inl e
                · refine Or.inr (fun q => ?_)
                  rw [nI_eq (by omega) hi] at q
                  omega)
              have fm := e_M_stairs_51 195 (nI i) v (zlast (-1000000) (zstr o l).2) (nI (zstr o l).1) (nI l) K2 R n
              rw [e594, if_neg (nI_nlt (show l ≤ 594 by omega) (by decide))] at fm
              simp only [hM.k, hM.2, zc_t, zr_s, zin212 (show l < 595 by omega), zix_nI (show l < 2 ^ 31 by omega), Bool.true_or, Bool.true_and, q2 l (by omega), if_pos s2.1, l2, if_true] at fm
              rw [l2] at rn
              have sm := q3.trans (rn.trans fm)
              by_cases v0 : v = 0
              · rw [if_pos v0] at s30 sm
                exact zAg_w (I2 := K2) (sc2.trans s30) sm (hInv K' fK) q1
              · rw [if_neg v0] at s30 sm
                exact zAg_w (I2 := K2) (sc2.trans s30) sm (hInv K' fK) q1
            · have le := zstr_le o _ hd1 595
              obtain ⟨K', r1, r2, r3, r4⟩ := Tb_climb86_run2 (R := R) (n := n) wt (q := i + 1) (by omega) o c2 hd1 c3 595 (by omega) (fun l' hl' => by have := zstr_mono o _ hd1 (show l' ≤ 595 by omega); omega)
              have fK : ∀ b j, b ≠ 222 → (b = 4 → j ≠ 10 ∧ j ≠ 11) → K' b j = I2 b j := fun b j h1 h2 => by rw [r4 b j h2, c4 b j h1 (fun z => (h2 z).2)]
              have fin := e_Tb_climb_86 4 (lN (i + 1)) (nI (zstr o 595).1) (nI 595) K' R n
              rw [if_pos (by decide)] at fin
              rw [c1.trans (r1.trans fin), zbI_s] at s30
              have cmp : ¬ lg_cmp (Int32.toInt64 (nI (zstr o 595).1)) (lN (i + 1)) = 0 := by
                rw [nI_l (by omega)]
                have lt : lg_cmp (lN (zstr o 595).1) (lN (i + 1)) < 0 := by rw [zcmp_lt, pk_lLT (by omega) (by omega)]; omega
                intro q
                rw [q] at lt; exact absurd lt (by decide)
              rw [if_neg cmp] at s30
              obtain ⟨K2, q1, q2, q3⟩ := hMs K' fK
              have rn := M_stairs51_run (I := K2) (R := R) (n := n) hM (x := nI i) (y := v) o q2 hd2 595 (by omega) (fun l' hl' => by
                have b1 := zstr_mono o _ hd1 (show l' + 1 ≤ 595 by omega)
                rcases zstr_inc o _ hd1 l' with e | e
                · exact Or.inl e
                · refine Or.inr (fun q => ?_)
                  rw [nI_eq (by omega) hi] at q
                  omega)
              have fm := e_M_stairs_51 195 (nI i) v (zlast (-1000000) (zstr o 595).2) (nI (zstr o 595).1) (nI 595) K2 R n
              rw [if_pos (by decide), if_neg ey] at fm
              exact zAg_w (I2 := K2) (sc2.trans s30) (q3.trans (rn.trans fm)) (hInv K' fK) q1
end LTf
