/-! ===== a call on both sides ===== -/
def zAg (q : Nat) (I : ZI) (R : ZR) (n : Nat) (c m : ZI → ZR → Nat → ZO) : Prop := ∃ v I1 R1 n1 I2 R2 n2, c I R n = some (some (.int v), I1, R1, n1) ∧ m I1 R1 n1 = some (some (.int v), I2, R2, n2) ∧ zInv (q + 1) I2 R2 n2
section LCa
variable {q : Nat} {I : ZI} {R : ZR} {n L L' P Wk z m : Nat} {t : Nat → Nat}
theorem zAg_ro (h : zInv q I R n) {c m : ZI → ZR → Nat → ZO} {v : Int32} (hc : c I R n = some (some (.int v), I, R, n)) (hm : m I R n = some (some (.int v), zup I 195 0 0, R, n)) : zAg q I R n c m := ⟨v, I, R, n, _, R, n, hc, hm, zInv_t h 0⟩
theorem zLea_t (h : zLea q I R n L L' P Wk z m t) (x : Int32) : zLea q (zup I 195 0 x) R n L L' P Wk z m t := zLea_f h (Nat.le_refl _) (fun b j hb => by
  by_cases e : b = 195
  · by_cases e2 : j = 0
    · exact absurd (by unfold zirr; omega) hb
    · exact zup_k _ e2
  · exact zup_n _ e)
theorem zT8 (I : ZI) (x : Int32) (j : Nat) : zup I 195 0 x 208 j = I 208 j := zup_n _ (by decide)
theorem zT5 {I : ZI} {x : Int32} {j : Nat} (h : j ≠ 0) : zup I 195 0 x 195 j = I 195 j := zup_k _ h
theorem zTn (I : ZI) (x : Int32) {b : Nat} (j : Nat) (h : b ≠ 195) : zup I 195 0 x b j = I b j := zup_n _ h
theorem zlt_nI {w N : Nat} (hw : w < 2 ^ 31) (hN : N < 2 ^ 31) : zlt (nI w) N = if w < N then 1 else 0 := by
  unfold zlt
  rw [if_neg (nI_pos hw)]
  by_cases c : w < N
  · rw [if_pos (nI_lt c hN), if_pos c]
  · rw [if_neg (nI_nlt (by omega) hw), if_neg c]
theorem zlt_ne {x : Int32} {N : Nat} (h : ¬ zlt x N = 0) (hN : N < 2 ^ 31) : ∃ j, j < N ∧ x = nI j := by
  rcases zlt_cases x hN with c | ⟨j, h1, h2, -⟩
  · exact absurd c h
  · exact ⟨j, h1, h2⟩
theorem zlt_01 {β : Type} (x : Int32) {N : Nat} (hN : N < 2 ^ 31) (f : Int32 → β) : (if zlt x N = 0 then f 0 else f 1) = f (zlt x N) := by
  rcases zlt_cases x hN with c | ⟨j, -, -, c⟩ <;> rw [c]
  · rw [if_pos rfl]
  · rw [if_neg (by decide)]
section LW
variable (W : zWc R n) (h : zLea q I R n L L' P Wk z m t)
theorem C_isPlayer_L (W : zWc R n) (h : zLea q I R n L L' P Wk z m t) (x : Int32) : C_isPlayer 0 x I R n = some (some (.int (zlt x P)), I, R, n) := by
  have hL := W.L h.1.1
  have hP := h.2.2.1.1.2.1
  rw [e_C_isPlayer]
  simp only [W.k, h.2.1.1, h.1.2.2.2.1, hL.k, zc_t, zr_s, Lg_hasPlayer_ok hL h.2.2.1.1.2.2.1, zbI_s]
  rw [if_neg (by decide)]
  exact zlt_01 x (by omega) (fun v => (some (some (.int v), I, R, n) : ZO))
theorem C_isPlayer_N (W : zWc R n) (h : zNo I R n) (x : Int32) : C_isPlayer 0 x I R n = some (some (.int 0), I, R, n) := by
  rw [e_C_isPlayer]
  simp only [W.k, h.2.1.1, zc_t, if_true]
theorem C_isWeek_L (W : zWc R n) (h : zLea q I R n L L' P Wk z m t) (x : Int32) : C_isWeek 0 x I R n = some (some (.int (zlt x Wk)), I, R, n) := by
  have hL := W.L h.1.1
  have hP := h.2.2.1.2.1.2.1
  rw [e_C_isWeek]
  simp only [W.k, h.2.1.1, h.1.2.2.2.1, hL.k, zc_t, zr_s, Lg_hasWeek_ok hL h.2.2.1.2.1.2.2.1, zbI_s]
  rw [if_neg (by decide)]
  exact zlt_01 x (by omega) (fun v => (some (some (.int v), I, R, n) : ZO))
theorem C_isWeek_N (W : zWc R n) (h : zNo I R n) (x : Int32) : C_isWeek 0 x I R n = some (some (.int 0), I, R, n) := by
  rw [e_C_isWeek]
  simp only [W.k, h.2.1.1, zc_t, if_true]
theorem zbool_lt (x : Int32) {N : Nat} (hN : N < 2 ^ 31) : zbool (zlt x N) = true := by
  rcases zlt_cases x hN with c | ⟨j, -, -, c⟩ <;> rw [c] <;> decide
theorem C_weeks_L (W : zWc R n) (h : zLea q I R n L L' P Wk z m t) : C_weeksAreLeft 0 I R n = some (some (.int (zlt (I 10 4) Wk)), I, R, n) := by
  have hP := h.2.2.1.2.1.2.1
  rw [e_C_weeksAreLeft]
  simp only [W.k, W.1, zc_t, zr_s, C_isWeek_L W h, zbI_s, zbool_lt (I 10 4) (show Wk < 2 ^ 31 by omega)]
theorem C_weeks_N (W : zWc R n) (h : zNo I R n) : C_weeksAreLeft 0 I R n = some (some (.int 0), I, R, n) := by
  rw [e_C_weeksAreLeft]
  simp only [W.k, W.1, zc_t, zr_s, C_isWeek_N W h, zbI_s]
  rfl
theorem C_inPlay_L (W : zWc R n) (h : zLea q I R n L L' P Wk z m t) {be : Bool} {w : Nat} (h2 : I 10 2 = zbo be) (h4 : I 10 4 = nI w) (hw : w ≤ Wk) : C_inPlay 0 I R n = some (some (.int (zbo (be && decide (w < Wk)))), I, R, n) := by
  have hP := h.2.2.1.2.1.2.1
  rw [e_C_inPlay]
  simp only [W.k, W.1, zc_t, zr_s, h2, C_weeks_L W h, zbI_s, h4, zlt_nI (show w < 2 ^ 31 by omega) (show Wk < 2 ^ 31 by omega)]
  cases be with
  | false => rw [if_pos (by decide)]; rfl
  | true =>
    rw [if_neg (by decide), Bool.true_and]
    by_cases c : w < Wk
    · rw [if_pos c, if_neg (by decide), decide_eq_true c]; rfl
    · rw [if_neg c, if_pos rfl, decide_eq_false c]; rfl
theorem C_inPlay_N (W : zWc R n) (h : zNo I R n) : C_inPlay 0 I R n = some (some (.int 0), I, R, n) := by
  rw [e_C_inPlay]
  simp only [W.k, W.1, zc_t, zr_s, h.2.2.1.1, if_true]
theorem M_isPlaying_L {J : ZI} (hM : WM R n) (h : zLg J L P Wk z) (h18 : J 195 18 = 1) {be : Bool} {w : Nat} (h2 : J 208 0 = zbo be) (h4 : J 208 9 = nI w) (hw : w ≤ Wk) : M_isPlaying 195 J R n = some (some (.int (zbo (be && decide (w < Wk)))), J, R, n) := by
  have hP := h.2.1.2.1
  rw [M_isPlaying_ok hM, h18, h2, h4, h.2.1.2.2.2]
  cases be with
  | false => rw [if_neg (show ¬ (1 : Int32) = 0 by decide), if_neg (by decide)]; rfl
  | true =>
    rw [if_neg (show ¬ (1 : Int32) = 0 by decide), if_pos (show zbo true = 1 by decide), Bool.true_and]
    by_cases c : w < Wk
    · rw [if_pos (nI_lt c (by omega)), decide_eq_true c]; rfl
    · rw [if_neg (nI_nlt (by omega) (by omega)), decide_eq_false c]; rfl
theorem M_isPlaying_N {J : ZI} (hM : WM R n) (h18 : J 195 18 = 0) : M_isPlaying 195 J R n = some (some (.int 0), J, R, n) := by
  rw [M_isPlaying_ok hM, h18, if_pos rfl]
theorem C_wasPlayed_L (W : zWc R n) (h : zLea q I R n L L' P Wk z m t) {w : Nat} (h4 : I 10 4 = nI w) (hw : w ≤ Wk) (x : Int32) : C_wasPlayed 0 x I R n = some (some (.int (zlt x w)), I, R, n) := by
  have hP := h.2.2.1.2.1.2.1
  rw [e_C_wasPlayed]
  simp only [W.k, W.1, zc_t, zr_s, C_isWeek_L W h, zbI_s, h4]
  rcases zlt_cases x (N := Wk) (by omega) with c | ⟨j, h1, rfl, c⟩
  · rw [c, if_pos rfl]
    unfold zlt at c ⊢
    by_cases c1 : x < 0
    · rw [if_pos c1]
    · rw [if_neg c1] at c ⊢
      obtain ⟨k, hk, rfl⟩ := nI_of c1
      by_cases c2 : nI k < nI Wk
      · rw [if_pos c2] at c; exact absurd c (by decide)
      · rw [nI_ltI hk (by omega)] at c2
        rw [if_neg (nI_nlt (by omega) hk)]
  · rw [c, if_neg (by decide), zlt_nI (by omega) (by omega)]
    by_cases c2 : j < w
    · rw [if_pos (nI_lt c2 (by omega)), if_pos c2]
    · rw [if_neg (nI_nlt (by omega) (by omega)), if_neg c2]
theorem C_wasPlayed_N (W : zWc R n) (h : zNo I R n) (x : Int32) : C_wasPlayed 0 x I R n = some (some (.int 0), I, R, n) := by
  rw [e_C_wasPlayed]
  simp only [W.k, W.1, zc_t, zr_s, C_isWeek_N W h, zbI_s, if_true]
end LW
theorem zin150 {k : Nat} (h : k < 5) : zin 150 (nI k) = true ∧ zin 211 (nI k) = true := ⟨zin_nI (by show _ < 5; omega) (by omega), zin_nI (by show _ < 5; omega) (by omega)⟩
theorem C_refuse_ok (W : zWc R n) {k : Nat} (hk : k < 5) {x : Int32} (hx : x = nI k) : C_refuse 0 x I R n = some (some (.int (-1)), zup I 150 k (I 150 k + 1), R, n) := by
  have t5 : (5 : Int32) = nI 5 := by decide
  have i1 := zin150 hk
  rw [e_C_refuse, hx, if_neg (nI_pos (by omega)), t5, if_pos (nI_lt hk (by decide))]
  simp only [W.k, W.1, zc_t, zr_s, i1, Bool.true_or, Bool.true_and, zix_nI (show k < 2 ^ 31 by omega)]
theorem M_refuse_ok (h : WM R n) {k : Nat} (hk : k < 5) {x : Int32} (hx : x = nI k) : M_refuse 195 x I R n = some (some (.int (-1)), zup I 211 k (I 211 k + 1), R, n) := by
  have i1 := zin150 hk
  rw [e_M_refuse, hx]
  simp only [h.k, h.2, zc_t, zr_s, i1, Bool.true_or, Bool.true_and, zix_nI (show k < 2 ^ 31 by omega)]
/-- a refusal on both sides -/
theorem zInv_r (h : zInv q I R n) {k : Nat} (hk : k < 5) : zInv (q + 1) (zup (zup (zup I 150 k (I 150 k + 1)) 195 0 0) 211 k ((zup (zup I 150 k (I 150 k + 1)) 195 0 0) 211 k + 1)) R n := by
  obtain ⟨W, B, N⟩ := h
  generalize hJ : zup (zup (zup I 150 k (I 150 k + 1)) 195 0 0) 211 k ((zup (zup I 150 k (I 150 k + 1)) 195 0 0) 211 k + 1) = J
  have f1 : ∀ b j, b ≠ 150 → b ≠ 211 → (b = 195 → j ≠ 0) → J b j = I b j := fun b j a1 a2 a3 => by
    rw [← hJ, zup_n _ a2]
    by_cases e : b = 195
    · rw [zup_k _ (a3 e), zup_n _ a1]
    · rw [zup_n _ e, zup_n _ a1]
  have f2 : ∀ j, J 150 j = if j = k then I 150 k + 1 else I 150 j := fun j => by
    rw [← hJ, zup_n _ (by decide), zup_n _ (by decide)]
    by_cases e : j = k
    · rw [if_pos e, e, zup_s]
    · rw [if_neg e, zup_k _ e]
  have f3 : ∀ j, J 211 j = if j = k then I 211 k + 1 else I 211 j := fun j => by
    rw [← hJ]
    by_cases e : j = k
    · rw [if_pos e, e, zup_s, zup_n _ (by decide), zup_n _ (by decide)]
    · rw [if_neg e, zup_k _ e, zup_n _ (by decide), zup_n _ (by decide)]
  refine ⟨W, ?_, ?_⟩
  · obtain ⟨⟨T, h1, h2, h3⟩, h4, h5⟩ := B
    refine ⟨⟨T, h1, ⟨?_, fun k hk => ?_⟩, ⟨?_, fun k hk => ?_⟩⟩, fun k hk => ?_, fun j hj => ?_⟩
    · rw [f1 _ _ (by decide) (by decide) (by decide)]; exact h2.1
    · rw [f1 _ _ (by decide) (by decide) (by omega)]; exact h2.2 k hk
    · rw [f1 _ _ (by decide) (by decide) (by decide)]; exact h3.1
    · rw [f1 _ _ (by decide) (by decide) (by omega)]; exact h3.2 k hk
    · rw [f1 _ _ (by decide) (by decide) (by omega), f1 _ _ (by decide) (by decide) (by omega), f1 _ _ (by decide) (by decide) (by omega)]; exact h4 k hk
    · rw [f2, f3, h5 j hj, h5 k hk]
  · rcases N with N | ⟨L, L', P, Wk, z, m, t, N⟩
    · exact Or.inl (zNo_f N (fun b j hb => f1 b j (by unfold zirr at hb; omega) (by unfold zirr at hb; omega) (by unfold zirr at hb; omega)))
    · exact Or.inr ⟨L, L', P, Wk, z, m, t, zLea_f N (by omega) (fun b j hb => f1 b j (by unfold zirr at hb; omega) (by unfold zirr at hb; omega) (by unfold zirr at hb; omega))⟩
/-! the simplest calls -/
theorem zIs (x : Int32) {N : Nat} (h1 : 1 ≤ N) (hN : N < 2 ^ 31) {y : Int64} (hy : y = (nI (N - 1)).toInt64) : (if x.toInt64 < (0 : Int64) then (0 : Int32) else if y < x.toInt64 then 0 else 1) = zlt x N := by
  rw [hy, ← zpred h1]
  exact zlt_pred x h1 hN
theorem p_status (h : zInv q I R n) (x : Int32) : zAg q I R n (C_status 0 x) (M_status 195 x) := by
  have W := h.1
  have hM := W.M
  have t5 : (5 : Int32) = nI 5 := by decide
  have im := M_isIn_ok (I := zup I 195 0 0) (R := R) (n := n) x.toInt64 0 4
  rw [zIs x (N := 5) (by decide) (by decide) (by decide)] at im
  have sm := e_M_status 195 x I R n
  simp only [hM.k, hM.2, zc_t, zr_s, im, zbI_s] at sm
  have sc := e_C_status 0 x I R n
  rcases zlt_cases x (N := 5) (by decide) with c | ⟨j, hj, rfl, c⟩
  · rw [c, if_pos rfl] at sm
    refine zAg_ro h (v := -1) ?_ sm
    unfold zlt at c
    by_cases c1 : x < 0
    · rw [if_pos c1] at sc; exact sc
    · rw [if_neg c1] at sc c
      by_cases c2 : x < nI 5
      · rw [if_pos c2] at c; exact absurd c (by decide)
      · rw [t5, if_neg c2] at sc; exact sc
  · have i1 := zin150 hj
    rw [c, if_neg (by decide)] at sm
    rw [if_neg (nI_pos (by omega)), t5, if_pos (nI_lt hj (by decide))] at sc
    simp only [W.k, W.1, zc_t, zr_s, i1, Bool.true_or, Bool.true_and, zix_nI (show j < 2 ^ 31 by omega)] at sc
    simp only [i1, Bool.true_or, Bool.true_and, zc_t, zix_nI (show j < 2 ^ 31 by omega), zTn I 0 j (show (211 : Nat) ≠ 195 by decide)] at sm
    exact zAg_ro h sc (by rw [h.2.1.2.2 j hj]; exact sm)
end LCa
