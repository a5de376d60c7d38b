/-! ===== plan: which weeks are to come ===== -/
def zTc (y : Int64) (a b : Int32) : Int32 := if (if y < 0 then (0 : Int32) else if 5 < y then 0 else 1) = 0 then 0 else if (if y < a.toInt64 then (0 : Int32) else if (b - 1).toInt64 < y then 0 else 1) = 0 then 0 else 1
def zTd (y : Int64) (a b : Int32) : Int32 := if lg_cmp y a.toInt64 < 0 then 0 else if lg_cmp y b.toInt64 < 0 then 1 else 0
theorem zTc_c (x : Int32) {c w Wk : Nat} (hc : c ≤ 20) {y : Int64} (hy : y.toInt = x.toInt - (c : Int)) (hw : w ≤ Wk) (h1 : 1 ≤ Wk) (h6 : Wk ≤ 6) : (zTc y (nI w) (nI Wk) = 0 ∧ zTd y (nI w) (nI Wk) = 0) ∨ ∃ i, w ≤ i ∧ i < Wk ∧ x = nI (c + i) ∧ zTc y (nI w) (nI Wk) = 1 ∧ zTd y (nI w) (nI Wk) = 1 := by
  have tI : ∀ k, k < 2 ^ 31 → (nI k).toInt = (k : Int) := fun k hk => nI_toInt hk
  have e1 : y < 0 ↔ y.toInt < 0 := by rw [Int64.lt_iff_toInt_lt]; rfl
  have e2 : 5 < y ↔ 5 < y.toInt := by rw [Int64.lt_iff_toInt_lt]; rfl
  have e3 : y < (nI w).toInt64 ↔ y.toInt < (w : Int) := by rw [Int64.lt_iff_toInt_lt, Int32.toInt_toInt64, tI w (by omega)]
  have e4 : (nI Wk - 1).toInt64 < y ↔ (Wk : Int) - 1 < y.toInt := by
    rw [zpred h1, Int64.lt_iff_toInt_lt, Int32.toInt_toInt64, tI _ (by omega)]
    omega
  have e5 : y < (nI Wk).toInt64 ↔ y.toInt < (Wk : Int) := by rw [Int64.lt_iff_toInt_lt, Int32.toInt_toInt64, tI Wk (by omega)]
  unfold zTc zTd
  simp only [zcmp_lt, e1, e2, e3, e4, e5, hy]
  by_cases c1 : x.toInt - (c : Int) < (w : Int)
  · refine Or.inl ⟨?_, by rw [if_pos c1]⟩
    rw [if_pos c1]
    simp only [eq_self, if_true, ite_self]
  · by_cases c2 : x.toInt - (c : Int) < (Wk : Int)
    · refine Or.inr ⟨(x.toInt - (c : Int)).toNat - 0, by omega, by omega, ?_, ?_, ?_⟩
      · have hx : ¬ x < 0 := by
          rw [Int32.lt_iff_toInt_lt]
          have : (0 : Int32).toInt = 0 := by decide
          omega
        obtain ⟨j, hj, rfl⟩ := nI_of hx
        rw [tI j hj] at c1 c2 ⊢
        congr 1
        omega
      · rw [if_neg c1, if_neg (show ¬ x.toInt - (c : Int) < 0 by omega), if_neg (show ¬ 5 < x.toInt - (c : Int) by omega), if_neg (show ¬ (Wk : Int) - 1 < x.toInt - (c : Int) by omega)]
        rfl
      · rw [if_neg c1, if_pos c2]
    · refine Or.inl ⟨?_, by rw [if_neg c1, if_neg c2]⟩
      rw [if_neg c1, if_pos (show (Wk : Int) - 1 < x.toInt - (c : Int) by omega)]
      simp only [eq_self, if_true, ite_self]
theorem z64sub (x : Int32) : (x.toInt64 - 10).toInt = x.toInt - 10 ∧ (x.toInt64 - 20).toInt = x.toInt - 20 := by
  have h1 := Int32.le_toInt x
  have h2 := Int32.toInt_lt x
  constructor
  · rw [Int64.toInt_sub, Int32.toInt_toInt64, show (10 : Int64).toInt = 10 by decide, Int.bmod_def]
    omega
  · rw [Int64.toInt_sub, Int32.toInt_toInt64, show (20 : Int64).toInt = 20 by decide, Int.bmod_def]
    omega
section LPf
variable {q : Nat} {I : ZI} {R : ZR} {n L L' P Wk z m : Nat} {t : Nat → Nat}
theorem C_isToCome_L (W : zWc R n) (k : zLea q I R n L L' P Wk z m t) (y : Int64) : C_isToCome 0 y I R n = some (some (.int (zTd y (I 10 4) (nI Wk))), I, R, n) := by
  have hL := W.L k.1.1
  have s := e_C_isToCome 0 y I R n
  have z2 : zix (2 : Int32) = 2 := by decide
  have zi2 : zin (L + 2) 2 = true := by rcases k.1.1 with e | e <;> (rw [e]; decide)
  simp only [W.k, W.1, k.1.2.2.2.1, hL.k, hL.r, zc_t, zr_s, zi2, z2, Bool.true_or, Bool.true_and, k.2.2.1.2.1.2.2.1] at s
  rw [s]
  unfold zTd
  by_cases c1 : lg_cmp y (I 10 4).toInt64 < 0
  · rw [if_pos c1, if_pos c1]
  · rw [if_neg c1, if_neg c1]
    by_cases c2 : lg_cmp y (nI Wk).toInt64 < 0
    · rw [if_pos c2, if_pos c2]
    · rw [if_neg c2, if_neg c2]
theorem M_plan_fl (hM : WM R n) (x : Int32) : M_plan 195 x I R n = M_plan_108 195 x (zTc (x.toInt64 - 10) (I 208 9) (I 198 6)) (zTc (x.toInt64 - 20) (I 208 9) (I 198 6)) (zup I 195 0 0) R n := by
  have im := fun (y a b : Int64) => M_isIn_ok (I := zup I 195 0 0) (R := R) (n := n) y a b
  have r8 : zup I 195 0 0 208 9 = I 208 9 := zup_n _ (by decide)
  have r6 : zup I 195 0 0 198 6 = I 198 6 := zup_n _ (by decide)
  have s := e_M_plan 195 x I R n
  have s56 : ∀ fl, M_plan_56 195 x fl (zup I 195 0 0) R n = M_plan_108 195 x fl (zTc (x.toInt64 - 20) (I 208 9) (I 198 6)) (zup I 195 0 0) R n := fun fl => by
    have s := e_M_plan_56 195 x fl (zup I 195 0 0) R n
    simp only [hM.k, hM.2, zc_t, zr_s, im, zbI_s, zin208, zin198, zixs, Bool.true_or, Bool.true_and, r8, r6] at s
    rw [s]
    unfold zTc
    by_cases c1 : (if x.toInt64 - 20 < 0 then (0 : Int32) else if 5 < x.toInt64 - 20 then 0 else 1) = 0
    · rw [if_pos c1, if_pos c1]
    · rw [if_neg c1, if_neg c1]
      by_cases c2 : (if x.toInt64 - 20 < (I 208 9).toInt64 then (0 : Int32) else if (I 198 6 - 1).toInt64 < x.toInt64 - 20 then 0 else 1) = 0
      · rw [if_pos c2, if_pos c2]
      · rw [if_neg c2, if_neg c2]
  simp only [hM.k, hM.2, zc_t, zr_s, im, zbI_s, zin208, zin198, zixs, Bool.true_or, Bool.true_and, r8, r6, s56] at s
  rw [s]
  by_cases c1 : (if x.toInt64 - 10 < 0 then (0 : Int32) else if 5 < x.toInt64 - 10 then 0 else 1) = 0
  · rw [if_pos c1, show zTc (x.toInt64 - 10) (I 208 9) (I 198 6) = 0 by unfold zTc; rw [if_pos c1]]
  · rw [if_neg c1]
    by_cases c2 : (if x.toInt64 - 10 < (I 208 9).toInt64 then (0 : Int32) else if (I 198 6 - 1).toInt64 < x.toInt64 - 10 then 0 else 1) = 0
    · rw [if_pos c2, show zTc (x.toInt64 - 10) (I 208 9) (I 198 6) = 0 by unfold zTc; rw [if_neg c1, if_pos c2]]
    · rw [if_neg c2, show zTc (x.toInt64 - 10) (I 208 9) (I 198 6) = 1 by unfold zTc; rw [if_neg c1, if_neg c2]]
end LPf
