/-! ===== the reference's small methods ===== -/
section LM1
variable {I : ZI} {R : ZR} {n : Nat}
theorem M_has_ok {S j : Nat} (hS : S < 2 ^ 31) (hj : j < 32) : M_has (nI S) (nI j) I R n = some (some (.int (if S.testBit j then 1 else 0)), I, R, n) := by
  rw [e_M_has, zbit hS hj]
  cases S.testBit j <;> rfl
theorem M_priceOf_ok (h : WM R n) {i : Nat} (hi : i < 16) : M_priceOf 195 (nI i) I R n = some (some (.int (I 208 (11 + i))), I, R, n) := by
  have e1 : (11 : Int32) + nI i = nI (11 + i) := nI_add 11 i
  have e2 : zin 208 (nI (11 + i)) = true := zin_nI (by show _ < 79; omega) (by omega)
  rw [e_M_priceOf]
  simp only [h.2, h.k, e1, e2, zix_nI (show 11 + i < 2 ^ 31 by omega), zc_t, zr_s, Bool.true_or, Bool.true_and]
theorem M_pricesOf_ok (h : WM R n) {S P : Nat} (hS : S < 2 ^ 31) (hP : P ≤ 16) (hp : I 195 17 = nI P) : M_pricesOf 195 (nI S) I R n = some (some (.int (zsum S (fun i => I 208 (11 + i)) P)), I, R, n) := by
  rw [e_M_pricesOf]
  have hl := zloop (fun i a => M_pricesOf_4 195 (nI S) a (nI i) I R n) (fun i a => a + (if S.testBit i then I 208 (11 + i) else 0)) P (fun i a hi => ?_) 0 P (Nat.le_refl _)
  · have e0 : (0 : Int32) = nI 0 := nI_0.symm
    have hl' : M_pricesOf_4 195 (nI S) 0 (nI 0) I R n = M_pricesOf_4 195 (nI S) (zfold (fun i a => a + (if S.testBit i then I 208 (11 + i) else 0)) P 0) (nI P) I R n := hl
    rw [nI_0] at hl'
    rw [hl', zsum_fold, e_M_pricesOf_4]
    simp only [h.k, zc_t, hp]
    rw [if_neg (nI_nlt (Nat.le_refl _) (by omega))]
  · show M_pricesOf_4 195 (nI S) a (nI i) I R n = M_pricesOf_4 195 (nI S) _ (nI (i + 1)) I R n
    rw [e_M_pricesOf_4]
    simp only [h.k, zc_t, hp, if_pos (nI_lt hi (show P < 2 ^ 31 by omega)), M_has_ok hS (show i < 32 by omega), zbI_s, M_priceOf_ok h (show i < 16 by omega), nI_1]
    cases S.testBit i <;> rfl
end LM1
