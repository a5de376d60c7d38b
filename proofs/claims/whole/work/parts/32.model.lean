/-! ===== the reference's readings of its rows ===== -/
theorem zixs : zix 0 = 0 ∧ zix 1 = 1 ∧ zix 2 = 2 ∧ zix 3 = 3 ∧ zix 4 = 4 ∧ zix 5 = 5 ∧ zix 6 = 6 ∧ zix 7 = 7 ∧ zix 8 = 8 ∧ zix 9 = 9 ∧ zix 10 = 10 := by decide +kernel
theorem zin208 : zin 208 0 = true ∧ zin 208 1 = true ∧ zin 208 2 = true ∧ zin 208 3 = true ∧ zin 208 4 = true ∧ zin 208 5 = true ∧ zin 208 6 = true ∧ zin 208 7 = true ∧ zin 208 8 = true ∧ zin 208 9 = true ∧ zin 208 10 = true := by decide +kernel
theorem zin198 : zin 198 0 = true ∧ zin 198 1 = true ∧ zin 198 2 = true ∧ zin 198 3 = true ∧ zin 198 4 = true ∧ zin 198 5 = true ∧ zin 198 6 = true ∧ zin 198 7 = true ∧ zin 198 8 = true ∧ zin 198 9 = true := by decide +kernel
theorem zcmp_lt (x y : Int64) : (lg_cmp x y < 0) ↔ x < y := by
  unfold lg_cmp
  by_cases h1 : x > y
  · have h2 : ¬ x < y := by
      rw [gt_iff_lt, Int64.lt_iff_toInt_lt] at h1
      rw [Int64.lt_iff_toInt_lt]; omega
    rw [if_pos h1]
    exact ⟨fun q => absurd q (by decide), fun q => absurd q h2⟩
  · rw [if_neg h1]
    by_cases h2 : x = y
    · subst h2
      rw [if_pos rfl]
      exact ⟨fun q => absurd q (by decide), fun q => absurd q h1⟩
    · rw [if_neg h2]
      refine ⟨fun _ => ?_, fun _ => by decide⟩
      rw [gt_iff_lt, Int64.lt_iff_toInt_lt] at h1
      rw [Int64.lt_iff_toInt_lt]
      have : x.toInt ≠ y.toInt := fun q => h2 (Int64.toInt_inj.mp q)
      omega
theorem zcmp_gt (x y : Int64) : (0 < lg_cmp x y) ↔ y < x := by
  unfold lg_cmp
  by_cases h1 : x > y
  · rw [if_pos h1]
    exact ⟨fun _ => h1, fun _ => by decide⟩
  · rw [if_neg h1]
    refine ⟨fun q => ?_, fun q => absurd q h1⟩
    by_cases h2 : x = y
    · rw [if_pos h2] at q; exact absurd q (by decide)
    · rw [if_neg h2] at q; exact absurd q (by decide)
theorem z64_lt (x y : Int32) : x.toInt64 < y.toInt64 ↔ x < y := by
  rw [Int64.lt_iff_toInt_lt, Int32.toInt_toInt64, Int32.toInt_toInt64, Int32.lt_iff_toInt_lt]
theorem zsum_succ (S : Nat) (f : Nat → Int32) (k : Nat) : zsum S f (k + 1) = zsum S f k + (if S.testBit k then f k else 0) := rfl
section LM2
variable {I : ZI} {R : ZR} {n : Nat}
theorem M_isIn_ok (x l u : Int64) : M_isIn x l u I R n = some (some (.int (if x < l then 0 else if u < x then 0 else 1)), I, R, n) := by
  rw [e_M_isIn]
  simp only [zcmp_lt, zcmp_gt]
  by_cases h1 : x < l
  · rw [if_pos h1, if_pos h1]
  · rw [if_neg h1, if_neg h1]
    by_cases h2 : u < x
    · rw [if_pos h2, if_pos h2]
    · rw [if_neg h2, if_neg h2]
theorem z64_0 : (0 : Int64) = Int32.toInt64 0 := by decide +kernel
/-- is x a number from 0 to below N -/
def zlt (x : Int32) (N : Nat) : Int32 := if x < 0 then 0 else if x < nI N then 1 else 0
theorem zlt_in {j N : Nat} (h : j < N) (hN : N < 2 ^ 31) : zlt (nI j) N = 1 := by
  unfold zlt
  rw [if_neg (nI_pos (by omega)), if_pos (nI_lt h hN)]
theorem zlt_cases (x : Int32) {N : Nat} (hN : N < 2 ^ 31) : zlt x N = 0 ∨ ∃ j, j < N ∧ x = nI j ∧ zlt x N = 1 := by
  unfold zlt
  by_cases h1 : x < 0
  · rw [if_pos h1]; exact Or.inl rfl
  · rw [if_neg h1]
    by_cases h2 : x < nI N
    · rw [if_pos h2]
      obtain ⟨j, hj, rfl⟩ := nI_of h1
      exact Or.inr ⟨j, (nI_ltI hj hN).mp h2, rfl, rfl⟩
    · rw [if_neg h2]; exact Or.inl rfl
theorem zpred {P : Nat} (h : 1 ≤ P) : nI P - 1 = nI (P - 1) := by
  obtain ⟨k, rfl⟩ : ∃ k, P = k + 1 := ⟨P - 1, by omega⟩
  exact nI_pred k
theorem zlt_pred (x : Int32) {P : Nat} (h1 : 1 ≤ P) (hP : P < 2 ^ 31) : (if x.toInt64 < (0 : Int64) then (0 : Int32) else if (nI P - 1).toInt64 < x.toInt64 then 0 else 1) = zlt x P := by
  unfold zlt
  rw [z64_0]
  simp only [z64_lt]
  by_cases h : x < 0
  · rw [if_pos h, if_pos h]
  · rw [if_neg h, if_neg h, zpred h1]
    obtain ⟨j, hj, rfl⟩ := nI_of h
    by_cases q : j < P
    · rw [if_pos (nI_lt q hP), if_neg (nI_nlt (by omega) (by omega))]
    · rw [if_neg (nI_nlt (by omega) hj), if_pos (nI_lt (by omega) hj)]
theorem M_isPlayer_ok (h : WM R n) {x : Int32} {P : Nat} (hL : I 195 18 = 1) (hp : I 195 17 = nI P) (h1 : 1 ≤ P) (hP : P ≤ 16) : M_isPlayer 195 x I R n = some (some (.int (zlt x P)), I, R, n) := by
  rw [e_M_isPlayer]
  simp only [h.k, zc_t, hL, M_isIn_ok, zbI_s, hp, zlt_pred x h1 (show P < 2 ^ 31 by omega)]
  rw [if_neg (by decide)]
  rcases zlt_cases x (N := P) (by omega) with q | ⟨j, -, -, q⟩ <;> rw [q] <;> rfl
theorem M_isPlayer_no (h : WM R n) {x : Int32} (hL : I 195 18 = 0) : M_isPlayer 195 x I R n = some (some (.int 0), I, R, n) := by
  rw [e_M_isPlayer]
  simp only [h.k, zc_t, hL, if_true]
theorem M_isWeek_ok (h : WM R n) {x : Int32} {Wk : Nat} (hL : I 195 18 = 1) (hp : I 198 6 = nI Wk) (h1 : 1 ≤ Wk) (hP : Wk ≤ 6) : M_isWeek 195 x I R n = some (some (.int (zlt x Wk)), I, R, n) := by
  rw [e_M_isWeek]
  simp only [h.k, h.2, zc_t, zr_s, hL, M_isIn_ok, zbI_s, zixs, zin198, Bool.true_or, Bool.true_and, hp, zlt_pred x h1 (show Wk < 2 ^ 31 by omega)]
  rw [if_neg (by decide)]
  rcases zlt_cases x (N := Wk) (by omega) with q | ⟨j, -, -, q⟩ <;> rw [q] <;> rfl
theorem M_isWeek_no (h : WM R n) {x : Int32} (hL : I 195 18 = 0) : M_isWeek 195 x I R n = some (some (.int 0), I, R, n) := by
  rw [e_M_isWeek]
  simp only [h.k, zc_t, hL, if_true]
theorem M_isOwned_ok (h : WM R n) {S j : Nat} (hb : I 208 0 = 1) (ht : I 208 1 = nI S) (hS : S < 2 ^ 31) (hj : j < 32) : M_isOwned 195 (nI j) I R n = some (some (.int (if S.testBit j then 1 else 0)), I, R, n) := by
  rw [e_M_isOwned]
  simp only [h.k, h.2, zc_t, zr_s, zixs, zin208, Bool.true_or, Bool.true_and, hb, ht, if_true, M_has_ok hS hj, zbI_s]
  cases S.testBit j <;> rfl
theorem M_isOwned_no (h : WM R n) {x : Int32} (hb : I 208 0 = 0) : M_isOwned 195 x I R n = some (some (.int 0), I, R, n) := by
  rw [e_M_isOwned]
  simp only [h.k, h.2, zc_t, zr_s, zixs, zin208, Bool.true_or, Bool.true_and, hb]
  rw [if_neg (by decide)]
/-- what one brings: its price, what was paid -/
def zbrings (price paid : Int32) : Int32 := if paid < price then paid + (price - paid) / 2 else price
theorem M_brings2_ok (h : WM R n) {i : Nat} (hi : i < 16) : M_brings2 195 (nI i) I R n = some (some (.int (zbrings (I 208 (11 + i)) (I 208 (27 + i)))), I, R, n) := by
  have e1 : (27 : Int32) + nI i = nI (27 + i) := nI_add 27 i
  have e2 : zin 208 (nI (27 + i)) = true := zin_nI (by show _ < 79; omega) (by omega)
  have e3 : (!(decide ((2 : Nat) = 0))) = true := by decide
  rw [e_M_brings2]
  simp only [h.k, h.2, e1, e2, e3, zix_nI (show 27 + i < 2 ^ 31 by omega), zc_t, zr_s, Bool.true_or, Bool.true_and, M_priceOf_ok h hi, zbI_s]
  unfold zbrings
  by_cases q : I 208 (27 + i) < I 208 (11 + i)
  · rw [if_pos q, if_pos q]
  · rw [if_neg q, if_neg q]
theorem M_worth_ok (h : WM R n) {S P : Nat} (hb : I 208 0 = 1) (ht : I 208 1 = nI S) (hS : S < 2 ^ 31) (hp : I 195 17 = nI P) (hP : P ≤ 16) : M_worth 195 I R n = some (some (.int (I 208 2 + zsum S (fun i => zbrings (I 208 (11 + i)) (I 208 (27 + i))) P)), I, R, n) := by
  rw [e_M_worth]
  simp only [h.k, h.2, zc_t, zr_s, zixs, zin208, Bool.true_or, Bool.true_and]
  have key : ∀ k, k ≤ P → M_worth_9 195 (I 208 2) (nI 0) I R n = M_worth_9 195 (I 208 2 + zsum S (fun i => zbrings (I 208 (11 + i)) (I 208 (27 + i))) k) (nI k) I R n := by
    intro k
    induction k with
    | zero => intro _; show _ = M_worth_9 195 (I 208 2 + 0) _ _ _ _; rw [Int32.add_zero]
    | succ k ih =>
      intro hk
      rw [ih (by omega), e_M_worth_9]
      simp only [h.k, zc_t, hp, if_pos (nI_lt (show k < P by omega) (show P < 2 ^ 31 by omega)), M_isOwned_ok h hb ht hS (show k < 32 by omega), zbI_s, M_brings2_ok h (show k < 16 by omega), nI_1]
      rw [zsum_succ]
      cases hbit : S.testBit k
      · simp
      · simp [Int32.add_assoc]
  have e0 : (0 : Int32) = nI 0 := nI_0.symm
  rw [e0, key P (Nat.le_refl _), e_M_worth_9]
  simp only [h.k, zc_t, hp]
  rw [if_neg (nI_nlt (Nat.le_refl _) (by omega))]
end LM2
