/-! ===== the reference: who outdoes whom, the most, all weeks ===== -/
section LM5
variable {I : ZI} {R : ZR} {n : Nat}
theorem zin203 {i : Nat} (hi : i < 16) : zin 203 (nI i) = true := zin_nI (by show _ < 16; omega) (by omega)
theorem zin204 {i : Nat} (hi : i < 16) : zin 204 (nI i) = true := zin_nI (by show _ < 16; omega) (by omega)
theorem M_outdoes_ok (h : WM R n) {o i w0 Wk : Nat} (ho : o < 16) (hi : i < 16) (hW : I 198 6 = nI Wk) (hWk : Wk ≤ 6) (hw0 : I 208 9 = nI w0) (h0 : w0 ≤ Wk) : M_outdoes 195 (nI o) (nI i) I R n = some (some (.int (zbo (zoutd (I 203) (fun j => I 208 (11 + j)) (fun w j => I 206 (6 * j + w)) w0 Wk o i))), I, R, n) := by
  have key : ∀ k w b, w + k = Wk → M_outdoes_63 195 (nI o) (nI i) (zbo b) (nI w) I R n = some (some (.int (zbo (zoutL o i (fun w j => I 206 (6 * j + w)) k w b))), I, R, n) := by
    intro k
    induction k with
    | zero =>
      intro w b hw
      rw [e_M_outdoes_63]
      simp only [h.k, h.2, zin198, zixs, zc_t, zr_s, hW, Bool.true_or, Bool.true_and]
      rw [if_neg (nI_nlt (by omega) (by omega))]
      cases b
      · unfold zoutL
        rw [if_pos (show zbo false = 0 from rfl), Bool.false_or]
        by_cases q : o < i
        · rw [if_pos (nI_lt q (by omega)), decide_eq_true q]; rfl
        · rw [if_neg (nI_nlt (by omega) (by omega)), decide_eq_false q]; rfl
      · rfl
    | succ k ih =>
      intro w b hw
      have hw6 : w < 6 := by omega
      rw [e_M_outdoes_63]
      simp only [h.k, h.2, zin198, zixs, zc_t, zr_s, hW, Bool.true_or, Bool.true_and, if_pos (nI_lt (show w < Wk by omega) (show Wk < 2 ^ 31 by omega)), zpt, zin206 ho hw6, zin206 hi hw6, zix_nI (show 6 * o + w < 2 ^ 31 by omega), zix_nI (show 6 * i + w < 2 ^ 31 by omega), nI_1]
      unfold zoutL
      by_cases q : I 206 (6 * o + w) < I 206 (6 * i + w)
      · rw [if_pos q, if_pos q]; rfl
      · rw [if_neg q, if_neg q]
        cases b
        · rw [if_pos (show zbo false = 0 from rfl)]
          by_cases q2 : I 206 (6 * i + w) < I 206 (6 * o + w)
          · rw [if_pos q2, decide_eq_true q2]; exact ih (w + 1) true (by omega)
          · rw [if_neg q2, decide_eq_false q2]; exact ih (w + 1) false (by omega)
        · rw [if_neg (show ¬ zbo true = 0 by decide)]; exact ih (w + 1) true (by omega)
  rw [e_M_outdoes]
  unfold zoutd
  by_cases q0 : o = i
  · rw [if_pos q0, if_pos (congrArg nI q0)]; rfl
  · rw [if_neg q0, if_neg (fun z => q0 ((nI_eq (by omega) (by omega)).mp z))]
    simp only [h.k, h.2, zc_t, zr_s, Bool.true_or, Bool.true_and, zin203 ho, zin203 hi, zix_nI (show o < 2 ^ 31 by omega), zix_nI (show i < 2 ^ 31 by omega), M_priceOf_ok h ho, M_priceOf_ok h hi, zbI_s, zin208, zixs, hw0]
    by_cases q1 : I 203 o = I 203 i
    · rw [if_pos q1, if_pos q1]
      by_cases q2 : I 208 (11 + i) < I 208 (11 + o)
      · rw [if_pos q2, if_pos q2]; rfl
      · rw [if_neg q2, if_neg q2]
        by_cases q3 : I 208 (11 + o) < I 208 (11 + i)
        · rw [if_pos q3, decide_eq_true q3]; exact key (Wk - w0) w0 true (by omega)
        · rw [if_neg q3, decide_eq_false q3]; exact key (Wk - w0) w0 false (by omega)
    · rw [if_neg q1, if_neg q1]; rfl
theorem M_outdoneBy_ok (h : WM R n) {i w0 Wk P : Nat} (hi : i < 16) (hp : I 195 17 = nI P) (hP : P ≤ 16) (hW : I 198 6 = nI Wk) (hWk : Wk ≤ 6) (hw0 : I 208 9 = nI w0) (h0 : w0 ≤ Wk) : M_outdoneBy 195 (nI i) I R n = some (some (.int (zo (zwho (I 203) (fun j => I 208 (11 + j)) (fun w j => I 206 (6 * j + w)) w0 Wk P i))), I, R, n) := by
  rw [e_M_outdoneBy]
  have hl := zwho_loop (fun o => M_outdoneBy_2 195 (nI i) (nI o) I R n) (fun o => zoutd (I 203) (fun j => I 208 (11 + j)) (fun w j => I 206 (6 * j + w)) w0 Wk o i) (fun o => some (some (.int (nI o)), I, R, n)) P (fun o ho => by
    show M_outdoneBy_2 195 (nI i) (nI o) I R n = _
    rw [e_M_outdoneBy_2]
    simp only [h.k, zc_t, hp, if_pos (nI_lt ho (show P < 2 ^ 31 by omega)), nI_1, M_outdoes_ok h (show o < 16 by omega) hi hW hWk hw0 h0, zbI_s, zbo_0]
    cases zoutd (I 203) (fun j => I 208 (11 + j)) (fun w j => I 206 (6 * j + w)) w0 Wk o i <;> rfl)
  rw [nI_0] at hl
  rw [hl]
  unfold zwho
  cases zfirst (fun o => zoutd (I 203) (fun j => I 208 (11 + j)) (fun w j => I 206 (6 * j + w)) w0 Wk o i) 0 P with
  | some j => rfl
  | none =>
    show M_outdoneBy_2 195 (nI i) (nI P) I R n = _
    rw [e_M_outdoneBy_2]
    simp only [h.k, zc_t, hp]
    rw [if_neg (nI_nlt (Nat.le_refl _) (by omega))]; rfl
theorem M_outdoneMany_ok (h : WM R n) {w0 Wk P : Nat} (hp : I 195 17 = nI P) (hP : P ≤ 16) (hW : I 198 6 = nI Wk) (hWk : Wk ≤ 6) (hw0 : I 208 9 = nI w0) (h0 : w0 ≤ Wk) : M_outdoneMany 195 I R n = some (some (.int (nI (zmany (I 203) (fun j => I 208 (11 + j)) (fun w j => I 206 (6 * j + w)) w0 Wk P P))), I, R, n) := by
  rw [e_M_outdoneMany]
  have key : ∀ k, k ≤ P → M_outdoneMany_4 195 (nI 0) (nI 0) I R n = M_outdoneMany_4 195 (nI (zmany (I 203) (fun j => I 208 (11 + j)) (fun w j => I 206 (6 * j + w)) w0 Wk P k)) (nI k) I R n := by
    intro k
    induction k with
    | zero => intro _; rfl
    | succ k ih =>
      intro hk
      rw [ih (by omega), e_M_outdoneMany_4]
      simp only [h.k, zc_t, hp, if_pos (nI_lt (show k < P by omega) (show P < 2 ^ 31 by omega)), M_outdoneBy_ok h (show k < 16 by omega) hp hP hW hWk hw0 h0, zbI_s, nI_1, zwho_m1 hP]
      rw [zmany_succ]
      by_cases q : zwho (I 203) (fun j => I 208 (11 + j)) (fun w j => I 206 (6 * j + w)) w0 Wk P k = none
      · rw [if_pos q, if_pos q, Int32.add_zero]; rfl
      · rw [if_neg q, if_neg q]
  rw [nI_0] at key
  rw [key P (Nat.le_refl _), e_M_outdoneMany_4]
  simp only [h.k, zc_t, hp]
  rw [if_neg (nI_nlt (Nat.le_refl _) (by omega))]
theorem M_mostOf0_ok (h : WM R n) {Wk P : Nat} (hp : I 195 17 = nI P) (h1 : 1 ≤ P) (hP : P ≤ 16) (hW : I 198 6 = nI Wk) (hWk : Wk ≤ 6) : M_mostOf 195 0 I R n = some (some (.int (nI (zbest (fun a b => decide (zrow (fun w => I 206 (6 * b + w)) 0 (Wk - 0) < zrow (fun w => I 206 (6 * a + w)) 0 (Wk - 0))) (P - 1)))), I, R, n) := by
  rw [e_M_mostOf]
  have hl := zbest_loop (fun b i => M_mostOf_4 195 (nI 0) (nI b) (nI i) I R n) (fun a b => decide (zrow (fun w => I 206 (6 * b + w)) 0 (Wk - 0) < zrow (fun w => I 206 (6 * a + w)) 0 (Wk - 0))) (P - 1) (fun i b hi hb => by
    show M_mostOf_4 195 (nI 0) (nI b) (nI (i + 1)) I R n = _
    rw [e_M_mostOf_4]
    simp only [h.k, zc_t, hp, if_pos (nI_lt (show i + 1 < P by omega) (show P < 2 ^ 31 by omega)), ← nI_0, if_true, M_pointsIn_ok h (show i + 1 < 16 by omega) hW hWk (Nat.zero_le _), M_pointsIn_ok h (show b < 16 by omega) hW hWk (Nat.zero_le _), zbI_s, e_M_mostOf_54]
    rw [e_M_mostOf_98]
    simp only [zcmp_gt, z64_lt, nI_1]
    exact zdec _ _ _) (P - 1) (Nat.le_refl _)
  have hl' : M_mostOf_4 195 0 0 1 I R n = _ := hl
  rw [hl']
  show M_mostOf_4 195 _ _ (nI (P - 1 + 1)) I R n = _
  rw [e_M_mostOf_4]
  simp only [h.k, zc_t, hp]
  rw [if_neg (nI_nlt (by omega) (by omega))]
theorem M_mostOf1_ok (h : WM R n) {P : Nat} (hp : I 195 17 = nI P) (h1 : 1 ≤ P) (hP : P ≤ 16) : M_mostOf 195 1 I R n = some (some (.int (nI (zbest (fun a b => decide (I 208 (11 + b) < I 208 (11 + a))) (P - 1)))), I, R, n) := by
  rw [e_M_mostOf]
  have hl := zbest_loop (fun b i => M_mostOf_4 195 1 (nI b) (nI i) I R n) (fun a b => decide (I 208 (11 + b) < I 208 (11 + a))) (P - 1) (fun i b hi hb => by
    show M_mostOf_4 195 1 (nI b) (nI (i + 1)) I R n = _
    rw [e_M_mostOf_4]
    simp only [h.k, zc_t, hp, if_pos (nI_lt (show i + 1 < P by omega) (show P < 2 ^ 31 by omega)), (by decide : ¬ (1 : Int32) = 0), if_false, if_true, M_priceOf_ok h (show i + 1 < 16 by omega), M_priceOf_ok h (show b < 16 by omega), zbI_s, e_M_mostOf_54]
    rw [e_M_mostOf_98]
    simp only [zcmp_gt, z64_lt, nI_1]
    exact zdec _ _ _) (P - 1) (Nat.le_refl _)
  have hl' : M_mostOf_4 195 1 0 1 I R n = _ := hl
  rw [hl']
  show M_mostOf_4 195 _ _ (nI (P - 1 + 1)) I R n = _
  rw [e_M_mostOf_4]
  simp only [h.k, zc_t, hp]
  rw [if_neg (nI_nlt (by omega) (by omega))]
theorem M_mostOf2_ok (h : WM R n) {Wk P : Nat} (hp : I 195 17 = nI P) (h1 : 1 ≤ P) (hP : P ≤ 16) (hW : I 198 6 = nI Wk) (hWk : Wk ≤ 6) : M_mostOf 195 2 I R n = some (some (.int (nI (zbest (fun a b => decide ((zrow (fun w => I 206 (6 * b + w)) 0 (Wk - 0)).toInt64 * (I 208 (11 + a)).toInt64 < (zrow (fun w => I 206 (6 * a + w)) 0 (Wk - 0)).toInt64 * (I 208 (11 + b)).toInt64)) (P - 1)))), I, R, n) := by
  rw [e_M_mostOf]
  have hl := zbest_loop (fun b i => M_mostOf_4 195 2 (nI b) (nI i) I R n) (fun a b => decide ((zrow (fun w => I 206 (6 * b + w)) 0 (Wk - 0)).toInt64 * (I 208 (11 + a)).toInt64 < (zrow (fun w => I 206 (6 * a + w)) 0 (Wk - 0)).toInt64 * (I 208 (11 + b)).toInt64)) (P - 1) (fun i b hi hb => by
    show M_mostOf_4 195 2 (nI b) (nI (i + 1)) I R n = _
    rw [e_M_mostOf_4]
    simp only [h.k, zc_t, hp, if_pos (nI_lt (show i + 1 < P by omega) (show P < 2 ^ 31 by omega)), (by decide : ¬ (2 : Int32) = nI 0), (by decide : ¬ (2 : Int32) = 1), if_false, zbI_s, ← nI_0, M_pointsIn_ok h (show i + 1 < 16 by omega) hW hWk (Nat.zero_le _), M_pointsIn_ok h (show b < 16 by omega) hW hWk (Nat.zero_le _), M_priceOf_ok h (show i + 1 < 16 by omega), M_priceOf_ok h (show b < 16 by omega), e_M_mostOf_54]
    rw [e_M_mostOf_98]
    simp only [zcmp_gt, nI_1]
    exact zdec _ _ _) (P - 1) (Nat.le_refl _)
  have hl' : M_mostOf_4 195 2 0 1 I R n = _ := hl
  rw [hl']
  show M_mostOf_4 195 _ _ (nI (P - 1 + 1)) I R n = _
  rw [e_M_mostOf_4]
  simp only [h.k, zc_t, hp]
  rw [if_neg (nI_nlt (by omega) (by omega))]
theorem M_richestWeek_ok (h : WM R n) {Wk P : Nat} (hp : I 195 17 = nI P) (hP : P ≤ 16) (hW : I 198 6 = nI Wk) (h1 : 1 ≤ Wk) (hWk : Wk ≤ 6) : M_richestWeek 195 I R n = some (some (.int (nI (zbest (fun a b => decide (zsum (2 ^ P - 1) (fun i => I 206 (6 * i + b)) P < zsum (2 ^ P - 1) (fun i => I 206 (6 * i + a)) P)) (Wk - 1)))), I, R, n) := by
  rw [e_M_richestWeek]
  have hS : 2 ^ P - 1 < 2 ^ 31 := by
    have : 2 ^ P ≤ 2 ^ 16 := Nat.pow_le_pow_right (by omega) hP
    omega
  have hl := zbest_loop (fun b i => M_richestWeek_4 195 (nI b) (nI i) I R n) (fun a b => decide (zsum (2 ^ P - 1) (fun i => I 206 (6 * i + b)) P < zsum (2 ^ P - 1) (fun i => I 206 (6 * i + a)) P)) (Wk - 1) (fun i b hi hb => by
    show M_richestWeek_4 195 (nI b) (nI (i + 1)) I R n = _
    rw [e_M_richestWeek_4]
    simp only [h.k, h.2, zin198, zixs, zc_t, zr_s, hW, hp, zall16 P hP, Bool.true_or, Bool.true_and, if_pos (nI_lt (show i + 1 < Wk by omega) (show Wk < 2 ^ 31 by omega)), M_pointsOf_ok h hS hP hp (show i + 1 < 6 by omega), M_pointsOf_ok h hS hP hp (show b < 6 by omega), zbI_s, nI_1]
    exact zdec _ _ _) (Wk - 1) (Nat.le_refl _)
  have hl' : M_richestWeek_4 195 0 1 I R n = _ := hl
  rw [hl']
  show M_richestWeek_4 195 _ (nI (Wk - 1 + 1)) I R n = _
  rw [e_M_richestWeek_4]
  simp only [h.k, h.2, zin198, zixs, zc_t, zr_s, hW, Bool.true_or, Bool.true_and]
  rw [if_neg (nI_nlt (by omega) (by omega))]
theorem M_fullest18_ok (h : WM R n) {P c : Nat} {x y : Int32} (hp : I 195 17 = nI P) (hP : P ≤ 16) : M_fullestClub_18 195 x y (nI c) 0 0 I R n = if y < nI (zcnt 65535 (fun i => decide (I 204 i = nI c)) P) then M_fullestClub_6 195 (nI c) (nI (zcnt 65535 (fun i => decide (I 204 i = nI c)) P)) (nI (c + 1)) I R n else M_fullestClub_6 195 x y (nI (c + 1)) I R n := by
  have key : ∀ k, k ≤ P → M_fullestClub_18 195 x y (nI c) (nI 0) (nI 0) I R n = M_fullestClub_18 195 x y (nI c) (nI (zcnt 65535 (fun i => decide (I 204 i = nI c)) k)) (nI k) I R n := by
    intro k
    induction k with
    | zero => intro _; rfl
    | succ k ih =>
      intro hk
      have hb : Nat.testBit 65535 k = true := by
        have : ∀ k, k < 16 → Nat.testBit 65535 k = true := by decide
        exact this k (by omega)
      rw [ih (by omega), e_M_fullestClub_18]
      simp only [h.k, h.2, zc_t, zr_s, hp, if_pos (nI_lt (show k < P by omega) (show P < 2 ^ 31 by omega)), zin204 (show k < 16 by omega), zix_nI (show k < 2 ^ 31 by omega), Bool.true_or, Bool.true_and, nI_1, zcnt_succ, hb, Int32.add_zero]
      by_cases q : I 204 k = nI c
      · simp [q]
      · simp [q]
  rw [nI_0] at key
  rw [key P (Nat.le_refl _), e_M_fullestClub_18]
  simp only [h.k, zc_t, hp, nI_1]
  rw [if_neg (nI_nlt (Nat.le_refl _) (by omega))]
theorem M_fullestClub_ok (h : WM R n) {P : Nat} (hp : I 195 17 = nI P) (hP : P ≤ 16) : M_fullestClub 195 I R n = some (some (.int (nI (zbest (fun a b => decide (zcnt 65535 (fun i => decide (I 204 i = nI b)) P < zcnt 65535 (fun i => decide (I 204 i = nI a)) P)) 5))), I, R, n) := by
  have hc : ∀ c, zcnt 65535 (fun i => decide (I 204 i = nI c)) P < 2 ^ 31 := fun c => by
    have := zcnt_le 65535 (fun i => decide (I 204 i = nI c)) P
    omega
  have e6 : (6 : Int32) = nI 6 := by decide
  rw [e_M_fullestClub, e_M_fullestClub_6, if_pos (by decide)]
  have h0 := M_fullest18_ok (I := I) h (c := 0) (x := 0) (y := -1) hp hP
  rw [nI_0] at h0
  rw [h0, if_pos (by
    have hc0 := hc 0
    rw [nI_0] at hc0
    rw [Int32.lt_iff_toInt_lt, nI_toInt hc0]
    have : (-1 : Int32).toInt = -1 := by decide
    omega)]
  have hl := zbest_loop (fun b i => M_fullestClub_6 195 (nI b) (nI (zcnt 65535 (fun j => decide (I 204 j = nI b)) P)) (nI i) I R n) (fun a b => decide (zcnt 65535 (fun i => decide (I 204 i = nI b)) P < zcnt 65535 (fun i => decide (I 204 i = nI a)) P)) 5 (fun i b hi hb => by
    show M_fullestClub_6 195 (nI b) (nI (zcnt 65535 (fun j => decide (I 204 j = nI b)) P)) (nI (i + 1)) I R n = _
    rw [e_M_fullestClub_6, e6, if_pos (nI_lt (show i + 1 < 6 by omega) (by omega)), M_fullest18_ok h hp hP]
    simp only [nI_ltI (hc b) (hc (i + 1))]
    exact zdec _ _ _) 5 (Nat.le_refl _)
  have hl' : M_fullestClub_6 195 0 (nI (zcnt 65535 (fun i => decide (I 204 i = 0)) P)) (nI (0 + 1)) I R n = _ := hl
  rw [hl']
  show M_fullestClub_6 195 _ _ (nI (5 + 1)) I R n = _
  rw [e_M_fullestClub_6, if_neg (by decide)]
theorem M_allWeeks_ok (h : WM R n) {S P Wk : Nat} (hS : S < 2 ^ 31) (hP : P ≤ 16) (hp : I 195 17 = nI P) (hW : I 198 6 = nI Wk) (hWk : Wk ≤ 6) (hne : ∀ w, w < 6 → zcap S (fun i => I 206 (6 * i + w)) P ≠ none) : M_allWeeks 195 (nI S) I R n = some (some (.int (zrow (fun w => zwith S (fun i => I 206 (6 * i + w)) P) 0 Wk)), I, R, n) := by
  rw [e_M_allWeeks]
  have key : ∀ k, k ≤ Wk → M_allWeeks_4 195 (nI S) 0 (nI 0) I R n = M_allWeeks_4 195 (nI S) (zrow (fun w => zwith S (fun i => I 206 (6 * i + w)) P) 0 k) (nI k) I R n := by
    intro k
    induction k with
    | zero => intro _; rfl
    | succ k ih =>
      intro hk
      rw [ih (by omega), e_M_allWeeks_4]
      simp only [h.k, h.2, zc_t, zr_s, zin198, zixs, hW, Bool.true_or, Bool.true_and, if_pos (nI_lt (show k < Wk by omega) (show Wk < 2 ^ 31 by omega)), M_withBest_ok h hS hP hp (show k < 6 by omega) (hne k (by omega)), zbI_s, nI_1]
      show _ = M_allWeeks_4 195 (nI S) (_ + zwith S (fun i => I 206 (6 * i + (0 + k))) P) _ _ _ _
      rw [Nat.zero_add]
  rw [nI_0] at key
  rw [key Wk (Nat.le_refl _), e_M_allWeeks_4]
  simp only [h.k, h.2, zc_t, zr_s, zin198, zixs, hW, Bool.true_or, Bool.true_and]
  rw [if_neg (nI_nlt (Nat.le_refl _) (by omega))]
end LM5
section LL4
variable {I : ZI} {R : ZR} {n L : Nat}
theorem Lg_scoreOfAllWeeks_ok (h : WL R n L) {S P Wk : Nat} (hS : S < 2 ^ 31) (hP : P ≤ 16) (hp : I L 8 = nI P) (hW : I (L + 2) 2 = nI Wk) (hWk : Wk ≤ 6) (hlow : ∀ w k, w < Wk → k < P → (-100000000 : Int32) < I (L + 8 + w) k) (hS0 : S ≠ 0) (hne : ∀ w, w < 6 → zcap S (I (L + 8 + w)) P ≠ none) : Lg_scoreOfAllWeeks L (nI S) I R n = some (some (.int (zrow (fun w => zwith S (I (L + 8 + w)) P) 0 Wk)), I, R, n) := by
  rw [e_Lg_scoreOfAllWeeks]
  have key : ∀ k, k ≤ Wk → Lg_scoreOfAllWeeks_4 L (nI S) 0 (nI 0) I R n = Lg_scoreOfAllWeeks_4 L (nI S) (zrow (fun w => zwith S (I (L + 8 + w)) P) 0 k) (nI k) I R n := by
    intro k
    induction k with
    | zero => intro _; rfl
    | succ k ih =>
      intro hk
      rw [ih (by omega), e_Lg_scoreOfAllWeeks_4]
      simp only [h.k, h.r, h.zrules, zc_t, zr_s, zixs, hW, Bool.true_or, Bool.true_and, if_pos (nI_lt (show k < Wk by omega) (show Wk < 2 ^ 31 by omega)), Lg_scoreOf_ok h hS hP hp (show k < 6 by omega) (fun j hj => hlow k j (by omega) hj) hS0 (hne k (by omega)), zbI_s, nI_1]
      show _ = Lg_scoreOfAllWeeks_4 L (nI S) (_ + zwith S (I (L + 8 + (0 + k))) P) _ _ _ _
      rw [Nat.zero_add]
  rw [nI_0] at key
  rw [key Wk (Nat.le_refl _), e_Lg_scoreOfAllWeeks_4]
  simp only [h.k, h.r, h.zrules, zc_t, zr_s, zixs, hW, Bool.true_or, Bool.true_and]
  rw [if_neg (nI_nlt (Nat.le_refl _) (by omega))]
end LL4
