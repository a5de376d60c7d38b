/-! ===== the reference: clubs, teams, weeks, prices to come ===== -/
section LM4
variable {I : ZI} {R : ZR} {n : Nat}
theorem M_hasClubs13_ok (h : WM R n) {S P c : Nat} (hS : S < 2 ^ 31) (hP : P ≤ 16) (hp : I 195 17 = nI P) : M_hasClubs_13 195 (nI S) (nI c) 0 0 I R n = if I 198 5 < nI (zcnt S (fun i => decide (I 204 i = nI c)) P) then some (some (.int 0), I, R, n) else M_hasClubs_2 195 (nI S) (nI (c + 1)) I R n := by
  have key : ∀ k, k ≤ P → M_hasClubs_13 195 (nI S) (nI c) (nI 0) (nI 0) I R n = M_hasClubs_13 195 (nI S) (nI c) (nI (zcnt S (fun i => decide (I 204 i = nI c)) k)) (nI k) I R n := by
    intro k
    induction k with
    | zero => intro _; rfl
    | succ k ih =>
      intro hk
      have e2 : zin 204 (nI k) = true := zin_nI (by show _ < 16; omega) (by omega)
      rw [ih (by omega), e_M_hasClubs_13]
      simp only [h.k, h.2, zc_t, zr_s, hp, if_pos (nI_lt (show k < P by omega) (show P < 2 ^ 31 by omega)), M_has_ok hS (show k < 32 by omega), zbI_s, nI_1, e2, Bool.true_or, Bool.true_and, zix_nI (show k < 2 ^ 31 by omega), zcnt_succ]
      cases S.testBit k
      · simp
      · by_cases q : I 204 k = nI c
        · rw [if_neg (by decide), if_pos q]
          simp [q]
        · rw [if_neg (by decide), if_neg q]
          simp [q]
  rw [nI_0] at key
  rw [key P (Nat.le_refl _), e_M_hasClubs_13]
  simp only [h.k, h.2, zc_t, zr_s, zin198, zixs, Bool.true_or, Bool.true_and, hp, nI_1]
  rw [if_neg (nI_nlt (Nat.le_refl _) (by omega))]
theorem M_hasClubs_ok (h : WM R n) {S P : Nat} (hS : S < 2 ^ 31) (hP : P ≤ 16) (hp : I 195 17 = nI P) : M_hasClubs 195 (nI S) I R n = some (some (.int (zb01 (mClubs I S P))), I, R, n) := by
  rw [e_M_hasClubs]
  have hl := zall_loop (fun i => M_hasClubs_2 195 (nI S) (nI i) I R n) (fun k => ¬ I 198 5 < nI (zcnt S (fun i => decide (I 204 i = nI k)) P)) (some (some (.int 0), I, R, n)) 6 (fun i hi => by
    have e6 : (6 : Int32) = nI 6 := by decide
    show M_hasClubs_2 195 (nI S) (nI i) I R n = _
    rw [e_M_hasClubs_2, e6, if_pos (nI_lt hi (show 6 < 2 ^ 31 by omega)), M_hasClubs13_ok h hS hP hp]
    by_cases q : I 198 5 < nI (zcnt S (fun j => decide (I 204 j = nI i)) P)
    · rw [if_pos q, if_neg (fun z => z q)]
    · rw [if_neg q, if_pos q])
  rw [nI_0] at hl
  rw [hl]
  by_cases q : (∀ j, j < 6 → ¬ I 198 5 < nI (zcnt S (fun i => decide (I 204 i = nI j)) P))
  · rw [if_pos q, zb01_t (p := mClubs I S P) q, e_M_hasClubs_2]
    rfl
  · rw [if_neg q, zb01_f (p := mClubs I S P) q]
def mTeam (I : ZI) (S P : Nat) : Prop := mSlots I S P ∧ mClubs I S P
theorem M_isTeam_ok (h : WM R n) {S P : Nat} (hS : S < 2 ^ 31) (hP : P ≤ 16) (hp : I 195 17 = nI P) : M_isTeam 195 (nI S) I R n = some (some (.int (zb01 (mTeam I S P))), I, R, n) := by
  rw [e_M_isTeam]
  simp only [h.k, zc_t, M_hasSlots_ok h hS hP hp, M_hasClubs_ok h hS hP hp, zbI_s]
  by_cases q1 : mSlots I S P
  · rw [zb01_t q1, if_neg (by decide)]
    by_cases q2 : mClubs I S P
    · rw [zb01_t q2, zb01_t (p := mTeam I S P) ⟨q1, q2⟩, if_neg (by decide)]
    · rw [zb01_f q2, zb01_f (p := mTeam I S P) (fun z => q2 z.2), if_pos rfl]
  · rw [zb01_f q1, zb01_f (p := mTeam I S P) (fun z => q1 z.1), if_pos rfl]
theorem M_size_ok (h : WM R n) : M_size 195 I R n = some (some (.int (I 198 0 + I 198 1 + I 198 2 + I 198 3)), I, R, n) := by
  rw [e_M_size]
  simp only [h.k, h.2, zc_t, zr_s, zin198, zixs, Bool.true_or, Bool.true_and]
theorem M_isPlaying_ok (h : WM R n) : M_isPlaying 195 I R n = some (some (.int (if I 195 18 = 0 then 0 else if I 208 0 = 1 then (if I 208 9 < I 198 6 then 1 else 0) else 0)), I, R, n) := by
  rw [e_M_isPlaying]
  simp only [h.k, h.2, zc_t, zr_s, zin198, zin208, zixs, Bool.true_or, Bool.true_and]
  by_cases q1 : I 195 18 = 0
  · rw [if_pos q1, if_pos q1]
  · rw [if_neg q1, if_neg q1]
    by_cases q2 : I 208 0 = 1
    · rw [if_pos q2, if_pos q2]
      by_cases q3 : I 208 9 < I 198 6
      · rw [if_pos q3, if_pos q3]
      · rw [if_neg q3, if_neg q3]
    · rw [if_neg q2, if_neg q2]
theorem M_isOver_ok (h : WM R n) : M_isOver 195 I R n = some (some (.int (if I 208 9 = I 198 6 then 1 else 0)), I, R, n) := by
  rw [e_M_isOver]
  simp only [h.k, h.2, zc_t, zr_s, zin198, zin208, zixs, Bool.true_or, Bool.true_and]
  by_cases q1 : I 208 9 = I 198 6
  · rw [if_pos q1, if_pos q1]
  · rw [if_neg q1, if_neg q1]
theorem M_paid_ok (h : WM R n) (x y : Int32) : M_paid 195 x y I R n = some (some (.int (I 198 7 * zmax 0 (x - y))), I, R, n) := by
  rw [e_M_paid]
  simp only [h.k, h.2, zc_t, zr_s, zin198, zixs, Bool.true_or, Bool.true_and]
theorem M_swapped_ok (h : WM R n) (x y : Int32) : M_swapped 195 x y I R n = some (some (.int ((I 208 1 &&& (((1 : Int32) <<< (x &&& 31)) ^^^ (-1))) ||| ((1 : Int32) <<< (y &&& 31)))), I, R, n) := by
  rw [e_M_swapped]
  simp only [h.k, h.2, zc_t, zr_s, zin208, zixs, Bool.true_or, Bool.true_and]
theorem M_freeBehind_ok (f s c : Int32) : M_freeBehind f s c I R n = some (some (.int (zmin 2 (zmax 0 (f - (if c = 1 then 0 else if c = 2 then 0 else s)) + 1))), I, R, n) := by
  rw [e_M_freeBehind]
  by_cases q1 : c = 1
  · rw [if_pos q1, if_pos q1, e_M_freeBehind_15]
  · rw [if_neg q1, if_neg q1]
    by_cases q2 : c = 2
    · rw [if_pos q2, if_pos q2, e_M_freeBehind_15]
    · rw [if_neg q2, if_neg q2, e_M_freeBehind_15]
/-- a price behind a week, by the points in it, rise and fall -/
def zmoved (price pts rise fall : Int32) : Int32 := if pts < rise then (if fall < pts then zmax 1 (zmin 99 (price + 0)) else zmax 1 (zmin 99 (price + (-1)))) else zmax 1 (zmin 99 (price + 1))
theorem M_moved_ok (h : WM R n) (x : Int32) {i w : Nat} (hi : i < 16) (hw : w < 6) : M_moved 195 x (nI i) (nI w) I R n = some (some (.int (zmoved x (I 206 (6 * i + w)) (I 198 8) (I 198 9))), I, R, n) := by
  rw [e_M_moved]
  simp only [h.k, h.2, zc_t, zr_s, zin198, zixs, zpt, zin206 hi hw, zix_nI (show 6 * i + w < 2 ^ 31 by omega), Bool.true_or, Bool.true_and]
  unfold zmoved
  by_cases q1 : I 206 (6 * i + w) < I 198 8
  · rw [if_pos q1, if_pos q1]
    by_cases q2 : I 198 9 < I 206 (6 * i + w)
    · rw [if_pos q2, if_pos q2]
    · rw [if_neg q2, if_neg q2]
  · rw [if_neg q1, if_neg q1]
/-- the price ahead of week w -/
def mFore (I : ZI) (i : Nat) : Nat → Int32
  | 0 => I 205 i
  | w + 1 => zmoved (mFore I i w) (I 206 (6 * i + w)) (I 198 8) (I 198 9)
theorem M_foretold_ok (h : WM R n) {i w : Nat} (hi : i < 16) (hw : w < 6) : M_foretold 195 (nI i) (nI w) I R n = some (some (.int (mFore I i (w + 1))), I, R, n) := by
  have e2 : zin 205 (nI i) = true := zin_nI (by show _ < 16; omega) (by omega)
  rw [e_M_foretold]
  simp only [h.k, h.2, zc_t, zr_s, e2, zix_nI (show i < 2 ^ 31 by omega), Bool.true_or, Bool.true_and]
  have key : ∀ k, k ≤ w + 1 → M_foretold_10 195 (nI i) (nI w) (I 205 i) (nI 0) I R n = M_foretold_10 195 (nI i) (nI w) (mFore I i k) (nI k) I R n := by
    intro k
    induction k with
    | zero => intro _; rfl
    | succ k ih =>
      intro hk
      rw [ih (by omega), e_M_foretold_10, if_neg (nI_nlt (show k ≤ w by omega) (by omega))]
      simp only [h.k, zc_t, M_moved_ok h _ hi (show k < 6 by omega), zbI_s, nI_1]
      rfl
  rw [nI_0] at key
  rw [key (w + 1) (Nat.le_refl _), e_M_foretold_10, if_pos (nI_lt (Nat.lt_succ_self w) (by omega))]
theorem M_foretold_m1 (h : WM R n) {i : Nat} (hi : i < 16) : M_foretold 195 (nI i) (-1) I R n = some (some (.int (I 205 i)), I, R, n) := by
  have e2 : zin 205 (nI i) = true := zin_nI (by show _ < 16; omega) (by omega)
  rw [e_M_foretold]
  simp only [h.k, h.2, zc_t, zr_s, e2, zix_nI (show i < 2 ^ 31 by omega), Bool.true_or, Bool.true_and]
  rw [e_M_foretold_10, if_pos (by decide)]
/-- points of the weeks from w0 on, k of them -/
def zrow (f : Nat → Int32) (w0 : Nat) : Nat → Int32
  | 0 => 0
  | k + 1 => zrow f w0 k + f (w0 + k)
theorem M_pointsIn_ok (h : WM R n) {i w0 Wk : Nat} (hi : i < 16) (hW : I 198 6 = nI Wk) (hWk : Wk ≤ 6) (h0 : w0 ≤ Wk) : M_pointsIn 195 (nI i) (nI w0) I R n = some (some (.int (zrow (fun w => I 206 (6 * i + w)) w0 (Wk - w0))), I, R, n) := by
  rw [e_M_pointsIn]
  have key : ∀ k, k ≤ Wk - w0 → M_pointsIn_5 195 (nI i) 0 (nI w0) I R n = M_pointsIn_5 195 (nI i) (zrow (fun w => I 206 (6 * i + w)) w0 k) (nI (w0 + k)) I R n := by
    intro k
    induction k with
    | zero => intro _; rfl
    | succ k ih =>
      intro hk
      rw [ih (by omega), e_M_pointsIn_5]
      simp only [h.k, h.2, zc_t, zr_s, zin198, zixs, hW, if_pos (nI_lt (show w0 + k < Wk by omega) (show Wk < 2 ^ 31 by omega)), zpt, zin206 hi (show w0 + k < 6 by omega), zix_nI (show 6 * i + (w0 + k) < 2 ^ 31 by omega), nI_1, Bool.true_or, Bool.true_and]
      rfl
  rw [key (Wk - w0) (Nat.le_refl _), e_M_pointsIn_5]
  simp only [h.k, h.2, zc_t, zr_s, zin198, zixs, hW, Bool.true_or, Bool.true_and]
  rw [if_neg (nI_nlt (by omega) (by omega))]
theorem M_isSet_no (h : WM R n) {x : Int32} (hL : I 195 18 = 0) : M_isSet 195 x I R n = some (some (.int 0), I, R, n) := by
  rw [e_M_isSet]
  simp only [h.k, zc_t, hL, if_true]
/-- is x a set of players -/
def zset1 (x : Int32) (P : Nat) : Int32 := if x < 0 then 0 else if x >>> (nI P &&& 31) = 0 then 1 else 0
theorem zset1_cases (x : Int32) {P : Nat} (hP : P ≤ 16) : zset1 x P = 0 ∨ ∃ S, S < 2 ^ P ∧ x = nI S ∧ zset1 x P = 1 := by
  unfold zset1
  by_cases h1 : x < 0
  · rw [if_pos h1]; exact Or.inl rfl
  · rw [if_neg h1]
    obtain ⟨S, hS, rfl⟩ := nI_of h1
    rw [zshr hS (by omega)]
    by_cases h2 : nI (S / 2 ^ P) = 0
    · rw [if_pos h2]
      refine Or.inr ⟨S, ?_, rfl, rfl⟩
      have h3 : S / 2 ^ P = 0 := by
        rw [← nI_0] at h2
        exact (nI_eq (Nat.lt_of_le_of_lt (Nat.div_le_self _ _) hS) (by omega)).mp h2
      rcases Nat.lt_or_ge S (2 ^ P) with q | q
      · exact q
      · have := Nat.div_pos q (Nat.two_pow_pos P); omega
    · rw [if_neg h2]; exact Or.inl rfl
theorem M_isSet_ok (h : WM R n) {x : Int32} {P : Nat} (hL : I 195 18 = 1) (hp : I 195 17 = nI P) : M_isSet 195 x I R n = some (some (.int (zset1 x P)), I, R, n) := by
  rw [e_M_isSet]
  simp only [h.k, zc_t, hL, hp]
  rw [if_neg (by decide)]
  unfold zset1
  by_cases h1 : x < 0
  · rw [if_pos h1, if_pos h1]
  · rw [if_neg h1, if_neg h1]
    by_cases h2 : x >>> (nI P &&& 31) = 0
    · rw [if_pos h2, if_pos h2]
    · rw [if_neg h2, if_neg h2]
end LM4
