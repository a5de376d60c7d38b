/-! ===== the class's reader: bytes, letters, digits ===== -/
def zat (T : Nat × (Nat → Nat)) (i : Nat) : Nat := if i < T.1 then T.2 i else 0
def zisL (b : Nat) : Bool := decide (97 ≤ b) && decide (b ≤ 122)
def zisD (b : Nat) : Bool := decide (48 ≤ b) && decide (b ≤ 57)
/-- the end of a run, k steps at most -/
def zrunp (c : Nat → Bool) (T : Nat × (Nat → Nat)) : Nat → Nat → Nat
  | 0, a => a
  | k + 1, a => if a < T.1 ∧ c (T.2 a) = true then zrunp c T k (a + 1) else a
theorem zat_lt {T : Nat × (Nat → Nat)} (hz : zTp T) (i : Nat) : zat T i < 256 := by
  unfold zat
  by_cases q : i < T.1
  · rw [if_pos q]; exact (hz.2 i q).2
  · rw [if_neg q]; decide
def WRd (R : ZR) (n : Nat) : Prop := 4 < n ∧ R 1 0 = some 2 ∧ R 3 0 = some 1
section LRd
variable {I : ZI} {R : ZR} {n : Nat}
theorem WRd.k (h : WRd R n) : zis n 1 6 = true ∧ zis n 2 20 = true ∧ zis n 3 3 = true := by
  have hn := h.1
  refine ⟨?_, ?_, ?_⟩ <;> exact zis_lit (by omega) (by decide)
theorem Tp_byteAt_ok (h : WRd R n) {T : Nat × (Nat → Nat)} (hT : tpC I T) (hz : zTp T) {i : Nat} (hi : i < 2 ^ 31) : Tp_byteAt 1 (nI i) I R n = some (some (.int (nI (zat T i))), I, R, n) := by
  have hl := hz.1
  rw [e_Tp_byteAt, if_neg (nI_pos hi)]
  simp only [h.k, zc_t, hT.1]
  unfold zat
  by_cases q : i < T.1
  · have i2 : zin 2 (nI i) = true := zin_nI (by show _ < 400; omega) (by omega)
    rw [if_pos q, if_pos (nI_lt q (by omega))]
    simp only [h.2.1, zr_s, h.k, i2, Bool.true_or, Bool.true_and, zc_t, zix_nI hi, hT.2 i q]
  · rw [if_neg q, if_neg (nI_nlt (by omega) hi), nI_0]
theorem Tp_hasLetterAt_ok (h : WRd R n) {T : Nat × (Nat → Nat)} (hT : tpC I T) (hz : zTp T) {i : Nat} (hi : i < 2 ^ 31) : Tp_hasLetterAt 1 (nI i) I R n = some (some (.int (zbo (zisL (zat T i)))), I, R, n) := by
  have hb := zat_lt hz i
  have e1 : (97 : Int32) = nI 97 := by decide
  have e2 : (122 : Int32) = nI 122 := by decide
  rw [e_Tp_hasLetterAt]
  simp only [h.k, zc_t, Tp_byteAt_ok h hT hz hi, zbI_s, e1, e2, nI_ltI (show zat T i < 2 ^ 31 by omega) (show 97 < 2 ^ 31 by omega), nI_ltI (show 122 < 2 ^ 31 by omega) (show zat T i < 2 ^ 31 by omega)]
  unfold zisL
  by_cases q1 : zat T i < 97
  · rw [if_pos q1, decide_eq_false (show ¬ 97 ≤ zat T i by omega)]; rfl
  · rw [if_neg q1, decide_eq_true (show 97 ≤ zat T i by omega)]
    by_cases q2 : 122 < zat T i
    · rw [if_pos q2, decide_eq_false (show ¬ zat T i ≤ 122 by omega)]; rfl
    · rw [if_neg q2, decide_eq_true (show zat T i ≤ 122 by omega)]; rfl
theorem Tp_hasDigitAt_ok (h : WRd R n) {T : Nat × (Nat → Nat)} (hT : tpC I T) (hz : zTp T) {i : Nat} (hi : i < 2 ^ 31) : Tp_hasDigitAt 1 (nI i) I R n = some (some (.int (zbo (zisD (zat T i)))), I, R, n) := by
  have hb := zat_lt hz i
  have e1 : (48 : Int32) = nI 48 := by decide
  have e2 : (57 : Int32) = nI 57 := by decide
  rw [e_Tp_hasDigitAt]
  simp only [h.k, zc_t, Tp_byteAt_ok h hT hz hi, zbI_s, e1, e2, nI_ltI (show zat T i < 2 ^ 31 by omega) (show 48 < 2 ^ 31 by omega), nI_ltI (show 57 < 2 ^ 31 by omega) (show zat T i < 2 ^ 31 by omega)]
  unfold zisD
  by_cases q1 : zat T i < 48
  · rw [if_pos q1, decide_eq_false (show ¬ 48 ≤ zat T i by omega)]; rfl
  · rw [if_neg q1, decide_eq_true (show 48 ≤ zat T i by omega)]
    by_cases q2 : 57 < zat T i
    · rw [if_pos q2, decide_eq_false (show ¬ zat T i ≤ 57 by omega)]; rfl
    · rw [if_neg q2, decide_eq_true (show zat T i ≤ 57 by omega)]; rfl
theorem Rd_letters_ok (h : WRd R n) {T : Nat × (Nat → Nat)} (hz : zTp T) : ∀ k a (I : ZI), T.1 - a ≤ k → a ≤ T.1 → tpC I T → I 3 5 = nI a → ∃ I', Rd_stepOverLetters 3 I R n = some (none, I', R, n) ∧ I' 3 5 = nI (zrunp zisL T k a) ∧ ∀ b j, (b = 3 → j ≠ 5) → I' b j = I b j := by
  have hl := hz.1
  have stop : ∀ a (I : ZI), a ≤ T.1 → tpC I T → I 3 5 = nI a → ¬ (a < T.1 ∧ zisL (T.2 a) = true) → Rd_stepOverLetters 3 I R n = some (none, I, R, n) := by
    intro a I ha hT h5 hn
    rw [e_Rd_stepOverLetters]
    simp only [h.k, h.2.2, zc_t, zr_s, h5, hT.1]
    by_cases q : a < T.1
    · rw [if_pos (nI_lt q (by omega))]
      have e : zisL (zat T a) = false := by
        unfold zat
        rw [if_pos q]
        cases z : zisL (T.2 a) with
        | false => rfl
        | true => exact absurd ⟨q, z⟩ hn
      simp only [Tp_hasLetterAt_ok h hT hz (show a < 2 ^ 31 by omega), zbI_s, e]
      rfl
    · rw [if_neg (nI_nlt (by omega) (by omega))]
  intro k
  induction k with
  | zero =>
    intro a I hk ha hT h5
    exact ⟨I, stop a I ha hT h5 (by omega), h5, fun _ _ _ => rfl⟩
  | succ k ih =>
    intro a I hk ha hT h5
    unfold zrunp
    by_cases q : a < T.1 ∧ zisL (T.2 a) = true
    · rw [if_pos q]
      have hT' : tpC (zup I 3 5 (nI (a + 1))) T := ⟨by rw [zup_n _ (by decide)]; exact hT.1, fun i hi => by rw [zup_n _ (by decide)]; exact hT.2 i hi⟩
      obtain ⟨I', e, a1, a2⟩ := ih (a + 1) (zup I 3 5 (nI (a + 1))) (by omega) (by omega) hT' (zup_s _ _ _ _)
      refine ⟨I', ?_, a1, ?_⟩
      · have eL : zisL (zat T a) = true := by unfold zat; rw [if_pos q.1]; exact q.2
        rw [e_Rd_stepOverLetters]
        simp only [h.k, h.2.2, zc_t, zr_s, h5, hT.1, if_pos (nI_lt q.1 (show T.1 < 2 ^ 31 by omega)), Tp_hasLetterAt_ok h hT hz (show a < 2 ^ 31 by omega), zbI_s, eL, nI_1]
        exact e
      · intro b j hb
        rw [a2 b j hb]
        by_cases z : b = 3
        · rw [zup_k _ (hb z)]
        · rw [zup_n _ z]
    · rw [if_neg q]
      exact ⟨I, stop a I ha hT h5 q, h5, fun _ _ _ => rfl⟩
end LRd
