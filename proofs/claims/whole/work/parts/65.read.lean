/-! ===== the class's reader: digits ===== -/
/-- the end of the digits and what they tell: three at most count -/
def zdig (T : Nat × (Nat → Nat)) (s : Nat) : Nat → Nat → Nat → Nat × Nat
  | 0, a, v => (a, v)
  | k + 1, a, v => if a < T.1 ∧ zisD (T.2 a) = true then zdig T s k (a + 1) (if a - s < 3 then v * 10 + T.2 a - 48 else v) else (a, v)
section LRd2
variable {R : ZR} {n : Nat}
theorem Rd_digits_ok (h : WRd R n) {T : Nat × (Nat → Nat)} (hz : zTp T) {s : Nat} : ∀ k a v (I : ZI), T.1 - a ≤ k → s ≤ a → a ≤ T.1 → tpC I T → I 3 4 = nI s → I 3 5 = nI a → I 3 6 = nI v → ∃ I', Rd_stepOverDigits_5 3 I R n = some (none, I', R, n) ∧ I' 3 5 = nI (zdig T s k a v).1 ∧ I' 3 6 = nI (zdig T s k a v).2 ∧ ∀ b j, (b = 3 → j ≠ 5 ∧ j ≠ 6) → I' b j = I b j := by
  have hl := hz.1
  have stop : ∀ a (I : ZI), a ≤ T.1 → tpC I T → I 3 5 = nI a → ¬ (a < T.1 ∧ zisD (T.2 a) = true) → Rd_stepOverDigits_5 3 I R n = some (none, I, R, n) := by
    intro a I ha hT h5 hn
    rw [e_Rd_stepOverDigits_5]
    simp only [h.k, h.2.2, zc_t, zr_s, h5, hT.1]
    by_cases q : a < T.1
    · rw [if_pos (nI_lt q (by omega))]
      have e : zisD (zat T a) = false := by
        unfold zat
        rw [if_pos q]
        cases z : zisD (T.2 a) with
        | false => rfl
        | true => exact absurd ⟨q, z⟩ hn
      simp only [Tp_hasDigitAt_ok h hT hz (show a < 2 ^ 31 by omega), zbI_s, e]
      rfl
    · rw [if_neg (nI_nlt (by omega) (by omega))]
  intro k
  induction k with
  | zero =>
    intro a v I hk hs ha hT h4 h5 h6
    exact ⟨I, stop a I ha hT h5 (by omega), h5, h6, fun _ _ _ => rfl⟩
  | succ k ih =>
    intro a v I hk hs ha hT h4 h5 h6
    unfold zdig
    by_cases q : a < T.1 ∧ zisD (T.2 a) = true
    · rw [if_pos q]
      have eL : zisD (zat T a) = true := by unfold zat; rw [if_pos q.1]; exact q.2
      have ea : zat T a = T.2 a := by unfold zat; rw [if_pos q.1]
      have h48 : 48 ≤ T.2 a := by
        have := q.2
        unfold zisD at this
        rw [Bool.and_eq_true] at this
        exact of_decide_eq_true this.1
      have e3 : (3 : Int32) = nI 3 := by decide
      have e10 : nI v * 10 + nI (T.2 a) - 48 = nI (v * 10 + T.2 a - 48) := by
        have t10 : (10 : Int32) = nI 10 := by decide
        have t48 : (48 : Int32) = nI 48 := by decide
        rw [t10, t48, pk_mul, nI_add, pk_sub (by omega)]
      have st := e_Rd_stepOverDigits_5 3 I R n
      simp only [h.k, h.2.2, zc_t, zr_s, h5, h4, h6, hT.1, if_pos (nI_lt q.1 (show T.1 < 2 ^ 31 by omega)), Tp_hasDigitAt_ok h hT hz (show a < 2 ^ 31 by omega), Tp_byteAt_ok h hT hz (show a < 2 ^ 31 by omega), zbI_s, ea, q.2, if_neg (show ¬ zbo true = 0 by decide), pk_sub hs, e3, nI_ltI (show a - s < 2 ^ 31 by omega) (show 3 < 2 ^ 31 by omega), nI_1, e10, zup_k 3 (show 5 ≠ 6 by decide)] at st
      by_cases q3 : a - s < 3
      · rw [if_pos q3] at st ⊢
        obtain ⟨I', e, a1, a2, a3⟩ := ih (a + 1) (v * 10 + T.2 a - 48) (zup (zup I 3 6 (nI (v * 10 + T.2 a - 48))) 3 5 (nI (a + 1))) (by omega) (by omega) (by omega) ⟨by rw [zup_n _ (by decide), zup_n _ (by decide)]; exact hT.1, fun i hi => by rw [zup_n _ (by decide), zup_n _ (by decide)]; exact hT.2 i hi⟩ (by rw [zup_k _ (by decide), zup_k _ (by decide), h4]) (zup_s _ _ _ _) (by rw [zup_k _ (by decide), zup_s])
        refine ⟨I', st.trans e, a1, a2, ?_⟩
        intro b j hb
        rw [a3 b j hb]
        by_cases z : b = 3
        · rw [zup_k _ (hb z).1, zup_k _ (hb z).2]
        · rw [zup_n _ z, zup_n _ z]
      · rw [if_neg q3] at st ⊢
        obtain ⟨I', e, a1, a2, a3⟩ := ih (a + 1) v (zup I 3 5 (nI (a + 1))) (by omega) (by omega) (by omega) ⟨by rw [zup_n _ (by decide)]; exact hT.1, fun i hi => by rw [zup_n _ (by decide)]; exact hT.2 i hi⟩ (by rw [zup_k _ (by decide), h4]) (zup_s _ _ _ _) (by rw [zup_k _ (by decide), h6])
        refine ⟨I', st.trans e, a1, a2, ?_⟩
        intro b j hb
        rw [a3 b j hb]
        by_cases z : b = 3
        · rw [zup_k _ (hb z).1]
        · rw [zup_n _ z]
    · rw [if_neg q]
      exact ⟨I, stop a I ha hT h5 q, h5, h6, fun _ _ _ => rfl⟩
end LRd2
