/-! ===== the reference's digits ===== -/
section LSc2
variable {R : ZR} {n : Nat}
theorem M_digits_ok (h : WM R n) {T : Nat × (Nat → Nat)} (hz : zTp T) {s : Nat} (x1 x2 x3 : Int32) : ∀ k a v (I : ZI), T.1 - a ≤ k → s ≤ a → a ≤ T.1 → tpM I T → I 195 3 = nI a → ∃ I', M_number_15 195 x1 x2 x3 (nI s) (nI v) I R n = M_number_72 195 x1 x2 x3 (nI s) (nI (zdig T s k a v).2) I' R n ∧ I' 195 3 = nI (zdig T s k a v).1 ∧ ∀ b j, (b = 195 → j ≠ 3) → I' b j = I b j := by
  have hl := hz.1
  have e48 : (48 : Int32) = nI 48 := by decide
  have e57 : (57 : Int32) = nI 57 := by decide
  have stop : ∀ a v (I : ZI), a ≤ T.1 → tpM I T → I 195 3 = nI a → ¬ (a < T.1 ∧ zisD (T.2 a) = true) → M_number_15 195 x1 x2 x3 (nI s) (nI v) I R n = M_number_72 195 x1 x2 x3 (nI s) (nI v) I R n := by
    intro a v I ha hT h3 hn
    rw [e_M_number_15]
    simp only [h.k, zc_t, M_here_ok h hT hz (show a < 2 ^ 31 by omega) h3, zbI_s]
    unfold zher
    by_cases q : a < T.1
    · have hb := (hz.2 a q).2
      rw [if_pos q, e48, e57]
      by_cases q1 : T.2 a < 48
      · rw [if_pos (nI_lt q1 (by omega))]
      · rw [if_neg (nI_nlt (by omega) (by omega))]
        have q2 : 57 < T.2 a := by
          rcases Nat.lt_or_ge 57 (T.2 a) with z | z
          · exact z
          · exact absurd ⟨q, by unfold zisD; rw [decide_eq_true (show 48 ≤ T.2 a by omega), decide_eq_true z]; rfl⟩ hn
        rw [if_pos (nI_lt q2 (by omega))]
    · rw [if_neg q, if_pos (by decide)]
  intro k
  induction k with
  | zero =>
    intro a v I hk hs ha hT h3
    exact ⟨I, stop a v I ha hT h3 (by omega), h3, fun _ _ _ => rfl⟩
  | succ k ih =>
    intro a v I hk hs ha hT h3
    unfold zdig
    by_cases q : a < T.1 ∧ zisD (T.2 a) = true
    · rw [if_pos q]
      have hb := (hz.2 a q.1).2
      have hd : 48 ≤ T.2 a ∧ T.2 a ≤ 57 := by
        have := q.2
        unfold zisD at this
        rw [Bool.and_eq_true] at this
        exact ⟨of_decide_eq_true this.1, of_decide_eq_true this.2⟩
      have eh : zher T a = nI (T.2 a) := by unfold zher; rw [if_pos q.1]
      have n48 : ¬ nI (T.2 a) < (48 : Int32) := by rw [e48]; exact nI_nlt hd.1 (by omega)
      have n57 : ¬ (57 : Int32) < nI (T.2 a) := by rw [e57]; exact nI_nlt hd.2 (by omega)
      have e3 : (3 : Int32) = nI 3 := by decide
      have e10 : (10 : Int32) * nI v + nI (T.2 a) - 48 = nI (v * 10 + T.2 a - 48) := by
        have t10 : (10 : Int32) = nI 10 := by decide
        rw [t10, e48, pk_mul, nI_add, pk_sub (by omega), Nat.mul_comm]
      have st := e_M_number_15 195 x1 x2 x3 (nI s) (nI v) I R n
      simp only [h.k, zc_t, M_here_ok h hT hz (show a < 2 ^ 31 by omega) h3, zbI_s, eh, if_neg n48, if_neg n57, h3, pk_sub hs, e3, nI_ltI (show a - s < 2 ^ 31 by omega) (show 3 < 2 ^ 31 by omega), nI_1, e10] at st
      have hT' : tpM (zup I 195 3 (nI (a + 1))) T := ⟨by rw [zup_k _ (by decide)]; exact hT.1, fun i hi => by rw [zup_n _ (by decide)]; exact hT.2 i hi⟩
      have fr : ∀ b j, (b = 195 → j ≠ 3) → (zup I 195 3 (nI (a + 1))) b j = I b j := fun b j hb => by
        by_cases z : b = 195
        · rw [zup_k _ (hb z)]
        · rw [zup_n _ z]
      by_cases q3 : a - s < 3
      · rw [if_pos q3] at st ⊢
        obtain ⟨I', e, a1, a2⟩ := ih (a + 1) (v * 10 + T.2 a - 48) (zup I 195 3 (nI (a + 1))) (by omega) (by omega) (by omega) hT' (zup_s _ _ _ _)
        exact ⟨I', st.trans e, a1, fun b j hb => by rw [a2 b j hb, fr b j hb]⟩
      · rw [if_neg q3] at st ⊢
        obtain ⟨I', e, a1, a2⟩ := ih (a + 1) v (zup I 195 3 (nI (a + 1))) (by omega) (by omega) (by omega) hT' (zup_s _ _ _ _)
        exact ⟨I', st.trans e, a1, fun b j hb => by rw [a2 b j hb, fr b j hb]⟩
    · rw [if_neg q]
      exact ⟨I, stop a v I ha hT h3 q, h3, fun _ _ _ => rfl⟩
end LSc2
