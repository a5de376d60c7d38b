/-! ===== both sides pass over spaces ===== -/
section LRd3
variable {R : ZR} {n : Nat}
theorem Rd_skip_ok (h : WRd R n) {T : Nat × (Nat → Nat)} (hz : zTp T) : ∀ k a (I : ZI), T.1 - a ≤ k → a ≤ T.1 → tpC I T → I 3 5 = nI a → ∃ I', Rd_step 3 I R n = Rd_step_43 3 I' R n ∧ I' 3 5 = nI (zskp T k a) ∧ ∀ b j, (b = 3 → j ≠ 5) → I' b j = I b j := by
  have hl := hz.1
  have e32 : (32 : Int32) = nI 32 := by decide
  have stop : ∀ a (I : ZI), a ≤ T.1 → tpC I T → I 3 5 = nI a → ¬ (a < T.1 ∧ T.2 a = 32) → Rd_step 3 I R n = Rd_step_43 3 I R n := by
    intro a I ha hT h5 hn
    rw [e_Rd_step]
    simp only [h.k, h.2.2, zc_t, zr_s, h5, hT.1]
    by_cases q : a < T.1
    · rw [if_pos (nI_lt q (by omega))]
      have hb := (hz.2 a q).2
      have ea : zat T a = T.2 a := by unfold zat; rw [if_pos q]
      simp only [Tp_byteAt_ok h hT hz (show a < 2 ^ 31 by omega), zbI_s, ea]
      rw [if_neg]
      rw [e32, nI_eq (by omega) (by omega)]
      exact fun z => hn ⟨q, z⟩
    · rw [if_neg (nI_nlt (by omega) (by omega))]
  intro k
  induction k with
  | zero =>
    intro a I hk ha hT h5
    exact ⟨I, stop a I ha hT h5 (by omega), h5, fun _ _ _ => rfl⟩
  | succ k ih =>
    intro a I hk ha hT h5
    unfold zskp
    by_cases q : a < T.1 ∧ T.2 a = 32
    · rw [if_pos q]
      have hT' : tpC (zup I 3 5 (nI (a + 1))) T := ⟨by rw [zup_n _ (by decide)]; exact hT.1, fun i hi => by rw [zup_n _ (by decide)]; exact hT.2 i hi⟩
      obtain ⟨I', e, a1, a2⟩ := ih (a + 1) (zup I 3 5 (nI (a + 1))) (by omega) (by omega) hT' (zup_s _ _ _ _)
      refine ⟨I', ?_, a1, ?_⟩
      · have ea : nI (zat T a) = 32 := by unfold zat; rw [if_pos q.1, q.2]; decide
        rw [e_Rd_step]
        simp only [h.k, h.2.2, zc_t, zr_s, h5, hT.1, if_pos (nI_lt q.1 (show T.1 < 2 ^ 31 by omega)), Tp_byteAt_ok h hT hz (show a < 2 ^ 31 by omega), zbI_s, ea, if_true, nI_1]
        exact e
      · intro b j hb
        rw [a2 b j hb]
        by_cases z : b = 3
        · rw [zup_k _ (hb z)]
        · rw [zup_n _ z]
    · rw [if_neg q]
      exact ⟨I, stop a I ha hT h5 q, h5, fun _ _ _ => rfl⟩
end LRd3
