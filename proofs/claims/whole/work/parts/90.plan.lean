/-! ===== the planner (class): rows, choices, the team owned ===== -/
section LPz
variable {I : ZI} {R : ZR} {n L : Nat}
theorem Pl_makeRows_again (hn : 281 ≤ n) (h0 : R 141 0 = some 223) : Pl_makeRows 141 I R n = some (none, I, R, n) := by
  have k1 : zis n 141 2 = true := zis_lit (by omega) (by decide)
  have k2 : zis n 223 20 = true := zis_lit (by omega) (by decide)
  rw [e_Pl_makeRows]
  simp only [k1, k2, zc_t, zr_s, h0, Bool.true_or]
  rw [if_neg (by decide +kernel)]
/-- as many of the first k as c holds of: the choices of the planner -/
theorem Pl_choose_ok (hW : WP R n L) (hT : WT R n L) {m : Nat} (x : Int32) (h6 : I 4 6 = nI m) (hm : m ≤ 3136) : ∃ J, Pl_choose 141 4 x I R n = some (none, J, R, n) ∧ J 141 11 = nI (zct (fun k => !(decide (x < I 219 k))) m) ∧ (∀ k, k < m → (!(decide (x < I 219 k))) = true → zct (fun k => !(decide (x < I 219 k))) k < 40 → J 223 (zct (fun k => !(decide (x < I 219 k))) k) = I 218 k) ∧ ∀ b j, b ≠ 223 → (b = 141 → j ≠ 11) → J b j = I b j := by
  have t40 : (40 : Int32) = nI 40 := by decide
  have key : ∀ k, k ≤ m → ∃ J, Pl_choose_7 141 4 x (nI 0) (zup I 141 11 0) R n = Pl_choose_7 141 4 x (nI k) J R n ∧ J 141 11 = nI (zct (fun k => !(decide (x < I 219 k))) k) ∧ (∀ i, i < k → (!(decide (x < I 219 i))) = true → zct (fun k => !(decide (x < I 219 k))) i < 40 → J 223 (zct (fun k => !(decide (x < I 219 k))) i) = I 218 i) ∧ ∀ b j, b ≠ 223 → (b = 141 → j ≠ 11) → J b j = I b j := by
    intro k
    induction k with
    | zero =>
      intro _
      refine ⟨_, rfl, by rw [zup_s]; exact nI_0.symm, fun i hi => by omega, fun b j h1 h2 => ?_⟩
      by_cases z : b = 141
      · rw [zup_k _ (h2 z)]
      · rw [zup_n _ z]
    | succ k ih =>
      intro hk
      obtain ⟨J, e, a1, a2, a3⟩ := ih (by omega)
      have hz := zct_mono (fun k => !(decide (x < I 219 k))) (show k ≤ m by omega)
      have zle : zct (fun k => !(decide (x < I 219 k))) k ≤ k := by
        have : ∀ q : Nat → Bool, ∀ k, zct q k ≤ k := by
          intro q k
          induction k with
          | zero => exact Nat.le_refl _
          | succ k ih => rw [zct_succ]; split <;> omega
        exact this _ k
      have zi := zinT (show k < 3136 by omega)
      have st := e_Pl_choose_7 141 4 x (nI k) J R n
      simp only [hW.k, hW.2.1, hT.k, hT.r, zc_t, zr_s, a3 4 6 (by decide) (by decide), h6, if_pos (nI_lt (show k < m by omega) (show m < 2 ^ 31 by omega)), zi, Bool.true_or, Bool.true_and, zix_nI (show k < 2 ^ 31 by omega), a3 219 k (by decide) (by omega), a3 218 k (by decide) (by omega), a1, nI_1] at st
      by_cases c : x < I 219 k
      · rw [if_pos c] at st
        have es : zct (fun k => !(decide (x < I 219 k))) (k + 1) = zct (fun k => !(decide (x < I 219 k))) k := by
          rw [zct_succ, decide_eq_true c]; rfl
        refine ⟨J, e.trans st, by rw [es]; exact a1, fun i hi ho hi4 => ?_, a3⟩
        by_cases z : i = k
        · subst z; rw [decide_eq_true c] at ho; cases ho
        · exact a2 i (by omega) ho hi4
      · rw [if_neg c] at st
        have es : zct (fun k => !(decide (x < I 219 k))) (k + 1) = zct (fun k => !(decide (x < I 219 k))) k + 1 := by
          rw [zct_succ, decide_eq_false c]; rfl
        rw [t40] at st
        simp only [nI_ltI (show zct (fun k => !(decide (x < I 219 k))) k < 2 ^ 31 by omega) (show 40 < 2 ^ 31 by decide)] at st
        have old : ∀ i, i < k → (!(decide (x < I 219 i))) = true → zct (fun k => !(decide (x < I 219 k))) i ≠ zct (fun k => !(decide (x < I 219 k))) k := fun i hi ho => by
          have := zct_lt (fun k => !(decide (x < I 219 k))) hi ho
          omega
        by_cases c2 : zct (fun k => !(decide (x < I 219 k))) k < 40
        · have i1 : zin 223 (nI (zct (fun k => !(decide (x < I 219 k))) k)) = true := (zinP c2).2.2
          rw [if_pos c2] at st
          simp only [i1, zc_t, zix_nI (show zct (fun k => !(decide (x < I 219 k))) k < 2 ^ 31 by omega), zup_n 11 (show (141 : Nat) ≠ 223 by decide), a1, nI_1] at st
          refine ⟨_, e.trans st, by rw [zup_s, es], fun i hi ho hi4 => ?_, fun b j h1 h2 => ?_⟩
          · rw [zup_n _ (by decide)]
            by_cases z : i = k
            · subst z; rw [zup_s]
            · rw [zup_k _ (old i (by omega) ho)]; exact a2 i (by omega) ho hi4
          · by_cases z : b = 141
            · rw [zup_k _ (h2 z), zup_n _ h1, a3 b j h1 h2]
            · rw [zup_n _ z, zup_n _ h1, a3 b j h1 h2]
        · rw [if_neg c2] at st
          refine ⟨_, e.trans st, by rw [zup_s, es], fun i hi ho hi4 => ?_, fun b j h1 h2 => ?_⟩
          · rw [zup_n _ (by decide)]
            by_cases z : i = k
            · subst z; exact absurd hi4 c2
            · exact a2 i (by omega) ho hi4
          · by_cases z : b = 141
            · rw [zup_k _ (h2 z), a3 b j h1 h2]
            · rw [zup_n _ z, a3 b j h1 h2]
  obtain ⟨J, e, a1, a2, a3⟩ := key m (Nat.le_refl _)
  rw [nI_0] at e
  refine ⟨J, ?_, a1, a2, a3⟩
  rw [e_Pl_choose]
  simp only [hW.k, zc_t]
  rw [e, e_Pl_choose_7]
  simp only [hT.k, zc_t, a3 4 6 (by decide) (by decide), h6]
  rw [if_neg (nI_nlt (Nat.le_refl _) (by omega))]
theorem Pl_setOwned_ok (hW : WP R n L) (hS : WS R n 10) {N O : Nat} {c : Nat → Nat} (hN : N ≤ 40) (h11 : I 141 11 = nI N) (hO : I 10 8 = nI O) (hO2 : O < 2 ^ 31) (hc : ∀ k, k < N → I 223 k = nI (c k) ∧ c k < 2 ^ 31) : ∃ J a, Pl_setOwned 141 I R n = some (none, J, R, n) ∧ ((a < N ∧ c a = O ∧ J 141 12 = nI N) ∨ (a = N ∧ (∀ k, k < N → c k ≠ O) ∧ J 141 12 = nI (N + 1) ∧ J 223 N = nI O)) ∧ J 141 15 = nI a ∧ (∀ k, k < N → J 223 k = I 223 k) ∧ ∀ b j, b ≠ 223 → (b = 141 → j ≠ 12 ∧ j ≠ 15) → J b j = I b j := by
  have key : ∀ k, k ≤ N → ∃ J a, Pl_setOwned_10 141 (nI 0) (zup I 141 15 (nI N)) R n = Pl_setOwned_10 141 (nI k) J R n ∧ ((a < k ∧ c a = O) ∨ (a = N ∧ ∀ i, i < k → c i ≠ O)) ∧ J 141 15 = nI a ∧ ∀ b j, (b = 141 → j ≠ 15) → J b j = I b j := by
    intro k
    induction k with
    | zero =>
      intro _
      refine ⟨_, N, rfl, Or.inr ⟨rfl, fun i hi => by omega⟩, zup_s _ _ _ _, fun b j hb => ?_⟩
      by_cases z : b = 141
      · rw [zup_k _ (hb z)]
      · rw [zup_n _ z]
    | succ k ih =>
      intro hk
      obtain ⟨J, a, e, a1, a2, a3⟩ := ih (by omega)
      have hck := hc k (by omega)
      have st := e_Pl_setOwned_10 141 (nI k) J R n
      simp only [hW.k, hW.2.1, hS.k, zc_t, zr_s, a3 141 11 (by decide), h11, if_pos (nI_lt (show k < N by omega) (show N < 2 ^ 31 by omega)), (zinP (show k < 40 by omega)).2.2, Bool.true_or, Bool.true_and, zix_nI (show k < 2 ^ 31 by omega), a3 223 k (by omega), hck.1, a3 10 8 (by decide), hO, nI_eq hck.2 hO2, nI_1] at st
      by_cases z : c k = O
      · rw [if_pos z] at st
        refine ⟨_, k, e.trans st, Or.inl ⟨by omega, z⟩, zup_s _ _ _ _, fun b j hb => ?_⟩
        by_cases q : b = 141
        · rw [zup_k _ (hb q), a3 b j hb]
        · rw [zup_n _ q, a3 b j hb]
      · rw [if_neg z] at st
        refine ⟨J, a, e.trans st, ?_, a2, a3⟩
        rcases a1 with ⟨q1, q2⟩ | ⟨q1, q2⟩
        · exact Or.inl ⟨by omega, q2⟩
        · refine Or.inr ⟨q1, fun i hi => ?_⟩
          by_cases y : i = k
          · rw [y]; exact z
          · exact q2 i (by omega)
  obtain ⟨J, a, e, a1, a2, a3⟩ := key N (Nat.le_refl _)
  rw [nI_0] at e
  have j11 : J 141 11 = nI N := by rw [a3 141 11 (by decide)]; exact h11
  have i1 : zin 223 (nI N) = true := zin_nI (by show _ < 41; omega) (by omega)
  have aN : a ≤ N := by rcases a1 with q | q <;> omega
  have st := e_Pl_setOwned 141 I R n
  simp only [hW.k, zc_t, h11] at st
  rw [e, e_Pl_setOwned_10] at st
  simp only [hW.k, hW.2.1, hS.k, zc_t, zr_s, j11, a2, a3 10 8 (by decide), hO, nI_eq (show a < 2 ^ 31 by omega) (show N < 2 ^ 31 by omega)] at st
  rw [if_neg (nI_nlt (Nat.le_refl _) (by omega))] at st
  rcases a1 with ⟨q1, q2⟩ | ⟨q1, q2⟩
  · rw [if_neg (show ¬ a = N by omega), e_Pl_setOwned_75] at st
    simp only [hW.k, i1, zc_t, Bool.true_and, zix_nI (show N < 2 ^ 31 by omega), zup_n 15 (show (141 : Nat) ≠ 223 by decide), zup_n 11 (show (141 : Nat) ≠ 223 by decide), a2, j11, nI_eq (show a < 2 ^ 31 by omega) (show N < 2 ^ 31 by omega)] at st
    rw [if_neg (show ¬ a = N by omega)] at st
    refine ⟨_, a, st, Or.inl ⟨q1, q2, zup_s _ _ _ _⟩, ?_, fun k hk => ?_, fun b j h1 h2 => ?_⟩
    · rw [zup_k _ (by decide), zup_n _ (by decide)]; exact a2
    · rw [zup_n _ (by decide), zup_k _ (by omega), a3 _ _ (by omega)]
    · by_cases z : b = 141
      · rw [zup_k _ (h2 z).1, zup_n _ h1, a3 b j (fun z => (h2 z).2)]
      · rw [zup_n _ z, zup_n _ h1, a3 b j (fun z => (h2 z).2)]
  · rw [if_pos q1, e_Pl_setOwned_75] at st
    simp only [hW.k, i1, zc_t, Bool.true_and, zix_nI (show N < 2 ^ 31 by omega), zup_n 15 (show (141 : Nat) ≠ 223 by decide), zup_n 11 (show (141 : Nat) ≠ 223 by decide), a2, j11, nI_eq (show a < 2 ^ 31 by omega) (show N < 2 ^ 31 by omega), nI_1] at st
    rw [if_pos q1] at st
    refine ⟨_, a, st, Or.inr ⟨q1, q2, zup_s _ _ _ _, ?_⟩, ?_, fun k hk => ?_, fun b j h1 h2 => ?_⟩
    · rw [zup_n _ (by decide), zup_s]
    · rw [zup_k _ (by decide), zup_n _ (by decide)]; exact a2
    · rw [zup_n _ (by decide), zup_k _ (by omega), a3 _ _ (by omega)]
    · by_cases z : b = 141
      · rw [zup_k _ (h2 z).1, zup_n _ h1, a3 b j (fun z => (h2 z).2)]
      · rw [zup_n _ z, zup_n _ h1, a3 b j (fun z => (h2 z).2)]
end LPz
