/-! ===== the planner (class): the weeks' scores ===== -/
/-- scores and captains of the choices, as the class measures them -/
def cPl (I : ZI) (L P : Nat) (c : Nat → Nat) (w k : Nat) : Int32 := zwith (c k) (I (L + 8 + w)) P
def cTp (I : ZI) (L P : Nat) (c : Nat → Nat) (w k : Nat) : Int32 := zwith (c k) (I (L + 8 + w)) P - zsum (c k) (I (L + 8 + w)) P
section LPs
variable {I : ZI} {R : ZR} {n L N P : Nat} {c : Nat → Nat}
theorem Pl_measure84_ok (hW : WP R n L) (hL : WL R n L) (hN : N ≤ 40) (hP : P ≤ 16) (h11 : I 141 11 = nI N) (hp : I L 8 = nI P) (hc : ∀ k, k < N → I 223 k = nI (c k) ∧ c k < 65536 ∧ c k ≠ 0) {w : Nat} (hw : w < 6) (hlow : ∀ k, k < P → (-100000000 : Int32) < I (L + 8 + w) k) (hne : ∀ k, k < N → zcap (c k) (I (L + 8 + w)) P ≠ none) {J : ZI} (hJ : ∀ b, (b < 266 ∨ 280 ≤ b) → b ≠ 147 → J b = I b) : ∃ J', Pl_measure_84 141 (nI w) (nI 0) J R n = Pl_measure_66 141 (nI (w + 1)) J' R n ∧ (∀ k, k < N → J' (267 + w) k = cPl I L P c w k ∧ J' (274 + w) k = cTp I L P c w k) ∧ J' 147 w = zmxF (J 147 w) (cPl I L P c w) N ∧ ∀ b j, b ≠ 267 + w → b ≠ 274 + w → (b = 147 → j ≠ w) → J' b j = J b j := by
  have hl := isL_i hL.2.1
  have key : ∀ k, k ≤ N → ∃ J', Pl_measure_84 141 (nI w) (nI 0) J R n = Pl_measure_84 141 (nI w) (nI k) J' R n ∧ (∀ i, i < k → J' (267 + w) i = cPl I L P c w i ∧ J' (274 + w) i = cTp I L P c w i) ∧ J' 147 w = zmxF (J 147 w) (cPl I L P c w) k ∧ ∀ b j, b ≠ 267 + w → b ≠ 274 + w → (b = 147 → j ≠ w) → J' b j = J b j := by
    intro k
    induction k with
    | zero => intro _; exact ⟨J, rfl, fun i hi => by omega, rfl, fun _ _ _ _ _ => rfl⟩
    | succ k ih =>
      intro hk
      obtain ⟨J1, e, a1, a2, a3⟩ := ih (by omega)
      have g : ∀ b, (b < 266 ∨ 280 ≤ b) → b ≠ 147 → J1 b = I b := fun b h1 h2 => by
        funext j
        rw [a3 b j (by omega) (by omega) (fun z => absurd z h2), hJ b h1 h2]
      have hck := hc k (by omega)
      have zp := zinP (show k < 40 by omega)
      have eL : J1 (L + 8 + w) = I (L + 8 + w) := g _ (by omega) (by omega)
      have j8 : J1 L 8 = nI P := by rw [g L (by omega) (by omega)]; exact hp
      have po := Lg_pointsOf_ok (I := J1) hL (S := c k) (by omega) hP j8 hw
      have so := Lg_scoreOf_ok (I := J1) hL (S := c k) (by omega) hP j8 hw (by rw [eL]; exact hlow) hck.2.2 (by rw [eL]; exact hne k (by omega))
      rw [eL] at po so
      have st := e_Pl_measure_84 141 (nI w) (nI k) J1 R n
      simp only [hW.k, hW.2.1, hL.k, zc_t, zr_s, g 141 (by omega) (by omega), h11, if_pos (nI_lt (show k < N by omega) (show N < 2 ^ 31 by omega)), zp.2.2, Bool.true_or, Bool.true_and, zix_nI (show k < 2 ^ 31 by omega), zix_nI (show w < 2 ^ 31 by omega), g 223 (by omega) (by omega), hck.1, po, so, zbI_s, (zinW hw).1, (zinW hw).2.1, (zinW hw).2.2.1, hW.2.2.2.1 w hw, hW.2.2.2.2 w hw, (hW.p hw).1, (hW.p hw).2, (zp.2.1 w hw).1, (zp.2.1 w hw).2, zup_s, zup_n w (show (147 : Nat) ≠ 274 + w by omega), zup_n w (show (147 : Nat) ≠ 267 + w by omega), zup_n k (show 267 + w ≠ 274 + w by omega), nI_1] at st
      refine ⟨_, e.trans st, fun i hi => ?_, ?_, fun b j h1 h2 h3 => ?_⟩
      · by_cases z : i = k
        · subst z
          rw [zup_n _ (by omega), zup_n _ (by omega), zup_s, zup_n _ (by omega), zup_s]
          exact ⟨rfl, rfl⟩
        · rw [zup_n _ (by omega), zup_n _ (by omega), zup_k _ z, zup_n _ (by omega), zup_k _ z, zup_n _ (by omega)]
          exact a1 i (by omega)
      · rw [zup_s, a2]
        rfl
      · by_cases z : b = 147
        · rw [zup_k _ (h3 z), zup_n _ h2, zup_n _ h1, a3 b j h1 h2 h3]
        · rw [zup_n _ z, zup_n _ h2, zup_n _ h1, a3 b j h1 h2 h3]
  obtain ⟨J', e, a1, a2, a3⟩ := key N (Nat.le_refl _)
  refine ⟨J', ?_, a1, a2, a3⟩
  rw [e, e_Pl_measure_84]
  have : J' 141 11 = nI N := by rw [a3 141 11 (by omega) (by omega) (by omega), hJ 141 (by omega) (by omega)]; exact h11
  simp only [hW.k, zc_t, this]
  rw [if_neg (nI_nlt (Nat.le_refl _) (by omega)), nI_1]
theorem Pl_measure66_ok (hW : WP R n L) (hL : WL R n L) (hN : N ≤ 40) (hP : P ≤ 16) (h11 : I 141 11 = nI N) (hp : I L 8 = nI P) (hc : ∀ k, k < N → I 223 k = nI (c k) ∧ c k < 65536 ∧ c k ≠ 0) {w0 Wk : Nat} (hWk : Wk ≤ 6) (h13 : I 141 13 = nI Wk) (hlow : ∀ w k, w < Wk → k < P → (-100000000 : Int32) < I (L + 8 + w) k) (hne : ∀ w k, w < Wk → k < N → zcap (c k) (I (L + 8 + w)) P ≠ none) : ∀ e w (J : ZI), w + e = Wk → (∀ b, (b < 266 ∨ 280 ≤ b) → b ≠ 147 → J b = I b) → (∀ w' k, w0 ≤ w' → w' < w → k < N → J (267 + w') k = cPl I L P c w' k ∧ J (274 + w') k = cTp I L P c w' k) → (∀ w', w0 ≤ w' → w' < w → J 147 w' = zmxF (-100000000) (cPl I L P c w') N) → ∃ J', Pl_measure_66 141 (nI w) J R n = some (none, J', R, n) ∧ (∀ b, (b < 266 ∨ 280 ≤ b) → b ≠ 147 → J' b = I b) ∧ (∀ w' k, w0 ≤ w' → w' < Wk → k < N → J' (267 + w') k = cPl I L P c w' k ∧ J' (274 + w') k = cTp I L P c w' k) ∧ ∀ w', w0 ≤ w' → w' < Wk → J' 147 w' = zmxF (-100000000) (cPl I L P c w') N := by
  intro e
  induction e with
  | zero =>
    intro w J he hJ h1 h2
    refine ⟨J, ?_, hJ, fun w' k a1 a2 a3 => h1 w' k a1 (by omega) a3, fun w' a1 a2 => h2 w' a1 (by omega)⟩
    rw [e_Pl_measure_66]
    simp only [hW.k, zc_t, hJ 141 (by omega) (by omega), h13]
    rw [if_neg (nI_nlt (show Wk ≤ w by omega) (by omega))]
  | succ e ih =>
    intro w J he hJ h1 h2
    have hw6 : w < 6 := by omega
    have hJ1 : ∀ b, (b < 266 ∨ 280 ≤ b) → b ≠ 147 → (zup J 147 w (-100000000)) b = I b := fun b a1 a2 => by
      funext j
      rw [zup_n _ a2, hJ b a1 a2]
    obtain ⟨J', q1, q2, q3, q4⟩ := Pl_measure84_ok (I := I) (c := c) hW hL hN hP h11 hp hc hw6 (fun k hk => hlow w k (by omega) hk) (fun k hk => hne w k (by omega) hk) hJ1
    rw [zup_s] at q3
    rw [nI_0] at q1
    have st := e_Pl_measure_66 141 (nI w) J R n
    simp only [hW.k, hW.2.1, zc_t, zr_s, hJ 141 (by omega) (by omega), h13, if_pos (nI_lt (show w < Wk by omega) (show Wk < 2 ^ 31 by omega)), (zinW hw6).2.2.1, Bool.true_and, zix_nI (show w < 2 ^ 31 by omega)] at st
    obtain ⟨J2, p1, p2, p3, p4⟩ := ih (w + 1) J' (by omega) (fun b a1 a2 => by
      funext j
      rw [q4 b j (by omega) (by omega) (fun z => absurd z a2), hJ1 b a1 a2]) (fun w' k a1 a2 a3 => by
      by_cases z : w' = w
      · subst z; exact q2 k a3
      · rw [q4 _ _ (by omega) (by omega) (by omega), q4 _ _ (by omega) (by omega) (by omega), zup_n _ (by omega), zup_n _ (by omega)]
        exact h1 w' k a1 (by omega) a3) (fun w' a1 a2 => by
      by_cases z : w' = w
      · subst z; exact q3
      · rw [q4 _ _ (by omega) (by omega) (by omega), zup_k _ z]
        exact h2 w' a1 (by omega))
    exact ⟨J2, st.trans (q1.trans p1), p2, p3, p4⟩
end LPs
