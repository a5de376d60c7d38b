/-! ===== the reference lays its teams ===== -/
noncomputable def zdc (p : Prop) : Bool := @decide p (Classical.propDecidable p)
theorem zdc_t {p : Prop} (h : p) : zdc p = true := @decide_eq_true p (Classical.propDecidable p) h
theorem zdc_f {p : Prop} (h : ¬ p) : zdc p = false := @decide_eq_false p (Classical.propDecidable p) h
theorem zdc_iff {p : Prop} : zdc p = true ↔ p := ⟨fun h => @of_decide_eq_true p (Classical.propDecidable p) h, zdc_t⟩
/-- a team of size z, of P players, by the reference's rows -/
noncomputable def mT (I : ZI) (z P S : Nat) : Bool := zdc (S < 2 ^ P ∧ zcnt S (fun _ => true) 20 = z ∧ mTeam I S P)
theorem zcnt_20 {S : Nat} (h : S < 65536) : zcnt S (fun _ => true) 20 = zcnt S (fun _ => true) 16 :=
  zcnt_out (P := 16) 4 (fun i hi => by
    rw [Nat.testBit_lt_two_pow (Nat.lt_of_lt_of_le h (Nat.pow_le_pow_right (n := 2) (by omega) hi))]
    rfl)
section LM6
variable {I : ZI} {R : ZR} {n : Nat}
theorem M_manyIn_ok {S : Nat} (hS : S < 2 ^ 31) : M_manyIn (nI S) I R n = some (some (.int (nI (zcnt S (fun _ => true) 16))), I, R, n) := by
  rw [e_M_manyIn]
  have e16 : (16 : Int32) = nI 16 := by decide
  have key : ∀ k, k ≤ 16 → M_manyIn_4 (nI S) (nI 0) (nI 0) I R n = M_manyIn_4 (nI S) (nI (zcnt S (fun _ => true) k)) (nI k) I R n := by
    intro k
    induction k with
    | zero => intro _; rfl
    | succ k ih =>
      intro hk
      rw [ih (by omega), e_M_manyIn_4, e16, if_pos (nI_lt (show k < 16 by omega) (by omega)), zbit hS (show k < 32 by omega), nI_1, zcnt_succ]
      cases S.testBit k
      · show M_manyIn_4 (nI S) (nI _ + 0) _ I R n = _
        rw [Int32.add_zero]; rfl
      · show M_manyIn_4 (nI S) (nI _ + 1) _ I R n = _
        rw [nI_1]; rfl
  rw [nI_0] at key
  rw [key 16 (Nat.le_refl _), e_M_manyIn_4, if_neg (by decide)]
theorem mTeam_congr {J : ZI} {S P : Nat} (h3 : J 203 = I 203) (h4 : J 204 = I 204) (h8 : J 198 = I 198) : mTeam J S P = mTeam I S P := by
  unfold mTeam mSlots mClubs
  rw [h3, h4, h8]
theorem M_laysTeams_ok (h : WM R n) {P z : Nat} (hP : P ≤ 16) (hp : I 195 17 = nI P) (hz : I 198 0 + I 198 1 + I 198 2 + I 198 3 = nI z) (hz1 : 1 ≤ z) (hz2 : z ≤ 16) (hB : zct (mT I z P) (2 ^ P) ≤ 3136) : ∃ I', M_laysTeams 195 I R n = some (none, I', R, n) ∧ I' 195 20 = nI (zct (mT I z P) (2 ^ P)) ∧ zTab (mT I z P) (2 ^ P) (I' 207) ∧ ∀ b j, b ≠ 207 → (b = 195 → j ≠ 20) → I' b j = I b j := by
  have h2P : 2 ^ P ≤ 65536 := Nat.pow_le_pow_right (n := 2) (by omega) hP
  have hp0 : mT I z P 0 = false := zdc_f (fun q => by
    have := q.2.1
    have e : zcnt 0 (fun _ => true) 20 = 0 := by decide
    omega)
  have key : ∀ X, 1 ≤ X → X ≤ 2 ^ P → ∃ J, M_laysTeams_7 195 1 (zup I 195 20 0) R n = M_laysTeams_7 195 (nI X) J R n ∧ J 195 20 = nI (zct (mT I z P) X) ∧ zTab (mT I z P) X (J 207) ∧ ∀ b j, b ≠ 207 → (b = 195 → j ≠ 20) → J b j = I b j := by
    intro X
    induction X with
    | zero => intro h0; omega
    | succ X ih =>
      intro _ hX
      by_cases q0 : X = 0
      · subst q0
        refine ⟨zup I 195 20 0, rfl, ?_, ?_, ?_⟩
        · rw [zup_s, zct_succ, hp0]; rfl
        · intro S hS hpS
          have : S = 0 := by omega
          rw [this, hp0] at hpS; cases hpS
        · intro b j h1 h2
          by_cases q : b = 195
          · rw [zup_k _ (h2 q)]
          · rw [zup_n _ q]
      · obtain ⟨J, e, a1, a2, a3⟩ := ih (by omega) (by omega)
        have j17 : J 195 17 = nI P := by rw [a3 _ _ (by decide) (fun _ => by decide), hp]
        have j8 : J 198 = I 198 := funext fun j => a3 198 j (by decide) (fun q => absurd q (by decide))
        have j3 : J 203 = I 203 := funext fun j => a3 203 j (by decide) (fun q => absurd q (by decide))
        have j4 : J 204 = I 204 := funext fun j => a3 204 j (by decide) (fun q => absurd q (by decide))
        have hX31 : X < 2 ^ 31 := by omega
        have hXlt : X < 65536 := by omega
        have hcl := zcnt_le X (fun _ => true) 16
        have same : ∀ (hf : mT I z P X = false), M_laysTeams_7 195 (nI X) J R n = M_laysTeams_7 195 (nI (X + 1)) J R n → ∃ J', M_laysTeams_7 195 1 (zup I 195 20 0) R n = M_laysTeams_7 195 (nI (X + 1)) J' R n ∧ J' 195 20 = nI (zct (mT I z P) (X + 1)) ∧ zTab (mT I z P) (X + 1) (J' 207) ∧ ∀ b j, b ≠ 207 → (b = 195 → j ≠ 20) → J' b j = I b j := by
          intro hf e2
          refine ⟨J, e.trans e2, ?_, ?_, a3⟩
          · rw [a1, zct_succ, hf]; rfl
          · intro S hS hpS
            by_cases q : S = X
            · rw [q, hf] at hpS; cases hpS
            · exact a2 S (by omega) hpS
        have hsz : M_size 195 J R n = some (some (.int (nI z)), J, R, n) := by rw [M_size_ok h, j8, hz]
        have st2 := e_M_laysTeams_7 195 (nI X) J R n
        simp only [h.k, zc_t, j17, zshl1 P (by omega), if_pos (nI_lt (show X < 2 ^ P by omega) (show 2 ^ P < 2 ^ 31 by omega)), M_manyIn_ok hX31, zbI_s, hsz, M_hasSlots_ok h hX31 hP j17, M_hasClubs_ok h hX31 hP j17, nI_1, nI_eq (show zcnt X (fun _ => true) 16 < 2 ^ 31 by omega) (show z < 2 ^ 31 by omega)] at st2
        by_cases q1 : zcnt X (fun _ => true) 16 = z
        · rw [if_pos q1] at st2
          by_cases q2 : mSlots J X P
          · rw [zb01_t q2, if_neg (by decide)] at st2
            by_cases q3 : mClubs J X P
            · rw [zb01_t q3, if_neg (by decide)] at st2
              have hT : mT I z P X = true := zdc_t ⟨by omega, by rw [zcnt_20 hXlt]; exact q1, by rw [← mTeam_congr j3 j4 j8]; exact ⟨q2, q3⟩⟩
              have hm : zct (mT I z P) X < 3136 := Nat.lt_of_lt_of_le (zct_lt _ (show X < 2 ^ P by omega) hT) hB
              have i207 : zin 207 (nI (zct (mT I z P) X)) = true := zin_nI (by show _ < 8008; omega) (by omega)
              simp only [h.k, h.2, zr_s, a1, i207, Bool.true_and, zc_t, zix_nI (show zct (mT I z P) X < 2 ^ 31 by omega), zup_n _ (show (195 : Nat) ≠ 207 by decide), nI_1] at st2
              refine ⟨_, e.trans st2, ?_, ?_, ?_⟩
              · rw [zup_s, zct_succ, hT]; rfl
              · intro S hS hpS
                rw [zup_n _ (by decide)]
                by_cases q : S = X
                · rw [q, zup_s]
                · have := zct_lt (mT I z P) (show S < X by omega) hpS
                  rw [zup_k _ (by omega)]
                  exact a2 S (by omega) hpS
              · intro b j h1 h2
                by_cases q : b = 195
                · rw [zup_k _ (h2 q), zup_n _ h1]; exact a3 b j h1 h2
                · rw [zup_n _ q, zup_n _ h1]; exact a3 b j h1 h2
            · rw [zb01_f q3, if_pos rfl] at st2
              exact same (zdc_f (fun w => q3 (by have := w.2.2; rw [← mTeam_congr j3 j4 j8] at this; exact this.2))) st2
          · rw [zb01_f q2, if_pos rfl] at st2
            exact same (zdc_f (fun w => q2 (by have := w.2.2; rw [← mTeam_congr j3 j4 j8] at this; exact this.1))) st2
        · rw [if_neg q1] at st2
          exact same (zdc_f (fun w => q1 (by rw [← zcnt_20 hXlt]; exact w.2.1))) st2
  obtain ⟨J, e, a1, a2, a3⟩ := key (2 ^ P) (Nat.two_pow_pos P) (Nat.le_refl _)
  refine ⟨J, ?_, a1, a2, a3⟩
  have j17 : J 195 17 = nI P := by rw [a3 _ _ (by decide) (fun _ => by decide), hp]
  rw [e_M_laysTeams]
  simp only [h.k, zc_t]
  rw [e, e_M_laysTeams_7]
  simp only [h.k, zc_t, j17, zshl1 P (show P < 31 by omega)]
  rw [if_neg (nI_nlt (Nat.le_refl _) (by omega))]
end LM6
