/-! ===== the reference takes a league ===== -/
section LLg
variable {q : Nat} {I : ZI} {R : ZR} {n L L' P Wk z m : Nat} {t : Nat → Nat}
theorem M_league35_ok {J : ZI} (hM : WM R n) : ∃ F, M_league_35 195 0 J R n = M_league_61 195 0 F R n ∧ (∀ k, k < 10 → F 198 k = J 197 k) ∧ ∀ b j, b ≠ 198 → F b j = J b j := by
  have t10 : (10 : Int32) = nI 10 := by decide
  obtain ⟨F, a1, a2, a3⟩ := zcopy (fun k J => M_league_35 195 (nI k) J R n) J 197 198 (fun k => k) (fun k => k) 10 (fun i k h1 _ => by omega) (fun e => absurd e (by decide)) (fun i K hi _ => by
    have st := e_M_league_35 195 (nI i) K R n
    rw [t10, if_pos (nI_lt hi (by decide))] at st
    simp only [hM.k, hM.2, zc_t, zr_s, zin_nI (show i < z_ln 197 by show i < 10; omega) (show i < 2 ^ 31 by omega), zin_nI (show i < z_ln 198 by show i < 10; omega) (show i < 2 ^ 31 by omega), Bool.true_or, Bool.true_and, zix_nI (show i < 2 ^ 31 by omega), nI_1] at st
    exact st) 10 (Nat.le_refl _)
  have st := e_M_league_35 195 (nI 10) F R n
  rw [t10, if_neg (nI_nlt (Nat.le_refl _) (by decide))] at st
  have a1' : M_league_35 195 (nI 0) J R n = M_league_35 195 (nI 10) F R n := a1
  rw [nI_0] at a1'
  exact ⟨F, a1'.trans st, fun k hk => a2 k hk, fun b j hb => a3 b j (fun e => absurd e hb)⟩
theorem M_league61_ok {J : ZI} (hM : WM R n) : ∃ F, M_league_61 195 0 J R n = M_league_82 195 0 F R n ∧ (∀ k, k < 79 → F 208 k = 0) ∧ ∀ b j, b ≠ 208 → F b j = J b j := by
  have t79 : (79 : Int32) = nI 79 := by decide
  have key : ∀ k, k ≤ 79 → ∃ F, M_league_61 195 (nI 0) J R n = M_league_61 195 (nI k) F R n ∧ (∀ i, i < k → F 208 i = 0) ∧ ∀ b j, b ≠ 208 → F b j = J b j := by
    intro k
    induction k with
    | zero => intro _; exact ⟨J, rfl, fun i hi => by omega, fun _ _ _ => rfl⟩
    | succ k ih =>
      intro hk
      obtain ⟨F, a1, a2, a3⟩ := ih (by omega)
      have st := e_M_league_61 195 (nI k) F R n
      rw [t79, if_pos (nI_lt (show k < 79 by omega) (by decide))] at st
      simp only [hM.k, hM.2, zc_t, zr_s, zin79b (show k < 79 by omega), Bool.true_and, zix_nI (show k < 2 ^ 31 by omega), nI_1] at st
      refine ⟨_, a1.trans st, fun i hi => ?_, fun b j hb => by rw [zup_n _ hb]; exact a3 b j hb⟩
      by_cases e : i = k
      · rw [e, zup_s]
      · rw [zup_k _ e]; exact a2 i (by omega)
  obtain ⟨F, a1, a2, a3⟩ := key 79 (Nat.le_refl _)
  have st := e_M_league_61 195 (nI 79) F R n
  rw [t79, if_neg (nI_nlt (Nat.le_refl _) (by decide))] at st
  rw [nI_0] at a1
  exact ⟨F, a1.trans st, a2, a3⟩
theorem M_league141_ok {J : ZI} (hM : WM R n) {i : Nat} (hi : i < 16) : ∃ F, M_league_141 195 (nI i) 0 J R n = M_league_82 195 (nI (i + 1)) F R n ∧ (∀ w, w < 6 → F 206 (6 * i + w) = J 202 (6 * i + w)) ∧ ∀ b j, (b = 206 → j < 6 * i ∨ 6 * i + 6 ≤ j) → F b j = J b j := by
  have t6 : (6 : Int32) = nI 6 := by decide
  obtain ⟨F, a1, a2, a3⟩ := zcopy (fun w J => M_league_141 195 (nI i) (nI w) J R n) J 202 206 (fun w => 6 * i + w) (fun w => 6 * i + w) 6 (fun a b h1 _ => by omega) (fun e => absurd e (by decide)) (fun w K hw _ => by
    have st := e_M_league_141 195 (nI i) (nI w) K R n
    rw [if_pos (show nI w < 6 by rw [t6]; exact nI_lt hw (by decide))] at st
    simp only [hM.k, hM.2, zc_t, zr_s, zpt, zin206 hi hw, zin_nI (show 6 * i + w < z_ln 202 by show 6 * i + w < 96; omega) (show 6 * i + w < 2 ^ 31 by omega), Bool.true_or, Bool.true_and, zix_nI (show 6 * i + w < 2 ^ 31 by omega), nI_1] at st
    exact st) 6 (Nat.le_refl _)
  have st := e_M_league_141 195 (nI i) (nI 6) F R n
  rw [if_neg (show ¬ nI 6 < 6 by decide), nI_1] at st
  have a1' : M_league_141 195 (nI i) (nI 0) J R n = M_league_141 195 (nI i) (nI 6) F R n := a1
  rw [nI_0] at a1'
  refine ⟨F, a1'.trans st, a2, fun b j hb => a3 b j (fun e w hw => ?_)⟩
  have := hb e
  omega
theorem M_league82_ok {J : ZI} (hM : WM R n) : ∃ F, M_league_82 195 0 J R n = M_league_82 195 (nI 16) F R n ∧ (∀ i, i < 16 → F 203 i = J 199 i ∧ F 204 i = J 200 i ∧ F 205 i = J 201 i ∧ F 208 (11 + i) = J 201 i) ∧ (∀ i w, i < 16 → w < 6 → F 206 (6 * i + w) = J 202 (6 * i + w)) ∧ ∀ b j, b ≠ 203 → b ≠ 204 → b ≠ 205 → b ≠ 206 → (b = 208 → j < 11 ∨ 27 ≤ j) → F b j = J b j := by
  have t16 : (16 : Int32) = nI 16 := by decide
  have key : ∀ k, k ≤ 16 → ∃ F, M_league_82 195 (nI 0) J R n = M_league_82 195 (nI k) F R n ∧ (∀ i, i < k → F 203 i = J 199 i ∧ F 204 i = J 200 i ∧ F 205 i = J 201 i ∧ F 208 (11 + i) = J 201 i) ∧ (∀ i w, i < k → w < 6 → F 206 (6 * i + w) = J 202 (6 * i + w)) ∧ ∀ b j, b ≠ 203 → b ≠ 204 → b ≠ 205 → b ≠ 206 → (b = 208 → j < 11 ∨ 27 ≤ j) → F b j = J b j := by
    intro k
    induction k with
    | zero => intro _; exact ⟨J, rfl, fun i hi => by omega, fun i w hi => by omega, fun _ _ _ _ _ _ _ => rfl⟩
    | succ k ih =>
      intro hk
      obtain ⟨F, a1, a2, a3, a4⟩ := ih (by omega)
      have e11 : (11 : Int32) + nI k = nI (11 + k) := nI_add 11 k
      have z16 : ∀ b, z_ln b = 16 → zin b (nI k) = true := fun b hb => zin_of hb (by omega) (by decide)
      have st := e_M_league_82 195 (nI k) F R n
      rw [t16, if_pos (nI_lt (show k < 16 by omega) (by decide))] at st
      simp only [hM.k, hM.2, zc_t, zr_s, z16 199 (by decide), z16 200 (by decide), z16 201 (by decide), z16 203 (by decide), z16 204 (by decide), z16 205 (by decide), e11, zin79b (show 11 + k < 79 by omega), Bool.true_or, Bool.true_and, zix_nI (show k < 2 ^ 31 by omega), zix_nI (show 11 + k < 2 ^ 31 by omega), zup_n k (show (200 : Nat) ≠ 203 by decide), zup_n k (show (201 : Nat) ≠ 203 by decide), zup_n k (show (201 : Nat) ≠ 204 by decide), zup_n k (show (201 : Nat) ≠ 205 by decide), e_M_league_139] at st
      obtain ⟨G, g1, g2, g3⟩ := M_league141_ok (J := zup (zup (zup (zup F 203 k (F 199 k)) 204 k (F 200 k)) 205 k (F 201 k)) 208 (11 + k) (F 201 k)) hM (show k < 16 by omega)
      have f1 : ∀ j, F 199 j = J 199 j ∧ F 200 j = J 200 j ∧ F 201 j = J 201 j ∧ F 202 j = J 202 j := fun j => ⟨a4 _ _ (by decide) (by decide) (by decide) (by decide) (by omega), a4 _ _ (by decide) (by decide) (by decide) (by decide) (by omega), a4 _ _ (by decide) (by decide) (by decide) (by decide) (by omega), a4 _ _ (by decide) (by decide) (by decide) (by decide) (by omega)⟩
      refine ⟨G, a1.trans (st.trans g1), fun i hi => ?_, fun i w hi hw => ?_, fun b j h1 h2 h3 h4 h5 => ?_⟩
      · rw [g3 203 i (by omega), g3 204 i (by omega), g3 205 i (by omega), g3 208 (11 + i) (by omega)]
        by_cases e : i = k
        · subst e
          refine ⟨?_, ?_, ?_, ?_⟩
          · rw [zup_n _ (by decide), zup_n _ (by decide), zup_n _ (by decide), zup_s]; exact (f1 i).1
          · rw [zup_n _ (by decide), zup_n _ (by decide), zup_s]; exact (f1 i).2.1
          · rw [zup_n _ (by decide), zup_s]; exact (f1 i).2.2.1
          · rw [zup_s]; exact (f1 i).2.2.1
        · obtain ⟨b1, b2, b3, b4⟩ := a2 i (by omega)
          refine ⟨?_, ?_, ?_, ?_⟩
          · rw [zup_n _ (by decide), zup_n _ (by decide), zup_n _ (by decide), zup_k _ e]; exact b1
          · rw [zup_n _ (by decide), zup_n _ (by decide), zup_k _ e]; exact b2
          · rw [zup_n _ (by decide), zup_k _ e]; exact b3
          · rw [zup_k _ (by omega), zup_n _ (by decide), zup_n _ (by decide), zup_n _ (by decide)]; exact b4
      · by_cases e : i = k
        · subst e
          rw [g2 w hw, zup_n _ (by decide), zup_n _ (by decide), zup_n _ (by decide), zup_n _ (by decide)]; exact (f1 _).2.2.2
        · rw [g3 206 _ (fun _ => by omega), zup_n _ (by decide), zup_n _ (by decide), zup_n _ (by decide), zup_n _ (by decide)]; exact a3 i w (by omega) hw
      · rw [g3 b j (fun e => absurd e h4)]
        have : (zup (zup (zup (zup F 203 k (F 199 k)) 204 k (F 200 k)) 205 k (F 201 k)) 208 (11 + k) (F 201 k)) b j = F b j := by
          by_cases e : b = 208
          · have := h5 e
            rw [zup_k _ (by omega), zup_n _ h3, zup_n _ h2, zup_n _ h1]
          · rw [zup_n _ e, zup_n _ h3, zup_n _ h2, zup_n _ h1]
        rw [this]; exact a4 b j h1 h2 h3 h4 h5
  obtain ⟨F, a1, a2, a3, a4⟩ := key 16 (Nat.le_refl _)
  rw [nI_0] at a1
  exact ⟨F, a1, a2, a3, a4⟩
/-- at most so many teams -/
theorem zteams_le (hP : P ≤ 16) (hpl : ∀ i, i < P → ∃ v, v < 4 ∧ I (L + 3) i = nI v) {s : Nat → Nat} (hs : ∀ k, k < 4 → s k ≤ 3 ∧ I (L + 1) k = nI (s k)) (hz : s 0 + s 1 + s 2 + s 3 ≤ 6) : zct (cT I L z P) (2 ^ P) ≤ 3136 := by
  have ex : ∃ pl : Nat → Nat, ∀ i, i < P → pl i < 4 ∧ I (L + 3) i = nI (pl i) := by
    refine ⟨fun i => if h : i < P then Classical.choose (hpl i h) else 0, fun i hi => ?_⟩
    dsimp only
    rw [dif_pos hi]
    exact Classical.choose_spec (hpl i hi)
  obtain ⟨pl, pl1⟩ := ex
  refine Nat.le_trans (zct_sub (q := zqf pl P (s 0) (s 1) (s 2) (s 3)) (fun S hS hc => ?_)) (zct_teams pl hP (fun i hi => (pl1 i hi).1) (by have := (hs 0 (by decide)).1; omega) (by have := (hs 1 (by decide)).1; omega) (by have := (hs 2 (by decide)).1; omega) (by have := (hs 3 (by decide)).1; omega) hz)
  have ht := (zdc_iff.mp hc).2.2.1
  have e : ∀ k, k < 4 → zcnt S (fun i => decide (pl i = k)) P = s k := fun k hk => by
    have h1 := ht k hk
    have h2 : zcnt S (fun i => decide (I (L + 3) i = nI k)) P = zcnt S (fun i => decide (pl i = k)) P := zcnt_ext (fun i hi => by
      rw [(pl1 i hi).2, decide_eq_decide.mpr (nI_eq (show pl i < 2 ^ 31 by have := (pl1 i hi).1; omega) (show k < 2 ^ 31 by omega))])
    have le := zcnt_le S (fun i => decide (pl i = k)) P
    rw [h2, (hs k hk).2, nI_eq (by omega) (by have := (hs k hk).1; omega)] at h1
    exact h1
  unfold zqf
  rw [e 0 (by decide), e 1 (by decide), e 2 (by decide), e 3 (by decide)]
  simp
theorem mT_c (g : zLg I L P Wk z) : mT I z P = cT I L z P := by
  funext S
  unfold mT cT
  rw [show (S < 2 ^ P ∧ zcnt S (fun _ => true) 20 = z ∧ mTeam I S P) = (S < 2 ^ P ∧ zcnt S (fun _ => true) 20 = z ∧ cTeam I L S P) from propext (by rw [mTeam_c g])]
/-- sets in their order and teams by their number -/
theorem zct_two {p d : Nat → Bool} {u : Nat → Nat} (hd : ∀ S, d S = true → p S = true) {N : Nat} (hu : ∀ S, S < N → p S = true → u (zct p S) = S) : ∀ X, X ≤ N → zct d X = zct (fun k => d (u k)) (zct p X)
  | 0, _ => rfl
  | X + 1, hX => by
    rw [zct_succ, zct_succ, zct_two hd hu X (by omega)]
    cases hp : p X with
    | true =>
      rw [if_pos (show true = true from rfl), zct_succ, hu X (by omega) hp]
    | false =>
      have : d X = false := by
        cases h : d X with
        | true => rw [hd X h] at hp; cases hp
        | false => rfl
      rw [this]
      rfl
end LLg
