/-! ===== the greatest divisor; end; regret's loop ===== -/
section LG
variable {I : ZI} {R : ZR} {n : Nat}
theorem M_common13_ok : ∀ (b a : Nat), a < 2 ^ 31 → b < 2 ^ 31 → M_common_13 (nI a) (nI b) I R n = some (some (.int (nI (Nat.gcd b a))), I, R, n) := by
  intro b
  induction b using Nat.strongRecOn with
  | _ b ih =>
    intro a ha hb
    rw [e_M_common_13]
    by_cases q : b = 0
    · subst q
      rw [nI_0, if_pos rfl, Nat.gcd_zero_left]
    · have n0 : ¬ nI b = 0 := nI_ne0 (by omega) hb
      have g : (!(decide (nI b = 0))) = true := by rw [decide_eq_false n0]; rfl
      have hm : a % b < b := Nat.mod_lt _ (by omega)
      rw [if_neg n0, g, zc_t, pk_rem ha (by omega) hb, ih (a % b) hm b hb (by omega), ← Nat.gcd_rec]
theorem C_gcd7_ok : ∀ (b a t : Nat), a < 2 ^ 31 → b + t ≤ 99 → C_greatestDivisor_7 (nI a) (nI b) (nI t) I R n = some (some (.int (nI (Nat.gcd b a))), I, R, n) := by
  intro b
  induction b using Nat.strongRecOn with
  | _ b ih =>
    intro a t ha hb
    have e99 : (99 : Int32) = nI 99 := by decide
    rw [e_C_greatestDivisor_7, e99, if_neg (nI_nlt (show t ≤ 99 by omega) (by omega))]
    by_cases q : b = 0
    · subst q
      rw [nI_0, if_pos rfl, Nat.gcd_zero_left]
    · have n0 : ¬ nI b = 0 := nI_ne0 (by omega) (by omega)
      have g : (!(decide (nI b = 0))) = true := by rw [decide_eq_false n0]; rfl
      have hm : a % b < b := Nat.mod_lt _ (by omega)
      rw [if_neg n0, g, zc_t, pk_rem ha (by omega) (by omega), nI_1, ih (a % b) hm b (t + 1) (by omega) (by omega), ← Nat.gcd_rec]
theorem C_greatestDivisor_ok {a b : Nat} (ha : a < 2 ^ 31) (hb : b ≤ 99) : C_greatestDivisor (nI a) (nI b) I R n = some (some (.int (nI (Nat.gcd b a))), I, R, n) := by
  rw [e_C_greatestDivisor, ← nI_0]
  exact C_gcd7_ok b a 0 ha (by omega)
theorem C_end_ok (hn : 4 < n) (r00 : R 0 0 = some 1) {T : Nat × (Nat → Nat)} (hT : tpC I T) (hl : T.1 ≤ 400) (x : Int32) : ∃ I', C_end 0 x I R n = some (some (.int (zlt x (T.1 + 1))), I', R, n) ∧ tpC I' (if zlt x (T.1 + 1) = 1 then (zix x, T.2) else T) ∧ ∀ b j, (b = 1 → j ≠ 1) → I' b j = I b j := by
  have k0 : zis n 0 8 = true := zis_lit (by omega) (by decide)
  have k1 : zis n 1 6 = true := zis_lit (by omega) (by decide)
  rw [e_C_end]
  simp only [k0, k1, r00, zc_t, zr_s, hT.1]
  rcases zlt_cases x (N := T.1 + 1) (by omega) with q | ⟨j, hj, rfl, q⟩
  · rw [q, if_neg (show ¬ (0 : Int32) = 1 by decide)]
    refine ⟨I, ?_, hT, fun _ _ _ => rfl⟩
    unfold zlt at q
    by_cases h1 : x < 0
    · rw [if_pos h1]
    · rw [if_neg h1] at q ⊢
      obtain ⟨j, hj, rfl⟩ := nI_of h1
      by_cases h2 : nI j < nI (T.1 + 1)
      · rw [if_pos h2] at q; exact absurd q (by decide)
      · rw [if_pos]
        have : ¬ j < T.1 + 1 := fun z => h2 (nI_lt z (by omega))
        exact nI_lt (by omega) hj
  · rw [q, if_pos rfl, if_neg (nI_pos (by omega)), if_neg (nI_nlt (show j ≤ T.1 by omega) (by omega)), zix_nI (by omega)]
    refine ⟨_, rfl, ⟨zup_s _ _ _ _, ?_⟩, ?_⟩
    · intro k hk
      rw [zup_n _ (by decide)]
      exact hT.2 k (by have : k < j := hk; omega)
    · intro b i hb
      by_cases z : b = 1
      · rw [zup_k _ (hb z)]
      · rw [zup_n _ z]
theorem M_end_ok (h : WM R n) {T : Nat × (Nat → Nat)} (hT : tpM I T) (hl : T.1 ≤ 400) (x : Int32) : ∃ I', M_end 195 x I R n = some (some (.int (zlt x (T.1 + 1))), I', R, n) ∧ tpM I' (if zlt x (T.1 + 1) = 1 then (zix x, T.2) else T) ∧ I' 195 0 = 0 ∧ ∀ b j, (b = 195 → j ≠ 0 ∧ j ≠ 2) → I' b j = I b j := by
  have hT0 : tpM (zup I 195 0 0) T := ⟨by rw [zup_k _ (by decide)]; exact hT.1, fun k hk => by rw [zup_n _ (by decide)]; exact hT.2 k hk⟩
  have fr0 : ∀ b j, (b = 195 → j ≠ 0 ∧ j ≠ 2) → (zup I 195 0 0) b j = I b j := fun b j h2 => by
    by_cases z : b = 195
    · rw [zup_k _ (h2 z).1]
    · rw [zup_n _ z]
  rw [e_M_end]
  simp only [h.k, zc_t, hT0.1]
  rcases zlt_cases x (N := T.1 + 1) (by omega) with q | ⟨j, hj, rfl, q⟩
  · rw [q, if_neg (show ¬ (0 : Int32) = 1 by decide)]
    refine ⟨zup I 195 0 0, ?_, hT0, zup_s _ _ _ _, fr0⟩
    unfold zlt at q
    by_cases h1 : x < 0
    · rw [if_pos h1]
    · rw [if_neg h1] at q ⊢
      obtain ⟨j, hj, rfl⟩ := nI_of h1
      by_cases h2 : nI j < nI (T.1 + 1)
      · rw [if_pos h2] at q; exact absurd q (by decide)
      · rw [if_pos]
        have : ¬ j < T.1 + 1 := fun z => h2 (nI_lt z (by omega))
        exact nI_lt (by omega) hj
  · rw [q, if_pos rfl, if_neg (nI_pos (by omega)), if_neg (nI_nlt (show j ≤ T.1 by omega) (by omega)), zix_nI (by omega)]
    refine ⟨_, rfl, ⟨zup_s _ _ _ _, ?_⟩, ?_, ?_⟩
    · intro k hk
      rw [zup_n _ (by decide), zup_n _ (by decide)]
      exact hT.2 k (by have : k < j := hk; omega)
    · rw [zup_k _ (by decide), zup_s]
    · intro b i hb
      by_cases z : b = 195
      · rw [zup_k _ (hb z).2]; exact fr0 b i hb
      · rw [zup_n _ z]; exact fr0 b i hb
end LG
