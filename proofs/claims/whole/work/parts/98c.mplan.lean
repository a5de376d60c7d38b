/-! ===== the reference's value of one point is written ===== -/
section LMx
variable {I : ZI} {R : ZR} {n N w b f u : Nat} {ok : Nat → Nat → Bool} {v : Nat → Nat → Int32}
theorem zsta_lt (hw : w ≤ 6) (hb : b ≤ 40) (hf : f ≤ 2) (hu : u < 8) : zsta w b f u < 6888 := by
  unfold zsta
  omega
theorem M_laysValue_ok (h : WM R n) (hN : N ≤ 40) (hw : w ≤ 6) (hb : b ≤ 40) (hf : f ≤ 2) (hu : u < 8) (h32 : I 195 32 = nI N) (hlent : ∀ J : ZI, (∀ q j, (q = 195 → j ≠ 33 ∧ j ≠ 34) → J q j = I q j) → M_isLent 195 (nI w) J R n = some (some (.int 0), J, R, n)) (hlow : ∀ k ch, k < N → ch < 4 → ok k ch = true → (-1000000 : Int32) < v k ch) (hst : ∀ k ch (J : ZI), k < N → ch < 4 → (∀ q j, (q = 195 → j ≠ 33 ∧ j ≠ 34) → J q j = I q j) → (ok k ch = false → M_steps 195 (nI w) (nI b) (nI f) (nI u) (nI k) (zwh ch) J R n = some (some (.int 0), J, R, n)) ∧ (ok k ch = true → ∃ J', M_steps 195 (nI w) (nI b) (nI f) (nI u) (nI k) (zwh ch) J R n = some (some (.int 1), J', R, n) ∧ zin 215 (J' 195 34) = true ∧ J' 195 33 + J' 215 (zix (J' 195 34)) = v k ch ∧ ∀ q j, (q = 195 → j ≠ 33 ∧ j ≠ 34) → J' q j = I q j)) (hex : ∃ k ch, k < N ∧ ch < 4 ∧ ok k ch = true) : ∃ J m, M_laysValue 195 (nI w) (nI b) (nI f) (nI u) I R n = some (none, J, R, n) ∧ zIM N ok v m ∧ J 215 (zsta w b f u) = m ∧ ∀ q j, (q = 195 → j ≠ 33 ∧ j ≠ 34) → (q = 215 → j ≠ zsta w b f u) → J q j = I q j := by
  obtain ⟨m, J, e, t, f1⟩ := M_lv_outer (I := I) h hN h32 hlent hlow hst N (Nat.le_refl _)
  have lt := zsta_lt hw hb hf hu
  have i1 : zin 215 (nI (zsta w b f u)) = true := zin_nI (by show _ < 6888; omega) (by omega)
  have j32 : J 195 32 = nI N := by rw [f1 195 32 (by decide)]; exact h32
  have s1 := e_M_laysValue_26 195 (nI w) (nI b) (nI f) (nI u) m (nI N) J R n
  rw [j32, if_neg (nI_nlt (Nat.le_refl _) (by omega))] at s1
  simp only [h.k, zc_t] at s1
  have sa := M_stateAt_ok (I := J) (R := R) (n := n) (w := w) (b := b) (f := f) (u := u) (x0 := nI w) (x1 := nI b) (x2 := nI f) (x3 := nI u) rfl rfl rfl rfl
  have s2 := e_M_laysValue_101 195 (nI w) (nI b) (nI f) (nI u) m J R n
  simp only [h.k, h.2, zc_t, zr_s, sa, zbI_s, i1, Bool.true_and, zix_nI (show zsta w b f u < 2 ^ 31 by omega)] at s2
  refine ⟨_, m, e.trans (s1.trans s2), zMI_end hex t, zup_s _ _ _ _, fun q j h1 h2 => ?_⟩
  by_cases z : q = 215
  · rw [zup_k _ (h2 z), f1 q j h1]
  · rw [zup_n _ z, f1 q j h1]
end LMx
