/-! ===== the reference's value of one point ===== -/
def zMI (N : Nat) (ok : Nat → Nat → Bool) (v : Nat → Nat → Int32) (K H : Nat) (m : Int32) : Prop := (m = -1000000 ∧ ∀ k ch, k < N → ch < 4 → zAh K H k ch → ok k ch = false) ∨ ((∃ k ch, k < N ∧ ch < 4 ∧ zAh K H k ch ∧ ok k ch = true ∧ v k ch = m) ∧ ∀ k ch, k < N → ch < 4 → zAh K H k ch → ok k ch = true → ¬ m < v k ch)
theorem zMI_step {N : Nat} {ok : Nat → Nat → Bool} {v : Nat → Nat → Int32} {K H : Nat} {m : Int32} (hK : K < N) (hH : H < 4) (hlow : ∀ k ch, k < N → ch < 4 → ok k ch = true → (-1000000 : Int32) < v k ch) (h : zMI N ok v K H m) : (ok K H = true → zMI N ok v K (H + 1) (zmax m (v K H))) ∧ (ok K H = false → zMI N ok v K (H + 1) m) := by
  have nx : ∀ k ch, zAh K (H + 1) k ch → zAh K H k ch ∨ (k = K ∧ ch = H) := by
    intro k ch q
    unfold zAh at *
    omega
  have up : ∀ k ch, zAh K H k ch → zAh K (H + 1) k ch := by
    intro k ch q
    unfold zAh at *
    omega
  constructor
  · intro ho
    rcases zmax_I m (v K H) with ⟨e, q⟩ | ⟨e, q⟩
    · rw [e]
      rcases h with ⟨h1, h2⟩ | ⟨⟨k, ch, a1, a2, a3, a4, a5⟩, h2⟩
      · rw [h1] at q; exact absurd (hlow K H hK hH ho) q
      · refine Or.inr ⟨⟨k, ch, a1, a2, up _ _ a3, a4, a5⟩, fun k ch b1 b2 b3 b4 => ?_⟩
        rcases nx k ch b3 with z | ⟨z1, z2⟩
        · exact h2 k ch b1 b2 z b4
        · rw [z1, z2]; exact q
    · rw [e]
      refine Or.inr ⟨⟨K, H, hK, hH, Or.inr ⟨rfl, by omega⟩, ho, rfl⟩, fun k ch b1 b2 b3 b4 => ?_⟩
      rcases nx k ch b3 with z | ⟨z1, z2⟩
      · rcases h with ⟨h1, h2⟩ | ⟨-, h2⟩
        · rw [h2 k ch b1 b2 z] at b4; cases b4
        · have := h2 k ch b1 b2 z b4
          rw [Int32.lt_iff_toInt_lt] at *; omega
      · rw [z1, z2, Int32.lt_iff_toInt_lt]; omega
  · intro ho
    rcases h with ⟨h1, h2⟩ | ⟨⟨k, ch, a1, a2, a3, a4, a5⟩, h2⟩
    · refine Or.inl ⟨h1, fun k ch b1 b2 b3 => ?_⟩
      rcases nx k ch b3 with z | ⟨z1, z2⟩
      · exact h2 k ch b1 b2 z
      · rw [z1, z2]; exact ho
    · refine Or.inr ⟨⟨k, ch, a1, a2, up _ _ a3, a4, a5⟩, fun k ch b1 b2 b3 b4 => ?_⟩
      rcases nx k ch b3 with z | ⟨z1, z2⟩
      · exact h2 k ch b1 b2 z b4
      · rw [z1, z2, ho] at b4; cases b4
theorem zMI_next {N : Nat} {ok : Nat → Nat → Bool} {v : Nat → Nat → Int32} {K : Nat} {m : Int32} (h : zMI N ok v K 4 m) : zMI N ok v (K + 1) 0 m := by
  rcases h with ⟨e, h⟩ | ⟨⟨k, ch, a1, a2, a3, a4, a5⟩, h2⟩
  · refine Or.inl ⟨e, fun k ch a1 a2 a3 => h k ch a1 a2 ?_⟩
    unfold zAh at *
    omega
  · refine Or.inr ⟨⟨k, ch, a1, a2, ?_, a4, a5⟩, fun k ch a1 a2 a3 a4 => h2 k ch a1 a2 ?_ a4⟩
    · unfold zAh at *
      omega
    · unfold zAh at *
      omega
theorem zMI_end {N : Nat} {ok : Nat → Nat → Bool} {v : Nat → Nat → Int32} {m : Int32} (hex : ∃ k ch, k < N ∧ ch < 4 ∧ ok k ch = true) (h : zMI N ok v N 0 m) : zIM N ok v m := by
  obtain ⟨k, ch, q1, q2, q3⟩ := hex
  rcases h with ⟨e, h⟩ | ⟨⟨k, ch, a1, a2, a3, a4, a5⟩, h2⟩
  · rw [h k ch q1 q2 (Or.inl q1)] at q3; cases q3
  · exact ⟨⟨k, ch, a1, a2, a4, a5⟩, fun k ch a1 a2 a3 => h2 k ch a1 a2 (Or.inl a1) a3⟩
section LMv
variable {I : ZI} {R : ZR} {n N w b f u : Nat} {ok : Nat → Nat → Bool} {v : Nat → Nat → Int32}
theorem M_lv_inner (h : WM R n) (hlow : ∀ k ch, k < N → ch < 4 → ok k ch = true → (-1000000 : Int32) < v k ch) (hst : ∀ k ch (J : ZI), k < N → ch < 4 → (∀ q j, (q = 195 → j ≠ 33 ∧ j ≠ 34) → J q j = I q j) → (ok k ch = false → M_steps 195 (nI w) (nI b) (nI f) (nI u) (nI k) (zwh ch) J R n = some (some (.int 0), J, R, n)) ∧ (ok k ch = true → ∃ J', M_steps 195 (nI w) (nI b) (nI f) (nI u) (nI k) (zwh ch) J R n = some (some (.int 1), J', R, n) ∧ zin 215 (J' 195 34) = true ∧ J' 195 33 + J' 215 (zix (J' 195 34)) = v k ch ∧ ∀ q j, (q = 195 → j ≠ 33 ∧ j ≠ 34) → J' q j = I q j)) {K : Nat} (hK : K < N) {J : ZI} (hJ : ∀ q j, (q = 195 → j ≠ 33 ∧ j ≠ 34) → J q j = I q j) {m : Int32} (h0 : zMI N ok v K 0 m) : ∀ H, H ≤ 4 → ∃ m' J', M_laysValue_46 195 (nI w) (nI b) (nI f) (nI u) m (nI K) (zwh 0) J R n = M_laysValue_46 195 (nI w) (nI b) (nI f) (nI u) m' (nI K) (zwh H) J' R n ∧ zMI N ok v K H m' ∧ ∀ q j, (q = 195 → j ≠ 33 ∧ j ≠ 34) → J' q j = I q j := by
  intro H
  induction H with
  | zero => intro _; exact ⟨m, J, rfl, h0, hJ⟩
  | succ H ih =>
    intro hH
    obtain ⟨m1, J1, e, t, f1⟩ := ih (by omega)
    have zs := zwh_s H (by omega)
    have s := hst K H J1 hK (by omega) f1
    have step := zMI_step hK (show H < 4 by omega) hlow t
    have st := e_M_laysValue_46 195 (nI w) (nI b) (nI f) (nI u) m1 (nI K) (zwh H) J1 R n
    rw [if_neg (zwh_4.2.2 H (by omega))] at st
    cases ho : ok K H with
    | false =>
      simp only [h.k, zc_t, s.1 ho, zbI_s, if_true, zs.1] at st
      exact ⟨m1, J1, e.trans st, step.2 ho, f1⟩
    | true =>
      obtain ⟨J2, q1, q2, q3, q4⟩ := s.2 ho
      simp only [h.k, h.2, zc_t, zr_s, q1, zbI_s, if_neg (show ¬ (1 : Int32) = 0 by decide), q2, q3, Bool.true_or, Bool.true_and, zs.1] at st
      exact ⟨_, J2, e.trans st, step.1 ho, q4⟩
end LMv
