/-! ===== the reference's value of one point: all teams ===== -/
section LMw
variable {I : ZI} {R : ZR} {n N w b f u : Nat} {ok : Nat → Nat → Bool} {v : Nat → Nat → Int32}
theorem M_ahead_own (h : WM R n) {B : Nat} (ht : I 208 1 = nI B) : M_ahead 195 (nI 40) I R n = some (some (.int (nI B)), I, R, n) := by
  rw [e_M_ahead, if_pos (by decide)]
  simp only [h.k, h.2, zc_t, zr_s, zin208, zixs, Bool.true_or, Bool.true_and, ht]
theorem M_ahead_k (h : WM R n) {B : Nat} (hb : b < 40) (ht : I 214 b = nI B) : M_ahead 195 (nI b) I R n = some (some (.int (nI B)), I, R, n) := by
  have t40 : (40 : Int32) = nI 40 := by decide
  have i1 : zin 214 (nI b) = true := zin_nI (by show _ < 40; omega) (by omega)
  rw [e_M_ahead, t40, if_neg (fun z => by rw [nI_eq (by omega) (by decide)] at z; omega)]
  simp only [h.k, h.2, zc_t, zr_s, i1, zix_nI (show b < 2 ^ 31 by omega), Bool.true_or, Bool.true_and, ht]
theorem M_isLent_no (h : WM R n) {w0 : Nat} (hw : w < 2 ^ 31) (hw0 : w0 < 2 ^ 31) (h9 : I 208 9 = nI w0) (hcp : w = w0 → ¬ I 208 7 = 2) : M_isLent 195 (nI w) I R n = some (some (.int 0), I, R, n) := by
  rw [e_M_isLent]
  simp only [h.k, h.2, zc_t, zr_s, M_isFirst_ok h hw hw0 h9, zbI_s, zin208, zixs, Bool.true_or, Bool.true_and]
  by_cases c : w = w0
  · rw [decide_eq_true c, if_neg (show ¬ zbo true = 0 by decide), if_neg (hcp c)]
  · rw [decide_eq_false c, if_pos (show zbo false = 0 by decide)]
theorem M_lv_outer (h : WM R n) (hN : N ≤ 40) (h32 : I 195 32 = nI N) (hlent : ∀ J : ZI, (∀ q j, (q = 195 → j ≠ 33 ∧ j ≠ 34) → J q j = I q j) → M_isLent 195 (nI w) J R n = some (some (.int 0), J, R, n)) (hlow : ∀ k ch, k < N → ch < 4 → ok k ch = true → (-1000000 : Int32) < v k ch) (hst : ∀ k ch (J : ZI), k < N → ch < 4 → (∀ q j, (q = 195 → j ≠ 33 ∧ j ≠ 34) → J q j = I q j) → (ok k ch = false → M_steps 195 (nI w) (nI b) (nI f) (nI u) (nI k) (zwh ch) J R n = some (some (.int 0), J, R, n)) ∧ (ok k ch = true → ∃ J', M_steps 195 (nI w) (nI b) (nI f) (nI u) (nI k) (zwh ch) J R n = some (some (.int 1), J', R, n) ∧ zin 215 (J' 195 34) = true ∧ J' 195 33 + J' 215 (zix (J' 195 34)) = v k ch ∧ ∀ q j, (q = 195 → j ≠ 33 ∧ j ≠ 34) → J' q j = I q j)) : ∀ K, K ≤ N → ∃ m J', M_laysValue 195 (nI w) (nI b) (nI f) (nI u) I R n = M_laysValue_26 195 (nI w) (nI b) (nI f) (nI u) m (nI K) J' R n ∧ zMI N ok v K 0 m ∧ ∀ q j, (q = 195 → j ≠ 33 ∧ j ≠ 34) → J' q j = I q j := by
  intro K
  induction K with
  | zero =>
    intro _
    refine ⟨-1000000, I, ?_, Or.inl ⟨rfl, fun k ch h1 h2 h3 => by unfold zAh at h3; omega⟩, fun _ _ _ => rfl⟩
    rw [e_M_laysValue, nI_0]
    simp only [h.k, zc_t, hlent I (fun _ _ _ => rfl), zbI_s, if_true]
  | succ K ih =>
    intro hK
    obtain ⟨m, J, e, t, f1⟩ := ih (by omega)
    obtain ⟨m', J', e2, t2, f2⟩ := M_lv_inner (I := I) h hlow hst (show K < N by omega) f1 t 4 (Nat.le_refl _)
    have e0 : zwh 0 = -1 := by decide
    rw [e0] at e2
    have j32 : J 195 32 = nI N := by rw [f1 195 32 (by decide)]; exact h32
    have st := e_M_laysValue_26 195 (nI w) (nI b) (nI f) (nI u) m (nI K) J R n
    simp only [h.k, zc_t, j32, if_pos (nI_lt (show K < N by omega) (show N < 2 ^ 31 by omega)), hlent J f1, zbI_s, if_true] at st
    have s4 := e_M_laysValue_46 195 (nI w) (nI b) (nI f) (nI u) m' (nI K) (zwh 4) J' R n
    rw [if_pos zwh_4.2.1, nI_1] at s4
    exact ⟨m', J', e.trans (st.trans (e2.trans s4)), zMI_next t2, f2⟩
end LMw
