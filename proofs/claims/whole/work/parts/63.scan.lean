/-! ===== the reference's scanner: where it looks ===== -/
/-- what lies at a place; -1 behind the end -/
def zher (T : Nat × (Nat → Nat)) (a : Nat) : Int32 := if a < T.1 then nI (T.2 a) else -1
/-- the first place from a on that is no space, k steps at most -/
def zskp (T : Nat × (Nat → Nat)) : Nat → Nat → Nat
  | 0, a => a
  | k + 1, a => if a < T.1 ∧ T.2 a = 32 then zskp T k (a + 1) else a
def zsk (T : Nat × (Nat → Nat)) (a : Nat) : Nat := zskp T (T.1 - a) a
theorem zbyt8 : ∀ b, b < 256 → (nI b).toInt8.toInt32 &&& 255 = nI b := by decide +kernel
theorem zskp_stop (T : Nat × (Nat → Nat)) : ∀ k a, T.1 - a ≤ k → ¬ (zskp T k a < T.1 ∧ T.2 (zskp T k a) = 32)
  | 0, a, h => by
    show ¬ (a < T.1 ∧ _)
    omega
  | k + 1, a, h => by
    unfold zskp
    by_cases q : a < T.1 ∧ T.2 a = 32
    · rw [if_pos q]; exact zskp_stop T k (a + 1) (by omega)
    · rw [if_neg q]; exact q
theorem zskp_le (T : Nat × (Nat → Nat)) : ∀ k a, a ≤ T.1 → zskp T k a ≤ T.1 ∧ a ≤ zskp T k a
  | 0, a, h => ⟨h, Nat.le_refl _⟩
  | k + 1, a, h => by
    unfold zskp
    by_cases q : a < T.1 ∧ T.2 a = 32
    · rw [if_pos q]
      have := zskp_le T k (a + 1) (by omega)
      omega
    · rw [if_neg q]; exact ⟨h, Nat.le_refl _⟩
section LSc
variable {I : ZI} {R : ZR} {n : Nat}
theorem M_here_ok (h : WM R n) {T : Nat × (Nat → Nat)} (hT : tpM I T) (hz : zTp T) {a : Nat} (ha : a < 2 ^ 31) (h3 : I 195 3 = nI a) : M_here 195 I R n = some (some (.int (zher T a)), I, R, n) := by
  have hl := hz.1
  rw [e_M_here]
  simp only [h.k, h.2, zc_t, zr_s, h3, hT.1]
  unfold zher
  by_cases q : a < T.1
  · have i6 : zin 196 (nI a) = true := zin_nI (by show _ < 400; omega) (by omega)
    rw [if_pos q, if_pos (nI_lt q (by omega))]
    simp only [i6, Bool.true_and, zc_t, zix_nI ha, hT.2 a q, zbyt8 _ (hz.2 a q).2]
  · rw [if_neg q, if_neg (nI_nlt (by omega) ha)]
theorem M_look_ok (h : WM R n) {T : Nat × (Nat → Nat)} (hz : zTp T) : ∀ k a (I : ZI), T.1 - a ≤ k → a ≤ T.1 → tpM I T → I 195 3 = nI a → ∃ I', M_look 195 I R n = some (some (.int (zher T (zskp T k a))), I', R, n) ∧ I' 195 3 = nI (zskp T k a) ∧ ∀ b j, (b = 195 → j ≠ 3) → I' b j = I b j := by
  have hl := hz.1
  have stop : ∀ a (I : ZI), a ≤ T.1 → tpM I T → I 195 3 = nI a → ¬ (a < T.1 ∧ T.2 a = 32) → M_look 195 I R n = some (some (.int (zher T a)), I, R, n) := by
    intro a I ha hT h3 hn
    rw [e_M_look]
    simp only [h.k, zc_t, M_here_ok h hT hz (show a < 2 ^ 31 by omega) h3, zbI_s]
    rw [if_neg]
    unfold zher
    by_cases q : a < T.1
    · rw [if_pos q]
      have := (hz.2 a q).2
      have e : (32 : Int32) = nI 32 := by decide
      rw [e, nI_eq (by omega) (by omega)]
      exact fun z => hn ⟨q, z⟩
    · rw [if_neg q]; decide
  intro k
  induction k with
  | zero =>
    intro a I hk ha hT h3
    exact ⟨I, stop a I ha hT h3 (by omega), h3, fun _ _ _ => rfl⟩
  | succ k ih =>
    intro a I hk ha hT h3
    unfold zskp
    by_cases q : a < T.1 ∧ T.2 a = 32
    · rw [if_pos q]
      have hT' : tpM (zup I 195 3 (nI (a + 1))) T := ⟨by rw [zup_k _ (by decide)]; exact hT.1, fun i hi => by rw [zup_n _ (by decide)]; exact hT.2 i hi⟩
      obtain ⟨I', e, a1, a2⟩ := ih (a + 1) (zup I 195 3 (nI (a + 1))) (by omega) (by omega) hT' (zup_s _ _ _ _)
      refine ⟨I', ?_, a1, ?_⟩
      · rw [e_M_look]
        have e32 : zher T a = 32 := by unfold zher; rw [if_pos q.1, q.2]; decide
        simp only [h.k, zc_t, M_here_ok h hT hz (show a < 2 ^ 31 by omega) h3, zbI_s, e32, if_true, h3, nI_1]
        exact e
      · intro b j hb
        rw [a2 b j hb]
        by_cases z : b = 195
        · rw [zup_k _ (hb z)]
        · rw [zup_n _ z]
    · rw [if_neg q]
      exact ⟨I, stop a I ha hT h3 q, h3, fun _ _ _ => rfl⟩
end LSc
