/-! ===== the class completes a league and makes its table ===== -/
section LC
variable {I : ZI} {R : ZR} {n L : Nat}
theorem J_fill_ok {a N : Nat} (hk : zis n a 20 = true) (hl : z_ln a = N) (hN : N < 2 ^ 31) (v : Int32) : ∃ I', J_fill a v I R n = some (none, I', R, n) ∧ (∀ k, k < N → I' a k = v) ∧ ∀ b j, b ≠ a → I' b j = I b j := by
  have key : ∀ k, k ≤ N → ∃ J, J_fill_5 a v (nI 0) (nI N) I R n = J_fill_5 a v (nI k) (nI N) J R n ∧ (∀ i, i < k → J a i = v) ∧ ∀ b j, b ≠ a → J b j = I b j := by
    intro k
    induction k with
    | zero => intro _; exact ⟨I, rfl, fun i hi => by omega, fun _ _ _ => rfl⟩
    | succ k ih =>
      intro hk2
      obtain ⟨J, e, a1, a2⟩ := ih (by omega)
      have st := e_J_fill_5 a v (nI k) (nI N) J R n
      simp only [if_pos (nI_lt (show k < N by omega) hN), hk, zin_of hl (show k < N by omega) hN, Bool.true_and, zc_t, zix_nI (show k < 2 ^ 31 by omega), nI_1] at st
      refine ⟨_, e.trans st, ?_, ?_⟩
      · intro i hi
        by_cases q : i = k
        · rw [q, zup_s]
        · rw [zup_k _ q]; exact a1 i (by omega)
      · intro b j hb
        rw [zup_n _ hb]; exact a2 b j hb
  obtain ⟨J, e, a1, a2⟩ := key N (Nat.le_refl _)
  rw [nI_0] at e
  refine ⟨J, ?_, a1, a2⟩
  rw [e_J_fill, hl]
  simp only [hk, Bool.true_or, zc_t]
  show J_fill_5 a v 0 (nI N) I R n = _
  rw [e, e_J_fill_5, if_neg (nI_nlt (Nat.le_refl _) hN)]
theorem Lg_clear_ok (h : WL R n L) : ∃ I', Lg_clear L I R n = some (none, I', R, n) ∧ (I' (L + 2) 0 = 99 ∧ I' (L + 2) 1 = 6 ∧ I' (L + 2) 2 = 3 ∧ I' (L + 2) 3 = 4 ∧ I' (L + 2) 4 = 9 ∧ I' (L + 2) 5 = 1) ∧ I' L 8 = 0 ∧ I' L 9 = 0 ∧ ∀ b j, b ≠ L + 2 → (b = L → j ≠ 8 ∧ j ≠ 9) → I' b j = I b j := by
  rw [e_Lg_clear]
  simp only [h.k, h.r, h.zrules, zixs, zc_t, zr_s, Bool.true_and]
  rw [e_Lg_clear_30]
  simp only [h.k, h.r, h.zrules, zixs, zc_t, zr_s, Bool.true_and]
  refine ⟨_, rfl, ⟨?_, ?_, ?_, ?_, ?_, ?_⟩, ?_, ?_, ?_⟩
  any_goals simp [zup_cases]
  intro b j h1 h2
  by_cases q : b = L
  · have := h2 q
    simp [q, this]
  · simp [q, h1]
/-- bits of the players with a place or club, of the first k -/
def zSetK (J : ZI) (a : Nat) (row : Nat → Int32) (N k : Nat) : Prop := ∀ p, p < N → ∃ T, T < 65536 ∧ J a p = nI T ∧ ∀ i, T.testBit i = (decide (i < k) && decide (row i = nI p))
theorem zSetK_step {J : ZI} {a N k q : Nat} {row : Nat → Int32} (h : zSetK J a row N k) (hk : k < 16) (hq : q < N) (hN : N ≤ 6) (hrow : row k = nI q) : ∃ T, J a q = nI T ∧ T ||| 2 ^ k < 65536 ∧ zSetK (zup J a q (nI (T ||| 2 ^ k))) a row N (k + 1) := by
  obtain ⟨T, hT, e, hb⟩ := h q hq
  have h2 : 2 ^ k < 2 ^ 16 := Nat.pow_lt_pow_right (by omega) hk
  have hlt : T ||| 2 ^ k < 65536 := Nat.or_lt_two_pow (n := 16) hT h2
  refine ⟨T, e, hlt, ?_⟩
  intro p hp
  by_cases z : p = q
  · subst z
    refine ⟨_, hlt, zup_s _ _ _ _, ?_⟩
    intro i
    rw [Nat.testBit_or, hb i, Nat.testBit_two_pow]
    by_cases w : i = k
    · subst w
      have : decide (row i = nI p) = true := decide_eq_true hrow
      simp [this]
    · have e1 : decide (k = i) = false := decide_eq_false (fun z => w z.symm)
      have e2 : decide (i < k + 1) = decide (i < k) := decide_eq_decide.mpr ⟨fun z => by omega, fun z => by omega⟩
      rw [e1, e2, Bool.or_false]
  · obtain ⟨U, hU, f, hc⟩ := h p hp
    refine ⟨U, hU, by rw [zup_k _ z]; exact f, ?_⟩
    intro i
    rw [hc i]
    by_cases w : i = k
    · subst w
      have : decide (row i = nI p) = false := decide_eq_false (fun y => by rw [hrow] at y; exact z ((nI_eq (by omega) (by omega)).mp y).symm)
      rw [this, Bool.and_false, Bool.and_false]
    · have e2 : decide (i < k + 1) = decide (i < k) := decide_eq_decide.mpr ⟨fun z => by omega, fun z => by omega⟩
      rw [e2]
theorem zSetK_congr {J K : ZI} {a N k : Nat} {row : Nat → Int32} (h : zSetK J a row N k) (hK : ∀ j, K a j = J a j) : zSetK K a row N k := fun p hp => by
  obtain ⟨T, hT, e, hb⟩ := h p hp
  exact ⟨T, hT, by rw [hK, e], hb⟩
theorem Lg_complete18_ok (h : WL R n L) {P : Nat} (hP : P ≤ 16) {pl cl : Nat → Nat} (hpl : ∀ i, i < P → I (L + 3) i = nI (pl i) ∧ pl i < 4) (hcl : ∀ i, i < P → I (L + 4) i = nI (cl i) ∧ cl i < 6) (hp : I L 8 = nI P) (h5 : ∀ p, p < 4 → I (L + 5) p = 0) (h6 : ∀ p, p < 6 → I (L + 6) p = 0) : ∃ J, Lg_complete_18 L 0 I R n = Lg_complete_68 L 0 J R n ∧ zSets J (L + 5) (I (L + 3)) 4 P ∧ zSets J (L + 6) (I (L + 4)) 6 P ∧ ∀ b j, b ≠ L + 5 → b ≠ L + 6 → J b j = I b j := by
  have key : ∀ k, k ≤ P → ∃ J, Lg_complete_18 L (nI 0) I R n = Lg_complete_18 L (nI k) J R n ∧ zSetK J (L + 5) (I (L + 3)) 4 k ∧ zSetK J (L + 6) (I (L + 4)) 6 k ∧ ∀ b j, b ≠ L + 5 → b ≠ L + 6 → J b j = I b j := by
    intro k
    induction k with
    | zero =>
      intro _
      refine ⟨I, rfl, ?_, ?_, fun _ _ _ _ => rfl⟩
      · intro p hp; exact ⟨0, by omega, by rw [h5 p hp, nI_0], fun i => by simp⟩
      · intro p hp; exact ⟨0, by omega, by rw [h6 p hp, nI_0], fun i => by simp⟩
    | succ k ih =>
      intro hk
      obtain ⟨J, e, a1, a2, a3⟩ := ih (by omega)
      obtain ⟨p1, p2⟩ := hpl k (by omega)
      obtain ⟨c1, c2⟩ := hcl k (by omega)
      obtain ⟨T, t1, t2, t3⟩ := zSetK_step a1 (show k < 16 by omega) p2 (by omega) p1
      obtain ⟨U, u1, u2, u3⟩ := zSetK_step a2 (show k < 16 by omega) c2 (by omega) c1
      have j8 : J L 8 = nI P := by rw [a3 _ _ (by omega) (by omega), hp]
      have j3 : J (L + 3) k = nI (pl k) := by rw [a3 _ _ (by omega) (by omega), p1]
      have j4 : J (L + 4) k = nI (cl k) := by rw [a3 _ _ (by omega) (by omega), c1]
      have st := e_Lg_complete_18 L (nI k) J R n
      simp only [h.k, h.r, zc_t, zr_s, j8, if_pos (nI_lt (show k < P by omega) (show P < 2 ^ 31 by omega)), zin_of h.ln.2.2.1 (show k < 16 by omega) (by omega), zin_of h.ln.2.2.2.1 (show k < 16 by omega) (by omega), zix_nI (show k < 2 ^ 31 by omega), j3, zin_of h.ln.2.2.2.2.1 p2 (by omega), zix_nI (show pl k < 2 ^ 31 by omega), Bool.true_or, Bool.true_and, t1, zshl1 k (show k < 31 by omega), zorN, zup_n _ (show L + 4 ≠ L + 5 by omega), j4, zin_of h.ln.2.2.2.2.2.1 c2 (by omega), zix_nI (show cl k < 2 ^ 31 by omega), zup_n _ (show L + 6 ≠ L + 5 by omega), u1, nI_1] at st
      refine ⟨_, e.trans st, ?_, ?_, ?_⟩
      · exact zSetK_congr t3 (fun j => zup_n _ (by omega))
      · refine zSetK_congr u3 (fun j => ?_)
        by_cases z : j = cl k
        · rw [z, zup_s, zup_s]
        · rw [zup_k _ z, zup_n _ (by omega), zup_k _ z]
      · intro b j h1 h2
        rw [zup_n _ h2, zup_n _ h1]; exact a3 b j h1 h2
  obtain ⟨J, e, a1, a2, a3⟩ := key P (Nat.le_refl _)
  rw [nI_0] at e
  refine ⟨J, ?_, a1, a2, a3⟩
  rw [e, e_Lg_complete_18]
  simp only [h.k, zc_t, a3 L 8 (by omega) (by omega), hp]
  rw [if_neg (nI_nlt (Nat.le_refl _) (by omega))]
end LC
