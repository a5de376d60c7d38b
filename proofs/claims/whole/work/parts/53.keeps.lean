/-! ===== the reference copies its rows ===== -/
theorem zcopy {β : Type} (G : Nat → ZI → β) (I : ZI) (s d : Nat) (src dst : Nat → Nat) (N : Nat) (hinj : ∀ i k, k < i → i < N → dst k ≠ dst i) (hdis : s = d → ∀ i k, k < i → i < N → dst k ≠ src i) (h : ∀ i J, i < N → (∀ b j, b ≠ d → J b j = I b j) → G i J = G (i + 1) (zup J d (dst i) (J s (src i)))) : ∀ k, k ≤ N → ∃ J, G 0 I = G k J ∧ (∀ i, i < k → J d (dst i) = I s (src i)) ∧ ∀ b j, (b = d → ∀ i, i < k → j ≠ dst i) → J b j = I b j := by
  intro k
  induction k with
  | zero => intro _; exact ⟨I, rfl, fun i hi => by omega, fun _ _ _ => rfl⟩
  | succ k ih =>
    intro hk
    obtain ⟨J, e, a1, a2⟩ := ih (by omega)
    have fr : ∀ b j, b ≠ d → J b j = I b j := fun b j hb => a2 b j (fun q => absurd q hb)
    have rd : J s (src k) = I s (src k) := a2 _ _ (fun q i hi => Ne.symm (hdis q k i hi (by omega)))
    refine ⟨_, e.trans (h k J (by omega) fr), ?_, ?_⟩
    · intro i hi
      by_cases q : i = k
      · rw [q, zup_s, rd]
      · rw [zup_k _ (hinj k i (by omega) (by omega))]; exact a1 i (by omega)
    · intro b j hb
      by_cases q : b = d
      · rw [zup_k _ (hb q k (by omega))]
        exact a2 b j (fun z i hi => hb z i (by omega))
      · rw [zup_n _ q]; exact fr b j q
section LK
variable {I : ZI} {R : ZR} {n : Nat}
theorem zin79 {k : Nat} (h : k < 79) : zin 208 (nI k) = true ∧ zin 209 (nI k) = true := ⟨zin_nI (by show _ < 79; omega) (by omega), zin_nI (by show _ < 79; omega) (by omega)⟩
theorem zin210 {k : Nat} (h : k < 948) : zin 210 (nI k) = true := zin_nI (by show _ < 948; omega) (by omega)
theorem z79 {a i : Nat} : (79 : Int32) * nI a + nI i = nI (79 * a + i) := by
  have : (79 : Int32) = nI 79 := by decide
  rw [this, pk_mul, nI_add]
theorem zlt79 {i : Nat} (h : i < 79) : nI i < (79 : Int32) := by
  have : (79 : Int32) = nI 79 := by decide
  rw [this]; exact nI_lt h (by omega)
theorem M_image16_ok (h : WM R n) : ∃ J, M_image_16 195 0 I R n = some (some (.int (I 208 9)), zup J 195 25 1, R, n) ∧ (∀ i, i < 79 → J 209 i = I 208 i) ∧ ∀ b j, b ≠ 209 → J b j = I b j := by
  obtain ⟨J, e, a1, a2⟩ := zcopy (fun i J => M_image_16 195 (nI i) J R n) I 208 209 (fun i => i) (fun i => i) 79 (fun i k h1 _ => by omega) (fun q => absurd q (by decide)) (fun i J hi hJ => by
    show M_image_16 195 (nI i) J R n = _
    rw [e_M_image_16]
    simp only [if_pos (zlt79 hi), h.k, h.2, zc_t, zr_s, zin79 hi, zix_nI (show i < 2 ^ 31 by omega), Bool.true_or, Bool.true_and, nI_1]) 79 (Nat.le_refl _)
  have fr : ∀ b j, b ≠ 209 → J b j = I b j := fun b j hb => a2 b j (fun q => absurd q hb)
  refine ⟨J, ?_, a1, fr⟩
  have e' : M_image_16 195 0 I R n = M_image_16 195 (nI 79) J R n := e
  rw [e', e_M_image_16, if_neg (by decide)]
  simp only [h.k, h.2, zc_t, zr_s, zin208, zixs, Bool.true_or, Bool.true_and, zup_n _ (show (208 : Nat) ≠ 195 by decide), fr 208 9 (by decide)]
theorem M_back16_ok (h : WM R n) : ∃ J, M_back_16 195 0 I R n = some (some (.int (I 209 9)), zup J 195 24 0, R, n) ∧ (∀ i, i < 79 → J 208 i = I 209 i) ∧ ∀ b j, b ≠ 208 → J b j = I b j := by
  obtain ⟨J, e, a1, a2⟩ := zcopy (fun i J => M_back_16 195 (nI i) J R n) I 209 208 (fun i => i) (fun i => i) 79 (fun i k h1 _ => by omega) (fun q => absurd q (by decide)) (fun i J hi hJ => by
    show M_back_16 195 (nI i) J R n = _
    rw [e_M_back_16]
    simp only [if_pos (zlt79 hi), h.k, h.2, zc_t, zr_s, zin79 hi, zix_nI (show i < 2 ^ 31 by omega), Bool.true_or, Bool.true_and, nI_1]) 79 (Nat.le_refl _)
  have fr : ∀ b j, b ≠ 208 → J b j = I b j := fun b j hb => a2 b j (fun q => absurd q hb)
  refine ⟨J, ?_, a1, fr⟩
  have e' : M_back_16 195 0 I R n = M_back_16 195 (nI 79) J R n := e
  rw [e', e_M_back_16, if_neg (by decide)]
  simp only [h.k, h.2, zc_t, zr_s, zin208, zixs, Bool.true_or, Bool.true_and, zup_n _ (show (208 : Nat) ≠ 195 by decide), a1 9 (by omega)]
theorem M_undo26_ok (h : WM R n) {a : Nat} (ha : a < 12) (h24 : I 195 24 = nI a) : ∃ J, M_undo_26 195 0 I R n = some (some (.int (nI a)), J, R, n) ∧ (∀ i, i < 79 → J 208 i = I 210 (79 * a + i)) ∧ ∀ b j, b ≠ 208 → J b j = I b j := by
  obtain ⟨J, e, a1, a2⟩ := zcopy (fun i J => M_undo_26 195 (nI i) J R n) I 210 208 (fun i => 79 * a + i) (fun i => i) 79 (fun i k h1 _ => by omega) (fun q => absurd q (by decide)) (fun i J hi hJ => by
    have j24 : J 195 24 = nI a := by rw [hJ _ _ (by decide), h24]
    show M_undo_26 195 (nI i) J R n = _
    rw [e_M_undo_26]
    simp only [if_pos (zlt79 hi), h.k, h.2, zc_t, zr_s, j24, z79, zin79 hi, zin210 (show 79 * a + i < 948 by omega), zix_nI (show i < 2 ^ 31 by omega), zix_nI (show 79 * a + i < 2 ^ 31 by omega), Bool.true_or, Bool.true_and, nI_1]) 79 (Nat.le_refl _)
  have fr : ∀ b j, b ≠ 208 → J b j = I b j := fun b j hb => a2 b j (fun q => absurd q hb)
  refine ⟨J, ?_, a1, fr⟩
  have e' : M_undo_26 195 0 I R n = M_undo_26 195 (nI 79) J R n := e
  rw [e', e_M_undo_26, if_neg (by decide)]
  simp only [h.k, zc_t, fr 195 24 (by decide), h24]
theorem M_keeps52_ok (h : WM R n) {a : Nat} (ha : a < 12) (h24 : I 195 24 = nI a) : ∃ J, M_keeps_52 195 0 I R n = some (none, zup J 195 24 (nI (a + 1)), R, n) ∧ (∀ i, i < 79 → J 210 (79 * a + i) = I 208 i) ∧ ∀ b j, (b = 210 → (j < 79 * a ∨ 79 * a + 79 ≤ j)) → J b j = I b j := by
  obtain ⟨J, e, a1, a2⟩ := zcopy (fun i J => M_keeps_52 195 (nI i) J R n) I 208 210 (fun i => i) (fun i => 79 * a + i) 79 (fun i k h1 _ => by omega) (fun q => absurd q (by decide)) (fun i J hi hJ => by
    have j24 : J 195 24 = nI a := by rw [hJ _ _ (by decide), h24]
    show M_keeps_52 195 (nI i) J R n = _
    rw [e_M_keeps_52]
    simp only [if_pos (zlt79 hi), h.k, h.2, zc_t, zr_s, j24, z79, zin79 hi, zin210 (show 79 * a + i < 948 by omega), zix_nI (show i < 2 ^ 31 by omega), zix_nI (show 79 * a + i < 2 ^ 31 by omega), Bool.true_or, Bool.true_and, nI_1]) 79 (Nat.le_refl _)
  refine ⟨J, ?_, a1, ?_⟩
  · have e' : M_keeps_52 195 0 I R n = M_keeps_52 195 (nI 79) J R n := e
    have j24 : J 195 24 = nI a := by rw [a2 _ _ (fun q => absurd q (by decide)), h24]
    rw [e', e_M_keeps_52, if_neg (by decide)]
    simp only [h.k, zc_t, j24, nI_1]
  · intro b j hb
    exact a2 b j (fun q i hi => by have := hb q; omega)
theorem M_keeps_small (h : WM R n) {a : Nat} (ha : a < 12) (h24 : I 195 24 = nI a) : ∃ I', M_keeps 195 I R n = some (none, I', R, n) ∧ I' 195 24 = nI (a + 1) ∧ (∀ i, i < 79 → I' 210 (79 * a + i) = I 208 i) ∧ (∀ j, j < 79 * a → I' 210 j = I 210 j) ∧ ∀ b j, b ≠ 210 → (b = 195 → j ≠ 24) → I' b j = I b j := by
  obtain ⟨J, e, a1, a2⟩ := M_keeps52_ok (I := I) h ha h24
  have e12 : (12 : Int32) = nI 12 := by decide
  have hn : ¬ nI a = 12 := by rw [e12, nI_eq (by omega) (by omega)]; omega
  rw [e_M_keeps]
  simp only [h.k, zc_t, h24, if_neg hn]
  refine ⟨_, e, zup_s _ _ _ _, ?_, ?_, ?_⟩
  · intro i hi; rw [zup_n _ (by decide)]; exact a1 i hi
  · intro j hj; rw [zup_n _ (by decide)]; exact a2 _ _ (fun _ => Or.inl hj)
  · intro b j h1 h2
    by_cases q : b = 195
    · rw [zup_k _ (h2 q)]; exact a2 _ _ (fun z => absurd z h1)
    · rw [zup_n _ q]; exact a2 _ _ (fun z => absurd z h1)
theorem M_keeps_full (h : WM R n) (h24 : I 195 24 = 12) : ∃ I', M_keeps 195 I R n = some (none, I', R, n) ∧ I' 195 24 = nI 12 ∧ (∀ i, i < 79 → I' 210 (79 * 11 + i) = I 208 i) ∧ (∀ j, j < 79 * 11 → I' 210 j = I 210 (79 + j)) ∧ ∀ b j, b ≠ 210 → (b = 195 → j ≠ 24) → I' b j = I b j := by
  have e948 : (948 : Int32) = nI 948 := by decide
  have e79 : (79 : Int32) = nI 79 := by decide
  obtain ⟨K, e, a1, a2⟩ := zcopy (fun i J => M_keeps_12 195 (nI (79 + i)) J R n) I 210 210 (fun i => 79 + i) (fun i => i) 869 (fun i k h1 _ => by omega) (fun _ i k h1 _ => by omega) (fun i J hi hJ => by
    have es : nI (79 + i) - 79 = nI i := by rw [e79, pk_sub (by omega)]; congr 1; omega
    show M_keeps_12 195 (nI (79 + i)) J R n = _
    rw [e_M_keeps_12, e948, if_pos (nI_lt (show 79 + i < 948 by omega) (by omega))]
    simp only [h.k, h.2, zc_t, zr_s, es, zin210 (show 79 + i < 948 by omega), zin210 (show i < 948 by omega), zix_nI (show i < 2 ^ 31 by omega), zix_nI (show 79 + i < 2 ^ 31 by omega), Bool.true_or, Bool.true_and, nI_1]
    rfl) 869 (Nat.le_refl _)
  have fr : ∀ b j, b ≠ 210 → K b j = I b j := fun b j hb => a2 b j (fun q => absurd q hb)
  have e' : M_keeps_12 195 79 I R n = M_keeps_12 195 (nI 948) K R n := e
  have k24 : K 195 24 = 12 := by rw [fr _ _ (by decide), h24]
  have s11 : (12 : Int32) - 1 = nI 11 := by decide
  obtain ⟨J, f, b1, b2⟩ := M_keeps52_ok (I := zup K 195 24 (nI 11)) h (show 11 < 12 by decide) (zup_s _ _ _ _)
  rw [e_M_keeps]
  simp only [h.k, zc_t, h24, if_true]
  rw [e', e_M_keeps_12, if_neg (by decide)]
  simp only [h.k, zc_t, k24, s11]
  refine ⟨_, f, zup_s _ _ _ _, ?_, ?_, ?_⟩
  · intro i hi
    rw [zup_n _ (by decide), b1 i hi, zup_n _ (by decide)]; exact fr _ _ (by decide)
  · intro j hj
    rw [zup_n _ (by decide), b2 _ _ (fun _ => Or.inl hj), zup_n _ (by decide)]
    exact a1 j (by omega)
  · intro b j h1 h2
    by_cases q : b = 195
    · rw [zup_k _ (h2 q), b2 _ _ (fun z => absurd z h1), zup_k _ (h2 q)]; exact fr _ _ h1
    · rw [zup_n _ q, b2 _ _ (fun z => absurd z h1), zup_n _ q]; exact fr _ _ h1
theorem M_begin131_ok (h : WM R n) {P : Nat} (hP : P ≤ 16) (hp : I 195 17 = nI P) : ∃ J, M_begin_131 195 0 I R n = some (some (.int (I 208 2)), J, R, n) ∧ (∀ i, i < P → J 208 (27 + i) = I 208 (11 + i)) ∧ ∀ b j, (b = 208 → (j < 27 ∨ 27 + P ≤ j)) → J b j = I b j := by
  obtain ⟨J, e, a1, a2⟩ := zcopy (fun i J => M_begin_131 195 (nI i) J R n) I 208 208 (fun i => 11 + i) (fun i => 27 + i) P (fun i k h1 _ => by omega) (fun _ i k h1 h2 => by omega) (fun i J hi hJ => by
    have e1 : (27 : Int32) + nI i = nI (27 + i) := nI_add 27 i
    have e2 : zin 208 (nI (27 + i)) = true := (zin79 (by omega)).1
    have j17 : J 195 17 = nI P := by rw [hJ _ _ (by decide), hp]
    show M_begin_131 195 (nI i) J R n = _
    rw [e_M_begin_131]
    simp only [h.k, h.2, zc_t, zr_s, j17, if_pos (nI_lt hi (show P < 2 ^ 31 by omega)), M_priceOf_ok h (show i < 16 by omega), zbI_s, e1, e2, zix_nI (show 27 + i < 2 ^ 31 by omega), Bool.true_and, nI_1]) P (Nat.le_refl _)
  have fr : ∀ b j, (b = 208 → (j < 27 ∨ 27 + P ≤ j)) → J b j = I b j := fun b j hb => a2 b j (fun q i hi => by have := hb q; omega)
  refine ⟨J, ?_, a1, fr⟩
  have e' : M_begin_131 195 0 I R n = M_begin_131 195 (nI P) J R n := e
  rw [e', e_M_begin_131]
  simp only [h.k, h.2, zc_t, zr_s, fr 195 17 (fun q => absurd q (by decide)), hp]
  rw [if_neg (nI_nlt (Nat.le_refl _) (by omega))]
  simp only [zin208, zixs, Bool.true_or, Bool.true_and, zc_t, fr 208 2 (fun _ => Or.inl (by decide))]
theorem M_lowest_ok {S b : Nat} (hS : S < 2 ^ 31) {P : Nat} (hP : P ≤ 16) (hb : zfirst (fun i => S.testBit i) 0 P = some b) : M_lowest (nI S) I R n = some (some (.int (nI b)), I, R, n) := by
  rw [e_M_lowest]
  have hl := zwho_loop (fun i => M_lowest_2 (nI S) (nI i) I R n) (fun i => S.testBit i) (fun i => some (some (.int (nI i)), I, R, n)) P (fun i hi => by
    show M_lowest_2 (nI S) (nI i) I R n = _
    rw [e_M_lowest_2, M_has_ok hS (show i < 32 by omega), zbI_s, nI_1]
    cases S.testBit i <;> rfl)
  rw [nI_0] at hl
  rw [hl, hb]
theorem M_week294_ok (h : WM R n) {P w : Nat} (x : Int32) (hP : P ≤ 16) (hp : I 195 17 = nI P) (hw : w < 6) : ∃ J, M_week_294 195 (nI w) x 0 I R n = some (some (.int x), J, R, n) ∧ (∀ i, i < P → J 208 (11 + i) = zmoved (I 208 (11 + i)) (I 206 (6 * i + w)) (I 198 8) (I 198 9)) ∧ ∀ b j, (b = 208 → (j < 11 ∨ 11 + P ≤ j)) → J b j = I b j := by
  have key : ∀ k, k ≤ P → ∃ J, M_week_294 195 (nI w) x (nI 0) I R n = M_week_294 195 (nI w) x (nI k) J R n ∧ (∀ i, i < k → J 208 (11 + i) = zmoved (I 208 (11 + i)) (I 206 (6 * i + w)) (I 198 8) (I 198 9)) ∧ ∀ b j, (b = 208 → (j < 11 ∨ 11 + k ≤ j)) → J b j = I b j := by
    intro k
    induction k with
    | zero => intro _; exact ⟨I, rfl, fun i hi => by omega, fun _ _ _ => rfl⟩
    | succ k ih =>
      intro hk
      obtain ⟨J, e, a1, a2⟩ := ih (by omega)
      have e1 : (11 : Int32) + nI k = nI (11 + k) := nI_add 11 k
      have e2 : zin 208 (nI (11 + k)) = true := (zin79 (by omega)).1
      have j17 : J 195 17 = nI P := by rw [a2 _ _ (fun q => absurd q (by decide)), hp]
      have j8 : J 208 (11 + k) = I 208 (11 + k) := a2 _ _ (fun _ => Or.inr (Nat.le_refl _))
      have j6 : J 206 (6 * k + w) = I 206 (6 * k + w) := a2 _ _ (fun q => absurd q (by decide))
      have r8 : J 198 8 = I 198 8 := a2 _ _ (fun q => absurd q (by decide))
      have r9 : J 198 9 = I 198 9 := a2 _ _ (fun q => absurd q (by decide))
      have st := e_M_week_294 195 (nI w) x (nI k) J R n
      simp only [h.k, h.2, zc_t, zr_s, j17, if_pos (nI_lt (show k < P by omega) (show P < 2 ^ 31 by omega)), M_priceOf_ok h (show k < 16 by omega), M_moved_ok h _ (show k < 16 by omega) hw, zbI_s, e1, e2, zix_nI (show 11 + k < 2 ^ 31 by omega), Bool.true_and, nI_1, j8, j6, r8, r9] at st
      refine ⟨_, e.trans st, ?_, ?_⟩
      · intro i hi
        by_cases q : i = k
        · rw [q, zup_s]
        · rw [zup_k _ (by omega)]; exact a1 i (by omega)
      · intro b j hb
        by_cases q : b = 208
        · have := hb q
          rw [zup_k _ (by omega)]; exact a2 b j (fun _ => by omega)
        · rw [zup_n _ q]; exact a2 b j (fun z => absurd z q)
  obtain ⟨J, e, a1, a2⟩ := key P (Nat.le_refl _)
  rw [nI_0] at e
  refine ⟨J, ?_, a1, a2⟩
  rw [e, e_M_week_294]
  simp only [h.k, zc_t, a2 195 17 (fun q => absurd q (by decide)), hp]
  rw [if_neg (nI_nlt (Nat.le_refl _) (by omega))]
end LK
