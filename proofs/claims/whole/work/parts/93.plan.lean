/-! ===== the choices by their number; the planner's rows made ===== -/
noncomputable def zChs (m : Nat) (cond : Nat → Bool) (t : Nat → Nat) (k : Nat) : Nat := if k < zct cond m then t (Classical.epsilon (fun i => i < m ∧ cond i = true ∧ zct cond i = k)) else 0
theorem zChs_at {m : Nat} {cond : Nat → Bool} {t : Nat → Nat} {i : Nat} (hi : i < m) (hc : cond i = true) : zChs m cond t (zct cond i) = t i := by
  unfold zChs
  rw [if_pos (zct_lt cond hi hc)]
  have sp := Classical.epsilon_spec (p := fun j => j < m ∧ cond j = true ∧ zct cond j = zct cond i) ⟨i, hi, hc, rfl⟩
  generalize Classical.epsilon (fun j => j < m ∧ cond j = true ∧ zct cond j = zct cond i) = j at sp ⊢
  obtain ⟨h1, h2, h3⟩ := sp
  rcases Nat.lt_trichotomy i j with q | q | q
  · have := zct_lt cond q hc; omega
  · rw [q]
  · have := zct_lt cond q h2; omega
theorem zChs_ex {m : Nat} {cond : Nat → Bool} (t : Nat → Nat) {k : Nat} (hk : k < zct cond m) : ∃ i, i < m ∧ cond i = true ∧ zct cond i = k ∧ zChs m cond t k = t i := by
  obtain ⟨i, h1, h2, h3⟩ := zct_kth cond hk
  exact ⟨i, h1, h2, h3, by rw [← h3]; exact zChs_at h1 h2⟩
theorem zChs_congr {m : Nat} {cond cond' : Nat → Bool} {t t' : Nat → Nat} (h : ∀ i, i < m → cond i = cond' i) (ht : ∀ i, i < m → t i = t' i) : zChs m cond t = zChs m cond' t' := by
  have hz : ∀ i, i ≤ m → zct cond i = zct cond' i := fun i hi => zct_ext (fun j hj => h j (by omega))
  funext k
  by_cases q : k < zct cond m
  · obtain ⟨i, h1, h2, h3, h4⟩ := zChs_ex t q
    rw [h4, ht i h1]
    have := zChs_at (cond := cond') (t := t') h1 (by rw [← h i h1]; exact h2)
    rw [← hz i (by omega), h3] at this
    exact this.symm
  · unfold zChs
    rw [if_neg q, if_neg (by rw [← hz m (Nat.le_refl _)]; exact q)]
section LPa
variable {I : ZI} {R : ZR} {n L : Nat}
theorem Pl_makeRows_first (h0 : R 141 0 = some 142) : ∃ I' R', Pl_makeRows 141 I R 223 = some (none, I', R', 281) ∧ (R' 141 0 = some 223 ∧ R' 141 1 = some 224 ∧ R' 141 2 = some 266 ∧ R' 141 3 = some 273 ∧ R' 141 4 = some 280 ∧ ∀ j, 5 ≤ j → R' 141 j = R 141 j) ∧ (∀ r, r < 41 → R' 224 r = some (225 + r)) ∧ (∀ w, w < 6 → R' 266 w = some (267 + w)) ∧ (∀ w, w < 6 → R' 273 w = some (274 + w)) ∧ (∀ b j, b < 223 → b ≠ 141 → R' b j = R b j) ∧ ∀ b j, b < 223 → I' b j = I b j := by
  have k141 : ∀ m, 141 < m → zis m 141 2 = true := fun m hm => zis_lit hm (by decide)
  have k142 : zis 223 142 20 = true := zis_lit (by decide) (by decide)
  have g0 : (Int32.ofNat (z_ln 142) : Int32) < 41 := by decide +kernel
  have x41 : zix 41 = 41 := by decide
  have x6 : zix 6 = 6 := by decide
  have g1 : (Nat.beq (z_kd 223) 20 && !(decide ((41 : Nat) < 0)) && Nat.beq (z_ln 223) 41) = true := by decide +kernel
  have g2 : zmka (223 + 1) 41 40 = true := by decide +kernel
  have g3 : zmka (223 + 1 + 1 + 41) 6 40 = true := by decide +kernel
  have g4 : zmka (223 + 1 + 1 + 41 + 1 + 6) 6 40 = true := by decide +kernel
  have g5 : (Nat.beq (z_kd (223 + 1 + 1 + 41 + 1 + 6 + 1 + 6)) 20 && !(decide ((4592 : Nat) < 0)) && Nat.beq (z_ln (223 + 1 + 1 + 41 + 1 + 6 + 1 + 6)) (zix 4592)) = true := by decide +kernel
  have st := e_Pl_makeRows 141 I R 223
  rw [k141 223 (by decide), zc_t, h0, zr_s, k142] at st
  simp only [Bool.true_or, zc_t, x41] at st
  rw [if_pos g0, g1, zc_t, k141 (223 + 1) (by decide), zc_t, g2, zc_t, k141 (223 + 1 + 1 + 41) (by decide), zc_t, e_Pl_makeRows_30] at st
  simp only [x6] at st
  rw [g3, zc_t, k141 (223 + 1 + 1 + 41 + 1 + 6) (by decide), zc_t, g4, zc_t, k141 (223 + 1 + 1 + 41 + 1 + 6 + 1 + 6) (by decide), zc_t, e_Pl_makeRows_54, g5, zc_t, k141 (223 + 1 + 1 + 41 + 1 + 6 + 1 + 6 + 1) (by decide), zc_t] at st
  refine ⟨_, _, st, ⟨?_, ?_, ?_, ?_, ?_, fun j hj => ?_⟩, fun r hr => ?_, fun w hw => ?_, fun w hw => ?_, fun b j h1 h2 => ?_, fun b j hb => ?_⟩
  · simp [zur_cases, zrm]
  · simp [zur_cases, zrm]
  · simp [zur_cases, zrm]
  · simp [zur_cases, zrm]
  · simp [zur_cases, zrm]
  · have q0 : j ≠ 0 := by omega
    have q1 : j ≠ 1 := by omega
    have q2 : j ≠ 2 := by omega
    have q3 : j ≠ 3 := by omega
    have q4 : j ≠ 4 := by omega
    simp [zur_cases, zrm, q0, q1, q2, q3, q4]
  · simp [zur_cases, zrm, hr]
  · simp [zur_cases, zrm, hw]
  · simp [zur_cases, zrm, hw]
  · have q1 : b ≠ 224 := by omega
    have q2 : b ≠ 266 := by omega
    have q3 : b ≠ 273 := by omega
    simp [zur_cases, zrm, h2, q1, q2, q3]
  · have e : ∀ (f : ZI) (m : Nat), 223 ≤ m → zz f m b j = f b j := fun f m hm => by unfold zz; rw [if_neg (by omega)]
    have e2 : ∀ (f : ZI) (m c : Nat), 223 ≤ m → zzm f m c b j = f b j := fun f m c hm => by unfold zzm; rw [if_neg (by omega)]
    rw [e _ _ (by decide), e2 _ _ _ (by decide), e2 _ _ _ (by decide), e2 _ _ _ (by decide), e _ _ (by decide)]
end LPa
