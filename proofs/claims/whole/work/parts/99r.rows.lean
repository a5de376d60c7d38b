/-! ===== rows made: nothing behind them changes ===== -/
section LRw
variable {I : ZI} {R : ZR} {n L : Nat}
theorem Tb_makeRows_first2 (h0 : R 4 0 = some 5) : ∃ I' R', Tb_makeRows 4 I R 218 = some (none, I', R', 223) ∧ (R' 4 0 = some 218 ∧ R' 4 1 = some 219 ∧ R' 4 2 = some 220 ∧ R' 4 3 = some 221 ∧ R' 4 4 = some 222) ∧ (∀ b j, b ≠ 4 → R' b j = R b j) ∧ ∀ b j, (b < 218 ∨ 223 ≤ b) → I' b j = I b j := by
  have k4 : ∀ m, 4 < m → zis m 4 7 = true := fun m hm => zis_lit hm (by decide)
  have k5 : zis 218 5 20 = true := zis_lit (by decide) (by decide)
  have g0 : (Int32.ofNat (z_ln 5) : Int32) < 3136 := by decide +kernel
  have g1 : (Nat.beq (z_kd 218) 20 && !(decide ((3136 : Nat) < 0)) && Nat.beq (z_ln 218) (zix 3136)) = true := by decide +kernel
  have g2 : (Nat.beq (z_kd (218 + 1)) 20 && !(decide ((3136 : Nat) < 0)) && Nat.beq (z_ln (218 + 1)) (zix 3136)) = true := by decide +kernel
  have g3 : (Nat.beq (z_kd (218 + 1 + 1)) 20 && !(decide ((3136 : Nat) < 0)) && Nat.beq (z_ln (218 + 1 + 1)) (zix 3136)) = true := by decide +kernel
  have g4 : (Nat.beq (z_kd (218 + 1 + 1 + 1)) 20 && !(decide ((3136 : Nat) < 0)) && Nat.beq (z_ln (218 + 1 + 1 + 1)) (zix 3136)) = true := by decide +kernel
  have g5 : (Nat.beq (z_kd (218 + 1 + 1 + 1 + 1)) 20 && !(decide ((595 : Nat) < 0)) && Nat.beq (z_ln (218 + 1 + 1 + 1 + 1)) (zix 595)) = true := by decide +kernel
  have st := e_Tb_makeRows 4 I R 218
  rw [k4 218 (by decide), zc_t, h0, zr_s, k5] at st
  simp only [Bool.true_or, zc_t] at st
  rw [if_pos g0, g1, zc_t, k4 (218 + 1) (by decide), zc_t, g2, zc_t, k4 (218 + 1 + 1) (by decide), zc_t, e_Tb_makeRows_29, g3, zc_t, k4 (218 + 1 + 1 + 1) (by decide), zc_t, g4, zc_t, k4 (218 + 1 + 1 + 1 + 1) (by decide), zc_t, e_Tb_makeRows_47, g5, zc_t, k4 (218 + 1 + 1 + 1 + 1 + 1) (by decide), zc_t] at st
  refine ⟨_, _, st, ?_, ?_, ?_⟩
  · refine ⟨?_, ?_, ?_, ?_, ?_⟩ <;> simp [zur_cases]
  · intro b j hb; simp [zur_cases, hb]
  · intro b j hb
    have e : ∀ (f : ZI) (m : Nat), 218 ≤ m → m < 223 → zz f m b j = f b j := fun f m hm hm2 => by unfold zz; rw [if_neg (by omega)]
    rw [e _ _ (by decide) (by decide), e _ _ (by decide) (by decide), e _ _ (by decide) (by decide), e _ _ (by decide) (by decide), e _ _ (by decide) (by decide)]
theorem Pl_makeRows_first2 (h0 : R 141 0 = some 142) : ∃ I' R', Pl_makeRows 141 I R 223 = some (none, I', R', 281) ∧ (R' 141 0 = some 223 ∧ R' 141 1 = some 224 ∧ R' 141 2 = some 266 ∧ R' 141 3 = some 273 ∧ R' 141 4 = some 280 ∧ ∀ j, 5 ≤ j → R' 141 j = R 141 j) ∧ (∀ r, r < 41 → R' 224 r = some (225 + r)) ∧ (∀ w, w < 6 → R' 266 w = some (267 + w)) ∧ (∀ w, w < 6 → R' 273 w = some (274 + w)) ∧ (∀ b j, b < 223 → b ≠ 141 → R' b j = R b j) ∧ ∀ b j, (b < 223 ∨ 281 ≤ b) → I' b j = I b j := by
  have k141 : ∀ m, 141 < m → zis m 141 2 = true := fun m hm => zis_lit hm (by decide)
  have k142 : zis 223 142 20 = true := zis_lit (by decide) (by decide)
  have g0 : (Int32.ofNat (z_ln 142) : Int32) < 41 := by decide +kernel
  have x41 : zix 41 = 41 := by decide
  have x6 : zix 6 = 6 := by decide
  have g1 : (Nat.beq (z_kd 223) 20 && !(decide ((41 : Nat) < 0)) && Nat.beq (z_ln 223) 41) = true := by decide +kernel
  have g2 : zmka (223 + 1) 41 40 = true := by decide +kernel
  have g3 : zmka (223 + 1 + 1 + 41) 6 40 = true := by decide +kernel
  have g4 : zmka (223 + 1 + 1 + 41 + 1 + 6) 6 40 = true := by decide +kernel
  have g5 : (Nat.beq (z_kd (223 + 1 + 1 + 41 + 1 + 6 + 1 + 6)) 20 && !(decide ((4592 : Nat) < 0)) && Nat.beq (z_ln (223 + 1 + 1 + 41 + 1 + 6 + 1 + 6)) (zix 4592)) = true := by decide +kernel
  have st := e_Pl_makeRows 141 I R 223
  rw [k141 223 (by decide), zc_t, h0, zr_s, k142] at st
  simp only [Bool.true_or, zc_t, x41] at st
  rw [if_pos g0, g1, zc_t, k141 (223 + 1) (by decide), zc_t, g2, zc_t, k141 (223 + 1 + 1 + 41) (by decide), zc_t, e_Pl_makeRows_30] at st
  simp only [x6] at st
  rw [g3, zc_t, k141 (223 + 1 + 1 + 41 + 1 + 6) (by decide), zc_t, g4, zc_t, k141 (223 + 1 + 1 + 41 + 1 + 6 + 1 + 6) (by decide), zc_t, e_Pl_makeRows_54, g5, zc_t, k141 (223 + 1 + 1 + 41 + 1 + 6 + 1 + 6 + 1) (by decide), zc_t] at st
  refine ⟨_, _, st, ⟨?_, ?_, ?_, ?_, ?_, fun j hj => ?_⟩, fun r hr => ?_, fun w hw => ?_, fun w hw => ?_, fun b j h1 h2 => ?_, fun b j hb => ?_⟩
  · simp [zur_cases, zrm]
  · simp [zur_cases, zrm]
  · simp [zur_cases, zrm]
  · simp [zur_cases, zrm]
  · simp [zur_cases, zrm]
  · have q0 : j ≠ 0 := by omega
    have q1 : j ≠ 1 := by omega
    have q2 : j ≠ 2 := by omega
    have q3 : j ≠ 3 := by omega
    have q4 : j ≠ 4 := by omega
    simp [zur_cases, zrm, q0, q1, q2, q3, q4]
  · simp [zur_cases, zrm, hr]
  · simp [zur_cases, zrm, hw]
  · simp [zur_cases, zrm, hw]
  · have q1 : b ≠ 224 := by omega
    have q2 : b ≠ 266 := by omega
    have q3 : b ≠ 273 := by omega
    simp [zur_cases, zrm, h2, q1, q2, q3]
  · have e : ∀ (f : ZI) (m : Nat), 223 ≤ m → m < 281 → zz f m b j = f b j := fun f m hm hm2 => by unfold zz; rw [if_neg (by omega)]
    have e2 : ∀ (f : ZI) (m c : Nat), 223 ≤ m → m + c < 281 → zzm f m c b j = f b j := fun f m c hm hm2 => by unfold zzm; rw [if_neg (by omega)]
    rw [e _ _ (by decide) (by decide), e2 _ _ _ (by decide) (by decide), e2 _ _ _ (by decide) (by decide), e2 _ _ _ (by decide) (by decide), e _ _ (by decide) (by decide)]
end LRw
