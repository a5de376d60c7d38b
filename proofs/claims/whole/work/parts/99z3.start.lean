/-! ===== the start ===== -/
section LSo
variable {I : ZI} {R : ZR} {L : Nat}
theorem zc_of {b : Bool} (h : b = true) (x : ZO) : zc b x = x := by rw [h, zc_t]
theorem Se_init_ok {s : Nat} (hs : isS s) : Se_init s I R (s + 1) = some (none, zzm (zz I (s + 1)) (s + 2) 6, zur (zrm (zur R s 0 (some (s + 1))) (s + 2) 6) s 1 (some (s + 2)), s + 9) := by
  have z6 : zix 6 = 6 := by decide
  have k : (Nat.beq (z_kd (s + 1)) 20 && !(decide (16 < 0)) && Nat.beq (z_ln (s + 1)) (zix 16)) = true ∧ zis (s + 1 + 1) s 4 = true ∧ zmka (s + 1 + 1) 6 6 = true ∧ zis (s + 1 + 1 + 1 + 6) s 4 = true := by
    rcases hs with rfl | rfl | ⟨k, hk, rfl⟩
    · decide +kernel
    · decide +kernel
    · have : k = 0 ∨ k = 1 ∨ k = 2 ∨ k = 3 ∨ k = 4 ∨ k = 5 ∨ k = 6 ∨ k = 7 ∨ k = 8 ∨ k = 9 ∨ k = 10 ∨ k = 11 := by omega
      rcases this with rfl | rfl | rfl | rfl | rfl | rfl | rfl | rfl | rfl | rfl | rfl | rfl <;> decide +kernel
  have st := e_Se_init s I R (s + 1)
  rw [z6, k.1, zc_t, k.2.1, zc_t, k.2.2.1, zc_t, k.2.2.2, zc_t] at st
  exact st
theorem Lg_init_ok (hL : isL L) : Lg_init L I R (L + 1) = some (none, zzm (zzm (zz (zz (zz (zz (zz (zz I (L + 1)) (L + 2)) (L + 3)) (L + 4)) (L + 5)) (L + 6)) (L + 7) 6) (L + 14) 7, zur (zrm (zur (zrm (zur (zur (zur (zur (zur (zur R L 0 (some (L + 1))) L 1 (some (L + 2))) L 2 (some (L + 3))) L 3 (some (L + 4))) L 4 (some (L + 5))) L 5 (some (L + 6))) (L + 7) 6) L 6 (some (L + 7))) (L + 14) 7) L 7 (some (L + 14)), L + 22) := by
  have z6 : zix 6 = 6 := by decide
  have z7 : zix 7 = 7 := by decide
  have k : ((Nat.beq (z_kd (L + 1)) 20 && !(decide (4 < 0)) && Nat.beq (z_ln (L + 1)) (zix 4)) = true ∧ zis (L + 1 + 1) L 1 = true ∧ (Nat.beq (z_kd (L + 1 + 1)) 20 && !(decide (6 < 0)) && Nat.beq (z_ln (L + 1 + 1)) (6)) = true ∧ zis (L + 1 + 1 + 1) L 1 = true) ∧ ((Nat.beq (z_kd (L + 1 + 1 + 1)) 20 && !(decide (16 < 0)) && Nat.beq (z_ln (L + 1 + 1 + 1)) (zix 16)) = true ∧ zis (L + 1 + 1 + 1 + 1) L 1 = true ∧ (Nat.beq (z_kd (L + 1 + 1 + 1 + 1)) 20 && !(decide (16 < 0)) && Nat.beq (z_ln (L + 1 + 1 + 1 + 1)) (zix 16)) = true ∧ zis (L + 1 + 1 + 1 + 1 + 1) L 1 = true) ∧ ((Nat.beq (z_kd (L + 1 + 1 + 1 + 1 + 1)) 20 && !(decide (4 < 0)) && Nat.beq (z_ln (L + 1 + 1 + 1 + 1 + 1)) (zix 4)) = true ∧ zis (L + 1 + 1 + 1 + 1 + 1 + 1) L 1 = true ∧ (Nat.beq (z_kd (L + 1 + 1 + 1 + 1 + 1 + 1)) 20 && !(decide (6 < 0)) && Nat.beq (z_ln (L + 1 + 1 + 1 + 1 + 1 + 1)) (6)) = true ∧ zis (L + 1 + 1 + 1 + 1 + 1 + 1 + 1) L 1 = true) ∧ zmka (L + 1 + 1 + 1 + 1 + 1 + 1 + 1) 6 16 = true ∧ zis (L + 1 + 1 + 1 + 1 + 1 + 1 + 1 + 1 + 6) L 1 = true ∧ zmka (L + 1 + 1 + 1 + 1 + 1 + 1 + 1 + 1 + 6) 7 16 = true ∧ zis (L + 1 + 1 + 1 + 1 + 1 + 1 + 1 + 1 + 6 + 1 + 7) L 1 = true := by
    rcases hL with rfl | rfl <;> decide +kernel
  obtain ⟨⟨a1, a2, a3, a4⟩, ⟨b1, b2, b3, b4⟩, ⟨c1, c2, c3, c4⟩, d1, d2, d3, d4⟩ := k
  have st := e_Lg_init L I R (L + 1)
  rw [z6, a1, zc_t, a2, zc_t, a3, zc_t, a4, zc_t, e_Lg_init_19, b1, zc_t, b2, zc_t, b3, zc_t, b4, zc_t, e_Lg_init_35, z6, c1, zc_t, c2, zc_t, c3, zc_t, c4, zc_t, e_Lg_init_50, z6, z7, d1, zc_t, d2, zc_t, d3, zc_t, d4, zc_t] at st
  exact st
end LSo
