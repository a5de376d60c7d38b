section LSq
variable {I : ZI} {R : ZR} {L : Nat}
theorem zzr_n {b m : Nat} (j : Nat) (h : b ≠ m) : zzr R m b j = R b j := by unfold zzr; rw [if_neg h]
theorem zz_n {b m : Nat} (j : Nat) (h : b ≠ m) : zz I m b j = I b j := by unfold zz; rw [if_neg h]
theorem zz_s {m : Nat} (j : Nat) : zz I m m j = 0 := by unfold zz; rw [if_pos rfl]
theorem zzm_n {b m c : Nat} (j : Nat) (h : b ≤ m ∨ m + c < b) : zzm I m c b j = I b j := by unfold zzm; rw [if_neg (by omega)]
theorem zrm_n {b m c : Nat} (j : Nat) (h : b ≠ m) : zrm R m c b j = R b j := by unfold zrm; rw [if_neg h]
theorem Tp_init_ok : Tp_init 1 I R 2 = some (none, zz I 2, zur R 1 0 (some 2), 3) := by
  have st := e_Tp_init 1 I R 2
  rw [show (Nat.beq (z_kd 2) 20 && !(decide (400 < 0)) && Nat.beq (z_ln 2) (zix 400)) = true by decide +kernel, zc_t, show zis (2 + 1) 1 6 = true by decide +kernel, zc_t] at st
  exact st
theorem Tb_init_ok : ∃ I' R', Tb_init 4 I R 5 = some (none, I', R', 10) ∧ R' 4 0 = some 5 ∧ (∀ b j, b ≠ 4 → R' b j = R b j) ∧ ∀ b j, b < 5 ∨ 10 ≤ b → I' b j = I b j := by
  have st := e_Tb_init 4 I R 5
  have c : ((Nat.beq (z_kd 5) 20 && !(decide (0 < 0)) && Nat.beq (z_ln 5) (zix 0)) = true ∧ zis (5 + 1) 4 7 = true ∧ (Nat.beq (z_kd (5 + 1)) 20 && !(decide (0 < 0)) && Nat.beq (z_ln (5 + 1)) (zix 0)) = true ∧ zis (5 + 1 + 1) 4 7 = true) ∧ ((Nat.beq (z_kd (5 + 1 + 1)) 20 && !(decide (0 < 0)) && Nat.beq (z_ln (5 + 1 + 1)) (zix 0)) = true ∧ zis (5 + 1 + 1 + 1) 4 7 = true ∧ (Nat.beq (z_kd (5 + 1 + 1 + 1)) 20 && !(decide (0 < 0)) && Nat.beq (z_ln (5 + 1 + 1 + 1)) (zix 0)) = true ∧ zis (5 + 1 + 1 + 1 + 1) 4 7 = true) ∧ (Nat.beq (z_kd (5 + 1 + 1 + 1 + 1)) 20 && !(decide (0 < 0)) && Nat.beq (z_ln (5 + 1 + 1 + 1 + 1)) (zix 0)) = true ∧ zis (5 + 1 + 1 + 1 + 1 + 1) 4 7 = true := by decide +kernel
  obtain ⟨⟨a1, a2, a3, a4⟩, ⟨b1, b2, b3, b4⟩, c1, c2⟩ := c
  rw [a1, zc_t, a2, zc_t, a3, zc_t, a4, zc_t, e_Tb_init_18, b1, zc_t, b2, zc_t, b3, zc_t, b4, zc_t, e_Tb_init_32, c1, zc_t, c2, zc_t] at st
  refine ⟨_, _, st, ?_, fun b j hb => ?_, fun b j hb => ?_⟩
  · rw [zur_k _ (by decide), zur_k _ (by decide), zur_k _ (by decide), zur_k _ (by decide), zur_s]
  · rw [zur_n _ hb, zur_n _ hb, zur_n _ hb, zur_n _ hb, zur_n _ hb]
  · rw [zz_n _ (by omega), zz_n _ (by omega), zz_n _ (by omega), zz_n _ (by omega), zz_n _ (by omega)]
theorem Sw_init_ok : Sw_init 138 I R 139 = some (none, zz (zz I 139) 140, zur (zur R 138 0 (some 139)) 138 1 (some 140), 141) := by
  have st := e_Sw_init 138 I R 139
  have c : (Nat.beq (z_kd 139) 20 && !(decide (4 < 0)) && Nat.beq (z_ln 139) (zix 4)) = true ∧ zis (139 + 1) 138 5 = true ∧ (Nat.beq (z_kd (139 + 1)) 20 && !(decide (16 < 0)) && Nat.beq (z_ln (139 + 1)) (zix 16)) = true ∧ zis (139 + 1 + 1) 138 5 = true := by decide +kernel
  rw [c.1, zc_t, c.2.1, zc_t, c.2.2.1, zc_t, c.2.2.2, zc_t] at st
  exact st
theorem Pl_init_ok : ∃ I' R', Pl_init 141 I R 142 = some (none, I', R', 150) ∧ (R' 141 0 = some 142 ∧ R' 141 5 = some 147 ∧ R' 141 6 = some 148 ∧ R' 141 7 = some 149) ∧ (∀ b j, b < 141 ∨ 150 ≤ b → R' b j = R b j) ∧ ∀ b j, b ≤ 141 ∨ 150 ≤ b → I' b j = I b j := by
  have st := e_Pl_init 141 I R 142
  have z0 : zix 0 = 0 := by decide
  have c : ((Nat.beq (z_kd 142) 20 && !(decide (0 < 0)) && Nat.beq (z_ln 142) 0) = true ∧ zis (142 + 1) 141 2 = true ∧ zmka (142 + 1) 0 0 = true ∧ zis (142 + 1 + 1 + 0) 141 2 = true) ∧ (zmka (142 + 1 + 1 + 0) 0 0 = true ∧ zis (142 + 1 + 1 + 0 + 1 + 0) 141 2 = true ∧ zmka (142 + 1 + 1 + 0 + 1 + 0) 0 0 = true ∧ zis (142 + 1 + 1 + 0 + 1 + 0 + 1 + 0) 141 2 = true) ∧ ((Nat.beq (z_kd (142 + 1 + 1 + 0 + 1 + 0 + 1 + 0)) 20 && !(decide (0 < 0)) && Nat.beq (z_ln (142 + 1 + 1 + 0 + 1 + 0 + 1 + 0)) 0) = true ∧ zis (142 + 1 + 1 + 0 + 1 + 0 + 1 + 0 + 1) 141 2 = true ∧ (Nat.beq (z_kd (142 + 1 + 1 + 0 + 1 + 0 + 1 + 0 + 1)) 20 && !(decide (6 < 0)) && Nat.beq (z_ln (142 + 1 + 1 + 0 + 1 + 0 + 1 + 0 + 1)) (zix 6)) = true ∧ zis (142 + 1 + 1 + 0 + 1 + 0 + 1 + 0 + 1 + 1) 141 2 = true) ∧ ((Nat.beq (z_kd (142 + 1 + 1 + 0 + 1 + 0 + 1 + 0 + 1 + 1)) 20 && !(decide (6 < 0)) && Nat.beq (z_ln (142 + 1 + 1 + 0 + 1 + 0 + 1 + 0 + 1 + 1)) (zix 6)) = true ∧ zis (142 + 1 + 1 + 0 + 1 + 0 + 1 + 0 + 1 + 1 + 1) 141 2 = true ∧ (Nat.beq (z_kd (142 + 1 + 1 + 0 + 1 + 0 + 1 + 0 + 1 + 1 + 1)) 20 && !(decide (6 < 0)) && Nat.beq (z_ln (142 + 1 + 1 + 0 + 1 + 0 + 1 + 0 + 1 + 1 + 1)) (zix 6)) = true ∧ zis (142 + 1 + 1 + 0 + 1 + 0 + 1 + 0 + 1 + 1 + 1 + 1) 141 2 = true) := by decide +kernel
  obtain ⟨⟨a1, a2, a3, a4⟩, ⟨b1, b2, b3, b4⟩, ⟨c1, c2, c3, c4⟩, d1, d2, d3, d4⟩ := c
  rw [z0, a1, zc_t, a2, zc_t, a3, zc_t, a4, zc_t, e_Pl_init_21, z0, b1, zc_t, b2, zc_t, b3, zc_t, b4, zc_t, e_Pl_init_41, z0, c1, zc_t, c2, zc_t, c3, zc_t, c4, zc_t, e_Pl_init_56, d1, zc_t, d2, zc_t, d3, zc_t, d4, zc_t] at st
  refine ⟨_, _, st, ⟨?_, ?_, ?_, ?_⟩, fun b j hb => ?_, fun b j hb => ?_⟩
  · simp [zur, zrm]
  · simp [zur, zrm]
  · simp [zur, zrm]
  · simp [zur, zrm]
  · have e1 : b ≠ 141 := by omega
    rw [zur_n _ e1, zur_n _ e1, zur_n _ e1, zur_n _ e1, zur_n _ e1, zrm_n _ (by omega), zur_n _ e1, zrm_n _ (by omega), zur_n _ e1, zrm_n _ (by omega), zur_n _ e1]
  · rw [zz_n _ (by omega), zz_n _ (by omega), zz_n _ (by omega), zz_n _ (by omega), zzm_n _ (by omega), zzm_n _ (by omega), zzm_n _ (by omega), zz_n _ (by omega)]
theorem Lg_made (iL : isL L) : ∃ I' R', Lg_init L I R (L + 1) = some (none, I', R', L + 22) ∧ (∀ n, 195 ≤ n → WL R' n L) ∧ (∀ b j, b < L ∨ L + 22 ≤ b → R' b j = R b j) ∧ ∀ b j, b ≤ L ∨ L + 22 ≤ b → I' b j = I b j := by
  refine ⟨_, _, Lg_init_ok iL, fun n hn => ⟨hn, iL, ⟨?_, ?_, ?_, ?_, ?_, ?_, ?_, ?_⟩, fun w hw => ?_, fun w hw => ?_⟩, fun b j hb => ?_, fun b j hb => ?_⟩
  · simp [zur, zrm]
  · simp [zur, zrm]
  · simp [zur, zrm]
  · simp [zur, zrm]
  · simp [zur, zrm]
  · simp [zur, zrm]
  · simp [zur, zrm]
  · simp [zur, zrm]
  · simp [zur, zrm, hw]
  · simp [zur, zrm, hw]
  · have e1 : b ≠ L := by omega
    rw [zur_n _ e1, zrm_n _ (by omega), zur_n _ e1, zrm_n _ (by omega), zur_n _ e1, zur_n _ e1, zur_n _ e1, zur_n _ e1, zur_n _ e1, zur_n _ e1]
  · rw [zzm_n _ (by omega), zzm_n _ (by omega), zz_n _ (by omega), zz_n _ (by omega), zz_n _ (by omega), zz_n _ (by omega), zz_n _ (by omega), zz_n _ (by omega)]
end LSq
