section LSr
variable {I : ZI} {R : ZR} {L : Nat}
theorem Rd_init_ok : Rd_init 3 1 I R 4 = some (none, I, zur R 3 0 (some 1), 4) := by
  have st := e_Rd_init 3 1 I R 4
  rw [show zis 4 3 3 = true by decide +kernel, zc_t] at st
  exact st
theorem C_init_ok : ∃ I1 R1, C_init 0 I R 1 = some (none, I1, R1, 195) ∧ ((R1 0 0 = some 1 ∧ R1 0 1 = some 3 ∧ R1 0 2 = some 4 ∧ R1 0 3 = some 10 ∧ R1 0 4 = some 19 ∧ R1 0 5 = some 28 ∧ R1 0 6 = some 138 ∧ R1 0 7 = some 141 ∧ R1 0 8 = some 150 ∧ R1 0 9 = some 151 ∧ R1 0 10 = some 173) ∧ (R1 1 0 = some 2 ∧ R1 3 0 = some 1 ∧ R1 4 0 = some 5) ∧ (∀ n, 195 ≤ n → WL R1 n 151 ∧ WL R1 n 173) ∧ (WSr R1 10 ∧ WSr R1 19 ∧ R1 28 0 = some 29 ∧ ∀ i, i < 12 → R1 29 i = some (30 + 9 * i) ∧ WSr R1 (30 + 9 * i)) ∧ (R1 138 0 = some 139 ∧ R1 138 1 = some 140) ∧ (R1 141 0 = some 142 ∧ R1 141 5 = some 147 ∧ R1 141 6 = some 148 ∧ R1 141 7 = some 149)) ∧ (∀ b j, 195 ≤ b → R1 b j = R b j) ∧ (I1 1 1 = 0 ∧ I1 10 2 = 0 ∧ I1 28 1 = 0 ∧ I1 28 2 = 0 ∧ (∀ k, I1 150 k = 0) ∧ I1 0 11 = 0 ∧ I1 0 12 = 0) ∧ ∀ b j, 195 ≤ b → I1 b j = I b j := by
  have st := e_C_init 0 I R 1
  rw [show Nat.beq (z_kd 1) 6 = true by decide +kernel, zc_t, show zis (1 + 1) 1 6 = true by decide +kernel, zc_t, show (1 + 1 : Nat) = 2 from rfl, Tp_init_ok, zbV_s] at st
  rw [show zis 3 0 8 = true by decide +kernel, zc_t, show Nat.beq (z_kd 3) 3 = true by decide +kernel, zc_t, show zis (3 + 1) 0 8 = true by decide +kernel, zc_t] at st
  -- the tape and the reader
  have q0 : zzr (zur (zur (zzr R 1) 1 0 (some 2)) 0 0 (some 1)) 3 0 0 = some 1 := by rw [zzr_n _ (by decide), zur_s]
  rw [q0, zr_s, show zis (3 + 1) 3 3 = true by decide +kernel, zc_t, show (3 + 1 : Nat) = 4 from rfl, Rd_init_ok, zbV_s, show zis 4 0 8 = true by decide +kernel, zc_t, show Nat.beq (z_kd 4) 7 = true by decide +kernel, zc_t, show zis (4 + 1) 4 7 = true by decide +kernel, zc_t, show (4 + 1 : Nat) = 5 from rfl] at st
  obtain ⟨r2, hr2⟩ : ∃ r, r = zur (zur (zzr (zur (zur (zzr R 1) 1 0 (some 2)) 0 0 (some 1)) 3) 3 0 (some 1)) 0 1 (some 3) := ⟨_, rfl⟩
  rw [← hr2] at st
  have r2a : r2 0 0 = some 1 ∧ r2 0 1 = some 3 ∧ r2 1 0 = some 2 ∧ r2 3 0 = some 1 := by
    rw [hr2]
    refine ⟨?_, ?_, ?_, ?_⟩ <;> simp [zur, zzr]
  have r2b : ∀ b j, 4 ≤ b → r2 b j = R b j := fun b j hb => by
    rw [hr2, zur_n _ (by omega), zur_n _ (by omega), zzr_n _ (by omega), zur_n _ (by omega), zur_n _ (by omega), zzr_n _ (by omega)]
  obtain ⟨i2, hi2⟩ : ∃ i, i = zz (zz (zz I 1) 2) 3 := ⟨_, rfl⟩
  rw [← hi2] at st
  have i2a : i2 1 1 = 0 := by rw [hi2, zz_n _ (by decide), zz_n _ (by decide), zz_s]
  have i2b : ∀ b j, 4 ≤ b → i2 b j = I b j := fun b j hb => by rw [hi2, zz_n _ (by omega), zz_n _ (by omega), zz_n _ (by omega)]
  -- the table
  obtain ⟨i3, r3, t1, t2, t3, t4⟩ := Tb_init_ok (I := zz i2 4) (R := zzr r2 4)
  rw [t1, zbV_s, show zis 10 0 8 = true by decide +kernel, zc_t, show Nat.beq (z_kd 10) 4 = true by decide +kernel, zc_t, show zis (10 + 1) 10 4 = true by decide +kernel, zc_t, Se_init_ok (s := 10) (Or.inl rfl), zbV_s, show zis (10 + 9) 0 8 = true by decide +kernel, zc_t, show Nat.beq (z_kd (10 + 9)) 4 = true by decide +kernel, zc_t, show zis (10 + 9 + 1) (10 + 9) 4 = true by decide +kernel, zc_t, Se_init_ok (s := 10 + 9) (Or.inr (Or.inl rfl)), zbV_s] at st
  have m1 := Se_made (R := zzr (zur r3 0 2 (some 4)) 10) 10
  obtain ⟨r4, hr4⟩ : ∃ r, r = zur (zrm (zur (zzr (zur r3 0 2 (some 4)) 10) 10 0 (some (10 + 1))) (10 + 2) 6) 10 1 (some (10 + 2)) := ⟨_, rfl⟩
  rw [← hr4] at st m1
  have m2 := Se_made (R := zzr (zur r4 0 3 (some 10)) (10 + 9)) (10 + 9)
  obtain ⟨r5, hr5⟩ : ∃ r, r = zur (zrm (zur (zzr (zur r4 0 3 (some 10)) (10 + 9)) (10 + 9) 0 (some (10 + 9 + 1))) (10 + 9 + 2) 6) (10 + 9) 1 (some (10 + 9 + 2)) := ⟨_, rfl⟩
  rw [← hr5] at st m2
  have a0 : ∀ j, j ≠ 2 → r4 0 j = r2 0 j := fun j hj => by rw [m1.2 0 j (by decide), zzr_n _ (by decide), zur_k _ hj, t3 0 j (by decide), zzr_n _ (by decide)]
  have a02 : r4 0 2 = some 4 := by rw [m1.2 0 2 (by decide), zzr_n _ (by decide), zur_s]
  have ab : ∀ b j, b ≠ 0 → b ≠ 4 → b < 10 ∨ 19 ≤ b → r4 b j = r2 b j := fun b j h0 h4 h1 => by rw [m1.2 b j (by omega), zzr_n _ (by omega), zur_n _ h0, t3 b j h4, zzr_n _ h4]
  have a4 : r4 4 0 = some 5 := by rw [m1.2 4 0 (by decide), zzr_n _ (by decide), zur_n _ (by decide)]; exact t2
  have b0 : ∀ j, j ≠ 3 → r5 0 j = r4 0 j := fun j hj => by rw [m2.2 0 j (by decide), zzr_n _ (by decide), zur_k _ hj]
  have b03 : r5 0 3 = some 10 := by rw [m2.2 0 3 (by decide), zzr_n _ (by decide), zur_s]
  have bb : ∀ b j, b ≠ 0 → b < 19 ∨ 28 ≤ b → r5 b j = r4 b j := fun b j h0 h1 => by rw [m2.2 b j (by omega), zzr_n _ (by omega), zur_n _ h0]
  obtain ⟨i5, hi5⟩ : ∃ i, i = zzm (zz (zz (zzm (zz (zz i3 10) (10 + 1)) (10 + 2) 6) (10 + 9)) (10 + 9 + 1)) (10 + 9 + 2) 6 := ⟨_, rfl⟩
  rw [← hi5] at st
  have c10 : i5 10 2 = 0 := by rw [hi5, zzm_n _ (by decide), zz_n _ (by decide), zz_n _ (by decide), zzm_n _ (by decide), zz_n _ (by decide), zz_s]
  have cb : ∀ b j, b < 4 ∨ 28 ≤ b → i5 b j = i2 b j := fun b j hb => by rw [hi5, zzm_n _ (by omega), zz_n _ (by omega), zz_n _ (by omega), zzm_n _ (by omega), zz_n _ (by omega), zz_n _ (by omega), t4 b j (by omega), zz_n _ (by omega)]
  rw [show (10 + 9 + 9 : Nat) = 28 from rfl, show zis 28 0 8 = true by decide +kernel, zc_t, show Nat.beq (z_kd 28) 0 = true by decide +kernel, zc_t, show zis (28 + 1) 28 0 = true by decide +kernel, zc_t, show (28 + 1 : Nat) = 29 from rfl] at st
  obtain ⟨i6, r6, h1, h2, h3, h4, h5⟩ := Hist_init_ok (I := zz i5 28) (R := zzr (zur r5 0 4 (some (10 + 9))) 28)
  rw [h1, zbV_s, show zis 138 0 8 = true by decide +kernel, zc_t, show Nat.beq (z_kd 138) 5 = true by decide +kernel, zc_t, show zis (138 + 1) 138 5 = true by decide +kernel, zc_t, show (138 + 1 : Nat) = 139 from rfl, Sw_init_ok, zbV_s, show zis 141 0 8 = true by decide +kernel, zc_t, show Nat.beq (z_kd 141) 2 = true by decide +kernel, zc_t, show zis (141 + 1) 141 2 = true by decide +kernel, zc_t, show (141 + 1 : Nat) = 142 from rfl] at st
  obtain ⟨r7, hr7⟩ : ∃ r, r = zur (zur (zzr (zur r6 0 5 (some 28)) 138) 138 0 (some 139)) 138 1 (some 140) := ⟨_, rfl⟩
  rw [← hr7] at st
  have d0 : ∀ j, j ≠ 5 → r7 0 j = r6 0 j := fun j hj => by rw [hr7, zur_n _ (by decide), zur_n _ (by decide), zzr_n _ (by decide), zur_k _ hj]
  have d05 : r7 0 5 = some 28 := by rw [hr7, zur_n _ (by decide), zur_n _ (by decide), zzr_n _ (by decide), zur_s]
  have db : ∀ b j, b ≠ 0 → b ≠ 138 → r7 b j = r6 b j := fun b j x1 x2 => by rw [hr7, zur_n _ x2, zur_n _ x2, zzr_n _ x2, zur_n _ x1]
  have d138 : r7 138 0 = some 139 ∧ r7 138 1 = some 140 := by
    rw [hr7]
    exact ⟨by rw [zur_k _ (by decide), zur_s], by rw [zur_s]⟩
  have e0 : ∀ j, j ≠ 4 → r6 0 j = r5 0 j := fun j hj => by rw [h4 0 j (by decide), zzr_n _ (by decide), zur_k _ hj]
  have e04 : r6 0 4 = some 19 := by rw [h4 0 4 (by decide), zzr_n _ (by decide), zur_s]
  have eb : ∀ b j, b ≠ 0 → b < 28 ∨ 138 ≤ b → r6 b j = r5 b j := fun b j x1 x2 => by rw [h4 b j x2, zzr_n _ (by omega), zur_n _ x1]
  obtain ⟨i8, r8, p1, p2, p3, p4⟩ := Pl_init_ok (I := zz (zz (zz (zz i6 138) 139) 140) 141) (R := zzr (zur r7 0 6 (some 138)) 141)
  rw [p1, zbV_s, show zis 150 0 8 = true by decide +kernel, zc_t, show (Nat.beq (z_kd 150) 20 && !(decide (5 < 0)) && Nat.beq (z_ln 150) (zix 5)) = true by decide +kernel, zc_t, show zis (150 + 1) 0 8 = true by decide +kernel, zc_t, show Nat.beq (z_kd (150 + 1)) 1 = true by decide +kernel, zc_t, show zis (150 + 1 + 1) (150 + 1) 1 = true by decide +kernel, zc_t, show (150 + 1 : Nat) = 151 from rfl] at st
  obtain ⟨i9, r9, l1, l2, l3, l4⟩ := Lg_made (L := 151) (I := zz (zz i8 150) 151) (R := zzr (zur (zur r8 0 7 (some 141)) 0 8 (some 150)) 151) (Or.inl rfl)
  rw [l1, zbV_s, show (151 + 22 : Nat) = 173 from rfl, show zis 173 0 8 = true by decide +kernel, zc_t, show Nat.beq (z_kd 173) 1 = true by decide +kernel, zc_t, show zis (173 + 1) 173 1 = true by decide +kernel, zc_t] at st
  obtain ⟨i10, r10, n1, n2, n3, n4⟩ := Lg_made (L := 173) (I := zz i9 173) (R := zzr (zur r9 0 9 (some 151)) 173) (Or.inr rfl)
  rw [n1, zbV_s, show (173 + 22 : Nat) = 195 from rfl, show zis 195 0 8 = true by decide +kernel, zc_t, zc_t, zc_t] at st
  -- reading back
  have f0 : ∀ j, j ≠ 6 → r8 0 j = r7 0 j := fun j hj => by rw [p3 0 j (by decide), zzr_n _ (by decide), zur_k _ hj]
  have f06 : r8 0 6 = some 138 := by rw [p3 0 6 (by decide), zzr_n _ (by decide), zur_s]
  have fb : ∀ b j, b ≠ 0 → b < 141 ∨ 150 ≤ b → r8 b j = r7 b j := fun b j x1 x2 => by rw [p3 b j x2, zzr_n _ (by omega), zur_n _ x1]
  have g0 : ∀ j, j ≠ 7 → j ≠ 8 → r9 0 j = r8 0 j := fun j x1 x2 => by rw [l3 0 j (by decide), zzr_n _ (by decide), zur_k _ x2, zur_k _ x1]
  have g07 : r9 0 7 = some 141 := by rw [l3 0 7 (by decide), zzr_n _ (by decide), zur_k _ (by decide), zur_s]
  have g08 : r9 0 8 = some 150 := by rw [l3 0 8 (by decide), zzr_n _ (by decide), zur_s]
  have gb : ∀ b j, b ≠ 0 → b < 151 ∨ 173 ≤ b → r9 b j = r8 b j := fun b j x1 x2 => by rw [l3 b j (by omega), zzr_n _ (by omega), zur_n _ x1, zur_n _ x1]
  have k0 : ∀ j, j ≠ 9 → j ≠ 10 → zur r10 0 10 (some 173) 0 j = r9 0 j := fun j x1 x2 => by rw [zur_k _ x2, n3 0 j (by decide), zzr_n _ (by decide), zur_k _ x1]
  have k09 : zur r10 0 10 (some 173) 0 9 = some 151 := by rw [zur_k _ (by decide), n3 0 9 (by decide), zzr_n _ (by decide), zur_s]
  have kb : ∀ b j, b ≠ 0 → b < 173 ∨ 195 ≤ b → zur r10 0 10 (some 173) b j = r9 b j := fun b j x1 x2 => by rw [zur_n _ x1, n3 b j (by omega), zzr_n _ (by omega), zur_n _ x1]
  have low : ∀ b j, b ≠ 0 → b < 138 → zur r10 0 10 (some 173) b j = r6 b j := fun b j x1 x2 => by rw [kb b j x1 (by omega), gb b j x1 (by omega), fb b j x1 (by omega), db b j x1 (by omega)]
  refine ⟨_, _, st, ⟨⟨?_, ?_, ?_, ?_, ?_, ?_, ?_, ?_, ?_, k09, ?_⟩, ⟨?_, ?_, ?_⟩, fun n hn => ⟨?_, ?_⟩, ⟨?_, ?_, ?_, fun i hi => ⟨?_, ?_⟩⟩, ⟨?_, ?_⟩, ⟨?_, ?_, ?_, ?_⟩⟩, fun b j hb => ?_, ⟨?_, ?_, ?_, ?_, fun k => ?_, ?_, ?_⟩, fun b j hb => ?_⟩
  · rw [k0 _ (by decide) (by decide), g0 _ (by decide) (by decide), f0 _ (by decide), d0 _ (by decide), e0 _ (by decide), b0 _ (by decide), a0 _ (by decide)]; exact r2a.1
  · rw [k0 _ (by decide) (by decide), g0 _ (by decide) (by decide), f0 _ (by decide), d0 _ (by decide), e0 _ (by decide), b0 _ (by decide), a0 _ (by decide)]; exact r2a.2.1
  · rw [k0 _ (by decide) (by decide), g0 _ (by decide) (by decide), f0 _ (by decide), d0 _ (by decide), e0 _ (by decide), b0 _ (by decide)]; exact a02
  · rw [k0 _ (by decide) (by decide), g0 _ (by decide) (by decide), f0 _ (by decide), d0 _ (by decide), e0 _ (by decide)]; exact b03
  · rw [k0 _ (by decide) (by decide), g0 _ (by decide) (by decide), f0 _ (by decide), d0 _ (by decide)]; exact e04
  · rw [k0 _ (by decide) (by decide), g0 _ (by decide) (by decide), f0 _ (by decide)]; exact d05
  · rw [k0 _ (by decide) (by decide), g0 _ (by decide) (by decide)]; exact f06
  · rw [k0 _ (by decide) (by decide)]; exact g07
  · rw [k0 _ (by decide) (by decide)]; exact g08
  · rw [zur_s]
  · rw [low _ _ (by decide) (by decide), eb _ _ (by decide) (by decide), bb _ _ (by decide) (by decide), ab _ _ (by decide) (by decide) (by decide)]; exact r2a.2.2.1
  · rw [low _ _ (by decide) (by decide), eb _ _ (by decide) (by decide), bb _ _ (by decide) (by decide), ab _ _ (by decide) (by decide) (by decide)]; exact r2a.2.2.2
  · rw [low _ _ (by decide) (by decide), eb _ _ (by decide) (by decide), bb _ _ (by decide) (by decide)]; exact a4
  · obtain ⟨y1, y2, y3, y4, y5⟩ := l2 n hn
    have kk : ∀ b j, 151 ≤ b → b < 173 → zur r10 0 10 (some 173) b j = r9 b j := fun b j x1 x2 => kb b j (by omega) (by omega)
    refine ⟨y1, y2, ?_, fun w hw => by rw [kk _ _ (by omega) (by omega)]; exact y4 w hw, fun w hw => by rw [kk _ _ (by omega) (by omega)]; exact y5 w hw⟩
    rw [kk 151 0 (by omega) (by omega), kk 151 1 (by omega) (by omega), kk 151 2 (by omega) (by omega), kk 151 3 (by omega) (by omega), kk 151 4 (by omega) (by omega), kk 151 5 (by omega) (by omega), kk 151 6 (by omega) (by omega), kk 151 7 (by omega) (by omega)]
    exact y3
  · exact WL_zur (n2 n hn) (by omega)
  · exact WSr_c m1.1 (fun b j x1 x2 => by rw [low b j (by omega) (by omega), eb b j (by omega) (by omega), bb b j (by omega) (by omega)])
  · exact WSr_c m2.1 (fun b j x1 x2 => by rw [low b j (by omega) (by omega), eb b j (by omega) (by omega)])
  · rw [low _ _ (by decide) (by decide)]; exact h2
  · rw [low _ _ (by decide) (by decide)]; exact (h3 i hi).1
  · exact WSr_c (h3 i hi).2 (fun b j x1 x2 => low b j (by omega) (by omega))
  · rw [kb _ _ (by decide) (by decide), gb _ _ (by decide) (by decide), fb _ _ (by decide) (by decide)]; exact d138.1
  · rw [kb _ _ (by decide) (by decide), gb _ _ (by decide) (by decide), fb _ _ (by decide) (by decide)]; exact d138.2
  · rw [kb _ _ (by decide) (by decide), gb _ _ (by decide) (by decide)]; exact p2.1
  · rw [kb _ _ (by decide) (by decide), gb _ _ (by decide) (by decide)]; exact p2.2.1
  · rw [kb _ _ (by decide) (by decide), gb _ _ (by decide) (by decide)]; exact p2.2.2.1
  · rw [kb _ _ (by decide) (by decide), gb _ _ (by decide) (by decide)]; exact p2.2.2.2
  · rw [kb b j (by omega) (by omega), gb b j (by omega) (by omega), fb b j (by omega) (by omega), db b j (by omega) (by omega), eb b j (by omega) (by omega), bb b j (by omega) (by omega), ab b j (by omega) (by omega) (by omega), r2b b j (by omega)]
  · rw [zup_n _ (by decide), zup_n _ (by decide), n4 _ _ (by decide), zz_n _ (by decide), l4 _ _ (by decide), zz_n _ (by decide), zz_n _ (by decide), p4 _ _ (by decide), zz_n _ (by decide), zz_n _ (by decide), zz_n _ (by decide), zz_n _ (by decide), h5 _ _ (by decide), zz_n _ (by decide), cb _ _ (by decide)]; exact i2a
  · rw [zup_n _ (by decide), zup_n _ (by decide), n4 _ _ (by decide), zz_n _ (by decide), l4 _ _ (by decide), zz_n _ (by decide), zz_n _ (by decide), p4 _ _ (by decide), zz_n _ (by decide), zz_n _ (by decide), zz_n _ (by decide), zz_n _ (by decide), h5 _ _ (by decide), zz_n _ (by decide)]; exact c10
  · rw [zup_n _ (by decide), zup_n _ (by decide), n4 _ _ (by decide), zz_n _ (by decide), l4 _ _ (by decide), zz_n _ (by decide), zz_n _ (by decide), p4 _ _ (by decide), zz_n _ (by decide), zz_n _ (by decide), zz_n _ (by decide), zz_n _ (by decide), h5 _ _ (by decide), zz_s]
  · rw [zup_n _ (by decide), zup_n _ (by decide), n4 _ _ (by decide), zz_n _ (by decide), l4 _ _ (by decide), zz_n _ (by decide), zz_n _ (by decide), p4 _ _ (by decide), zz_n _ (by decide), zz_n _ (by decide), zz_n _ (by decide), zz_n _ (by decide), h5 _ _ (by decide), zz_s]
  · rw [zup_n _ (by decide), zup_n _ (by decide), n4 _ _ (by decide), zz_n _ (by decide), l4 _ _ (by decide), zz_n _ (by decide), zz_s]
  · rw [zup_k _ (by decide), zup_s]
  · rw [zup_s]
  · rw [zup_n _ (by omega), zup_n _ (by omega), n4 b j (by omega), zz_n _ (by omega), l4 b j (by omega), zz_n _ (by omega), zz_n _ (by omega), p4 b j (by omega), zz_n _ (by omega), zz_n _ (by omega), zz_n _ (by omega), zz_n _ (by omega), h5 b j (by omega), zz_n _ (by omega), cb b j (by omega), i2b b j (by omega)]
end LSr
