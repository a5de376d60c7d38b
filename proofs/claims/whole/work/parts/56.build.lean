/-! ===== the table made anew ===== -/
section LB2
variable {I : ZI} {R : ZR} {n L : Nat}
theorem zur_cases (f : ZR) (a k : Nat) (v : Option Nat) (b j : Nat) : zur f a k v b j = if b = a then (if j = k then v else f b j) else f b j := rfl
theorem Tb_makeRows_first (h0 : R 4 0 = some 5) : ∃ I' R', Tb_makeRows 4 I R 218 = some (none, I', R', 223) ∧ (R' 4 0 = some 218 ∧ R' 4 1 = some 219 ∧ R' 4 2 = some 220 ∧ R' 4 3 = some 221 ∧ R' 4 4 = some 222) ∧ (∀ b j, b ≠ 4 → R' b j = R b j) ∧ ∀ b j, b < 218 → I' b j = I b j := by
  have k4 : ∀ m, 4 < m → zis m 4 7 = true := fun m hm => zis_lit hm (by decide)
  have k5 : zis 218 5 20 = true := zis_lit (by decide) (by decide)
  have g0 : (Int32.ofNat (z_ln 5) : Int32) < 3136 := by decide +kernel
  have g1 : (Nat.beq (z_kd 218) 20 && !(decide ((3136 : Nat) < 0)) && Nat.beq (z_ln 218) (zix 3136)) = true := by decide +kernel
  have g2 : (Nat.beq (z_kd (218 + 1)) 20 && !(decide ((3136 : Nat) < 0)) && Nat.beq (z_ln (218 + 1)) (zix 3136)) = true := by decide +kernel
  have g3 : (Nat.beq (z_kd (218 + 1 + 1)) 20 && !(decide ((3136 : Nat) < 0)) && Nat.beq (z_ln (218 + 1 + 1)) (zix 3136)) = true := by decide +kernel
  have g4 : (Nat.beq (z_kd (218 + 1 + 1 + 1)) 20 && !(decide ((3136 : Nat) < 0)) && Nat.beq (z_ln (218 + 1 + 1 + 1)) (zix 3136)) = true := by decide +kernel
  have g5 : (Nat.beq (z_kd (218 + 1 + 1 + 1 + 1)) 20 && !(decide ((595 : Nat) < 0)) && Nat.beq (z_ln (218 + 1 + 1 + 1 + 1)) (zix 595)) = true := by decide +kernel
  have st := e_Tb_makeRows 4 I R 218
  rw [k4 218 (by decide), zc_t, h0, zr_s, k5] at st
  simp only [Bool.true_or, zc_t] at st
  rw [if_pos g0, g1, zc_t, k4 (218 + 1) (by decide), zc_t, g2, zc_t, k4 (218 + 1 + 1) (by decide), zc_t, e_Tb_makeRows_29, g3, zc_t, k4 (218 + 1 + 1 + 1) (by decide), zc_t, g4, zc_t, k4 (218 + 1 + 1 + 1 + 1) (by decide), zc_t, e_Tb_makeRows_47, g5, zc_t, k4 (218 + 1 + 1 + 1 + 1 + 1) (by decide), zc_t] at st
  refine ⟨_, _, st, ?_, ?_, ?_⟩
  · refine ⟨?_, ?_, ?_, ?_, ?_⟩ <;> simp [zur_cases]
  · intro b j hb; simp [zur_cases, hb]
  · intro b j hb
    have e : ∀ (f : ZI) (m : Nat), 218 ≤ m → zz f m b j = f b j := fun f m hm => by unfold zz; rw [if_neg (by omega)]
    rw [e _ _ (by decide), e _ _ (by decide), e _ _ (by decide), e _ _ (by decide), e _ _ (by decide)]
theorem Tb_makeRows_again (hn : 223 ≤ n) (h0 : R 4 0 = some 218) : Tb_makeRows 4 I R n = some (none, I, R, n) := by
  have k4 : zis n 4 7 = true := zis_lit (by omega) (by decide)
  have k5 : zis n 218 20 = true := zis_lit (by omega) (by decide)
  have g0 : ¬ (Int32.ofNat (z_ln 218) : Int32) < 3136 := by decide +kernel
  rw [e_Tb_makeRows]
  simp only [k4, zc_t, h0, zr_s, k5, Bool.true_or]
  rw [if_neg g0]
theorem Tb_build_ok {I1 : ZI} {R1 : ZR} {n1 : Nat} (hn : 4 < n) (hmk : Tb_makeRows 4 I R n = some (none, I1, R1, n1)) (hn1 : 223 ≤ n1) (hr : R1 4 0 = some 218 ∧ R1 4 1 = some 219 ∧ R1 4 2 = some 220 ∧ R1 4 3 = some 221 ∧ R1 4 4 = some 222) (hL : WL R1 n1 L) {P z : Nat} (hP : P ≤ 16) (hz1 : 1 ≤ z) (hz2 : z ≤ 6) (hp : I1 L 8 = nI P) (hz : I1 L 9 = nI z) (hs : zSets I1 (L + 5) (I1 (L + 3)) 4 P) (hs2 : zSets I1 (L + 6) (I1 (L + 4)) 6 P) (hB : ∀ J, (∀ b j, b ≠ 4 → J b j = I1 b j) → zct (cT J L z P) (2 ^ P) ≤ 3136) : ∃ I0 I', Tb_build 4 L I R n = some (none, I', zur R1 4 5 (some L), n1) ∧ (∀ b j, b ≠ 4 → I0 b j = I1 b j) ∧ I0 4 8 = -1 ∧ I0 4 9 = -1 ∧ WT (zur R1 4 5 (some L)) n1 L ∧ zBt2 I0 I' L z P (2 ^ P) := by
  have hLb : 151 ≤ L ∧ L + 22 ≤ 195 := by rcases hL.2.1 with rfl | rfl <;> decide
  have hT : WT (zur R1 4 5 (some L)) n1 L := by
    refine ⟨hn1, ?_, ?_⟩
    · simp [zur_cases, hr]
    · simp [zur_cases]
  have hLr : ∀ b j, b ≠ 4 → zur R1 4 5 (some L) b j = R1 b j := fun b j hb => by simp [zur_cases, hb]
  have hL' : WL (zur R1 4 5 (some L)) n1 L := by
    obtain ⟨a, b, c, d, e⟩ := hL
    refine ⟨a, b, ?_, ?_, ?_⟩
    · simp only [hLr L _ (by omega)]; exact c
    · intro w hw; rw [hLr _ _ (by omega)]; exact d w hw
    · intro w hw; rw [hLr _ _ (by omega)]; exact e w hw
  have k4 : zis n 4 7 = true := zis_lit hn (by decide)
  generalize hI0 : zup (zup (zup (zup I1 4 6 0) 4 7 0) 4 8 (-1)) 4 9 (-1) = I0
  have f0 : ∀ b j, b ≠ 4 → I0 b j = I1 b j := fun b j hb => by rw [← hI0]; simp [zup_cases, hb]
  have v6 : I0 4 6 = 0 ∧ I0 4 7 = 0 ∧ I0 4 8 = -1 ∧ I0 4 9 = -1 := by rw [← hI0]; simp [zup_cases]
  have p0 : I0 L 8 = nI P := by rw [f0 _ _ (by omega), hp]
  have z0 : I0 L 9 = nI z := by rw [f0 _ _ (by omega), hz]
  have s0 : zSets I0 (L + 5) (I0 (L + 3)) 4 P := zSets_congr (funext fun j => f0 _ _ (by omega)) (funext fun j => f0 _ _ (by omega)) hs
  have s1 : zSets I0 (L + 6) (I0 (L + 4)) 6 P := zSets_congr (funext fun j => f0 _ _ (by omega)) (funext fun j => f0 _ _ (by omega)) hs2
  have pz : 2 ^ z ≤ 2 ^ 6 := Nat.pow_le_pow_right (by omega) hz2
  have pz2 : 2 ^ 1 ≤ 2 ^ z := Nat.pow_le_pow_right (by omega) hz1
  have cz : zcnt (2 ^ z - 1) (fun _ => true) 20 = z := by
    have h1 : zcnt (2 ^ z - 1) (fun _ => true) (0 + z) = z := by
      apply zcnt_run (c := 0) (t := z) _ z (Nat.le_refl _)
      intro i hi
      rw [Nat.testBit_two_pow_sub_one, decide_eq_true (show i < z by omega), decide_eq_true (Nat.zero_le i)]
    rw [Nat.zero_add] at h1
    have h2 : zcnt (2 ^ z - 1) (fun _ => true) (z + (20 - z)) = zcnt (2 ^ z - 1) (fun _ => true) z := zcnt_out (20 - z) (fun i hi => by
      rw [Nat.testBit_two_pow_sub_one, decide_eq_false (by omega)]; rfl)
    have e : z + (20 - z) = 20 := by omega
    rw [e] at h2
    rw [h2, h1]
  have st0 : zBt2 I0 I0 L z P 0 := ⟨by rw [v6.1, ← nI_0]; rfl, fun S hS => by omega, by rw [v6.2.1, ← nI_0]; rfl, fun S hS => by omega, fun _ _ _ _ _ => rfl⟩
  have stX : zBt2 I0 I0 L z P (2 ^ z - 1) := zBt2_skip st0 (Nat.zero_le _) (fun S _ hS => zdc_f (fun q => by
    have h3 : S < 2 ^ 20 := by omega
    have := zpc_min 20 z S h3 (by rw [q.2.1]; exact Nat.le_refl _)
    omega))
  obtain ⟨I', e, hI'⟩ := Tb_build48_ok hT hL' hP p0 s0 s1 (hB I0 f0) (2 ^ P) (2 ^ z - 1) 0 I0 (Nat.sub_le _ _) (Nat.zero_le _) (by omega) (by omega) cz stX
  refine ⟨I0, I', ?_, f0, v6.2.2.1, v6.2.2.2, hT, hI'⟩
  have k41 : zis n1 4 7 = true := zis_lit (by omega) (by decide)
  have ez : ((1 : Int32) <<< (nI z &&& 31)) - 1 = nI (2 ^ z - 1) := zall16 z (by omega)
  rw [e_Tb_build]
  simp only [k4, zc_t, hmk, zbV_s, k41]
  rw [e_Tb_build_24]
  simp only [k41, hL'.k, zc_t, hI0, p0, z0, zshl1 P (show P < 31 by omega), ez]
  rw [nI_0] at e
  exact e
end LB2
