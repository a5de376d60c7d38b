/-! ===== week ===== -/
theorem e43b {w : Nat} : (43 : Int32) + 6 * nI w = nI (43 + 6 * w) := by
  have t43 : (43 : Int32) = nI 43 := by decide
  have t6 : (6 : Int32) = nI 6 := by decide
  rw [t43, t6, pk_mul, nI_add]
theorem zadd_sub (a c e : Int32) : a - c + e = a + e - c := by
  rw [Int32.sub_eq_add_neg, Int32.sub_eq_add_neg, Int32.add_assoc, Int32.add_comm (-c), ← Int32.add_assoc]
section LWk
variable {q : Nat} {I : ZI} {R : ZR} {n L L' P Wk z m : Nat} {t : Nat → Nat}
/-- the reference's week, behind what was kept -/
theorem M_week87_ok {K : ZI} (hM : WM R n) {w S b O : Nat} {chip : Int32} (hw : w < 6) (hS : S < 2 ^ 31) (hb : b < 16) (hP : P ≤ 16) (h17 : K 195 17 = nI P) (h0 : K 208 0 = 1) (h1 : K 208 1 = nI O) (hO : O < 2 ^ 31) (h9 : K 208 9 = nI w) : ∃ F, M_week_87 195 (nI w) chip (nI S) (nI b) K R n = some (some (.int (zsum S (fun i => K 206 (6 * i + w)) P + K 206 (6 * b + w) * (if chip = 0 then 2 else 1) - (if chip = 1 then 0 else K 198 7 * zmax 0 (K 208 5 - K 208 4)))), F, R, n) ∧ (F 208 (43 + 6 * w) = zsum S (fun i => K 206 (6 * i + w)) P + K 206 (6 * b + w) * (if chip = 0 then 2 else 1) - (if chip = 1 then 0 else K 198 7 * zmax 0 (K 208 5 - K 208 4)) ∧ F 208 (43 + 6 * w + 1) = nI S ∧ F 208 (43 + 6 * w + 2) = nI b ∧ F 208 (43 + 6 * w + 3) = chip ∧ F 208 (43 + 6 * w + 4) = K 208 5 ∧ F 208 (43 + 6 * w + 5) = K 208 2 + zsum O (fun i => zbrings (K 208 (11 + i)) (K 208 (27 + i))) P) ∧ (F 208 10 = K 208 10 + (zsum S (fun i => K 206 (6 * i + w)) P + K 206 (6 * b + w) * (if chip = 0 then 2 else 1) - (if chip = 1 then 0 else K 198 7 * zmax 0 (K 208 5 - K 208 4))) ∧ F 208 4 = zmin 2 (zmax 0 (K 208 4 - (if chip = 1 then 0 else if chip = 2 then 0 else K 208 5)) + 1) ∧ F 208 5 = 0 ∧ F 208 7 = -1 ∧ F 208 8 = 0 ∧ F 208 9 = nI (w + 1)) ∧ (∀ i, i < P → F 208 (11 + i) = zmoved (K 208 (11 + i)) (K 206 (6 * i + w)) (K 198 8) (K 198 9)) ∧ (∀ j, j < 79 → j ≠ 4 → j ≠ 5 → j ≠ 7 → j ≠ 8 → j ≠ 9 → j ≠ 10 → (j < 11 ∨ 11 + P ≤ j) → (j < 43 + 6 * w ∨ 43 + 6 * w + 6 ≤ j) → F 208 j = K 208 j) ∧ ∀ b j, b ≠ 208 → F b j = K b j := by
  have t2 : (2 : Int32) = nI 2 := by decide
  have t3 : (3 : Int32) = nI 3 := by decide
  have t4 : (4 : Int32) = nI 4 := by decide
  have t5 : (5 : Int32) = nI 5 := by decide
  have r0 := zin79b (show 43 + 6 * w < 79 by omega)
  have r1 := zin79b (show 43 + 6 * w + 1 < 79 by omega)
  have r2 := zin79b (show 43 + 6 * w + 2 < 79 by omega)
  have r3 := zin79b (show 43 + 6 * w + 3 < 79 by omega)
  have r4 := zin79b (show 43 + 6 * w + 4 < 79 by omega)
  have r5 := zin79b (show 43 + 6 * w + 5 < 79 by omega)
  have s87 := e_M_week_87 195 (nI w) chip (nI S) (nI b) K R n
  simp only [hM.k, hM.2, zc_t, zr_s, M_pointsOf_ok hM hS hP h17 hw, zbI_s, zpt, zin206 hb hw, zix_nI (show 6 * b + w < 2 ^ 31 by omega), Bool.true_or, Bool.true_and] at s87
  have s87' : M_week_87 195 (nI w) chip (nI S) (nI b) K R n = M_week_116 195 (nI w) chip (nI S) (nI b) (zsum S (fun i => K 206 (6 * i + w)) P) (K 206 (6 * b + w)) (if chip = 0 then 2 else 1) K R n := by
    rw [s87]
    by_cases c : chip = 0
    · rw [if_pos c, if_pos c]
    · rw [if_neg c, if_neg c]
  have s116 := e_M_week_116 195 (nI w) chip (nI S) (nI b) (zsum S (fun i => K 206 (6 * i + w)) P) (K 206 (6 * b + w)) (if chip = 0 then 2 else 1) K R n
  simp only [hM.k, hM.2, zc_t, zr_s, zin208, zixs, Bool.true_or, Bool.true_and, M_paid_ok hM, zbI_s] at s116
  have s116' : M_week_116 195 (nI w) chip (nI S) (nI b) (zsum S (fun i => K 206 (6 * i + w)) P) (K 206 (6 * b + w)) (if chip = 0 then 2 else 1) K R n = M_week_143 195 (nI w) chip (nI S) (nI b) (zsum S (fun i => K 206 (6 * i + w)) P + K 206 (6 * b + w) * (if chip = 0 then 2 else 1)) (if chip = 1 then 0 else K 198 7 * zmax 0 (K 208 5 - K 208 4)) K R n := by
    rw [s116]
    by_cases c : chip = 1
    · rw [if_pos c, if_pos c]
    · rw [if_neg c, if_neg c]
  generalize zsum S (fun i => K 206 (6 * i + w)) P + K 206 (6 * b + w) * (if chip = 0 then 2 else 1) = sa at *
  generalize (if chip = 1 then 0 else K 198 7 * zmax 0 (K 208 5 - K 208 4)) = sb at *
  have s143 := e_M_week_143 195 (nI w) chip (nI S) (nI b) sa sb K R n
  rw [e43b, t2, t3, nI_1, nI_add, nI_add] at s143
  simp only [hM.k, hM.2, zc_t, zr_s, r0, r1, r2, r3, Bool.true_and, zix_nI (show 43 + 6 * w < 2 ^ 31 by omega), zix_nI (show 43 + 6 * w + 1 < 2 ^ 31 by omega), zix_nI (show 43 + 6 * w + 2 < 2 ^ 31 by omega), zix_nI (show 43 + 6 * w + 3 < 2 ^ 31 by omega)] at s143
  obtain ⟨K1, hK1⟩ : ∃ K1, K1 = zup (zup (zup (zup K 208 (43 + 6 * w) (sa - sb)) 208 (43 + 6 * w + 1) (nI S)) 208 (43 + 6 * w + 2) (nI b)) 208 (43 + 6 * w + 3) chip := ⟨_, rfl⟩
  rw [← hK1] at s143
  have a1 : ∀ j, (j < 43 + 6 * w ∨ 43 + 6 * w + 4 ≤ j) → K1 208 j = K 208 j := fun j hj => by
    rw [hK1, zup_k _ (by omega), zup_k _ (by omega), zup_k _ (by omega), zup_k _ (by omega)]
  have a2 : ∀ b j, b ≠ 208 → K1 b j = K b j := fun b j hb => by rw [hK1, zup_n _ hb, zup_n _ hb, zup_n _ hb, zup_n _ hb]
  obtain ⟨K2, hK2⟩ : ∃ K2, K2 = zup K1 208 (43 + 6 * w + 4) (K 208 5) := ⟨_, rfl⟩
  have b1 : ∀ j, (j < 43 + 6 * w ∨ 43 + 6 * w + 5 ≤ j) → K2 208 j = K 208 j := fun j hj => by
    rw [hK2, zup_k _ (by omega)]; exact a1 j (by omega)
  have b2 : ∀ b j, b ≠ 208 → K2 b j = K b j := fun b j hb => by rw [hK2, zup_n _ hb]; exact a2 b j hb
  have wo := M_worth_ok (I := K2) (R := R) (n := n) hM (S := O) (P := P) (by rw [b1 0 (by omega)]; exact h0) (by rw [b1 1 (by omega)]; exact h1) hO (by rw [b2 _ _ (by decide)]; exact h17) hP
  rw [show zsum O (fun i => zbrings (K2 208 (11 + i)) (K2 208 (27 + i))) P = zsum O (fun i => zbrings (K 208 (11 + i)) (K 208 (27 + i))) P from zsum_congr (fun i hi _ => by rw [b1 _ (by omega), b1 _ (by omega)]), b1 2 (by omega)] at wo
  generalize hwv : K 208 2 + zsum O (fun i => zbrings (K 208 (11 + i)) (K 208 (27 + i))) P = wv at *
  obtain ⟨K4, hK4⟩ : ∃ K4, K4 = zup (zup K2 208 (43 + 6 * w + 5) wv) 208 10 (K 208 10 + (sa - sb)) := ⟨_, rfl⟩
  have c1 : ∀ j, j ≠ 10 → (j < 43 + 6 * w ∨ 43 + 6 * w + 6 ≤ j) → K4 208 j = K 208 j := fun j h1 h2 => by
    rw [hK4, zup_k _ h1, zup_k _ (by omega)]; exact b1 j (by omega)
  have c2 : ∀ b j, b ≠ 208 → K4 b j = K b j := fun b j hb => by rw [hK4, zup_n _ hb, zup_n _ hb]; exact b2 b j hb
  have fb := M_freeBehind_ok (I := K4) (R := R) (n := n) (K 208 4) (K 208 5) chip
  have s195 := e_M_week_195 195 (nI w) chip (sa - sb) (nI (43 + 6 * w)) K1 R n
  rw [t4, t5, nI_add, nI_add, ← t4, ← t5] at s195
  simp only [hM.k, hM.2, zc_t, zr_s, zin208, zixs, r4, r5, Bool.true_or, Bool.true_and, zix_nI (show 43 + 6 * w + 4 < 2 ^ 31 by omega), zix_nI (show 43 + 6 * w + 5 < 2 ^ 31 by omega), a1 5 (by omega), ← hK2, wo, zbI_s, zup_k 208 (show (10 : Nat) ≠ 43 + 6 * w + 5 by omega), b1 10 (by omega), ← hK4, c1 4 (by decide) (by omega), c1 5 (by decide) (by omega), fb] at s195
  obtain ⟨K5, hK5⟩ : ∃ K5, K5 = zup (zup (zup (zup K4 208 4 (zmin 2 (zmax 0 (K 208 4 - (if chip = 1 then 0 else if chip = 2 then 0 else K 208 5)) + 1))) 208 5 0) 208 7 (-1)) 208 8 0 := ⟨_, rfl⟩
  rw [← hK5] at s195
  have d1 : ∀ j, j ≠ 4 → j ≠ 5 → j ≠ 7 → j ≠ 8 → K5 208 j = K4 208 j := fun j h1 h2 h3 h4 => by
    rw [hK5, zup_k _ h4, zup_k _ h3, zup_k _ h2, zup_k _ h1]
  have d2 : ∀ b j, b ≠ 208 → K5 b j = K b j := fun b j hb => by rw [hK5, zup_n _ hb, zup_n _ hb, zup_n _ hb, zup_n _ hb]; exact c2 b j hb
  have s280 := e_M_week_280 195 (nI w) (sa - sb) K5 R n
  simp only [hM.k, hM.2, zc_t, zr_s, zin208, zixs, Bool.true_or, Bool.true_and, d1 9 (by decide) (by decide) (by decide) (by decide), c1 9 (by decide) (by omega), h9, nI_1] at s280
  obtain ⟨F, f1, f2, f3⟩ := M_week294_ok (I := zup K5 208 9 (nI (w + 1))) (R := R) (n := n) hM (sa - sb) hP (by rw [zup_n _ (by decide), d2 _ _ (by decide)]; exact h17) hw
  have g1 : ∀ j, j ≠ 4 → j ≠ 5 → j ≠ 7 → j ≠ 8 → j ≠ 9 → (j < 11 ∨ 11 + P ≤ j) → F 208 j = K4 208 j := fun j h1 h2 h3 h4 h5 h6 => by
    rw [f3 208 j (fun _ => h6), zup_k _ h5]; exact d1 j h1 h2 h3 h4
  have rowv : ∀ j, 43 + 6 * w ≤ j → F 208 j = K4 208 j := fun j hj => g1 j (by omega) (by omega) (by omega) (by omega) (by omega) (by omega)
  have r4v : ∀ j, 43 + 6 * w ≤ j → j ≠ 43 + 6 * w + 5 → K4 208 j = K2 208 j := fun j h1 h2 => by rw [hK4, zup_k _ (by omega), zup_k _ h2]
  have r2v : ∀ j, 43 + 6 * w ≤ j → j ≠ 43 + 6 * w + 4 → K2 208 j = K1 208 j := fun j h1 h2 => by rw [hK2, zup_k _ h2]
  refine ⟨F, s87'.trans (s116'.trans (s143.trans (s195.trans (s280.trans f1)))), ⟨?_, ?_, ?_, ?_, ?_, ?_⟩, ⟨?_, ?_, ?_, ?_, ?_, ?_⟩, fun i hi => ?_, fun j h1 h2 h3 h4 h5 h6 h7 h8 h9 => ?_, fun b j hb => ?_⟩
  · rw [rowv _ (by omega), r4v _ (by omega) (by omega), r2v _ (by omega) (by omega), hK1, zup_k _ (by omega), zup_k _ (by omega), zup_k _ (by omega), zup_s]
  · rw [rowv _ (by omega), r4v _ (by omega) (by omega), r2v _ (by omega) (by omega), hK1, zup_k _ (by omega), zup_k _ (by omega), zup_s]
  · rw [rowv _ (by omega), r4v _ (by omega) (by omega), r2v _ (by omega) (by omega), hK1, zup_k _ (by omega), zup_s]
  · rw [rowv _ (by omega), r4v _ (by omega) (by omega), r2v _ (by omega) (by omega), hK1, zup_s]
  · rw [rowv _ (by omega), r4v _ (by omega) (by omega), hK2, zup_s]
  · rw [rowv _ (by omega), hK4, zup_k _ (by omega), zup_s]
  · rw [g1 10 (by decide) (by decide) (by decide) (by decide) (by decide) (by omega), hK4, zup_s]
  · rw [f3 208 4 (fun _ => by omega), zup_k _ (by decide), hK5, zup_k _ (by decide), zup_k _ (by decide), zup_k _ (by decide), zup_s]
  · rw [f3 208 5 (fun _ => by omega), zup_k _ (by decide), hK5, zup_k _ (by decide), zup_k _ (by decide), zup_s]
  · rw [f3 208 7 (fun _ => by omega), zup_k _ (by decide), hK5, zup_k _ (by decide), zup_s]
  · rw [f3 208 8 (fun _ => by omega), zup_k _ (by decide), hK5, zup_s]
  · rw [f3 208 9 (fun _ => by omega), zup_s]
  · rw [f2 i hi, zup_k _ (by omega), d1 _ (by omega) (by omega) (by omega) (by omega), c1 _ (by omega) (by omega), zup_n _ (by decide), zup_n _ (by decide), zup_n _ (by decide), d2 _ _ (by decide), d2 _ _ (by decide), d2 _ _ (by decide)]
  · rw [g1 j h2 h3 h4 h5 h6 h8]; exact c1 j h7 h9
  · rw [f3 b j (fun e => absurd e hb), zup_n _ hb]; exact d2 b j hb
theorem p_week (h : zInv q I R n) (hq : q ≤ 100000) : zAg q I R n (C_week 0) (M_week 195) := by
  have W := h.1
  have hM := W.M
  have sc := e_C_week 0 I R n
  have r0 := C_refuse_ok (I := I) W (k := 0) (by decide) (x := 0) nI_0.symm
  have z0 := zin150 (show 0 < 5 by decide)
  rw [nI_0] at z0
  rcases h.2.2 with k | ⟨L, L', P, Wk, z, m, t, k⟩
  · have sm := e_M_week 195 (zup I 150 0 (I 150 0 + 1)) R n
    simp only [W.k, C_inPlay_N W k, zc_t, zbI_s, if_true, r0] at sc
    simp only [hM.k, hM.2, zr_s, M_isPlaying_N hM (show zup (zup I 150 0 (I 150 0 + 1)) 195 0 0 195 18 = 0 by rw [zup_k _ (by decide), zup_n _ (by decide)]; exact k.2.1.2), zc_t, zbI_s, if_true, z0, zixs, Bool.true_or, Bool.true_and] at sm
    exact zAg_ref h (by decide) sc sm
  · have g := k.2.2.1
    have hL := W.L k.1.1
    have hP := g.1.2.1
    have hWk := g.2.1.2.1
    have i1 := isL_i k.1.1
    obtain ⟨be, mo, w, f, sw, O, u, l, a1, a2, a3, a4, a5, a6, a7, a8, a9, a10, a11, a12, a13, a14⟩ := k.2.2.2.2.2.1
    have hO2 := z65 a7.2.2.1 hP
    have r8 : ∀ {J : ZI}, zrf I J → ∀ j, J 208 j = I 208 j := fun f j => f 208 j (by decide) (by omega)
    simp only [W.k, W.1, C_inPlay_L W k a1.1 a3.1 a3.2.2, zc_t, zr_s, zbI_s, r0] at sc
    cases hbw : (be && decide (w < Wk)) with
    | false =>
      rw [hbw, if_pos (by decide)] at sc
      have sm := e_M_week 195 (zup I 150 0 (I 150 0 + 1)) R n
      have fr := zrf_r I 0 (I 150 0 + 1)
      simp only [hM.k, hM.2, zr_s, M_isPlaying_L hM (zrf_k k fr).2.2.1 (zrf_k k fr).2.1.2 (show zup (zup I 150 0 (I 150 0 + 1)) 195 0 0 208 0 = zbo be by rw [r8 fr]; exact a1.2) (show zup (zup I 150 0 (I 150 0 + 1)) 195 0 0 208 9 = nI w by rw [r8 fr]; exact a3.2.1) a3.2.2, hbw, zc_t, zbI_s, if_pos (show zbo false = 0 by decide), z0, zixs, Bool.true_or, Bool.true_and] at sm
      exact zAg_ref h (by decide) sc sm
    | true =>
      have hbe : be = true := by cases be with | true => rfl | false => cases hbw
      have hwW : w < Wk := by
        rw [hbe, Bool.true_and] at hbw
        exact of_decide_eq_true hbw
      subst hbe
      rw [hbw, if_neg (by decide)] at sc
      obtain ⟨I1, c1, c8, act⟩ := zact_all h k
      have i10 : ∀ b j, b < 28 → I1 b j = I b j := fun b j hb => c8 b j (Or.inl hb)
      have hbI1 : ∀ b, L ≤ b → b < L + 22 → I1 b = I b := fun b h1 h2 => funext fun j => c8 b j (by omega)
      obtain ⟨cb, cb1, cb2, cb3⟩ := a6 rfl
      obtain ⟨cost, -, co9, co1, co2⟩ := g.2.2.2.1 3 (by decide)
      have co2 : I 198 7 = nI cost := co2
      -- team and captain
      obtain ⟨S, b, hS, hb, hteam⟩ : ∃ S b, S < 2 ^ P ∧ b < P ∧ ((I 10 10 = 2 ∧ S = l ∧ zcap l (I (L + 8 + w)) P = some b) ∨ (¬ I 10 10 = 2 ∧ S = O ∧ b = cb)) := by
        by_cases c2 : I 10 10 = 2
        · have ht : cTeam I L l P := by
            rcases a9.2 with y | y | y | y
            · rw [y] at c2; exact absurd c2 (by decide)
            · rw [y] at c2; exact absurd c2 (by decide)
            · rw [y] at c2; exact absurd c2 (by decide)
            · exact y.2.2.2.1
          have ne := zcap_ne (I (L + 8 + w)) (zteam_f g a11.2.2 ht).1 a11.2.2
          cases hz : zcap l (I (L + 8 + w)) P with
          | none => exact absurd hz ne
          | some b => exact ⟨l, b, a11.2.2, (zcap_lt hz).1, Or.inl ⟨c2, rfl, rfl⟩⟩
        · exact ⟨O, cb, a7.2.2.1, cb1, Or.inr ⟨c2, rfl, rfl⟩⟩
      have hS2 := z65 hS hP
      obtain ⟨C, o1, o2⟩ : ∃ C, Se_playWeek 10 L I1 R n = some (some (.int (zscore S P b (I1 (L + 8 + w)) (I1 10 10) (I1 10 6) (I1 10 5) (I1 (L + 2) 3))), C, R, n) ∧ zWeekd I1 C 10 w (zscore S P b (I1 (L + 8 + w)) (I1 10 10) (I1 10 6) (I1 10 5) (I1 (L + 2) 3)) (nI S) (nI b) (I1 10 3 + zsum O (fun i => zbrings (I1 (L + 15 + w) i) (I1 (10 + 1) i)) 16) := by
        rcases hteam with ⟨y1, y2, y3⟩ | ⟨y1, y2, y3⟩
        · subst y2
          exact Se_playWeek_lent (I := I1) W.S hL (show w < 6 by omega) (by rw [i10 _ _ (by decide)]; exact a3.1) (by rw [i10 _ _ (by decide)]; exact a7.1) (by omega) (by rw [i10 _ _ (by decide)]; exact a11.1) (by omega) hP (by rw [hbI1 L (by omega) (by omega)]; exact g.1.2.2.1) (by rw [hbI1 _ (by omega) (by omega)]; exact y3) (by rw [i10 _ _ (by decide)]; exact y1)
        · subst y2; subst y3
          exact Se_playWeek_own (I := I1) W.S hL (show w < 6 by omega) (by rw [i10 _ _ (by decide)]; exact a3.1) (by rw [i10 _ _ (by decide)]; exact a7.1) (by omega) hP (by rw [hbI1 L (by omega) (by omega)]; exact g.1.2.2.1) cb1 (by rw [i10 _ _ (by decide)]; exact cb2) (by rw [i10 _ _ (by decide)]; exact y1)
      rw [hbI1 (L + 8 + w) (by omega) (by omega), hbI1 (L + 2) (by omega) (by omega), i10 10 10 (by decide), i10 10 6 (by decide), i10 10 5 (by decide), co1, a5.1, a4.1] at o1 o2
      rw [hbI1 (L + 15 + w) (by omega) (by omega), show I1 (10 + 1) = I 11 from funext fun j => i10 11 j (by decide), i10 10 3 (by decide)] at o2
      obtain ⟨⟨p1, p2, p3, p4, p5, p6⟩, ⟨t0, t1, t2, t3, t4, t5⟩, ⟨s1, s2, s3, s4, s5⟩, o6⟩ := o2
      rw [i10 10 4 (by decide), a3.1, nI_1] at p1
      rw [i10 10 5 (by decide), i10 10 10 (by decide), i10 10 6 (by decide), a4.1, a5.1] at p2
      rw [i10 10 11 (by decide)] at p5
      rw [i10 10 10 (by decide)] at t3
      rw [i10 10 6 (by decide)] at t4
      rw [i10 10 2 (by decide)] at s1
      rw [i10 10 3 (by decide)] at s2
      rw [i10 10 7 (by decide)] at s3
      rw [i10 10 8 (by decide)] at s4
      rw [i10 10 9 (by decide)] at s5
      simp only [c1, zbV_s, W.k, W.1, zc_t, zr_s, k.1.2.2.2.1, o1, zbI_s] at sc
      obtain ⟨d8, hbJ, gJ, j18', K, k1, k5, K8, fin⟩ := act C (fun b j hb => o6 b j (by omega) (by omega))
      have K6 : ∀ i, i < P → K 206 (6 * i + w) = I (L + 8 + w) i := fun i hi => by
        rw [k5 206 _ (by decide) (by omega), ← (gJ.2.2.2.2.2.2.2.1 w i hwW hi).1, hbJ _ (by omega) (by omega)]
      have K17 : K 195 17 = nI P := by rw [k5 _ _ (by decide) (by decide)]; exact gJ.1.2.2.2
      have rl : ∀ kk, kk < 6 → K 198 (4 + kk) = I (L + 2) kk := fun kk hkk => by
        obtain ⟨v, -, -, v1, v2⟩ := gJ.2.2.2.1 kk hkk
        rw [k5 198 _ (by decide) (by omega), v2, ← v1, hbJ _ (by omega) (by omega)]
      have rl3 : K 198 7 = nI cost := by rw [show K 198 7 = I (L + 2) 3 from rl 3 (by decide)]; exact co1
      obtain ⟨F, f1, ⟨q0, q1, q2, q3, q4, q5⟩, ⟨u1, u2, u3, u4, u5, u6⟩, f4, f5, f6⟩ := M_week87_ok (K := K) (R := R) (n := n) (chip := I 10 10) (S := S) (b := b) (O := O) hM (show w < 6 by omega) (by omega) (show b < 16 by omega) hP K17 (by rw [K8, a1.2]; rfl) (by rw [K8]; exact a7.2.1) (by omega) (by rw [K8]; exact a3.2.1)
      have es : zsum S (fun i => K 206 (6 * i + w)) P = zsum S (I (L + 8 + w)) P := zsum_congr (fun i hi _ => K6 i hi)
      have escore : zsum S (fun i => K 206 (6 * i + w)) P + K 206 (6 * b + w) * (if I 10 10 = 0 then 2 else 1) - (if I 10 10 = 1 then 0 else K 198 7 * zmax 0 (K 208 5 - K 208 4)) = zscore S P b (I (L + 8 + w)) (I 10 10) (nI sw) (nI f) (nI cost) := by
        rw [es, K6 b hb, rl3, K8, K8, a5.2.1, a4.2.1]
        unfold zscore
        rw [zadd_sub, Int32.mul_comm (I (L + 8 + w) b)]
        congr 1
        unfold zuse
        have f1' := a4.2.2.2 rfl
        have fq : zmax 0 ((0 : Int32) - nI f) = 0 := by
          have f2' := a4.2.2.1
          have e := zmx0 (s := 0) (f := f) (by decide) (by omega)
          rw [show 0 - f = 0 by omega, nI_0] at e
          exact e
        by_cases e1 : I 10 10 = 1
        · rw [if_pos e1, if_pos e1, fq, Int32.zero_mul]
        · rw [if_neg e1, if_neg e1]
          by_cases e2 : I 10 10 = 2
          · have sw0 : sw = 0 := by
              rcases a9.2 with y | y | y | y
              · rw [y] at e2; exact absurd e2 (by decide)
              · rw [y] at e2; exact absurd e2 (by decide)
              · rw [y] at e2; exact absurd e2 (by decide)
              · exact y.2.2.1
            rw [if_pos e2, fq, sw0, nI_0, fq, Int32.mul_zero, Int32.zero_mul]
          · rw [if_neg e2, Int32.mul_comm]
      rw [escore] at f1 q0 u1
      have sm := e_M_week 195 C R n
      have k9 : K 208 9 = nI w := by rw [K8]; exact a3.2.1
      have k7 : K 208 7 = I 10 10 := by rw [K8, a9.1]
      simp only [hM.k, hM.2, M_isPlaying_L hM gJ j18' (show zup C 195 0 0 208 0 = zbo true by rw [d8]; exact a1.2) (show zup C 195 0 0 208 9 = nI w by rw [d8]; exact a3.2.1) a3.2.2, hbw, zc_t, zr_s, zbI_s, if_neg (show ¬ zbo true = 0 by decide), zin208, zixs, Bool.true_or, Bool.true_and, k1, zbV_s, k9, k7] at sm
      have sm2 : M_week 195 C R n = M_week_87 195 (nI w) (I 10 10) (nI S) (nI b) K R n := by
        rw [sm]
        rcases hteam with ⟨y1, y2, y3⟩ | ⟨y1, y2, y3⟩
        · subst y2
          have s66 := e_M_week_66 195 (nI w) (I 10 10) (nI S) K R n
          have bc := M_bestCaptain_ok (I := K) (R := R) (n := n) hM (S := S) (by omega) hP K17 (show w < 6 by omega)
          rw [zcap_c (g := I (L + 8 + w)) (fun i hi _ => K6 i hi), y3, zo_some] at bc
          rw [if_pos y1] at s66
          simp only [hM.k, zc_t, bc, zbI_s] at s66
          rw [if_pos y1, K8, a11.2.1]
          exact s66
        · subst y2; subst y3
          have s66 := e_M_week_66 195 (nI w) (I 10 10) (nI S) K R n
          rw [if_neg y1] at s66
          simp only [hM.k, hM.2, zc_t, zr_s, zin208, zixs, Bool.true_or, Bool.true_and, K8, cb3] at s66
          rw [if_neg y1, K8, a7.2.1]
          exact s66
      obtain ⟨hbF, fin2⟩ := fin F f6
      refine ⟨_, C, R, n, F, R, n, sc, sm2.trans f1, fin2 ?_⟩
      have e15 := hbF (L + 15 + w) (by omega) (by omega)
      have su : ∃ s', s' < 2 ^ 30 ∧ zuse (I 10 10) (nI sw) = nI s' := by
        unfold zuse
        by_cases e1 : I 10 10 = 1
        · rw [if_pos e1]; exact ⟨0, by decide, nI_0.symm⟩
        · rw [if_neg e1]
          by_cases e2 : I 10 10 = 2
          · rw [if_pos e2]; exact ⟨0, by decide, nI_0.symm⟩
          · rw [if_neg e2]; exact ⟨sw, by have := a5.2.2; omega, rfl⟩
      obtain ⟨s', s'1, s'2⟩ := su
      have fbv := zfb_M (a4.2.2.2 rfl) a4.2.2.1 s'1
      rw [s'2] at p2
      have u2' : F 208 4 = nI (if s' < f then 2 else 1) := by
        rw [u2, K8, K8, a4.2.1, a5.2.1, ← fbv, ← s'2]; rfl
      have fk : ∀ j, j < 79 → j ≠ 4 → j ≠ 5 → j ≠ 7 → j ≠ 8 → j ≠ 9 → j ≠ 10 → (j < 11 ∨ 11 + P ≤ j) → (j < 43 + 6 * w ∨ 43 + 6 * w + 6 ≤ j) → F 208 j = I 208 j := fun j h0 h1 h2 h3 h4 h5 h6 h7 h8 => by rw [f5 j h0 h1 h2 h3 h4 h5 h6 h7 h8]; exact K8 j
      refine ⟨true, mo, w + 1, if s' < f then 2 else 1, 0, O, u, 0, ⟨by rw [s1]; exact a1.1, ?_⟩, ⟨by rw [s2]; exact a2.1, ?_, by have := a2.2.2; omega⟩, ⟨p1, u6, by omega⟩, ⟨by rw [p2, fbv], u2', by split <;> omega, fun _ => by split <;> omega⟩, ⟨p3.trans nI_0.symm, u3.trans nI_0.symm, by omega⟩, fun _ => ⟨cb, cb1, by rw [s3]; exact cb2, ?_⟩, ⟨by rw [s4]; exact a7.1, ?_, a7.2.2.1, fun _ => by rw [cTeam_c hbF]; exact a7.2.2.2.1 rfl, fun e => by cases e⟩, ⟨by rw [s5]; exact a8.1, ?_, a8.2.2⟩, ⟨by rw [p4, u4], Or.inl p4⟩, ?_, ⟨p6.trans nI_0.symm, u5.trans nI_0.symm, Nat.two_pow_pos P⟩, fun i hi ho => ?_, fun w' j h1 h2 => ?_, fun i hi => ?_⟩
      · rw [fk 0 (by omega) (by omega) (by omega) (by omega) (by omega) (by omega) (by omega) (by omega) (by omega)]; exact a1.2
      · rw [fk 2 (by omega) (by omega) (by omega) (by omega) (by omega) (by omega) (by omega) (by omega) (by omega)]; exact a2.2.1
      · rw [fk 3 (by omega) (by omega) (by omega) (by omega) (by omega) (by omega) (by omega) (by omega) (by omega)]; exact cb3
      · rw [fk 1 (by omega) (by omega) (by omega) (by omega) (by omega) (by omega) (by omega) (by omega) (by omega)]; exact a7.2.1
      · rw [fk 6 (by omega) (by omega) (by omega) (by omega) (by omega) (by omega) (by omega) (by omega) (by omega)]; exact a8.2.1
      · rw [p5, u1, K8, a10]
      · rw [show C 11 i = I 11 i by rw [o6 11 i (by decide) (by omega)]; exact i10 11 i (by decide), fk (27 + i) (by omega) (by omega) (by omega) (by omega) (by omega) (by omega) (by omega) (by omega) (by omega)]
        exact a12 i hi ho
      · show C (13 + w') j = _
        by_cases e : w' = w
        · subst e
          have j6 : j = 0 ∨ j = 1 ∨ j = 2 ∨ j = 3 ∨ j = 4 ∨ j = 5 := by omega
          rcases j6 with rfl | rfl | rfl | rfl | rfl | rfl
          · exact (show C (13 + w') 0 = _ from t0).trans q0.symm
          · exact (show C (13 + w') 1 = _ from t1).trans q1.symm
          · exact (show C (13 + w') 2 = _ from t2).trans q2.symm
          · exact (show C (13 + w') 3 = _ from t3).trans q3.symm
          · refine (show C (13 + w') 4 = _ from t4).trans ?_
            rw [show 43 + (6 * w' + 4) = 43 + 6 * w' + 4 by omega, q4, K8, a5.1, a5.2.1]
          · refine (show C (13 + w') 5 = _ from t5).trans ?_
            rw [show 43 + (6 * w' + 5) = 43 + 6 * w' + 5 by omega, q5, K8, a2.1, a2.2.1]
            rw [zsum16 (g := fun i => zbrings (K 208 (11 + i)) (K 208 (27 + i))) a7.2.2.1 hP (fun i hi ho => by
              obtain ⟨v, -, -, v1, v2⟩ := a12 i hi ho
              rw [K8, K8, v1, v2, a14 i hi])]
        · rw [o6 (13 + w') j (by omega) (by omega), i10 (13 + w') j (by omega), fk _ (by omega) (by omega) (by omega) (by omega) (by omega) (by omega) (by omega) (by omega) (by omega)]
          exact a13 w' j (by omega) h2
      · rw [f4 i hi, K8, a14 i hi, K6 i hi, show K 198 8 = I (L + 2) 4 from rl 4 (by decide), show K 198 9 = I (L + 2) 5 from rl 5 (by decide), hbF _ (by omega) (by omega)]
        have m1 := (g.2.2.2.2.2.2.1 w i a3.2.2 hi).2
        have m2 := (g.2.2.2.2.2.2.1 (w + 1) i (by omega) hi).2
        rw [m2]
        show _ = zmoved (mFore I i w) (I 206 (6 * i + w)) (I 198 8) (I 198 9)
        rw [← m1, (g.2.2.2.2.2.2.2.1 w i hwW hi).1]
        obtain ⟨v4, -, -, v41, v42⟩ := g.2.2.2.1 4 (by decide)
        obtain ⟨v5, -, -, v51, v52⟩ := g.2.2.2.1 5 (by decide)
        rw [v41, v51, show I 198 8 = nI v4 from v42, show I 198 9 = nI v5 from v52]
end LWk
