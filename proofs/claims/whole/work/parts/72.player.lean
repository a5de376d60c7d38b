/-! ===== a player's line on both sides ===== -/
section LPy
variable {R R' : ZR} {n n' L : Nat} {T : Nat × (Nat → Nat)}
theorem zpv_r {a : Nat} (h : znum T (zps T a) 3 0 99 = true) : -99 ≤ (zpv T a).toInt ∧ (zpv T a).toInt ≤ 99 := by
  have hv : zvl T (zps T a) ≤ 99 := by
    unfold znum at h
    rw [Bool.and_eq_true, Bool.and_eq_true, Bool.and_eq_true] at h
    exact of_decide_eq_true h.2.2.2
  have k : ∀ v, v < 100 → (-99 ≤ (nI v).toInt ∧ (nI v).toInt ≤ 99) ∧ (-99 ≤ (-(nI v)).toInt ∧ (-(nI v)).toInt ≤ 99) := by decide +kernel
  unfold zpv
  by_cases q : zsgn T (zsk T a) 45 = true
  · rw [if_pos q]; exact (k _ (by omega)).2
  · rw [if_neg q]; exact (k _ (by omega)).1
theorem zstop (hM : WM R' n') {M : ZI} {Wk P : Nat} (w1 : M 197 6 = nI Wk) (p3 : M 195 15 = nI P) (m4 : ¬ M 195 4 = -1) (x : Int32) : M_playerHere_82 195 x M R' n' = some (none, zup M 195 15 (nI (P + 1)), R', n') := by
  have e6 : zix 6 = 6 := by decide
  have i6 : zin 197 6 = true := by decide
  have st := e_M_playerHere_82 195 x M R' n'
  simp only [hM.k, hM.2, zc_t, zr_s, Bool.true_or, Bool.true_and, e6, i6, w1, p3, nI_1, if_neg m4] at st
  rw [st]
  by_cases q : x < nI Wk
  · rw [if_pos q]
  · rw [if_neg q]
theorem zweeks (h : WRd R n) (hM : WM R' n') (hL : WL R n L) (r31 : R 3 1 = some L) (hz : zTp T) {m P Wk : Nat} (hP : P < 16) : ∀ d w (C M : ZI) a, w + d = Wk → zGG T L C M a m P Wk → zPl C M L w P → ∃ v C' M', Rd_readPlayer_79 3 (nI P) (nI w) C R n = some (some (.int v), C', R, n) ∧ M_playerHere_82 195 (nI w) M R' n' = some (none, M', R', n') ∧ zFC L C C' ∧ zFM M M' ∧ ((v = 0 ∧ zBad T C' M') ∨ (v = 1 ∧ ∃ a', a ≤ a' ∧ zGG T L C' M' a' m (P + 1) Wk)) := by
  have hl := isL_i hL.2.1
  have t6 : (6 : Int32) = nI 6 := by decide
  have e2 : zix 2 = 2 := by decide
  have e6 : zix 6 = 6 := by decide
  have i6 : zin 197 6 = true := by decide
  intro d
  induction d with
  | zero =>
    intro w C M a hw g hp
    obtain ⟨D, ha, c5, m3, m4⟩ := g
    have hD := D
    obtain ⟨-, -, r, ⟨w1, w2⟩, -, ⟨p1, p2, p3⟩, -⟩ := hD
    obtain ⟨v, v1, v2, v3, v4⟩ := r 2 (by decide)
    have ev : nI v = nI Wk := v4.symm.trans w1
    rw [ev] at v3
    have hw0 : w = Wk := by omega
    subst hw0
    have stC := e_Rd_readPlayer_79 3 (nI P) (nI w) C R n
    simp only [h.k, hL.k, hL.r, hL.zrules, r31, zc_t, zr_s, Bool.true_or, Bool.true_and, e2, v3, p2, nI_1] at stC
    rw [if_neg (nI_nlt (Nat.le_refl _) (by omega))] at stC
    have stM := e_M_playerHere_82 195 (nI w) M R' n'
    simp only [hM.k, hM.2, zc_t, zr_s, Bool.true_or, Bool.true_and, e6, i6, w1, p3, nI_1] at stM
    rw [if_neg (nI_nlt (Nat.le_refl _) (by omega))] at stM
    refine ⟨1, _, _, stC, stM, ?_, ?_, Or.inr ⟨rfl, a, Nat.le_refl _, zD_more hL.2.1 D hP hp, ha, ?_, ?_, ?_⟩⟩
    · intro b j h1 h2
      rw [zup_n _ (by omega)]
    · intro b j h1 h2
      by_cases z : b = 195
      · rw [zup_k _ (h2 z).2.2.1]
      · rw [zup_n _ z]
    · rw [zup_n _ (by omega)]; exact c5
    · rw [zup_k _ (by decide)]; exact m3
    · rw [zup_k _ (by decide)]; exact m4
  | succ d ih =>
    intro w C M a hw g hp
    obtain ⟨D, ha, c5, m3, m4⟩ := g
    have hD := D
    obtain ⟨⟨t1, t2⟩, -, r, ⟨w1, w2⟩, -, ⟨p1, p2, p3⟩, -⟩ := hD
    obtain ⟨v, v1, v2, v3, v4⟩ := r 2 (by decide)
    have ev : nI v = nI Wk := v4.symm.trans w1
    rw [ev] at v3
    have hw6 : w < 6 := by omega
    obtain ⟨C1, ec, g1, g2, g3, f1⟩ := Rd_readPoints_ok (R := R) (n := n) h hz ha t1 c5
    obtain ⟨M0, M1, em1, em2, n1, n2, fm⟩ := M_points_ok (R := R') (n := n') hM hz ha t2 m3
    have hps := zps_le (T := T) ha
    have hnx := znx_le T hps.1
    have hl4 := hz.1
    rw [m4] at n2
    have q15 : M1 195 15 = nI P := by rw [fm 195 15 (by decide), p3]
    have e6w : (6 : Int32) * nI P + nI w = nI (6 * P + w) := by rw [t6, pk_mul, nI_add]
    have i2 : zin 202 (nI (6 * P + w)) = true := zin_nI (by show _ < 96; omega) (by omega)
    have i3 : zin (L + 7) (nI w) = true := zin_of hL.ln.2.2.2.2.2.2.1 hw6 (by decide)
    have i4 : zin (L + 8 + w) (nI P) = true := zin_of (hL.rw hw6).2 hP (by decide)
    have stC := e_Rd_readPlayer_79 3 (nI P) (nI w) C R n
    simp only [h.k, hL.k, hL.r, hL.zrules, r31, zc_t, zr_s, Bool.true_or, Bool.true_and, e2, v3, if_pos (nI_lt (show w < Wk by omega) (show Wk < 2 ^ 31 by omega)), t6, if_pos (nI_lt hw6 (show 6 < 2 ^ 31 by omega)), ec, zbI_s, i3, i4, zix_nI (show w < 2 ^ 31 by omega), hL.2.2.2.1 w hw6, (hL.rw hw6).1, zix_nI (show P < 2 ^ 31 by omega), nI_1] at stC
    have stM := e_M_playerHere_82 195 (nI w) M R' n'
    simp only [hM.k, hM.2, zc_t, zr_s, Bool.true_or, Bool.true_and, e6, i6, w1, if_pos m4, if_pos (nI_lt (show w < Wk by omega) (show Wk < 2 ^ 31 by omega)), em1, em2, zbI_s, q15, e6w, i2, zix_nI (show 6 * P + w < 2 ^ 31 by omega), nI_1] at stM
    have stM2 : M_playerHere_82 195 (nI w) M R' n' = M_playerHere_82 195 (nI (w + 1)) (zup M1 202 (6 * P + w) (zpv T a)) R' n' := by
      rw [stM]
      unfold zpv
      cases zsgn T (zsk T a) 45 with
      | true => rw [if_neg (show ¬ zbo true = 0 by decide), if_pos rfl]
      | false => rw [if_pos (show zbo false = 0 by decide), if_neg (by decide)]
    have fmm : ∀ b j, (b = 195 → j ≠ 3 ∧ j ≠ 4) → (b = 202 → j ≠ 6 * P + w) → (zup M1 202 (6 * P + w) (zpv T a)) b j = M b j := fun b j h1 h2 => by
      by_cases z : b = 202
      · rw [zup_k _ (h2 z), fm b j h1]
      · rw [zup_n _ z, fm b j h1]
    have fc1 : ∀ b j, b ≠ 3 → C1 b j = C b j := fun b j hb => f1 b j (fun z => absurd z hb)
    cases hn : znum T (zps T a) 3 0 99 with
    | false =>
      rw [hn, if_pos (show zbo false = 0 by decide)] at stC
      rw [hn, if_neg (by decide), if_pos rfl] at n2
      have s := zstop hM (M := zup M1 202 (6 * P + w) (zpv T a)) (Wk := Wk) (P := P) (by rw [fmm 197 6 (by decide) (by omega)]; exact w1) (by rw [zup_n _ (by decide)]; exact q15) (by rw [zup_n _ (by decide), n2]; exact nI_nm1 (by omega)) (nI (w + 1))
      refine ⟨0, C1, _, stC, stM2.trans s, ?_, ?_, Or.inl ⟨rfl, zps T a, hps.1, g1, ?_⟩⟩
      · intro b j h1 _; exact fc1 b j h1
      · intro b j h1 h2
        by_cases z : b = 195
        · rw [zup_k _ (h2 z).2.2.1, fmm b j (fun z => ⟨(h2 z).1, (h2 z).2.1⟩) (fun z => by omega)]
        · rw [zup_n _ z, fmm b j (fun z => ⟨(h2 z).1, (h2 z).2.1⟩) (fun z => by omega)]
      · rw [zup_k _ (by decide), zup_n _ (by decide)]; exact n2
    | true =>
      rw [hn, if_neg (show ¬ zbo true = 0 by decide)] at stC
      rw [hn, if_pos rfl] at n2
      rw [g3 hn] at stC
      have hr := zpv_r hn
      have D2 : zD T L (zup C1 (L + 8 + w) P (zpv T a)) (zup M1 202 (6 * P + w) (zpv T a)) m P Wk := by
        refine zD_fr hL.2.1 D ?_ ?_ ?_
        · rw [zup_n _ (by omega), f1 3 2 (by decide)]
        · intro b j h1 h2
          by_cases z : b = L + 8 + w
          · rw [zup_k _ (fun z2 => h2 ⟨z2, by omega, by omega⟩), fc1 b j h1]
          · rw [zup_n _ z, fc1 b j h1]
        · intro b j h1 h2 h3
          exact fmm b j h1 (fun z => by have := h3 z; omega)
      have p2' : zPl (zup C1 (L + 8 + w) P (zpv T a)) (zup M1 202 (6 * P + w) (zpv T a)) L (w + 1) P := by
        obtain ⟨⟨u1, y1, y2, y3⟩, ⟨u2, y4, y5, y6⟩, ⟨u3, y7, y8, y9, y10⟩, pp⟩ := hp
        have cc : ∀ b, b ≠ 3 → b ≠ L + 8 + w → (zup C1 (L + 8 + w) P (zpv T a)) b P = C b P := fun b h1 h2 => by rw [zup_n _ h2, fc1 b P h1]
        refine ⟨⟨u1, y1, by rw [cc _ (by omega) (by omega)]; exact y2, by rw [fmm _ _ (by omega) (by omega)]; exact y3⟩, ⟨u2, y4, by rw [cc _ (by omega) (by omega)]; exact y5, by rw [fmm _ _ (by omega) (by omega)]; exact y6⟩, ⟨u3, y7, y8, by rw [cc _ (by omega) (by omega)]; exact y9, by rw [fmm _ _ (by omega) (by omega)]; exact y10⟩, fun w' hw' => ?_⟩
        by_cases z : w' = w
        · rw [z]
          exact ⟨zpv T a, hr.1, hr.2, zup_s _ _ _ _, zup_s _ _ _ _⟩
        · obtain ⟨x, x1, x2, x3, x4⟩ := pp w' (by omega)
          exact ⟨x, x1, x2, by rw [cc _ (by omega) (by omega)]; exact x3, by rw [fmm _ _ (by omega) (by omega)]; exact x4⟩
      obtain ⟨v, C', M', eC, eM, fC, fM, out⟩ := ih (w + 1) _ _ (znx T (zps T a)) (by omega) ⟨D2, hnx.1, by rw [zup_n _ (by omega)]; exact g2, by rw [zup_n _ (by decide)]; exact n1 hn, by rw [zup_n _ (by decide)]; exact n2⟩ p2'
      refine ⟨v, C', M', stC.trans eC, stM2.trans eM, ?_, ?_, ?_⟩
      · intro b j h1 h2
        rw [fC b j h1 h2, zup_n _ (by omega), fc1 b j h1]
      · intro b j h1 h2
        rw [fM b j h1 h2, fmm b j (fun z => ⟨(h2 z).1, (h2 z).2.1⟩) (fun z => by omega)]
      · rcases out with o | ⟨o1, a', o2, o3⟩
        · exact Or.inl o
        · exact Or.inr ⟨o1, a', by omega, o3⟩
theorem zplayer (h : WRd R n) (hM : WM R' n') (hL : WL R n L) (r31 : R 3 1 = some L) (hz : zTp T) {m P Wk a k : Nat} {C M : ZI} (g : zGG T L C M a m P Wk) (hP : P < 16) (hk : k < 4) (f : Int32) : ∃ v C' M', Rd_readPlayer 3 (nI k) C R n = some (some (.int v), C', R, n) ∧ M_playerHere 195 (nI k) f M R' n' = some (none, M', R', n') ∧ zFC L C C' ∧ zFM M M' ∧ ((v = 0 ∧ zBad T C' M') ∨ (v = 1 ∧ ∃ a', a ≤ a' ∧ zGG T L C' M' a' m (P + 1) Wk)) := by
  have hl := isL_i hL.2.1
  have hl4 := hz.1
  obtain ⟨D, ha, c5, m3, m4⟩ := g
  have hD := D
  obtain ⟨⟨t1, t2⟩, -, r, ⟨w1, w2⟩, -, ⟨p1, p2, p3⟩, -⟩ := hD
  have t16 : (16 : Int32) = nI 16 := by decide
  have hs1 := zsk_le T ha
  have hx1 := znx_le T hs1.1
  have hs2 := zsk_le T hx1.1
  have hx2 := znx_le T hs2.1
  -- the class
  have tc0 : tpC (zup C (L + 3) P (nI k)) T := ⟨by rw [zup_n _ (by omega)]; exact t1.1, fun i hi => by rw [zup_n _ (by omega)]; exact t1.2 i hi⟩
  obtain ⟨C1, e1, k1, f1⟩ := Rd_step_ok (R := R) (n := n) h hz ha tc0 (by rw [zup_n _ (by omega)]; exact c5)
  have tc1 : tpC C1 T := ⟨by rw [f1 1 1 (by decide)]; exact tc0.1, fun i hi => by rw [f1 2 i (fun z => absurd z (by decide))]; exact tc0.2 i hi⟩
  have cl := Rd_clubNamed_ok (R := R) (n := n) h tc1 hz hs1.1 k1
  have i3 : zin (L + 3) (nI P) = true := zin_of hL.ln.2.2.1 hP (by decide)
  have i4 : zin (L + 4) (nI P) = true := zin_of hL.ln.2.2.2.1 hP (by decide)
  have i5 : zin (L + 15) (nI P) = true := zin_of (hL.pw (show 0 < 7 by decide)).2 hP (by decide)
  have i6 : zin (L + 14) 0 = true := by rw [← nI_0]; exact zin_of hL.ln.2.2.2.2.2.2.2 (by decide) (by decide)
  have ez : zix 0 = 0 := by decide
  have rp : R (L + 14) 0 = some (L + 15) := hL.2.2.2.2 0 (by decide)
  have kp : zis n (L + 15) 20 = true := (hL.pw (show 0 < 7 by decide)).1
  have stC := e_Rd_readPlayer 3 (nI k) C R n
  simp only [h.k, hL.k, hL.r, r31, zc_t, zr_s, p2, i3, i4, Bool.true_and, zix_nI (show P < 2 ^ 31 by omega), e1, zbV_s, cl, zbI_s] at stC
  have fc1 : ∀ b j, b ≠ 3 → ¬ (b = L + 3 ∧ j = P) → C1 b j = C b j := fun b j h1 h2 => by
    rw [f1 b j (fun z => absurd z h1)]
    by_cases z : b = L + 3
    · rw [zup_k _ (fun y => h2 ⟨z, y⟩)]
    · rw [zup_n _ z]
  -- the reference
  have tm0 : tpM (zup M 199 P (nI k)) T := ⟨by rw [zup_n _ (by decide)]; exact t2.1, fun i hi => by rw [zup_n _ (by decide)]; exact t2.2 i hi⟩
  obtain ⟨M1, q1, a1, g1⟩ := M_letter_ok (R := R') (n := n') hM hz ha tm0 (by rw [zup_n _ (by decide)]; exact m3) (f := 97) (m := 5) (x1 := 97) (x2 := 5) (by decide) (by decide) (by decide) (by decide)
  have j199 : zin 199 (nI P) = true := zin_nI (by show _ < 16; omega) (by omega)
  have j200 : zin 200 (nI P) = true := zin_nI (by show _ < 16; omega) (by omega)
  have j201 : zin 201 (nI P) = true := zin_nI (by show _ < 16; omega) (by omega)
  have n16 : ¬ nI P = 16 := by rw [t16, nI_eq (by omega) (by omega)]; omega
  have b15 : (zup M 199 P (nI k)) 195 15 = nI P := by rw [zup_n _ (by decide)]; exact p3
  have stM := e_M_playerHere 195 (nI k) f M R' n'
  simp only [hM.k, hM.2, zc_t, zr_s, p3, if_neg n16, j199, j200, j201, Bool.true_and, Bool.true_or, zix_nI (show P < 2 ^ 31 by omega), b15, q1, zbI_s] at stM
  have fm1 : ∀ b j, (b = 195 → j ≠ 3) → ¬ (b = 199 ∧ j = P) → M1 b j = M b j := fun b j h1 h2 => by
    rw [g1 b j h1]
    by_cases z : b = 199
    · rw [zup_k _ (fun y => h2 ⟨z, y⟩)]
    · rw [zup_n _ z]
  cases hc : zlet T (zsk T a) 97 5 with
  | false =>
    rw [hc, if_neg (show ¬ (false = true) by decide), if_pos rfl] at stC
    rw [hc, if_neg (show ¬ (false = true) by decide)] at stM a1
    have d15 : (zup M1 200 P (-1)) 195 15 = nI P := by rw [zup_n _ (by decide), fm1 195 15 (by decide) (by omega)]; exact p3
    have d3 : (zup M1 200 P (-1)) 195 3 = nI (zsk T a) := by rw [zup_n _ (by decide)]; exact a1
    have d4 : (zup M1 200 P (-1)) 195 4 = -1 := by rw [zup_n _ (by decide), fm1 195 4 (by decide) (by omega)]; exact m4
    obtain ⟨M2, q2, a2, g2⟩ := M_fails_ok (R := R') (n := n') (I := zup M1 200 P (-1)) hM (nI (zsk T a))
    rw [if_pos d4] at a2
    simp only [hM.k, hM.2, zc_t, zr_s, d15, j200, Bool.true_and, Bool.true_or, zix_nI (show P < 2 ^ 31 by omega), zup_s, if_true, d3, q2, zbV_s] at stM
    refine ⟨0, C1, M2, stC, stM, ?_, ?_, Or.inl ⟨rfl, zsk T a, hs1.1, k1.2.1, a2⟩⟩
    · intro b j h1 h2; exact fc1 b j h1 (by omega)
    · intro b j h1 h2
      rw [g2 b j (fun z => (h2 z).2.1), zup_n _ (by omega), fm1 b j (fun z => (h2 z).1) (by omega)]
  | true =>
    have hlet := hc
    unfold zlet at hlet
    rw [Bool.and_eq_true, Bool.and_eq_true] at hlet
    have lo := of_decide_eq_true hlet.2.1
    have hi := of_decide_eq_true hlet.2.2
    have hcv : T.2 (zsk T a) - 97 < 6 := by omega
    have nm : ¬ nI (T.2 (zsk T a) - 97) = -1 := nI_nm1 (by omega)
    rw [hc, if_pos rfl, if_neg nm] at stC
    rw [hc, if_pos rfl] at stM a1
    generalize T.2 (zsk T a) - 97 = c at stC stM hcv nm
    have tc2 : tpC (zup C1 (L + 4) P (nI c)) T := ⟨by rw [zup_n _ (by omega)]; exact tc1.1, fun i hi => by rw [zup_n _ (by omega)]; exact tc1.2 i hi⟩
    obtain ⟨C3, e3, k3, f3⟩ := Rd_step_ok (R := R) (n := n) h hz hx1.1 tc2 (by rw [zup_n _ (by omega)]; exact k1.2.2.1)
    have nu := Rd_isNumber_ok (R := R) (n := n) h hz hs2.1 k3 (d := 3) (lo := 1) (hi := 99) (x1 := 3) (x2 := 1) (x3 := 99) (by decide) (by decide) (by decide) (by decide) (by decide) (by decide)
    simp only [h.k, hL.k, hL.r, r31, zc_t, zr_s, i4, i5, i6, ez, rp, kp, Bool.true_or, Bool.true_and, zix_nI (show P < 2 ^ 31 by omega), e3, zbV_s, nu, zbI_s] at stC
    have fc3 : ∀ b j, b ≠ 3 → ¬ (b = L + 3 ∧ j = P) → ¬ (b = L + 4 ∧ j = P) → C3 b j = C b j := fun b j h1 h2 h3 => by
      rw [f3 b j (fun z => absurd z h1)]
      by_cases z : b = L + 4
      · rw [zup_k _ (fun y => h3 ⟨z, y⟩), fc1 b j h1 h2]
      · rw [zup_n _ z, fc1 b j h1 h2]
    have fm2 : ∀ b j, (b = 195 → j ≠ 3) → ¬ (b = 199 ∧ j = P) → ¬ (b = 200 ∧ j = P) → (zup M1 200 P (nI c)) b j = M b j := fun b j h1 h2 h3 => by
      by_cases z : b = 200
      · rw [zup_k _ (fun y => h3 ⟨z, y⟩), fm1 b j h1 h2]
      · rw [zup_n _ z, fm1 b j h1 h2]
    have tm2 : tpM (zup M1 200 P (nI c)) T := ⟨by rw [fm2 195 2 (by decide) (by omega) (by omega)]; exact t2.1, fun i hi => by rw [fm2 196 i (by omega) (by omega) (by omega)]; exact t2.2 i hi⟩
    have d15 : (zup M1 200 P (nI c)) 195 15 = nI P := by rw [fm2 195 15 (by decide) (by omega) (by omega)]; exact p3
    have d4 : (zup M1 200 P (nI c)) 195 4 = -1 := by rw [fm2 195 4 (by decide) (by omega) (by omega)]; exact m4
    obtain ⟨M3, q3, a3, b3, g3⟩ := M_number_ok (R := R') (n := n') hM hz hx1.1 tm2 (by rw [zup_n _ (by decide)]; exact a1) (d := 3) (lo := 1) (hi := 99) (x1 := 3) (x2 := 1) (x3 := 99) (by decide) (by decide) (by decide) (by decide) (by decide) (by decide)
    rw [d4] at b3
    simp only [hM.k, hM.2, zc_t, zr_s, d15, j200, j201, Bool.true_and, Bool.true_or, zix_nI (show P < 2 ^ 31 by omega), zup_s, if_neg nm, q3, zbI_s] at stM
    have fm3 : ∀ b j, (b = 195 → j ≠ 3 ∧ j ≠ 4) → (b = 199 ∨ b = 200 ∨ b = 201 → j ≠ P) → ∀ v, (zup M3 201 P v) b j = M b j := fun b j h1 h2 v => by
      have e : M3 b j = M b j := by rw [g3 b j h1, fm2 b j (fun z => (h1 z).1) (by omega) (by omega)]
      by_cases z : b = 201
      · rw [zup_k _ (h2 (Or.inr (Or.inr z))), e]
      · rw [zup_n _ z, e]
    cases hn : znum T (zsk T (znx T (zsk T a))) 3 1 99 with
    | false =>
      rw [hn, if_pos (show zbo false = 0 by decide)] at stC
      rw [hn, if_neg (by decide), if_pos rfl] at b3
      have s := zstop hM (M := zup M3 201 P (nI (zvl T (zsk T (znx T (zsk T a)))))) (Wk := Wk) (P := P) (by rw [fm3 197 6 (by decide) (by omega)]; exact w1) (by rw [fm3 195 15 (by decide) (by omega)]; exact p3) (by rw [zup_n _ (by decide), b3]; exact nI_nm1 (by omega)) 0
      refine ⟨0, C3, _, stC, stM.trans s, ?_, ?_, Or.inl ⟨rfl, _, hs2.1, k3.2.1, ?_⟩⟩
      · intro b j h1 h2; exact fc3 b j h1 (by omega) (by omega)
      · intro b j h1 h2
        by_cases z : b = 195
        · rw [zup_k _ (h2 z).2.2.1, fm3 b j (fun z => ⟨(h2 z).1, (h2 z).2.1⟩) (by omega)]
        · rw [zup_n _ z, fm3 b j (fun z => ⟨(h2 z).1, (h2 z).2.1⟩) (by omega)]
      · rw [zup_k _ (by decide), zup_n _ (by decide)]; exact b3
    | true =>
      rw [hn, if_neg (show ¬ zbo true = 0 by decide)] at stC
      rw [hn, if_pos rfl] at b3
      have hnn := hn
      unfold znum at hnn
      rw [Bool.and_eq_true, Bool.and_eq_true, Bool.and_eq_true] at hnn
      have kv : C3 3 6 = nI (zvl T (zsk T (znx T (zsk T a)))) := k3.2.2.2 (of_decide_eq_true hnn.1)
      have v1 := of_decide_eq_true hnn.2.2.1
      have v2 := of_decide_eq_true hnn.2.2.2
      have a3' := a3 hn
      rw [kv] at stC
      generalize zvl T (zsk T (znx T (zsk T a))) = v at stC stM v1 v2
      have fc4 : ∀ b j, b ≠ 3 → ¬ (j = P ∧ L + 3 ≤ b ∧ b ≤ L + 15) → (zup C3 (L + 15) P (nI v)) b j = C b j := fun b j h1 h2 => by
        by_cases z : b = L + 15
        · rw [zup_k _ (by omega), fc3 b j h1 (by omega) (by omega)]
        · rw [zup_n _ z, fc3 b j h1 (by omega) (by omega)]
      have D2 : zD T L (zup C3 (L + 15) P (nI v)) (zup M3 201 P (nI v)) m P Wk := by
        refine zD_fr hL.2.1 D ?_ fc4 (fun b j h1 h2 h3 => fm3 b j h1 h2 _)
        rw [zup_n _ (by omega), f3 3 2 (by decide), zup_n _ (by omega), f1 3 2 (by decide), zup_n _ (by omega)]
      have pP : zPl (zup C3 (L + 15) P (nI v)) (zup M3 201 P (nI v)) L 0 P := by
        refine ⟨⟨k, hk, ?_, ?_⟩, ⟨c, hcv, ?_, ?_⟩, ⟨v, v1, v2, zup_s _ _ _ _, zup_s _ _ _ _⟩, fun w hw => by omega⟩
        · rw [zup_n _ (by omega), f3 _ _ (by omega), zup_n _ (by omega), f1 _ _ (by omega), zup_s]
        · rw [zup_n _ (by decide), g3 _ _ (by omega), zup_n _ (by decide), g1 _ _ (by omega), zup_s]
        · rw [zup_n _ (by omega), f3 _ _ (by omega), zup_s]
        · rw [zup_n _ (by decide), g3 _ _ (by omega), zup_s]
      obtain ⟨v', C', M', eC, eM, fC, fM, out⟩ := zweeks (R := R) (n := n) h hM hL r31 hz hP Wk 0 _ _ (znx T (zsk T (znx T (zsk T a)))) (by omega) ⟨D2, hx2.1, by rw [zup_n _ (by omega)]; exact k3.2.2.1, by rw [zup_n _ (by decide)]; exact a3', by rw [zup_n _ (by decide)]; exact b3⟩ pP
      rw [nI_0] at eC eM
      refine ⟨v', C', M', stC.trans eC, stM.trans eM, ?_, ?_, ?_⟩
      · intro b j h1 h2
        rw [fC b j h1 h2, fc4 b j h1 (by omega)]
      · intro b j h1 h2
        rw [fM b j h1 h2, fm3 b j (fun z => ⟨(h2 z).1, (h2 z).2.1⟩) (by omega)]
      · rcases out with o | ⟨o1, a', o2, o3⟩
        · exact Or.inl o
        · exact Or.inr ⟨o1, a', by omega, o3⟩
end LPy
