/-! ===== all lines, and the reading as a whole ===== -/
theorem zur_s (f : ZR) (a k : Nat) (v : Option Nat) : zur f a k v a k = v := by rw [zur_cases, if_pos rfl, if_pos rfl]
theorem zur_n {f : ZR} {a k b : Nat} {v : Option Nat} (j : Nat) (h : b ≠ a) : zur f a k v b j = f b j := by rw [zur_cases, if_neg h]
theorem zur_k {f : ZR} {a k j : Nat} {v : Option Nat} (b : Nat) (h : j ≠ k) : zur f a k v b j = f b j := by
  rw [zur_cases, if_neg h]
  split <;> rfl
section LRl
variable {R R' : ZR} {n n' L : Nat} {T : Nat × (Nat → Nat)}
theorem M_reads97_bad (hM : WM R' n') {M : ZI} (m4 : ¬ M 195 4 = -1) : M_reads_97 195 M R' n' = some (some (.int (M 195 4)), M, R', n') := by
  rw [e_M_reads_97]
  simp only [hM.k, zc_t, if_neg m4]
theorem M_reads73_bad (hM : WM R' n') {M : ZI} (m4 : ¬ M 195 4 = -1) : M_reads_73 195 M R' n' = some (some (.int (M 195 4)), M, R', n') := by
  rw [e_M_reads_73]
  simp only [hM.k, zc_t, if_neg m4, M_reads97_bad hM m4]
theorem zlines (h : WRd R n) (hM : WM R' n') (hL : WL R n L) (r31 : R 3 1 = some L) (hz : zTp T) : ∀ d k (C M : ZI) a m P Wk, T.1 - a ≤ d → k + 5 ≤ a → zStt C → zGG T L C M a m P Wk → ∃ v x C' M', Rd_readLines_2 3 (nI k) C R n = some (some (.int v), C', R, n) ∧ M_reads_73 195 M R' n' = some (some (.int x), M', R', n') ∧ zFC L C C' ∧ zFM M M' ∧ ((v = 0 ∧ ∃ p, p ≤ T.1 ∧ C' 3 4 = nI p ∧ x = nI p) ∨ (v = 1 ∧ x = -1 ∧ ∃ m P Wk, 0 < P ∧ zD T L C' M' m P Wk)) := by
  have hl := isL_i hL.2.1
  have hl4 := hz.1
  have t400 : (400 : Int32) = nI 400 := by decide
  intro d
  induction d with
  | zero =>
    intro k C M a m P Wk hd hk hst g
    obtain ⟨D, ha, c5, m3, m4⟩ := g
    have hD := D
    obtain ⟨⟨t1, t2⟩, -, -, -, -, ⟨p1, p2, p3⟩, -⟩ := hD
    have hs := zsk_le T ha
    obtain ⟨C1, e1, k1, f1⟩ := Rd_step_ok (R := R) (n := n) h hz ha t1 c5
    have fc1 : ∀ b j, b ≠ 3 → C1 b j = C b j := fun b j hb => f1 b j (fun z => absurd z hb)
    have c18 : C1 L 8 = nI P := by rw [fc1 L 8 (by omega)]; exact p2
    have hnl : ¬ zsk T a < T.1 := by omega
    have k0 : zkd T (zsk T a) = 0 := zkd0.2 hnl
    have c33 : C1 3 3 = 0 := by rw [k1.1, k0]; exact nI_0
    have sgf : zsgn T (zsk T a) 59 = false := by unfold zsgn; rw [decide_eq_false hnl, Bool.false_and]
    obtain ⟨M1, q1, a1, g1⟩ := M_takes_ok (R := R') (n := n') hM hz ha t2 m3 (c := 59) (by decide) (x := 59) (by decide)
    rw [sgf] at q1 a1
    rw [if_neg (by decide)] at a1
    have tm1 : tpM M1 T := tpM_fr t2 (fun b j hb _ => g1 b j (fun z => (hb z).1))
    obtain ⟨M2, q2, a2, g2⟩ := M_look_ok2 (R := R') (n := n') hM hz hs.1 tm1 a1
    have hkk : zsk T (zsk T a) = zsk T a := zsk_zsk a
    have eh : zher T (zsk T a) = -1 := by unfold zher; rw [if_neg hnl]
    rw [hkk, eh] at q2
    rw [hkk] at a2
    have fm2 : ∀ b j, (b = 195 → j ≠ 3) → M2 b j = M b j := fun b j hb => by rw [g2 b j hb, g1 b j hb]
    have b4 : M1 195 4 = -1 := by rw [g1 195 4 (by decide)]; exact m4
    have d4 : M2 195 4 = -1 := by rw [fm2 195 4 (by decide)]; exact m4
    have d15 : M2 195 15 = nI P := by rw [fm2 195 15 (by decide)]; exact p3
    have stC := e_Rd_readLines_2 3 (nI k) C R n
    rw [t400, if_pos (nI_lt (show k < 400 by omega) (by decide))] at stC
    simp only [h.k, hL.k, r31, zc_t, zr_s, e1, zbV_s, c33, if_true, c18] at stC
    have stM := e_M_reads_73 195 M R' n'
    simp only [hM.k, zc_t, if_pos m4, q1, zbI_s, if_pos (show zbo false = 0 by decide)] at stM
    have st9 := e_M_reads_97 195 M1 R' n'
    simp only [hM.k, zc_t, if_pos b4, q2, zbI_s, if_true, d15, a2, d4] at st9
    rw [st9] at stM
    by_cases hP : 0 < P
    · rw [if_pos (zgt0 hP (by omega))] at stC
      rw [if_neg (zne0 hP (by omega))] at stM
      exact ⟨1, -1, C1, M2, stC, stM, fun b j h1 _ => fc1 b j h1, fun b j h1 h2 => fm2 b j (fun z => (h2 z).1), Or.inr ⟨rfl, rfl, m, P, Wk, hP, zD_fr hL.2.1 D (f1 3 2 (by decide)) (fun b j h1 _ => fc1 b j h1) (fun b j h1 _ _ => fm2 b j (fun z => (h1 z).1))⟩⟩
    · have hP0 : P = 0 := by omega
      rw [hP0, nI_0, if_neg (by decide)] at stC
      obtain ⟨M4, q4, a4, g4⟩ := M_fails_ok (R := R') (n := n') (I := M2) hM (nI (zsk T a))
      rw [if_pos d4] at a4
      rw [hP0, nI_0, if_pos rfl, q4, zbV_s] at stM
      simp only [hM.k, zc_t, a4] at stM
      exact ⟨0, _, C1, M4, stC, stM, fun b j h1 _ => fc1 b j h1, fun b j h1 h2 => by rw [g4 b j (fun z => (h2 z).2.1), fm2 b j (fun z => (h2 z).1)], Or.inl ⟨rfl, _, hs.1, k1.2.1, rfl⟩⟩
  | succ d ih =>
    intro k C M a m P Wk hd hk hst g
    obtain ⟨D, ha, c5, m3, m4⟩ := g
    have hD := D
    obtain ⟨⟨t1, t2⟩, -, -, -, -, ⟨p1, p2, p3⟩, -⟩ := hD
    have hs := zsk_le T ha
    have hkk : zsk T (zsk T a) = zsk T a := zsk_zsk a
    obtain ⟨C1, e1, k1, f1⟩ := Rd_step_ok (R := R) (n := n) h hz ha t1 c5
    have fc1 : ∀ b j, b ≠ 3 → C1 b j = C b j := fun b j hb => f1 b j (fun z => absurd z hb)
    have tc1 : tpC C1 T := ⟨by rw [fc1 1 1 (by decide)]; exact t1.1, fun i hi => by rw [fc1 2 i (by decide)]; exact t1.2 i hi⟩
    have c18 : C1 L 8 = nI P := by rw [fc1 L 8 (by omega)]; exact p2
    obtain ⟨M1, q1, a1, g1⟩ := M_takes_ok (R := R') (n := n') hM hz ha t2 m3 (c := 59) (by decide) (x := 59) (by decide)
    have tm1 : tpM M1 T := tpM_fr t2 (fun b j hb _ => g1 b j (fun z => (hb z).1))
    have b4 : M1 195 4 = -1 := by rw [g1 195 4 (by decide)]; exact m4
    have sg := Rd_isSign_ok (R := R) (n := n) h hz tc1 hs.1 k1 (c := 59) (x := 59) (by decide) (Or.inl rfl)
    have stC := e_Rd_readLines_2 3 (nI k) C R n
    rw [t400, if_pos (nI_lt (show k < 400 by omega) (by decide))] at stC
    simp only [h.k, hL.k, r31, zc_t, zr_s, e1, zbV_s, c18, sg, zbI_s] at stC
    have stM := e_M_reads_73 195 M R' n'
    simp only [hM.k, zc_t, if_pos m4, q1, zbI_s] at stM
    cases hsg : zsgn T (zsk T a) 59 with
    | false =>
      rw [hsg, if_neg (by decide)] at a1
      rw [hsg, if_pos (show zbo false = 0 by decide)] at stM
      obtain ⟨M2, q2, a2, g2⟩ := M_look_ok2 (R := R') (n := n') hM hz hs.1 tm1 a1
      rw [hkk] at q2 a2
      have fm2 : ∀ b j, (b = 195 → j ≠ 3) → M2 b j = M b j := fun b j hb => by rw [g2 b j hb, g1 b j hb]
      have d4 : M2 195 4 = -1 := by rw [fm2 195 4 (by decide)]; exact m4
      have d15 : M2 195 15 = nI P := by rw [fm2 195 15 (by decide)]; exact p3
      obtain ⟨M4, q4, a4, g4⟩ := M_fails_ok (R := R') (n := n') (I := M2) hM (nI (zsk T a))
      rw [if_pos d4] at a4
      have st9 := e_M_reads_97 195 M1 R' n'
      simp only [hM.k, zc_t, if_pos b4, q2, zbI_s, d15, a2, d4, q4, zbV_s, a4] at st9
      rw [st9] at stM
      have fr4 : zFM M M4 := fun b j h1 h2 => by rw [g4 b j (fun z => (h2 z).2.1), fm2 b j (fun z => (h2 z).1)]
      by_cases hnl : zsk T a < T.1
      · have hb := (hz.2 _ hnl).2
        have eh : zher T (zsk T a) = nI (T.2 (zsk T a)) := by unfold zher; rw [if_pos hnl]
        have kn : ¬ C1 3 3 = 0 := by
          rw [k1.1, ← nI_0, nI_eq (by have := zkd_lt T (zsk T a); omega) (by decide)]
          exact fun z => zkd0.1 z hnl
        rw [if_neg kn, hsg, if_pos (show zbo false = 0 by decide)] at stC
        rw [eh, if_neg (nI_nm1 (by omega))] at stM
        exact ⟨0, _, C1, M4, stC, stM, fun b j h1 _ => fc1 b j h1, fr4, Or.inl ⟨rfl, _, hs.1, k1.2.1, rfl⟩⟩
      · have eh : zher T (zsk T a) = -1 := by unfold zher; rw [if_neg hnl]
        have c33 : C1 3 3 = 0 := by rw [k1.1, zkd0.2 hnl]; exact nI_0
        rw [if_pos c33] at stC
        rw [eh, if_pos rfl] at stM
        by_cases hP : 0 < P
        · rw [if_pos (zgt0 hP (by omega))] at stC
          rw [if_neg (zne0 hP (by omega))] at stM
          exact ⟨1, -1, C1, M2, stC, stM, fun b j h1 _ => fc1 b j h1, fun b j h1 h2 => fm2 b j (fun z => (h2 z).1), Or.inr ⟨rfl, rfl, m, P, Wk, hP, zD_fr hL.2.1 D (f1 3 2 (by decide)) (fun b j h1 _ => fc1 b j h1) (fun b j h1 _ _ => fm2 b j (fun z => (h1 z).1))⟩⟩
        · have hP0 : P = 0 := by omega
          rw [hP0, nI_0, if_neg (by decide)] at stC
          rw [hP0, nI_0, if_pos rfl] at stM
          exact ⟨0, _, C1, M4, stC, stM, fun b j h1 _ => fc1 b j h1, fr4, Or.inl ⟨rfl, _, hs.1, k1.2.1, rfl⟩⟩
    | true =>
      have hx := znx_sg hsg (Or.inl rfl)
      rw [hsg, if_pos rfl] at a1
      rw [hsg, if_neg (show ¬ zbo true = 0 by decide)] at stM
      have kn : ¬ C1 3 3 = 0 := by
        rw [k1.1, ← nI_0, nI_eq (by have := zkd_lt T (zsk T a); omega) (by decide)]
        exact fun z => zkd0.1 z hx.1
      rw [if_neg kn, hsg, if_neg (show ¬ zbo true = 0 by decide)] at stC
      have hst1 : zStt C1 := fun i hi => by
        have := hst i hi
        exact ⟨by rw [fc1 _ _ (by decide)]; exact this.1, by rw [fc1 _ _ (by decide)]; exact this.2.1, by rw [fc1 _ _ (by decide)]; exact this.2.2⟩
      have D1 : zD T L C1 M1 m P Wk := zD_fr hL.2.1 D (f1 3 2 (by decide)) (fun b j h1 _ => fc1 b j h1) (fun b j h1 _ _ => g1 b j (fun z => (h1 z).1))
      have k5 : C1 3 5 = nI (zsk T a + 1) := by rw [k1.2.2.1, hx.2]
      obtain ⟨C2, v, C3, M3, e2, e3, eM, fC, fM, out⟩ := zline (R := R) (n := n) h hM hL r31 hz hst1 ⟨D1, by omega, k5, a1, b4⟩
      simp only [h.k, zc_t, e2, zbV_s, e3, zbI_s] at stC
      simp only [hM.k, zc_t, eM, zbV_s] at stM
      have fC' : zFC L C C3 := fun b j h1 h2 => by rw [fC b j h1 h2, fc1 b j h1]
      have fM' : zFM M M3 := fun b j h1 h2 => by rw [fM b j h1 h2, g1 b j (fun z => (h2 z).1)]
      rcases out with ⟨o1, p, o2, o3, o4⟩ | ⟨o1, a', m', P', Wk', o2, o3⟩
      · rw [o1, if_pos rfl] at stC
        have bd := M_reads73_bad hM (M := M3) (by rw [o4]; exact nI_nm1 (by omega))
        exact ⟨0, _, C3, M3, stC, stM.trans bd, fC', fM', Or.inl ⟨rfl, p, o2, o3, o4⟩⟩
      · rw [o1, if_neg (by decide), nI_1] at stC
        have hst3 : zStt C3 := fun i hi => by
          have := hst i hi
          exact ⟨by rw [fC' _ _ (by decide) (by omega)]; exact this.1, by rw [fC' _ _ (by decide) (by omega)]; exact this.2.1, by rw [fC' _ _ (by decide) (by omega)]; exact this.2.2⟩
        obtain ⟨v2, x2, C4, M4, eC, eM4, fC4, fM4, out⟩ := ih (k + 1) C3 M3 a' m' P' Wk' (by omega) (by omega) hst3 o3
        exact ⟨v2, x2, C4, M4, stC.trans eC, stM.trans eM4, fun b j h1 h2 => by rw [fC4 b j h1 h2, fC' b j h1 h2], fun b j h1 h2 => by rw [fM4 b j h1 h2, fM' b j h1 h2], out⟩
/-- the outcome of a reading -/
def zRead (T : Nat × (Nat → Nat)) (L : Nat) (x : Int32) (C M : ZI) : Prop := (x = -1 ∧ ∃ m P Wk, 0 < P ∧ zD T L C M m P Wk) ∨ ∃ p, p ≤ T.1 ∧ x = nI p
theorem zread (h : WRd R n) (hM : WM R' n') (hL : WL R n L) (hz : zTp T) {C M : ZI} (hst : zStt C) (hT : tpC C T) (hT2 : tpM M T) : ∃ x C' M', Rd_read 3 L C R n = some (some (.int x), C', zur R 3 1 (some L), n) ∧ M_reads 195 M R' n' = some (some (.int x), M', R', n') ∧ zFC L C C' ∧ zFM M M' ∧ zRead T L x C' M' := by
  have hl := isL_i hL.2.1
  have hl4 := hz.1
  have h' : WRd (zur R 3 1 (some L)) n := ⟨h.1, by rw [zur_n _ (by decide)]; exact h.2.1, by rw [zur_k _ (by decide)]; exact h.2.2⟩
  have hL' : WL (zur R 3 1 (some L)) n L := by
    have e : ∀ b j, b ≠ 3 → zur R 3 1 (some L) b j = R b j := fun b j hb => zur_n _ hb
    obtain ⟨y1, y2, y3, y4, y5⟩ := hL
    refine ⟨y1, y2, ?_, fun w hw => by rw [e _ _ (by omega)]; exact y4 w hw, fun w hw => by rw [e _ _ (by omega)]; exact y5 w hw⟩
    rw [e L 0 (by omega), e L 1 (by omega), e L 2 (by omega), e L 3 (by omega), e L 4 (by omega), e L 5 (by omega), e L 6 (by omega), e L 7 (by omega)]
    exact y3
  have hM' := hM
  have r31 : (zur R 3 1 (some L)) 3 1 = some L := zur_s _ _ _ _
  have stR := e_Rd_read 3 L C R n
  obtain ⟨C1, ec, cr, c8, c9, fc⟩ := Lg_clear_ok (I := C) hL'
  simp only [h.k, hL.k, zc_t, r31, zr_s, ec, zbV_s] at stR
  generalize zur R 3 1 (some L) = Q at h' hL' r31 stR ec
  have x4 : zix 4 = 4 := by decide
  have x5 : zix 5 = 5 := by decide
  have x6 : zix 6 = 6 := by decide
  have x7 : zix 7 = 7 := by decide
  have x8 : zix 8 = 8 := by decide
  have x9 : zix 9 = 9 := by decide
  have n4 : zin 197 4 = true := by decide
  have n5 : zin 197 5 = true := by decide
  have n6 : zin 197 6 = true := by decide
  have n7 : zin 197 7 = true := by decide
  have n8 : zin 197 8 = true := by decide
  have n9 : zin 197 9 = true := by decide
  obtain ⟨M2, eM, y3, y4, y16, y15, r4, r5, r6, r7, r8, r9, fm⟩ : ∃ M2, M_reads 195 M R' n' = zbV (M_slots 195 M2 R' n') (fun I3 R3 n3 => M_reads_73 195 I3 R3 n3) ∧ M2 195 3 = 0 ∧ M2 195 4 = -1 ∧ M2 195 16 = 0 ∧ M2 195 15 = 0 ∧ M2 197 4 = 99 ∧ M2 197 5 = 6 ∧ M2 197 6 = 3 ∧ M2 197 7 = 4 ∧ M2 197 8 = 9 ∧ M2 197 9 = 1 ∧ ∀ b j, b ≠ 197 → (b = 195 → j ≠ 3 ∧ j ≠ 4 ∧ j ≠ 15 ∧ j ≠ 16) → M2 b j = M b j := by
    rw [e_M_reads]
    simp only [hM'.k, zc_t]
    rw [e_M_reads_20]
    simp only [hM'.k, hM'.2, zc_t, zr_s, n4, n5, n6, n7, Bool.true_and, x4, x5, x6, x7]
    rw [e_M_reads_52]
    simp only [hM'.k, hM'.2, zc_t, zr_s, n8, n9, Bool.true_and, x8, x9]
    refine ⟨_, rfl, ?_, ?_, ?_, ?_, ?_, ?_, ?_, ?_, ?_, ?_, ?_⟩
    any_goals simp [zup_cases]
    intro b j h1 h2
    by_cases z : b = 195
    · obtain ⟨g1, g2, g3, g4⟩ := h2 z
      simp [h1, z, g1, g2, g3, g4]
    · simp [h1, z]
  have fC2 : ∀ b j, b ≠ 3 → b ≠ L + 2 → (b = L → j ≠ 8 ∧ j ≠ 9) → (zup (zup C1 3 2 0) 3 5 0) b j = C b j := fun b j h1 h2 h3 => by rw [zup_n _ h1, zup_n _ h1, fc b j h2 h3]
  have gC2 : ∀ b j, b ≠ 3 → (zup (zup C1 3 2 0) 3 5 0) b j = C1 b j := fun b j h1 => by rw [zup_n _ h1, zup_n _ h1]
  have q35 : (zup (zup C1 3 2 0) 3 5 0) 3 5 = nI 0 := by rw [zup_s, nI_0]
  have q32 : (zup (zup C1 3 2 0) 3 5 0) 3 2 = nI 0 := by rw [zup_k _ (by decide), zup_s, nI_0]
  generalize zup (zup C1 3 2 0) 3 5 0 = C2 at stR fC2 gC2 q35 q32
  have tc2 : tpC C2 T := ⟨by rw [fC2 1 1 (by decide) (by omega) (by omega)]; exact hT.1, fun i hi => by rw [fC2 2 i (by decide) (by omega) (by omega)]; exact hT.2 i hi⟩
  have tm2 : tpM M2 T := ⟨by rw [fm 195 2 (by decide) (by decide)]; exact hT2.1, fun i hi => by rw [fm 196 i (by decide) (by omega)]; exact hT2.2 i hi⟩
  have h0 : (0 : Nat) ≤ T.1 := Nat.zero_le _
  have hs := zsk_le T h0
  have hx := znx_le T hs.1
  obtain ⟨C3, e3, k3, f3⟩ := Rd_step_ok (R := Q) (n := n) h' hz h0 tc2 q35
  have fc3 : ∀ b j, b ≠ 3 → C3 b j = C2 b j := fun b j hb => f3 b j (fun z => absurd z hb)
  have tc3 : tpC C3 T := ⟨by rw [fc3 1 1 (by decide)]; exact tc2.1, fun i hi => by rw [fc3 2 i (by decide)]; exact tc2.2 i hi⟩
  have w : Rd_isWord 3 1000 C3 Q n = some (some (.int (zbo (zwrd T (zsk T 0) 1000))), C3, Q, n) := Rd_isWord_ok (R := Q) (n := n) h' tc3 hz hs.1 (show 0 < 7 by decide) k3
  have y3' : M2 195 3 = nI 0 := by rw [y3, nI_0]
  obtain ⟨M3, q3, a3, g3⟩ : ∃ I', M_word 195 1000 M2 R' n' = some (some (.int (zbo (zwrd T (zsk T 0) 1000))), I', R', n') ∧ I' 195 3 = nI (if zwrd T (zsk T 0) 1000 = true then znx T (zsk T 0) else zsk T 0) ∧ ∀ b j, (b = 195 → j ≠ 3) → I' b j = M2 b j := M_word_ok (R := R') (n := n') hM' hz h0 tm2 y3' (show 0 < 7 by decide)
  have d4 : M3 195 4 = -1 := by rw [g3 195 4 (by decide)]; exact y4
  have fC3 : zFC L C C3 := fun b j h1 h2 => by rw [fc3 b j h1, fC2 b j h1 (by omega) (by omega)]
  have fM3 : zFM M M3 := fun b j h1 h2 => by rw [g3 b j (fun z => (h2 z).1), fm b j (by omega) h2]
  have sS := e_Rd_readSlots 3 C2 Q n
  simp only [h'.k, zc_t, e3, zbV_s, w, zbI_s] at sS
  have sM := e_M_slots 195 M2 R' n'
  simp only [hM'.k, zc_t, q3, zbI_s] at sM
  cases hw : zwrd T (zsk T 0) 1000 with
  | false =>
    rw [hw, if_neg (by decide)] at a3
    rw [hw, if_pos (show zbo false = 0 by decide)] at sS sM
    obtain ⟨M4, q4, a4, g4⟩ := M_fails_ok (R := R') (n := n') (I := M3) hM' (nI (zsk T 0))
    rw [if_pos d4] at a4
    rw [a3, q4, zbV_s] at sM
    rw [sS, zbI_s, if_pos rfl] at stR
    simp only [h'.k, zc_t, k3.2.1] at stR
    rw [sM, zbV_s] at eM
    have bd := M_reads73_bad hM' (M := M4) (by rw [a4]; exact nI_nm1 (by omega))
    rw [a4] at bd
    exact ⟨_, C3, M4, stR, eM.trans bd, fC3, fun b j h1 h2 => by rw [g4 b j (fun z => (h2 z).2.1), fM3 b j h1 h2], Or.inr ⟨_, hs.1, rfl⟩⟩
  | true =>
    have hxw : znx T (zsk T 0) = zsk T 0 + z_ln (1000 + 0) := znx_w hs.1 (show 0 < 7 by decide) hw
    have hl5 : z_ln (1000 + 0) = 5 := by decide
    rw [hl5] at hxw
    rw [hw, if_pos rfl] at a3
    rw [hw, if_neg (show ¬ zbo true = 0 by decide), ← nI_0] at sS sM
    have D0 : zD0 T L C3 M3 3 := by
      have gc : ∀ b j, b ≠ 3 → C3 b j = C1 b j := fun b j h1 => by rw [fc3 b j h1, gC2 b j h1]
      have gm : ∀ b j, b ≠ 195 → M3 b j = M2 b j := fun b j h1 => g3 b j (fun z => absurd z h1)
      refine ⟨⟨tc3, ⟨by rw [g3 195 2 (by decide)]; exact tm2.1, fun i hi => by rw [gm 196 i (by decide)]; exact tm2.2 i hi⟩⟩, ⟨by rw [f3 3 2 (by decide)]; exact q32, by rw [g3 195 16 (by decide), y16, nI_0]⟩, ?_, ⟨by rw [gm _ _ (by decide), r6]; decide, by decide⟩, by rw [gc _ _ (by omega), c8, nI_0], by rw [g3 195 15 (by decide), y15, nI_0]⟩
      intro k hk
      have hc : k = 0 ∨ k = 1 ∨ k = 2 ∨ k = 3 ∨ k = 4 ∨ k = 5 := by omega
      rcases hc with rfl | rfl | rfl | rfl | rfl | rfl
      · exact ⟨99, by decide, by decide, by rw [gc _ _ (by omega), cr.1]; decide, by rw [gm _ _ (by decide)]; exact r4⟩
      · exact ⟨6, by decide, by decide, by rw [gc _ _ (by omega), cr.2.1]; decide, by rw [gm _ _ (by decide)]; exact r5⟩
      · exact ⟨3, by decide, by decide, by rw [gc _ _ (by omega), cr.2.2.1]; decide, by rw [gm _ _ (by decide)]; exact r6⟩
      · exact ⟨4, by decide, by decide, by rw [gc _ _ (by omega), cr.2.2.2.1]; decide, by rw [gm _ _ (by decide)]; exact r7⟩
      · exact ⟨9, by decide, by decide, by rw [gc _ _ (by omega), cr.2.2.2.2.1]; decide, by rw [gm _ _ (by decide)]; exact r8⟩
      · exact ⟨1, by decide, by decide, by rw [gc _ _ (by omega), cr.2.2.2.2.2]; decide, by rw [gm _ _ (by decide)]; exact r9⟩
    have S0 : zS0 C3 M3 L 0 0 := ⟨fun i hi => by omega, by omega, by rw [fc3 _ _ (by omega), gC2 _ _ (by omega), c9, nI_0], nI_0.symm⟩
    obtain ⟨v, C4, M4, eC, eM4, fC4, fM4, out⟩ := zslots (R := Q) (n := n) h' hM' hL' r31 hz 3 0 C3 M3 (znx T (zsk T 0)) 0 (by omega) D0 S0 hx.1 k3.2.2.1 a3 d4
    have gC4 : zFC L C C4 := fun b j h1 h2 => by rw [fC4 b j h1 h2, fC3 b j h1 h2]
    have gM4 : zFM M M4 := fun b j h1 h2 => by rw [fM4 b j h1 h2, fM3 b j h1 h2]
    rw [eC] at sS
    rw [eM4] at sM
    rw [sS, zbI_s] at stR
    rw [sM, zbV_s] at eM
    rcases out with ⟨o1, p, o2, o3, o4⟩ | ⟨o1, a', o2, o3⟩
    · rw [o1, if_pos rfl] at stR
      simp only [h'.k, zc_t, o3] at stR
      have bd := M_reads73_bad hM' (M := M4) (by rw [o4]; exact nI_nm1 (by omega))
      rw [o4] at bd
      exact ⟨_, C4, M4, stR, eM.trans bd, gC4, gM4, Or.inr ⟨p, o2, rfl⟩⟩
    · have hst4 : zStt C4 := fun i hi => by
        have := hst i hi
        exact ⟨by rw [gC4 _ _ (by decide) (by omega)]; exact this.1, by rw [gC4 _ _ (by decide) (by omega)]; exact this.2.1, by rw [gC4 _ _ (by decide) (by omega)]; exact this.2.2⟩
      obtain ⟨v2, x, C5, M5, eC5, eM5, fC5, fM5, out⟩ := zlines (R := Q) (n := n) h' hM' hL' r31 hz (T.1 - a') 0 C4 M4 a' 0 0 3 (Nat.le_refl _) (by omega) hst4 o3
      have gC5 : zFC L C C5 := fun b j h1 h2 => by rw [fC5 b j h1 h2, gC4 b j h1 h2]
      have gM5 : zFM M M5 := fun b j h1 h2 => by rw [fM5 b j h1 h2, gM4 b j h1 h2]
      rw [nI_0, ← e_Rd_readLines] at eC5
      rw [o1, if_neg (by decide)] at stR
      simp only [h'.k, zc_t, eC5, zbI_s] at stR
      rw [eM5] at eM
      rcases out with ⟨s1, p, s2, s3, s4⟩ | ⟨s1, s2, m, P, Wk, s3, s4⟩
      · rw [s1, if_pos rfl, s3] at stR
        rw [s4] at eM
        exact ⟨_, C5, M5, stR, eM, gC5, gM5, Or.inr ⟨p, s2, rfl⟩⟩
      · rw [s1, if_neg (by decide)] at stR
        rw [s2] at eM
        exact ⟨_, C5, M5, stR, eM, gC5, gM5, Or.inl ⟨rfl, m, P, Wk, s3, s4⟩⟩
end LRl
