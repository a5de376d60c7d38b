/-! ===== a line on both sides ===== -/
theorem zgt0 {n : Nat} (h0 : 0 < n) (h : n < 2 ^ 31) : 0 < nI n := by
  have := nI_lt h0 h
  rw [nI_0] at this
  exact this
theorem zne0 {n : Nat} (h0 : 0 < n) (h : n < 2 ^ 31) : ¬ nI n = 0 := by
  rw [← nI_0, nI_eq h (by decide)]
  omega
theorem zfst_i {c : Nat → Bool} {j : Nat} : ∀ k i, zfirst c i k = some j → i ≤ j ∧ j < i + k ∧ c j = true
  | 0, i, h => by unfold zfirst at h; cases h
  | k + 1, i, h => by
    unfold zfirst at h
    cases hc : c i with
    | true =>
      rw [hc] at h
      have e : i = j := Option.some.inj h
      subst e
      exact ⟨Nat.le_refl _, by omega, hc⟩
    | false =>
      rw [hc] at h
      have := zfst_i k (i + 1) h
      exact ⟨by omega, by omega, this.2.2⟩
theorem zplc_c (b : Nat) : zplc b = -1 ∨ ∃ k, k < 4 ∧ zplc b = nI k := by
  unfold zplc
  by_cases d1 : b = 98
  · rw [if_pos d1]; exact Or.inr ⟨1, by decide, by decide⟩
  · rw [if_neg d1]
    by_cases d2 : b = 102
    · rw [if_pos d2]; exact Or.inr ⟨3, by decide, by decide⟩
    · rw [if_neg d2]
      by_cases d3 : b = 107
      · rw [if_pos d3]; exact Or.inr ⟨0, by decide, by decide⟩
      · rw [if_neg d3]
        by_cases d4 : b = 109
        · rw [if_pos d4]; exact Or.inr ⟨2, by decide, by decide⟩
        · rw [if_neg d4]; exact Or.inl rfl
theorem zbit_and : ∀ m, m < 64 → ∀ j, j < 6 → ((nI m &&& ((1 : Int32) <<< (nI j &&& 31))) = 0 ↔ m.testBit j = false) := by decide +kernel
theorem zbit_or : ∀ m, m < 64 → ∀ j, j < 6 → (nI m ||| ((1 : Int32) <<< (nI j &&& 31))) = nI (m ||| 2 ^ j) ∧ (nI (16 * m) ||| ((1 : Int32) <<< (nI (4 + j) &&& 31))) = nI (16 * (m ||| 2 ^ j)) ∧ (m ||| 2 ^ j) < 64 ∧ (16 * m).testBit (4 + j) = m.testBit j := by decide +kernel
theorem zis_st (n : Nat) : zis n 1010 24 = true ∧ zis n 1011 24 = true ∧ zis n 1012 24 = true := by
  refine ⟨?_, ?_, ?_⟩ <;> (unfold zis; rw [Bool.and_eq_true, Bool.or_eq_true]; exact ⟨Or.inr (by decide), by decide⟩)
theorem zrr : ∀ j, j < 6 → zrDg j < 1000 ∧ zrLo j < 1000 ∧ zrHi j < 1000 := by decide
def zStt (C : ZI) : Prop := ∀ k, k < 6 → C 1010 k = nI (zrDg k) ∧ C 1011 k = nI (zrLo k) ∧ C 1012 k = nI (zrHi k)
theorem zD_rule {T : Nat × (Nat → Nat)} {C M C' M' : ZI} {L m Wk j v : Nat} (hL : isL L) (h : zD T L C M m 0 Wk) (hj : j < 6) (h1 : zrLo j ≤ v) (h2 : v ≤ zrHi j) (c3 : C' 3 2 = nI (m ||| 2 ^ j)) (cj : C' (L + 2) j = nI v) (c : ∀ b i, b ≠ 3 → ¬ (b = L + 2 ∧ i = j) → C' b i = C b i) (n3 : M' 195 16 = nI (16 * (m ||| 2 ^ j))) (nj : M' 197 (4 + j) = nI v) (mm : ∀ b i, (b = 195 → i ≠ 3 ∧ i ≠ 4 ∧ i ≠ 16) → ¬ (b = 197 ∧ i = 4 + j) → M' b i = M b i) : zD T L C' M' (m ||| 2 ^ j) 0 (if j = 2 then v else Wk) := by
  have hl := isL_i hL
  obtain ⟨⟨t1, t2⟩, ⟨m1, m2, m3⟩, r, ⟨w1, w2⟩, ⟨s1, z, s2, s3, s4, s5⟩, ⟨p1, p2, p3⟩, pl⟩ := h
  have m197 : ∀ i, i < 4 → M' 197 i = M 197 i := fun i hi => mm 197 i (fun z => absurd z (by decide)) (by omega)
  refine ⟨⟨⟨by rw [c 1 1 (by decide) (by omega)]; exact t1.1, fun i hi => by rw [c 2 i (by decide) (by omega)]; exact t1.2 i hi⟩, ⟨by rw [mm 195 2 (by decide) (by omega)]; exact t2.1, fun i hi => by rw [mm 196 i (fun z => absurd z (by decide)) (by omega)]; exact t2.2 i hi⟩⟩, ⟨(zbit_or m m1 j hj).2.2.1, c3, n3⟩, fun k hk => ?_, ⟨?_, ?_⟩, ⟨fun k hk => ?_, z, s2, s3, ?_, ?_⟩, ⟨p1, ?_, ?_⟩, fun i hi => by omega⟩
  · by_cases e : k = j
    · subst e; exact ⟨v, h1, h2, cj, nj⟩
    · obtain ⟨v', a1, a2, a3, a4⟩ := r k hk
      exact ⟨v', a1, a2, by rw [c _ _ (by omega) (by omega)]; exact a3, by rw [mm _ _ (by omega) (by omega)]; exact a4⟩
  · by_cases e : j = 2
    · subst e; rw [if_pos rfl]; exact nj
    · rw [if_neg e, mm _ _ (by omega) (by omega)]; exact w1
  · by_cases e : j = 2
    · subst e; rw [if_pos rfl]; exact h2
    · rw [if_neg e]; exact w2
  · obtain ⟨v', a1, a3, a4⟩ := s1 k hk
    exact ⟨v', a1, by rw [c _ _ (by omega) (by omega)]; exact a3, by rw [m197 k hk]; exact a4⟩
  · rw [c _ _ (by omega) (by omega)]; exact s4
  · rw [m197 0 (by decide), m197 1 (by decide), m197 2 (by decide), m197 3 (by decide)]; exact s5
  · rw [c _ _ (by omega) (by omega)]; exact p2
  · rw [mm 195 15 (by decide) (by omega)]; exact p3
section LLn
variable {R R' : ZR} {n n' L : Nat} {T : Nat × (Nat → Nat)}
theorem M_optionNumber_eq (hM : WM R' n') {M M' : ZI} {j v : Nat} (hj : j < 6) (e : M_number 195 (nI (zrDg j)) (nI (zrLo j)) (nI (zrHi j)) M R' n' = some (some (.int (nI v)), M', R', n')) : M_optionNumber 195 (nI (4 + j)) M R' n' = some (some (.int (nI v)), M', R', n') := by
  have hc : j = 0 ∨ j = 1 ∨ j = 2 ∨ j = 3 ∨ j = 4 ∨ j = 5 := by omega
  rw [e_M_optionNumber]
  rcases hc with rfl | rfl | rfl | rfl | rfl | rfl
  · have e' : M_number 195 3 1 599 M R' n' = some (some (.int (nI v)), M', R', n') := e
    rw [if_pos (by decide)]
    simp only [hM.k, zc_t, e', zbI_s]
  · have e' : M_number 195 1 1 6 M R' n' = some (some (.int (nI v)), M', R', n') := e
    rw [if_neg (by decide), if_pos (by decide)]
    simp only [hM.k, zc_t, e', zbI_s]
  · have e' : M_number 195 1 1 6 M R' n' = some (some (.int (nI v)), M', R', n') := e
    rw [if_neg (by decide), if_neg (by decide), if_pos (by decide)]
    simp only [hM.k, zc_t, e', zbI_s]
  · have e' : M_number 195 1 0 9 M R' n' = some (some (.int (nI v)), M', R', n') := e
    rw [if_neg (by decide), if_neg (by decide), if_neg (by decide), if_pos (by decide)]
    simp only [hM.k, zc_t, e', zbI_s]
  · have e' : M_number 195 3 1 99 M R' n' = some (some (.int (nI v)), M', R', n') := e
    rw [if_neg (by decide), if_neg (by decide), if_neg (by decide), if_neg (by decide), if_pos (by decide)]
    simp only [hM.k, zc_t, e', zbI_s]
  · have e' : M_number 195 3 0 99 M R' n' = some (some (.int (nI v)), M', R', n') := e
    rw [if_neg (by decide), if_neg (by decide), if_neg (by decide), if_neg (by decide), if_neg (by decide)]
    simp only [hM.k, zc_t, e', zbI_s]
theorem zline (h : WRd R n) (hM : WM R' n') (hL : WL R n L) (r31 : R 3 1 = some L) (hz : zTp T) {m P Wk a : Nat} {C M : ZI} (hst : zStt C) (g : zGG T L C M a m P Wk) : ∃ C1 v C' M', Rd_step 3 C R n = some (none, C1, R, n) ∧ Rd_readLine 3 C1 R n = some (some (.int v), C', R, n) ∧ M_line 195 M R' n' = some (none, M', R', n') ∧ zFC L C C' ∧ zFM M M' ∧ ((v = 0 ∧ zBad T C' M') ∨ (v = 1 ∧ ∃ a' m' P' Wk', a ≤ a' ∧ zGG T L C' M' a' m' P' Wk')) := by
  have hl := isL_i hL.2.1
  have hl4 := hz.1
  obtain ⟨D, ha, c5, m3, m4⟩ := g
  have hD := D
  obtain ⟨⟨t1, t2⟩, ⟨u1, u2, u3⟩, r, ⟨w1, w2⟩, -, ⟨p1, p2, p3⟩, -⟩ := hD
  have hs := zsk_le T ha
  have hx := znx_le T hs.1
  have hs2 := zsk_le T hx.1
  have hx2 := znx_le T hs2.1
  have hkk : zsk T (zsk T a) = zsk T a := zsk_zsk a
  obtain ⟨C1, e1, k1, f1⟩ := Rd_step_ok (R := R) (n := n) h hz ha t1 c5
  have fc1 : ∀ b j, b ≠ 3 → C1 b j = C b j := fun b j hb => f1 b j (fun z => absurd z hb)
  have tc1 : tpC C1 T := ⟨by rw [fc1 1 1 (by decide)]; exact t1.1, fun i hi => by rw [fc1 2 i (by decide)]; exact t1.2 i hi⟩
  have c18 : C1 L 8 = nI P := by rw [fc1 L 8 (by omega)]; exact p2
  have c12 : C1 3 2 = nI m := by rw [f1 3 2 (by decide)]; exact u2
  obtain ⟨M1, q1, a1, g1⟩ := M_look_ok2 (R := R') (n := n') hM hz ha t2 m3
  have tm1 : tpM M1 T := tpM_fr t2 (fun b j hb _ => g1 b j (fun z => (hb z).1))
  obtain ⟨M2, q2, a2, g2⟩ := M_placeHere_ok (R := R') (n := n') hM hz hs.1 hkk tm1 a1
  have tm2 : tpM M2 T := tpM_fr tm1 (fun b j hb _ => g2 b j (fun z => (hb z).1))
  have fm2 : ∀ b j, (b = 195 → j ≠ 3) → M2 b j = M b j := fun b j hb => by rw [g2 b j hb, g1 b j hb]
  have rn := Rd_ruleNamed_ok (R := R) (n := n) h tc1 hz hs.1 k1
  have stC := e_Rd_readLine 3 C1 R n
  simp only [h.k, zc_t, rn, zbI_s] at stC
  have stM := e_M_line 195 M R' n'
  simp only [hM.k, zc_t, q1, zbI_s, a1, q2] at stM
  -- both fail where the line begins
  have bad : ∀ (M3 : ZI), (∀ b j, (b = 195 → j ≠ 3 ∧ j ≠ 4) → M3 b j = M b j) → M3 195 4 = -1 → ∀ M4 : ZI, M_fails 195 (nI (zsk T a)) M3 R' n' = some (none, M4, R', n') → zFC L C C1 ∧ zFM M M4 ∧ zBad T C1 M4 := by
    intro M3 f3 z4 M4 e4
    obtain ⟨M5, e5, b5, g5⟩ := M_fails_ok (R := R') (n := n') (I := M3) hM (nI (zsk T a))
    have : M5 = M4 := by
      rw [e5] at e4
      injection e4 with e4
      injection e4 with e4 e5
      injection e5 with e5 e6
    subst this
    rw [if_pos z4] at b5
    refine ⟨fun b j h1 _ => fc1 b j h1, fun b j h1 h2 => ?_, zsk T a, hs.1, k1.2.1, b5⟩
    rw [g5 b j (fun z => (h2 z).2.1), f3 b j (fun z => ⟨(h2 z).1, (h2 z).2.1⟩)]
  cases hr : zrlf T (zsk T a) with
  | some j =>
    have hj := zfst_i 6 0 hr
    have hw : zwrd T (zsk T a) (1001 + j) = true := hj.2.2
    have hj6 : j < 6 := by omega
    have hxw : znx T (zsk T a) = zsk T a + z_ln (1000 + (j + 1)) := znx_w hs.1 (by omega) (by rw [show 1000 + (j + 1) = 1001 + j by omega]; exact hw)
    have hlon : zlon T (zsk T a) = false := by
      cases z : zlon T (zsk T a) with
      | false => rfl
      | true =>
        have := znx_l hs.1 z
        have := (zw_ln (j + 1) (by omega)).1
        omega
    have a2' : M2 195 3 = nI (zsk T a) := by rw [a2, if_neg (fun z => by rw [hlon] at z; exact absurd z.1 (by decide))]
    obtain ⟨M3, q3, a3, g3⟩ := M_optionHere_ok (R := R') (n := n') hM hz hs.1 hkk tm2 a2'
    rw [hr] at q3 a3
    have a3' : M3 195 3 = nI (znx T (zsk T a)) := a3
    have q3' : M_optionHere 195 M2 R' n' = some (some (.int (nI (4 + j))), M3, R', n') := q3
    have fm3 : ∀ b j, (b = 195 → j ≠ 3) → M3 b j = M b j := fun b j hb => by rw [g3 b j hb, fm2 b j hb]
    have d16 : M3 195 16 = nI (16 * m) := by rw [fm3 195 16 (by decide)]; exact u3
    have d15 : M3 195 15 = nI P := by rw [fm3 195 15 (by decide)]; exact p3
    have d4 : M3 195 4 = -1 := by rw [fm3 195 4 (by decide)]; exact m4
    have bo := zbit_or m u1 j hj6
    have has := M_has_ok (I := M3) (R := R') (n := n') (S := 16 * m) (j := 4 + j) (by omega) (by omega)
    rw [bo.2.2.2] at has
    rw [hlon, if_neg (show ¬ (false = true) by decide), if_pos rfl] at stM
    simp only [hM.k, zc_t, q3', zbI_s, if_neg (nI_nm1 (show 4 + j < 2 ^ 31 by omega)), d16, has, d15, hM.2, zr_s] at stM
    rw [hr] at stC
    have zoj : zo (some j) = nI j := rfl
    rw [zoj, if_neg (nI_nm1 (by omega))] at stC
    obtain ⟨M4, q4, -, -⟩ := M_fails_ok (R := R') (n := n') (I := M3) hM (nI (zsk T a))
    have bd := bad M3 (fun b j hb => fm3 b j (fun z => (hb z).1)) d4 M4 q4
    have rr := e_Rd_readRule 3 (nI j) C1 R n
    simp only [h.k, hL.k, hL.r, r31, zc_t, zr_s, c18, c12] at rr
    have out0 : Rd_readRule 3 (nI j) C1 R n = some (some (.int 0), C1, R, n) → M_line 195 M R' n' = some (none, M4, R', n') → ∃ C1 v C' M', Rd_step 3 C R n = some (none, C1, R, n) ∧ Rd_readLine 3 C1 R n = some (some (.int v), C', R, n) ∧ M_line 195 M R' n' = some (none, M', R', n') ∧ zFC L C C' ∧ zFM M M' ∧ ((v = 0 ∧ zBad T C' M') ∨ (v = 1 ∧ ∃ a' m' P' Wk', a ≤ a' ∧ zGG T L C' M' a' m' P' Wk')) := by
      intro y1 y2
      rw [y1, zbI_s] at stC
      exact ⟨C1, 0, C1, M4, e1, stC, y2, bd.1, bd.2.1, Or.inl ⟨rfl, bd.2.2⟩⟩
    by_cases hP : 0 < P
    · rw [if_pos (zgt0 hP (by omega))] at rr
      refine out0 rr ?_
      rw [stM]
      simp only [if_pos (zgt0 hP (show P < 2 ^ 31 by omega)), q4, zbV_s]
      cases m.testBit j with
      | true => rw [if_pos rfl, if_neg (by decide)]
      | false => rw [if_neg (show ¬ (false = true) by decide), if_pos rfl]
    · have hP0 : P = 0 := by omega
      subst hP0
      rw [nI_0, if_neg (by decide)] at rr
      have ba := zbit_and m u1 j hj6
      cases hb : m.testBit j with
      | true =>
        rw [if_neg (fun z => by rw [ba.1 z] at hb; cases hb)] at rr
        refine out0 rr ?_
        rw [stM, hb, if_pos rfl, if_neg (by decide), q4, zbV_s]
      | false =>
        rw [if_pos (ba.2 hb)] at rr
        rw [hb, if_neg (show ¬ (false = true) by decide), if_pos rfl, nI_0, if_neg (by decide)] at stM
        obtain ⟨C2, e2, k2, f2⟩ := Rd_step_ok (R := R) (n := n) h hz hx.1 tc1 k1.2.2.1
        have fc2 : ∀ b j, b ≠ 3 → C2 b j = C b j := fun b j hb => by rw [f2 b j (fun z => absurd z hb), fc1 b j hb]
        have hs6 := hst j hj6
        have z1 : C2 1010 j = nI (zrDg j) := by rw [fc2 _ _ (by decide)]; exact hs6.1
        have z2 : C2 1011 j = nI (zrLo j) := by rw [fc2 _ _ (by decide)]; exact hs6.2.1
        have z3 : C2 1012 j = nI (zrHi j) := by rw [fc2 _ _ (by decide)]; exact hs6.2.2
        have i1 : zin 1010 (nI j) = true := zin_nI (by show _ < 6; omega) (by omega)
        have i2 : zin 1011 (nI j) = true := zin_nI (by show _ < 6; omega) (by omega)
        have i3 : zin 1012 (nI j) = true := zin_nI (by show _ < 6; omega) (by omega)
        have i4 : zin (L + 2) (nI j) = true := zin_of hL.ln.2.1 hj6 (by decide)
        have c22 : C2 3 2 = nI m := by rw [f2 3 2 (by decide)]; exact c12
        have nu := Rd_isNumber_ok (R := R) (n := n) h hz hs2.1 k2 (d := zrDg j) (lo := zrLo j) (hi := zrHi j) rfl rfl rfl (zrr j hj6).1 (zrr j hj6).2.1 (zrr j hj6).2.2
        simp only [h.k, hL.k, hL.r, r31, zc_t, zr_s, e2, zbV_s, zis_st, i1, i2, i3, i4, Bool.or_true, Bool.true_and, zix_nI (show j < 2 ^ 31 by omega), z1, z2, z3, nu, zbI_s, c22, bo.1] at rr
        -- the reference
        have tm4 : tpM (zup M3 195 16 (nI (16 * (m ||| 2 ^ j)))) T := ⟨by rw [zup_k _ (by decide), fm3 195 2 (by decide)]; exact t2.1, fun i hi => by rw [zup_n _ (by decide), fm3 196 i (by omega)]; exact t2.2 i hi⟩
        obtain ⟨M5, q5, a5, b5, g5⟩ := M_number_ok (R := R') (n := n') hM hz hx.1 tm4 (by rw [zup_k _ (by decide)]; exact a3') (d := zrDg j) (lo := zrLo j) (hi := zrHi j) rfl rfl rfl (zrr j hj6).1 (zrr j hj6).2.1 (zrr j hj6).2.2
        have q6 := M_optionNumber_eq hM hj6 q5
        rw [zup_k _ (show 4 ≠ 16 by decide), d4] at b5
        have i5 : zin 197 (nI (4 + j)) = true := zin_nI (by show _ < 10; omega) (by omega)
        rw [bo.2.1] at stM
        simp only [hM.k, hM.2, zc_t, zr_s, q6, zbI_s, i5, Bool.true_and, zix_nI (show 4 + j < 2 ^ 31 by omega)] at stM
        have fm5 : ∀ b i, (b = 195 → i ≠ 3 ∧ i ≠ 4 ∧ i ≠ 16) → M5 b i = M b i := fun b i hb => by
          rw [g5 b i (fun z => ⟨(hb z).1, (hb z).2.1⟩)]
          by_cases z : b = 195
          · rw [zup_k _ (hb z).2.2, fm3 b i (fun z => (hb z).1)]
          · rw [zup_n _ z, fm3 b i (fun z => (hb z).1)]
        have fFM : ∀ v, zFM M (zup M5 197 (4 + j) v) := fun v b i h1 h2 => by
          rw [zup_n _ (by omega), fm5 b i (fun z => ⟨(h2 z).1, (h2 z).2.1, (h2 z).2.2.2⟩)]
        cases hn : znum T (zsk T (znx T (zsk T a))) (zrDg j) (zrLo j) (zrHi j) with
        | false =>
          rw [hn, if_pos (show zbo false = 0 by decide)] at rr
          rw [hn, if_neg (by decide), if_pos rfl] at b5
          rw [rr, zbI_s] at stC
          refine ⟨C1, 0, C2, _, e1, stC, stM, fun b j h1 _ => fc2 b j h1, fFM _, Or.inl ⟨rfl, _, hs2.1, k2.2.1, ?_⟩⟩
          rw [zup_n _ (by decide)]; exact b5
        | true =>
          rw [hn, if_neg (show ¬ zbo true = 0 by decide)] at rr
          rw [hn, if_pos rfl] at b5
          have hnn := hn
          unfold znum at hnn
          rw [Bool.and_eq_true, Bool.and_eq_true, Bool.and_eq_true] at hnn
          have kv : C2 3 6 = nI (zvl T (zsk T (znx T (zsk T a)))) := k2.2.2.2 (of_decide_eq_true hnn.1)
          have v1 := of_decide_eq_true hnn.2.2.1
          have v2 := of_decide_eq_true hnn.2.2.2
          have a5' := a5 hn
          rw [zup_k _ (show 6 ≠ 2 by decide), kv] at rr
          generalize zvl T (zsk T (znx T (zsk T a))) = v at rr stM v1 v2
          rw [rr, zbI_s] at stC
          have D2 : zD T L (zup (zup C2 3 2 (nI (m ||| 2 ^ j))) (L + 2) j (nI v)) (zup M5 197 (4 + j) (nI v)) (m ||| 2 ^ j) 0 (if j = 2 then v else Wk) := by
            refine zD_rule hL.2.1 D hj6 v1 v2 ?_ (zup_s _ _ _ _) ?_ ?_ (zup_s _ _ _ _) ?_
            · rw [zup_n _ (by omega), zup_s]
            · intro b i h1 h2
              by_cases z : b = L + 2
              · rw [zup_k _ (by omega), zup_n _ h1, fc2 b i h1]
              · rw [zup_n _ z, zup_n _ h1, fc2 b i h1]
            · rw [zup_n _ (by decide), g5 195 16 (by decide), zup_s]
            · intro b i h1 h2
              by_cases z : b = 197
              · rw [zup_k _ (by omega), fm5 b i h1]
              · rw [zup_n _ z, fm5 b i h1]
          refine ⟨C1, 1, _, _, e1, stC, stM, ?_, fFM _, Or.inr ⟨rfl, _, _, _, _, ?_, D2, hx2.1, ?_, ?_, ?_⟩⟩
          · intro b i h1 h2
            rw [zup_n _ (by omega), zup_n _ h1, fc2 b i h1]
          · omega
          · rw [zup_n _ (by omega), zup_k _ (by decide)]; exact k2.2.2.1
          · rw [zup_n _ (by decide)]; exact a5'
          · rw [zup_n _ (by decide)]; exact b5
  | none =>
    have pn := Rd_placeNamed_ok (R := R) (n := n) h tc1 hz hs.1 k1
    rw [hr] at stC
    have zon : zo none = -1 := rfl
    rw [zon, if_pos rfl] at stC
    simp only [h.k, zc_t, pn, zbI_s] at stC
    have dd : (if zlon T (zsk T a) = true then zplc (T.2 (zsk T a)) else -1) = (-1 : Int32) ∨ (zlon T (zsk T a) = true ∧ ∃ k, k < 4 ∧ zplc (T.2 (zsk T a)) = nI k) := by
      by_cases z : zlon T (zsk T a) = true
      · rw [if_pos z]
        rcases zplc_c (T.2 (zsk T a)) with y | y
        · exact Or.inl y
        · exact Or.inr ⟨z, y⟩
      · rw [if_neg z]; exact Or.inl rfl
    rcases dd with y | ⟨y, k, hk, hpk⟩
    · rw [y, if_pos rfl] at stC stM
      have a2' : M2 195 3 = nI (zsk T a) := by
        rw [a2, if_neg]
        rintro ⟨z1, z2⟩
        rw [if_pos z1] at y
        exact z2 y
      obtain ⟨M3, q3, a3, g3⟩ := M_optionHere_ok (R := R') (n := n') hM hz hs.1 hkk tm2 a2'
      rw [hr] at q3 a3
      have q3' : M_optionHere 195 M2 R' n' = some (some (.int (-1)), M3, R', n') := q3
      have fm3 : ∀ b j, (b = 195 → j ≠ 3) → M3 b j = M b j := fun b j hb => by rw [g3 b j hb, fm2 b j hb]
      have d4 : M3 195 4 = -1 := by rw [fm3 195 4 (by decide)]; exact m4
      obtain ⟨M4, q4, -, -⟩ := M_fails_ok (R := R') (n := n') (I := M3) hM (nI (zsk T a))
      have bd := bad M3 (fun b j hb => fm3 b j (fun z => (hb z).1)) d4 M4 q4
      simp only [hM.k, zc_t, q3', zbI_s, if_true, q4, zbV_s] at stM
      exact ⟨C1, 0, C1, M4, e1, stC, stM, bd.1, bd.2.1, Or.inl ⟨rfl, bd.2.2⟩⟩
    · rw [if_pos y, hpk, if_neg (nI_nm1 (by omega))] at stC stM
      have a2' : M2 195 3 = nI (znx T (zsk T a)) := by rw [a2, if_pos ⟨y, by rw [hpk]; exact nI_nm1 (by omega)⟩]
      have d4 : M2 195 4 = -1 := by rw [fm2 195 4 (by decide)]; exact m4
      have d15 : M2 195 15 = nI P := by rw [fm2 195 15 (by decide)]; exact p3
      have t16 : (16 : Int32) = nI 16 := by decide
      simp only [h.k, hL.k, r31, zc_t, zr_s, c18] at stC
      by_cases hP : P < 16
      · rw [t16, if_pos (nI_lt hP (by omega))] at stC
        have D2 : zD T L C1 M2 m P Wk := zD_fr hL.2.1 D (f1 3 2 (by decide)) (fun b j h1 _ => fc1 b j h1) (fun b j h1 _ _ => fm2 b j (fun z => (h1 z).1))
        obtain ⟨v, C', M', eC, eM, fC, fM, out⟩ := zplayer (R := R) (n := n) h hM hL r31 hz ⟨D2, hx.1, k1.2.2.1, a2', d4⟩ hP hk (nI (zsk T a))
        simp only [eC, zbI_s] at stC
        simp only [hM.k, zc_t, eM, zbV_s] at stM
        have f1' : zFC L C C' := fun b j h1 h2 => by rw [fC b j h1 h2, fc1 b j h1]
        have f2' : zFM M M' := fun b j h1 h2 => by rw [fM b j h1 h2, fm2 b j (fun z => (h2 z).1)]
        rcases out with ⟨o1, o2⟩ | ⟨o1, a', o2, o3⟩
        · rw [o1, if_pos rfl] at stC
          exact ⟨C1, 0, C', M', e1, stC, stM, f1', f2', Or.inl ⟨rfl, o2⟩⟩
        · rw [o1, if_neg (by decide)] at stC
          exact ⟨C1, 1, C', M', e1, stC, stM, f1', f2', Or.inr ⟨rfl, a', m, P + 1, Wk, by omega, o3⟩⟩
      · rw [t16, if_neg (nI_nlt (by omega) (by omega))] at stC
        have hP16 : P = 16 := by omega
        obtain ⟨M4, q4, -, -⟩ := M_fails_ok (R := R') (n := n') (I := M2) hM (nI (zsk T a))
        have bd := bad M2 (fun b j hb => fm2 b j (fun z => (hb z).1)) d4 M4 q4
        have pp := e_M_playerHere 195 (nI k) (nI (zsk T a)) M2 R' n'
        rw [d15, if_pos (show nI P = 16 by rw [hP16]; decide)] at pp
        simp only [hM.k, zc_t, q4, zbV_s] at pp
        simp only [hM.k, zc_t, pp, zbV_s] at stM
        exact ⟨C1, 0, C1, M4, e1, stC, stM, bd.1, bd.2.1, Or.inl ⟨rfl, bd.2.2⟩⟩
end LLn
