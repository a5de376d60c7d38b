section LLj
variable {q : Nat} {I : ZI} {R : ZR} {n L L' P Wk z m : Nat} {t : Nat → Nat}
theorem p_league (h : zInv q I R n) : zAg q I R n (C_league 0) (M_league 195) := by
  have W := h.1
  have hM := W.M
  have hn := hM.1
  obtain ⟨⟨T, t1, t2, t3⟩, st, ir⟩ := h.2.1
  obtain ⟨L', iL, hd⟩ := zdraft h
  have i1 := isL_i iL
  obtain ⟨x, C', a1, a3, go⟩ := zread3 W iL t1 st t2 t3
  have tC : tpM (zup C' 195 0 0) T := by
    refine ⟨by rw [zup_k _ (by decide), a3 195 2 (by decide) (by rcases iL with y | y <;> omega)]; exact t3.1, fun k hk => ?_⟩
    rw [zup_n _ (by decide), a3 196 k (by decide) (by omega)]; exact t3.2 k hk
  obtain ⟨M1, b1, b2, b3⟩ := go (zup C' 195 0 0) (zur R 3 1 (some L')) n (WM_zur hM (by decide)) tC
  have sc := e_C_league 0 I R n
  simp only [W.k, W.1, hd, zc_t, zr_s, a1, zbI_s] at sc
  by_cases hx : x = -1
  · rw [if_pos hx] at sc
    subst hx
    have D1 : ∃ m P Wk, 0 < P ∧ zD T L' C' M1 m P Wk := by
      rcases b3 with ⟨-, y⟩ | ⟨p, p1, p2⟩
      · exact y
      · exact absurd p2.symm (nI_nm1 (by have := t1.1; omega))
    obtain ⟨m1, P, Wk, hP1, D1⟩ := D1
    obtain ⟨w1, w6, w2⟩ := zD_wk D1
    obtain ⟨s, z, s1, s2, z1, z6, z9⟩ := zD_s D1
    have hP := D1.2.2.2.2.2.1.1
    have p8 := D1.2.2.2.2.2.1.2.1
    have hpl := D1.2.2.2.2.2.2
    obtain ⟨Lo, iLo, hne, r9, hR, nx, nx1, nx2⟩ : ∃ Lo, isL Lo ∧ L' ≠ Lo ∧ R 0 9 = some Lo ∧ ((n = 218 ∧ R 4 0 = some 5 ∧ R 141 0 = some 142) ∨ (R 4 0 = some 218 ∧ R 4 1 = some 219 ∧ R 4 2 = some 220 ∧ R 4 3 = some 221 ∧ R 4 4 = some 222) ∧ ((n = 223 ∧ R 141 0 = some 142) ∨ (n = 281 ∧ zPr R))) ∧ ∃ nx, nx < 12 ∧ I 28 1 = nI nx := by
      rcases h.2.2 with N | ⟨L, L2, P2, Wk2, z2, m2, t2', N⟩
      · have e : L' = 173 := by
          have := N.1.2.2.2.2
          rw [hd] at this; injection this
        exact ⟨151, Or.inl rfl, by omega, N.1.2.2.2.1, Or.inl ⟨N.1.1, N.1.2.1, N.1.2.2.1⟩, N.2.2.2.2.2⟩
      · have e : L' = L2 := by
          have := N.1.2.2.2.2.1
          rw [hd] at this; injection this
        obtain ⟨nx, mm, nx1, -, nx2, -⟩ := N.2.2.2.2.2.2.1
        exact ⟨L, N.1.1, fun y => N.1.2.2.1 (by omega), N.1.2.2.2.1, Or.inr ⟨N.1.2.2.2.2.2.1.2.1, N.1.2.2.2.2.2.2⟩, nx, nx1, nx2⟩
    have hQ : ∀ b j, 4 ≤ b → zur (zur (zur R 3 1 (some L')) 0 9 (some L')) 0 10 (some Lo) b j = R b j := fun b j hb => by rw [zur_n _ (by omega), zur_n _ (by omega), zur_n _ (by omega)]
    have WQ : zWc (zur (zur (zur R 3 1 (some L')) 0 9 (some L')) 0 10 (some Lo)) n := zWc_z (zWc_z (zWc_z W (by omega)) (by omega)) (by omega)
    have W1 : zWc (zur R 3 1 (some L')) n := zWc_z W (by omega)
    have q9 : zur (zur (zur R 3 1 (some L')) 0 9 (some L')) 0 10 (some Lo) 0 9 = some L' := by rw [zur_k _ (by decide), zur_s]
    have q10 : zur (zur (zur R 3 1 (some L')) 0 9 (some L')) 0 10 (some Lo) 0 10 = some Lo := by rw [zur_s]
    have hQ2 : (n = 218 ∧ zur (zur (zur R 3 1 (some L')) 0 9 (some L')) 0 10 (some Lo) 4 0 = some 5 ∧ zur (zur (zur R 3 1 (some L')) 0 9 (some L')) 0 10 (some Lo) 141 0 = some 142) ∨ (zur (zur (zur R 3 1 (some L')) 0 9 (some L')) 0 10 (some Lo) 4 0 = some 218 ∧ zur (zur (zur R 3 1 (some L')) 0 9 (some L')) 0 10 (some Lo) 4 1 = some 219 ∧ zur (zur (zur R 3 1 (some L')) 0 9 (some L')) 0 10 (some Lo) 4 2 = some 220 ∧ zur (zur (zur R 3 1 (some L')) 0 9 (some L')) 0 10 (some Lo) 4 3 = some 221 ∧ zur (zur (zur R 3 1 (some L')) 0 9 (some L')) 0 10 (some Lo) 4 4 = some 222) ∧ ((n = 223 ∧ zur (zur (zur R 3 1 (some L')) 0 9 (some L')) 0 10 (some Lo) 141 0 = some 142) ∨ (n = 281 ∧ zPr (zur (zur (zur R 3 1 (some L')) 0 9 (some L')) 0 10 (some Lo)))) := by
      unfold zPr at hR ⊢
      have r4 : ∀ j, zur (zur (zur R 3 1 (some L')) 0 9 (some L')) 0 10 (some Lo) 4 j = R 4 j := fun j => hQ 4 j (by decide)
      have r141 : ∀ j, zur (zur (zur R 3 1 (some L')) 0 9 (some L')) 0 10 (some Lo) 141 j = R 141 j := fun j => hQ 141 j (by decide)
      have r224 : ∀ j, zur (zur (zur R 3 1 (some L')) 0 9 (some L')) 0 10 (some Lo) 224 j = R 224 j := fun j => hQ 224 j (by decide)
      have r266 : ∀ j, zur (zur (zur R 3 1 (some L')) 0 9 (some L')) 0 10 (some Lo) 266 j = R 266 j := fun j => hQ 266 j (by decide)
      have r273 : ∀ j, zur (zur (zur R 3 1 (some L')) 0 9 (some L')) 0 10 (some Lo) 273 j = R 273 j := fun j => hQ 273 j (by decide)
      simp only [r4, r141, r224, r266, r273]
      exact hR
    obtain ⟨K, Cf, R3, n1, p, d, u1, ⟨u2, u3⟩, ⟨k2, k3, k4, k5⟩, ⟨ep, ed, hB, c6, tb6, c7, tb7, c8, c9⟩, ⟨e2, e3, e4, e5, e6, e8, e9, e10, e11, e12⟩, ⟨f28, f11, f12, f141, f1⟩, fr⟩ := C_league_take W iL iLo hne WQ q9 q10 hQ2 hP1 hP w1 w6 z1 z6 p8 z9 w2 s1 s2 (fun i hi => by
      obtain ⟨⟨v, v1, v2, -⟩, -⟩ := hpl i hi
      exact ⟨v, v1, v2⟩) (fun i hi => by
      obtain ⟨-, ⟨v, v1, v2, -⟩, -⟩ := hpl i hi
      exact ⟨v, v1, v2⟩) (fun i hi => by
      obtain ⟨-, -, ⟨v, v1, v2, v3, -⟩, -⟩ := hpl i hi
      exact ⟨v, v1, v2, v3⟩)
    have r39 : zur R 3 1 (some L') 0 9 = some Lo := by rw [zur_n _ (by decide)]; exact r9
    have r310 : zur R 3 1 (some L') 0 10 = some L' := by rw [zur_n _ (by decide)]; exact hd
    have kL := (W.L iL).k
    simp only [r39, r310, zr_s, zc_t, W.k, q9, kL] at sc
    rw [u1] at sc
    have kI : ∀ b j, (b < 218 ∨ 1000 ≤ b) → b ≠ 3 → b ≠ 4 → b ≠ 10 → (b = 28 → j ≠ 2) → (b = 0 → j ≠ 11 ∧ j ≠ 12) → (b = 141 → j ≠ 10) → (b = 1 → j ≠ 1) → (b < L' ∨ L' + 22 ≤ b) → Cf b j = I b j := fun b j h1 h2 h3 h4 h5 h6 h7 h8 h9 => by
      rw [fr b j h1 h3 h4 h5 h6 h7 h8, k5 b j (by omega) (by omega) (by omega)]
      exact a3 b j h2 h9
    have h195 : ∀ b, 195 ≤ b → L' + 22 ≤ b := fun b hb => by rcases iL with y | y <;> omega
    have tF : tpM (zup Cf 195 0 0) T := by
      refine ⟨by rw [zup_k _ (by decide), kI 195 2 (by decide) (by decide) (by decide) (by decide) (by decide) (by decide) (by decide) (by decide) (Or.inr (h195 _ (by decide)))]; exact t3.1, fun k hk => ?_⟩
      rw [zup_n _ (by decide), kI 196 k (by decide) (by decide) (by decide) (by decide) (by omega) (by omega) (by omega) (by omega) (Or.inr (h195 _ (by decide)))]; exact t3.2 k hk
    obtain ⟨M2, g1, g2, g3⟩ := go (zup Cf 195 0 0) R3 n1 u2.M tF
    obtain ⟨m2, P2, Wk2, hP2, D2⟩ : ∃ m P Wk, 0 < P ∧ zD T L' C' M2 m P Wk := by
      rcases g3 with ⟨-, y⟩ | ⟨p, p1, p2⟩
      · exact y
      · exact absurd p2.symm (nI_nm1 (by have := t1.1; omega))
    have eP : P2 = P := by
      have h1 := D2.2.2.2.2.2.1.2.1
      have h2 := D2.2.2.2.2.2.1.1
      rw [p8, nI_eq (by omega) (by omega)] at h1
      exact h1.symm
    have eW : Wk2 = Wk := by
      obtain ⟨-, y6, h1⟩ := zD_wk D2
      rw [w2, nI_eq (by omega) (by omega)] at h1
      exact h1.symm
    subst eP; subst eW
    have hM3 := u2.M
    have sm := e_M_league 195 Cf R3 n1
    have m15 : M2 195 15 = nI P2 := D2.2.2.2.2.2.1.2.2
    simp only [hM3.k, zc_t, g1, zbI_s, if_pos trivial, ite_true] at sm
    rw [zup_k 195 (show (15 : Nat) ≠ 18 by decide), zup_k 195 (show (15 : Nat) ≠ 2 by decide), m15] at sm
    have jj : ∀ b j, (b = 195 → j ≠ 2 ∧ j ≠ 18 ∧ j ≠ 17) → zup (zup (zup M2 195 2 0) 195 18 1) 195 17 (nI P2) b j = M2 b j := fun b j hb => by
      by_cases e : b = 195
      · rw [zup_k _ (hb e).2.2, zup_k _ (hb e).2.1, zup_k _ (hb e).1]
      · rw [zup_n _ e, zup_n _ e, zup_n _ e]
    have zz : M2 197 0 + M2 197 1 + M2 197 2 + M2 197 3 = nI z := by
      obtain ⟨zz, -, -, y3, y4⟩ := D2.2.2.2.2.1.2
      rw [y4, ← y3]; exact z9
    obtain ⟨G, ⟨v8, v3, v6, v208, v7, v24, v25, vf⟩, fin⟩ := M_league_take (J := zup (zup (zup M2 195 2 0) 195 18 1) 195 17 (nI P2)) (P := P2) (z := z) hM3 hP (by rw [zup_s]) (by rw [jj _ _ (by decide), jj _ _ (by decide), jj _ _ (by decide), jj _ _ (by decide)]; exact zz) z1 z6
    -- the frame of the reference
    have GC : ∀ b j, (b < 195 ∨ 209 ≤ b) → G b j = Cf b j := fun b j hb => by
      rw [vf b j (by omega) (by omega) (by omega) (by omega) (by omega) (by omega) (by omega), jj b j (by omega), g2 b j (by omega) (by omega), zup_n _ (by omega)]
    have GK : ∀ b, L' ≤ b → b < L' + 22 → G b = K b := fun b h1 h2 => funext fun j => by
      rw [GC b j (by rcases iL with y | y <;> omega), fr b j (by omega) (by omega) (by omega) (by omega) (by omega) (by omega) (by omega)]
    have g17 : G 195 17 = nI P2 := by rw [vf _ _ (by decide) (by decide) (by decide) (by decide) (by decide) (by decide) (by decide), zup_s]
    have gLg : zLg G L' P2 Wk2 z := zLg_take iL hP1 D2 z1 z6 z9 k2 k3 k4 k5 GK g17 (fun k hk => by rw [v8 k hk, jj _ _ (by omega)]) (fun i hi => by
      obtain ⟨y1, y2, y3, -⟩ := v3 i hi
      rw [y1, y2, y3, jj _ _ (by omega), jj _ _ (by omega), jj _ _ (by omega)]; exact ⟨rfl, rfl, rfl⟩) (fun i w hi hw => by rw [v6 i w hi hw, jj _ _ (by omega)])
    have eT : mT G z P2 = p := by
      rw [mT_c gLg, ep]
      funext S
      unfold cT
      rw [cTeam_c GK]
    rw [eT] at fin
    obtain ⟨F, y1, y2, y3, y4⟩ := fin hB
    have FG : ∀ b, b ≠ 207 → b ≠ 195 → F b = G b := fun b h1 h2 => funext fun j => y4 b j h1 (fun e => absurd e h2)
    have fLg : zLg F L' P2 Wk2 z := zLg_c gLg (fun b h1 h2 => FG b (by rcases iL with y | y <;> omega) (by rcases iL with y | y <;> omega)) (y4 _ _ (by decide) (by decide)) (FG _ (by decide) (by decide)) (FG _ (by decide) (by decide)) (FG _ (by decide) (by decide)) (FG _ (by decide) (by decide)) (FG _ (by decide) (by decide))
    have FC : ∀ b j, (b < 195 ∨ 209 ≤ b) → F b j = Cf b j := fun b j hb => by rw [FG b (by omega) (by omega), GC b j hb]
    have FK : ∀ b, L' ≤ b → b < L' + 22 → F b = K b := fun b h1 h2 => by rw [FG b (by rcases iL with y | y <;> omega) (by rcases iL with y | y <;> omega)]; exact GK b h1 h2
    have ep' : p = cT F L' z P2 := by
      rw [ep]
      funext S
      unfold cT
      rw [cTeam_c FK]
    have ed' : d = cD F L' z P2 := by
      rw [ed]
      funext S
      unfold cD
      rw [← ep', ep, FK (L' + 2) (by omega) (by omega), FK (L' + 15) (by omega) (by omega)]
    have rowC : ∀ b, (b < 195 ∨ 209 ≤ b) → F b = Cf b := fun b hb => funext fun j => FC b j hb
    have fTt := zTt_of (I := F) fLg ep' ed' hB (by rw [FC _ _ (by decide)]; exact c6) (by rw [rowC 218 (by decide)]; exact tb6) (by rw [FC _ _ (by decide)]; exact c7) (by rw [rowC 221 (by decide)]; exact tb7) y2 y3
    have F8 : ∀ j, F 208 j = G 208 j := fun j => y4 _ _ (by decide) (fun e => absurd e (by decide))
    have g0 : ∀ j, j < 79 → j ≠ 7 → (j < 11 ∨ 27 ≤ j) → F 208 j = 0 := fun j h1 h2 h3 => by rw [F8]; exact v208 j h1 h2 h3
    have F10 : ∀ j, F 10 j = Cf 10 j := fun j => FC _ _ (by decide)
    have F195 : ∀ j, j ≠ 2 → j ≠ 17 → j ≠ 18 → j ≠ 20 → j ≠ 24 → j ≠ 25 → F 195 j = M2 195 j := fun j h1 h2 h3 h4 h5 h6 => by
      rw [y4 195 j (by decide) (fun _ => h4), vf 195 j (by decide) (by decide) (by decide) (by decide) (by decide) (by decide) (fun _ => ⟨h5, h6⟩), jj _ _ (fun _ => ⟨h1, h3, h2⟩)]
    refine ⟨nI P2, Cf, R3, n1, F, R3, n1, sc, sm.trans y1, u2, ⟨⟨(0, T.2), ⟨Nat.zero_le _, fun k hk => absurd hk (Nat.not_lt_zero _)⟩, ⟨?_, fun k hk => absurd hk (Nat.not_lt_zero _)⟩, ⟨?_, fun k hk => absurd hk (Nat.not_lt_zero _)⟩⟩, fun k hk => ?_, fun k hk => ?_⟩, Or.inr ⟨L', Lo, P2, Wk2, z, _, _, u3, ⟨?_, ?_⟩, fLg, fTt, ⟨fun w hw e => ?_, fun w hw e => ?_⟩, ⟨false, 0, 0, 0, 0, 0, 0, 0, ⟨?_, ?_⟩, ⟨?_, ?_, by omega⟩, ⟨?_, ?_, by omega⟩, ⟨?_, ?_, by omega, fun y => (nomatch y)⟩, ⟨?_, ?_, by omega⟩, fun y => (nomatch y), ⟨?_, ?_, Nat.two_pow_pos _, fun y => (nomatch y), fun _ => ⟨rfl, rfl, rfl, rfl, rfl, ?_, ?_⟩⟩, ⟨?_, ?_, by omega⟩, ⟨?_, Or.inl ?_⟩, ?_, ⟨?_, ?_, Nat.two_pow_pos _⟩, fun i _ y => absurd y (by rw [Nat.zero_testBit]; decide), fun w' j hw' => by omega, fun i hi => ?_⟩, ⟨nx, 0, nx1, by omega, ?_, ?_, ?_, fun k hk => by omega⟩, Or.inl ⟨?_, ?_⟩, Or.inl ?_⟩⟩
    · rw [FC _ _ (by decide)]; exact f1
    · rw [y4 _ _ (by decide) (by decide), vf _ _ (by decide) (by decide) (by decide) (by decide) (by decide) (by decide) (by decide), zup_k _ (by decide), zup_k _ (by decide), zup_s]; rfl
    · have s' : ∀ b, 1000 ≤ b → F b k = I b k := fun b hb => by
        rw [FC b k (by omega)]
        exact kI b k (by omega) (by omega) (by omega) (by omega) (by omega) (by omega) (by omega) (by omega) (Or.inr (by omega))
      rw [s' 1010 (by decide), s' 1011 (by decide), s' 1012 (by decide)]; exact st k hk
    · rw [FC 150 k (by decide), FC 211 k (by decide), kI 150 k (by decide) (by decide) (by decide) (by decide) (by omega) (by omega) (by omega) (by omega) (Or.inl i1.1), kI 211 k (by decide) (by decide) (by decide) (by decide) (by omega) (by omega) (by omega) (by omega) (Or.inr (h195 _ (by decide)))]
      exact ir k hk
    · rw [FC _ _ (by decide)]; exact f11
    · rw [y4 _ _ (by decide) (by decide), vf _ _ (by decide) (by decide) (by decide) (by decide) (by decide) (by decide) (by decide), zup_k _ (by decide), zup_s]
    · rw [FC _ _ (by decide), c8] at e
      exact absurd e.symm (nI_nm1 (by omega))
    · rw [FC _ _ (by decide), c9] at e
      exact absurd e.symm (nI_nm1 (by omega))
    · rw [F10]; exact e2
    · rw [g0 _ (by decide) (by decide) (by decide)]; rfl
    · rw [F10]; exact e3
    · rw [g0 _ (by decide) (by decide) (by decide)]; rfl
    · rw [F10]; exact e4
    · rw [g0 _ (by decide) (by decide) (by decide)]; rfl
    · rw [F10]; exact e5
    · rw [g0 _ (by decide) (by decide) (by decide)]; rfl
    · rw [F10]; exact e6
    · rw [g0 _ (by decide) (by decide) (by decide)]; rfl
    · rw [F10]; exact e8
    · rw [g0 _ (by decide) (by decide) (by decide)]; rfl
    · rw [F10]; exact e10
    · rw [F10]; exact e11
    · rw [F10]; exact e9
    · rw [g0 _ (by decide) (by decide) (by decide)]; rfl
    · rw [F10, F8, v7]; exact e10
    · rw [F10]; exact e10
    · rw [F10, g0 _ (by decide) (by decide) (by decide)]; exact e11
    · rw [F10]; exact e12
    · rw [g0 _ (by decide) (by decide) (by decide)]; rfl
    · have hi16 : i < 16 := by omega
      obtain ⟨-, -, ⟨v, -, -, w3, w4⟩, -⟩ := D2.2.2.2.2.2.2 i hi
      rw [F8, (v3 i hi16).2.2.2, jj _ _ (by omega), w4, show L' + 15 + 0 = L' + 15 from rfl, FK (L' + 15) (by omega) (by omega), k5 _ _ (by omega) (by omega) (by omega), w3]
    · rw [FC _ _ (by decide), kI 28 1 (by decide) (by decide) (by decide) (by decide) (by decide) (by decide) (by decide) (by decide) (Or.inl (by omega))]; exact nx2
    · rw [FC _ _ (by decide)]; exact f28
    · rw [y4 _ _ (by decide) (by decide)]; exact v24
    · rw [FC _ _ (by decide)]; exact f12
    · rw [y4 _ _ (by decide) (by decide)]; exact v25
    · rw [FC _ _ (by decide)]; exact f141
  · rw [if_neg hx] at sc
    have sm := e_M_league 195 C' (zur R 3 1 (some L')) n
    simp only [hM.k, zc_t, b1, zbI_s, if_neg hx] at sm
    exact ⟨-1, C', _, n, M1, _, n, sc, sm, zInv_read h hd iL a3 b2⟩
end LLj
