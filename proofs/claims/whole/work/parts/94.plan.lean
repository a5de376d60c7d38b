/-! ===== the planner (class): the plan is made ===== -/
section LPb
variable {I : ZI} {R : ZR} {n L m P O s f s0 l w0 Wk co : Nat} {t : Nat → Nat} {pl tp : Nat → Nat → Int32}
theorem Pl_make29_ok (hW : WP R n L) (hL : WL R n L) (hS : WS R n 10) (hT : WT R n L) (ht : zTm I m t) (hP : P ≤ 16) (hp : I L 8 = nI P) (hWk : Wk ≤ 6) (hw0 : w0 < Wk) (h13 : I 141 13 = nI Wk) (h4 : I 10 4 = nI w0) (hO : I 10 8 = nI O) (hO2 : O < 65536) (h9 : I 10 9 = nI s) (hs : s < 8) (h5 : I 10 5 = nI f) (hf1 : 1 ≤ f) (hf2 : f ≤ 2) (h6 : I 10 6 = nI s0) (hs0 : s0 ≤ 1000) (h12 : I 10 12 = nI l) (hl31 : l < 2 ^ 31) (hco : I (L + 2) 3 = nI co) (hco9 : co ≤ 9) (cond : Nat → Bool) (hcond : cond = fun k => !(decide (I 10 3 + zsum O (fun i => zbrings (I (L + 15 + w0) i) (I 11 i)) 16 < I 219 k))) (hlow : ∀ w k, w < Wk → k < P → (-100000000 : Int32) < I (L + 8 + w) k) (hne : ∀ w k, w < Wk → k < m → zcap (t k) (I (L + 8 + w)) P ≠ none) (hpt : ∀ w k, w0 ≤ w → w < Wk → k < zct cond m → cPl I L P (zChs m cond t) w k = pl w k ∧ cTp I L P (zChs m cond t) w k = tp w k ∧ zbd 800 (pl w k) ∧ zbd 100 (tp w k)) (hex : 1 ≤ zct cond m → zct cond m ≤ 40 → ∃ k ch, k < zct cond m ∧ ch < 4 ∧ zokT true (I 10 10) s0 l s (zChs m cond t) k ch = true) : ∃ J, Pl_make_29 141 L 10 4 I R n = some (none, J, R, n) ∧ J 141 11 = nI (zct cond m) ∧ (1 ≤ zct cond m → zct cond m ≤ 40 → ∃ x k ch, zIM (zct cond m) (zokT true (I 10 10) s0 l s (zChs m cond t)) (zov (zVal pl tp (zChs m cond t) co (zct cond m) Wk (Wk - (w0 + 1))) (pl w0) (tp w0) (zChs m cond t) co O f s s0) x ∧ zFs (zct cond m) (zokT true (I 10 10) s0 l s (zChs m cond t)) (zov (zVal pl tp (zChs m cond t) co (zct cond m) Wk (Wk - (w0 + 1))) (pl w0) (tp w0) (zChs m cond t) co O f s s0) x k ch ∧ J 141 14 = x ∧ J 148 w0 = nI (zChs m cond t k) ∧ J 149 w0 = zwh ch ∧ zPath pl tp (zChs m cond t) co (zct cond m) Wk (Wk - (w0 + 1)) (w0 + 1) (znb O (zChs m cond t k) ch) (znf f (s0 + zdf (zChs m cond t k) O) ch) (znu s ch) (J 148) (J 149)) ∧ ∀ b j, (b < 223 ∨ 281 ≤ b) → (b = 141 → j < 11 ∨ 17 < j ∨ j = 13) → b ≠ 147 → b ≠ 148 → b ≠ 149 → J b j = I b j := by
  have hl := isL_i hL.2.1
  have hw7 : w0 < 7 := by omega
  have i1 : zin (L + 14) (nI w0) = true := zin_of hL.ln.2.2.2.2.2.2.2 hw7 (by decide)
  have wo := Se_worth_ok (I := I) hS hO (show O < 2 ^ 31 by omega) (hL.pw hw7).1 (hL.pw hw7).2
  obtain ⟨J1, q1, q2, q3, q4⟩ := Pl_choose_ok (I := I) hW hT (I 10 3 + zsum O (fun i => zbrings (I (L + 15 + w0) i) (I 11 i)) 16) ht.1 ht.2.1
  rw [← hcond] at q2 q3
  have st := e_Pl_make_29 141 L 10 4 I R n
  simp only [hW.k, hL.k, hL.r, hS.k, zc_t, zr_s, h4, i1, Bool.true_or, Bool.true_and, zix_nI (show w0 < 2 ^ 31 by omega), hL.2.2.2.2 w0 hw7, wo, zbI_s, q1, zbV_s] at st
  have zle : zct cond m ≤ m := by
    have : ∀ q : Nat → Bool, ∀ k, zct q k ≤ k := by
      intro q k
      induction k with
      | zero => exact Nat.le_refl _
      | succ k ih => rw [zct_succ]; split <;> omega
    exact this _ m
  have hm := ht.2.1
  generalize hN : zct cond m = N at *
  have t40 : (40 : Int32) = nI 40 := by decide
  have hp0 := e_Pl_hasPlan 141 J1 R n
  simp only [hW.k, zc_t, q2] at hp0
  have fr1 : ∀ b j, (b < 223 ∨ 281 ≤ b) → (b = 141 → j < 11 ∨ 17 < j ∨ j = 13) → b ≠ 147 → b ≠ 148 → b ≠ 149 → J1 b j = I b j := fun b j h1 h2 _ _ _ => q4 b j (by omega) (by omega)
  by_cases c1 : 1 ≤ N ∧ N ≤ 40
  · obtain ⟨c1, c2⟩ := c1
    rw [if_pos (zgt0 (by omega) (by omega)), t40, if_neg (nI_nlt c2 (by decide))] at hp0
    simp only [hp0, zbI_s, if_neg (show ¬ (1 : Int32) = 0 by decide)] at st
    have hc1 : ∀ k, k < N → J1 223 k = nI (zChs m cond t k) ∧ zChs m cond t k < 65536 ∧ zChs m cond t k ≠ 0 ∧ ∃ i, i < m ∧ zChs m cond t k = t i := fun k hk => by
      obtain ⟨i, a1, a2, a3, a4⟩ := zChs_ex t (show k < zct cond m by omega)
      have b := q3 i a1 (by rw [← a2, hcond]) (by omega)
      rw [a3, (ht.2.2 i a1).1] at b
      rw [a4]
      exact ⟨b, (ht.2.2 i a1).2.1, (ht.2.2 i a1).2.2, i, a1, rfl⟩
    generalize zChs m cond t = c at *
    obtain ⟨J2, a, p1, p2, p3, p4, p5⟩ := Pl_setOwned_ok (I := J1) (c := c) hW hS c2 q2 (by rw [q4 10 8 (by decide) (by decide)]; exact hO) (show O < 2 ^ 31 by omega) (fun k hk => ⟨(hc1 k hk).1, by have := (hc1 k hk).2.1; omega⟩)
    have fr2 : ∀ b j, (b < 223 ∨ 281 ≤ b) → (b = 141 → j < 11 ∨ 17 < j ∨ j = 13) → b ≠ 147 → b ≠ 148 → b ≠ 149 → J2 b j = I b j := fun b j h1 h2 h3 h4 h5 => by rw [p5 b j (by omega) (by omega), fr1 b j h1 h2 h3 h4 h5]
    have j11 : J2 141 11 = nI N := by rw [p5 _ _ (by decide) (by decide)]; exact q2
    obtain ⟨rows, r1, r2, r3, bs, r4, r5, r6⟩ : ∃ rows, J2 141 12 = nI rows ∧ N ≤ rows ∧ rows ≤ 41 ∧ ∃ bs : Nat → Nat, (∀ k, k < N → bs k = c k) ∧ (∀ r, r < rows → J2 223 r = nI (bs r)) ∧ a < rows ∧ bs a = O := by
      rcases p2 with ⟨g1, g2, g3⟩ | ⟨g1, g2, g3, g4⟩
      · exact ⟨N, g3, Nat.le_refl _, by omega, c, fun k hk => rfl, fun r hr => by rw [p4 r hr]; exact (hc1 r hr).1, g1, g2⟩
      · refine ⟨N + 1, g3, by omega, by omega, fun r => if r = N then O else c r, fun k hk => if_neg (by omega), fun r hr => ?_, by omega, if_pos g1⟩
        by_cases z : r = N
        · show J2 223 r = nI (if r = N then O else c r)
          rw [if_pos z, z]; exact g4
        · show J2 223 r = nI (if r = N then O else c r)
          rw [if_neg z, p4 r (by omega)]; exact (hc1 r (by omega)).1
    have hc2 : ∀ k, k < N → J2 223 k = nI (c k) ∧ c k < 65536 := fun k hk => ⟨by rw [p4 k hk]; exact (hc1 k hk).1, (hc1 k hk).2.1⟩
    obtain ⟨J3, u1, u2, u3⟩ := Pl_measure2_ok (I := J2) (c := c) (bs := bs) hW hS c2 r3 j11 r1 hc2 r5
    have eR : ∀ w, w < 6 → J3 (L + 8 + w) = I (L + 8 + w) := fun w hw => by
      funext j
      rw [u3 _ (by omega), fr2 _ _ (by omega) (by omega) (by omega) (by omega) (by omega)]
    have f3 : ∀ b j, b < 223 → (b = 141 → j < 11 ∨ 17 < j ∨ j = 13) → b ≠ 147 → b ≠ 148 → b ≠ 149 → J3 b j = I b j := fun b j h1 h2 h3 h4 h5 => by
      rw [u3 b (by omega), fr2 b j (by omega) h2 h3 h4 h5]
    have eP : ∀ w k, w < 6 → cPl J3 L P c w k = cPl I L P c w k ∧ cTp J3 L P c w k = cTp I L P c w k := fun w k hw => by
      unfold cPl cTp
      rw [eR w hw]
      exact ⟨rfl, rfl⟩
    obtain ⟨J4, v1, v2, v3, v4⟩ := Pl_measure66_ok (I := J3) (c := c) (w0 := w0) hW hL c2 hP (by rw [u3 141 (by omega)]; exact j11) (by rw [f3 _ _ (by omega) (by omega) (by omega) (by omega) (by omega)]; exact hp) (fun k hk => ⟨by rw [u3 223 (by omega)]; exact (hc2 k hk).1, (hc2 k hk).2, (hc1 k hk).2.2.1⟩) hWk (by rw [f3 _ _ (by omega) (by omega) (by omega) (by omega) (by omega)]; exact h13) (fun w k h1 h2 => by rw [eR w (by omega)]; exact hlow w k h1 h2) (fun w k h1 h2 => by
      obtain ⟨i, z1, z2⟩ := (hc1 k h2).2.2.2
      rw [eR w (by omega), z2]; exact hne w i h1 z1) (Wk - w0) w0 J3 (by omega) (fun _ _ _ => rfl) (fun w' k h1 h2 => by omega) (fun w' h1 h2 => by omega)
    rw [fr2 10 4 (by omega) (by omega) (by omega) (by omega) (by omega), h4] at u1
    have me := u1.trans v1
    have g4 : ∀ b j, b < 223 → (b = 141 → j < 11 ∨ 17 < j ∨ j = 13) → b ≠ 147 → b ≠ 148 → b ≠ 149 → J4 b j = I b j := fun b j h1 h2 h3 h4 h5 => by
      rw [v2 b (by omega) h3, f3 b j h1 h2 h3 h4 h5]
    obtain ⟨J5, y1, y2, y3⟩ := Pl_clearEnd_ok (I := J4) (Wk := Wk) hW (by rw [g4 _ _ (by omega) (by omega) (by omega) (by omega) (by omega)]; exact h13) hWk
    have g5 : ∀ b j, b < 223 → (b = 141 → j < 11 ∨ 17 < j ∨ j = 13) → b ≠ 147 → b ≠ 148 → b ≠ 149 → J5 b j = I b j := fun b j h1 h2 h3 h4 h5 => by
      rw [y2 b (by omega), g4 b j h1 h2 h3 h4 h5]
    have hn : zPn N rows co s w0 Wk c bs pl tp := ⟨⟨c1, c2⟩, ⟨r2, r3⟩, hco9, hs, hWk, r4, fun w k h1 h2 h3 => (hpt w k h1 h2 h3).2.2⟩
    have e141 : ∀ j, J5 141 j = J2 141 j := fun j => by rw [y2 141 (by omega), v2 141 (by omega) (by omega), u3 141 (by omega)]
    have hpd : zPd J5 L N rows co s w0 Wk c bs pl tp := by
      refine ⟨⟨by rw [e141]; exact j11, by rw [e141]; exact r1, by rw [g5 _ _ (by omega) (by omega) (by omega) (by omega) (by omega)]; exact hco, by rw [g5 _ _ (by omega) (by omega) (by omega) (by omega) (by omega)]; exact h9⟩, fun r k h1 h2 => ?_, fun w k h1 h2 h3 => ?_, fun w h1 h2 => ?_⟩
      · rw [y2 _ (by omega), v2 _ (by omega) (by omega)]; exact u2 r k h1 h2
      · rw [y2 _ (by omega), y2 _ (by omega), (v3 w k h1 h2 h3).1, (v3 w k h1 h2 h3).2, (eP w k (by omega)).1, (eP w k (by omega)).2]
        exact ⟨(hpt w k h1 h2 h3).1, (hpt w k h1 h2 h3).2.1⟩
      · have e1 : J5 147 w = zmxF (-100000000) (pl w) N := by
          rw [y2 147 (by omega), v4 w h1 h2]
          exact zmxF_congr _ (fun k hk => by rw [(eP w k (by omega)).1]; exact (hpt w k h1 h2 hk).1)
        rw [e1]
        obtain ⟨m1, m2, m3⟩ := zmxF_ok (-100000000) (pl w) N
        refine ⟨?_, m3⟩
        rcases m1 with m1 | ⟨k, k1, k2⟩
        · exfalso
          have lo := (zlow_bd (hpt w 0 h1 h2 (by omega)).2.2.1 (by decide)).2
          have := m3 0 (by omega)
          rw [m1] at this
          exact this lo
        · exact ⟨k, k1, k2⟩
    obtain ⟨e, he⟩ : ∃ e, w0 + e + 1 = Wk := ⟨Wk - 1 - w0, by omega⟩
    have tb : zTbs J5 pl tp c bs co N rows s Wk (w0 + e) := zTbs_end hn y3 he
    obtain ⟨J6, x1, x2, x3⟩ := Pl_weeks_ok hW hL hS hn e J5 (by omega) (by rw [g5 _ _ (by omega) (by omega) (by omega) (by omega) (by omega)]; exact h4) hpd tb
    have g6 : ∀ b j, b < 223 → (b = 141 → j < 11 ∨ 17 < j ∨ j = 13) → b ≠ 147 → b ≠ 148 → b ≠ 149 → J6 b j = I b j := fun b j h1 h2 h3 h4 h5 => by
      rw [x2 b (by omega), g5 b j h1 h2 h3 h4 h5]
    have wf : zWf J6 L N rows co s w0 Wk s0 l c bs pl tp := ⟨zPd_280 hL.2.1 hpd hn x2, x3, ⟨by rw [g6 _ _ (by omega) (by omega) (by omega) (by omega) (by omega)]; exact h13, by rw [g6 _ _ (by omega) (by omega) (by omega) (by omega) (by omega)]; exact h4, by rw [g6 _ _ (by omega) (by omega) (by omega) (by omega) (by omega)]; exact h6, by rw [g6 _ _ (by omega) (by omega) (by omega) (by omega) (by omega)]; exact h12⟩, fun k hk => ⟨by rw [x2 223 (by omega), y2 223 (by omega), v2 223 (by omega) (by omega), u3 223 (by omega)]; exact (hc2 k hk).1, by have := (hc2 k hk).2; omega⟩⟩
    have kc : J6 10 10 = I 10 10 := g6 _ _ (by omega) (by omega) (by omega) (by omega) (by omega)
    obtain ⟨J7, x, k, ch, z1, z2, z3, z4, z5, z6, z7, z8⟩ := Pl_walk_ok hW hL hS hn hs0 hl31 hw0 wf r6.1 hf1 hf2 (by rw [x2 141 (by omega), e141]; exact p3) (by rw [g6 _ _ (by omega) (by omega) (by omega) (by omega) (by omega)]; exact h5) (by rw [kc]; exact hex c1 c2)
    rw [kc, r6.2] at z2 z3
    rw [r6.2] at z7
    have k13 : J5 141 13 = nI Wk := by rw [g5 _ _ (by omega) (by omega) (by omega) (by omega) (by omega)]; exact h13
    simp only [hW.k, zc_t, p1, zbV_s, me, y1, k13, zpred (show 1 ≤ Wk by omega)] at st
    rw [show Wk - 1 = w0 + e by omega, x1, z1, zbV_s] at st
    refine ⟨J7, st, ?_, fun _ _ => ⟨x, k, ch, z2, z3, z4, z5, z6, z7⟩, fun b j h1 h2 h3 h4 h5 => ?_⟩
    · rw [z8 _ _ (by decide) (by decide) (by decide), x2 141 (by omega), e141]; exact j11
    · rcases h1 with h1 | h1
      · rw [z8 b j (by omega) h4 h5, g6 b j h1 h2 h3 h4 h5]
      · rw [z8 b j (by omega) h4 h5, x2 b (by omega), y2 b (by omega), v2 b (by omega) h3, u3 b (by omega), fr2 b j (by omega) h2 h3 h4 h5]
  · have hh : Pl_hasPlan 141 J1 R n = some (some (.int 0), J1, R, n) := by
      rw [hp0]
      by_cases c2 : 1 ≤ N
      · rw [if_pos (zgt0 (by omega) (by omega)), t40, if_pos (nI_lt (show 40 < N by omega) (by omega))]
      · rw [show N = 0 by omega, nI_0, if_neg (by decide)]
    simp only [hh, zbI_s, if_true] at st
    exact ⟨J1, st, q2, fun h1 h2 => absurd ⟨h1, h2⟩ c1, fr1⟩
end LPb
