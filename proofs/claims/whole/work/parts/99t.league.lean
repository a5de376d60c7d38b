/-! ===== league, both sides ===== -/
section LLi
variable {q : Nat} {I : ZI} {R : ZR} {n L L' P Wk z m : Nat} {t : Nat → Nat}
theorem M_league_take {J : ZI} (hM : WM R n) (hP : P ≤ 16) (h17 : J 195 17 = nI P) (hz : J 197 0 + J 197 1 + J 197 2 + J 197 3 = nI z) (hz1 : 1 ≤ z) (hz6 : z ≤ 6) : ∃ G, ((∀ k, k < 10 → G 198 k = J 197 k) ∧ (∀ i, i < 16 → G 203 i = J 199 i ∧ G 204 i = J 200 i ∧ G 205 i = J 201 i ∧ G 208 (11 + i) = J 201 i) ∧ (∀ i w, i < 16 → w < 6 → G 206 (6 * i + w) = J 202 (6 * i + w)) ∧ (∀ j, j < 79 → j ≠ 7 → (j < 11 ∨ 27 ≤ j) → G 208 j = 0) ∧ G 208 7 = -1 ∧ G 195 24 = 0 ∧ G 195 25 = 0 ∧ ∀ b j, b ≠ 198 → b ≠ 203 → b ≠ 204 → b ≠ 205 → b ≠ 206 → b ≠ 208 → (b = 195 → j ≠ 24 ∧ j ≠ 25) → G b j = J b j) ∧ (zct (mT G z P) (2 ^ P) ≤ 3136 → ∃ F, M_league_35 195 0 J R n = some (some (.int (nI P)), F, R, n) ∧ F 195 20 = nI (zct (mT G z P) (2 ^ P)) ∧ zTab (mT G z P) (2 ^ P) (F 207) ∧ ∀ b j, b ≠ 207 → (b = 195 → j ≠ 20) → F b j = G b j) := by
  obtain ⟨F1, a1, a2, a3⟩ := M_league35_ok (J := J) hM
  obtain ⟨F2, b1, b2, b3⟩ := M_league61_ok (J := F1) hM
  obtain ⟨F3, c1, c2, c3, c4⟩ := M_league82_ok (J := F2) hM
  have t16 : (16 : Int32) = nI 16 := by decide
  have fr : ∀ b j, b ≠ 198 → b ≠ 203 → b ≠ 204 → b ≠ 205 → b ≠ 206 → b ≠ 208 → F3 b j = J b j := fun b j h0 h1 h2 h3 h4 h5 => by
    rw [c4 b j h1 h2 h3 h4 (fun e => absurd e h5), b3 b j h5, a3 b j h0]
  have f2 : ∀ b j, b ≠ 198 → b ≠ 208 → F2 b j = J b j := fun b j h0 h5 => by rw [b3 b j h5, a3 b j h0]
  have up : ∀ b j, (b = 208 → j ≠ 7) → (b = 195 → j ≠ 24 ∧ j ≠ 25) → zup (zup (zup F3 208 7 (-1)) 195 24 0) 195 25 0 b j = F3 b j := fun b j h1 h2 => by
    by_cases e : b = 195
    · rw [zup_k _ (h2 e).2, zup_k _ (h2 e).1, zup_n _ (by omega)]
    · rw [zup_n _ e, zup_n _ e]
      by_cases e2 : b = 208
      · rw [zup_k _ (h1 e2)]
      · rw [zup_n _ e2]
  have g198 : ∀ k, k < 10 → zup (zup (zup F3 208 7 (-1)) 195 24 0) 195 25 0 198 k = J 197 k := fun k hk => by
    rw [up _ _ (by omega) (by omega), c4 198 k (by decide) (by decide) (by decide) (by decide) (by omega), b3 198 k (by decide)]; exact a2 k hk
  refine ⟨zup (zup (zup F3 208 7 (-1)) 195 24 0) 195 25 0, ⟨g198, fun i hi => ?_, fun i w hi hw => ?_, fun j h1 h2 h3 => ?_, ?_, ?_, ?_, fun b j h0 h1 h2 h3 h4 h5 h6 => ?_⟩, fun hB => ?_⟩
  · obtain ⟨d1, d2, d3, d4⟩ := c2 i hi
    rw [up 203 _ (by omega) (by omega), up 204 _ (by omega) (by omega), up 205 _ (by omega) (by omega), up 208 _ (by omega) (by omega), d1, d2, d3, d4, f2 199 i (by decide) (by decide), f2 200 i (by decide) (by decide), f2 201 i (by decide) (by decide)]
    exact ⟨rfl, rfl, rfl, rfl⟩
  · rw [up 206 _ (by omega) (by omega), c3 i w hi hw, f2 202 _ (by decide) (by decide)]
  · rw [up 208 _ (by omega) (by omega), c4 208 j (by decide) (by decide) (by decide) (by decide) (by omega)]; exact b2 j h1
  · rw [zup_n _ (by decide), zup_n _ (by decide), zup_s]
  · rw [zup_k _ (by decide), zup_s]
  · rw [zup_s]
  · rw [up b j (fun e => absurd e h5) h6]; exact fr b j h0 h1 h2 h3 h4 h5
  · have p17 : zup (zup (zup F3 208 7 (-1)) 195 24 0) 195 25 0 195 17 = nI P := by
      rw [up _ _ (by omega) (by omega), fr _ _ (by decide) (by decide) (by decide) (by decide) (by decide) (by decide)]; exact h17
    obtain ⟨F, d1, d2, d3, d4⟩ := M_laysTeams_ok (I := zup (zup (zup F3 208 7 (-1)) 195 24 0) 195 25 0) hM hP p17 (by rw [g198 0 (by decide), g198 1 (by decide), g198 2 (by decide), g198 3 (by decide)]; exact hz) hz1 (by omega) hB
    refine ⟨F, ?_, d2, d3, d4⟩
    rw [a1, b1, c1]
    have st := e_M_league_82 195 (nI 16) F3 R n
    rw [t16, if_neg (nI_nlt (Nat.le_refl _) (by decide))] at st
    have z7 : zin 208 7 = true := by decide
    have i7 : zix (7 : Int32) = 7 := by decide
    simp only [hM.k, hM.2, zc_t, zr_s, z7, i7, Bool.true_and, d1, zbV_s, d4 195 17 (by decide) (by decide), p17] at st
    exact st
/-- the teams of both tables -/
theorem zTt_of {p d : Nat → Bool} (g : zLg I L P Wk z) (hp : p = cT I L z P) (hd : d = cD I L z P) (hB : zct p (2 ^ P) ≤ 3136) (h6 : I 4 6 = nI (zct p (2 ^ P))) (t6 : zTab p (2 ^ P) (I 218)) (h7 : I 4 7 = nI (zct d (2 ^ P))) (t7 : zTab d (2 ^ P) (I 221)) (h20 : I 195 20 = nI (zct p (2 ^ P))) (t20 : zTab p (2 ^ P) (I 207)) : zTt I L P (zct p (2 ^ P)) (fun k => zix (I 218 k)) := by
  have hP := g.1.2.1
  have h2P : 2 ^ P ≤ 65536 := Nat.pow_le_pow_right (show 0 < 2 by decide) hP
  have tk : ∀ S, S < 2 ^ P → p S = true → zix (I 218 (zct p S)) = S := fun S hS hc => by
    rw [t6 S hS hc, zix_nI (by omega)]
  have kt : ∀ k, k < zct p (2 ^ P) → zix (I 218 k) < 2 ^ P ∧ p (zix (I 218 k)) = true ∧ zct p (zix (I 218 k)) = k := fun k hk => by
    obtain ⟨S, s1, s2, s3⟩ := zct_kth p hk
    have e := tk S s1 s2
    rw [s3] at e
    rw [e]; exact ⟨s1, s2, s3⟩
  have pt : ∀ S, p S = true → S < 2 ^ P ∧ cTeam I L S P := fun S hc => by
    rw [hp] at hc
    exact ⟨(zdc_iff.mp hc).1, (zdc_iff.mp hc).2.2⟩
  have tp : ∀ S, S < 2 ^ P → cTeam I L S P → p S = true := fun S hS hc => by
    rw [hp]
    refine zdc_t ⟨hS, ?_, hc⟩
    rw [show 20 = P + (20 - P) by omega, zcnt_out (P := P) (20 - P) (fun i hi => by rw [Nat.testBit_lt_two_pow (Nat.lt_of_lt_of_le hS (Nat.pow_le_pow_right (show 0 < 2 by decide) hi))]; rfl)]
    exact zteam_size g hS hc.1
  have dp : ∀ S, d S = true → p S = true := fun S h => by rw [hd] at h; rw [hp]; exact cD_sub h
  have tw := zct_two (u := fun k => zix (I 218 k)) dp tk
  have dk : ∀ k, k < zct p (2 ^ P) → d (zix (I 218 k)) = !(decide (I (L + 2) 0 < zsum (zix (I 218 k)) (I (L + 15)) P)) := fun k hk => by
    have h1 := (kt k hk).2.1
    rw [hd, Bool.eq_iff_iff]
    rw [hp] at h1
    constructor
    · intro h
      simp only [Bool.not_eq_true', decide_eq_false_iff_not]
      exact (zdc_iff.mp h).2
    · intro h
      simp only [Bool.not_eq_true', decide_eq_false_iff_not] at h
      exact zdc_t ⟨h1, h⟩
  have big : ∀ k, k < zct p (2 ^ P) → zix (I 218 k) < 65536 ∧ zix (I 218 k) ≠ 0 := fun k hk => by
    obtain ⟨a, b, -⟩ := kt k hk
    exact ⟨by omega, (zteam_f g a (pt _ b).2).1⟩
  refine ⟨⟨h6, hB, fun k hk => ⟨?_, big k hk⟩⟩, ⟨h20, hB, fun k hk => ⟨?_, big k hk⟩⟩, fun k hk => pt _ (kt k hk).2.1, fun S hS hc => ⟨zct p S, zct_lt p hS (tp S hS hc), tk S hS (tp S hS hc)⟩, ?_, fun k hk hc => ?_⟩
  · obtain ⟨a, b, c⟩ := kt k hk
    have := t6 _ a b
    rw [c] at this; exact this
  · obtain ⟨a, b, c⟩ := kt k hk
    have := t20 _ a b
    rw [c] at this; exact this
  · rw [h7, tw (2 ^ P) (Nat.le_refl _), zct_ext dk]
  · obtain ⟨a, b, c⟩ := kt k hk
    have h1 := t7 _ a (by rw [dk k hk]; exact hc)
    rw [tw _ (Nat.le_of_lt a), c, zct_ext (fun i hi => dk i (Nat.lt_trans hi hk))] at h1
    exact h1
theorem zD_wk {T : Nat × (Nat → Nat)} {C M : ZI} (h : zD T L C M m P Wk) : 1 ≤ Wk ∧ Wk ≤ 6 ∧ C (L + 2) 2 = nI Wk := by
  obtain ⟨-, -, hr, ⟨h6, h7⟩, -⟩ := h
  obtain ⟨v, v1, v2, v3, v4⟩ := hr 2 (by decide)
  have e : v = Wk := by
    have v2' : v ≤ 6 := v2
    rw [show 4 + 2 = 6 from rfl, h6, nI_eq (by omega) (by omega)] at v4
    exact v4.symm
  subst e
  exact ⟨v1, h7, v3⟩
theorem zD_s {T : Nat × (Nat → Nat)} {C M : ZI} (h : zD T L C M m P Wk) : ∃ (s : Nat → Nat) (z : Nat), (∀ k, k < 4 → s k ≤ 3 ∧ C (L + 1) k = nI (s k)) ∧ s 0 + s 1 + s 2 + s 3 = z ∧ 1 ≤ z ∧ z ≤ 6 ∧ C L 9 = nI z := by
  obtain ⟨-, -, -, -, ⟨h1, z, z1, z2, z3, z4⟩, -⟩ := h
  obtain ⟨a0, b0, c0, d0⟩ := h1 0 (by decide)
  obtain ⟨a1, b1, c1, d1⟩ := h1 1 (by decide)
  obtain ⟨a2, b2, c2, d2⟩ := h1 2 (by decide)
  obtain ⟨a3, b3, c3, d3⟩ := h1 3 (by decide)
  rw [d0, d1, d2, d3, nI_add, nI_add, nI_add, nI_eq (by omega) (by omega)] at z4
  refine ⟨fun k => if k = 0 then a0 else if k = 1 then a1 else if k = 2 then a2 else a3, z, fun k hk => ?_, z4, z1, z2, z3⟩
  have : k = 0 ∨ k = 1 ∨ k = 2 ∨ k = 3 := by omega
  rcases this with rfl | rfl | rfl | rfl
  · exact ⟨b0, c0⟩
  · exact ⟨b1, c1⟩
  · exact ⟨b2, c2⟩
  · exact ⟨b3, c3⟩
/-- the league that both sides took -/
theorem zLg_take {C' M2 K G : ZI} {T : Nat × (Nat → Nat)} (iL : isL L) (hP1 : 1 ≤ P) (D : zD T L C' M2 m P Wk) (hz1 : 1 ≤ z) (hz6 : z ≤ 6) (h9 : C' L 9 = nI z) (k2 : zSets K (L + 5) (K (L + 3)) 4 P) (k3 : zSets K (L + 6) (K (L + 4)) 6 P) (k4 : ∀ w i, w ≤ Wk → i < P → K (L + 15 + w) i = cFore C' L i w) (k5 : ∀ b j, b ≠ L + 5 → b ≠ L + 6 → (b < L + 16 ∨ L + 22 ≤ b) → K b j = C' b j) (row : ∀ b, L ≤ b → b < L + 22 → G b = K b) (h17 : G 195 17 = nI P) (g8 : ∀ k, k < 10 → G 198 k = M2 197 k) (g3 : ∀ i, i < 16 → G 203 i = M2 199 i ∧ G 204 i = M2 200 i ∧ G 205 i = M2 201 i) (g6 : ∀ i w, i < 16 → w < 6 → G 206 (6 * i + w) = M2 202 (6 * i + w)) : zLg G L P Wk z := by
  obtain ⟨w1, w6, w2⟩ := zD_wk D
  obtain ⟨-, -, hr, ⟨m6, -⟩, ⟨hs, z', y1, y2, y3, y4⟩, ⟨hP, p8, p15⟩, hpl⟩ := D
  have ez : z' = z := by
    rw [h9, nI_eq (by omega) (by omega)] at y3; exact y3.symm
  subst ez
  have gr : ∀ b j, L ≤ b → b < L + 16 → b ≠ L + 5 → b ≠ L + 6 → G b j = C' b j := fun b j h1 h2 h3 h4 => by
    rw [row b h1 (by omega), k5 b j h3 h4 (Or.inl h2)]
  have hf : ∀ i w, w ≤ Wk → i < P → mFore G i w = cFore C' L i w := fun i w => by
    induction w with
    | zero =>
      intro _ hi
      obtain ⟨-, -, ⟨v, -, -, v3, v4⟩, -⟩ := hpl i hi
      show G 205 i = C' (L + 15) i
      rw [(g3 i (by omega)).2.2, v4, v3]
    | succ w ih =>
      intro hw hi
      show zmoved (mFore G i w) (G 206 (6 * i + w)) (G 198 8) (G 198 9) = zmoved (cFore C' L i w) (C' (L + 8 + w) i) (C' (L + 2) 4) (C' (L + 2) 5)
      obtain ⟨-, -, -, hx⟩ := hpl i hi
      obtain ⟨x, -, -, x3, x4⟩ := hx w (by omega)
      obtain ⟨a, -, -, a3, a4⟩ := hr 4 (by decide)
      obtain ⟨b, -, -, b3, b4⟩ := hr 5 (by decide)
      rw [ih (by omega) hi, g6 i w (by omega) (by omega), x4, x3, g8 8 (by decide), g8 9 (by decide), a3, b3]
      rw [show M2 197 8 = nI a from a4, show M2 197 9 = nI b from b4]
  refine ⟨⟨hP1, hP, by rw [gr _ _ (by omega) (by omega) (by omega) (by omega)]; exact p8, h17⟩, ⟨w1, w6, by rw [gr _ _ (by omega) (by omega) (by omega) (by omega)]; exact w2, by rw [g8 6 (by decide)]; exact m6⟩, ⟨hz1, hz6, by rw [gr _ _ (by omega) (by omega) (by omega) (by omega)]; exact h9, by rw [g8 0 (by decide), g8 1 (by decide), g8 2 (by decide), g8 3 (by decide)]; exact y4⟩, fun k hk => ?_, fun k hk => ?_, fun i hi => ?_, fun w i hw hi => ?_, fun w i hw hi => ?_, ?_, ?_⟩
  · obtain ⟨v, v1, v2, v3, v4⟩ := hr k hk
    exact ⟨v, v1, v2, by rw [gr _ _ (by omega) (by omega) (by omega) (by omega)]; exact v3, by rw [g8 _ (by omega)]; exact v4⟩
  · obtain ⟨v, v1, v2, v3⟩ := hs k hk
    exact ⟨v, v1, by rw [gr _ _ (by omega) (by omega) (by omega) (by omega)]; exact v2, by rw [g8 _ (by omega)]; exact v3⟩
  · obtain ⟨⟨v, v1, v2, v3⟩, ⟨u, u1, u2, u3⟩, -⟩ := hpl i hi
    exact ⟨⟨v, v1, by rw [gr _ _ (by omega) (by omega) (by omega) (by omega)]; exact v2, by rw [(g3 i (by omega)).1]; exact v3⟩, ⟨u, u1, by rw [gr _ _ (by omega) (by omega) (by omega) (by omega)]; exact u2, by rw [(g3 i (by omega)).2.1]; exact u3⟩⟩
  · rw [row _ (by omega) (by omega), k4 w i hw hi, hf i w hw hi]
    obtain ⟨-, -, ⟨v, v1, v2, v3, -⟩, -⟩ := hpl i hi
    obtain ⟨u, u1, u2, u3⟩ := cFore_rng (I := C') (L := L) (i := i) ⟨v, v1, by omega, v3⟩ w
    exact ⟨⟨u, u1, by omega, u3⟩, rfl⟩
  · obtain ⟨-, -, -, hx⟩ := hpl i hi
    obtain ⟨x, x1, x2, x3, x4⟩ := hx w hw
    rw [gr _ _ (by omega) (by omega) (by omega) (by omega), g6 i w (by omega) (by omega), x3, x4]
    exact ⟨rfl, x1, x2⟩
  · exact zSets_congr (row _ (by omega) (by omega)) (row _ (by omega) (by omega)) k2
  · exact zSets_congr (row _ (by omega) (by omega)) (row _ (by omega) (by omega)) k3
end LLi
