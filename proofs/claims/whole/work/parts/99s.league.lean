/-! ===== league ===== -/
section LLh
variable {q : Nat} {I : ZI} {R : ZR} {n L L' P Wk z m : Nat} {t : Nat → Nat}
theorem zWc_up {R3 : ZR} {n1 : Nat} (W : zWc R n) (hn : n ≤ n1) (hR : ∀ b j, b ≠ 4 → b < 218 → R3 b j = R b j) : zWc R3 n1 := by
  obtain ⟨⟨a0, a1, a2, a3, a4, a5, a6, a7, a8⟩, ⟨b1, b2⟩, ⟨c1, c2⟩, ⟨d1, d2, d3⟩, ⟨e1, e2⟩, ⟨f1, f2, f3⟩, g⟩ := W
  have wl : ∀ {L}, WL R n L → WL R3 n1 L := fun {L} h => by
    obtain ⟨y1, y2, y3, y4, y5⟩ := h
    have il := isL_i y2
    refine ⟨by omega, y2, ?_, fun w hw => by rw [hR _ _ (by omega) (by omega)]; exact y4 w hw, fun w hw => by rw [hR _ _ (by omega) (by omega)]; exact y5 w hw⟩
    rw [hR L 0 (by omega) (by omega), hR L 1 (by omega) (by omega), hR L 2 (by omega) (by omega), hR L 3 (by omega) (by omega), hR L 4 (by omega) (by omega), hR L 5 (by omega) (by omega), hR L 6 (by omega) (by omega), hR L 7 (by omega) (by omega)]
    exact y3
  have ws : ∀ {s}, WS R n s → WS R3 n1 s := fun {s} h => by
    obtain ⟨y1, y2, y3, y4, y5⟩ := h
    have is := y2.ok
    exact ⟨by omega, y2, by rw [hR _ _ (by omega) (by omega)]; exact y3, by rw [hR _ _ (by omega) (by omega)]; exact y4, fun w hw => by rw [hR _ _ (by omega) (by omega)]; exact y5 w hw⟩
  refine ⟨⟨?_, ?_, ?_, ?_, ?_, ?_, ?_, ?_, ?_⟩, ⟨?_, ?_⟩, ⟨wl c1, wl c2⟩, ⟨ws d1, ws d2, ?_⟩, ⟨?_, ?_⟩, ⟨?_, ?_, ?_⟩, ?_⟩
  case refine_12 =>
    obtain ⟨y1, y2, y3⟩ := d3
    exact ⟨by omega, by rw [hR _ _ (by decide) (by decide)]; exact y2, fun k hk => ⟨by rw [hR _ _ (by decide) (by decide)]; exact (y3 k hk).1, ws (y3 k hk).2⟩⟩
  case refine_18 =>
    unfold WM at g ⊢
    simp only [hR 195 _ (show (195 : Nat) ≠ 4 by decide) (show (195 : Nat) < 218 by decide)]
    exact ⟨by omega, g.2⟩
  all_goals (rw [hR _ _ (by decide) (by decide)]; assumption)
/-- the class takes a league that was read -/
theorem C_league_take (W : zWc R n) (iL' : isL L') {Lo : Nat} (iLo : isL Lo) (hne : L' ≠ Lo) {C' : ZI} {Q : ZR} (WQ : zWc Q n) (q9 : Q 0 9 = some L') (q10 : Q 0 10 = some Lo) (hQ : (n = 218 ∧ Q 4 0 = some 5 ∧ Q 141 0 = some 142) ∨ (Q 4 0 = some 218 ∧ Q 4 1 = some 219 ∧ Q 4 2 = some 220 ∧ Q 4 3 = some 221 ∧ Q 4 4 = some 222) ∧ ((n = 223 ∧ Q 141 0 = some 142) ∨ (n = 281 ∧ zPr Q))) {s : Nat → Nat} (hP1 : 1 ≤ P) (hP : P ≤ 16) (hW1 : 1 ≤ Wk) (hWk : Wk ≤ 6) (hz1 : 1 ≤ z) (hz6 : z ≤ 6) (h8 : C' L' 8 = nI P) (h9 : C' L' 9 = nI z) (hW : C' (L' + 2) 2 = nI Wk) (hs : ∀ k, k < 4 → s k ≤ 3 ∧ C' (L' + 1) k = nI (s k)) (hsz : s 0 + s 1 + s 2 + s 3 = z) (hpl : ∀ i, i < P → ∃ v, v < 4 ∧ C' (L' + 3) i = nI v) (hcl : ∀ i, i < P → ∃ v, v < 6 ∧ C' (L' + 4) i = nI v) (hpr : ∀ i, i < P → ∃ v, 1 ≤ v ∧ v ≤ 99 ∧ C' (L' + 15) i = nI v) : ∃ (K Cf : ZI) (R3 : ZR) (n1 : Nat) (p d : Nat → Bool), zbV (Lg_complete L' C' Q n) (fun I7 R7 n7 => zc (zis n7 0 8) (zr (R7 0 2) fun r8 => zc (zis n7 0 8) (zr (R7 0 9) fun r9 => zc (zis n7 r8 7) (zbV (Tb_build r8 r9 I7 R7 n7) fun I10 R10 n10 => zc (zis n10 0 8) (zr (R10 0 0) fun r11 => zc (zis n10 r11 6) (zc (zis n10 0 8) (zr (R10 0 3) fun r12 => zc (zis n10 r12 4) (zbV (Se_clear r12 (zup I10 r11 1 0) R10 n10) fun I13 R13 n13 => zc (zis n13 0 8) (zr (R13 0 5) fun r14 => zc (zis n13 r14 0) (zc (zis n13 0 8) (zc (zis n13 0 8) (zc (zis n13 0 8) (zr (R13 0 7) fun r15 => zc (zis n13 r15 2) (C_league_94 0 (zup (zup (zup (zup I13 r14 2 0) 0 11 1) 0 12 0) r15 10 0) R13 n13)))))))))))))) = some (some (.int (nI P)), Cf, R3, n1) ∧ (zWc R3 n1 ∧ zLr R3 n1 L' Lo) ∧ (zSets K (L' + 5) (K (L' + 3)) 4 P ∧ zSets K (L' + 6) (K (L' + 4)) 6 P ∧ (∀ w i, w ≤ Wk → i < P → K (L' + 15 + w) i = cFore C' L' i w) ∧ ∀ b j, b ≠ L' + 5 → b ≠ L' + 6 → (b < L' + 16 ∨ L' + 22 ≤ b) → K b j = C' b j) ∧ (p = cT K L' z P ∧ d = cD K L' z P ∧ zct p (2 ^ P) ≤ 3136 ∧ Cf 4 6 = nI (zct p (2 ^ P)) ∧ zTab p (2 ^ P) (Cf 218) ∧ Cf 4 7 = nI (zct d (2 ^ P)) ∧ zTab d (2 ^ P) (Cf 221) ∧ Cf 4 8 = -1 ∧ Cf 4 9 = -1) ∧ (Cf 10 2 = 0 ∧ Cf 10 3 = 0 ∧ Cf 10 4 = 0 ∧ Cf 10 5 = 0 ∧ Cf 10 6 = 0 ∧ Cf 10 8 = 0 ∧ Cf 10 9 = 0 ∧ Cf 10 10 = -1 ∧ Cf 10 11 = 0 ∧ Cf 10 12 = 0) ∧ (Cf 28 2 = 0 ∧ Cf 0 11 = 1 ∧ Cf 0 12 = 0 ∧ Cf 141 10 = 0 ∧ Cf 1 1 = 0) ∧ ∀ b j, (b < 218 ∨ 1000 ≤ b) → b ≠ 4 → b ≠ 10 → (b = 28 → j ≠ 2) → (b = 0 → j ≠ 11 ∧ j ≠ 12) → (b = 141 → j ≠ 10) → (b = 1 → j ≠ 1) → Cf b j = K b j := by
  have i1 := isL_i iL'
  have hL := WQ.L iL'
  have exf : ∀ (r : Nat → Int32) (N : Nat), (∀ i, i < P → ∃ v, v < N ∧ r i = nI v) → ∃ f : Nat → Nat, ∀ i, i < P → r i = nI (f i) ∧ f i < N := fun r N h => by
    refine ⟨fun i => if hh : i < P then Classical.choose (h i hh) else 0, fun i hi => ?_⟩
    dsimp only
    rw [dif_pos hi]
    have := Classical.choose_spec (h i hi)
    exact ⟨this.2, this.1⟩
  obtain ⟨pl, pl1⟩ := exf _ _ hpl
  obtain ⟨cl, cl1⟩ := exf _ _ hcl
  obtain ⟨K, k1, k2, k3, k4, k5⟩ := Lg_complete_ok (I := C') hL hP pl1 cl1 h8 hW hWk (fun i hi => by
    obtain ⟨v, v1, v2, v3⟩ := hpr i hi
    exact ⟨v, v1, by omega, v3⟩)
  obtain ⟨I1, Rb, n1, m1, m2, m3, m4, m5, m6, m7⟩ : ∃ I1 Rb n1, Tb_makeRows 4 K Q n = some (none, I1, Rb, n1) ∧ 223 ≤ n1 ∧ (Rb 4 0 = some 218 ∧ Rb 4 1 = some 219 ∧ Rb 4 2 = some 220 ∧ Rb 4 3 = some 221 ∧ Rb 4 4 = some 222) ∧ (∀ b j, b ≠ 4 → Rb b j = Q b j) ∧ (∀ b j, (b < 218 ∨ 1000 ≤ b) → I1 b j = K b j) ∧ ((n1 = 223 ∧ Rb 141 0 = some 142) ∨ (n1 = 281 ∧ zPr Rb)) ∧ n ≤ n1 := by
    rcases hQ with ⟨e1, e2, e3⟩ | ⟨e1, e2⟩
    · subst e1
      obtain ⟨I', R', y1, y2, y3, y4⟩ := Tb_makeRows_first2 (I := K) (R := Q) e2
      exact ⟨I', R', 223, y1, by omega, y2, y3, fun b j hb => y4 b j (by omega), Or.inl ⟨rfl, by rw [y3 _ _ (by decide)]; exact e3⟩, by omega⟩
    · exact ⟨K, Q, n, Tb_makeRows_again (by rcases e2 with y | y <;> omega) e1.1, by rcases e2 with y | y <;> omega, e1, fun _ _ _ => rfl, fun _ _ _ => rfl, e2, Nat.le_refl _⟩
  have Wb : zWc Rb n1 := zWc_up WQ m7 (fun b j hb _ => m4 b j hb)
  have hLb := Wb.L iL'
  have K8 : K L' 8 = nI P := by rw [k5 _ _ (by omega) (by omega) (by omega)]; exact h8
  have K9 : K L' 9 = nI z := by rw [k5 _ _ (by omega) (by omega) (by omega)]; exact h9
  have rowK : ∀ b, b < 218 → I1 b = K b := fun b hb => funext fun j => m5 b j (Or.inl hb)
  obtain ⟨I0, I', b1, b2, b3, b4, b5, b6⟩ := Tb_build_ok (I := K) (R := Q) (n := n) (L := L') (P := P) (z := z) (by have := W.M.1; omega) m1 m2 m3 hLb hP hz1 hz6 (by rw [rowK _ (by omega)]; exact K8) (by rw [rowK _ (by omega)]; exact K9) (by rw [rowK (L' + 3) (by omega)]; exact zSets_congr (rowK _ (by omega)) rfl k2) (by rw [rowK (L' + 4) (by omega)]; exact zSets_congr (rowK _ (by omega)) rfl k3) (fun J hJ => zteams_le (s := s) hP (fun i hi => by
    obtain ⟨v, v1, v2⟩ := hpl i hi
    exact ⟨v, v1, by rw [hJ _ _ (by omega), rowK _ (by omega), k5 _ _ (by omega) (by omega) (by omega)]; exact v2⟩) (fun k hk => ⟨(hs k hk).1, by rw [hJ _ _ (by omega), rowK _ (by omega), k5 _ _ (by omega) (by omega) (by omega)]; exact (hs k hk).2⟩) (by omega))
  obtain ⟨z1, z2, z3, z4, z5⟩ := b6
  have rowI0 : ∀ b, L' ≤ b → b < L' + 22 → I0 b = K b := fun b h1 h2 => funext fun j => by rw [b2 b j (by omega), rowK b (by omega)]
  have epT : cT I0 L' z P = cT K L' z P := by
    funext S
    unfold cT
    rw [cTeam_c rowI0]
  have epD : cD I0 L' z P = cD K L' z P := by
    funext S
    unfold cD
    rw [epT, rowI0 (L' + 2) (by omega) (by omega), rowI0 (L' + 15) (by omega) (by omega)]
  rw [epT] at z1 z2
  rw [epD] at z3 z4
  have R3 : ∀ b j, b ≠ 4 → zur Rb 4 5 (some L') b j = Q b j := fun b j hb => by rw [zur_n _ hb]; exact m4 b j hb
  have W3 : zWc (zur Rb 4 5 (some L')) n1 := zWc_z Wb (by omega)
  generalize hR3 : zur Rb 4 5 (some L') = Rf at *
  obtain ⟨I13, c1, c2, c3, c4, c5, c6, c7, c8, c9, c10, c11, c12, c13⟩ := Se_clear_ok (I := zup I' 1 1 0) (R := Rf) (n := n1) W3.S
  have st : ∀ X, zbV (Lg_complete L' C' Q n) X = X K Q n := fun X => by rw [k1, zbV_s]
  rw [st]
  have f13 : ∀ b j, b ≠ 10 → (b = 1 → j ≠ 1) → b ≠ 4 → (b < 218 ∨ 1000 ≤ b) → I13 b j = K b j := fun b j h1 h2 h3 h4 => by
    rw [c13 b j h1]
    have e : zup I' 1 1 0 b j = I' b j := by
      by_cases e : b = 1
      · exact zup_k b (h2 e)
      · exact zup_n _ e
    rw [e, z5 b j (by omega) (by omega) (fun e => absurd e h3), b2 b j h3, m5 b j h4]
  have g13 : ∀ b j, b = 4 ∨ b = 218 ∨ b = 221 → I13 b j = I' b j := fun b j hb => by rw [c13 b j (by omega), zup_n _ (by omega)]
  have e94 : ∀ Y : ZI, Y L' 8 = nI P → C_league_94 0 Y Rf n1 = some (some (.int (nI P)), Y, Rf, n1) := fun Y hY => by
    rw [e_C_league_94]
    have hLf := W3.L iL'
    simp only [W3.k, hLf.k, R3 0 9 (by decide), q9, zc_t, zr_s, hY]
  have l8 : zup (zup (zup (zup I13 28 2 0) 0 11 1) 0 12 0) 141 10 0 L' 8 = nI P := by
    rw [zup_n _ (by omega), zup_n _ (by omega), zup_n _ (by omega), zup_n _ (by omega), f13 _ _ (by omega) (by omega) (by omega) (by omega)]; exact K8
  refine ⟨K, zup (zup (zup (zup I13 28 2 0) 0 11 1) 0 12 0) 141 10 0, Rf, n1, cT K L' z P, cD K L' z P, ?_, ⟨W3, iL', iLo, hne, by rw [R3 _ _ (by decide)]; exact q9, by rw [R3 _ _ (by decide)]; exact q10, b5, ?_⟩, ⟨k2, k3, k4, k5⟩, ⟨rfl, rfl, ?_, ?_, ?_, ?_, ?_, ?_, ?_⟩, ⟨?_, ?_, ?_, ?_, ?_, ?_, ?_, ?_, ?_, ?_⟩, ⟨?_, ?_, ?_, ?_, ?_⟩, fun b j h1 h2 h3 h4 h5 h6 h7 => ?_⟩
  · simp only [WQ.k, WQ.1, q9, zc_t, zr_s, b1, zbV_s, W3.k, W3.1, c1, e94 _ l8]
  · rcases m6 with ⟨y1, y2⟩ | ⟨y1, ⟨p0, p1, p2, p3, p4⟩, y3, y4, y5⟩
    · exact Or.inl ⟨y1, by rw [← hR3, zur_n _ (by decide)]; exact y2⟩
    · rw [← hR3]
      exact Or.inr ⟨y1, ⟨by rw [zur_n _ (by decide)]; exact p0, by rw [zur_n _ (by decide)]; exact p1, by rw [zur_n _ (by decide)]; exact p2, by rw [zur_n _ (by decide)]; exact p3, by rw [zur_n _ (by decide)]; exact p4⟩, fun r hr => by rw [zur_n _ (by decide)]; exact y3 r hr, fun w hw => by rw [zur_n _ (by decide)]; exact y4 w hw, fun w hw => by rw [zur_n _ (by decide)]; exact y5 w hw⟩
  · exact zteams_le (s := s) hP (fun i hi => by
      obtain ⟨v, v1, v2⟩ := hpl i hi
      exact ⟨v, v1, by rw [k5 _ _ (by omega) (by omega) (by omega)]; exact v2⟩) (fun k hk => ⟨(hs k hk).1, by rw [k5 _ _ (by omega) (by omega) (by omega)]; exact (hs k hk).2⟩) (by omega)
  · rw [zup_n _ (by decide), zup_n _ (by decide), zup_n _ (by decide), zup_n _ (by decide), g13 _ _ (by omega)]; exact z1
  · intro S hS hp
    rw [zup_n _ (by decide), zup_n _ (by decide), zup_n _ (by decide), zup_n _ (by decide), g13 _ _ (by omega)]; exact z2 S hS hp
  · rw [zup_n _ (by decide), zup_n _ (by decide), zup_n _ (by decide), zup_n _ (by decide), g13 _ _ (by omega)]; exact z3
  · intro S hS hp
    rw [zup_n _ (by decide), zup_n _ (by decide), zup_n _ (by decide), zup_n _ (by decide), g13 _ _ (by omega)]; exact z4 S hS hp
  · rw [zup_n _ (by decide), zup_n _ (by decide), zup_n _ (by decide), zup_n _ (by decide), g13 _ _ (by omega), z5 4 8 (by decide) (by decide) (by decide)]; exact b3
  · rw [zup_n _ (by decide), zup_n _ (by decide), zup_n _ (by decide), zup_n _ (by decide), g13 _ _ (by omega), z5 4 9 (by decide) (by decide) (by decide)]; exact b4
  · rw [zup_n _ (by decide), zup_n _ (by decide), zup_n _ (by decide), zup_n _ (by decide)]; exact c2
  · rw [zup_n _ (by decide), zup_n _ (by decide), zup_n _ (by decide), zup_n _ (by decide)]; exact c3
  · rw [zup_n _ (by decide), zup_n _ (by decide), zup_n _ (by decide), zup_n _ (by decide)]; exact c4
  · rw [zup_n _ (by decide), zup_n _ (by decide), zup_n _ (by decide), zup_n _ (by decide)]; exact c5
  · rw [zup_n _ (by decide), zup_n _ (by decide), zup_n _ (by decide), zup_n _ (by decide)]; exact c6
  · rw [zup_n _ (by decide), zup_n _ (by decide), zup_n _ (by decide), zup_n _ (by decide)]; exact c8
  · rw [zup_n _ (by decide), zup_n _ (by decide), zup_n _ (by decide), zup_n _ (by decide)]; exact c9
  · rw [zup_n _ (by decide), zup_n _ (by decide), zup_n _ (by decide), zup_n _ (by decide)]; exact c10
  · rw [zup_n _ (by decide), zup_n _ (by decide), zup_n _ (by decide), zup_n _ (by decide)]; exact c11
  · rw [zup_n _ (by decide), zup_n _ (by decide), zup_n _ (by decide), zup_n _ (by decide)]; exact c12
  · rw [zup_n _ (by decide), zup_n _ (by decide), zup_n _ (by decide), zup_s]
  · rw [zup_n _ (by decide), zup_k _ (by decide), zup_s]
  · rw [zup_n _ (by decide), zup_s]
  · rw [zup_s]
  · rw [zup_n _ (by decide), zup_n _ (by decide), zup_n _ (by decide), zup_n _ (by decide), c13 _ _ (by decide), zup_s]
  · have e1 : zup (zup (zup (zup I13 28 2 0) 0 11 1) 0 12 0) 141 10 0 b j = I13 b j := by
      by_cases y1 : b = 141
      · rw [zup_k _ (h6 y1), zup_n _ (by omega), zup_n _ (by omega), zup_n _ (by omega)]
      · rw [zup_n _ y1]
        by_cases y2 : b = 0
        · rw [zup_k _ (h5 y2).2, zup_k _ (h5 y2).1, zup_n _ (by omega)]
        · rw [zup_n _ y2, zup_n _ y2]
          by_cases y3 : b = 28
          · rw [zup_k _ (h4 y3)]
          · rw [zup_n _ y3]
    rw [e1]; exact f13 b j h3 h7 h2 h1
end LLh
