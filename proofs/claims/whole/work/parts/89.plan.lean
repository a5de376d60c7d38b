/-! ===== the planner (class): from the first week to the last ===== -/
noncomputable def zWf (J : ZI) (L N rows co s w0 Wk s0 l : Nat) (c bs : Nat → Nat) (pl tp : Nat → Nat → Int32) : Prop := zPd J L N rows co s w0 Wk c bs pl tp ∧ zTbs J pl tp c bs co N rows s Wk w0 ∧ (J 141 13 = nI Wk ∧ J 10 4 = nI w0 ∧ J 10 6 = nI s0 ∧ J 10 12 = nI l) ∧ ∀ k, k < N → J 223 k = nI (c k) ∧ c k < 2 ^ 31
theorem zWf_fr {I J : ZI} {L N rows co s w0 Wk s0 l : Nat} {c bs : Nat → Nat} {pl tp : Nat → Nat → Int32} (hL : isL L) (hn : zPn N rows co s w0 Wk c bs pl tp) (h : zWf I L N rows co s w0 Wk s0 l c bs pl tp) (hJ : ∀ b j, (b = 141 → j ≠ 14 ∧ j ≠ 15 ∧ j ≠ 16 ∧ j ≠ 17) → b ≠ 148 → b ≠ 149 → J b j = I b j) : zWf J L N rows co s w0 Wk s0 l c bs pl tp := by
  have hl := isL_i hL
  obtain ⟨⟨⟨d1, d2, d3, d4⟩, d5, d6, d7⟩, t, ⟨b1, b2, b3, b4⟩, b5⟩ := h
  obtain ⟨⟨n1, n2⟩, ⟨n3, n4⟩, n5, n6, n7, n8, n9⟩ := hn
  refine ⟨⟨⟨by rw [hJ _ _ (by decide) (by decide) (by decide)]; exact d1, by rw [hJ _ _ (by decide) (by decide) (by decide)]; exact d2, by rw [hJ _ _ (by omega) (by omega) (by omega)]; exact d3, by rw [hJ _ _ (by decide) (by decide) (by decide)]; exact d4⟩, fun r k h1 h2 => by rw [hJ _ _ (by omega) (by omega) (by omega)]; exact d5 r k h1 h2, fun w k h1 h2 h3 => by rw [hJ _ _ (by omega) (by omega) (by omega), hJ _ _ (by omega) (by omega) (by omega)]; exact d6 w k h1 h2 h3, fun w h1 h2 => by rw [hJ _ _ (by omega) (by omega) (by omega)]; exact d7 w h1 h2⟩, fun w' d' h1 h2 => ⟨fun r f u a1 a2 a3 a4 a5 => by rw [hJ _ _ (by omega) (by omega) (by omega)]; exact (t w' d' h1 h2).1 r f u a1 a2 a3 a4 a5, (t w' d' h1 h2).2⟩, ⟨by rw [hJ _ _ (by decide) (by decide) (by decide)]; exact b1, by rw [hJ _ _ (by decide) (by decide) (by decide)]; exact b2, by rw [hJ _ _ (by decide) (by decide) (by decide)]; exact b3, by rw [hJ _ _ (by decide) (by decide) (by decide)]; exact b4⟩, fun k hk => ⟨by rw [hJ _ _ (by omega) (by omega) (by omega)]; exact (b5 k hk).1, (b5 k hk).2⟩⟩
section LPr
variable {R : ZR} {n L N rows co s w0 Wk s0 l : Nat} {c bs : Nat → Nat} {pl tp : Nat → Nat → Int32}
theorem Pl_walk30_ok (hW : WP R n L) (hL : WL R n L) (hS : WS R n 10) (hn : zPn N rows co s w0 Wk c bs pl tp) (hs0 : s0 ≤ 1000) (hl : l < 2 ^ 31) : ∀ e w (J : ZI) a f u, w + e = Wk → w0 < w → zWf J L N rows co s w0 Wk s0 l c bs pl tp → a < rows → 1 ≤ f → f ≤ 2 → u < 8 → u &&& s = s → J 141 15 = nI a → J 141 16 = nI f → J 141 17 = nI u → ∃ J', Pl_walk_30 141 (nI w) J R n = some (none, J', R, n) ∧ zPath pl tp c co N Wk e w (bs a) f u (J' 148) (J' 149) ∧ J' 141 14 = J 141 14 ∧ (∀ j, j < w → J' 148 j = J 148 j ∧ J' 149 j = J 149 j) ∧ ∀ b j, (b = 141 → j ≠ 14 ∧ j ≠ 15 ∧ j ≠ 16 ∧ j ≠ 17) → b ≠ 148 → b ≠ 149 → J' b j = J b j := by
  have hn' := hn
  obtain ⟨⟨n1, n2⟩, ⟨n3, n4⟩, n5, n6, n7, n8, n9⟩ := hn'
  intro e
  induction e with
  | zero =>
    intro w J a f u he hw g ha hf1 hf2 hu hus h15 h16 h17
    refine ⟨J, ?_, trivial, rfl, fun _ _ => ⟨rfl, rfl⟩, fun _ _ _ _ _ => rfl⟩
    rw [e_Pl_walk_30]
    simp only [hW.k, zc_t, g.2.2.1.1]
    rw [if_neg (nI_nlt (show Wk ≤ w by omega) (by omega))]
  | succ e ih =>
    intro w J a f u he hw g ha hf1 hf2 hu hus h15 h16 h17
    have tt := g.2.1 (w + 1) e (by omega) (by omega)
    have cw : decide (w = w0) = false := decide_eq_false (by omega)
    obtain ⟨J1, x, k, ch, q1, q2, q3, q4, q5, q6, ⟨q7, q8, q9⟩, q10⟩ := Pl_take_ok (J := J) (s0 := s0) (l := l) hW hL hS g.1 hn (show w + (e + 1) = Wk by omega) (by omega) tt.1 tt.2 ha hf1 hf2 hu hus hs0 hl h15 h16 h17 g.2.2.1.2.1 g.2.2.1.2.2.1 g.2.2.1.2.2.2 g.2.2.2 (by
      rw [cw, zokT_no]
      exact ⟨0, 0, by omega, by omega, rfl⟩)
    rw [cw, zokT_no, if_neg (show ¬ w = w0 by omega)] at q2 q3
    rw [if_neg (show ¬ w = w0 by omega)] at q6 q8
    have hk := q3.1
    have hch := q3.2.1
    have us := (zusub u hu s n6).2 hus
    have nus : znu u ch &&& s = s := by
      have c4 : ch = 0 ∨ ch = 1 ∨ ch = 2 ∨ ch = 3 := by omega
      rcases c4 with rfl | rfl | rfl | rfl
      · exact hus
      · exact us.1
      · exact us.2.1
      · exact us.2.2
    have g1 : zWf J1 L N rows co s w0 Wk s0 l c bs pl tp := zWf_fr hL.2.1 hn g (fun b j h1 h2 h3 => q10 b j h1 (by omega))
    have nf := znf_le f (0 + zdf (c k) (bs a)) ch
    have eb : bs (if ch = 3 then a else k) = znb (bs a) (c k) ch := by
      unfold znb
      by_cases z : ch = 3
      · rw [if_pos z, if_pos z]
      · rw [if_neg z, if_neg z, n8 k hk]
    obtain ⟨J', p1, p2, p3, p4, p5⟩ := ih (w + 1) J1 (if ch = 3 then a else k) (znf f (0 + zdf (c k) (bs a)) ch) (znu u ch) (by omega) (by omega) g1 (by split <;> omega) nf.1 nf.2 (znu_lt hu hch) nus q7 q8 q9
    rw [eb] at p2
    have st := e_Pl_walk_30 141 (nI w) J R n
    simp only [hW.k, zc_t, g.2.2.1.1, if_pos (nI_lt (show w < Wk by omega) (show Wk < 2 ^ 31 by omega)), q1, zbV_s, nI_1] at st
    refine ⟨J', st.trans p1, ⟨x, k, ch, q2, q3, ?_, ?_, p2⟩, by rw [p3, q6], fun j hj => ?_, fun b j h1 h2 h3 => ?_⟩
    · rw [(p4 w (by omega)).1]; exact q4
    · rw [(p4 w (by omega)).2]; exact q5
    · rw [(p4 j (by omega)).1, (p4 j (by omega)).2, q10 148 j (by omega) (by omega), q10 149 j (by omega) (by omega)]
      exact ⟨rfl, rfl⟩
    · rw [p5 b j h1 h2 h3, q10 b j h1 (by omega)]
theorem Pl_walk_ok (hW : WP R n L) (hL : WL R n L) (hS : WS R n 10) (hn : zPn N rows co s w0 Wk c bs pl tp) (hs0 : s0 ≤ 1000) (hl : l < 2 ^ 31) (hw : w0 < Wk) {J : ZI} {a f : Nat} (g : zWf J L N rows co s w0 Wk s0 l c bs pl tp) (ha : a < rows) (hf1 : 1 ≤ f) (hf2 : f ≤ 2) (h15 : J 141 15 = nI a) (h5 : J 10 5 = nI f) (hex : ∃ k ch, k < N ∧ ch < 4 ∧ zokT true (J 10 10) s0 l s c k ch = true) : ∃ J' x k ch, Pl_walk 141 J R n = some (none, J', R, n) ∧ zIM N (zokT true (J 10 10) s0 l s c) (zov (zVal pl tp c co N Wk (Wk - (w0 + 1))) (pl w0) (tp w0) c co (bs a) f s s0) x ∧ zFs N (zokT true (J 10 10) s0 l s c) (zov (zVal pl tp c co N Wk (Wk - (w0 + 1))) (pl w0) (tp w0) c co (bs a) f s s0) x k ch ∧ J' 141 14 = x ∧ J' 148 w0 = nI (c k) ∧ J' 149 w0 = zwh ch ∧ zPath pl tp c co N Wk (Wk - (w0 + 1)) (w0 + 1) (znb (bs a) (c k) ch) (znf f (s0 + zdf (c k) (bs a)) ch) (znu s ch) (J' 148) (J' 149) ∧ ∀ b j, (b = 141 → j ≠ 14 ∧ j ≠ 15 ∧ j ≠ 16 ∧ j ≠ 17) → b ≠ 148 → b ≠ 149 → J' b j = J b j := by
  have hn' := hn
  obtain ⟨⟨n1, n2⟩, ⟨n3, n4⟩, n5, n6, n7, n8, n9⟩ := hn'
  obtain ⟨e, he⟩ : ∃ e, w0 + (e + 1) = Wk := ⟨Wk - (w0 + 1), by omega⟩
  rw [show Wk - (w0 + 1) = e by omega]
  have h9 : J 10 9 = nI s := g.1.1.2.2.2
  have st := e_Pl_walk 141 J R n
  simp only [hW.k, hW.2.1, hS.k, zc_t, zr_s, h5, zup_n 9 (show (10 : Nat) ≠ 141 by decide), h9, zup_n 4 (show (10 : Nat) ≠ 141 by decide), g.2.2.1.2.1] at st
  have f0 : ∀ b j, (b = 141 → j ≠ 14 ∧ j ≠ 15 ∧ j ≠ 16 ∧ j ≠ 17) → b ≠ 148 → b ≠ 149 → (zup (zup J 141 16 (nI f)) 141 17 (nI s)) b j = J b j := fun b j h1 h2 h3 => by
    by_cases z : b = 141
    · rw [zup_k _ (h1 z).2.2.2, zup_k _ (h1 z).2.2.1]
    · rw [zup_n _ z, zup_n _ z]
  have g0 := zWf_fr hL.2.1 hn g f0
  have k15 : (zup (zup J 141 16 (nI f)) 141 17 (nI s)) 141 15 = nI a := by rw [zup_k _ (by decide), zup_k _ (by decide)]; exact h15
  have k16 : (zup (zup J 141 16 (nI f)) 141 17 (nI s)) 141 16 = nI f := by rw [zup_k _ (by decide), zup_s]
  have k17 : (zup (zup J 141 16 (nI f)) 141 17 (nI s)) 141 17 = nI s := zup_s _ _ _ _
  have kc : (zup (zup J 141 16 (nI f)) 141 17 (nI s)) 10 10 = J 10 10 := f0 _ _ (by decide) (by decide) (by decide)
  generalize zup (zup J 141 16 (nI f)) 141 17 (nI s) = J0 at st f0 g0 k15 k16 k17 kc
  have tt := g0.2.1 (w0 + 1) e (by omega) (by omega)
  have cw : decide (w0 = w0) = true := decide_eq_true rfl
  obtain ⟨J1, x, k, ch, q1, q2, q3, q4, q5, q6, ⟨q7, q8, q9⟩, q10⟩ := Pl_take_ok (J := J0) (s0 := s0) (l := l) hW hL hS g0.1 hn he (Nat.le_refl _) tt.1 tt.2 ha hf1 hf2 n6 (Nat.and_self s) hs0 hl k15 k16 k17 g0.2.2.1.2.1 g0.2.2.1.2.2.1 g0.2.2.1.2.2.2 g0.2.2.2 (by rw [cw, kc]; exact hex)
  rw [cw, kc, if_pos rfl] at q2 q3
  rw [if_pos rfl] at q6 q8
  have hk := q3.1
  have hch := q3.2.1
  have us := (zusub s n6 s n6).2 (Nat.and_self s)
  have nus : znu s ch &&& s = s := by
    have c4 : ch = 0 ∨ ch = 1 ∨ ch = 2 ∨ ch = 3 := by omega
    rcases c4 with rfl | rfl | rfl | rfl
    · exact Nat.and_self s
    · exact us.1
    · exact us.2.1
    · exact us.2.2
  have g1 : zWf J1 L N rows co s w0 Wk s0 l c bs pl tp := zWf_fr hL.2.1 hn g0 (fun b j h1 h2 h3 => q10 b j h1 (by omega))
  have nf := znf_le f (s0 + zdf (c k) (bs a)) ch
  have eb : bs (if ch = 3 then a else k) = znb (bs a) (c k) ch := by
    unfold znb
    by_cases z : ch = 3
    · rw [if_pos z, if_pos z]
    · rw [if_neg z, if_neg z, n8 k hk]
  obtain ⟨J', p1, p2, p3, p4, p5⟩ := Pl_walk30_ok hW hL hS hn hs0 hl e (w0 + 1) J1 (if ch = 3 then a else k) (znf f (s0 + zdf (c k) (bs a)) ch) (znu s ch) (by omega) (by omega) g1 (by split <;> omega) nf.1 nf.2 (znu_lt n6 hch) nus q7 q8 q9
  rw [eb] at p2
  have st2 := e_Pl_walk_30 141 (nI w0) J0 R n
  simp only [hW.k, zc_t, g0.2.2.1.1, if_pos (nI_lt hw (show Wk < 2 ^ 31 by omega)), q1, zbV_s, nI_1] at st2
  refine ⟨J', x, k, ch, st.trans (st2.trans p1), q2, q3, by rw [p3, q6], ?_, ?_, p2, fun b j h1 h2 h3 => by rw [p5 b j h1 h2 h3, q10 b j h1 (by omega), f0 b j h1 h2 h3]⟩
  · rw [(p4 w0 (by omega)).1]; exact q4
  · rw [(p4 w0 (by omega)).2]; exact q5
end LPr
