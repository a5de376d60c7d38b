/-! ===== references that change; feed, end, fault ===== -/
section LTg
variable {q : Nat} {I : ZI} {R : ZR} {n L L' P Wk z m : Nat} {t : Nat → Nat}
theorem WH_zur {b k : Nat} {v : Option Nat} (h : WH R n) (hb : b < 28 ∨ 138 ≤ b) : WH (zur R b k v) n := by
  obtain ⟨h1, h2, h3⟩ := h
  refine ⟨h1, by rw [zur_n _ (by omega)]; exact h2, fun j hj => ⟨by rw [zur_n _ (by omega)]; exact (h3 j hj).1, WS_zur (h3 j hj).2 (by omega)⟩⟩
theorem zWc_z {b k : Nat} {v : Option Nat} (W : zWc R n) (hb : (b = 3 ∧ k = 1) ∨ (b = 138 ∧ 2 ≤ k) ∨ (b = 141 ∧ 8 ≤ k) ∨ (b = 0 ∧ 9 ≤ k) ∨ b = 4) : zWc (zur R b k v) n := by
  have key : ∀ c j, (c ≠ b ∨ j ≠ k) → zur R b k v c j = R c j := fun c j h => by
    by_cases e : c = b
    · rcases h with h | h
      · exact absurd e h
      · exact zur_k _ h
    · exact zur_n _ e
  obtain ⟨⟨a0, a1, a2, a3, a4, a5, a6, a7, a8⟩, ⟨b1, b2⟩, ⟨c1, c2⟩, ⟨d1, d2, d3⟩, ⟨e1, e2⟩, ⟨f1, f2, f3⟩, g⟩ := W
  refine ⟨⟨?_, ?_, ?_, ?_, ?_, ?_, ?_, ?_, ?_⟩, ⟨?_, ?_⟩, ⟨WL_zur c1 (by omega), WL_zur c2 (by omega)⟩, ⟨WS_zur d1 (by omega), WS_zur d2 (by omega), WH_zur d3 (by omega)⟩, ⟨?_, ?_⟩, ⟨?_, ?_, ?_⟩, WM_zur g (by omega)⟩
  all_goals (rw [key _ _ (by omega)]; assumption)
theorem zLr_z {b k : Nat} {v : Option Nat} (h : zLr R n L L') (hb : (b = 3 ∧ k = 1) ∨ (b = 138 ∧ 2 ≤ k) ∨ (b = 141 ∧ 8 ≤ k)) : zLr (zur R b k v) n L L' := by
  have key : ∀ c j, (c ≠ b ∨ j ≠ k) → zur R b k v c j = R c j := fun c j h => by
    by_cases e : c = b
    · rcases h with h | h
      · exact absurd e h
      · exact zur_k _ h
    · exact zur_n _ e
  obtain ⟨h1, h2, h3, h4, h5, ⟨h6, ⟨i0, i1, i2, i3, i4⟩, i5⟩, h7⟩ := h
  refine ⟨h1, h2, h3, by rw [key _ _ (by omega)]; exact h4, by rw [key _ _ (by omega)]; exact h5, ⟨h6, ⟨?_, ?_, ?_, ?_, ?_⟩, ?_⟩, ?_⟩
  · rw [key _ _ (by omega)]; exact i0
  · rw [key _ _ (by omega)]; exact i1
  · rw [key _ _ (by omega)]; exact i2
  · rw [key _ _ (by omega)]; exact i3
  · rw [key _ _ (by omega)]; exact i4
  · rw [key _ _ (by omega)]; exact i5
  · rcases h7 with ⟨j1, j2⟩ | ⟨j1, ⟨p0, p1, p2, p3, p4⟩, j3, j4, j5⟩
    · exact Or.inl ⟨j1, by rw [key _ _ (by omega)]; exact j2⟩
    · refine Or.inr ⟨j1, ⟨?_, ?_, ?_, ?_, ?_⟩, fun r hr => ?_, fun w hw => ?_, fun w hw => ?_⟩
      · rw [key _ _ (by omega)]; exact p0
      · rw [key _ _ (by omega)]; exact p1
      · rw [key _ _ (by omega)]; exact p2
      · rw [key _ _ (by omega)]; exact p3
      · rw [key _ _ (by omega)]; exact p4
      · rw [key _ _ (by omega)]; exact j3 r hr
      · rw [key _ _ (by omega)]; exact j4 w hw
      · rw [key _ _ (by omega)]; exact j5 w hw
theorem zLea_z {b k : Nat} {v : Option Nat} (h : zLea q I R n L L' P Wk z m t) (hb : (b = 3 ∧ k = 1) ∨ (b = 138 ∧ 2 ≤ k) ∨ (b = 141 ∧ 8 ≤ k)) : zLea q I (zur R b k v) n L L' P Wk z m t := ⟨zLr_z h.1 hb, h.2⟩
theorem zNo_z {b k : Nat} {v : Option Nat} (h : zNo I R n) (hb : (b = 3 ∧ k = 1) ∨ (b = 138 ∧ 2 ≤ k) ∨ (b = 141 ∧ 8 ≤ k)) : zNo I (zur R b k v) n := by
  have key : ∀ c j, (c ≠ b ∨ j ≠ k) → zur R b k v c j = R c j := fun c j h => by
    by_cases e : c = b
    · rcases h with h | h
      · exact absurd e h
      · exact zur_k _ h
    · exact zur_n _ e
  obtain ⟨⟨h1, h2, h3, h4, h5⟩, h6⟩ := h
  exact ⟨⟨h1, by rw [key _ _ (by omega)]; exact h2, by rw [key _ _ (by omega)]; exact h3, by rw [key _ _ (by omega)]; exact h4, by rw [key _ _ (by omega)]; exact h5⟩, h6⟩
/-- the tape has changed -/
theorem zInv_tape {J : ZI} (h : zInv q I R n) {T : Nat × (Nat → Nat)} (h1 : zTp T) (h2 : tpC J T) (h3 : tpM J T) (hJ : ∀ b j, b ≠ 2 → b ≠ 196 → (b = 1 → j ≠ 1) → (b = 195 → j ≠ 0 ∧ j ≠ 2) → J b j = I b j) : zInv (q + 1) J R n := by
  obtain ⟨W, ⟨-, b2, b3⟩, N⟩ := h
  refine ⟨W, ⟨⟨T, h1, h2, h3⟩, fun k hk => ?_, fun k hk => ?_⟩, ?_⟩
  · rw [hJ 1010 k (by decide) (by decide) (by omega) (by omega), hJ 1011 k (by decide) (by decide) (by omega) (by omega), hJ 1012 k (by decide) (by decide) (by omega) (by omega)]; exact b2 k hk
  · rw [hJ 150 k (by decide) (by decide) (by omega) (by omega), hJ 211 k (by decide) (by decide) (by omega) (by omega)]; exact b3 k hk
  · rcases N with N | ⟨L, L', P, Wk, z, m, t, N⟩
    · exact Or.inl (zNo_f N (fun b j hb => hJ b j (by unfold zirr at hb; omega) (by unfold zirr at hb; omega) (by unfold zirr at hb; omega) (by unfold zirr at hb; omega)))
    · exact Or.inr ⟨L, L', P, Wk, z, m, t, zLea_f N (by omega) (fun b j hb => hJ b j (by unfold zirr at hb; omega) (by unfold zirr at hb; omega) (by unfold zirr at hb; omega) (by unfold zirr at hb; omega))⟩
theorem p_feed (h : zInv q I R n) (a b c d e : Int32) : zAg q I R n (C_feed 0 a b c d e) (M_feed 195 a b c d e) := by
  have W := h.1
  have hn := W.M.1
  obtain ⟨⟨T, t1, t2, t3⟩, -, -⟩ := h.2.1
  obtain ⟨I1, e1, e2, e3⟩ := C_feed_ok (I := I) (R := R) (n := n) (by omega) W.1.1 ⟨by omega, W.2.1.1⟩ t2 t1.1 a b c d e
  have t3' : tpM I1 T := ⟨by rw [e3 _ _ (by decide) (by decide)]; exact t3.1, fun k hk => by rw [e3 _ _ (by decide) (by omega)]; exact t3.2 k hk⟩
  obtain ⟨I2, f1, f2, f3, f4⟩ := M_feed_ok (I := I1) (R := R) (n := n) W.M t3' t1.1 a b c d e
  refine ⟨_, I1, R, n, I2, R, n, e1, f1, zInv_tape h (T := if 400 < T.1 + zfbn a b c d e then T else zfed a b c d e T) ?_ ?_ f2 (fun b j h1 h2 h3 h4 => ?_)⟩
  · by_cases c4 : 400 < T.1 + zfbn a b c d e
    · rw [if_pos c4]; exact t1
    · rw [if_neg c4]; exact zfed_ok t1 (by rw [zfed_1]; omega)
  · exact ⟨by rw [f4 _ _ (by decide) (by decide)]; exact e2.1, fun k hk => by rw [f4 _ _ (by decide) (by omega)]; exact e2.2 k hk⟩
  · rw [f4 b j h2 h4, e3 b j h1 h3]
theorem p_end (h : zInv q I R n) (x : Int32) : zAg q I R n (C_end 0 x) (M_end 195 x) := by
  have W := h.1
  have hn := W.M.1
  obtain ⟨⟨T, t1, t2, t3⟩, -, -⟩ := h.2.1
  obtain ⟨I1, e1, e2, e3⟩ := C_end_ok (I := I) (R := R) (n := n) (by omega) W.1.1 t2 t1.1 x
  have t3' : tpM I1 T := ⟨by rw [e3 _ _ (by decide)]; exact t3.1, fun k hk => by rw [e3 _ _ (by omega)]; exact t3.2 k hk⟩
  obtain ⟨I2, f1, f2, f3, f4⟩ := M_end_ok (I := I1) (R := R) (n := n) W.M t3' t1.1 x
  refine ⟨_, I1, R, n, I2, R, n, e1, f1, zInv_tape h (T := if zlt x (T.1 + 1) = 1 then (zix x, T.2) else T) ?_ ?_ f2 (fun b j h1 h2 h3 h4 => ?_)⟩
  · by_cases c4 : zlt x (T.1 + 1) = 1
    · rw [if_pos c4]
      have tl := t1.1
      obtain ⟨j, hj, rfl⟩ := zlt_ne (show ¬ zlt x (T.1 + 1) = 0 by rw [c4]; decide) (by omega)
      rw [zix_nI (by omega)]
      exact ⟨by show j ≤ 400; omega, fun k hk => t1.2 k (by have hk' : k < j := hk; omega)⟩
    · rw [if_neg c4]; exact t1
  · exact ⟨by rw [f4 _ _ (by decide)]; exact e2.1, fun k hk => by rw [f4 _ _ (by omega)]; exact e2.2 k hk⟩
  · rw [f4 b j h4, e3 b j h3]
/-- both sides read the tape -/
theorem zread3 (W : zWc R n) (hL' : isL L') {T : Nat × (Nat → Nat)} (hz : zTp T) (hst : zStt I) (hT : tpC I T) (hT2 : tpM I T) : ∃ x C', Rd_read 3 L' I R n = some (some (.int x), C', zur R 3 1 (some L'), n) ∧ zFC L' I C' ∧ ∀ (J : ZI) (R' : ZR) (n' : Nat), WM R' n' → tpM J T → ∃ M', M_reads 195 J R' n' = some (some (.int x), M', R', n') ∧ zFM J M' ∧ zRead T L' x C' M' := by
  have hn := W.M.1
  have hR : WRd R n := ⟨by omega, W.2.1.1, W.2.1.2⟩
  obtain ⟨x, C', M1, a1, a2, a3, a4, a5⟩ := zread (M := I) hR W.M (W.L hL') hz hst hT hT2
  refine ⟨x, C', a1, a3, fun J R' n' hM tJ => ?_⟩
  obtain ⟨x', C2, M2, b1, b2, b3, b4, b5⟩ := zread (M := J) hR hM (W.L hL') hz hst hT tJ
  have e := a1.symm.trans b1
  injection e with e1
  injection e1 with e2 e3
  injection e3 with e4 e5
  injection e2 with e6
  injection e6 with e7
  subst e7; subst e4
  exact ⟨M2, b2, b4, b5⟩
theorem zread2 (W : zWc R n) (hL' : isL L') {T : Nat × (Nat → Nat)} (hz : zTp T) (hst : zStt I) (hT : tpC I T) (hT2 : tpM I T) : ∃ x C' M', Rd_read 3 L' I R n = some (some (.int x), C', zur R 3 1 (some L'), n) ∧ M_reads 195 (zup C' 195 0 0) (zur R 3 1 (some L')) n = some (some (.int x), M', zur R 3 1 (some L'), n) ∧ zFC L' I C' ∧ zFM (zup C' 195 0 0) M' ∧ zRead T L' x C' M' := by
  have i1 := isL_i hL'
  obtain ⟨x, C', a1, a3, go⟩ := zread3 W hL' hz hst hT hT2
  have t2 : tpM (zup C' 195 0 0) T := by
    refine ⟨by rw [zup_k _ (by decide), a3 195 2 (by decide) (by rcases hL' with y | y <;> omega)]; exact hT2.1, fun k hk => ?_⟩
    rw [zup_n _ (by decide), a3 196 k (by decide) (by omega)]; exact hT2.2 k hk
  obtain ⟨M', b1, b2, b3⟩ := go (zup C' 195 0 0) (zur R 3 1 (some L')) n (WM_zur W.M (by decide)) t2
  exact ⟨x, C', M', a1, b1, a3, b2, b3⟩
theorem zread_irr {C' M' : ZI} (hL' : isL L') (f1 : zFC L' I C') (f2 : zFM (zup C' 195 0 0) M') : ∀ b j, ¬ zirr L' b j → M' b j = I b j := fun b j hb => by
  rw [f2 b j (by unfold zirr at hb; omega) (by unfold zirr at hb; omega)]
  have e : zup C' 195 0 0 b j = C' b j := by
    by_cases c : b = 195
    · exact zup_k b (by unfold zirr at hb; omega)
    · exact zup_n _ c
  rw [e]
  exact f1 b j (by unfold zirr at hb; omega) (by unfold zirr at hb; omega)
theorem zread_bs {C' M' : ZI} (hL' : isL L') (f1 : zFC L' I C') (f2 : zFM (zup C' 195 0 0) M') : ∀ b j, zbsr b j → M' b j = I b j := fun b j hb => by
  have i1 := isL_i hL'
  rw [f2 b j (by unfold zbsr at hb; omega) (by unfold zbsr at hb; omega)]
  have e : zup C' 195 0 0 b j = C' b j := by
    by_cases c : b = 195
    · exact zup_k b (by unfold zbsr at hb; omega)
    · exact zup_n _ c
  rw [e]
  exact f1 b j (by unfold zbsr at hb; omega) (by unfold zbsr at hb; rcases hL' with y | y <;> omega)
/-- reading alone changes nothing that counts -/
theorem zInv_read {C' M' : ZI} (h : zInv q I R n) (hd : R 0 10 = some L') (hL' : isL L') (f1 : zFC L' I C') (f2 : zFM (zup C' 195 0 0) M') : zInv (q + 1) M' (zur R 3 1 (some L')) n := by
  obtain ⟨W, B, N⟩ := h
  refine ⟨zWc_z W (Or.inl ⟨rfl, rfl⟩), zBs_f B (zread_bs hL' f1 f2), ?_⟩
  rcases N with N | ⟨L, L2, P, Wk, z, m, t, N⟩
  · have e : L' = 173 := by
      have := N.1.2.2.2.2
      rw [hd] at this; injection this
    subst e
    exact Or.inl (zNo_z (zNo_f N (zread_irr hL' f1 f2)) (Or.inl ⟨rfl, rfl⟩))
  · have e : L' = L2 := by
      have := N.1.2.2.2.2.1
      rw [hd] at this; injection this
    subst e
    exact Or.inr ⟨L, L', P, Wk, z, m, t, zLea_z (zLea_f N (by omega) (zread_irr hL' f1 f2)) (Or.inl ⟨rfl, rfl⟩)⟩
theorem zdraft (h : zInv q I R n) : ∃ L', isL L' ∧ R 0 10 = some L' := by
  rcases h.2.2 with N | ⟨L, L', P, Wk, z, m, t, N⟩
  · exact ⟨173, Or.inr rfl, N.1.2.2.2.2⟩
  · exact ⟨L', N.1.2.1, N.1.2.2.2.2.1⟩
theorem p_fault (h : zInv q I R n) : zAg q I R n (C_fault 0) (M_fault 195) := by
  have W := h.1
  have hM := W.M
  obtain ⟨⟨T, t1, t2, t3⟩, st, -⟩ := h.2.1
  obtain ⟨L', iL, hd⟩ := zdraft h
  obtain ⟨x, C', M', a1, a2, a3, a4, a5⟩ := zread2 W iL t1 st t2 t3
  have sc := e_C_fault 0 I R n
  simp only [W.k, W.1, hd, zc_t, zr_s, a1, zbI_s] at sc
  have sm := e_M_fault 195 C' (zur R 3 1 (some L')) n
  simp only [hM.k, zc_t, a2, zbI_s] at sm
  exact ⟨x, C', _, n, M', _, n, sc, sm, zInv_read h hd iL a3 a4⟩
end LTg
