section LPh
variable {q : Nat} {I : ZI} {R : ZR} {n L L' P Wk z m : Nat} {t : Nat → Nat}
theorem C_plan_made (h : zInv q I R n) (hq : q ≤ 1000) (k : zLea q I R n L L' P Wk z m t) {w : Nat} (h2 : I 10 2 = 1) (h4 : I 10 4 = nI w) (hw : w < Wk) (x1 x2 : Int32) : ∃ J R9 n9, C_plan_52 0 x1 x2 I R n = C_plan_95 0 x1 x2 J R9 n9 ∧ zInv q J R9 n9 ∧ zLea q J R9 n9 L L' P Wk z m t ∧ (J 141 10 = 1 ∧ n9 = 281 ∧ zPln J L P Wk m t) ∧ ∀ b, b = 10 ∨ b = 195 ∨ b = 198 ∨ b = 208 → J b = I b := by
  have W := h.1
  have s := e_C_plan_52 0 x1 x2 I R n
  simp only [W.k, W.1, zc_t, zr_s] at s
  rcases k.2.2.2.2.2.2.2.2 with e0 | e1
  · rw [if_pos e0] at s
    have iL := k.1.1
    have iL' := k.1.2.1
    have hne := k.1.2.2.1
    have i1 := isL_i iL
    have i1' := isL_i iL'
    have i2 : L + 22 ≤ 195 := by rcases iL with y | y <;> omega
    obtain ⟨I1, p1, p2, p3, k1, h1⟩ := C_prices h k (w := w) (by omega)
    simp only [h4, p1, zbV_s, W.k, W.1, k.1.2.2.2.1, zc_t, zr_s] at s
    obtain ⟨I2, R2, mk, z2, f5, fR, fI⟩ : ∃ I2 R2, Pl_makeRows 141 I1 R n = some (none, I2, R2, 281) ∧ zPr R2 ∧ (∀ j, 5 ≤ j → R2 141 j = R 141 j) ∧ (∀ b j, b < 223 → b ≠ 141 → R2 b j = R b j) ∧ ∀ b j, (b < 223 ∨ 281 ≤ b) → I2 b j = I1 b j := by
      rcases k.1.2.2.2.2.2.2 with ⟨y1, y2⟩ | ⟨y1, y2⟩
      · subst y1
        obtain ⟨I', R', m1, ⟨r0, r1, r2, r3, r4, r5⟩, m3, m4, m5, m6, m7⟩ := Pl_makeRows_first2 (I := I1) y2
        exact ⟨I', R', m1, ⟨⟨r0, r1, r2, r3, r4⟩, m3, m4, m5⟩, r5, m6, m7⟩
      · subst y1
        exact ⟨I1, R, Pl_makeRows_again (Nat.le_refl _) y2.1.1, y2, fun _ _ => rfl, fun _ _ _ _ => rfl, fun _ _ _ => rfl⟩
    have hn := W.M.1
    have hn281 : n ≤ 281 := by rcases k.1.2.2.2.2.2.2 with y | y <;> omega
    have fR3 : ∀ b j, b < 223 → (b = 141 → 5 ≤ j ∧ j ≠ 8 ∧ j ≠ 9) → zur (zur R2 141 8 (some L)) 141 9 (some 10) b j = R b j := fun b j hb hj => by
      by_cases e : b = 141
      · rw [zur_k _ (hj e).2.2, zur_k _ (hj e).2.1, e]; exact f5 j (hj e).1
      · rw [zur_n _ e, zur_n _ e]; exact fR b j hb e
    have W2 : zWc R2 281 := zWc_up2 W hn281 (fun b j hb hj => by
      by_cases e : b = 141
      · rw [e]; exact f5 j (hj e)
      · exact fR b j (by omega) e)
    have W3 : zWc (zur (zur R2 141 8 (some L)) 141 9 (some 10)) 281 := zWc_z (zWc_z W2 (by omega)) (by omega)
    have z3 : zPr (zur (zur R2 141 8 (some L)) 141 9 (some 10)) := by
      obtain ⟨⟨r0, r1, r2, r3, r4⟩, m3, m4, m5⟩ := z2
      refine ⟨⟨?_, ?_, ?_, ?_, ?_⟩, fun r hr => ?_, fun w hw => ?_, fun w hw => ?_⟩
      · rw [zur_k _ (by decide), zur_k _ (by decide)]; exact r0
      · rw [zur_k _ (by decide), zur_k _ (by decide)]; exact r1
      · rw [zur_k _ (by decide), zur_k _ (by decide)]; exact r2
      · rw [zur_k _ (by decide), zur_k _ (by decide)]; exact r3
      · rw [zur_k _ (by decide), zur_k _ (by decide)]; exact r4
      · rw [zur_n _ (by decide), zur_n _ (by decide)]; exact m3 r hr
      · rw [zur_n _ (by decide), zur_n _ (by decide)]; exact m4 w hw
      · rw [zur_n _ (by decide), zur_n _ (by decide)]; exact m5 w hw
    have w8 : zur (zur R2 141 8 (some L)) 141 9 (some 10) 141 8 = some L := by rw [zur_k _ (by decide), zur_s]
    have w9 : zur (zur R2 141 8 (some L)) 141 9 (some 10) 141 9 = some 10 := by rw [zur_s]
    generalize hR3 : zur (zur R2 141 8 (some L)) 141 9 (some 10) = R3 at *
    have WPp : WP R3 281 L := ⟨Nat.le_refl _, ⟨z3.1.1, z3.1.2.1, z3.1.2.2.1, z3.1.2.2.2.1, z3.1.2.2.2.2, W3.2.2.2.2.2.1.1, W3.2.2.2.2.2.1.2.1, W3.2.2.2.2.2.1.2.2, w8, w9⟩, z3.2.1, z3.2.2.1, z3.2.2.2⟩
    have hL3 := W3.L iL
    have hT3 : WT R3 281 L := by
      obtain ⟨-, ⟨t0, t1, t2, t3, t4⟩, t5⟩ := k.1.2.2.2.2.2.1
      exact ⟨by omega, ⟨by rw [fR3 _ _ (by decide) (by decide)]; exact t0, by rw [fR3 _ _ (by decide) (by decide)]; exact t1, by rw [fR3 _ _ (by decide) (by decide)]; exact t2, by rw [fR3 _ _ (by decide) (by decide)]; exact t3, by rw [fR3 _ _ (by decide) (by decide)]; exact t4⟩, by rw [fR3 _ _ (by decide) (by decide)]; exact t5⟩
    have zr3 : zLr R3 281 L L' := ⟨iL, iL', hne, by rw [fR3 _ _ (by decide) (by decide)]; exact k.1.2.2.2.1, by rw [fR3 _ _ (by decide) (by decide)]; exact k.1.2.2.2.2.1, hT3, Or.inr ⟨rfl, z3⟩⟩
    have g1 := k1.2.2.1
    have hP := g1.1.2.1
    have hWk := g1.2.1.2.1
    have w13 : I2 (L + 2) 2 = nI Wk := by rw [fI _ _ (by omega)]; exact g1.2.1.2.2.1
    have sp := e_Pl_make 141 L 10 4 I1 R n
    have zi2 : zin (L + 2) 2 = true := by rcases iL with e | e <;> (rw [e]; decide)
    have z22 : zix (2 : Int32) = 2 := by decide
    have k141 := W3.k.2.2.2.2.2.2.2.2.1
    have k141n := W.k.2.2.2.2.2.2.2.2.1
    simp only [k141n, zc_t, mk, zbV_s, k141, hL3.k, hR3, hL3.r, zr_s, zi2, z22, Bool.true_or, Bool.true_and, w13] at sp
    -- the memory at which the planner starts
    have c3 : ∀ b j, (b < 223 ∨ 281 ≤ b) → (b = 141 → j ≠ 13 ∧ j ≠ 10) → zup (zup I2 141 13 (nI Wk)) 141 10 1 b j = I1 b j := fun b j hb hj => by
      rw [← fI b j hb]
      by_cases e : b = 141
      · rw [zup_k _ (hj e).2, zup_k _ (hj e).1]
      · rw [zup_n _ e, zup_n _ e]
    have c13 : zup (zup I2 141 13 (nI Wk)) 141 10 1 141 13 = nI Wk := by rw [zup_k _ (by decide), zup_s]
    have c10 : zup (zup I2 141 13 (nI Wk)) 141 10 1 141 10 = 1 := by rw [zup_s]
    generalize hI3 : zup (zup I2 141 13 (nI Wk)) 141 10 1 = I3 at *
    have row3 : ∀ b, b < 223 → b ≠ 141 → I3 b = I1 b := fun b h1 h2 => funext fun j => c3 b j (Or.inl h1) (fun e => absurd e h2)
    obtain ⟨be, mo, w', f, sw, O, u, l, a1, a2, a3, a4, a5, a6, a7, a8, a9, a10, a11, a12, a13, a14⟩ := k1.2.2.2.2.2.1
    have i10 : ∀ j, I1 10 j = I 10 j := fun j => p3 10 j (by decide) (fun e => absurd e (by decide))
    have hbe : be = true := by
      have := a1.1
      rw [i10, h2] at this
      cases be with | true => rfl | false => exact absurd this (by decide)
    subst hbe
    have ew : w' = w := by
      have := a3.1
      rw [i10, h4, nI_eq (by omega) (by omega)] at this
      exact this.symm
    subst ew
    have hO2 := z65 a7.2.2.1 hP
    have hl2 := z65 a11.2.2 hP
    obtain ⟨co, -, co2, co3, -⟩ := g1.2.2.2.1 3 (by decide)
    have co9 : co ≤ 9 := co2
    have tt := k1.2.2.2.1
    have r10 := row3 10 (by decide) (by decide)
    have r11 := row3 11 (by decide) (by decide)
    have rL : ∀ b, L ≤ b → b < L + 22 → I3 b = I1 b := fun b h1 h2 => row3 b (by omega) (by omega)
    have zt3 : zTm I3 m t := by
      refine ⟨by rw [row3 4 (by decide) (by decide)]; exact tt.1.1, tt.1.2.1, fun j hj => ?_⟩
      rw [row3 218 (by decide) (by decide)]; exact tt.1.2.2 j hj
    -- the teams that can be paid for
    have cc : ∀ j, j < m → (fun k => !(decide (I3 10 3 + zsum O (fun i => zbrings (I3 (L + 15 + w') i) (I3 11 i)) 16 < I3 219 k))) j = (fun k => !(decide (I3 10 3 + zsum O (fun i => zbrings (I3 (L + 15 + w') i) (I3 11 i)) 16 < zsum (t k) (I3 (L + 15 + w')) P))) j := fun j hj => by
      show (!(decide _)) = (!(decide _))
      rw [row3 219 (by decide) (by decide), p2 j hj, rL (L + 15 + w') (by omega) (by omega)]
    have e1 := zct_ext cc
    have e2 := zChs_congr (t := t) (t' := t) cc (fun _ _ => rfl)
    generalize hcd : (fun k => !(decide (I3 10 3 + zsum O (fun i => zbrings (I3 (L + 15 + w') i) (I3 11 i)) 16 < zsum (t k) (I3 (L + 15 + w')) P))) = cd at *
    have tk : ∀ j, j < zct cd m → ∃ i, i < m ∧ zChs m cd t j = t i := fun j hj => by
      obtain ⟨i, y1, -, -, y4⟩ := zChs_ex (m := m) (cond := cd) t hj
      exact ⟨i, y1, y4⟩
    obtain ⟨J, j1, j2, j3, j4⟩ := Pl_make29_ok (I := I3) (R := R3) (n := 281) (L := L) (m := m) (t := t) (P := P) (Wk := Wk) (w0 := w') (O := O) (s := u) (f := f) (s0 := sw) (l := l) (co := co) (pl := zpl I3 L P (zChs m cd t)) (tp := ztp I3 L P (zChs m cd t)) WPp hL3 W3.S hT3 zt3 hP (by rw [rL L (by omega) (by omega)]; exact g1.1.2.2.1) hWk hw c13 (by rw [r10]; exact a3.1) (by rw [r10]; exact a7.1) (by omega) (by rw [r10]; exact a8.1) a8.2.2 (by rw [r10]; exact a4.1) (a4.2.2.2 rfl) a4.2.2.1 (by rw [r10]; exact a5.1) (by have := a5.2.2; omega) (by rw [r10]; exact a11.1) (by omega) (by rw [rL (L + 2) (by omega) (by omega)]; exact co3) co9 _ rfl (fun v i hv hi => by
        rw [rL (L + 8 + v) (by omega) (by omega)]
        exact (zlow_bd (g1.2.2.2.2.2.2.2.1 v i hv hi).2 (by decide)).2) (fun v j hv hj => zcap_ne _ (tt.1.2.2 j hj).2.2 (tt.2.2.1 j hj).1) (fun v j _ hv hj => by
        rw [e1] at hj
        rw [e2]
        obtain ⟨i, y1, y2⟩ := tk j hj
        have tf := (zteam_f g1 (tt.2.2.1 i y1).1 (tt.2.2.1 i y1).2).2.2 v hv
        unfold zpl ztp
        rw [if_pos (show v < 6 by omega), if_pos (show v < 6 by omega)]
        refine ⟨rfl, rfl, ?_, ?_⟩
        · unfold cPl
          rw [y2, rL (L + 8 + v) (by omega) (by omega)]
          exact ⟨by have := tf.1.1; omega, by have := tf.1.2; omega⟩
        · unfold cTp
          rw [y2, rL (L + 8 + v) (by omega) (by omega)]
          exact ⟨by have := tf.2.1; omega, by have := tf.2.2; omega⟩) (fun n1 n2 => by
        rw [e2, e1]
        rw [e1] at n1
        refine zokT_ex n1 ?_
        rw [r10]
        rcases a9.2 with y | y | y | ⟨y1, y2, y3, y4, y5⟩
        · exact Or.inl y
        · exact Or.inr (Or.inl y)
        · exact Or.inr (Or.inr (Or.inl y))
        · refine Or.inr (Or.inr (Or.inr ⟨y1, ?_⟩))
          obtain ⟨i, i1, i2⟩ := tt.2.2.2.1 l a11.2.2 y4
          have ci : cd i = true := by
            rw [← hcd]
            show (!(decide _)) = true
            rw [i2, r10, r11, rL (L + 15 + w') (by omega) (by omega), decide_eq_false y5]; rfl
          exact ⟨zct cd i, zct_lt cd i1 ci, by rw [zChs_at i1 ci, i2]⟩)
    rw [e1] at j2
    rw [e1, e2] at j3
    rw [j1] at sp
    have sp' : Pl_make 141 L 10 4 I1 R n = some (none, J, R3, 281) := sp
    rw [sp'] at s
    simp only [zbV_s] at s
    -- frames
    have cJ : ∀ b j, b < 223 ∨ 1000 ≤ b → b ≠ 141 → b ≠ 147 → b ≠ 148 → b ≠ 149 → J b j = I1 b j := fun b j h1 h2 h3 h4 h5 => by
      rw [j4 b j (by omega) (fun e => absurd e h2) h3 h4 h5]
      exact c3 b j (by omega) (fun e => absurd e h2)
    have rJ : ∀ b, b < 223 → b ≠ 141 → b ≠ 147 → b ≠ 148 → b ≠ 149 → J b = I1 b := fun b h1 h2 h3 h4 h5 => funext fun j => cJ b j (Or.inl h1) h2 h3 h4 h5
    have rJ3 : ∀ b, b < 223 → b ≠ 141 → b ≠ 147 → b ≠ 148 → b ≠ 149 → J b = I3 b := fun b h1 h2 h3 h4 h5 => by rw [rJ b h1 h2 h3 h4 h5, row3 b h1 h2]
    have jL3 : ∀ b, L ≤ b → b < L + 22 → J b = I3 b := fun b h1 h2 => rJ3 b (by omega) (by omega) (by omega) (by omega) (by omega)
    have jL : ∀ b, L ≤ b → b < L + 22 → J b = I1 b := fun b h1 h2 => rJ b (by omega) (by omega) (by omega) (by omega) (by omega)
    have J10 := rJ3 10 (by decide) (by decide) (by decide) (by decide) (by decide)
    have J11 := rJ3 11 (by decide) (by decide) (by decide) (by decide) (by decide)
    have jc : J 141 10 = 1 := by rw [j4 141 10 (by decide) (by decide) (by decide) (by decide) (by decide)]; exact c10
    have pln : zPln J L P Wk m t := by
      intro w0 O' f' s' s0 l' co' q1 q2 q3 q4 q5 q6 q7 b1 b2 b3 b4 b5 b6 b7 cond hcond
      rw [J10, r10] at q1 q2 q3 q4 q5 q6
      rw [jL (L + 2) (by omega) (by omega)] at q7
      rw [a3.1, nI_eq (by omega) (by omega)] at q1
      rw [a7.1, nI_eq (by omega) (by omega)] at q2
      rw [a4.1, nI_eq (by omega) (by omega)] at q3
      rw [a8.1, nI_eq (by omega) (by omega)] at q4
      rw [a5.1, nI_eq (by have := a5.2.2; omega) (by omega)] at q5
      rw [a11.1, nI_eq (by omega) (by omega)] at q6
      rw [co3, nI_eq (by omega) (by omega)] at q7
      subst q1; subst q2; subst q3; subst q4; subst q5; subst q6; subst q7
      have ec : cond = cd := by
        rw [hcond, ← hcd, J10, J11, jL3 (L + 15 + w') (by omega) (by omega)]
      subst ec
      have epl : zpl J L P (zChs m cond t) = zpl I3 L P (zChs m cond t) := by
        funext v j
        unfold zpl
        by_cases c : v < 6
        · rw [if_pos c, if_pos c]
          unfold cPl
          rw [jL3 (L + 8 + v) (by omega) (by omega)]
        · rw [if_neg c, if_neg c]
      have etp : ztp J L P (zChs m cond t) = ztp I3 L P (zChs m cond t) := by
        funext v j
        unfold ztp
        by_cases c : v < 6
        · rw [if_pos c, if_pos c]
          unfold cTp
          rw [jL3 (L + 8 + v) (by omega) (by omega)]
        · rw [if_neg c, if_neg c]
      refine ⟨j2, fun n1 n2 => ?_⟩
      obtain ⟨x, kk, ch, v1, v2, v3, v4, v5, v6⟩ := j3 n1 n2
      rw [epl, etp, J10, v3]
      exact ⟨v1, kk, ch, v2, v4, v5, v6⟩
    have kJ : zLea q J R3 281 L L' P Wk z m t := zLea_p k1 (Nat.le_refl _) (fun b j hb h1 h2 h3 => cJ b j (by unfold zrel zirr at hb; omega) h1 (by unfold zrel zirr at hb; omega) h2 h3) (zCa_c k1.2.2.2.2.1 hWk jL (by rw [rJ 4 (by decide) (by decide) (by decide) (by decide) (by decide)]) (by rw [rJ 4 (by decide) (by decide) (by decide) (by decide) (by decide)]) (rJ _ (by decide) (by decide) (by decide) (by decide) (by decide)) (rJ _ (by decide) (by decide) (by decide) (by decide) (by decide))) zr3 (Or.inr ⟨jc, rfl, pln⟩)
    refine ⟨J, R3, 281, s, ⟨W3, zBs_f h1.2.1 (fun b j hb => cJ b j (by unfold zbsr at hb; omega) (by unfold zbsr at hb; omega) (by unfold zbsr at hb; omega) (by unfold zbsr at hb; omega) (by unfold zbsr at hb; omega)), Or.inr ⟨L, L', P, Wk, z, m, t, kJ⟩⟩, kJ, ⟨jc, rfl, pln⟩, fun b hb => ?_⟩
    rw [rJ b (by omega) (by omega) (by omega) (by omega) (by omega)]
    funext j
    exact p3 b j (by omega) (by omega)
  · rw [if_neg (by rw [e1.1]; decide)] at s
    exact ⟨I, R, n, s, h, k, e1, fun _ _ => rfl⟩
end LPh
