/-! ===== the reference's plan as a whole ===== -/
/-- x is the most of a plan, TS and TC its teams and chips -/
def zPS (pl tp : Nat → Nat → Int32) (c : Nat → Nat) (co N Wk w0 O f s s0 l : Nat) (cp x : Int32) (TS TC : Nat → Int32) : Prop := zIM N (zokT true cp s0 l s c) (zov (zVal pl tp c co N Wk (Wk - (w0 + 1))) (pl w0) (tp w0) c co O f s s0) x ∧ ∃ k ch, zFs N (zokT true cp s0 l s c) (zov (zVal pl tp c co N Wk (Wk - (w0 + 1))) (pl w0) (tp w0) c co O f s s0) x k ch ∧ TS w0 = nI (c k) ∧ TC w0 = zwh ch ∧ zPath pl tp c co N Wk (Wk - (w0 + 1)) (w0 + 1) (znb O (c k) ch) (znf f (s0 + zdf (c k) O) ch) (znu s ch) TS TC
theorem zPS_u {pl tp : Nat → Nat → Int32} {c : Nat → Nat} {co N Wk w0 O f s s0 l : Nat} {cp x x' : Int32} {TS TC TS' TC' : Nat → Int32} (h : zPS pl tp c co N Wk w0 O f s s0 l cp x TS TC) (g : zPS pl tp c co N Wk w0 O f s s0 l cp x' TS' TC') : x = x' ∧ ∀ i, w0 ≤ i → i < Wk → TS i = TS' i ∧ TC i = TC' i := by
  obtain ⟨a1, k, ch, a2, a3, a4, a5⟩ := h
  obtain ⟨b1, k', ch', b2, b3, b4, b5⟩ := g
  have ex := zIM_u a1 b1
  subst ex
  obtain ⟨ek, ec⟩ := zFs_u a2 b2
  subst ek
  subst ec
  refine ⟨rfl, fun i h1 h2 => ?_⟩
  by_cases z : i = w0
  · subst z; rw [a3, b3, a4, b4]; exact ⟨rfl, rfl⟩
  · exact zPath_u _ _ _ _ _ a5 b5 i (by omega) (by omega)
section LMD
variable {I : ZI} {R : ZR} {n N P w0 Wk co s0 O l f s : Nat} {c : Nat → Nat} {pl tp : Nat → Nat → Int32}
theorem M_plan_own (h : WM R n) (g : zMp I N P w0 Wk co s0 O c pl tp) (hcp : I 208 7 = -1 ∨ I 208 7 = 0 ∨ I 208 7 = 1) (h4 : I 208 4 = nI f) (h6 : I 208 6 = nI s) (hf1 : 1 ≤ f) (hf2 : f ≤ 2) (hs : s < 8) : ∃ J K, M_laysValues 195 I R n = some (none, J, R, n) ∧ M_laysPlan 195 J R n = some (none, K, R, n) ∧ zPS pl tp c co N Wk w0 O f s s0 l (I 208 7) (J 215 (zsta w0 40 f s)) (K 216) (K 217) ∧ (∀ q j, (q = 195 → j ≠ 33 ∧ j ≠ 34) → q ≠ 215 → J q j = I q j) ∧ ∀ q j, (q = 195 → j ≠ 33 ∧ j ≠ 34) → q ≠ 215 → q ≠ 216 → q ≠ 217 → K q j = I q j := by
  obtain ⟨y1, y2, y3, y4⟩ := g.2.2.2.2.2.2.1
  obtain ⟨J, e1, e2, e3, e4⟩ := M_laysValues_ok (l := l) h g hcp
  have gJ := zMp_fr g (fun q j a1 a2 _ _ => e4 q j a1 a2)
  have j7 : J 208 7 = I 208 7 := e4 208 7 (by decide) (by decide)
  have im := e3 f s hf1 hf2 hs
  obtain ⟨k, ch, hF⟩ := zFs_ex im
  have eb : zbM N O c 40 = O := by unfold zbM; rw [if_neg (by have := g.1.2.2; omega)]
  obtain ⟨L, l1, l2, l3, l4⟩ := M_plan_week (l := l) (w := w0) (b := 40) (k := k) (ch := ch) h gJ y3 (Nat.le_refl _) e2 (by omega) (Or.inr rfl) hf1 hf2 hs (fun _ q => by rw [j7] at q; rcases hcp with y | y | y <;> rw [y] at q <;> exact absurd q (by decide)) (by
    rw [decide_eq_true rfl, if_pos rfl, eb, j7]; exact hF)
  rw [if_pos rfl, eb] at l1
  have hk := hF.1
  have hch := hF.2.1
  have nf := znf_le f (s0 + zdf (c k) O) ch
  have gL := zMp_fr gJ (fun q j a1 a2 a3 a4 => l4 q j a1 (fun z => by omega))
  obtain ⟨K, k1, k2, k3, k4⟩ := M_plan_rest h (Wk - (w0 + 1)) (w0 + 1) L (if ch = 3 then 40 else k) (znf f (s0 + zdf (c k) O) ch) (znu s ch) gL (zTM_217 e2 (fun j => l4 215 j (fun z => absurd z (by decide)) (fun z => by omega))) (by omega) (by omega) (by have := g.1.2.2; split <;> omega) (by split <;> omega) nf.1 nf.2 (znu_lt hs hch)
  have eb2 : zbM N O c (if ch = 3 then 40 else k) = znb O (c k) ch := by
    unfold znb
    by_cases z : ch = 3
    · rw [if_pos z, if_pos z]; exact eb
    · rw [if_neg z, if_neg z]; unfold zbM; rw [if_pos hk]
  rw [eb2] at k2
  have st := e_M_laysPlan 195 J R n
  have t40 : (40 : Int32) = nI 40 := by decide
  simp only [h.k, h.2, zc_t, zr_s, zin208, zixs, Bool.true_or, Bool.true_and, e4 208 4 (by decide) (by decide), e4 208 6 (by decide) (by decide), gJ.2.2.2.2.1.2.1, h4, h6, t40] at st
  refine ⟨J, K, e1, st.trans (l1.trans k1), ⟨im, k, ch, hF, ?_, ?_, k2⟩, e4, fun q j a1 a2 a3 a4 => ?_⟩
  · rw [(k3 w0 (by omega)).1]; exact l2
  · rw [(k3 w0 (by omega)).2]; exact l3
  · rw [k4 q j a1 a3 a4, l4 q j a1 (fun z => by omega)]; exact e4 q j a1 a2
theorem zor4 : ∀ s, s < 8 → s.testBit 2 = true → s ||| 2 ^ 2 = s := by decide
theorem M_plan_lent (h : WM R n) (g : zMp I N P w0 Wk co s0 O c pl tp) (h7 : I 208 7 = 2) (h8 : I 208 8 = nI l) (hl : l < 65536) (hne : zcap l (fun i => I 206 (6 * i + w0)) P ≠ none) (hs2 : s.testBit 2 = true) (hlk : ∃ k, k < N ∧ c k = l) (h4 : I 208 4 = nI f) (h6 : I 208 6 = nI s) (hf1 : 1 ≤ f) (hf2 : f ≤ 2) (hs : s < 8) : ∃ J K, M_laysValues 195 I R n = some (none, J, R, n) ∧ M_laysPlan 195 J R n = some (none, K, R, n) ∧ zPS pl tp c co N Wk w0 O f s s0 l (I 208 7) (J 215 (zsta w0 40 f s)) (K 216) (K 217) ∧ (∀ q j, (q = 195 → j ≠ 33 ∧ j ≠ 34) → q ≠ 215 → J q j = I q j) ∧ ∀ q j, (q = 195 → j ≠ 33 ∧ j ≠ 34) → q ≠ 215 → q ≠ 216 → q ≠ 217 → K q j = I q j := by
  obtain ⟨y1, y2, y3, y4⟩ := g.2.2.2.2.2.2.1
  obtain ⟨J, e1, e2, e3, e4⟩ := M_laysValues_lent h g h7 h8 hl hne
  have gJ := zMp_fr g (fun q j a1 a2 _ _ => e4 q j a1 a2)
  have j7 : J 208 7 = 2 := by rw [e4 208 7 (by decide) (by decide)]; exact h7
  have j8 : J 208 8 = nI l := by rw [e4 208 8 (by decide) (by decide)]; exact h8
  have eb : zbM N O c 40 = O := by unfold zbM; rw [if_neg (by have := g.1.2.2; omega)]
  have okc : ∀ k ch, zokT true (I 208 7) s0 l s c k ch = (decide (zwh ch = 2) && (!(decide (ch = 3)) || decide (c k = l))) := fun k ch => by
    unfold zokT
    rw [if_pos ⟨rfl, by rw [h7]; decide⟩, h7]
  have ok3 : ∀ k ch, ch < 4 → zokT true (I 208 7) s0 l s c k ch = true → ch = 3 ∧ c k = l := fun k ch hch q => by
    rw [okc, Bool.and_eq_true] at q
    have c3 := (zwh_s ch hch).2.2.2.2.2.1.1 (of_decide_eq_true q.1)
    refine ⟨c3, ?_⟩
    have q2 := q.2
    rw [decide_eq_true c3] at q2
    exact of_decide_eq_true q2
  have vv : ∀ k, k < N → c k = l → zov (zVal pl tp c co N Wk (Wk - (w0 + 1))) (pl w0) (tp w0) c co O f s s0 k 3 = J 215 (zsta w0 40 f s) := fun k hk hc => by
    rw [zov3, zor4 s hs hs2, e3 f s hf1 hf2 hs, ← (g.2.2.2.2.2.2.2 w0 k (Nat.le_refl _) y3 hk).1]
    unfold mPl
    rw [hc]
  obtain ⟨k0, hk0, hc0⟩ := hlk
  have im : zIM N (zokT true (I 208 7) s0 l s c) (zov (zVal pl tp c co N Wk (Wk - (w0 + 1))) (pl w0) (tp w0) c co O f s s0) (J 215 (zsta w0 40 f s)) := by
    refine ⟨⟨k0, 3, hk0, by decide, ?_, vv k0 hk0 hc0⟩, fun k ch hk hch ho => ?_⟩
    · rw [okc, decide_eq_true (show zwh 3 = 2 by decide), decide_eq_true hc0, Bool.or_true]; rfl
    · obtain ⟨q1, q2⟩ := ok3 k ch hch ho
      subst q1
      rw [vv k hk q2, Int32.lt_iff_toInt_lt]
      omega
  obtain ⟨k, ch, hF⟩ := zFs_ex im
  obtain ⟨q1, q2⟩ := ok3 k ch hF.2.1 hF.2.2.1
  subst q1
  have z216 := zin216 (show w0 < 6 by omega)
  have ly := M_isLent_yes (I := J) (R := R) (n := n) (w := w0) h (by omega) gJ.2.2.2.2.1.2.1 j7
  have t40 : (40 : Int32) = nI 40 := by decide
  have st := e_M_laysPlan 195 J R n
  simp only [h.k, h.2, zc_t, zr_s, zin208, zixs, Bool.true_or, Bool.true_and, e4 208 4 (by decide) (by decide), e4 208 6 (by decide) (by decide), gJ.2.2.2.2.1.2.1, h4, h6, t40] at st
  have s2 := e_M_laysPlan_27 195 (nI 40) (nI f) (nI s) (nI w0) J R n
  have fb := M_freeBehind_ok (I := zup (zup J 216 w0 (nI l)) 217 w0 2) (R := R) (n := n) (nI f) 0 2
  rw [if_neg (by decide), if_pos rfl, zfb_M0 hf1 hf2] at fb
  simp only [h.k, h.2, zc_t, zr_s, zin198, zin208, zixs, Bool.true_or, Bool.true_and, gJ.2.2.2.2.2.1.2, if_pos (nI_lt y3 (show Wk < 2 ^ 31 by omega)), ly, zbI_s, if_neg (show ¬ (1 : Int32) = 0 by decide), j8, z216, zix_nI (show w0 < 2 ^ 31 by omega), fb, nI_1] at s2
  generalize hL : zup (zup J 216 w0 (nI l)) 217 w0 2 = L at s2
  have fL : ∀ q j, q ≠ 216 → q ≠ 217 → L q j = J q j := fun q j a1 a2 => by rw [← hL, zup_n _ a2, zup_n _ a1]
  have gL := zMp_fr gJ (fun q j a1 a2 a3 a4 => fL q j a3 a4)
  obtain ⟨K, k1, k2, k3, k4⟩ := M_plan_rest h (Wk - (w0 + 1)) (w0 + 1) L 40 2 s gL (zTM_217 e2 (fun j => fL 215 j (by decide) (by decide))) (by omega) (by omega) (by omega) (Or.inr rfl) (by omega) (by omega) hs
  rw [eb] at k2
  refine ⟨J, K, e1, st.trans (s2.trans k1), ⟨im, k, 3, hF, ?_, ?_, ?_⟩, e4, fun q j a1 a2 a3 a4 => ?_⟩
  · rw [(k3 w0 (by omega)).1, ← hL, zup_n _ (by decide), zup_s, q2]
  · rw [(k3 w0 (by omega)).2, ← hL, zup_s]; decide
  · show zPath pl tp c co N Wk (Wk - (w0 + 1)) (w0 + 1) O 2 (s ||| 2 ^ 2) (K 216) (K 217)
    rw [zor4 s hs hs2]; exact k2
  · rw [k4 q j a1 a3 a4, fL q j a3 a4]; exact e4 q j a1 a2
theorem M_laysChoices_ok (h : WM R n) {m : Nat} {t : Nat → Nat} (ht : zTmM I m t) (hP : P ≤ 16) (hp : I 195 17 = nI P) (hb : I 208 0 = 1) (hO : I 208 1 = nI O) (hO2 : O < 2 ^ 31) (x : Int32) (hx : x = I 208 2 + zsum O (fun i => zbrings (I 208 (11 + i)) (I 208 (27 + i))) P) (hN : zct (fun k => !(decide (x < mPr I P (t k)))) m ≤ 40) : ∃ J, M_laysChoices 195 I R n = some (none, J, R, n) ∧ J 195 32 = nI (zct (fun k => !(decide (x < mPr I P (t k)))) m) ∧ (∀ k, k < zct (fun k => !(decide (x < mPr I P (t k)))) m → J 214 k = nI (zChs m (fun k => !(decide (x < mPr I P (t k)))) t k)) ∧ ∀ b j, b ≠ 214 → (b = 195 → j ≠ 32) → J b j = I b j := by
  have f0 : ∀ b j, b ≠ 195 → (zup I 195 32 0) b j = I b j := fun b j q => zup_n _ q
  have wo := M_worth_ok (I := zup I 195 32 0) (R := R) (n := n) h (S := O) (P := P) (by rw [f0 _ _ (by decide)]; exact hb) (by rw [f0 _ _ (by decide)]; exact hO) hO2 (by rw [zup_k _ (by decide)]; exact hp) hP
  rw [f0 208 2 (by decide)] at wo
  have e : zsum O (fun i => zbrings (zup I 195 32 0 208 (11 + i)) (zup I 195 32 0 208 (27 + i))) P = zsum O (fun i => zbrings (I 208 (11 + i)) (I 208 (27 + i))) P := zsum_congr (fun i _ _ => by rw [f0 _ _ (by decide), f0 _ _ (by decide)])
  rw [e, ← hx] at wo
  obtain ⟨J, q1, q2⟩ := M_laysChoices12_ok (I := I) (R := R) (n := n) h ht hP hp x hN
  have st := e_M_laysChoices 195 I R n
  simp only [h.k, zc_t, wo, zbI_s] at st
  rw [← nI_0] at st
  exact ⟨J, st.trans q1, q2⟩
end LMD
