/-! ===== teams: sizes, prices, scores ===== -/
theorem zcap_none {S : Nat} {f : Nat → Int32} : ∀ {k : Nat}, zcap S f k = none → ∀ i, i < k → S.testBit i = false
  | 0, _, i, hi => by omega
  | k + 1, h, i, hi => by
    rw [zcap_succ] at h
    by_cases c : S.testBit k = true
    · rw [if_pos c] at h
      cases hz : zcap S f k with
      | none => rw [hz] at h; cases h
      | some b =>
        rw [hz] at h
        dsimp only at h
        by_cases d : f b < f k
        · rw [if_pos d] at h; cases h
        · rw [if_neg d] at h; cases h
    · rw [if_neg c] at h
      by_cases e : i = k
      · rw [e]; cases q : S.testBit k with
        | true => exact absurd q c
        | false => rfl
      · exact zcap_none h i (by omega)
theorem zcap_ne {S P : Nat} (f : Nat → Int32) (h0 : S ≠ 0) (hS : S < 2 ^ P) : zcap S f P ≠ none := fun h => by
  obtain ⟨i, hi⟩ := Nat.exists_testBit_of_ne_zero h0
  by_cases c : i < P
  · rw [zcap_none h i c] at hi; cases hi
  · have : S < 2 ^ i := Nat.lt_of_lt_of_le hS (Nat.pow_le_pow_right (by decide) (by omega))
    rw [Nat.testBit_lt_two_pow this] at hi; cases hi
theorem zcap_c {S : Nat} {f g : Nat → Int32} : ∀ {k : Nat}, (∀ i, i < k → S.testBit i = true → f i = g i) → zcap S f k = zcap S g k
  | 0, _ => rfl
  | k + 1, h => by
    rw [zcap_succ, zcap_succ, ← zcap_c (f := f) (g := g) (fun i hi => h i (by omega))]
    by_cases c : S.testBit k = true
    · rw [if_pos c, if_pos c]
      cases hz : zcap S f k with
      | none => rfl
      | some b =>
        have hb := zcap_lt hz
        dsimp only
        rw [h b (by omega) hb.2, h k (by omega) c]
    · rw [if_neg c, if_neg c]
theorem zwith_c {S P : Nat} {f g : Nat → Int32} (h : ∀ i, i < P → S.testBit i = true → f i = g i) : zwith S f P = zwith S g P := by
  unfold zwith
  rw [zsum_congr h, ← zcap_c h]
  cases hz : zcap S f P with
  | none => rfl
  | some b =>
    have hb := zcap_lt hz
    dsimp only
    rw [h b hb.1 hb.2]
theorem zsum_pr {S : Nat} {f : Nat → Int32} : ∀ N, N ≤ 16 → (∀ i, i < N → ∃ v, 1 ≤ v ∧ v ≤ 99 ∧ f i = nI v) → ∃ p, zsum S f N = nI p ∧ zcnt S (fun _ => true) N ≤ p ∧ p ≤ 99 * zcnt S (fun _ => true) N
  | 0, _, _ => ⟨0, nI_0.symm, Nat.le_refl _, Nat.le_refl _⟩
  | k + 1, hk, h => by
    obtain ⟨p, h1, h2, h3⟩ := zsum_pr (S := S) (f := f) k (by omega) (fun i hi => h i (by omega))
    obtain ⟨v, v1, v2, v3⟩ := h k (by omega)
    rw [zsum_succ, zcnt_succ, h1]
    by_cases c : S.testBit k = true
    · rw [if_pos c, c, Bool.true_and, if_pos rfl, v3, nI_add]
      exact ⟨p + v, rfl, by omega, by omega⟩
    · have c' : S.testBit k = false := by cases q : S.testBit k with | true => exact absurd q c | false => rfl
      rw [if_neg c, c', Bool.false_and, if_neg (by decide), Int32.add_zero]
      exact ⟨p, rfl, by omega, by omega⟩
theorem zsum_bd {S : Nat} {f : Nat → Int32} : ∀ N, N ≤ 16 → (∀ i, i < N → zbd 99 (f i)) → zbd (99 * zcnt S (fun _ => true) N) (zsum S f N)
  | 0, _, _ => by show zbd 0 0; unfold zbd; decide
  | k + 1, hk, h => by
    have i := zsum_bd (S := S) (f := f) k (by omega) (fun i hi => h i (by omega))
    have le := zcnt_le S (fun _ => true) k
    rw [zsum_succ, zcnt_succ]
    by_cases c : S.testBit k = true
    · rw [if_pos c, c, Bool.true_and, if_pos rfl]
      exact zbd_mono (zbd_add i (h k (by omega)) (by omega)).1 (by omega)
    · have c' : S.testBit k = false := by cases q : S.testBit k with | true => exact absurd q c | false => rfl
      rw [if_neg c, c', Bool.false_and, if_neg (by decide), Int32.add_zero]
      exact i
theorem zwith_bd {S P : Nat} {f : Nat → Int32} (hP : P ≤ 16) (hS : zcnt S (fun _ => true) P ≤ 6) (h : ∀ i, i < P → zbd 99 (f i)) : zbd 693 (zwith S f P) ∧ zbd 99 (zwith S f P - zsum S f P) := by
  have i := zbd_mono (zsum_bd (S := S) P hP h) (show 99 * zcnt S (fun _ => true) P ≤ 594 by omega)
  have k : ∀ x : Int32, zbd 99 x → zbd 693 (zsum S f P + x) ∧ zbd 99 (zsum S f P + x - zsum S f P) := fun x hx => by
    refine ⟨(zbd_add i hx (by decide)).1, ?_⟩
    rw [Int32.add_comm, Int32.add_sub_cancel]
    exact hx
  unfold zwith
  cases hz : zcap S f P with
  | none => exact k 0 (by unfold zbd; decide)
  | some b => exact k (f b) (h b (zcap_lt hz).1)
theorem zcnt_4 {S : Nat} {pl : Nat → Int32} : ∀ N, (∀ i, i < N → ∃ v, v < 4 ∧ pl i = nI v) → zcnt S (fun _ => true) N = zcnt S (fun i => decide (pl i = nI 0)) N + zcnt S (fun i => decide (pl i = nI 1)) N + zcnt S (fun i => decide (pl i = nI 2)) N + zcnt S (fun i => decide (pl i = nI 3)) N
  | 0, _ => rfl
  | k + 1, h => by
    obtain ⟨v, v1, v2⟩ := h k (by omega)
    simp only [zcnt_succ]
    rw [zcnt_4 (S := S) (pl := pl) k (fun i hi => h i (by omega)), v2]
    cases S.testBit k with
    | false => rfl
    | true =>
      have v4 : v = 0 ∨ v = 1 ∨ v = 2 ∨ v = 3 := by omega
      have d : ∀ a, a < 4 → ∀ b, b < 4 → decide (nI a = nI b) = decide (a = b) := by decide
      simp only [d v v1 0 (by decide), d v v1 1 (by decide), d v v1 2 (by decide), d v v1 3 (by decide)]
      rcases v4 with rfl | rfl | rfl | rfl <;> simp <;> omega
section LTb
variable {q : Nat} {I : ZI} {R : ZR} {n L L' P Wk z m : Nat} {t : Nat → Nat}
theorem zteam_size (g : zLg I L P Wk z) {S : Nat} (hS : S < 2 ^ P) (h : cSlots I L S P) : zcnt S (fun _ => true) P = z := by
  obtain ⟨⟨-, hP, -⟩, -, ⟨z1, z2, -, z4⟩, -, a5, a6, -⟩ := g
  have e := zcnt_4 (S := S) (pl := I (L + 3)) P (fun i hi => by
    obtain ⟨⟨v, v1, v2, -⟩, -⟩ := a6 i hi
    exact ⟨v, v1, v2⟩)
  have key : ∀ k, k < 4 → ∃ v, v ≤ 3 ∧ I 198 k = nI v ∧ zcnt S (fun i => decide (I (L + 3) i = nI k)) P = v := fun k hk => by
    obtain ⟨v, v1, v2, v3⟩ := a5 k hk
    have q := h k hk
    have le := zcnt_le S (fun i => decide (I (L + 3) i = nI k)) P
    rw [v2, nI_eq (by omega) (by omega)] at q
    exact ⟨v, v1, v3, q⟩
  obtain ⟨v0, b0, c0, d0⟩ := key 0 (by decide)
  obtain ⟨v1, b1, c1, d1⟩ := key 1 (by decide)
  obtain ⟨v2, b2, c2, d2⟩ := key 2 (by decide)
  obtain ⟨v3, b3, c3, d3⟩ := key 3 (by decide)
  rw [c0, c1, c2, c3, nI_add, nI_add, nI_add, nI_eq (by omega) (by omega)] at z4
  rw [e, d0, d1, d2, d3, z4]
theorem zteam_f (g : zLg I L P Wk z) {S : Nat} (hS : S < 2 ^ P) (h : cTeam I L S P) : S ≠ 0 ∧ (∀ w, w ≤ Wk → ∃ p, 1 ≤ p ∧ p ≤ 594 ∧ zsum S (I (L + 15 + w)) P = nI p) ∧ ∀ w, w < Wk → zbd 693 (zwith S (I (L + 8 + w)) P) ∧ zbd 99 (zwith S (I (L + 8 + w)) P - zsum S (I (L + 8 + w)) P) := by
  have sz := zteam_size g hS h.1
  have hz := g.2.2.1
  have hP := g.1.2.1
  refine ⟨fun e => ?_, fun w hw => ?_, fun w hw => ?_⟩
  · subst e
    have : zcnt 0 (fun _ => true) P = 0 := by
      have : ∀ k, zcnt 0 (fun _ => true) k = 0 := fun k => by
        induction k with
        | zero => rfl
        | succ k ih => rw [zcnt_succ, ih, Nat.zero_testBit]; rfl
      exact this P
    omega
  · obtain ⟨p, p1, p2, p3⟩ := zsum_pr (S := S) (f := I (L + 15 + w)) P hP (fun i hi => (g.2.2.2.2.2.2.1 w i hw hi).1)
    exact ⟨p, by omega, by omega, p1⟩
  · exact zwith_bd hP (by omega) (fun i hi => (g.2.2.2.2.2.2.2.1 w i hw hi).2)
/-- the table has its prices of week w -/
theorem C_prices (h : zInv q I R n) (k : zLea q I R n L L' P Wk z m t) {w : Nat} (hw : w ≤ Wk) : ∃ I1, Tb_priceFor 4 (nI w) I R n = some (none, I1, R, n) ∧ (∀ j, j < m → I1 219 j = zsum (t j) (I1 (L + 15 + w)) P) ∧ (∀ b j, b ≠ 219 → (b = 4 → j ≠ 8) → I1 b j = I b j) ∧ zLea q I1 R n L L' P Wk z m t ∧ zInv q I1 R n := by
  have W := h.1
  have hL := W.L k.1.1
  have i1 := isL_i k.1.1
  have g := k.2.2.1
  have hP := g.1.2.1
  have hWk := g.2.1.2.1
  obtain ⟨I1, e1, e2, e3, e4⟩ := Tb_priceFor_ok (I := I) k.1.2.2.2.2.2.1 hL k.2.2.2.1.1 hP g.1.2.2.1 (show w < 7 by omega) (fun e j hj => k.2.2.2.2.1.1 w hw e j hj)
  have k1 : zLea q I1 R n L L' P Wk z m t := zLea_c k (Nat.le_refl _) (fun b j hb => e4 b j hb.2.1 (fun z => (hb.2.2.2 z).1)) ⟨fun w' hw' e j hj => by
    rw [e2, nI_eq (by omega) (by omega)] at e
    subst e
    rw [e3 j hj]
    rw [show I1 (L + 15 + w) = I (L + 15 + w) from funext fun i => e4 _ _ (by omega) (by omega)], fun w' hw' e j hj => by
    rw [e4 220 j (by decide) (by omega), show I1 (L + 8 + w') = I (L + 8 + w') from funext fun i => e4 _ _ (by omega) (by omega)]
    exact k.2.2.2.2.1.2 w' hw' (by rw [← e4 4 9 (by decide) (by decide)]; exact e) j hj⟩
  exact ⟨I1, e1, k1.2.2.2.2.1.1 w hw e2, e4, k1, W, zBs_f h.2.1 (fun b j hb => e4 b j (by unfold zbsr at hb; omega) (by unfold zbsr at hb; omega)), Or.inr ⟨L, L', P, Wk, z, m, t, k1⟩⟩
/-- the table has its scores of week w -/
theorem C_scores (h : zInv q I R n) (k : zLea q I R n L L' P Wk z m t) {w : Nat} (hw : w < Wk) : ∃ I1, Tb_scoreFor 4 (nI w) I R n = some (none, I1, R, n) ∧ (∀ j, j < m → I1 220 j = zwith (t j) (I1 (L + 8 + w)) P) ∧ (∀ b j, b ≠ 220 → (b = 4 → j ≠ 9) → I1 b j = I b j) ∧ zLea q I1 R n L L' P Wk z m t ∧ zInv q I1 R n := by
  have W := h.1
  have hL := W.L k.1.1
  have i1 := isL_i k.1.1
  have g := k.2.2.1
  have hP := g.1.2.1
  have hWk := g.2.1.2.1
  obtain ⟨I1, e1, e2, e3, e4⟩ := Tb_scoreFor_ok (I := I) k.1.2.2.2.2.2.1 hL k.2.2.2.1.1 hP g.1.2.2.1 (show w < 6 by omega) (fun i hi => by
    have := (g.2.2.2.2.2.2.2.1 w i hw hi).2
    exact (zlow_bd this (by decide)).2) (fun j hj => zcap_ne _ (k.2.2.2.1.1.2.2 j hj).2.2 (k.2.2.2.1.2.2.1 j hj).1) (fun e j hj => k.2.2.2.2.1.2 w hw e j hj)
  have k1 : zLea q I1 R n L L' P Wk z m t := zLea_c k (Nat.le_refl _) (fun b j hb => e4 b j hb.2.2.1 (fun z => (hb.2.2.2 z).2)) ⟨fun w' hw' e j hj => by
    rw [e4 219 j (by decide) (by omega), show I1 (L + 15 + w') = I (L + 15 + w') from funext fun i => e4 _ _ (by omega) (by omega)]
    exact k.2.2.2.2.1.1 w' hw' (by rw [← e4 4 8 (by decide) (by decide)]; exact e) j hj, fun w' hw' e j hj => by
    rw [e2, nI_eq (by omega) (by omega)] at e
    subst e
    rw [e3 j hj]
    rw [show I1 (L + 8 + w) = I (L + 8 + w) from funext fun i => e4 _ _ (by omega) (by omega)]⟩
  exact ⟨I1, e1, k1.2.2.2.2.1.2 w hw e2, e4, k1, W, zBs_f h.2.1 (fun b j hb => e4 b j (by unfold zbsr at hb; omega) (by unfold zbsr at hb; omega)), Or.inr ⟨L, L', P, Wk, z, m, t, k1⟩⟩
theorem zAg_w {c mm : ZI → ZR → Nat → ZO} {v : Int32} {I1 I2 : ZI} (hc : c I R n = some (some (.int v), I1, R, n)) (hm : mm I1 R n = some (some (.int v), I2, R, n)) (h1 : zInv q I1 R n) (hf : ∀ b j, ¬ zir0 b j → I2 b j = I1 b j) : zAg q I R n c mm := ⟨v, I1, R, n, I2, R, n, hc, hm, zInv_f h1 (by omega) hf⟩
theorem zt_ir0 {x : Int32} : ∀ b j, ¬ zir0 b j → zup I 195 0 x b j = I b j := fun b j hb => by
  by_cases e : b = 195
  · exact zup_k (a := 195) b (by unfold zir0 at hb; omega)
  · exact zup_n _ e
theorem zPr_eq (k : zLea q I R n L L' P Wk z m t) {w : Nat} (h4 : I 10 4 = nI w) (hw : w < 2 ^ 31) {x : Int32} (S : Nat) : mPr (zup I 195 0 x) P S = zsum S (I (L + 15 + w)) P := by
  obtain ⟨be, mo, w', f, sw, O, u, l, a1, a2, a3, a4, a5, a6, a7, a8, a9, a10, a11, a12, a13, a14⟩ := k.2.2.2.2.2.1
  have hWk := k.2.2.1.2.1.2.1
  have := a3.2.2
  rw [a3.1, nI_eq (by omega) hw] at h4
  subst h4
  unfold mPr
  exact zsum_congr (fun i hi _ => by rw [zT8, a14 i hi])
theorem zSc_eq (k : zLea q I R n L L' P Wk z m t) {w : Nat} (hw : w < Wk) {x : Int32} (S : Nat) : mSc (zup I 195 0 x) P w S = zwith S (I (L + 8 + w)) P := by
  unfold mSc
  exact zwith_c (fun i hi _ => by rw [zTn I x _ (by decide), (k.2.2.1.2.2.2.2.2.2.2.1 w i hw hi).1])
theorem p_teams (h : zInv q I R n) (x : Int32) : zAg q I R n (C_teams 0 x) (M_teams 195 x) := by
  have W := h.1
  have hM := W.M
  have sc := e_C_teams 0 x I R n
  have t18 : zup I 195 0 0 195 18 = I 195 18 := zT5 (by decide)
  rcases h.2.2 with k | ⟨L, L', P, Wk, z, m, t, k⟩
  · have sm := e_M_teams 195 x I R n
    simp only [W.k, k.2.1, zc_t, if_true] at sc
    simp only [hM.k, t18, k.2.1, zc_t, if_true] at sm
    exact zAg_ro h sc sm
  · have g := k.2.2.1
    have hP := g.1.2.1
    have hWk := g.2.1.2.1
    obtain ⟨be, mo, w, f, sw, O, u, l, a1, a2, a3, a4, a5, a6, a7, a8, a9, a10, a11, a12, a13, a14⟩ := k.2.2.2.2.2.1
    obtain ⟨I1, e1, e2, e3, k1, h1⟩ := C_prices h k a3.2.2
    simp only [W.k, W.1, k.2.1, zc_t, zr_s, if_neg (show ¬ (1 : Int32) = 0 by decide), a3.1, e1, zbV_s, Tb_sizeUnder_ok k1.1.2.2.2.2.2.1 x 0 k1.2.2.2.1.1.1 k1.2.2.2.1.1.2.1, zbI_s] at sc
    by_cases c : x < 0
    · have sm := e_M_teams 195 x I R n
      simp only [hM.k, t18, k.2.1, zc_t, if_neg (show ¬ (1 : Int32) = 0 by decide), if_pos c] at sm
      rw [if_pos c] at sc
      exact zAg_ro h sc sm
    · have kJ := zLea_t k1 0
      have sm := e_M_teams 195 x I1 R n
      simp only [hM.k, zc_t, kJ.2.1, if_neg (show ¬ (1 : Int32) = 0 by decide), if_neg c, M_teamsUnder_ok hM kJ.2.2.2.1.2.1 hP kJ.2.2.1.1.2.2.2, zbI_s] at sm
      rw [if_neg c] at sc
      refine zAg_w (I2 := zup I1 195 0 0) sc ?_ h1 zt_ir0
      rw [zct_ext (q := fun k => !(decide (x < mPr (zup I1 195 0 0) P (t k)))) (fun j hj => by
        rw [zPr_eq k1 (show I1 10 4 = nI w by rw [e3 _ _ (by decide) (by decide)]; exact a3.1) (by omega), e2 j hj, Int32.and_zero, decide_eq_true rfl, Bool.and_true])]
      exact sm
end LTb
