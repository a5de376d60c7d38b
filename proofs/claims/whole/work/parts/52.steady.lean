/-! ===== the steadiest team ===== -/
section LSt
variable {I : ZI} {R : ZR} {n L : Nat}
def zWo (W : Nat → Int32) (o : Option Nat) : Int32 := match o with
  | none => -100000000
  | some b => W b
theorem Tb_steadiest_ok (hT : WT R n L) (hL : WL R n L) {m P w0 Wk : Nat} {t : Nat → Nat} (l : Int32) (ht : zTm I m t) (hP : P ≤ 16) (hp : I L 8 = nI P) (hW : I (L + 2) 2 = nI Wk) (hWk : Wk ≤ 6) (h0 : w0 < Wk) (hlow : ∀ w k, w < Wk → k < P → (-100000000 : Int32) < I (L + 8 + w) k) (hne : ∀ k w, k < m → w < 6 → zcap (t k) (I (L + 8 + w)) P ≠ none) (hbig : ∀ k, k < m → (-100000000 : Int32) < zmnW (fun w => zwith (t k) (I (L + 8 + w)) P) w0 (Wk - w0 - 1)) : ∃ I', Tb_steadiest 4 l (nI w0) I R n = some (some (.int (zo (zcapc (fun k => !(decide (l < I 219 k))) (fun k => zmnW (fun w => zwith (t k) (I (L + 8 + w)) P) w0 (Wk - w0 - 1)) m))), I', R, n) ∧ I' 4 12 = zWo (fun k => zmnW (fun w => zwith (t k) (I (L + 8 + w)) P) w0 (Wk - w0 - 1)) (zcapc (fun k => !(decide (l < I 219 k))) (fun k => zmnW (fun w => zwith (t k) (I (L + 8 + w)) P) w0 (Wk - w0 - 1)) m) ∧ ∀ b j, (b = 4 → j ≠ 12) → I' b j = I b j := by
  have hLb : 151 ≤ L ∧ L + 22 ≤ 195 := by rcases hL.2.1 with rfl | rfl <;> decide
  obtain ⟨h6, hm, hk2⟩ := ht
  generalize hc : (fun k => !(decide (l < I 219 k))) = c
  generalize hV : (fun k => zmnW (fun w => zwith (t k) (I (L + 8 + w)) P) w0 (Wk - w0 - 1)) = W
  have hVk : ∀ k, zmnW (fun w => zwith (t k) (I (L + 8 + w)) P) w0 (Wk - w0 - 1) = W k := fun k => by rw [← hV]
  have hck : ∀ k, c k = !(decide (l < I 219 k)) := fun k => by rw [← hc]
  have hlowW : ∀ k, k < m → (-100000000 : Int32) < W k := fun k hk => by rw [← hVk]; exact hbig k hk
  have key : ∀ k, k ≤ m → ∃ J, Tb_steadiest_11 4 l (nI w0) (-1) (nI 0) (zup I 4 12 (-100000000)) R n = Tb_steadiest_11 4 l (nI w0) (zo (zcapc c W k)) (nI k) J R n ∧ J 4 12 = zWo W (zcapc c W k) ∧ ∀ b j, (b = 4 → j ≠ 12) → J b j = I b j := by
    intro k
    induction k with
    | zero =>
      intro _
      refine ⟨_, rfl, zup_s _ _ _ _, ?_⟩
      intro b j hb
      by_cases z : b = 4
      · rw [zup_k _ (hb z)]
      · rw [zup_n _ z]
    | succ k ih =>
      intro hk
      obtain ⟨J, e, a1, a2⟩ := ih (by omega)
      obtain ⟨s1, s2, s3⟩ := hk2 k (by omega)
      have j6 : J 4 6 = nI m := by rw [a2 _ _ (fun _ => by decide), h6]
      have jp : J L 8 = nI P := by rw [a2 _ _ (fun q => by omega), hp]
      have jW : J (L + 2) 2 = nI Wk := by rw [a2 _ _ (fun q => by omega), hW]
      have j218 : J 218 k = nI (t k) := by rw [a2 _ _ (fun q => absurd q (by decide)), s1]
      have j219 : J 219 k = I 219 k := a2 _ _ (fun q => absurd q (by decide))
      have jr : ∀ w, J (L + 8 + w) = I (L + 8 + w) := fun w => funext fun j => a2 _ _ (fun q => by omega)
      have notlow : ∀ k', k' ≤ m → ¬ zWo W (zcapc c W k') < (-100000000 : Int32) := by
        intro k' hk'
        cases hz : zcapc c W k' with
        | none => show ¬ (-100000000 : Int32) < -100000000; decide
        | some b =>
          have hb := (zcapc_lt hz).1
          have := hlowW b (by omega)
          show ¬ W b < _
          rw [Int32.lt_iff_toInt_lt] at *
          omega
      have st := e_Tb_steadiest_11 4 l (nI w0) (zo (zcapc c W k)) (nI k) J R n
      simp only [hT.k, hT.r, zc_t, zr_s, j6, if_pos (nI_lt (show k < m by omega) (show m < 2 ^ 31 by omega)), zinT (show k < 3136 by omega), zix_nI (show k < 2 ^ 31 by omega), Bool.true_or, Bool.true_and, j218, j219, a1] at st
      by_cases q : l < I 219 k
      · have ck : c k = false := by rw [hck, decide_eq_true q]; rfl
        rw [if_pos q, e_Tb_steadiest_52] at st
        simp only [hT.k, zc_t, a1, if_neg (notlow k (by omega)), nI_1] at st
        have ez : zcapc c W (k + 1) = zcapc c W k := by rw [zcapc_succ, ck]; rfl
        rw [ez]
        exact ⟨J, e.trans st, a1, a2⟩
      · have ck : c k = true := by rw [hck, decide_eq_false q]; rfl
        obtain ⟨v, ev, hv⟩ := Tb_leastScore_ok hT hL (I := J) (zWo W (zcapc c W k)) s2 s3 hP jp jW hWk h0 (fun w i hw hi => by rw [jr]; exact hlow w i hw hi) (fun w hw => by rw [jr]; exact hne k w (by omega) hw)
        have ef : (fun w => zwith (t k) (J (L + 8 + w)) P) = (fun w => zwith (t k) (I (L + 8 + w)) P) := funext fun w => by rw [jr]
        rw [ef, hVk] at hv
        rw [if_neg q, ev, zbI_s, e_Tb_steadiest_52] at st
        simp only [hT.k, zc_t, a1, nI_1] at st
        rcases hv with ⟨v1, v2⟩ | ⟨v1, v2⟩
        · rw [v2, if_pos v1] at st
          have ez : zcapc c W (k + 1) = some k := by
            rw [zcapc_succ, ck]
            cases hz : zcapc c W k with
            | none => rfl
            | some b =>
              rw [hz] at v1
              have : W b < W k := v1
              simp [this]
          rw [ez]
          refine ⟨_, e.trans st, zup_s _ _ _ _, ?_⟩
          intro b j hb
          by_cases z : b = 4
          · rw [zup_k _ (hb z)]; exact a2 b j hb
          · rw [zup_n _ z]; exact a2 b j hb
        · rw [if_neg v2] at st
          have ez : zcapc c W (k + 1) = zcapc c W k := by
            rw [zcapc_succ, ck]
            cases hz : zcapc c W k with
            | none => rw [hz] at v1; exact absurd (hlowW k (by omega)) v1
            | some b =>
              rw [hz] at v1
              have : ¬ W b < W k := v1
              simp [this]
          rw [ez]
          exact ⟨J, e.trans st, a1, a2⟩
  obtain ⟨J, e, a1, a2⟩ := key m (Nat.le_refl _)
  rw [nI_0] at e
  have j6 : J 4 6 = nI m := by rw [a2 _ _ (fun _ => by decide), h6]
  have st := e_Tb_steadiest_11 4 l (nI w0) (zo (zcapc c W m)) (nI m) J R n
  simp only [hT.k, zc_t, j6] at st
  rw [if_neg (nI_nlt (Nat.le_refl _) (by omega))] at st
  refine ⟨J, ?_, a1, a2⟩
  rw [e_Tb_steadiest]
  simp only [hT.k, zc_t]
  exact e.trans st
theorem M_steady41_ok (h : WM R n) {m P w0 Wk : Nat} {t : Nat → Nat} (l x : Int32) (ht : zTmM I m t) (hP : P ≤ 16) (hp : I 195 17 = nI P) (hW : I 198 6 = nI Wk) (hWk : Wk ≤ 6) (hw0 : I 208 9 = nI w0) (h0 : w0 < Wk) (hne : ∀ k w, k < m → w < 6 → zcap (t k) (fun i => I 206 (6 * i + w)) P ≠ none) : M_steady_41 195 l x (-1) 0 I R n = some (some (.int (match zcapc (fun k => !(decide (l < mPr I P (t k)))) (fun k => zmnW (fun w => mSc I P w (t k)) w0 (Wk - w0 - 1)) m with
    | none => -1000000
    | some b => if x = 1 then nI (t b) else zmnW (fun w => mSc I P w (t b)) w0 (Wk - w0 - 1))), I, R, n) := by
  obtain ⟨h20, hm, hk2⟩ := ht
  have lp : ∀ k, k < m → M_leastPoints 195 (nI (t k)) I R n = some (some (.int (zmnW (fun w => mSc I P w (t k)) w0 (Wk - w0 - 1))), I, R, n) := fun k hk => M_leastPoints_ok h (hk2 k hk).2.1 hP hp hW hWk hw0 h0 (fun w hw => hne k w hk hw)
  generalize hc : (fun k => !(decide (l < mPr I P (t k)))) = c
  generalize hV : (fun k => zmnW (fun w => mSc I P w (t k)) w0 (Wk - w0 - 1)) = W
  have hVk : ∀ k, zmnW (fun w => mSc I P w (t k)) w0 (Wk - w0 - 1) = W k := fun k => by rw [← hV]
  have hck : ∀ k, c k = !(decide (l < mPr I P (t k))) := fun k => by rw [← hc]
  have key : ∀ k, k ≤ m → M_steady_41 195 l x (-1) (nI 0) I R n = M_steady_41 195 l x (zot t (zcapc c W k)) (nI k) I R n := by
    intro k
    induction k with
    | zero => intro _; rfl
    | succ k ih =>
      intro hk
      obtain ⟨s1, s2, s3⟩ := hk2 k (by omega)
      rw [ih (by omega)]
      have st := e_M_steady_41 195 l x (zot t (zcapc c W k)) (nI k) I R n
      simp only [h.k, h.2, zc_t, zr_s, h20, if_pos (nI_lt (show k < m by omega) (show m < 2 ^ 31 by omega)), zin207 (show k < 3136 by omega), zix_nI (show k < 2 ^ 31 by omega), Bool.true_or, Bool.true_and, nI_1, s1, M_pricesOf_ok2 h s2 hP hp, zbI_s, lp k (by omega), hVk] at st
      rw [st, zcapc_succ, hck]
      by_cases q : l < mPr I P (t k)
      · simp [q]
      · rw [if_neg q, decide_eq_false q]
        simp only [Bool.not_false, if_true]
        cases hz : zcapc c W k with
        | none => rw [if_pos (show zot t none = -1 from rfl)]; rfl
        | some b =>
          have hb := (zcapc_lt hz).1
          have hbt := (hk2 b (by omega)).2.1
          rw [if_neg (show ¬ zot t (some b) = -1 from zo_ne (by omega))]
          show zbI (M_leastPoints 195 (nI (t b)) I R n) _ = _
          rw [lp b (by omega), zbI_s, hVk]
          simp only [h.k, h.2, zc_t, zr_s, zin207 (show k < 3136 by omega), Bool.true_or, Bool.true_and, s1]
          by_cases q2 : W b < W k
          · simp [q2, zot]
          · simp [q2, zot]
  rw [nI_0] at key
  rw [key m (Nat.le_refl _), e_M_steady_41]
  simp only [h.k, zc_t, h20]
  rw [if_neg (nI_nlt (Nat.le_refl _) (by omega))]
  cases hz : zcapc c W m with
  | none => rw [if_pos (show zot t none = -1 from rfl)]
  | some b =>
    have hb := (zcapc_lt hz).1
    have hbt := (hk2 b hb).2.1
    rw [if_neg (show ¬ zot t (some b) = -1 from zo_ne (by omega))]
    show (if x = 1 then _ else zbI (M_leastPoints 195 (nI (t b)) I R n) _) = _
    rw [lp b hb, zbI_s]
    by_cases q : x = 1
    · simp [q, zot]
    · simp [q]
end LSt
