/-! ===== the reference's questions over its teams ===== -/
def zTmM (I : ZI) (m : Nat) (t : Nat → Nat) : Prop := I 195 20 = nI m ∧ m ≤ 3136 ∧ ∀ k, k < m → I 207 k = nI (t k) ∧ t k < 65536 ∧ t k ≠ 0
/-- price, points of a set in the reference -/
def mPr (I : ZI) (P S : Nat) : Int32 := zsum S (fun i => I 208 (11 + i)) P
def mSc (I : ZI) (P w S : Nat) : Int32 := zwith S (fun i => I 206 (6 * i + w)) P
def mTo (I : ZI) (P S : Nat) : Int32 := zsum S (I 205) P
theorem zin207 {k : Nat} (h : k < 3136) : zin 207 (nI k) = true := zin_nI (by show _ < 8008; omega) (by omega)
section LMT
variable {I : ZI} {R : ZR} {n : Nat}
theorem M_pricesOf_ok2 (h : WM R n) {S P : Nat} (hS : S < 65536) (hP : P ≤ 16) (hp : I 195 17 = nI P) : M_pricesOf 195 (nI S) I R n = some (some (.int (mPr I P S)), I, R, n) := M_pricesOf_ok h (by omega) hP hp
theorem M_teamsUnder_ok (h : WM R n) {m P : Nat} {t : Nat → Nat} (ht : zTmM I m t) (hP : P ≤ 16) (hp : I 195 17 = nI P) (l : Int32) : M_teamsUnder 195 l I R n = some (some (.int (nI (zct (fun k => !(decide (l < mPr I P (t k)))) m))), I, R, n) := by
  obtain ⟨h20, hm, hk2⟩ := ht
  rw [e_M_teamsUnder]
  have key : ∀ k, k ≤ m → M_teamsUnder_4 195 l (nI 0) (nI 0) I R n = M_teamsUnder_4 195 l (nI (zct (fun k => !(decide (l < mPr I P (t k)))) k)) (nI k) I R n := by
    intro k
    induction k with
    | zero => intro _; rfl
    | succ k ih =>
      intro hk
      obtain ⟨s1, s2, s3⟩ := hk2 k (by omega)
      rw [ih (by omega), e_M_teamsUnder_4]
      simp only [h.k, h.2, zc_t, zr_s, h20, if_pos (nI_lt (show k < m by omega) (show m < 2 ^ 31 by omega)), zin207 (show k < 3136 by omega), zix_nI (show k < 2 ^ 31 by omega), Bool.true_or, Bool.true_and, nI_1, s1, M_pricesOf_ok2 h s2 hP hp, zbI_s, Int32.add_zero, zct_succ]
      by_cases q : l < mPr I P (t k)
      · simp [q]
      · simp [q]
  rw [nI_0] at key
  rw [key m (Nat.le_refl _), e_M_teamsUnder_4]
  simp only [h.k, zc_t, h20]
  rw [if_neg (nI_nlt (Nat.le_refl _) (by omega))]
def zot (t : Nat → Nat) (o : Option Nat) : Int32 := match o with
  | none => -1
  | some b => nI (t b)
theorem M_bestTeam_ok (h : WM R n) {m P w : Nat} {t : Nat → Nat} (ht : zTmM I m t) (hP : P ≤ 16) (hp : I 195 17 = nI P) (hw : w < 6) (hne : ∀ k, k < m → zcap (t k) (fun i => I 206 (6 * i + w)) P ≠ none) (l : Int32) : ∃ I', M_bestTeam 195 (nI w) l I R n = some (some (.int (zot t (zcapc (fun k => !(decide (l < mPr I P (t k)))) (fun k => mSc I P w (t k)) m))), I', R, n) ∧ (∀ b, zcapc (fun k => !(decide (l < mPr I P (t k)))) (fun k => mSc I P w (t k)) m = some b → I' 195 27 = mSc I P w (t b)) ∧ ∀ b j, (b = 195 → j ≠ 27) → I' b j = I b j := by
  obtain ⟨h20, hm, hk2⟩ := ht
  rw [e_M_bestTeam]
  have key : ∀ k, k ≤ m → ∃ J, M_bestTeam_5 195 (nI w) l (-1) (nI 0) I R n = M_bestTeam_5 195 (nI w) l (zot t (zcapc (fun k => !(decide (l < mPr I P (t k)))) (fun k => mSc I P w (t k)) k)) (nI k) J R n ∧ (∀ b, zcapc (fun k => !(decide (l < mPr I P (t k)))) (fun k => mSc I P w (t k)) k = some b → J 195 27 = mSc I P w (t b)) ∧ ∀ b j, (b = 195 → j ≠ 27) → J b j = I b j := by
    intro k
    induction k with
    | zero => intro _; exact ⟨I, rfl, (fun b q => by cases q), fun _ _ _ => rfl⟩
    | succ k ih =>
      intro hk
      obtain ⟨J, e, a1, a2⟩ := ih (by omega)
      obtain ⟨s1, s2, s3⟩ := hk2 k (by omega)
      have j20 : J 195 20 = nI m := by rw [a2 _ _ (fun _ => by decide), h20]
      have j17 : J 195 17 = nI P := by rw [a2 _ _ (fun _ => by decide), hp]
      have js : J 207 k = nI (t k) := by rw [a2 _ _ (fun q => absurd q (by decide)), s1]
      have j8 : J 208 = I 208 := funext fun j => a2 _ _ (fun q => absurd q (by decide))
      have j6 : J 206 = I 206 := funext fun j => a2 _ _ (fun q => absurd q (by decide))
      have p1 : M_pricesOf 195 (nI (t k)) J R n = some (some (.int (mPr I P (t k))), J, R, n) := by
        rw [M_pricesOf_ok2 h s2 hP j17]; unfold mPr; rw [j8]
      have p2 : M_withBest 195 (nI (t k)) (nI w) J R n = some (some (.int (mSc I P w (t k))), J, R, n) := by
        rw [M_withBest_ok h (show t k < 2 ^ 31 by omega) hP j17 hw (by rw [j6]; exact hne k (by omega))]; unfold mSc; rw [j6]
      have st := e_M_bestTeam_5 195 (nI w) l (zot t (zcapc (fun k => !(decide (l < mPr I P (t k)))) (fun k => mSc I P w (t k)) k)) (nI k) J R n
      simp only [h.k, h.2, zc_t, zr_s, j20, if_pos (nI_lt (show k < m by omega) (show m < 2 ^ 31 by omega)), zin207 (show k < 3136 by omega), zix_nI (show k < 2 ^ 31 by omega), Bool.true_or, Bool.true_and, nI_1, js, p1, p2, zbI_s] at st
      have st3 := e_M_bestTeam_63 195 (nI w) l (nI k) (mSc I P w (t k)) J R n
      simp only [h.k, h.2, zc_t, zr_s, zin207 (show k < 3136 by omega), zix_nI (show k < 2 ^ 31 by omega), Bool.true_or, Bool.true_and, nI_1, js] at st3
      by_cases q : l < mPr I P (t k)
      · rw [if_pos q] at st
        have ez : zcapc (fun k => !(decide (l < mPr I P (t k)))) (fun k => mSc I P w (t k)) (k + 1) = zcapc (fun k => !(decide (l < mPr I P (t k)))) (fun k => mSc I P w (t k)) k := by
          rw [zcapc_succ]; simp [q]
        rw [ez]
        exact ⟨J, e.trans st, a1, a2⟩
      · rw [if_neg q] at st
        have take : ∀ (ez : zcapc (fun k => !(decide (l < mPr I P (t k)))) (fun k => mSc I P w (t k)) (k + 1) = some k), M_bestTeam_5 195 (nI w) l (zot t (zcapc (fun k => !(decide (l < mPr I P (t k)))) (fun k => mSc I P w (t k)) k)) (nI k) J R n = M_bestTeam_63 195 (nI w) l (nI k) (mSc I P w (t k)) J R n → ∃ J', M_bestTeam_5 195 (nI w) l (-1) (nI 0) I R n = M_bestTeam_5 195 (nI w) l (zot t (zcapc (fun k => !(decide (l < mPr I P (t k)))) (fun k => mSc I P w (t k)) (k + 1))) (nI (k + 1)) J' R n ∧ (∀ b, zcapc (fun k => !(decide (l < mPr I P (t k)))) (fun k => mSc I P w (t k)) (k + 1) = some b → J' 195 27 = mSc I P w (t b)) ∧ ∀ b j, (b = 195 → j ≠ 27) → J' b j = I b j := by
          intro ez e2
          rw [ez]
          refine ⟨_, e.trans (e2.trans st3), ?_, ?_⟩
          · intro b hb
            cases hb
            rw [zup_s]
          · intro b j hbj
            by_cases z : b = 195
            · rw [zup_k _ (hbj z)]; exact a2 b j hbj
            · rw [zup_n _ z]; exact a2 b j hbj
        cases hz : zcapc (fun k => !(decide (l < mPr I P (t k)))) (fun k => mSc I P w (t k)) k with
        | none =>
          have ez : zcapc (fun k => !(decide (l < mPr I P (t k)))) (fun k => mSc I P w (t k)) (k + 1) = some k := by
            rw [zcapc_succ, hz]; simp [q]
          rw [hz] at st
          rw [if_pos (show zot t none = -1 from rfl)] at st
          exact take ez (by rw [hz]; exact st)
        | some b =>
          have hb := (zcapc_lt hz).1
          have hbt := (hk2 b (by omega)).2.1
          have j27 := a1 b hz
          rw [hz] at st
          rw [if_neg (show ¬ zot t (some b) = -1 from zo_ne (by omega)), j27] at st
          by_cases q2 : mSc I P w (t b) < mSc I P w (t k)
          · have ez : zcapc (fun k => !(decide (l < mPr I P (t k)))) (fun k => mSc I P w (t k)) (k + 1) = some k := by
              rw [zcapc_succ, hz]; simp [q, q2]
            rw [if_pos q2] at st
            exact take ez (by rw [hz]; exact st)
          · have ez : zcapc (fun k => !(decide (l < mPr I P (t k)))) (fun k => mSc I P w (t k)) (k + 1) = some b := by
              rw [zcapc_succ, hz]; simp [q, q2]
            rw [if_neg q2] at st
            rw [ez]
            refine ⟨J, ?_, ?_, a2⟩
            · rw [e, hz]; exact st
            · intro c hc; cases hc; exact j27
  obtain ⟨J, e, a1, a2⟩ := key m (Nat.le_refl _)
  rw [nI_0] at e
  have j20 : J 195 20 = nI m := by rw [a2 _ _ (fun _ => by decide), h20]
  have st := e_M_bestTeam_5 195 (nI w) l (zot t (zcapc (fun k => !(decide (l < mPr I P (t k)))) (fun k => mSc I P w (t k)) m)) (nI m) J R n
  simp only [h.k, zc_t, j20] at st
  rw [if_neg (nI_nlt (Nat.le_refl _) (by omega))] at st
  exact ⟨J, e.trans st, a1, a2⟩
theorem M_must38_ok (h : WM R n) {m P w : Nat} {t : Nat → Nat} (ht : zTmM I m t) (hP : P ≤ 16) (hp : I 195 17 = nI P) (hw : w < 6) (hne : ∀ k, k < m → zcap (t k) (fun i => I 206 (6 * i + w)) P ≠ none) (l x : Int32) : M_must_38 195 (nI w) l x 0 I R n = some (some (.int (zall x (fun k => !(decide (l < mPr I P (t k))) && decide (mSc I P w (t k) = I 195 27)) (I 207) m)), I, R, n) := by
  obtain ⟨h20, hm, hk2⟩ := ht
  have key : ∀ k, k ≤ m → M_must_38 195 (nI w) l x (nI 0) I R n = M_must_38 195 (nI w) l (zall x (fun k => !(decide (l < mPr I P (t k))) && decide (mSc I P w (t k) = I 195 27)) (I 207) k) (nI k) I R n := by
    intro k
    induction k with
    | zero => intro _; rfl
    | succ k ih =>
      intro hk
      obtain ⟨s1, s2, s3⟩ := hk2 k (by omega)
      have p2 : M_withBest 195 (nI (t k)) (nI w) I R n = some (some (.int (mSc I P w (t k))), I, R, n) := M_withBest_ok h (show t k < 2 ^ 31 by omega) hP hp hw (hne k (by omega))
      rw [ih (by omega), e_M_must_38]
      simp only [h.k, h.2, zc_t, zr_s, h20, if_pos (nI_lt (show k < m by omega) (show m < 2 ^ 31 by omega)), zin207 (show k < 3136 by omega), zix_nI (show k < 2 ^ 31 by omega), Bool.true_or, Bool.true_and, nI_1, s1, M_pricesOf_ok2 h s2 hP hp, p2, zbI_s, zall_succ]
      by_cases q : l < mPr I P (t k)
      · simp [q]
      · by_cases q2 : mSc I P w (t k) = I 195 27
        · simp [q, q2]
        · simp [q, q2]
  rw [nI_0] at key
  rw [key m (Nat.le_refl _), e_M_must_38]
  simp only [h.k, zc_t, h20]
  rw [if_neg (nI_nlt (Nat.le_refl _) (by omega))]
theorem M_least20_ok (h : WM R n) {m P w : Nat} {t : Nat → Nat} (ht : zTmM I m t) (hP : P ≤ 16) (hp : I 195 17 = nI P) (hw : w < 6) (hne : ∀ k, k < m → zcap (t k) (fun i => I 206 (6 * i + w)) P ≠ none) (y : Int32) : M_least_20 195 (nI w) y (-1) 0 I R n = some (some (.int (zlst (fun k => !(decide (mSc I P w (t k) < y))) (fun k => mPr I P (t k)) m)), I, R, n) := by
  obtain ⟨h20, hm, hk2⟩ := ht
  have key : ∀ k, k ≤ m → M_least_20 195 (nI w) y (-1) (nI 0) I R n = M_least_20 195 (nI w) y (zlst (fun k => !(decide (mSc I P w (t k) < y))) (fun k => mPr I P (t k)) k) (nI k) I R n := by
    intro k
    induction k with
    | zero => intro _; rfl
    | succ k ih =>
      intro hk
      obtain ⟨s1, s2, s3⟩ := hk2 k (by omega)
      have p2 : M_withBest 195 (nI (t k)) (nI w) I R n = some (some (.int (mSc I P w (t k))), I, R, n) := M_withBest_ok h (show t k < 2 ^ 31 by omega) hP hp hw (hne k (by omega))
      rw [ih (by omega), e_M_least_20]
      simp only [h.k, h.2, zc_t, zr_s, h20, if_pos (nI_lt (show k < m by omega) (show m < 2 ^ 31 by omega)), zin207 (show k < 3136 by omega), zix_nI (show k < 2 ^ 31 by omega), Bool.true_or, Bool.true_and, nI_1, s1, M_pricesOf_ok2 h s2 hP hp, p2, zbI_s, zlst_succ]
      by_cases q : mSc I P w (t k) < y
      · simp [q]
      · rw [if_neg q, decide_eq_false q]
        simp only [Bool.not_false, if_true]
        by_cases q2 : zlst (fun k => !(decide (mSc I P w (t k) < y))) (fun k => mPr I P (t k)) k = -1
        · rw [if_pos q2, if_pos q2]
        · rw [if_neg q2, if_neg q2]
          by_cases q3 : mPr I P (t k) < zlst (fun k => !(decide (mSc I P w (t k) < y))) (fun k => mPr I P (t k)) k
          · rw [if_pos q3, if_pos q3]
          · rw [if_neg q3, if_neg q3]
  rw [nI_0] at key
  rw [key m (Nat.le_refl _), e_M_least_20]
  simp only [h.k, zc_t, h20]
  rw [if_neg (nI_nlt (Nat.le_refl _) (by omega))]
theorem M_held33_ok (h : WM R n) {m P i j : Nat} {t : Nat → Nat} (ht : zTmM I m t) (hP : P ≤ 16) (hp : I 195 17 = nI P) (hi : i < 16) (hj : j < 16) (l : Int32) : M_held_33 195 l (nI i) (nI j) 0 0 I R n = some (some (.int (nI (zct (fun k => (t k).testBit i && ((t k).testBit j && !(decide (l < mPr I P (t k))))) m))), I, R, n) := by
  obtain ⟨h20, hm, hk2⟩ := ht
  have key : ∀ k, k ≤ m → M_held_33 195 l (nI i) (nI j) (nI 0) (nI 0) I R n = M_held_33 195 l (nI i) (nI j) (nI (zct (fun k => (t k).testBit i && ((t k).testBit j && !(decide (l < mPr I P (t k))))) k)) (nI k) I R n := by
    intro k
    induction k with
    | zero => intro _; rfl
    | succ k ih =>
      intro hk
      obtain ⟨s1, s2, s3⟩ := hk2 k (by omega)
      rw [ih (by omega), e_M_held_33]
      simp only [h.k, h.2, zc_t, zr_s, h20, if_pos (nI_lt (show k < m by omega) (show m < 2 ^ 31 by omega)), zin207 (show k < 3136 by omega), zix_nI (show k < 2 ^ 31 by omega), Bool.true_or, Bool.true_and, nI_1, s1, M_pricesOf_ok2 h s2 hP hp, M_has_ok (show t k < 2 ^ 31 by omega) (show i < 32 by omega), M_has_ok (show t k < 2 ^ 31 by omega) (show j < 32 by omega), zbI_s, Int32.add_zero, zct_succ]
      cases hb1 : (t k).testBit i
      · simp
      · cases hb2 : (t k).testBit j
        · simp
        · by_cases q : l < mPr I P (t k)
          · simp [q]
          · simp [q]
  rw [nI_0] at key
  rw [key m (Nat.le_refl _), e_M_held_33]
  simp only [h.k, zc_t, h20]
  rw [if_neg (nI_nlt (Nat.le_refl _) (by omega))]
end LMT
