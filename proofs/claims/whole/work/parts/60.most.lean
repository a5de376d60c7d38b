/-! ===== the most at each price ===== -/
def zmx (pr sc : Nat → Int32) (l : Nat) : Nat → Option Int32
  | 0 => none
  | k + 1 => if pr k = nI l then some (match zmx pr sc l k with
    | none => sc k
    | some v => zmax v (sc k)) else zmx pr sc l k
theorem zmx_succ (pr sc : Nat → Int32) (l k : Nat) : zmx pr sc l (k + 1) = if pr k = nI l then some (match zmx pr sc l k with
    | none => sc k
    | some v => zmax v (sc k)) else zmx pr sc l k := rfl
def zgd (d : Int32) (o : Option Int32) : Int32 := match o with
  | none => d
  | some v => v
section LMo
variable {I : ZI} {R : ZR} {n L : Nat}
theorem zin222 {p : Nat} (h : p < 595) : zin 222 (nI p) = true := zin_nI (by show _ < 595; omega) (by omega)
theorem zin212 {p : Nat} (h : p < 595) : zin 212 (nI p) = true := zin_nI (by show _ < 595; omega) (by omega)
theorem Tb_climb11_ok (hT : WT R n L) (x : Int64) {m : Nat} (h6 : I 4 6 = nI m) (hm : m ≤ 3136) (hpr : ∀ k, k < m → ∃ p, p < 595 ∧ I 219 k = nI p) (hsc : ∀ k, k < m → (-100000000 : Int32) < I 220 k) : ∃ J, Tb_climb 4 x I R n = Tb_climb_86 4 x 0 0 (zup J 4 11 (-100000000)) R n ∧ (∀ l, l < 595 → J 222 l = zgd (-100000000) (zmx (I 219) (I 220) l m)) ∧ ∀ b j, b ≠ 222 → J b j = I b j := by
  obtain ⟨I1, e1, f1, g1⟩ := J_fill_ok (I := I) (R := R) (n := n) (a := 222) (N := 595) hT.k.2.2.2.2.2 (by decide) (by decide) (-100000000)
  have key : ∀ k, k ≤ m → ∃ J, Tb_climb_11 4 x (nI 0) I1 R n = Tb_climb_11 4 x (nI k) J R n ∧ (∀ l, l < 595 → J 222 l = zgd (-100000000) (zmx (I 219) (I 220) l k)) ∧ ∀ b j, b ≠ 222 → J b j = I b j := by
    intro k
    induction k with
    | zero => intro _; exact ⟨I1, rfl, fun l hl => f1 l hl, g1⟩
    | succ k ih =>
      intro hk
      obtain ⟨J, e, a1, a2⟩ := ih (by omega)
      obtain ⟨p, hp, ep⟩ := hpr k (by omega)
      have hs := hsc k (by omega)
      have j6 : J 4 6 = nI m := by rw [a2 _ _ (by decide), h6]
      have j19 : J 219 k = nI p := by rw [a2 _ _ (by decide), ep]
      have j20 : J 220 k = I 220 k := a2 _ _ (by decide)
      have e594 : (594 : Int32) = nI 594 := by decide
      have n594 : ¬ (594 : Int32) < nI p := by rw [e594]; exact nI_nlt (by omega) (by omega)
      have st := e_Tb_climb_11 4 x (nI k) J R n
      simp only [hT.k, hT.r, zc_t, zr_s, j6, if_pos (nI_lt (show k < m by omega) (show m < 2 ^ 31 by omega)), zinT (show k < 3136 by omega), zix_nI (show k < 2 ^ 31 by omega), Bool.true_or, Bool.true_and, j19, j20, if_neg (nI_pos (show p < 2 ^ 31 by omega)), if_neg n594, zin222 hp, zix_nI (show p < 2 ^ 31 by omega), a1 p hp, nI_1] at st
      have other : ∀ l, l < 595 → l ≠ p → zmx (I 219) (I 220) l (k + 1) = zmx (I 219) (I 220) l k := fun l hl hlp => by
        rw [zmx_succ, ep, if_neg (fun q => hlp ((nI_eq (by omega) (by omega)).mp q).symm)]
      have here : zmx (I 219) (I 220) p (k + 1) = some (match zmx (I 219) (I 220) p k with
          | none => I 220 k
          | some v => zmax v (I 220 k)) := by rw [zmx_succ, if_pos ep]
      by_cases q : zgd (-100000000) (zmx (I 219) (I 220) p k) < I 220 k
      · rw [if_pos q] at st
        refine ⟨_, e.trans st, ?_, ?_⟩
        · intro l hl
          by_cases z : l = p
          · rw [z, zup_s, here]
            cases hz : zmx (I 219) (I 220) p k with
            | none => rfl
            | some v =>
              rw [hz] at q
              have q' : v < I 220 k := q
              show _ = zmax v (I 220 k)
              unfold zmax; rw [if_pos q']
          · rw [zup_k _ z, other l hl z]; exact a1 l hl
        · intro b j hb; rw [zup_n _ hb]; exact a2 b j hb
      · rw [if_neg q] at st
        refine ⟨J, e.trans st, ?_, a2⟩
        intro l hl
        by_cases z : l = p
        · rw [z, here, a1 p hp]
          cases hz : zmx (I 219) (I 220) p k with
          | none => rw [hz] at q; exact absurd hs q
          | some v =>
            rw [hz] at q
            have q' : ¬ v < I 220 k := q
            show v = zmax v (I 220 k)
            unfold zmax; rw [if_neg q']
        · rw [other l hl z]; exact a1 l hl
  obtain ⟨J, e, a1, a2⟩ := key m (Nat.le_refl _)
  rw [nI_0] at e
  refine ⟨J, ?_, a1, a2⟩
  rw [e_Tb_climb]
  simp only [hT.k, hT.r, zc_t, zr_s, e1, zbV_s]
  rw [e, e_Tb_climb_11]
  simp only [hT.k, zc_t, a2 4 6 (by decide), h6]
  rw [if_neg (nI_nlt (Nat.le_refl _) (by omega))]
theorem M_laysMost_ok (h : WM R n) {m P w : Nat} {t : Nat → Nat} (ht : zTmM I m t) (hP : P ≤ 16) (hp17 : I 195 17 = nI P) (hw : w < 6) (hne : ∀ k, k < m → zcap (t k) (fun i => I 206 (6 * i + w)) P ≠ none) (hpr : ∀ k, k < m → ∃ p, p < 595 ∧ mPr I P (t k) = nI p) (hsc : ∀ k, k < m → (-1000000 : Int32) < mSc I P w (t k)) : ∃ J, M_laysMost 195 (nI w) I R n = some (none, J, R, n) ∧ (∀ l, l < 595 → J 212 l = zgd (-1000000) (zmx (fun k => mPr I P (t k)) (fun k => mSc I P w (t k)) l m)) ∧ ∀ b j, b ≠ 212 → J b j = I b j := by
  obtain ⟨h20, hm, hk2⟩ := ht
  have e594 : (594 : Int32) = nI 594 := by decide
  have fill : ∀ k, k ≤ 595 → ∃ J, M_laysMost_2 195 (nI w) (nI 0) I R n = M_laysMost_2 195 (nI w) (nI k) J R n ∧ (∀ l, l < k → J 212 l = -1000000) ∧ ∀ b j, b ≠ 212 → J b j = I b j := by
    intro k
    induction k with
    | zero => intro _; exact ⟨I, rfl, fun l hl => by omega, fun _ _ _ => rfl⟩
    | succ k ih =>
      intro hk
      obtain ⟨J, e, a1, a2⟩ := ih (by omega)
      have st := e_M_laysMost_2 195 (nI w) (nI k) J R n
      rw [e594, if_neg (nI_nlt (show k ≤ 594 by omega) (by omega))] at st
      simp only [h.k, h.2, zc_t, zr_s, zin212 (show k < 595 by omega), Bool.true_and, zix_nI (show k < 2 ^ 31 by omega), nI_1] at st
      refine ⟨_, e.trans st, ?_, ?_⟩
      · intro l hl
        by_cases z : l = k
        · rw [z, zup_s]
        · rw [zup_k _ z]; exact a1 l (by omega)
      · intro b j hb; rw [zup_n _ hb]; exact a2 b j hb
  obtain ⟨I1, e1, f1, g1⟩ := fill 595 (Nat.le_refl _)
  have key : ∀ k, k ≤ m → ∃ J, M_laysMost_25 195 (nI w) (nI 0) I1 R n = M_laysMost_25 195 (nI w) (nI k) J R n ∧ (∀ l, l < 595 → J 212 l = zgd (-1000000) (zmx (fun k => mPr I P (t k)) (fun k => mSc I P w (t k)) l k)) ∧ ∀ b j, b ≠ 212 → J b j = I b j := by
    intro k
    induction k with
    | zero => intro _; exact ⟨I1, rfl, fun l hl => f1 l hl, g1⟩
    | succ k ih =>
      intro hk
      obtain ⟨J, e, a1, a2⟩ := ih (by omega)
      obtain ⟨s1, s2, s3⟩ := hk2 k (by omega)
      obtain ⟨p, hp, ep⟩ := hpr k (by omega)
      have hs := hsc k (by omega)
      have j20 : J 195 20 = nI m := by rw [a2 _ _ (by decide), h20]
      have j17 : J 195 17 = nI P := by rw [a2 _ _ (by decide), hp17]
      have js : J 207 k = nI (t k) := by rw [a2 _ _ (by decide), s1]
      have j8 : J 208 = I 208 := funext fun j => a2 _ _ (by decide)
      have j6 : J 206 = I 206 := funext fun j => a2 _ _ (by decide)
      have p1 : M_pricesOf 195 (nI (t k)) J R n = some (some (.int (nI p)), J, R, n) := by
        rw [M_pricesOf_ok2 h s2 hP j17, ← ep]; unfold mPr; rw [j8]
      have p2 : M_withBest 195 (nI (t k)) (nI w) J R n = some (some (.int (mSc I P w (t k))), J, R, n) := by
        rw [M_withBest_ok h (show t k < 2 ^ 31 by omega) hP j17 hw (by rw [j6]; exact hne k (by omega))]; unfold mSc; rw [j6]
      have st := e_M_laysMost_25 195 (nI w) (nI k) J R n
      simp only [h.k, h.2, zc_t, zr_s, j20, if_pos (nI_lt (show k < m by omega) (show m < 2 ^ 31 by omega)), zin207 (show k < 3136 by omega), zix_nI (show k < 2 ^ 31 by omega), Bool.true_or, Bool.true_and, js, p1, p2, zbI_s, zin212 hp, zix_nI (show p < 2 ^ 31 by omega), a1 p hp, nI_1] at st
      refine ⟨_, e.trans st, ?_, ?_⟩
      · intro l hl
        rw [zmx_succ, ep]
        by_cases z : l = p
        · rw [z, zup_s, if_pos rfl]
          cases hz : zmx (fun k => mPr I P (t k)) (fun k => mSc I P w (t k)) p k with
          | none =>
            show zmax (-1000000) (mSc I P w (t k)) = mSc I P w (t k)
            unfold zmax; rw [if_pos hs]
          | some v => rfl
        · rw [zup_k _ z, if_neg (fun q => z ((nI_eq (by omega) (by omega)).mp q).symm)]; exact a1 l hl
      · intro b j hb; rw [zup_n _ hb]; exact a2 b j hb
  obtain ⟨J, e, a1, a2⟩ := key m (Nat.le_refl _)
  rw [nI_0] at e e1
  refine ⟨J, ?_, a1, a2⟩
  rw [e_M_laysMost, e1, e_M_laysMost_2, if_pos (by decide), e, e_M_laysMost_25]
  simp only [h.k, zc_t, a2 195 20 (by decide), h20]
  rw [if_neg (nI_nlt (Nat.le_refl _) (by omega))]
end LMo
