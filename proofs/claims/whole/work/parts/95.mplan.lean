/-! ===== the reference's choices and numbers of a plan ===== -/
def zsta (w b f u : Nat) : Nat := ((w * 41 + b) * 3 + f) * 8 + u
section LMp
variable {I : ZI} {R : ZR} {n : Nat}
theorem M_stateAt_ok {w b f u : Nat} {x0 x1 x2 x3 : Int32} (e0 : x0 = nI w) (e1 : x1 = nI b) (e2 : x2 = nI f) (e3 : x3 = nI u) : M_stateAt x0 x1 x2 x3 I R n = some (some (.int (nI (zsta w b f u))), I, R, n) := by
  have t1 : (41 : Int32) = nI 41 := by decide
  have t2 : (3 : Int32) = nI 3 := by decide
  have t3 : (8 : Int32) = nI 8 := by decide
  rw [e_M_stateAt, e0, e1, e2, e3, t1, t2, t3, pk_mul, nI_add, pk_mul, nI_add, pk_mul, nI_add]
  rfl
theorem zfb_M {f s : Nat} (hf1 : 1 ≤ f) (hf2 : f ≤ 2) (hs : s < 2 ^ 30) : zmin 2 (zmax 0 (nI f - nI s) + 1) = nI (if s < f then 2 else 1) := by
  rw [zmx0 (by omega) hs, nI_1]
  unfold zmin
  have t2 : (2 : Int32) = nI 2 := by decide
  rw [t2]
  by_cases c : s < f
  · rw [if_neg (nI_nlt (show 2 ≤ f - s + 1 by omega) (by omega)), if_pos c]
  · rw [if_pos (nI_lt (show f - s + 1 < 2 by omega) (by decide)), if_neg c, show f - s + 1 = 1 by omega]
theorem M_laysChoices12_ok (h : WM R n) {m P : Nat} {t : Nat → Nat} (ht : zTmM I m t) (hP : P ≤ 16) (hp : I 195 17 = nI P) (x : Int32) (hN : zct (fun k => !(decide (x < mPr I P (t k)))) m ≤ 40) : ∃ J, M_laysChoices_12 195 x (nI 0) (zup I 195 32 0) R n = some (none, J, R, n) ∧ J 195 32 = nI (zct (fun k => !(decide (x < mPr I P (t k)))) m) ∧ (∀ k, k < zct (fun k => !(decide (x < mPr I P (t k)))) m → J 214 k = nI (zChs m (fun k => !(decide (x < mPr I P (t k)))) t k)) ∧ ∀ b j, b ≠ 214 → (b = 195 → j ≠ 32) → J b j = I b j := by
  have t40 : (40 : Int32) = nI 40 := by decide
  have hm := ht.2.1
  generalize hcd : (fun k => !(decide (x < mPr I P (t k)))) = cd at hN ⊢
  have key : ∀ k, k ≤ m → ∃ J, ((M_laysChoices_12 195 x (nI 0) (zup I 195 32 0) R n = M_laysChoices_12 195 x (nI k) J R n) ∨ (zct cd k = 40 ∧ M_laysChoices_12 195 x (nI 0) (zup I 195 32 0) R n = some (none, J, R, n))) ∧ J 195 32 = nI (zct cd k) ∧ (∀ i, i < k → cd i = true → J 214 (zct cd i) = nI (t i)) ∧ ∀ b j, b ≠ 214 → (b = 195 → j ≠ 32) → J b j = I b j := by
    intro k
    induction k with
    | zero =>
      intro _
      refine ⟨_, Or.inl rfl, by rw [zup_s]; exact nI_0.symm, fun i hi => by omega, fun b j h1 h2 => ?_⟩
      by_cases z : b = 195
      · rw [zup_k _ (h2 z)]
      · rw [zup_n _ z]
    | succ k ih =>
      intro hk
      obtain ⟨J, e, a1, a2, a3⟩ := ih (by omega)
      have hz := zct_mono cd (show k + 1 ≤ m by omega)
      have hz2 := zct_mono cd (show k ≤ k + 1 by omega)
      have zle : zct cd k ≤ 40 := by omega
      by_cases c40 : zct cd k = 40
      · have es : zct cd (k + 1) = zct cd k := by omega
        have cf : cd k = false := by
          rw [zct_succ] at es
          cases q : cd k with
          | false => rfl
          | true => rw [q, if_pos rfl] at es; omega
        refine ⟨J, Or.inr ⟨by omega, ?_⟩, by rw [es]; exact a1, fun i hi ho => ?_, a3⟩
        · rcases e with e | e
          · rw [e, e_M_laysChoices_12]
            simp only [h.k, zc_t, a3 195 20 (by decide) (by decide), ht.1, if_pos (nI_lt (show k < m by omega) (show m < 2 ^ 31 by omega)), a1, c40]
            rw [t40, if_neg (nI_nlt (Nat.le_refl _) (by decide))]
          · exact e.2
        · by_cases z : i = k
          · subst z; rw [cf] at ho; cases ho
          · exact a2 i (by omega) ho
      · have e' : M_laysChoices_12 195 x (nI 0) (zup I 195 32 0) R n = M_laysChoices_12 195 x (nI k) J R n := by
          rcases e with e | e
          · exact e
          · exact absurd e.1 c40
        have t7 := ht.2.2 k (by omega)
        have jp : J 195 17 = nI P := by rw [a3 _ _ (by decide) (by decide)]; exact hp
        have pr : mPr J P (t k) = mPr I P (t k) := by
          unfold mPr
          exact zsum_congr (fun i _ _ => a3 208 (11 + i) (by decide) (by omega))
        have po := M_pricesOf_ok2 (I := J) (R := R) (n := n) h t7.2.1 hP jp
        rw [pr] at po
        have i1 : zin 214 (nI (zct cd k)) = true := zin_nI (by show _ < 40; omega) (by omega)
        have st := e_M_laysChoices_12 195 x (nI k) J R n
        simp only [h.k, h.2, zc_t, zr_s, a3 195 20 (by decide) (by decide), ht.1, if_pos (nI_lt (show k < m by omega) (show m < 2 ^ 31 by omega)), a1, t40, if_pos (nI_lt (show zct cd k < 40 by omega) (show 40 < 2 ^ 31 by decide)), zin207 (show k < 3136 by omega), Bool.true_or, Bool.true_and, zix_nI (show k < 2 ^ 31 by omega), a3 207 k (by decide) (by omega), t7.1, po, zbI_s, i1, zix_nI (show zct cd k < 2 ^ 31 by omega), zup_n 32 (show (195 : Nat) ≠ 214 by decide), nI_1] at st
        have cv : cd k = !(decide (x < mPr I P (t k))) := by rw [← hcd]
        by_cases c : x < mPr I P (t k)
        · rw [if_pos c] at st
          rw [decide_eq_true c] at cv
          have es : zct cd (k + 1) = zct cd k := by rw [zct_succ, cv]; rfl
          refine ⟨J, Or.inl (e'.trans st), by rw [es]; exact a1, fun i hi ho => ?_, a3⟩
          by_cases z : i = k
          · subst z; rw [cv] at ho; cases ho
          · exact a2 i (by omega) ho
        · rw [if_neg c] at st
          rw [decide_eq_false c] at cv
          have es : zct cd (k + 1) = zct cd k + 1 := by rw [zct_succ, cv]; rfl
          refine ⟨_, Or.inl (e'.trans st), by rw [zup_s, es], fun i hi ho => ?_, fun b j h1 h2 => ?_⟩
          · rw [zup_n _ (by decide)]
            by_cases z : i = k
            · subst z; rw [zup_s]
            · have := zct_lt cd (show i < k by omega) ho
              rw [zup_k _ (by omega)]; exact a2 i (by omega) ho
          · by_cases z : b = 195
            · rw [zup_k _ (h2 z), zup_n _ h1, a3 b j h1 h2]
            · rw [zup_n _ z, zup_n _ h1, a3 b j h1 h2]
  obtain ⟨J, e, a1, a2, a3⟩ := key m (Nat.le_refl _)
  refine ⟨J, ?_, a1, fun k hk => ?_, a3⟩
  · rcases e with e | e
    · rw [e, e_M_laysChoices_12]
      simp only [h.k, zc_t, a3 195 20 (by decide) (by decide), ht.1]
      rw [if_neg (nI_nlt (Nat.le_refl _) (by omega))]
    · exact e.2
  · obtain ⟨i, q1, q2, q3, q4⟩ := zChs_ex t hk
    rw [q4, ← q3]
    exact a2 i q1 q2
end LMp
