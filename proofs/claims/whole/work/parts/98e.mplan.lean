/-! ===== the reference lays the values of one week ===== -/
def zBf (w : Nat) (I J : ZI) : Prop := ∀ q j, (q = 195 → j ≠ 33 ∧ j ≠ 34) → (q = 215 → j < zsta w 0 0 0 ∨ zsta (w + 1) 0 0 0 ≤ j) → J q j = I q j
def zDn (b f u b' f' u' : Nat) : Prop := b' < b ∨ (b' = b ∧ (f' < f ∨ (f' = f ∧ u' < u)))
theorem zsta_rng {w b f u : Nat} (hb : b ≤ 40) (hf : f ≤ 2) (hu : u < 8) : zsta w 0 0 0 ≤ zsta w b f u ∧ zsta w b f u < zsta (w + 1) 0 0 0 := by
  unfold zsta
  omega
theorem zsta_inj {w b f u b' f' u' : Nat} (hf : f ≤ 2) (hu : u < 8) (hf' : f' ≤ 2) (hu' : u' < 8) (e : zsta w b f u = zsta w b' f' u') : b = b' ∧ f = f' ∧ u = u' := by
  unfold zsta at e
  omega
section LMz
variable {I : ZI} {R : ZR} {n N w : Nat} {Q : Nat → Nat → Nat → Int32 → Prop}
theorem M_lvs94_ok (h : WM R n) {b f : Nat} (hb : b ≤ 40) (hbN : b < N ∨ b = 40) (hf : f ≤ 2) (hpt : ∀ b f u (J : ZI), b ≤ 40 → (b < N ∨ b = 40) → f ≤ 2 → u < 8 → zBf w I J → ∃ J', M_laysValue 195 (nI w) (nI b) (nI f) (nI u) J R n = some (none, J', R, n) ∧ Q b f u (J' 215 (zsta w b f u)) ∧ ∀ q j, (q = 195 → j ≠ 33 ∧ j ≠ 34) → (q = 215 → j ≠ zsta w b f u) → J' q j = J q j) : ∀ e u (J : ZI), u + e = 8 → zBf w I J → (∀ b' f' u', b' ≤ 40 → (b' < N ∨ b' = 40) → f' ≤ 2 → u' < 8 → zDn b f u b' f' u' → Q b' f' u' (J 215 (zsta w b' f' u'))) → ∃ J', M_laysValues_94 195 (nI w) (nI b) (nI f) (nI u) J R n = M_laysValues_85 195 (nI w) (nI b) (nI (f + 1)) J' R n ∧ zBf w I J' ∧ ∀ b' f' u', b' ≤ 40 → (b' < N ∨ b' = 40) → f' ≤ 2 → u' < 8 → zDn b (f + 1) 0 b' f' u' → Q b' f' u' (J' 215 (zsta w b' f' u'))
  | 0, u, J, hu, hJ, hd => by
    have t8 : (8 : Int32) = nI 8 := by decide
    have st := e_M_laysValues_94 195 (nI w) (nI b) (nI f) (nI u) J R n
    rw [t8, if_neg (nI_nlt (show 8 ≤ u by omega) (by omega)), nI_1] at st
    exact ⟨J, st, hJ, fun b' f' u' h1 h2 h3 h4 h5 => hd b' f' u' h1 h2 h3 h4 (by unfold zDn at *; omega)⟩
  | e + 1, u, J, hu, hJ, hd => by
    have t8 : (8 : Int32) = nI 8 := by decide
    obtain ⟨J1, q1, q2, q3⟩ := hpt b f u J hb hbN hf (by omega) hJ
    have st := e_M_laysValues_94 195 (nI w) (nI b) (nI f) (nI u) J R n
    rw [t8, if_pos (nI_lt (show u < 8 by omega) (by decide)), nI_1] at st
    simp only [h.k, zc_t, q1, zbV_s] at st
    have rg := zsta_rng (w := w) hb hf (show u < 8 by omega)
    obtain ⟨J', e2, f2, d2⟩ := M_lvs94_ok h hb hbN hf hpt e (u + 1) J1 (by omega) (fun q j a1 a2 => by
      rw [q3 q j a1 (fun z => by have := a2 z; omega)]
      exact hJ q j a1 a2) (fun b' f' u' h1 h2 h3 h4 h5 => by
      by_cases z : zsta w b' f' u' = zsta w b f u
      · obtain ⟨z1, z2, z3⟩ := zsta_inj h3 h4 hf (show u < 8 by omega) z
        subst z1; subst z2; subst z3
        exact q2
      · rw [q3 215 _ (fun y => absurd y (by decide)) (fun _ => z)]
        refine hd b' f' u' h1 h2 h3 h4 ?_
        have : ¬ (b' = b ∧ f' = f ∧ u' = u) := fun y => z (by rw [y.1, y.2.1, y.2.2])
        unfold zDn at *
        omega)
    exact ⟨J', st.trans e2, f2, d2⟩
theorem M_lvs85_ok (h : WM R n) {b : Nat} (hb : b ≤ 40) (hbN : b < N ∨ b = 40) (hpt : ∀ b f u (J : ZI), b ≤ 40 → (b < N ∨ b = 40) → f ≤ 2 → u < 8 → zBf w I J → ∃ J', M_laysValue 195 (nI w) (nI b) (nI f) (nI u) J R n = some (none, J', R, n) ∧ Q b f u (J' 215 (zsta w b f u)) ∧ ∀ q j, (q = 195 → j ≠ 33 ∧ j ≠ 34) → (q = 215 → j ≠ zsta w b f u) → J' q j = J q j) : ∀ e f (J : ZI), f + e = 3 → zBf w I J → (∀ b' f' u', b' ≤ 40 → (b' < N ∨ b' = 40) → f' ≤ 2 → u' < 8 → zDn b f 0 b' f' u' → Q b' f' u' (J 215 (zsta w b' f' u'))) → ∃ J', M_laysValues_85 195 (nI w) (nI b) (nI f) J R n = M_laysValues_59 195 (nI w) (nI (b + 1)) J' R n ∧ zBf w I J' ∧ ∀ b' f' u', b' ≤ 40 → (b' < N ∨ b' = 40) → f' ≤ 2 → u' < 8 → zDn (b + 1) 0 0 b' f' u' → Q b' f' u' (J' 215 (zsta w b' f' u'))
  | 0, f, J, hf, hJ, hd => by
    have t3 : (3 : Int32) = nI 3 := by decide
    have st := e_M_laysValues_85 195 (nI w) (nI b) (nI f) J R n
    rw [t3, if_neg (nI_nlt (show 3 ≤ f by omega) (by omega)), nI_1] at st
    exact ⟨J, st, hJ, fun b' f' u' h1 h2 h3 h4 h5 => hd b' f' u' h1 h2 h3 h4 (by unfold zDn at *; omega)⟩
  | e + 1, f, J, hf, hJ, hd => by
    have t3 : (3 : Int32) = nI 3 := by decide
    have st := e_M_laysValues_85 195 (nI w) (nI b) (nI f) J R n
    rw [t3, if_pos (nI_lt (show f < 3 by omega) (by decide)), ← nI_0] at st
    obtain ⟨J1, e1, f1, d1⟩ := M_lvs94_ok h hb hbN (show f ≤ 2 by omega) hpt 8 0 J (by omega) hJ hd
    obtain ⟨J', e2, f2, d2⟩ := M_lvs85_ok h hb hbN hpt e (f + 1) J1 (by omega) f1 d1
    exact ⟨J', st.trans (e1.trans e2), f2, d2⟩
theorem M_lvs59_ok (h : WM R n) (hN : N ≤ 40) (h32 : I 195 32 = nI N) (hpt : ∀ b f u (J : ZI), b ≤ 40 → (b < N ∨ b = 40) → f ≤ 2 → u < 8 → zBf w I J → ∃ J', M_laysValue 195 (nI w) (nI b) (nI f) (nI u) J R n = some (none, J', R, n) ∧ Q b f u (J' 215 (zsta w b f u)) ∧ ∀ q j, (q = 195 → j ≠ 33 ∧ j ≠ 34) → (q = 215 → j ≠ zsta w b f u) → J' q j = J q j) : ∀ e b (J : ZI), b + e = 41 → zBf w I J → (∀ b' f' u', b' ≤ 40 → (b' < N ∨ b' = 40) → f' ≤ 2 → u' < 8 → zDn b 0 0 b' f' u' → Q b' f' u' (J 215 (zsta w b' f' u'))) → ∃ J', M_laysValues_59 195 (nI w) (nI b) J R n = M_laysValues_46 195 (nI w - 1) J' R n ∧ zBf w I J' ∧ ∀ b' f' u', b' ≤ 40 → (b' < N ∨ b' = 40) → f' ≤ 2 → u' < 8 → Q b' f' u' (J' 215 (zsta w b' f' u'))
  | 0, b, J, hb, hJ, hd => by
    have t4 : (40 : Int32) = nI 40 := by decide
    have st := e_M_laysValues_59 195 (nI w) (nI b) J R n
    rw [t4, if_pos (nI_lt (show 40 < b by omega) (by omega)), zsubm1] at st
    exact ⟨J, st, hJ, fun b' f' u' h1 h2 h3 h4 => hd b' f' u' h1 h2 h3 h4 (by unfold zDn at *; omega)⟩
  | e + 1, b, J, hb, hJ, hd => by
    have t4 : (40 : Int32) = nI 40 := by decide
    have j32 : J 195 32 = nI N := by rw [hJ 195 32 (by decide) (fun z => absurd z (by decide))]; exact h32
    have st := e_M_laysValues_59 195 (nI w) (nI b) J R n
    rw [t4, if_neg (nI_nlt (show b ≤ 40 by omega) (by decide)), nI_1, ← nI_0] at st
    simp only [h.k, zc_t, j32] at st
    have go : (b < N ∨ b = 40) → M_laysValues_59 195 (nI w) (nI b) J R n = M_laysValues_85 195 (nI w) (nI b) (nI 0) J R n → ∃ J', M_laysValues_59 195 (nI w) (nI b) J R n = M_laysValues_46 195 (nI w - 1) J' R n ∧ zBf w I J' ∧ ∀ b' f' u', b' ≤ 40 → (b' < N ∨ b' = 40) → f' ≤ 2 → u' < 8 → Q b' f' u' (J' 215 (zsta w b' f' u')) := by
      intro hbN e0
      obtain ⟨J1, e1, f1, d1⟩ := M_lvs85_ok h (show b ≤ 40 by omega) hbN hpt 3 0 J (by omega) hJ hd
      obtain ⟨J', e2, f2, d2⟩ := M_lvs59_ok h hN h32 hpt e (b + 1) J1 (by omega) f1 d1
      exact ⟨J', e0.trans (e1.trans e2), f2, d2⟩
    by_cases c : b < N
    · rw [if_pos (nI_lt c (by omega))] at st
      exact go (Or.inl c) st
    · rw [if_neg (nI_nlt (by omega) (by omega))] at st
      by_cases c2 : b = 40
      · rw [if_neg (nI_nlt (show 40 ≤ b by omega) (by omega))] at st
        exact go (Or.inr c2) st
      · rw [if_pos (nI_lt (show b < 40 by omega) (by decide))] at st
        obtain ⟨J', e2, f2, d2⟩ := M_lvs59_ok h hN h32 hpt e (b + 1) J (by omega) hJ (fun b' f' u' h1 h2 h3 h4 h5 => hd b' f' u' h1 h2 h3 h4 (by unfold zDn at *; omega))
        exact ⟨J', st.trans e2, f2, d2⟩
theorem M_lvs16_ok (h : WM R n) {Wk : Nat} (hWk : Wk ≤ 6) (hW : I 198 6 = nI Wk) : ∃ J, M_laysValues 195 I R n = M_laysValues_46 195 (nI Wk - 1) J R n ∧ (∀ j, zsta Wk 0 0 0 ≤ j → j < zsta (Wk + 1) 0 0 0 → J 215 j = 0) ∧ zBf Wk I J := by
  have sa := M_stateAt_ok (I := I) (R := R) (n := n) (w := Wk) (b := 0) (f := 0) (u := 0) (x0 := nI Wk) (x1 := 0) (x2 := 0) (x3 := 0) rfl nI_0.symm nI_0.symm nI_0.symm
  have st := e_M_laysValues 195 I R n
  simp only [h.k, h.2, zc_t, zr_s, zin198, zixs, Bool.true_or, Bool.true_and, hW, sa, zbI_s] at st
  have loop : ∀ e k (J : ZI), k + e = zsta (Wk + 1) 0 0 0 → zsta Wk 0 0 0 ≤ k → zBf Wk I J → (∀ j, zsta Wk 0 0 0 ≤ j → j < k → J 215 j = 0) → ∃ J', M_laysValues_16 195 (nI Wk) (nI k) J R n = M_laysValues_46 195 (nI Wk - 1) J' R n ∧ (∀ j, zsta Wk 0 0 0 ≤ j → j < zsta (Wk + 1) 0 0 0 → J' 215 j = 0) ∧ zBf Wk I J' := by
    intro e
    induction e with
    | zero =>
      intro k J hk h0 hJ hd
      have sb := M_stateAt_ok (I := J) (R := R) (n := n) (w := Wk + 1) (b := 0) (f := 0) (u := 0) (x0 := nI (Wk + 1)) (x1 := 0) (x2 := 0) (x3 := 0) rfl nI_0.symm nI_0.symm nI_0.symm
      have s := e_M_laysValues_16 195 (nI Wk) (nI k) J R n
      rw [nI_1, sb, zbI_s, if_neg (nI_nlt (by omega) (by unfold zsta at hk; omega))] at s
      exact ⟨J, s, fun j a1 a2 => hd j a1 (by omega), hJ⟩
    | succ e ih =>
      intro k J hk h0 hJ hd
      have kl : k < 6888 := by unfold zsta at hk; omega
      have sb := M_stateAt_ok (I := J) (R := R) (n := n) (w := Wk + 1) (b := 0) (f := 0) (u := 0) (x0 := nI (Wk + 1)) (x1 := 0) (x2 := 0) (x3 := 0) rfl nI_0.symm nI_0.symm nI_0.symm
      have i1 : zin 215 (nI k) = true := zin_nI (by show _ < 6888; exact kl) (by omega)
      have s := e_M_laysValues_16 195 (nI Wk) (nI k) J R n
      rw [nI_1, sb, zbI_s, if_pos (nI_lt (by omega) (by unfold zsta at hk ⊢; omega))] at s
      simp only [h.k, h.2, zc_t, zr_s, i1, Bool.true_and, zix_nI (show k < 2 ^ 31 by omega), nI_1] at s
      obtain ⟨J', e1, e2, e3⟩ := ih (k + 1) (zup J 215 k 0) (by omega) (by omega) (fun q j a1 a2 => by
        by_cases z : q = 215
        · have := a2 z
          rw [zup_k _ (by omega)]; exact hJ q j a1 a2
        · rw [zup_n _ z]; exact hJ q j a1 a2) (fun j a1 a2 => by
        by_cases z : j = k
        · rw [z, zup_s]
        · rw [zup_k _ z]; exact hd j a1 (by omega))
      exact ⟨J', s.trans e1, e2, e3⟩
  have lt : zsta Wk 0 0 0 ≤ zsta (Wk + 1) 0 0 0 := by unfold zsta; omega
  obtain ⟨J', e1, e2, e3⟩ := loop (zsta (Wk + 1) 0 0 0 - zsta Wk 0 0 0) (zsta Wk 0 0 0) I (by omega) (Nat.le_refl _) (fun _ _ _ _ => rfl) (fun j a1 a2 => by omega)
  exact ⟨J', st.trans e1, e2, e3⟩
end LMz
