/-! ===== the planner (class): all values of a week, all weeks ===== -/
def zFw (w : Nat) (I J : ZI) : Prop := (∀ b, b ≠ 280 → J b = I b) ∧ ∀ j, (j < w * 656 ∨ (w + 1) * 656 ≤ j) → J 280 j = I 280 j
theorem zFw_up {w j : Nat} {I J : ZI} {x : Int32} (h : zFw w I J) (h1 : w * 656 ≤ j) (h2 : j < (w + 1) * 656) : zFw w I (zup J 280 j x) := by
  refine ⟨fun b hb => ?_, fun i hi => ?_⟩
  · funext i
    rw [zup_n _ hb, h.1 b hb]
  · rw [zup_k _ (by omega), h.2 i hi]
section LPw
variable {I : ZI} {R : ZR} {n L N rows co s w0 Wk d w : Nat} {c bs : Nat → Nat} {pl tp : Nat → Nat → Int32}
theorem Pl_vw55_ok (hW : WP R n L) (hL : WL R n L) (hd : zPd I L N rows co s w0 Wk c bs pl tp) (hn : zPn N rows co s w0 Wk c bs pl tp) (hw : w + (d + 1) = Wk) (hw0 : w0 ≤ w) (ht : tabC I (zVal pl tp c co N Wk d) bs rows s (w + 1)) (hb : zVb (zVal pl tp c co N Wk d) bs rows s d) {u : Nat} (hu : u < 8) (hus : u &&& s = s) : ∀ e r (J : ZI), r + e = rows → zFw w I J → (∀ r' f, r' < r → 1 ≤ f → f ≤ 2 → J 280 (zspt w r' f u) = zVal pl tp c co N Wk (d + 1) (bs r') f u) → ∃ J', Pl_valueWeek_55 141 (nI w) (nI u) (if u.testBit 1 = false then zmxF (-100000000) (fun k => pl w k + zVal pl tp c co N Wk d (c k) 2 (u ||| 2 ^ 1)) N else -100000000) (nI r) J R n = Pl_valueWeek_2 141 (nI w) (nI (u + 1)) J' R n ∧ zFw w I J' ∧ (∀ r' f, r' < rows → 1 ≤ f → f ≤ 2 → J' 280 (zspt w r' f u) = zVal pl tp c co N Wk (d + 1) (bs r') f u) ∧ ∀ r' f u', 1 ≤ f → f ≤ 2 → u' < 8 → u' ≠ u → J' 280 (zspt w r' f u') = J 280 (zspt w r' f u') := by
  have hd' := hd
  obtain ⟨⟨d1, d2, d3, d4⟩, d5, d6, d7⟩ := hd'
  have hn' := hn
  obtain ⟨⟨n1, n2⟩, ⟨n3, n4⟩, n5, n6, n7, n8, n9⟩ := hn'
  have hw6 : w < 6 := by omega
  intro e
  induction e with
  | zero =>
    intro r J he hJ hdone
    refine ⟨J, ?_, hJ, fun r' f h1 h2 h3 => hdone r' f (by omega) h2 h3, fun _ _ _ _ _ _ _ => rfl⟩
    rw [e_Pl_valueWeek_55]
    simp only [hW.k, zc_t, hJ.1 141 (by decide), d2]
    rw [if_neg (nI_nlt (show rows ≤ r by omega) (by omega)), nI_1]
  | succ e ih =>
    intro r J he hJ hdone
    have hr : r < rows := by omega
    have hr40 : r ≤ 40 := by omega
    obtain ⟨W1, Lo, sv1, -, -, l1, q1, v1, -, eW1⟩ := zval_class (I := I) hW hL hd hn hw hw0 ht hb (J := J) hJ.1 (fun j hj => hJ.2 j (Or.inr hj)) hr (show 1 ≤ 1 by decide) (show 1 ≤ 2 by decide) hu hus
    have rg1 := zspt_rng (w := w) hr40 (show 1 ≤ 1 by decide) (show 1 ≤ 2 by decide) hu
    have rg2 := zspt_rng (w := w) hr40 (show 1 ≤ 2 by decide) (show 2 ≤ 2 by decide) hu
    have hJ1 : zFw w I (zup J 280 (zspt w r 1 u) (zVal pl tp c co N Wk (d + 1) (bs r) 1 u)) := zFw_up hJ rg1.1 rg1.2
    obtain ⟨W2, Lo2, sv2, -, -, l2, q2, v2, -, eW2⟩ := zval_class (I := I) hW hL hd hn hw hw0 ht hb (J := zup J 280 (zspt w r 1 u) (zVal pl tp c co N Wk (d + 1) (bs r) 1 u)) hJ1.1 (fun j hj => hJ1.2 j (Or.inr hj)) hr (show 1 ≤ 2 by decide) (show 2 ≤ 2 by decide) hu hus
    have eLo : Lo2 = Lo := by
      have a1 := Pl_loan_ok (I := J) (R := R) (n := n) hW hw6 hu hr40
      have a2 := Pl_loan_ok (I := zup J 280 (zspt w r 1 u) (zVal pl tp c co N Wk (d + 1) (bs r) 1 u)) (R := R) (n := n) hW hw6 hu hr40
      rw [l1] at a1
      rw [l2] at a2
      injection a1 with a1; injection a1 with a1 _; injection a1 with a1; injection a1 with a1
      injection a2 with a2; injection a2 with a2 _; injection a2 with a2; injection a2 with a2
      rw [a1, a2, zup_n _ (show (147 : Nat) ≠ 280 by decide)]
      have rg3 := zspt_rng (w := w + 1) hr40 (show 1 ≤ 2 by decide) (show 2 ≤ 2 by decide) (zsh2 u hu).2.2.2.2.2.1
      rw [zup_k _ (show zspt (w + 1) r 2 (u ||| 2 ^ 2) ≠ zspt w r 1 u by omega)]
    rw [eW1] at v1
    rw [eW2, eLo] at v2
    have st := e_Pl_valueWeek_55 141 (nI w) (nI u) (if u.testBit 1 = false then zmxF (-100000000) (fun k => pl w k + zVal pl tp c co N Wk d (c k) 2 (u ||| 2 ^ 1)) N else -100000000) (nI r) J R n
    simp only [hW.k, zc_t, hJ.1 141 (by decide), d2, if_pos (nI_lt hr (show rows < 2 ^ 31 by omega)), l1, zbI_s] at st
    generalize (if u.testBit 1 = false then zmxF (-100000000) (fun k => pl w k + zVal pl tp c co N Wk d (c k) 2 (u ||| 2 ^ 1)) N else -100000000) = W at st v1 v2 ih ⊢
    have t1 : (1 : Int32) = nI 1 := by decide
    have t2 : (2 : Int32) = nI 2 := by decide
    have sp1 := Pl_spot_ok (I := J) (R := R) (n := n) (w := w) (r := r) (f := 1) (u := u) (by decide) (x0 := nI w) (x1 := nI r) (x2 := nI 1) (x3 := nI u) rfl rfl rfl rfl
    have sp2 := Pl_spot_ok (I := zup J 280 (zspt w r 1 u) (zVal pl tp c co N Wk (d + 1) (bs r) 1 u)) (R := R) (n := n) (w := w) (r := r) (f := 2) (u := u) (by decide) (x0 := nI w) (x1 := nI r) (x2 := nI 2) (x3 := nI u) rfl rfl rfl rfl
    have s1 := e_Pl_valueWeek_81 141 (nI w) (nI u) W (nI r) (zmax W Lo) (nI 1) J R n
    rw [t2, if_neg (nI_nlt (show 1 ≤ 2 by decide) (by decide))] at s1
    simp only [hW.k, hW.2.1, zc_t, zr_s, sp1, zbI_s, q1, zin280 (show w ≤ 6 by omega) hr40 (show 1 ≤ 1 by decide) (show 1 ≤ 2 by decide) hu, Bool.true_and, zix_nI (show zspt w r 1 u < 2 ^ 31 by omega), nI_1, v1] at s1
    have s2 := e_Pl_valueWeek_81 141 (nI w) (nI u) W (nI r) (zmax W Lo) (nI 2) (zup J 280 (zspt w r 1 u) (zVal pl tp c co N Wk (d + 1) (bs r) 1 u)) R n
    rw [t2, if_neg (nI_nlt (show 2 ≤ 2 by decide) (by decide))] at s2
    simp only [hW.k, hW.2.1, zc_t, zr_s, sp2, zbI_s, q2, zin280 (show w ≤ 6 by omega) hr40 (show 1 ≤ 2 by decide) (show 2 ≤ 2 by decide) hu, Bool.true_and, zix_nI (show zspt w r 2 u < 2 ^ 31 by omega), nI_1, v2] at s2
    have s3 := e_Pl_valueWeek_81 141 (nI w) (nI u) W (nI r) (zmax W Lo) (nI (2 + 1)) (zup (zup J 280 (zspt w r 1 u) (zVal pl tp c co N Wk (d + 1) (bs r) 1 u)) 280 (zspt w r 2 u) (zVal pl tp c co N Wk (d + 1) (bs r) 2 u)) R n
    rw [t2, if_pos (nI_lt (show 2 < 2 + 1 by decide) (by decide)), nI_1] at s3
    have n12 : zspt w r 1 u ≠ zspt w r 2 u := by unfold zspt; omega
    have hJ2 : zFw w I (zup (zup J 280 (zspt w r 1 u) (zVal pl tp c co N Wk (d + 1) (bs r) 1 u)) 280 (zspt w r 2 u) (zVal pl tp c co N Wk (d + 1) (bs r) 2 u)) := zFw_up hJ1 rg2.1 rg2.2
    have keep : ∀ r' f u', 1 ≤ f → f ≤ 2 → u' < 8 → (r' ≠ r ∨ u' ≠ u) → (zup (zup J 280 (zspt w r 1 u) (zVal pl tp c co N Wk (d + 1) (bs r) 1 u)) 280 (zspt w r 2 u) (zVal pl tp c co N Wk (d + 1) (bs r) 2 u)) 280 (zspt w r' f u') = J 280 (zspt w r' f u') := fun r' f u' h1 h2 h3 h4 => by
      rw [zup_k _ (fun z => by have := zspt_inj h1 h2 h3 (show 1 ≤ 2 by decide) (show 2 ≤ 2 by decide) hu z; omega), zup_k _ (fun z => by have := zspt_inj h1 h2 h3 (show 1 ≤ 1 by decide) (show 1 ≤ 2 by decide) hu z; omega)]
    obtain ⟨J', e1, f1, g1, k1⟩ := ih (r + 1) _ (by omega) hJ2 (fun r' f h1 h2 h3 => by
      by_cases z : r' = r
      · subst z
        have hf : f = 1 ∨ f = 2 := by omega
        rcases hf with rfl | rfl
        · rw [zup_k _ n12, zup_s]
        · rw [zup_s]
      · rw [keep r' f u h2 h3 hu (Or.inl z)]; exact hdone r' f (by omega) h2 h3)
    refine ⟨J', ?_, f1, g1, fun r' f u' h1 h2 h3 h4 => by rw [k1 r' f u' h1 h2 h3 h4, keep r' f u' h1 h2 h3 (Or.inr h4)]⟩
    rw [← t1] at s1
    exact st.trans (s1.trans (s2.trans (s3.trans e1)))
theorem Pl_vw2_ok (hW : WP R n L) (hL : WL R n L) (hS : WS R n 10) (hd : zPd I L N rows co s w0 Wk c bs pl tp) (hn : zPn N rows co s w0 Wk c bs pl tp) (hw : w + (d + 1) = Wk) (hw0 : w0 ≤ w) (ht : tabC I (zVal pl tp c co N Wk d) bs rows s (w + 1)) (hb : zVb (zVal pl tp c co N Wk d) bs rows s d) : ∀ e u (J : ZI), u + e = 8 → zFw w I J → (∀ r' f u', r' < rows → 1 ≤ f → f ≤ 2 → u' < u → u' &&& s = s → J 280 (zspt w r' f u') = zVal pl tp c co N Wk (d + 1) (bs r') f u') → ∃ J', Pl_valueWeek_2 141 (nI w) (nI u) J R n = some (none, J', R, n) ∧ zFw w I J' ∧ tabC J' (zVal pl tp c co N Wk (d + 1)) bs rows s w := by
  have hd' := hd
  obtain ⟨⟨d1, d2, d3, d4⟩, d5, d6, d7⟩ := hd'
  have hn' := hn
  obtain ⟨⟨n1, n2⟩, ⟨n3, n4⟩, n5, n6, n7, n8, n9⟩ := hn'
  have t8 : (8 : Int32) = nI 8 := by decide
  intro e
  induction e with
  | zero =>
    intro u J he hJ hdone
    refine ⟨J, ?_, hJ, fun r f u' h1 h2 h3 h4 h5 => hdone r f u' h1 h2 h3 (by omega) h5⟩
    rw [e_Pl_valueWeek_2, t8, if_neg (nI_nlt (show 8 ≤ u by omega) (by omega))]
  | succ e ih =>
    intro u J he hJ hdone
    have hu : u < 8 := by omega
    have z8 := zsh2 u hu
    have zu := zusub u hu s n6
    have j9 : J 10 9 = nI s := by rw [hJ.1 10 (by decide)]; exact d4
    have st := e_Pl_valueWeek_2 141 (nI w) (nI u) J R n
    rw [t8, if_pos (nI_lt hu (by decide))] at st
    simp only [hW.k, hW.2.1, hS.k, zc_t, zr_s, j9, z8.2.2.2.2.1, nI_1] at st
    by_cases hus : u &&& s = s
    · rw [if_pos (zu.1.2 hus)] at st
      obtain ⟨W1, Lo, sv1, w1, w2, -, -, -, -, eW1⟩ := zval_class (I := I) hW hL hd hn hw hw0 ht hb (J := J) hJ.1 (fun j hj => hJ.2 j (Or.inr hj)) (show 0 < rows by omega) (show 1 ≤ 1 by decide) (show 1 ≤ 2 by decide) hu hus
      obtain ⟨J1, e1, f1, g1, k1⟩ := Pl_vw55_ok (I := I) hW hL hd hn hw hw0 ht hb hu hus rows 0 J (by omega) hJ (fun r' f h1 => by omega)
      rw [nI_0] at e1
      have st2 : Pl_valueWeek_2 141 (nI w) (nI u) J R n = Pl_valueWeek_2 141 (nI w) (nI (u + 1)) J1 R n := by
        rw [st]
        cases hb1 : u.testBit 1 with
        | false =>
          rw [if_pos (z8.2.1.2 hb1), w1 hb1, zbI_s, eW1]
          exact e1
        | true =>
          rw [if_neg (fun q => by rw [z8.2.1.1 q] at hb1; cases hb1)]
          rw [hb1, if_neg (by decide)] at e1
          exact e1
      obtain ⟨J', e2, f2, g2⟩ := ih (u + 1) J1 (by omega) f1 (fun r' f u' h1 h2 h3 h4 h5 => by
        by_cases z : u' = u
        · subst z; exact g1 r' f h1 h2 h3
        · rw [k1 r' f u' h2 h3 (by omega) z]; exact hdone r' f u' h1 h2 h3 (by omega) h5)
      exact ⟨J', st2.trans e2, f2, g2⟩
    · rw [if_neg (fun q => hus (zu.1.1 q))] at st
      obtain ⟨J', e2, f2, g2⟩ := ih (u + 1) J (by omega) hJ (fun r' f u' h1 h2 h3 h4 h5 => by
        by_cases z : u' = u
        · subst z; exact absurd h5 hus
        · exact hdone r' f u' h1 h2 h3 (by omega) h5)
      exact ⟨J', st.trans e2, f2, g2⟩
end LPw
