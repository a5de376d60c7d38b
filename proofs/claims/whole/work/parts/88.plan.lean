/-! ===== the planner (class): the walk as a whole ===== -/
/-- the first best row of teams and chips of the e weeks from w on -/
noncomputable def zPath (pl tp : Nat → Nat → Int32) (c : Nat → Nat) (co N Wk : Nat) : Nat → Nat → Nat → Nat → Nat → (Nat → Int32) → (Nat → Int32) → Prop
  | 0, _, _, _, _, _, _ => True
  | e + 1, w, B, f, u, TS, TC => ∃ x k ch, zIM N (fun _ ch => zokc u ch) (zov (zVal pl tp c co N Wk e) (pl w) (tp w) c co B f u 0) x ∧ zFs N (fun _ ch => zokc u ch) (zov (zVal pl tp c co N Wk e) (pl w) (tp w) c co B f u 0) x k ch ∧ TS w = nI (c k) ∧ TC w = zwh ch ∧ zPath pl tp c co N Wk e (w + 1) (znb B (c k) ch) (znf f (0 + zdf (c k) B) ch) (znu u ch) TS TC
theorem zPath_u {pl tp : Nat → Nat → Int32} {c : Nat → Nat} {co N Wk : Nat} {TS TC TS' TC' : Nat → Int32} : ∀ e w B f u, zPath pl tp c co N Wk e w B f u TS TC → zPath pl tp c co N Wk e w B f u TS' TC' → ∀ i, w ≤ i → i < w + e → TS i = TS' i ∧ TC i = TC' i
  | 0, w, B, f, u, _, _, i, h1, h2 => by omega
  | e + 1, w, B, f, u, h, g, i, h1, h2 => by
    obtain ⟨x, k, ch, a1, a2, a3, a4, a5⟩ := h
    obtain ⟨x', k', ch', b1, b2, b3, b4, b5⟩ := g
    have ex := zIM_u a1 b1
    subst ex
    obtain ⟨ek, ec⟩ := zFs_u a2 b2
    subst ek
    subst ec
    by_cases z : i = w
    · rw [z, a3, a4, b3, b4]; exact ⟨rfl, rfl⟩
    · exact zPath_u e (w + 1) _ _ _ a5 b5 i (by omega) (by omega)
theorem zokT_no (cp : Int32) (s0 l u : Nat) (c : Nat → Nat) : zokT false cp s0 l u c = fun _ ch => zokc u ch := by
  funext k ch
  unfold zokT
  rw [if_neg (fun z => by cases z.1), Bool.false_and, Bool.and_false, Bool.not_false, Bool.and_true]
section LPq
variable {J : ZI} {R : ZR} {n L N rows co s w0 Wk d w : Nat} {c bs : Nat → Nat} {pl tp : Nat → Nat → Int32}
theorem Pl_take_ok (hW : WP R n L) (hL : WL R n L) (hS : WS R n 10) (hd : zPd J L N rows co s w0 Wk c bs pl tp) (hn : zPn N rows co s w0 Wk c bs pl tp) (hw : w + (d + 1) = Wk) (hw0 : w0 ≤ w) (ht : tabC J (zVal pl tp c co N Wk d) bs rows s (w + 1)) (hb : zVb (zVal pl tp c co N Wk d) bs rows s d) {a f u s0 l : Nat} (ha : a < rows) (hf1 : 1 ≤ f) (hf2 : f ≤ 2) (hu : u < 8) (hus : u &&& s = s) (hs0 : s0 ≤ 1000) (hl : l < 2 ^ 31) (h15 : J 141 15 = nI a) (h16 : J 141 16 = nI f) (h17 : J 141 17 = nI u) (h4 : J 10 4 = nI w0) (h6 : J 10 6 = nI s0) (h12 : J 10 12 = nI l) (hc : ∀ k, k < N → J 223 k = nI (c k) ∧ c k < 2 ^ 31) (hex : ∃ k ch, k < N ∧ ch < 4 ∧ zokT (decide (w = w0)) (J 10 10) s0 l u c k ch = true) : ∃ J' x k ch, Pl_take 141 (nI w) J R n = some (none, J', R, n) ∧ zIM N (zokT (decide (w = w0)) (J 10 10) s0 l u c) (zov (zVal pl tp c co N Wk d) (pl w) (tp w) c co (bs a) f u (if w = w0 then s0 else 0)) x ∧ zFs N (zokT (decide (w = w0)) (J 10 10) s0 l u c) (zov (zVal pl tp c co N Wk d) (pl w) (tp w) c co (bs a) f u (if w = w0 then s0 else 0)) x k ch ∧ J' 148 w = nI (c k) ∧ J' 149 w = zwh ch ∧ J' 141 14 = (if w = w0 then x else J 141 14) ∧ (J' 141 15 = nI (if ch = 3 then a else k) ∧ J' 141 16 = nI (znf f ((if w = w0 then s0 else 0) + zdf (c k) (bs a)) ch) ∧ J' 141 17 = nI (znu u ch)) ∧ ∀ b j, (b = 141 → j ≠ 14 ∧ j ≠ 15 ∧ j ≠ 16 ∧ j ≠ 17) → (b = 148 ∨ b = 149 → j ≠ w) → J' b j = J b j := by
  have hd' := hd
  obtain ⟨⟨d1, d2, d3, d4⟩, d5, d6, d7⟩ := hd'
  have hn' := hn
  obtain ⟨⟨n1, n2⟩, ⟨n3, n4⟩, n5, n6, n7, n8, n9⟩ := hn'
  have hw6 : w < 6 := by omega
  have hsz : (if w = w0 then s0 else 0) ≤ 1000 := by split <;> omega
  have us := (zusub u hu s n6).2 hus
  have nus : ∀ ch, ch < 4 → znu u ch &&& s = s := by
    intro ch hch
    have c4 : ch = 0 ∨ ch = 1 ∨ ch = 2 ∨ ch = 3 := by omega
    rcases c4 with rfl | rfl | rfl | rfl
    · exact hus
    · exact us.1
    · exact us.2.1
    · exact us.2.2
  have hmay : ∀ k ch, k < N → ch < 4 → Pl_mayTake 141 (nI w) (nI k) (zwh ch) J R n = some (some (.int (zbo (zokT (decide (w = w0)) (J 10 10) s0 l u c k ch))), J, R, n) := fun k ch hk hch => Pl_mayTake_ok hW hS (show k < 40 by omega) hch (by omega) (by omega) h4 h6 (by omega) h12 hl h17 hu (hc k hk).1 (hc k hk).2
  have hopt : ∀ k ch, k < N → ch < 4 → Pl_optionValue 141 (nI w) (nI k) (zwh ch) J R n = some (some (.int (zov (zVal pl tp c co N Wk d) (pl w) (tp w) c co (bs a) f u (if w = w0 then s0 else 0) k ch)), J, R, n) := by
    intro k ch hk hch
    have o := Pl_option_ok (J := J) hW hL hS hch (show k < 40 by omega) hw6 (show w0 < 2 ^ 31 by omega) (show a < 41 by omega) hf1 hf2 hu hs0 (zdf_le (c k) (bs a)) h15 h16 h17 h4 h6 (d5 a k ha hk) d3
    have nf := znf_le f ((if w = w0 then s0 else 0) + zdf (c k) (bs a)) ch
    have t := ht (if ch = 3 then a else k) (znf f ((if w = w0 then s0 else 0) + zdf (c k) (bs a)) ch) (znu u ch) (by split <;> omega) nf.1 nf.2 (znu_lt hu hch) (nus ch hch)
    have eb : bs (if ch = 3 then a else k) = znb (bs a) (c k) ch := by
      unfold znb
      by_cases z : ch = 3
      · rw [if_pos z, if_pos z]
      · rw [if_neg z, if_neg z, n8 k hk]
    rw [eb] at t
    rw [t, (d6 w k hw0 (by omega) hk).1, (d6 w k hw0 (by omega) hk).2] at o
    exact o
  have hlow : ∀ k ch, k < N → ch < 4 → zokT (decide (w = w0)) (J 10 10) s0 l u c k ch = true → (-100000000 : Int32) < zov (zVal pl tp c co N Wk d) (pl w) (tp w) c co (bs a) f u (if w = w0 then s0 else 0) k ch := fun k ch hk hch _ => (zlow_bd (zov_bd hn hw0 (by omega) hb (by omega) ha hf1 hf2 hu hus hsz hk hch) (by omega)).2
  obtain ⟨x, k, ch, e, t⟩ := Pl_take_outer (J := J) (w := w) n2 d1 hlow hW hmay (fun k ch a1 a2 _ => hopt k ch a1 a2) N (Nat.le_refl _)
  obtain ⟨im, fs⟩ := zTI_end hex t
  have hk := fs.1
  have hch := fs.2.1
  have st := e_Pl_take_11 141 (nI w) x (nI k) (zwh ch) (nI N) J R n
  rw [d1, if_neg (nI_nlt (Nat.le_refl _) (by omega))] at st
  simp only [hW.k, hW.2.1, hS.k, zc_t, zr_s, h4, nI_eq (show w < 2 ^ 31 by omega) (show w0 < 2 ^ 31 by omega)] at st
  have fin : ∀ J1 : ZI, (∀ b j, (b = 141 → j ≠ 14) → J1 b j = J b j) → ∃ J', Pl_take_101 141 (nI w) (nI k) (zwh ch) J1 R n = some (none, J', R, n) ∧ J' 148 w = nI (c k) ∧ J' 149 w = zwh ch ∧ J' 141 14 = J1 141 14 ∧ (J' 141 15 = nI (if ch = 3 then a else k) ∧ J' 141 16 = nI (znf f ((if w = w0 then s0 else 0) + zdf (c k) (bs a)) ch) ∧ J' 141 17 = nI (znu u ch)) ∧ ∀ b j, (b = 141 → j ≠ 14 ∧ j ≠ 15 ∧ j ≠ 16 ∧ j ≠ 17) → (b = 148 ∨ b = 149 → j ≠ w) → J' b j = J b j := by
    intro J1 hJ1
    have g : ∀ b j, b ≠ 148 → b ≠ 149 → (b = 141 → j ≠ 14) → (zup (zup J1 148 w (nI (c k))) 149 w (zwh ch)) b j = J b j := fun b j h1 h2 h3 => by rw [zup_n _ h2, zup_n _ h1, hJ1 b j h3]
    obtain ⟨J', q1, q2, q3, q4, q5⟩ := Pl_moveOn_ok (J := zup (zup J1 148 w (nI (c k))) 149 w (zwh ch)) hW hS hch (show k < 40 by omega) (show w < 2 ^ 31 by omega) (show w0 < 2 ^ 31 by omega) (show a < 41 by omega) hf1 hf2 hu hs0 (zdf_le (c k) (bs a)) (by rw [g _ _ (by decide) (by decide) (by decide)]; exact h15) (by rw [g _ _ (by decide) (by decide) (by decide)]; exact h16) (by rw [g _ _ (by decide) (by decide) (by decide)]; exact h17) (by rw [g _ _ (by decide) (by decide) (by decide)]; exact h4) (by rw [g _ _ (by decide) (by decide) (by decide)]; exact h6) (by rw [g _ _ (by omega) (by omega) (by omega)]; exact d5 a k ha hk)
    have c1 : J1 223 k = nI (c k) := by rw [hJ1 _ _ (by omega)]; exact (hc k hk).1
    have st := e_Pl_take_101 141 (nI w) (nI k) (zwh ch) J1 R n
    simp only [hW.k, hW.2.1, zc_t, zr_s, (zinP (show k < 40 by omega)).2.2, (zinW hw6).2.2.2.1, (zinW hw6).2.2.2.2, Bool.true_or, Bool.true_and, zix_nI (show w < 2 ^ 31 by omega), zix_nI (show k < 2 ^ 31 by omega), c1, q1, zbV_s] at st
    refine ⟨J', st, ?_, ?_, ?_, ⟨q2, q3, q4⟩, fun b j h1 h2 => ?_⟩
    · rw [q5 _ _ (by omega), zup_n _ (by decide), zup_s]
    · rw [q5 _ _ (by omega), zup_s]
    · rw [q5 _ _ (by decide), zup_n _ (by decide), zup_n _ (by decide)]
    · rw [q5 b j (fun z => ⟨(h1 z).2.1, (h1 z).2.2.1, (h1 z).2.2.2⟩)]
      have e1 : J1 b j = J b j := hJ1 b j (fun z => (h1 z).1)
      by_cases z : b = 149
      · rw [zup_k _ (h2 (Or.inr z)), zup_n _ (by omega), e1]
      · rw [zup_n _ z]
        by_cases z2 : b = 148
        · rw [zup_k _ (h2 (Or.inl z2)), e1]
        · rw [zup_n _ z2, e1]
  by_cases cw : w = w0
  · rw [if_pos cw] at st
    obtain ⟨J', q1, q2, q3, q4, q5, q6⟩ := fin (zup J 141 14 x) (fun b j hb => by
      by_cases z : b = 141
      · rw [zup_k _ (hb z)]
      · rw [zup_n _ z])
    exact ⟨J', x, k, ch, e.trans (st.trans q1), im, fs, q2, q3, by rw [q4, zup_s, if_pos cw], q5, q6⟩
  · rw [if_neg cw] at st
    obtain ⟨J', q1, q2, q3, q4, q5, q6⟩ := fin J (fun b j hb => rfl)
    exact ⟨J', x, k, ch, e.trans (st.trans q1), im, fs, q2, q3, by rw [q4, if_neg cw], q5, q6⟩
end LPq
