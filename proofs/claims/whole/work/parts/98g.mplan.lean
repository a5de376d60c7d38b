/-! ===== the reference lays its plan ===== -/
theorem zIM_ex {N : Nat} {ok : Nat → Nat → Bool} {v : Nat → Nat → Int32} (hlow : ∀ k ch, k < N → ch < 4 → ok k ch = true → (-1000000 : Int32) < v k ch) (hex : ∃ k ch, k < N ∧ ch < 4 ∧ ok k ch = true) : ∃ x, zIM N ok v x := by
  have key : ∀ K, K ≤ N → ∃ m, zMI N ok v K 0 m := by
    intro K
    induction K with
    | zero => intro _; exact ⟨-1000000, Or.inl ⟨rfl, fun k ch h1 h2 h3 => by unfold zAh at h3; omega⟩⟩
    | succ K ih =>
      intro hK
      obtain ⟨m, hm⟩ := ih (by omega)
      have inn : ∀ H, H ≤ 4 → ∃ m, zMI N ok v K H m := by
        intro H
        induction H with
        | zero => intro _; exact ⟨m, hm⟩
        | succ H ih2 =>
          intro hH
          obtain ⟨m1, h1⟩ := ih2 (by omega)
          have st := zMI_step (show K < N by omega) (show H < 4 by omega) hlow h1
          cases ho : ok K H with
          | true => exact ⟨_, st.1 ho⟩
          | false => exact ⟨_, st.2 ho⟩
      obtain ⟨m4, h4⟩ := inn 4 (Nat.le_refl _)
      exact ⟨m4, zMI_next h4⟩
  obtain ⟨m, hm⟩ := key N (Nat.le_refl _)
  exact ⟨m, zMI_end hex hm⟩
theorem zFs_ex {N : Nat} {ok : Nat → Nat → Bool} {v : Nat → Nat → Int32} {x : Int32} (h : zIM N ok v x) : ∃ k ch, zFs N ok v x k ch := by
  have key : ∀ m k ch, 4 * k + ch = m → k < N → ch < 4 → ok k ch = true → v k ch = x → ∃ k ch, zFs N ok v x k ch := by
    intro m
    induction m using Nat.strongRecOn with
    | _ m ih =>
      intro k ch hm hk hch ho hv
      by_cases z : ∃ k' ch', k' < N ∧ ch' < 4 ∧ (k' < k ∨ (k' = k ∧ ch' < ch)) ∧ ok k' ch' = true ∧ v k' ch' = x
      · obtain ⟨k', ch', a1, a2, a3, a4, a5⟩ := z
        exact ih (4 * k' + ch') (by omega) k' ch' rfl a1 a2 a4 a5
      · exact ⟨k, ch, hk, hch, ho, hv, fun k' ch' a1 a2 a3 a4 a5 => z ⟨k', ch', a1, a2, a3, a4, a5⟩⟩
  obtain ⟨⟨k, ch, a1, a2, a3, a4⟩, -⟩ := h
  exact key _ k ch rfl a1 a2 a3 a4
section LMB
variable {I : ZI} {R : ZR} {n N w b f u : Nat} {ok : Nat → Nat → Bool} {v : Nat → Nat → Int32} {c : Nat → Nat}
theorem zin216 {w : Nat} (hw : w < 6) : zin 216 (nI w) = true ∧ zin 217 (nI w) = true ∧ zin 214 (nI w) = true := ⟨zin_nI (by show _ < 6; omega) (by omega), zin_nI (by show _ < 6; omega) (by omega), zin_nI (by show _ < 40; omega) (by omega)⟩
theorem M_find (h : WM R n) (hN : N ≤ 40) (h32 : I 195 32 = nI N) (hw : w < 6) {x : Int32} {stt : Nat → Nat → Nat} (hs : ∀ k ch, k < N → ch < 4 → stt k ch < 2 ^ 31) (hc : ∀ k, k < N → I 214 k = nI (c k)) (hst : ∀ k ch (J : ZI), k < N → ch < 4 → (∀ q j, (q = 195 → j ≠ 33 ∧ j ≠ 34) → J q j = I q j) → (ok k ch = false → M_steps 195 (nI w) (nI b) (nI f) (nI u) (nI k) (zwh ch) J R n = some (some (.int 0), J, R, n)) ∧ (ok k ch = true → ∃ J', M_steps 195 (nI w) (nI b) (nI f) (nI u) (nI k) (zwh ch) J R n = some (some (.int 1), J', R, n) ∧ J' 195 34 = nI (stt k ch) ∧ zin 215 (J' 195 34) = true ∧ J' 195 33 + J' 215 (zix (J' 195 34)) = v k ch ∧ ∀ q j, (q = 195 → j ≠ 33 ∧ j ≠ 34) → J' q j = I q j)) {k ch : Nat} (hF : zFs N ok v x k ch) : ∃ J, M_laysPlan_101 195 (nI b) (nI f) (nI u) (nI w) x (-1) 0 I R n = M_laysPlan_210 195 (nI w) (nI (stt k ch)) J R n ∧ J 216 w = nI (c k) ∧ J 217 w = zwh ch ∧ ∀ q j, (q = 195 → j ≠ 33 ∧ j ≠ 34) → (q = 216 ∨ q = 217 → j ≠ w) → J q j = I q j := by
  obtain ⟨hk, hch, hok, hv, hfst⟩ := hF
  have inner : ∀ K, K ≤ k → ∀ (J : ZI), (∀ q j, (q = 195 → j ≠ 33 ∧ j ≠ 34) → J q j = I q j) → ∀ H, H ≤ 4 → (K = k → H ≤ ch) → ∃ J', M_laysPlan_119 195 (nI b) (nI f) (nI u) (nI w) x (-1) (nI K) (zwh 0) J R n = M_laysPlan_119 195 (nI b) (nI f) (nI u) (nI w) x (-1) (nI K) (zwh H) J' R n ∧ ∀ q j, (q = 195 → j ≠ 33 ∧ j ≠ 34) → J' q j = I q j := by
    intro K hK J hJ H
    induction H with
    | zero => intro _ _; exact ⟨J, rfl, hJ⟩
    | succ H ih =>
      intro hH hq
      obtain ⟨J1, e, f1⟩ := ih (by omega) (fun z => by have := hq z; omega)
      have zs := zwh_s H (by omega)
      have s := hst K H J1 (by omega) (by omega) f1
      have st := e_M_laysPlan_119 195 (nI b) (nI f) (nI u) (nI w) x (-1) (nI K) (zwh H) J1 R n
      rw [if_neg (zwh_4.2.2 H (by omega)), if_pos rfl] at st
      cases ho : ok K H with
      | false =>
        simp only [h.k, zc_t, s.1 ho, zbI_s, if_true, zs.1] at st
        exact ⟨J1, e.trans st, f1⟩
      | true =>
        obtain ⟨J2, q1, q2, q3, q4, q5⟩ := s.2 ho
        have ne : ¬ v K H = x := hfst K H (by omega) (by omega) (by
          by_cases z : K = k
          · have := hq z; omega
          · omega) ho
        simp only [h.k, h.2, zc_t, zr_s, q1, zbI_s, if_neg (show ¬ (1 : Int32) = 0 by decide), q3, q4, Bool.true_or, Bool.true_and, zs.1, if_neg ne] at st
        exact ⟨J2, e.trans st, q5⟩
  have e0 : zwh 0 = -1 := by decide
  have outer : ∀ K, K ≤ k → ∃ J', M_laysPlan_101 195 (nI b) (nI f) (nI u) (nI w) x (-1) 0 I R n = M_laysPlan_101 195 (nI b) (nI f) (nI u) (nI w) x (-1) (nI K) J' R n ∧ ∀ q j, (q = 195 → j ≠ 33 ∧ j ≠ 34) → J' q j = I q j := by
    intro K
    induction K with
    | zero => intro _; exact ⟨I, by rw [nI_0], fun _ _ _ => rfl⟩
    | succ K ih =>
      intro hK
      obtain ⟨J, e, f1⟩ := ih (by omega)
      obtain ⟨J', e2, f2⟩ := inner K (by omega) J f1 4 (Nat.le_refl _) (fun z => by omega)
      have j32 : J 195 32 = nI N := by rw [f1 195 32 (by decide)]; exact h32
      have st := e_M_laysPlan_101 195 (nI b) (nI f) (nI u) (nI w) x (-1) (nI K) J R n
      simp only [h.k, zc_t, j32, if_pos (nI_lt (show K < N by omega) (show N < 2 ^ 31 by omega)), if_true] at st
      rw [e0] at e2
      have s4 := e_M_laysPlan_119 195 (nI b) (nI f) (nI u) (nI w) x (-1) (nI K) (zwh 4) J' R n
      rw [if_pos zwh_4.2.1, nI_1] at s4
      exact ⟨J', e.trans (st.trans (e2.trans s4)), f2⟩
  obtain ⟨J, e, f1⟩ := outer k (Nat.le_refl _)
  obtain ⟨J1, e2, f2⟩ := inner k (Nat.le_refl _) J f1 ch (by omega) (fun _ => Nat.le_refl _)
  rw [e0] at e2
  have j32 : J 195 32 = nI N := by rw [f1 195 32 (by decide)]; exact h32
  have st := e_M_laysPlan_101 195 (nI b) (nI f) (nI u) (nI w) x (-1) (nI k) J R n
  simp only [h.k, zc_t, j32, if_pos (nI_lt (show k < N by omega) (show N < 2 ^ 31 by omega)), if_true] at st
  have zs := zwh_s ch hch
  obtain ⟨J2, q1, q2, q3, q4, q5⟩ := (hst k ch J1 hk hch f2).2 hok
  rw [q2] at q3 q4
  have s2 := e_M_laysPlan_119 195 (nI b) (nI f) (nI u) (nI w) x (-1) (nI k) (zwh ch) J1 R n
  rw [if_neg (zwh_4.2.2 ch hch), if_pos rfl] at s2
  have i1 : zin 214 (nI k) = true := zin_nI (by show _ < 40; omega) (by omega)
  have z216 := zin216 hw
  have j214 : J2 214 k = nI (c k) := by rw [q5 214 k (fun z => absurd z (by decide))]; exact hc k hk
  simp only [h.k, h.2, zc_t, zr_s, q1, zbI_s, if_neg (show ¬ (1 : Int32) = 0 by decide), q3, q4, Bool.true_or, Bool.true_and, hv, if_true, i1, z216, zix_nI (show k < 2 ^ 31 by omega), zix_nI (show w < 2 ^ 31 by omega), j214, q2] at s2
  have nm : ¬ nI (stt k ch) = -1 := nI_nm1 (hs k ch hk hch)
  generalize hK2 : zup (zup J2 216 w (nI (c k))) 217 w (zwh ch) = K at s2
  have fK : ∀ q j, (q = 195 → j ≠ 33 ∧ j ≠ 34) → (q = 216 ∨ q = 217 → j ≠ w) → K q j = I q j := by
    intro q j a1 a2
    rw [← hK2]
    by_cases z : q = 217
    · rw [zup_k _ (a2 (Or.inr z))]
      by_cases z2 : q = 216
      · rw [zup_k _ (a2 (Or.inl z2))]; exact q5 q j a1
      · rw [zup_n _ z2]; exact q5 q j a1
    · rw [zup_n _ z]
      by_cases z2 : q = 216
      · rw [zup_k _ (a2 (Or.inl z2))]; exact q5 q j a1
      · rw [zup_n _ z2]; exact q5 q j a1
  have s3 := e_M_laysPlan_119 195 (nI b) (nI f) (nI u) (nI w) x (nI (stt k ch)) (nI k) (zwh ch + 1) K R n
  rw [if_neg nm, ite_self, nI_1] at s3
  have s4 := e_M_laysPlan_101 195 (nI b) (nI f) (nI u) (nI w) x (nI (stt k ch)) (nI (k + 1)) K R n
  rw [if_neg nm, ite_self] at s4
  simp only [h.k, zc_t] at s4
  refine ⟨K, e.trans (st.trans (e2.trans (s2.trans (s3.trans s4)))), ?_, ?_, fK⟩
  · rw [← hK2, zup_n _ (by decide), zup_s]
  · rw [← hK2, zup_s]
theorem M_lp210 {b' f' u' w1 : Nat} (hw1 : w1 ≤ 6) (hb : b' ≤ 40) (hf : f' ≤ 2) (hu : u' < 8) (x4 : Int32) : M_laysPlan_210 195 x4 (nI (zsta w1 b' f' u')) I R n = M_laysPlan_27 195 (nI b') (nI f') (nI u') (x4 + 1) I R n := by
  have lt := zsta_lt hw1 hb hf hu
  have t8 : (8 : Int32) = nI 8 := by decide
  have t3 : (3 : Int32) = nI 3 := by decide
  have t41 : (41 : Int32) = nI 41 := by decide
  have d8 : zsta w1 b' f' u' / 8 = (w1 * 41 + b') * 3 + f' := by unfold zsta; omega
  have d3 : ((w1 * 41 + b') * 3 + f') / 3 = w1 * 41 + b' := by omega
  have m8 : zsta w1 b' f' u' % 8 = u' := by unfold zsta; omega
  have m3 : ((w1 * 41 + b') * 3 + f') % 3 = f' := by omega
  have m41 : (w1 * 41 + b') % 41 = b' := by omega
  have st := e_M_laysPlan_210 195 x4 (nI (zsta w1 b' f' u')) I R n
  rw [t8, t3, t41, pk_rem (show zsta w1 b' f' u' < 2 ^ 31 by omega) (by decide) (by decide), pk_div (show zsta w1 b' f' u' < 2 ^ 31 by omega) (by decide) (by decide), d8, pk_rem (by omega) (by decide) (by decide), pk_div (by omega) (by decide) (by decide), d3, pk_rem (by omega) (by decide) (by decide), m8, m3, m41] at st
  exact st
end LMB
section LMC
variable {I : ZI} {R : ZR} {n N P w0 Wk co s0 O l : Nat} {c : Nat → Nat} {pl tp : Nat → Nat → Int32}
theorem zTM_217 {J : ZI} {w : Nat} (ht : zTM I pl tp N O co Wk c w) (hJ : ∀ j, J 215 j = I 215 j) : zTM J pl tp N O co Wk c w := fun w' d' h1 h2 => ⟨fun b f u a1 a2 a3 a4 a5 => by rw [hJ]; exact (ht w' d' h1 h2).1 b f u a1 a2 a3 a4 a5, (ht w' d' h1 h2).2⟩
theorem zPath_congr {TS TC TS' TC' : Nat → Int32} : ∀ e w B f u, (∀ i, w ≤ i → TS i = TS' i ∧ TC i = TC' i) → zPath pl tp c co N Wk e w B f u TS TC → zPath pl tp c co N Wk e w B f u TS' TC'
  | 0, _, _, _, _, _, _ => trivial
  | e + 1, w, B, f, u, hT, h => by
    obtain ⟨x, k, ch, a1, a2, a3, a4, a5⟩ := h
    exact ⟨x, k, ch, a1, a2, by rw [← (hT w (Nat.le_refl _)).1]; exact a3, by rw [← (hT w (Nat.le_refl _)).2]; exact a4, zPath_congr e (w + 1) _ _ _ (fun i hi => hT i (by omega)) a5⟩
/-- one week of the reference's plan: no loan played in it -/
theorem M_plan_week (h : WM R n) (g : zMp I N P w0 Wk co s0 O c pl tp) {w b f u : Nat} (hw : w < Wk) (hw0 : w0 ≤ w) (ht : zTM I pl tp N O co Wk c (w + 1)) (hb : b ≤ 40) (hbN : b < N ∨ b = 40) (hf1 : 1 ≤ f) (hf2 : f ≤ 2) (hu : u < 8) (hcp : w = w0 → ¬ I 208 7 = 2) {k ch : Nat} (hF : zFs N (zokT (decide (w = w0)) (I 208 7) s0 l u c) (zov (zVal pl tp c co N Wk (Wk - (w + 1))) (pl w) (tp w) c co (zbM N O c b) f u (if w = w0 then s0 else 0)) (I 215 (zsta w b f u)) k ch) : ∃ J, M_laysPlan_27 195 (nI b) (nI f) (nI u) (nI w) I R n = M_laysPlan_27 195 (nI (if ch = 3 then b else k)) (nI (znf f ((if w = w0 then s0 else 0) + zdf (c k) (zbM N O c b)) ch)) (nI (znu u ch)) (nI (w + 1)) J R n ∧ J 216 w = nI (c k) ∧ J 217 w = zwh ch ∧ ∀ q j, (q = 195 → j ≠ 33 ∧ j ≠ 34) → (q = 216 ∨ q = 217 → j ≠ w) → J q j = I q j := by
  obtain ⟨t1, t2⟩ := ht (w + 1) (Wk - (w + 1)) (Nat.le_refl _) (by omega)
  obtain ⟨y1, y2, y3, y4⟩ := g.2.2.2.2.2.2.1
  have lt := zsta_lt (show w ≤ 6 by omega) hb hf2 hu
  have sa := M_stateAt_ok (I := I) (R := R) (n := n) (w := w) (b := b) (f := f) (u := u) (x0 := nI w) (x1 := nI b) (x2 := nI f) (x3 := nI u) rfl rfl rfl rfl
  have ln := M_isLent_no (I := I) (R := R) (n := n) (w := w) (w0 := w0) h (by omega) (by omega) g.2.2.2.2.1.2.1 hcp
  have st := e_M_laysPlan_27 195 (nI b) (nI f) (nI u) (nI w) I R n
  simp only [h.k, h.2, zc_t, zr_s, zin198, zixs, Bool.true_or, Bool.true_and, g.2.2.2.2.2.1.2, if_pos (nI_lt hw (show Wk < 2 ^ 31 by omega)), ln, zbI_s, if_true, sa, zin215 (show w ≤ 6 by omega) hb hf2 hu, zix_nI (show zsta w b f u < 2 ^ 31 by omega)] at st
  have nf := fun k => znf_le f ((if w = w0 then s0 else 0) + zdf (c k) (zbM N O c b))
  have hb' : ∀ k ch, k < N → (if ch = 3 then b else k) ≤ 40 := fun k ch hk => by have := g.1.2.2; split <;> omega
  obtain ⟨J, e1, e2, e3, e4⟩ := M_find (I := I) (R := R) (n := n) (w := w) (b := b) (f := f) (u := u) (x := I 215 (zsta w b f u)) (stt := fun k ch => zsta (w + 1) (if ch = 3 then b else k) (znf f ((if w = w0 then s0 else 0) + zdf (c k) (zbM N O c b)) ch) (znu u ch)) h g.1.2.2 g.1.1 (by omega) (fun k ch hk hch => by
    have := zsta_lt (w := w + 1) (by omega) (hb' k ch hk) (nf k ch).2 (znu_lt hu hch)
    omega) (fun k hk => (g.2.1 k hk).1) (fun k ch J hk hch hJ => by
    have gJ := zMp_fr g (fun q j a1 _ _ _ => hJ q j a1)
    have tJ : tabM J (zVal pl tp c co N Wk (Wk - (w + 1))) N O c (w + 1) := fun b f u h1 h2 h3 h4 h5 => by
      rw [hJ 215 _ (fun z => absurd z (by decide))]
      exact t1 b f u h1 h2 h3 h4 h5
    have j7 : J 208 7 = I 208 7 := hJ 208 7 (by decide)
    have o := M_opt (l := l) h gJ hw hw0 hb hbN hf1 hf2 hu hk hch tJ (fun z => by rw [j7]; exact hcp z)
    rw [j7] at o
    refine ⟨o.1, fun ho => ?_⟩
    obtain ⟨K', p1, p2, p3, p4, p5⟩ := o.2 ho
    exact ⟨K', p1, p2, p3, p4, fun q j hq => by rw [p5 q j hq, hJ q j hq]⟩) hF
  have hch := hF.2.1
  have e5 := M_lp210 (I := J) (R := R) (n := n) (w1 := w + 1) (by omega) (hb' k ch hF.1) (nf k ch).2 (znu_lt hu hch) (nI w)
  rw [nI_1] at e5
  exact ⟨J, st.trans (e1.trans e5), e2, e3, e4⟩
theorem zVal_IM (g : zMp I N P w0 Wk co s0 O c pl tp) {w d : Nat} (hw : w + (d + 1) = Wk) (hw0 : w0 ≤ w) (hV : zVb (zVal pl tp c co N Wk d) (zbM N O c) (N + 1) 0 d) {b f u : Nat} (hbN : b < N ∨ b = 40) (hf1 : 1 ≤ f) (hf2 : f ≤ 2) (hu : u < 8) : zIM N (fun _ ch => zokc u ch) (zov (zVal pl tp c co N Wk d) (pl w) (tp w) c co (zbM N O c b) f u 0) (zVal pl tp c co N Wk (d + 1) (zbM N O c b) f u) := by
  have hr : ∃ r, r < N + 1 ∧ zbM N O c b = zbM N O c r := by
    rcases hbN with z | z
    · exact ⟨b, by omega, rfl⟩
    · refine ⟨N, by omega, ?_⟩
      unfold zbM
      rw [if_neg (by have := g.1.2.2; omega), if_neg (by omega)]
  obtain ⟨r, r1, r2⟩ := hr
  have wk := g.2.2.2.2.2.2.1.2.2.2
  obtain ⟨x, hx⟩ := zIM_ex (N := N) (ok := fun _ ch => zokc u ch) (v := zov (zVal pl tp c co N Wk d) (pl w) (tp w) c co (zbM N O c b) f u 0) (fun k ch hk hch _ => by
    rw [r2]
    exact (zlow_bd (zov_bd (zMp_Pn g) hw0 (show w < Wk by omega) hV (show d ≤ 6 by omega) r1 hf1 hf2 hu (Nat.and_zero _) (by omega) hk hch) (by omega)).1) ⟨0, 0, by have := g.1.2.1; omega, by decide, rfl⟩
  have ev : Wk - (d + 1) = w := by omega
  have hx2 := hx
  rw [← ev] at hx2
  rw [zVal_eq hx2]
  exact hx
theorem M_plan_rest (h : WM R n) : ∀ e w (I : ZI) b f u, zMp I N P w0 Wk co s0 O c pl tp → zTM I pl tp N O co Wk c (w0 + 1) → w + e = Wk → w0 < w → b ≤ 40 → (b < N ∨ b = 40) → 1 ≤ f → f ≤ 2 → u < 8 → ∃ J, M_laysPlan_27 195 (nI b) (nI f) (nI u) (nI w) I R n = some (none, J, R, n) ∧ zPath pl tp c co N Wk e w (zbM N O c b) f u (J 216) (J 217) ∧ (∀ j, j < w → J 216 j = I 216 j ∧ J 217 j = I 217 j) ∧ ∀ q j, (q = 195 → j ≠ 33 ∧ j ≠ 34) → q ≠ 216 → q ≠ 217 → J q j = I q j
  | 0, w, I, b, f, u, g, ht, he, hw0, hb, hbN, hf1, hf2, hu => by
    obtain ⟨y1, y2, y3, y4⟩ := g.2.2.2.2.2.2.1
    have st := e_M_laysPlan_27 195 (nI b) (nI f) (nI u) (nI w) I R n
    simp only [h.k, h.2, zc_t, zr_s, zin198, zixs, Bool.true_or, Bool.true_and, g.2.2.2.2.2.1.2, if_neg (nI_nlt (show Wk ≤ w by omega) (show w < 2 ^ 31 by omega))] at st
    exact ⟨I, st, trivial, fun _ _ => ⟨rfl, rfl⟩, fun _ _ _ _ _ => rfl⟩
  | e + 1, w, I, b, f, u, g, ht, he, hw0, hb, hbN, hf1, hf2, hu => by
    have ht2 : zTM I pl tp N O co Wk c (w + 1) := fun w' d' h1 h2 => ht w' d' (by omega) h2
    obtain ⟨-, t2⟩ := ht (w + 1) e (by omega) (by omega)
    obtain ⟨t3, -⟩ := ht w (e + 1) (by omega) (by omega)
    have im := zVal_IM g he (by omega) t2 hbN hf1 hf2 hu
    rw [← t3 b f u hb hbN hf1 hf2 hu] at im
    obtain ⟨k, ch, hF⟩ := zFs_ex im
    have ee : Wk - (w + 1) = e := by omega
    obtain ⟨J, e1, e2, e3, e4⟩ := M_plan_week (l := 0) (k := k) (ch := ch) h g (show w < Wk by omega) (by omega) ht2 hb hbN hf1 hf2 hu (fun z => by omega) (by
      rw [decide_eq_false (show ¬ w = w0 by omega), zokT_no, if_neg (show ¬ w = w0 by omega), ee]
      exact hF)
    rw [if_neg (show ¬ w = w0 by omega)] at e1
    have hk := hF.1
    have hch := hF.2.1
    have nf := znf_le f (0 + zdf (c k) (zbM N O c b)) ch
    have gJ := zMp_fr g (fun q j a1 a2 a3 a4 => e4 q j a1 (fun z => by omega))
    obtain ⟨K, k1, k2, k3, k4⟩ := M_plan_rest h e (w + 1) J (if ch = 3 then b else k) (znf f (0 + zdf (c k) (zbM N O c b)) ch) (znu u ch) gJ (zTM_217 ht (fun j => e4 215 j (fun z => absurd z (by decide)) (fun z => by omega))) (by omega) (by omega) (by have := g.1.2.2; split <;> omega) (by split <;> omega) nf.1 nf.2 (znu_lt hu hch)
    have eb : zbM N O c (if ch = 3 then b else k) = znb (zbM N O c b) (c k) ch := by
      unfold znb
      by_cases z : ch = 3
      · rw [if_pos z, if_pos z]
      · rw [if_neg z, if_neg z]; unfold zbM; rw [if_pos hk]
    rw [eb] at k2
    refine ⟨K, e1.trans k1, ⟨_, k, ch, im, hF, ?_, ?_, k2⟩, fun j hj => ?_, fun q j a1 a2 a3 => ?_⟩
    · rw [(k3 w (by omega)).1]; exact e2
    · rw [(k3 w (by omega)).2]; exact e3
    · rw [(k3 j (by omega)).1, (k3 j (by omega)).2]
      exact ⟨e4 216 j (fun z => absurd z (by decide)) (fun _ => by omega), e4 217 j (fun z => absurd z (by decide)) (fun _ => by omega)⟩
    · rw [k4 q j a1 a2 a3]; exact e4 q j a1 (fun z => by omega)
end LMC
