/-! ===== the reference's steps and values at any point: they run ===== -/
theorem zfb_W {f s : Nat} (hf2 : f ≤ 2) (hs : s < 2 ^ 30) : ∃ g, g ≤ 2 ∧ (1 ≤ f → s = 0 → g = 2) ∧ zmin 2 (zmax 0 (nI f - nI s) + 1) = nI g := by
  rw [zmx0 (by omega) hs, nI_1]
  unfold zmin
  have t2 : (2 : Int32) = nI 2 := by decide
  rw [t2]
  by_cases c : f - s + 1 < 2
  · rw [if_pos (nI_lt c (by decide))]; exact ⟨_, by omega, by omega, rfl⟩
  · rw [if_neg (nI_nlt (show 2 ≤ f - s + 1 by omega) (by omega))]; exact ⟨2, by omega, by omega, rfl⟩
theorem zfb_W0 {f : Nat} (hf2 : f ≤ 2) : ∃ g, g ≤ 2 ∧ (1 ≤ f → g = 2) ∧ zmin 2 (zmax 0 (nI f - 0) + 1) = nI g := by
  obtain ⟨g, h1, h2, h3⟩ := zfb_W (s := 0) hf2 (by decide)
  rw [nI_0] at h3
  exact ⟨g, h1, fun q => h2 q rfl, h3⟩
section LMy
variable {I : ZI} {R : ZR} {n : Nat}
theorem zin215 {w b f u : Nat} (hw : w ≤ 6) (hb : b ≤ 40) (hf : f ≤ 2) (hu : u < 8) : zin 215 (nI (zsta w b f u)) = true := zin_nI (by show _ < 6888; exact zsta_lt hw hb hf hu) (by have := zsta_lt hw hb hf hu; omega)
theorem M_steps102_weak (h : WM R n) {w k b B f u' sz ch P : Nat} {c : Nat → Nat} (hw : w < 6) (hk : k < 40) (hb : b ≤ 40) (hch : ch < 4) (hu : u' < 8) (hc : I 214 k = nI (c k)) (hc2 : c k < 65536) (hP : P ≤ 16) (hp : I 195 17 = nI P) (hne : zcap (c k) (fun i => I 206 (6 * i + w)) P ≠ none) (hA : M_ahead 195 (nI b) I R n = some (some (.int (nI B)), I, R, n)) (hf2 : f ≤ 2) (hsz : sz ≤ 1000) : ∃ v I', M_steps_102 195 (nI w) (nI b) (nI f) (nI k) (zwh ch) (nI sz) (nI u') I R n = some (some (.int v), I', R, n) ∧ (¬ v = 0 → zin 215 (I' 195 34) = true) ∧ ∀ q j, (q = 195 → j ≠ 33 ∧ j ≠ 34) → I' q j = I q j := by
  have zs := zwh_s ch hch
  have hdf := zdf_le (c k) B
  have i1 : zin 214 (nI k) = true := zin_nI (by show _ < 40; omega) (by omega)
  have fr : ∀ x y q j, (q = 195 → j ≠ 33 ∧ j ≠ 34) → (zup (zup I 195 33 x) 195 34 y) q j = I q j := fun x y q j hq => by
    by_cases z : q = 195
    · rw [zup_k _ (hq z).2, zup_k _ (hq z).1]
    · rw [zup_n _ z, zup_n _ z]
  have st := e_M_steps_102 195 (nI w) (nI b) (nI f) (nI k) (zwh ch) (nI sz) (nI u') I R n
  by_cases c3 : ch = 3
  · rw [if_pos (zs.2.2.2.2.2.1.2 c3)] at st
    by_cases c0 : 0 < nI sz
    · rw [if_pos c0] at st
      exact ⟨0, I, st, fun q => absurd rfl q, fun _ _ _ => rfl⟩
    · rw [if_neg c0] at st
      have wb := M_withBest_ok (I := I) (R := R) (n := n) h (S := c k) (by omega) hP hp hw hne
      obtain ⟨g, g1, -, g3⟩ := zfb_W0 hf2
      have fb := M_freeBehind_ok (I := zup I 195 33 (zwith (c k) (fun i => I 206 (6 * i + w)) P)) (R := R) (n := n) (nI f) 0 2
      rw [if_neg (by decide), if_pos rfl, g3] at fb
      have sa := M_stateAt_ok (I := zup I 195 33 (zwith (c k) (fun i => I 206 (6 * i + w)) P)) (R := R) (n := n) (w := w + 1) (b := b) (f := g) (u := u') (x0 := nI (w + 1)) (x1 := nI b) (x2 := nI g) (x3 := nI u') rfl rfl rfl rfl
      simp only [h.k, h.2, zc_t, zr_s, i1, Bool.true_or, Bool.true_and, zix_nI (show k < 2 ^ 31 by omega), hc, wb, zbI_s, fb, sa, nI_1] at st
      exact ⟨1, _, st, fun _ => by rw [zup_s]; exact zin215 (by omega) hb g1 hu, fr _ _⟩
  · rw [if_neg (fun q => c3 (zs.2.2.2.2.2.1.1 q))] at st
    have hlt : c k &&& (65535 ^^^ B) < 65536 := Nat.lt_of_le_of_lt Nat.and_le_left hc2
    have mi := M_manyIn_ok (I := I) (R := R) (n := n) (S := c k &&& (65535 ^^^ B)) (by omega)
    have bc := M_bestCaptain_ok (I := I) (R := R) (n := n) h (S := c k) (by omega) hP hp hw
    have po := M_pointsOf_ok (I := I) (R := R) (n := n) h (S := c k) (by omega) hP hp hw
    obtain ⟨bb, hb'⟩ : ∃ bb, zcap (c k) (fun i => I 206 (6 * i + w)) P = some bb := by
      cases q : zcap (c k) (fun i => I 206 (6 * i + w)) P with
      | none => exact absurd q hne
      | some bb => exact ⟨bb, rfl⟩
    have hbl := (zcap_lt hb').1
    rw [hb', zo_some] at bc
    obtain ⟨S, hS⟩ : ∃ S, S = sz + zdf (c k) B := ⟨_, rfl⟩
    have eS : nI sz + nI (zcnt (c k &&& (65535 ^^^ B)) (fun _ => true) 16) = nI S := by rw [nI_add, hS]; rfl
    simp only [h.k, h.2, zc_t, zr_s, i1, Bool.true_or, Bool.true_and, zix_nI (show k < 2 ^ 31 by omega), hc, hA, zbI_s, zandn hc2, mi, bc, po, zpt, zin206 (show bb < 16 by omega) hw, zix_nI (show 6 * bb + w < 2 ^ 31 by omega), eS] at st
    have fin : ∀ s1 s2 : Int32, ∃ I', M_steps_245 195 (nI w) (nI f) (nI k) (zwh ch) (nI S) (nI u') 195 s1 s2 I R n = some (some (.int 1), I', R, n) ∧ zin 215 (I' 195 34) = true ∧ ∀ q j, (q = 195 → j ≠ 33 ∧ j ≠ 34) → I' q j = I q j := by
      intro s1 s2
      have fb := M_freeBehind_ok (I := zup I 195 33 (s1 - s2)) (R := R) (n := n) (nI f) (nI S) (zwh ch)
      obtain ⟨g, g1, efb⟩ : ∃ g, g ≤ 2 ∧ zmin 2 (zmax 0 (nI f - (if zwh ch = 1 then 0 else if zwh ch = 2 then 0 else nI S)) + 1) = nI g := by
        by_cases c2 : ch = 2
        · rw [if_pos (zs.2.2.2.2.1.2 c2)]
          obtain ⟨g, g1, -, g3⟩ := zfb_W0 hf2
          exact ⟨g, g1, g3⟩
        · rw [if_neg (fun q => c2 (zs.2.2.2.2.1.1 q)), if_neg (fun q => c3 (zs.2.2.2.2.2.1.1 q))]
          obtain ⟨g, g1, -, g3⟩ := zfb_W (s := S) hf2 (by omega)
          exact ⟨g, g1, g3⟩
      rw [efb] at fb
      have sa := M_stateAt_ok (I := zup I 195 33 (s1 - s2)) (R := R) (n := n) (w := w + 1) (b := k) (f := g) (u := u') (x0 := nI (w + 1)) (x1 := nI k) (x2 := nI g) (x3 := nI u') rfl rfl rfl rfl
      have s := e_M_steps_245 195 (nI w) (nI f) (nI k) (zwh ch) (nI S) (nI u') 195 s1 s2 I R n
      simp only [h.k, zc_t, fb, zbI_s, sa, nI_1] at s
      exact ⟨_, s, by rw [zup_s]; exact zin215 (by omega) (by omega) g1 hu, fr _ _⟩
    have pd := M_paid_ok (I := I) (R := R) (n := n) h (nI S) (nI f)
    have c226 : ∀ s1 s2 s3 : Int32, ∃ v I', M_steps_226 195 (nI w) (nI f) (nI k) (zwh ch) (nI S) (nI u') 195 s1 s2 s3 I R n = some (some (.int v), I', R, n) ∧ (¬ v = 0 → zin 215 (I' 195 34) = true) ∧ ∀ q j, (q = 195 → j ≠ 33 ∧ j ≠ 34) → I' q j = I q j := by
      intro s1 s2 s3
      have s := e_M_steps_226 195 (nI w) (nI f) (nI k) (zwh ch) (nI S) (nI u') 195 s1 s2 s3 I R n
      by_cases c2 : zwh ch = 1
      · rw [if_pos c2] at s
        obtain ⟨I', q1, q2, q3⟩ := fin (s1 + s2 * s3) 0
        exact ⟨1, I', s.trans q1, fun _ => q2, q3⟩
      · rw [if_neg c2] at s
        simp only [h.k, zc_t, pd, zbI_s] at s
        obtain ⟨I', q1, q2, q3⟩ := fin (s1 + s2 * s3) (I 198 7 * zmax 0 (nI S - nI f))
        exact ⟨1, I', s.trans q1, fun _ => q2, q3⟩
    by_cases c2 : zwh ch = 0
    · rw [if_pos c2] at st
      obtain ⟨v, I', q1, q2⟩ := c226 (zsum (c k) (fun i => I 206 (6 * i + w)) P) (I 206 (6 * bb + w)) 2
      exact ⟨v, I', st.trans q1, q2⟩
    · rw [if_neg c2] at st
      obtain ⟨v, I', q1, q2⟩ := c226 (zsum (c k) (fun i => I 206 (6 * i + w)) P) (I 206 (6 * bb + w)) 1
      exact ⟨v, I', st.trans q1, q2⟩
theorem M_steps_weak (h : WM R n) {w w0 k b B f u s0 ch P : Nat} {c : Nat → Nat} (hw : w < 6) (hw0 : w0 < 2 ^ 31) (hk : k < 40) (hb : b ≤ 40) (hch : ch < 4) (hu : u < 8) (hc : I 214 k = nI (c k)) (hc2 : c k < 65536) (hP : P ≤ 16) (hp : I 195 17 = nI P) (hne : zcap (c k) (fun i => I 206 (6 * i + w)) P ≠ none) (hA : M_ahead 195 (nI b) I R n = some (some (.int (nI B)), I, R, n)) (hf2 : f ≤ 2) (hs0 : s0 ≤ 1000) (h9 : I 208 9 = nI w0) (h5 : I 208 5 = nI s0) : ∃ v I', M_steps 195 (nI w) (nI b) (nI f) (nI u) (nI k) (zwh ch) I R n = some (some (.int v), I', R, n) ∧ (¬ v = 0 → zin 215 (I' 195 34) = true) ∧ ∀ q j, (q = 195 → j ≠ 33 ∧ j ≠ 34) → I' q j = I q j := by
  have zs := zwh_s ch hch
  have hsz : (if w = w0 then s0 else 0) ≤ 1000 := by split <;> omega
  have e64 := M_steps64_eq (I := I) (R := R) (n := n) (k := k) (b := b) (f := f) h hw hw0 hch hu h9 h5
  obtain ⟨v6, I6, g1, g2, g3⟩ := M_steps102_weak (I := I) (R := R) (n := n) (u' := znu u ch) h hw hk hb hch (znu_lt hu hch) hc hc2 hP hp hne hA hf2 hsz
  have go := e64.trans g1
  have st := e_M_steps 195 (nI w) (nI b) (nI f) (nI u) (nI k) (zwh ch) I R n
  simp only [h.k, h.2, zc_t, zr_s, M_isFirst_ok h (show w < 2 ^ 31 by omega) hw0 h9, zbI_s, zin208, zixs, Bool.true_or, Bool.true_and] at st
  have c24 : ∀ x : Int32, ∃ v I', M_steps_24 195 (nI w) (nI b) (nI f) (nI u) (nI k) (zwh ch) x I R n = some (some (.int v), I', R, n) ∧ (¬ v = 0 → zin 215 (I' 195 34) = true) ∧ ∀ q j, (q = 195 → j ≠ 33 ∧ j ≠ 34) → I' q j = I q j := by
    intro x
    have s := e_M_steps_24 195 (nI w) (nI b) (nI f) (nI u) (nI k) (zwh ch) x I R n
    by_cases cx : x = 0
    · rw [if_pos cx] at s
      by_cases c0 : ch = 0
      · rw [if_pos (zs.2.2.1.2 c0)] at s
        exact ⟨v6, I6, s.trans go, g2, g3⟩
      · rw [if_neg (fun q => c0 (zs.2.2.1.1 q))] at s
        have mh := M_has_ok (I := I) (R := R) (n := n) (S := u) (j := ch - 1) (by omega) (by omega)
        rw [← zs.2.2.2.2.2.2 (by omega)] at mh
        rw [mh, zbI_s] at s
        cases hb : u.testBit (ch - 1) with
        | true =>
          rw [hb, if_pos rfl, if_neg (by decide)] at s
          exact ⟨0, I, s, fun q => absurd rfl q, fun _ _ _ => rfl⟩
        | false =>
          rw [hb, if_neg (show ¬ (false = true) by decide), if_pos rfl] at s
          exact ⟨v6, I6, s.trans go, g2, g3⟩
    · rw [if_neg cx] at s
      simp only [h.k, h.2, zc_t, zr_s, zin208, zixs, Bool.true_or, Bool.true_and] at s
      by_cases cq : zwh ch = I 208 7
      · rw [if_pos cq] at s
        exact ⟨v6, I6, s.trans go, g2, g3⟩
      · rw [if_neg cq] at s
        exact ⟨0, I, s, fun q => absurd rfl q, fun _ _ _ => rfl⟩
  have fin : ∃ x, M_steps 195 (nI w) (nI b) (nI f) (nI u) (nI k) (zwh ch) I R n = M_steps_24 195 (nI w) (nI b) (nI f) (nI u) (nI k) (zwh ch) x I R n := by
    by_cases c1 : zbo (decide (w = w0)) = 0
    · rw [if_pos c1] at st; exact ⟨0, st⟩
    · rw [if_neg c1] at st
      by_cases c2 : I 208 7 = -1
      · rw [if_pos c2] at st; exact ⟨0, st⟩
      · rw [if_neg c2] at st; exact ⟨1, st⟩
  obtain ⟨x, ex⟩ := fin
  obtain ⟨v, I', q1, q2⟩ := c24 x
  exact ⟨v, I', ex.trans q1, q2⟩
theorem M_laysValue_weak {N w b f u : Nat} (h : WM R n) (hN : N ≤ 40) (hw : w ≤ 6) (hb : b ≤ 40) (hf : f ≤ 2) (hu : u < 8) (h32 : I 195 32 = nI N) (hlent : ∀ J : ZI, (∀ q j, (q = 195 → j ≠ 33 ∧ j ≠ 34) → J q j = I q j) → M_isLent 195 (nI w) J R n = some (some (.int 0), J, R, n)) (hst : ∀ k ch (J : ZI), k < N → ch < 4 → (∀ q j, (q = 195 → j ≠ 33 ∧ j ≠ 34) → J q j = I q j) → ∃ v J', M_steps 195 (nI w) (nI b) (nI f) (nI u) (nI k) (zwh ch) J R n = some (some (.int v), J', R, n) ∧ (¬ v = 0 → zin 215 (J' 195 34) = true) ∧ ∀ q j, (q = 195 → j ≠ 33 ∧ j ≠ 34) → J' q j = J q j) : ∃ J, M_laysValue 195 (nI w) (nI b) (nI f) (nI u) I R n = some (none, J, R, n) ∧ ∀ q j, (q = 195 → j ≠ 33 ∧ j ≠ 34) → (q = 215 → j ≠ zsta w b f u) → J q j = I q j := by
  have inner : ∀ K, K < N → ∀ m (J : ZI), (∀ q j, (q = 195 → j ≠ 33 ∧ j ≠ 34) → J q j = I q j) → ∀ H, H ≤ 4 → ∃ m' J', M_laysValue_46 195 (nI w) (nI b) (nI f) (nI u) m (nI K) (zwh 0) J R n = M_laysValue_46 195 (nI w) (nI b) (nI f) (nI u) m' (nI K) (zwh H) J' R n ∧ ∀ q j, (q = 195 → j ≠ 33 ∧ j ≠ 34) → J' q j = I q j := by
    intro K hK m J hJ H
    induction H with
    | zero => intro _; exact ⟨m, J, rfl, hJ⟩
    | succ H ih =>
      intro hH
      obtain ⟨m1, J1, e, f1⟩ := ih (by omega)
      have zs := zwh_s H (by omega)
      obtain ⟨v, J2, q1, q2, q3⟩ := hst K H J1 hK (by omega) f1
      have f2 : ∀ q j, (q = 195 → j ≠ 33 ∧ j ≠ 34) → J2 q j = I q j := fun q j hq => by rw [q3 q j hq, f1 q j hq]
      have st := e_M_laysValue_46 195 (nI w) (nI b) (nI f) (nI u) m1 (nI K) (zwh H) J1 R n
      rw [if_neg (zwh_4.2.2 H (by omega))] at st
      by_cases c : v = 0
      · simp only [h.k, zc_t, q1, zbI_s, if_pos c, zs.1] at st
        exact ⟨m1, J2, e.trans st, f2⟩
      · simp only [h.k, h.2, zc_t, zr_s, q1, zbI_s, if_neg c, q2 c, Bool.true_or, Bool.true_and, zs.1] at st
        exact ⟨_, J2, e.trans st, f2⟩
  have outer : ∀ K, K ≤ N → ∃ m J', M_laysValue 195 (nI w) (nI b) (nI f) (nI u) I R n = M_laysValue_26 195 (nI w) (nI b) (nI f) (nI u) m (nI K) J' R n ∧ ∀ q j, (q = 195 → j ≠ 33 ∧ j ≠ 34) → J' q j = I q j := by
    intro K
    induction K with
    | zero =>
      intro _
      refine ⟨-1000000, I, ?_, fun _ _ _ => rfl⟩
      rw [e_M_laysValue, nI_0]
      simp only [h.k, zc_t, hlent I (fun _ _ _ => rfl), zbI_s, if_true]
    | succ K ih =>
      intro hK
      obtain ⟨m, J, e, f1⟩ := ih (by omega)
      obtain ⟨m', J', e2, f2⟩ := inner K (by omega) m J f1 4 (Nat.le_refl _)
      have e0 : zwh 0 = -1 := by decide
      rw [e0] at e2
      have j32 : J 195 32 = nI N := by rw [f1 195 32 (by decide)]; exact h32
      have st := e_M_laysValue_26 195 (nI w) (nI b) (nI f) (nI u) m (nI K) J R n
      simp only [h.k, zc_t, j32, if_pos (nI_lt (show K < N by omega) (show N < 2 ^ 31 by omega)), hlent J f1, zbI_s, if_true] at st
      have s4 := e_M_laysValue_46 195 (nI w) (nI b) (nI f) (nI u) m' (nI K) (zwh 4) J' R n
      rw [if_pos zwh_4.2.1, nI_1] at s4
      exact ⟨m', J', e.trans (st.trans (e2.trans s4)), f2⟩
  obtain ⟨m, J, e, f1⟩ := outer N (Nat.le_refl _)
  have lt := zsta_lt hw hb hf hu
  have j32 : J 195 32 = nI N := by rw [f1 195 32 (by decide)]; exact h32
  have s1 := e_M_laysValue_26 195 (nI w) (nI b) (nI f) (nI u) m (nI N) J R n
  rw [j32, if_neg (nI_nlt (Nat.le_refl _) (by omega))] at s1
  simp only [h.k, zc_t] at s1
  have sa := M_stateAt_ok (I := J) (R := R) (n := n) (w := w) (b := b) (f := f) (u := u) (x0 := nI w) (x1 := nI b) (x2 := nI f) (x3 := nI u) rfl rfl rfl rfl
  have s2 := e_M_laysValue_101 195 (nI w) (nI b) (nI f) (nI u) m J R n
  simp only [h.k, h.2, zc_t, zr_s, sa, zbI_s, zin215 hw hb hf hu, Bool.true_and, zix_nI (show zsta w b f u < 2 ^ 31 by omega)] at s2
  refine ⟨_, e.trans (s1.trans s2), fun q j h1 h2 => ?_⟩
  by_cases z : q = 215
  · rw [zup_k _ (h2 z), f1 q j h1]
  · rw [zup_n _ z, f1 q j h1]
theorem M_isLent_yes (h : WM R n) {w : Nat} (hw : w < 2 ^ 31) (h9 : I 208 9 = nI w) (h7 : I 208 7 = 2) : M_isLent 195 (nI w) I R n = some (some (.int 1), I, R, n) := by
  rw [e_M_isLent]
  simp only [h.k, h.2, zc_t, zr_s, M_isFirst_ok h hw hw h9, zbI_s, zin208, zixs, Bool.true_or, Bool.true_and]
  rw [if_neg (show ¬ zbo (decide True) = 0 by decide), if_pos h7]
theorem M_laysValue_lent {N w b f u P l : Nat} (h : WM R n) (hw : w < 6) (hb : b ≤ 40) (hf : f ≤ 2) (hu : u < 8) (h9 : I 208 9 = nI w) (h7 : I 208 7 = 2) (hP : P ≤ 16) (hp : I 195 17 = nI P) (h8 : I 208 8 = nI l) (hl : l < 65536) (hne : zcap l (fun i => I 206 (6 * i + w)) P ≠ none) : ∃ J, M_laysValue 195 (nI w) (nI b) (nI f) (nI u) I R n = some (none, J, R, n) ∧ (1 ≤ f → J 215 (zsta w b f u) = zwith l (fun i => I 206 (6 * i + w)) P + I 215 (zsta (w + 1) b 2 u)) ∧ ∀ q j, (q = 215 → j ≠ zsta w b f u) → J q j = I q j := by
  have lt := zsta_lt (show w ≤ 6 by omega) hb hf hu
  have le := M_isLent_yes (I := I) (R := R) h (show w < 2 ^ 31 by omega) h9 h7
  have wb := M_withBest_ok (I := I) (R := R) (n := n) h (S := l) (by omega) hP hp hw hne
  obtain ⟨g, g1, g2, g3⟩ := zfb_W0 hf
  have fb := M_freeBehind_ok (I := I) (R := R) (n := n) (nI f) 0 2
  rw [if_neg (by decide), if_pos rfl, g3] at fb
  have lt2 := zsta_lt (show w + 1 ≤ 6 by omega) hb g1 hu
  have sa := M_stateAt_ok (I := I) (R := R) (n := n) (w := w + 1) (b := b) (f := g) (u := u) (x0 := nI (w + 1)) (x1 := nI b) (x2 := nI g) (x3 := nI u) rfl rfl rfl rfl
  have ls := e_M_lentScore 195 (nI w) (nI b) (nI f) (nI u) I R n
  simp only [h.k, h.2, zc_t, zr_s, zin208, zixs, Bool.true_or, Bool.true_and, h8, wb, zbI_s, fb, nI_1, sa, zin215 (show w + 1 ≤ 6 by omega) hb g1 hu, zix_nI (show zsta (w + 1) b g u < 2 ^ 31 by omega)] at ls
  have st := e_M_laysValue 195 (nI w) (nI b) (nI f) (nI u) I R n
  simp only [h.k, zc_t, le, zbI_s, if_neg (show ¬ (1 : Int32) = 0 by decide), ls] at st
  have s1 := e_M_laysValue_26 195 (nI w) (nI b) (nI f) (nI u) (zwith l (fun i => I 206 (6 * i + w)) P + I 215 (zsta (w + 1) b g u)) 0 I R n
  simp only [h.k, zc_t, le, zbI_s, if_neg (show ¬ (1 : Int32) = 0 by decide)] at s1
  rw [ite_self] at s1
  have sb := M_stateAt_ok (I := I) (R := R) (n := n) (w := w) (b := b) (f := f) (u := u) (x0 := nI w) (x1 := nI b) (x2 := nI f) (x3 := nI u) rfl rfl rfl rfl
  have s2 := e_M_laysValue_101 195 (nI w) (nI b) (nI f) (nI u) (zwith l (fun i => I 206 (6 * i + w)) P + I 215 (zsta (w + 1) b g u)) I R n
  simp only [h.k, h.2, zc_t, zr_s, sb, zbI_s, zin215 (show w ≤ 6 by omega) hb hf hu, Bool.true_and, zix_nI (show zsta w b f u < 2 ^ 31 by omega)] at s2
  refine ⟨_, st.trans (s1.trans s2), fun q => ?_, fun q j h2 => ?_⟩
  · rw [zup_s, g2 q]
  · by_cases z : q = 215
    · rw [zup_k _ (h2 z)]
    · rw [zup_n _ z]
end LMy
