/-! ===== the reference's steps of a plan ===== -/
theorem z5sub (a p q : Int32) : a + p * 2 - q = a + p - q + (a + p - a) := by
  have e1 : p * 2 = p + p := by
    have : (2 : Int32) = 1 + 1 := by decide
    rw [this, Int32.mul_add, Int32.mul_one]
  have e2 : a + p - a = p := by rw [Int32.add_comm, Int32.add_sub_cancel]
  rw [e1, e2, ← Int32.add_assoc, Int32.sub_eq_add_neg, Int32.sub_eq_add_neg, Int32.add_assoc (a + p), Int32.add_comm p, ← Int32.add_assoc]
theorem zfb_M0 {f : Nat} (hf1 : 1 ≤ f) (hf2 : f ≤ 2) : zmin 2 (zmax 0 (nI f - 0) + 1) = nI 2 := by
  have := zfb_M hf1 hf2 (show 0 < 2 ^ 30 by decide)
  rw [nI_0, if_pos (show 0 < f by omega)] at this
  exact this
def mPl (I : ZI) (P : Nat) (c : Nat → Nat) (w k : Nat) : Int32 := zwith (c k) (fun i => I 206 (6 * i + w)) P
def mTp (I : ZI) (P : Nat) (c : Nat → Nat) (w k : Nat) : Int32 := zwith (c k) (fun i => I 206 (6 * i + w)) P - zsum (c k) (fun i => I 206 (6 * i + w)) P
section LMq
variable {I : ZI} {R : ZR} {n : Nat}
theorem M_isFirst_ok (h : WM R n) {w w0 : Nat} (hw : w < 2 ^ 31) (hw0 : w0 < 2 ^ 31) (h9 : I 208 9 = nI w0) : M_isFirst 195 (nI w) I R n = some (some (.int (zbo (decide (w = w0)))), I, R, n) := by
  rw [e_M_isFirst]
  simp only [h.k, h.2, zc_t, zr_s, zin208, zixs, Bool.true_or, Bool.true_and, h9, nI_eq hw hw0]
  by_cases c : w = w0
  · rw [if_pos c, decide_eq_true c]; rfl
  · rw [if_neg c, decide_eq_false c]; rfl
theorem M_steps102_ok (h : WM R n) {w k b B f u' S sz ch P co : Nat} {c : Nat → Nat} (hw : w < 6) (hk : k < 40) (hch : ch < 4) (hc : I 214 k = nI (c k)) (hc2 : c k < 65536) (hP : P ≤ 16) (hp : I 195 17 = nI P) (hne : zcap (c k) (fun i => I 206 (6 * i + w)) P ≠ none) (hA : M_ahead 195 (nI b) I R n = some (some (.int (nI B)), I, R, n)) (hf1 : 1 ≤ f) (hf2 : f ≤ 2) (hco : I 198 7 = nI co) (hsz : sz ≤ 1000) (hS : S = sz + zdf (c k) B) (hok : ch = 3 → sz = 0) : ∃ I', M_steps_102 195 (nI w) (nI b) (nI f) (nI k) (zwh ch) (nI sz) (nI u') I R n = some (some (.int 1), I', R, n) ∧ I' 195 33 = zsco (mPl I P c w k) (mTp I P c w k) co f S ch ∧ I' 195 34 = nI (zsta (w + 1) (if ch = 3 then b else k) (znf f S ch) u') ∧ ∀ q j, (q = 195 → j ≠ 33 ∧ j ≠ 34) → I' q j = I q j := by
  have zs := zwh_s ch hch
  have hdf := zdf_le (c k) B
  have i1 : zin 214 (nI k) = true := zin_nI (by show _ < 40; omega) (by omega)
  have fr : ∀ x y q j, (q = 195 → j ≠ 33 ∧ j ≠ 34) → (zup (zup I 195 33 x) 195 34 y) q j = I q j := fun x y q j hq => by
    by_cases z : q = 195
    · rw [zup_k _ (hq z).2, zup_k _ (hq z).1]
    · rw [zup_n _ z, zup_n _ z]
  have st := e_M_steps_102 195 (nI w) (nI b) (nI f) (nI k) (zwh ch) (nI sz) (nI u') I R n
  by_cases c3 : ch = 3
  · rw [if_pos (zs.2.2.2.2.2.1.2 c3), hok c3, nI_0, if_neg (by decide)] at st
    have wb := M_withBest_ok (I := I) (R := R) (n := n) h (S := c k) (by omega) hP hp hw hne
    have fb := M_freeBehind_ok (I := zup I 195 33 (zwith (c k) (fun i => I 206 (6 * i + w)) P)) (R := R) (n := n) (nI f) 0 2
    rw [if_neg (by decide), if_pos rfl, zfb_M0 hf1 hf2] at fb
    have sa := M_stateAt_ok (I := zup I 195 33 (zwith (c k) (fun i => I 206 (6 * i + w)) P)) (R := R) (n := n) (w := w + 1) (b := b) (f := 2) (u := u') (x0 := nI (w + 1)) (x1 := nI b) (x2 := nI 2) (x3 := nI u') rfl rfl rfl rfl
    simp only [h.k, h.2, zc_t, zr_s, i1, Bool.true_or, Bool.true_and, zix_nI (show k < 2 ^ 31 by omega), hc, wb, zbI_s, fb, sa, nI_1] at st
    rw [hok c3, nI_0]
    refine ⟨_, st, ?_, ?_, fr _ _⟩
    · rw [zup_k _ (by decide), zup_s]
      unfold zsco
      rw [if_neg (by omega), if_neg (by omega)]
      rfl
    · rw [zup_s, if_pos c3]
      unfold znf
      rw [if_neg (by omega)]
  · rw [if_neg (fun q => c3 (zs.2.2.2.2.2.1.1 q))] at st
    have hlt : c k &&& (65535 ^^^ B) < 65536 := Nat.lt_of_le_of_lt Nat.and_le_left hc2
    have mi := M_manyIn_ok (I := I) (R := R) (n := n) (S := c k &&& (65535 ^^^ B)) (by omega)
    have bc := M_bestCaptain_ok (I := I) (R := R) (n := n) h (S := c k) (by omega) hP hp hw
    have po := M_pointsOf_ok (I := I) (R := R) (n := n) h (S := c k) (by omega) hP hp hw
    obtain ⟨bb, hb⟩ : ∃ bb, zcap (c k) (fun i => I 206 (6 * i + w)) P = some bb := by
      cases q : zcap (c k) (fun i => I 206 (6 * i + w)) P with
      | none => exact absurd q hne
      | some bb => exact ⟨bb, rfl⟩
    have hbl := (zcap_lt hb).1
    rw [hb, zo_some] at bc
    have eS : nI sz + nI (zcnt (c k &&& (65535 ^^^ B)) (fun _ => true) 16) = nI S := by rw [nI_add, hS]; rfl
    simp only [h.k, h.2, zc_t, zr_s, i1, Bool.true_or, Bool.true_and, zix_nI (show k < 2 ^ 31 by omega), hc, hA, zbI_s, zandn hc2, mi, bc, po, zpt, zin206 (show bb < 16 by omega) hw, zix_nI (show 6 * bb + w < 2 ^ 31 by omega), eS] at st
    have epl : mPl I P c w k = zsum (c k) (fun i => I 206 (6 * i + w)) P + I 206 (6 * bb + w) := by
      unfold mPl zwith
      rw [hb]
    have etp : mTp I P c w k = zsum (c k) (fun i => I 206 (6 * i + w)) P + I 206 (6 * bb + w) - zsum (c k) (fun i => I 206 (6 * i + w)) P := by
      unfold mTp zwith
      rw [hb]
    rw [epl, etp]
    generalize zsum (c k) (fun i => I 206 (6 * i + w)) P = a at st
    generalize I 206 (6 * bb + w) = p at st
    have fin : ∀ s1 s2 : Int32, ∃ I', M_steps_245 195 (nI w) (nI f) (nI k) (zwh ch) (nI S) (nI u') 195 s1 s2 I R n = some (some (.int 1), I', R, n) ∧ I' 195 33 = s1 - s2 ∧ I' 195 34 = nI (zsta (w + 1) (if ch = 3 then b else k) (znf f S ch) u') ∧ ∀ q j, (q = 195 → j ≠ 33 ∧ j ≠ 34) → I' q j = I q j := by
      intro s1 s2
      have fb := M_freeBehind_ok (I := zup I 195 33 (s1 - s2)) (R := R) (n := n) (nI f) (nI S) (zwh ch)
      have efb : zmin 2 (zmax 0 (nI f - (if zwh ch = 1 then 0 else if zwh ch = 2 then 0 else nI S)) + 1) = nI (znf f S ch) := by
        unfold znf
        by_cases c2 : ch = 2
        · rw [if_pos (zs.2.2.2.2.1.2 c2), zfb_M0 hf1 hf2, if_neg (by omega)]
        · rw [if_neg (fun q => c2 (zs.2.2.2.2.1.1 q)), if_neg (fun q => c3 (zs.2.2.2.2.2.1.1 q)), zfb_M hf1 hf2 (by omega), if_pos (show ch < 2 by omega)]
      rw [efb] at fb
      have sa := M_stateAt_ok (I := zup I 195 33 (s1 - s2)) (R := R) (n := n) (w := w + 1) (b := k) (f := znf f S ch) (u := u') (x0 := nI (w + 1)) (x1 := nI k) (x2 := nI (znf f S ch)) (x3 := nI u') rfl rfl rfl rfl
      have s := e_M_steps_245 195 (nI w) (nI f) (nI k) (zwh ch) (nI S) (nI u') 195 s1 s2 I R n
      simp only [h.k, zc_t, fb, zbI_s, sa, nI_1] at s
      refine ⟨_, s, ?_, ?_, fr _ _⟩
      · rw [zup_k _ (by decide), zup_s]
      · rw [zup_s, if_neg c3]
    have pd := M_paid_ok (I := I) (R := R) (n := n) h (nI S) (nI f)
    rw [zmx0 (by omega) (by omega), hco, pk_mul, Nat.mul_comm] at pd
    have c3' : ch = 0 ∨ ch = 1 ∨ ch = 2 := by omega
    rcases c3' with rfl | rfl | rfl
    · rw [if_neg (by decide), e_M_steps_226, if_neg (by decide)] at st
      simp only [h.k, zc_t, pd, zbI_s] at st
      obtain ⟨I', q1, q2, q3, q4⟩ := fin (a + p * 1) (nI ((S - f) * co))
      exact ⟨I', st.trans q1, by rw [q2, Int32.mul_one]; rfl, q3, q4⟩
    · rw [if_pos (by decide), e_M_steps_226, if_neg (by decide)] at st
      simp only [h.k, zc_t, pd, zbI_s] at st
      obtain ⟨I', q1, q2, q3, q4⟩ := fin (a + p * 2) (nI ((S - f) * co))
      exact ⟨I', st.trans q1, by rw [q2, z5sub]; rfl, q3, q4⟩
    · rw [if_neg (by decide), e_M_steps_226, if_pos (by decide)] at st
      obtain ⟨I', q1, q2, q3, q4⟩ := fin (a + p * 1) 0
      exact ⟨I', st.trans q1, by rw [q2, Int32.mul_one, Int32.sub_zero]; rfl, q3, q4⟩
end LMq
