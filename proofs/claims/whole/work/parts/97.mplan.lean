/-! ===== the reference's steps: which options there are ===== -/
section LMr
variable {I : ZI} {R : ZR} {n : Nat}
theorem M_steps64_eq (h : WM R n) {w w0 k b f u s0 ch : Nat} (hw : w < 6) (hw0 : w0 < 2 ^ 31) (hch : ch < 4) (hu : u < 8) (h9 : I 208 9 = nI w0) (h5 : I 208 5 = nI s0) : M_steps_64 195 (nI w) (nI b) (nI f) (nI u) (nI k) (zwh ch) I R n = M_steps_102 195 (nI w) (nI b) (nI f) (nI k) (zwh ch) (nI (if w = w0 then s0 else 0)) (nI (znu u ch)) I R n := by
  have zs := zwh_s ch hch
  have e82 : ∀ x : Int32, M_steps_82 195 (nI w) (nI b) (nI f) (nI u) (nI k) (zwh ch) x I R n = M_steps_102 195 (nI w) (nI b) (nI f) (nI k) (zwh ch) x (nI (znu u ch)) I R n := by
    intro x
    rw [e_M_steps_82]
    unfold znu
    by_cases c : ch = 0
    · rw [if_pos (zs.2.2.1.2 c), if_pos c]
    · rw [if_neg (fun q => c (zs.2.2.1.1 q)), if_neg c, (zor_wh u hu ch hch (by omega)).1]
  rw [e_M_steps_64]
  simp only [h.k, h.2, zc_t, zr_s, M_isFirst_ok h (show w < 2 ^ 31 by omega) hw0 h9, zbI_s, zin208, zixs, Bool.true_or, Bool.true_and, h5, e82]
  by_cases c : w = w0
  · rw [decide_eq_true c, if_neg (show ¬ zbo true = 0 by decide), if_pos c]
  · rw [decide_eq_false c, if_pos (show zbo false = 0 by decide), if_neg c, nI_0]
theorem M_steps_ok (h : WM R n) {w w0 k b B f u s0 l ch P co : Nat} {c : Nat → Nat} (hw : w < 6) (hw0 : w0 < 2 ^ 31) (hk : k < 40) (hch : ch < 4) (hu : u < 8) (hc : I 214 k = nI (c k)) (hc2 : c k < 65536) (hP : P ≤ 16) (hp : I 195 17 = nI P) (hne : zcap (c k) (fun i => I 206 (6 * i + w)) P ≠ none) (hA : M_ahead 195 (nI b) I R n = some (some (.int (nI B)), I, R, n)) (hf1 : 1 ≤ f) (hf2 : f ≤ 2) (hco : I 198 7 = nI co) (hs0 : s0 ≤ 1000) (h9 : I 208 9 = nI w0) (h5 : I 208 5 = nI s0) (hcp : w = w0 → ¬ I 208 7 = 2) : (zokT (decide (w = w0)) (I 208 7) s0 l u c k ch = false → M_steps 195 (nI w) (nI b) (nI f) (nI u) (nI k) (zwh ch) I R n = some (some (.int 0), I, R, n)) ∧ (zokT (decide (w = w0)) (I 208 7) s0 l u c k ch = true → ∃ I', M_steps 195 (nI w) (nI b) (nI f) (nI u) (nI k) (zwh ch) I R n = some (some (.int 1), I', R, n) ∧ I' 195 33 = zsco (mPl I P c w k) (mTp I P c w k) co f ((if w = w0 then s0 else 0) + zdf (c k) B) ch ∧ I' 195 34 = nI (zsta (w + 1) (if ch = 3 then b else k) (znf f ((if w = w0 then s0 else 0) + zdf (c k) B) ch) (znu u ch)) ∧ ∀ q j, (q = 195 → j ≠ 33 ∧ j ≠ 34) → I' q j = I q j) := by
  have zs := zwh_s ch hch
  have hsz : (if w = w0 then s0 else 0) ≤ 1000 := by split <;> omega
  have e64 := M_steps64_eq (I := I) (R := R) (n := n) (k := k) (b := b) (f := f) h hw hw0 hch hu h9 h5
  have go : (ch = 3 → (if w = w0 then s0 else 0) = 0) → ∃ I', M_steps_64 195 (nI w) (nI b) (nI f) (nI u) (nI k) (zwh ch) I R n = some (some (.int 1), I', R, n) ∧ I' 195 33 = zsco (mPl I P c w k) (mTp I P c w k) co f ((if w = w0 then s0 else 0) + zdf (c k) B) ch ∧ I' 195 34 = nI (zsta (w + 1) (if ch = 3 then b else k) (znf f ((if w = w0 then s0 else 0) + zdf (c k) B) ch) (znu u ch)) ∧ ∀ q j, (q = 195 → j ≠ 33 ∧ j ≠ 34) → I' q j = I q j := by
    intro hz
    obtain ⟨I', q1, q2, q3, q4⟩ := M_steps102_ok (I := I) (R := R) (n := n) (u' := znu u ch) h hw hk hch hc hc2 hP hp hne hA hf1 hf2 hco hsz rfl hz
    exact ⟨I', e64.trans q1, q2, q3, q4⟩
  have no : ch = 3 → 0 < (if w = w0 then s0 else 0) → M_steps_64 195 (nI w) (nI b) (nI f) (nI u) (nI k) (zwh ch) I R n = some (some (.int 0), I, R, n) := by
    intro c3 hz
    rw [e64, e_M_steps_102, if_pos (zs.2.2.2.2.2.1.2 c3), if_pos (zgt0 hz (by omega))]
  have st := e_M_steps 195 (nI w) (nI b) (nI f) (nI u) (nI k) (zwh ch) I R n
  simp only [h.k, h.2, zc_t, zr_s, M_isFirst_ok h (show w < 2 ^ 31 by omega) hw0 h9, zbI_s, zin208, zixs, Bool.true_or, Bool.true_and] at st
  by_cases cA : w = w0 ∧ ¬ I 208 7 = -1
  · rw [decide_eq_true cA.1, if_neg (show ¬ zbo true = 0 by decide), if_neg cA.2, e_M_steps_24, if_neg (by decide)] at st
    simp only [h.k, h.2, zc_t, zr_s, zin208, zixs, Bool.true_or, Bool.true_and] at st
    have n3 : zwh ch = I 208 7 → ¬ ch = 3 := fun z c3 => hcp cA.1 (by rw [← z]; exact zs.2.2.2.2.2.1.2 c3)
    unfold zokT
    rw [if_pos (show decide (w = w0) = true ∧ ¬ I 208 7 = -1 from ⟨decide_eq_true cA.1, cA.2⟩)]
    by_cases cq : zwh ch = I 208 7
    · rw [if_pos cq] at st
      rw [decide_eq_true cq, decide_eq_false (n3 cq)]
      refine ⟨fun z => (by cases z), fun _ => ?_⟩
      obtain ⟨I', q1, q2⟩ := go (fun c3 => absurd c3 (n3 cq))
      exact ⟨I', st.trans q1, q2⟩
    · rw [if_neg cq] at st
      rw [decide_eq_false cq, Bool.false_and]
      exact ⟨fun _ => st, fun z => by cases z⟩
  · have s24 : M_steps 195 (nI w) (nI b) (nI f) (nI u) (nI k) (zwh ch) I R n = M_steps_24 195 (nI w) (nI b) (nI f) (nI u) (nI k) (zwh ch) 0 I R n := by
      rw [st]
      by_cases c : w = w0
      · have c7 : I 208 7 = -1 := Classical.byContradiction (fun z => cA ⟨c, z⟩)
        rw [decide_eq_true c, if_neg (show ¬ zbo true = 0 by decide), if_pos c7]
      · rw [decide_eq_false c, if_pos (show zbo false = 0 by decide)]
    rw [e_M_steps_24, if_pos rfl] at s24
    unfold zokT
    rw [if_neg (fun z => cA ⟨of_decide_eq_true z.1, z.2⟩)]
    unfold zokc
    by_cases c0 : ch = 0
    · rw [if_pos (zs.2.2.1.2 c0)] at s24
      rw [decide_eq_true c0, decide_eq_false (show ¬ ch = 3 by omega)]
      refine ⟨fun z => (by cases z), fun _ => ?_⟩
      obtain ⟨I', q1, q2⟩ := go (fun c3 => by omega)
      exact ⟨I', s24.trans q1, q2⟩
    · rw [if_neg (fun q => c0 (zs.2.2.1.1 q))] at s24
      have mh := M_has_ok (I := I) (R := R) (n := n) (S := u) (j := ch - 1) (by omega) (by omega)
      rw [← zs.2.2.2.2.2.2 (by omega)] at mh
      rw [mh, zbI_s] at s24
      rw [decide_eq_false c0, Bool.false_or]
      cases hb : u.testBit (ch - 1) with
      | true =>
        rw [hb, if_pos rfl, if_neg (by decide)] at s24
        exact ⟨fun _ => s24, fun z => by cases z⟩
      | false =>
        rw [hb, if_neg (show ¬ (false = true) by decide), if_pos rfl] at s24
        by_cases c3 : ch = 3
        · rw [decide_eq_true c3]
          by_cases cw : w = w0
          · rw [decide_eq_true cw]
            by_cases cs : 0 < s0
            · rw [decide_eq_true cs]
              exact ⟨fun _ => s24.trans (no c3 (by rw [if_pos cw]; exact cs)), fun z => by cases z⟩
            · rw [decide_eq_false cs]
              refine ⟨fun z => (by cases z), fun _ => ?_⟩
              obtain ⟨I', q1, q2⟩ := go (fun _ => by rw [if_pos cw]; omega)
              exact ⟨I', s24.trans q1, q2⟩
          · rw [decide_eq_false cw]
            refine ⟨fun z => (by cases z), fun _ => ?_⟩
            obtain ⟨I', q1, q2⟩ := go (fun _ => if_neg cw)
            exact ⟨I', s24.trans q1, q2⟩
        · rw [decide_eq_false c3]
          refine ⟨fun z => (by cases z), fun _ => ?_⟩
          obtain ⟨I', q1, q2⟩ := go (fun z => absurd z c3)
          exact ⟨I', s24.trans q1, q2⟩
end LMr
