/-! ===== the planner (class): the walk ===== -/
def zwh (ch : Nat) : Int32 := nI ch - 1
theorem zwh_s : ∀ ch, ch < 4 → zwh ch + 1 = zwh (ch + 1) ∧ zwh ch < 3 ∧ (zwh ch = -1 ↔ ch = 0) ∧ (zwh ch = 0 ↔ ch = 1) ∧ (zwh ch = 1 ↔ ch = 2) ∧ (zwh ch = 2 ↔ ch = 3) ∧ (1 ≤ ch → zwh ch = nI (ch - 1)) := by decide +kernel
theorem zwh_4 : ¬ zwh 4 < 3 ∧ (2 : Int32) < zwh 4 ∧ ∀ ch, ch < 4 → ¬ (2 : Int32) < zwh ch := by decide +kernel
def zokT (fst : Bool) (cp : Int32) (s0 l u : Nat) (c : Nat → Nat) (k ch : Nat) : Bool := if fst = true ∧ ¬ cp = -1 then decide (zwh ch = cp) && (!(decide (ch = 3)) || decide (c k = l)) else zokc u ch && !(decide (ch = 3) && (fst && decide (0 < s0)))
section LPt
variable {J : ZI} {R : ZR} {n L N w : Nat} {ok : Nat → Nat → Bool} {v : Nat → Nat → Int32}
theorem Pl_take_inner (hlow : ∀ k ch, k < N → ch < 4 → ok k ch = true → (-100000000 : Int32) < v k ch) (hW : WP R n L) (hmay : ∀ k ch, k < N → ch < 4 → Pl_mayTake 141 (nI w) (nI k) (zwh ch) J R n = some (some (.int (zbo (ok k ch))), J, R, n)) (hopt : ∀ k ch, k < N → ch < 4 → ok k ch = true → Pl_optionValue 141 (nI w) (nI k) (zwh ch) J R n = some (some (.int (v k ch)), J, R, n)) {K : Nat} (hK : K < N) {m : Int32} {tk tc : Nat} (h0 : zTI N ok v K 0 m tk tc) : ∀ H, H ≤ 4 → ∃ m' tk' tc', Pl_take_23 141 (nI w) m (nI tk) (zwh tc) (nI K) (zwh 0) J R n = Pl_take_23 141 (nI w) m' (nI tk') (zwh tc') (nI K) (zwh H) J R n ∧ zTI N ok v K H m' tk' tc' := by
  intro H
  induction H with
  | zero => intro _; exact ⟨m, tk, tc, rfl, h0⟩
  | succ H ih =>
    intro hH
    obtain ⟨m1, tk1, tc1, e, t⟩ := ih (by omega)
    have zs := zwh_s H (by omega)
    have st := e_Pl_take_23 141 (nI w) m1 (nI tk1) (zwh tc1) (nI K) (zwh H) J R n
    simp only [hW.k, zc_t, if_pos zs.2.1, hmay K H hK (by omega), zbI_s] at st
    have step := zTI_step hK (show H < 4 by omega) hlow t
    cases ho : ok K H with
    | false =>
      rw [ho, if_pos (show zbo false = 0 by decide), e_Pl_take_55] at st
      have nl : ¬ m1 < (-100000000 : Int32) := by
        rcases t with ⟨q, -⟩ | ⟨-, q, -⟩
        · rw [q]; decide
        · have := hlow tk1 tc1 q.1 q.2.1 q.2.2.1
          rw [q.2.2.2.1] at this
          rw [Int32.lt_iff_toInt_lt] at *; omega
      rw [if_neg nl, zs.1] at st
      exact ⟨m1, tk1, tc1, e.trans st, step.2 (Or.inl ho)⟩
    | true =>
      rw [ho, if_neg (show ¬ zbo true = 0 by decide), hopt K H hK (by omega) ho, zbI_s, e_Pl_take_55] at st
      by_cases c : m1 < v K H
      · rw [if_pos c, zs.1] at st
        exact ⟨v K H, K, H, e.trans st, step.1 ho c⟩
      · rw [if_neg c, zs.1] at st
        exact ⟨m1, tk1, tc1, e.trans st, step.2 (Or.inr c)⟩
theorem Pl_take_outer (hN : N ≤ 40) (h11 : J 141 11 = nI N) (hlow : ∀ k ch, k < N → ch < 4 → ok k ch = true → (-100000000 : Int32) < v k ch) (hW : WP R n L) (hmay : ∀ k ch, k < N → ch < 4 → Pl_mayTake 141 (nI w) (nI k) (zwh ch) J R n = some (some (.int (zbo (ok k ch))), J, R, n)) (hopt : ∀ k ch, k < N → ch < 4 → ok k ch = true → Pl_optionValue 141 (nI w) (nI k) (zwh ch) J R n = some (some (.int (v k ch)), J, R, n)) : ∀ K, K ≤ N → ∃ m tk tc, Pl_take 141 (nI w) J R n = Pl_take_11 141 (nI w) m (nI tk) (zwh tc) (nI K) J R n ∧ zTI N ok v K 0 m tk tc := by
  intro K
  induction K with
  | zero =>
    intro _
    refine ⟨-100000000, 0, 0, ?_, Or.inl ⟨rfl, fun k ch h1 h2 h3 => by unfold zAh at h3; omega⟩⟩
    rw [e_Pl_take]
    have e1 : zwh 0 = -1 := by decide
    rw [e1, nI_0]
  | succ K ih =>
    intro hK
    obtain ⟨m, tk, tc, e, t⟩ := ih (by omega)
    obtain ⟨m', tk', tc', e2, t2⟩ := Pl_take_inner (J := J) hlow hW hmay hopt (show K < N by omega) t 4 (Nat.le_refl _)
    have st := e_Pl_take_11 141 (nI w) m (nI tk) (zwh tc) (nI K) J R n
    simp only [hW.k, zc_t, h11, if_pos (nI_lt (show K < N by omega) (show N < 2 ^ 31 by omega))] at st
    have s4 := e_Pl_take_23 141 (nI w) m' (nI tk') (zwh tc') (nI K) (zwh 4) J R n
    rw [if_neg zwh_4.1, nI_1] at s4
    have e0 : zwh 0 = -1 := by decide
    rw [e0] at e2
    exact ⟨m', tk', tc', e.trans (st.trans (e2.trans s4)), zTI_next t2⟩
theorem Pl_mayTake_ok (hW : WP R n L) (hS : WS R n 10) {w0 s0 l u k ch : Nat} {c : Nat → Nat} (hk : k < 40) (hch : ch < 4) (hw : w < 2 ^ 31) (hw0 : w0 < 2 ^ 31) (h4 : J 10 4 = nI w0) (h6 : J 10 6 = nI s0) (hs0 : s0 < 2 ^ 31) (h12 : J 10 12 = nI l) (hl : l < 2 ^ 31) (h17 : J 141 17 = nI u) (hu : u < 8) (hc : J 223 k = nI (c k)) (hck : c k < 2 ^ 31) : Pl_mayTake 141 (nI w) (nI k) (zwh ch) J R n = some (some (.int (zbo (zokT (decide (w = w0)) (J 10 10) s0 l u c k ch))), J, R, n) := by
  have zs := zwh_s ch hch
  have e72 : ∀ x4 : Int32, ∀ b : Bool, x4 = zbo b → Pl_mayTake_72 141 (zwh ch) x4 J R n = some (some (.int (zbo (zokc u ch && !(decide (ch = 3) && (b && decide (0 < s0)))))), J, R, n) := by
    intro x4 b hx
    rw [e_Pl_mayTake_72]
    unfold zokc
    by_cases c0 : ch = 0
    · rw [if_pos (zs.2.2.1.2 c0), decide_eq_true c0, decide_eq_false (show ¬ ch = 3 by omega)]
      rfl
    · rw [if_neg (fun q => c0 (zs.2.2.1.1 q)), decide_eq_false c0]
      simp only [hW.k, hW.2.1, hS.k, zc_t, zr_s, h17, h6]
      rw [zs.2.2.2.2.2.2 (by omega), zbit (show u < 2 ^ 31 by omega) (show ch - 1 < 32 by omega), ← zs.2.2.2.2.2.2 (by omega)]
      cases hb : u.testBit (ch - 1) with
      | true => rfl
      | false =>
        rw [if_pos (show (if false = true then (1 : Int32) else 0) = 0 by decide)]
        by_cases c3 : ch = 3
        · rw [if_pos (zs.2.2.2.2.2.1.2 c3), decide_eq_true c3, hx]
          cases b with
          | false => rfl
          | true =>
            rw [if_neg (show ¬ zbo true = 0 by decide)]
            by_cases c5 : 0 < s0
            · rw [if_pos (zgt0 c5 hs0), decide_eq_true c5]; rfl
            · rw [show s0 = 0 by omega, nI_0, if_neg (by decide)]; rfl
        · rw [if_neg (fun q => c3 (zs.2.2.2.2.2.1.1 q)), decide_eq_false c3]; rfl
  have st := e_Pl_mayTake 141 (nI w) (nI k) (zwh ch) J R n
  simp only [hW.k, hW.2.1, hS.k, zc_t, zr_s, h4, nI_eq hw hw0] at st
  rw [st]
  unfold zokT
  by_cases cw : w = w0
  · have e16 := e_Pl_mayTake_16 141 (nI k) (zwh ch) 1 J R n
    rw [if_neg (by decide)] at e16
    simp only [hW.k, hW.2.1, hS.k, zc_t, zr_s, (zinP hk).2.2, Bool.true_or, Bool.true_and, zix_nI (show k < 2 ^ 31 by omega), hc, h12, nI_eq hck hl] at e16
    rw [if_pos cw, decide_eq_true cw, e16]
    by_cases cp : J 10 10 = -1
    · rw [if_pos cp, if_neg (fun z => z.2 cp)]
      exact e72 1 true (by decide)
    · rw [if_neg cp, if_pos (show true = true ∧ ¬ J 10 10 = -1 from ⟨rfl, cp⟩)]
      by_cases cq : zwh ch = J 10 10
      · rw [if_pos cq, decide_eq_true cq, Bool.true_and]
        by_cases c3 : ch = 3
        · rw [if_pos (zs.2.2.2.2.2.1.2 c3), decide_eq_true c3]
          by_cases cl : c k = l
          · rw [if_pos cl, decide_eq_true cl]; rfl
          · rw [if_neg cl, decide_eq_false cl]; rfl
        · rw [if_neg (fun q => c3 (zs.2.2.2.2.2.1.1 q)), decide_eq_false c3]; rfl
      · rw [if_neg cq, decide_eq_false cq]; rfl
  · rw [if_neg cw, decide_eq_false cw, e_Pl_mayTake_16, if_pos rfl, if_neg (fun z => by cases z.1)]
    exact e72 0 false (by decide)
end LPt
