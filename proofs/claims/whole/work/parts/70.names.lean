/-! ===== names of rules, places and clubs ===== -/
def zrlf (T : Nat × (Nat → Nat)) (s : Nat) : Option Nat := zfirst (fun j => zwrd T s (1001 + j)) 0 6
def zplc (b : Nat) : Int32 := if b = 98 then 1 else if b = 102 then 3 else if b = 107 then 0 else if b = 109 then 2 else -1
theorem zrlf_eq (T : Nat × (Nat → Nat)) (s : Nat) : zrlf T s = (bif zwrd T s 1001 then some 0 else bif zwrd T s 1002 then some 1 else bif zwrd T s 1003 then some 2 else bif zwrd T s 1004 then some 3 else bif zwrd T s 1005 then some 4 else bif zwrd T s 1006 then some 5 else none) := rfl
def zrlo (o : Option Nat) : Int32 := match o with
  | some j => nI (4 + j)
  | none => -1
section LNm
variable {I : ZI} {R : ZR} {n : Nat} {T : Nat × (Nat → Nat)} {s : Nat}
theorem Rd_ruleWord_ok : ∀ j, j < 6 → Rd_ruleWord (nI j) I R n = some (some (.ref (1001 + j)), I, R, n)
  | 0, _ => (e_Rd_ruleWord _ I R n).trans (if_pos (by decide))
  | 1, _ => (e_Rd_ruleWord _ I R n).trans ((if_neg (by decide)).trans (if_pos (by decide)))
  | 2, _ => (e_Rd_ruleWord _ I R n).trans ((if_neg (by decide)).trans ((if_neg (by decide)).trans (if_pos (by decide))))
  | 3, _ => (e_Rd_ruleWord _ I R n).trans ((if_neg (by decide)).trans ((if_neg (by decide)).trans ((if_neg (by decide)).trans (if_pos (by decide)))))
  | 4, _ => (e_Rd_ruleWord _ I R n).trans ((if_neg (by decide)).trans ((if_neg (by decide)).trans ((if_neg (by decide)).trans ((if_neg (by decide)).trans (if_pos (by decide))))))
  | 5, _ => (e_Rd_ruleWord _ I R n).trans ((if_neg (by decide)).trans ((if_neg (by decide)).trans ((if_neg (by decide)).trans ((if_neg (by decide)).trans (if_neg (by decide))))))
  | j + 6, h => by omega
theorem Rd_ruleNamed_ok (h : WRd R n) (hT : tpC I T) (hz : zTp T) (hs : s ≤ T.1) (ht : ztok T I s) : Rd_ruleNamed 3 I R n = some (some (.int (zo (zrlf T s))), I, R, n) := by
  have t6 : (6 : Int32) = nI 6 := by decide
  have l := zloopE (fun j => Rd_ruleNamed_2 3 (nI j) I R n) (fun j => zwrd T s (1001 + j)) (fun j => some (some (.int (nI j)), I, R, n)) 6 (fun j hj => ?_) 6 0 rfl
  · rw [e_Rd_ruleNamed, ← nI_0]
    refine Eq.trans l ?_
    unfold zrlf
    cases zfirst (fun j => zwrd T s (1001 + j)) 0 6 with
    | some j => rfl
    | none =>
      show Rd_ruleNamed_2 3 (nI 6) I R n = _
      rw [e_Rd_ruleNamed_2, if_neg (by decide)]
      rfl
  · show Rd_ruleNamed_2 3 (nI j) I R n = bif zwrd T s (1001 + j) then _ else Rd_ruleNamed_2 3 (nI (j + 1)) I R n
    rw [e_Rd_ruleNamed_2, t6, if_pos (nI_lt hj (by omega))]
    have w := Rd_isWord_ok (R := R) (n := n) h hT hz hs (show j + 1 < 7 by omega) ht
    rw [show 1000 + (j + 1) = 1001 + j by omega] at w
    simp only [Rd_ruleWord_ok j hj, zbR_s, h.k, zc_t, w, zbI_s, nI_1]
    cases zwrd T s (1001 + j) <;> rfl
theorem M_optionHere_ok (h : WM R n) (hz : zTp T) (hs : s ≤ T.1) (hk : zsk T s = s) (hT : tpM I T) (h3 : I 195 3 = nI s) : ∃ I', M_optionHere 195 I R n = some (some (.int (zrlo (zrlf T s))), I', R, n) ∧ I' 195 3 = nI (if (zrlf T s).isSome = true then znx T s else s) ∧ ∀ b j, (b = 195 → j ≠ 3) → I' b j = I b j := by
  have W : ∀ j, j < 7 → ∀ J : ZI, tpM J T → J 195 3 = nI s → ∃ J', M_word 195 (1000 + j) J R n = some (some (.int (zbo (zwrd T s (1000 + j)))), J', R, n) ∧ J' 195 3 = nI (if zwrd T s (1000 + j) = true then znx T s else s) ∧ ∀ b j, (b = 195 → j ≠ 3) → J' b j = J b j := by
    intro j hj J hJ h3
    have := M_word_ok (R := R) (n := n) h hz hs hJ h3 hj
    rw [hk] at this
    exact this
  have W1 : ∀ J : ZI, tpM J T → J 195 3 = nI s → ∃ J', M_word 195 1001 J R n = some (some (.int (zbo (zwrd T s 1001))), J', R, n) ∧ J' 195 3 = nI (if zwrd T s 1001 = true then znx T s else s) ∧ ∀ b j, (b = 195 → j ≠ 3) → J' b j = J b j := W 1 (by decide)
  have W2 : ∀ J : ZI, tpM J T → J 195 3 = nI s → ∃ J', M_word 195 1002 J R n = some (some (.int (zbo (zwrd T s 1002))), J', R, n) ∧ J' 195 3 = nI (if zwrd T s 1002 = true then znx T s else s) ∧ ∀ b j, (b = 195 → j ≠ 3) → J' b j = J b j := W 2 (by decide)
  have W3 : ∀ J : ZI, tpM J T → J 195 3 = nI s → ∃ J', M_word 195 1003 J R n = some (some (.int (zbo (zwrd T s 1003))), J', R, n) ∧ J' 195 3 = nI (if zwrd T s 1003 = true then znx T s else s) ∧ ∀ b j, (b = 195 → j ≠ 3) → J' b j = J b j := W 3 (by decide)
  have W4 : ∀ J : ZI, tpM J T → J 195 3 = nI s → ∃ J', M_word 195 1004 J R n = some (some (.int (zbo (zwrd T s 1004))), J', R, n) ∧ J' 195 3 = nI (if zwrd T s 1004 = true then znx T s else s) ∧ ∀ b j, (b = 195 → j ≠ 3) → J' b j = J b j := W 4 (by decide)
  have W5 : ∀ J : ZI, tpM J T → J 195 3 = nI s → ∃ J', M_word 195 1005 J R n = some (some (.int (zbo (zwrd T s 1005))), J', R, n) ∧ J' 195 3 = nI (if zwrd T s 1005 = true then znx T s else s) ∧ ∀ b j, (b = 195 → j ≠ 3) → J' b j = J b j := W 5 (by decide)
  have W6 : ∀ J : ZI, tpM J T → J 195 3 = nI s → ∃ J', M_word 195 1006 J R n = some (some (.int (zbo (zwrd T s 1006))), J', R, n) ∧ J' 195 3 = nI (if zwrd T s 1006 = true then znx T s else s) ∧ ∀ b j, (b = 195 → j ≠ 3) → J' b j = J b j := W 6 (by decide)
  have e4 : (4 : Int32) = nI 4 := by decide
  have e5 : (5 : Int32) = nI 5 := by decide
  have e6 : (6 : Int32) = nI 6 := by decide
  have e7 : (7 : Int32) = nI 7 := by decide
  have e8 : (8 : Int32) = nI 8 := by decide
  have e9 : (9 : Int32) = nI 9 := by decide
  have st := e_M_optionHere 195 I R n
  rw [zrlf_eq]
  obtain ⟨I1, q1, a1, f1⟩ := W1 I hT h3
  simp only [h.k, zc_t, q1, zbI_s] at st
  cases c1 : zwrd T s 1001 with
  | true =>
    rw [c1] at st a1
    rw [if_neg (show ¬ zbo true = 0 by decide), e4] at st
    rw [if_pos rfl] at a1
    exact ⟨I1, st, a1, fun b j hb => by rw [f1 b j hb]⟩
  | false =>
    rw [c1] at st a1
    rw [if_pos (show zbo false = 0 by decide)] at st
    rw [if_neg (by decide)] at a1
    have t1 : tpM I1 T := tpM_fr hT (fun b j hb _ => f1 b j (fun z => (hb z).1))
    obtain ⟨I2, q2, a2, f2⟩ := W2 I1 t1 a1
    simp only [h.k, zc_t, q2, zbI_s] at st
    cases c2 : zwrd T s 1002 with
    | true =>
      rw [c2] at st a2
      rw [if_neg (show ¬ zbo true = 0 by decide), e5] at st
      rw [if_pos rfl] at a2
      exact ⟨I2, st, a2, fun b j hb => by rw [f2 b j hb, f1 b j hb]⟩
    | false =>
      rw [c2] at st a2
      rw [if_pos (show zbo false = 0 by decide)] at st
      rw [if_neg (by decide)] at a2
      have t2 : tpM I2 T := tpM_fr t1 (fun b j hb _ => f2 b j (fun z => (hb z).1))
      obtain ⟨I3, q3, a3, f3⟩ := W3 I2 t2 a2
      simp only [h.k, zc_t, q3, zbI_s] at st
      cases c3 : zwrd T s 1003 with
      | true =>
        rw [c3] at st a3
        rw [if_neg (show ¬ zbo true = 0 by decide), e6] at st
        rw [if_pos rfl] at a3
        exact ⟨I3, st, a3, fun b j hb => by rw [f3 b j hb, f2 b j hb, f1 b j hb]⟩
      | false =>
        rw [c3] at st a3
        rw [if_pos (show zbo false = 0 by decide)] at st
        rw [if_neg (by decide)] at a3
        have t3 : tpM I3 T := tpM_fr t2 (fun b j hb _ => f3 b j (fun z => (hb z).1))
        obtain ⟨I4, q4, a4, f4⟩ := W4 I3 t3 a3
        simp only [h.k, zc_t, q4, zbI_s] at st
        cases c4 : zwrd T s 1004 with
        | true =>
          rw [c4] at st a4
          rw [if_neg (show ¬ zbo true = 0 by decide), e7] at st
          rw [if_pos rfl] at a4
          exact ⟨I4, st, a4, fun b j hb => by rw [f4 b j hb, f3 b j hb, f2 b j hb, f1 b j hb]⟩
        | false =>
          rw [c4] at st a4
          rw [if_pos (show zbo false = 0 by decide)] at st
          rw [if_neg (by decide)] at a4
          have t4 : tpM I4 T := tpM_fr t3 (fun b j hb _ => f4 b j (fun z => (hb z).1))
          obtain ⟨I5, q5, a5, f5⟩ := W5 I4 t4 a4
          simp only [h.k, zc_t, q5, zbI_s] at st
          cases c5 : zwrd T s 1005 with
          | true =>
            rw [c5] at st a5
            rw [if_neg (show ¬ zbo true = 0 by decide), e8] at st
            rw [if_pos rfl] at a5
            exact ⟨I5, st, a5, fun b j hb => by rw [f5 b j hb, f4 b j hb, f3 b j hb, f2 b j hb, f1 b j hb]⟩
          | false =>
            rw [c5] at st a5
            rw [if_pos (show zbo false = 0 by decide)] at st
            rw [if_neg (by decide)] at a5
            have t5 : tpM I5 T := tpM_fr t4 (fun b j hb _ => f5 b j (fun z => (hb z).1))
            obtain ⟨I6, q6, a6, f6⟩ := W6 I5 t5 a5
            simp only [h.k, zc_t, q6, zbI_s] at st
            cases c6 : zwrd T s 1006 with
            | true =>
              rw [c6] at st a6
              rw [if_neg (show ¬ zbo true = 0 by decide), e9] at st
              rw [if_pos rfl] at a6
              exact ⟨I6, st, a6, fun b j hb => by rw [f6 b j hb, f5 b j hb, f4 b j hb, f3 b j hb, f2 b j hb, f1 b j hb]⟩
            | false =>
              rw [c6] at st a6
              rw [if_pos (show zbo false = 0 by decide)] at st
              rw [if_neg (by decide)] at a6
              have t6 : tpM I6 T := tpM_fr t5 (fun b j hb _ => f6 b j (fun z => (hb z).1))
              exact ⟨I6, st, a6, fun b j hb => by rw [f6 b j hb, f5 b j hb, f4 b j hb, f3 b j hb, f2 b j hb, f1 b j hb]⟩
theorem M_placeHere_ok (h : WM R n) (hz : zTp T) (hs : s ≤ T.1) (hk : zsk T s = s) (hT : tpM I T) (h3 : I 195 3 = nI s) : ∃ I', M_placeHere 195 I R n = some (some (.int (if zlon T s = true then zplc (T.2 s) else -1)), I', R, n) ∧ I' 195 3 = nI (if zlon T s = true ∧ zplc (T.2 s) ≠ -1 then znx T s else s) ∧ ∀ b j, (b = 195 → j ≠ 3) → I' b j = I b j := by
  obtain ⟨I1, q1, a1, f1⟩ := M_look_ok2 h hz hs hT h3
  rw [hk] at q1 a1
  have hT1 : tpM I1 T := tpM_fr hT (fun b j hb _ => f1 b j (fun z => (hb z).1))
  have st := e_M_placeHere 195 I R n
  simp only [h.k, zc_t, q1, zbI_s] at st
  have go : ∀ (k0 : Int32), k0 ≠ -1 → zplc (T.2 s) = k0 → s < T.1 → 97 ≤ T.2 s → T.2 s ≤ 122 → M_placeHere 195 I R n = M_placeHere_46 195 (nI (T.2 s)) k0 I1 R n → ∃ I', M_placeHere 195 I R n = some (some (.int (if zlon T s = true then zplc (T.2 s) else -1)), I', R, n) ∧ I' 195 3 = nI (if zlon T s = true ∧ zplc (T.2 s) ≠ -1 then znx T s else s) ∧ ∀ b j, (b = 195 → j ≠ 3) → I' b j = I b j := by
    intro k0 hk0 hpl hlt b1 b2 e
    have e0 : (0 : Int32) = nI 0 := nI_0.symm
    obtain ⟨I2, q2, a2, f2⟩ := M_letter_ok (I := I1) h hz hs hT1 a1 (f := T.2 s) (m := 0) (x1 := nI (T.2 s)) (x2 := 0) rfl e0 b1 (by omega)
    rw [hk] at q2 a2
    have ez : zlet T s (T.2 s) 0 = zlon T s := by
      unfold zlet
      rw [decide_eq_true (Nat.le_refl _), decide_eq_true (show T.2 s ≤ T.2 s + 0 by omega), Bool.and_true, Bool.and_true]
    rw [ez] at q2 a2
    rw [e_M_placeHere_46, if_neg hk0] at e
    simp only [h.k, zc_t, q2, zbI_s, Nat.sub_self] at e
    rw [hpl]
    cases hl : zlon T s with
    | true =>
      rw [hl, if_pos rfl, if_pos (by decide)] at e
      rw [hl, if_pos rfl] at a2
      refine ⟨I2, ?_, ?_, fun b j hb => by rw [f2 b j hb, f1 b j hb]⟩
      · rw [if_pos rfl]; exact e
      · rw [if_pos ⟨rfl, hk0⟩]; exact a2
    | false =>
      rw [hl, if_neg (show ¬ (false = true) by decide), if_neg (by decide)] at e
      rw [hl, if_neg (by decide)] at a2
      refine ⟨I2, ?_, ?_, fun b j hb => by rw [f2 b j hb, f1 b j hb]⟩
      · rw [if_neg (by decide)]; exact e
      · rw [if_neg (fun z => absurd z.1 (by decide))]; exact a2
  have no : (zlon T s = true → zplc (T.2 s) = -1) → (∃ x, M_placeHere 195 I R n = M_placeHere_46 195 x (-1) I1 R n) → ∃ I', M_placeHere 195 I R n = some (some (.int (if zlon T s = true then zplc (T.2 s) else -1)), I', R, n) ∧ I' 195 3 = nI (if zlon T s = true ∧ zplc (T.2 s) ≠ -1 then znx T s else s) ∧ ∀ b j, (b = 195 → j ≠ 3) → I' b j = I b j := by
    rintro hp ⟨x, e⟩
    rw [e_M_placeHere_46, if_pos rfl] at e
    refine ⟨I1, ?_, ?_, f1⟩
    · rw [e]
      by_cases z : zlon T s = true
      · rw [if_pos z, hp z]
      · rw [if_neg z]
    · rw [if_neg (fun z => z.2 (hp z.1))]; exact a1
  by_cases q : s < T.1
  · have hb := (hz.2 s q).2
    have eh : zher T s = nI (T.2 s) := by unfold zher; rw [if_pos q]
    have t1 : (107 : Int32) = nI 107 := by decide
    have t2 : (98 : Int32) = nI 98 := by decide
    have t3 : (109 : Int32) = nI 109 := by decide
    have t4 : (102 : Int32) = nI 102 := by decide
    simp only [eh, t1, t2, t3, t4, nI_eq (show T.2 s < 2 ^ 31 by omega) (show 107 < 2 ^ 31 by omega), nI_eq (show T.2 s < 2 ^ 31 by omega) (show 98 < 2 ^ 31 by omega), nI_eq (show T.2 s < 2 ^ 31 by omega) (show 109 < 2 ^ 31 by omega), nI_eq (show T.2 s < 2 ^ 31 by omega) (show 102 < 2 ^ 31 by omega)] at st
    by_cases c1 : T.2 s = 107
    · rw [if_pos c1] at st
      exact go 0 (by decide) (by rw [c1]; decide) q (by omega) (by omega) st
    · rw [if_neg c1] at st
      by_cases c2 : T.2 s = 98
      · rw [if_pos c2] at st
        exact go 1 (by decide) (by rw [c2]; decide) q (by omega) (by omega) st
      · rw [if_neg c2] at st
        by_cases c3 : T.2 s = 109
        · rw [if_pos c3] at st
          exact go 2 (by decide) (by rw [c3]; decide) q (by omega) (by omega) st
        · rw [if_neg c3] at st
          by_cases c4 : T.2 s = 102
          · rw [if_pos c4] at st
            exact go 3 (by decide) (by rw [c4]; decide) q (by omega) (by omega) st
          · rw [if_neg c4] at st
            exact no (fun _ => by unfold zplc; rw [if_neg c2, if_neg c4, if_neg c1, if_neg c3]) ⟨_, st⟩
  · have eh : zher T s = -1 := by unfold zher; rw [if_neg q]
    rw [eh, if_neg (by decide), if_neg (by decide), if_neg (by decide), if_neg (by decide)] at st
    exact no (fun z => by unfold zlon at z; rw [decide_eq_false q, Bool.false_and] at z; cases z) ⟨_, st⟩
theorem Rd_placeNamed_ok (h : WRd R n) (hT : tpC I T) (hz : zTp T) (hs : s ≤ T.1) (ht : ztok T I s) : Rd_placeNamed 3 I R n = some (some (.int (if zlon T s = true then zplc (T.2 s) else -1)), I, R, n) := by
  have hl := hz.1
  have hx := znx_le T hs
  have hk := zkd_lt T s
  have hb := zat_lt hz s
  have t1 : (1 : Int32) = nI 1 := by decide
  have c1 : (107 : Int32) = nI 107 := by decide
  have c2 : (98 : Int32) = nI 98 := by decide
  have c3 : (109 : Int32) = nI 109 := by decide
  have c4 : (102 : Int32) = nI 102 := by decide
  have hy : (nI (zkd T s) = 1) = (zkd T s = 1) := by rw [t1]; exact propext (nI_eq (by omega) (by omega))
  have hy2 : (nI (znx T s - s) = 1) = (znx T s - s = 1) := by rw [t1]; exact propext (nI_eq (by omega) (by omega))
  rw [e_Rd_placeNamed, zlon_eq T hs]
  simp only [h.k, h.2.2, zc_t, zr_s, ht.1, ht.2.1, ht.2.2.1, pk_sub hx.2, hy, hy2, Tp_byteAt_ok h hT hz (show s < 2 ^ 31 by omega), zbI_s, c1, c2, c3, c4, nI_eq (show zat T s < 2 ^ 31 by omega) (show 107 < 2 ^ 31 by omega), nI_eq (show zat T s < 2 ^ 31 by omega) (show 98 < 2 ^ 31 by omega), nI_eq (show zat T s < 2 ^ 31 by omega) (show 109 < 2 ^ 31 by omega), nI_eq (show zat T s < 2 ^ 31 by omega) (show 102 < 2 ^ 31 by omega)]
  by_cases q : zkd T s = 1
  · rw [if_pos q, decide_eq_true q, Bool.true_and]
    by_cases z : znx T s - s = 1
    · rw [if_pos z, decide_eq_true z, if_pos rfl, zat_s (zkd1.1 q).1]
      unfold zplc
      by_cases d1 : T.2 s = 98
      · rw [if_pos d1, if_pos d1]
      · rw [if_neg d1, if_neg d1]
        by_cases d2 : T.2 s = 102
        · rw [if_pos d2, if_pos d2]
        · rw [if_neg d2, if_neg d2]
          by_cases d3 : T.2 s = 107
          · rw [if_pos d3, if_pos d3]
          · rw [if_neg d3, if_neg d3]
            by_cases d4 : T.2 s = 109
            · rw [if_pos d4, if_pos d4]
            · rw [if_neg d4, if_neg d4]
    · rw [if_neg z, decide_eq_false z, if_neg (by decide)]
  · rw [if_neg q, decide_eq_false q, Bool.false_and, if_neg (by decide)]
theorem Rd_clubNamed_ok (h : WRd R n) (hT : tpC I T) (hz : zTp T) (hs : s ≤ T.1) (ht : ztok T I s) : Rd_clubNamed 3 I R n = some (some (.int (if zlet T s 97 5 = true then nI (T.2 s - 97) else -1)), I, R, n) := by
  have hl := hz.1
  have hx := znx_le T hs
  have hk := zkd_lt T s
  have hb := zat_lt hz s
  have t1 : (1 : Int32) = nI 1 := by decide
  have t6 : (6 : Int32) = nI 6 := by decide
  have t97 : (97 : Int32) = nI 97 := by decide
  have hy : (nI (zkd T s) = 1) = (zkd T s = 1) := by rw [t1]; exact propext (nI_eq (by omega) (by omega))
  have hy2 : (nI (znx T s - s) = 1) = (znx T s - s = 1) := by rw [t1]; exact propext (nI_eq (by omega) (by omega))
  rw [e_Rd_clubNamed]
  simp only [h.k, h.2.2, zc_t, zr_s, ht.1, ht.2.1, ht.2.2.1, pk_sub hx.2, hy, hy2, Tp_byteAt_ok h hT hz (show s < 2 ^ 31 by omega), zbI_s]
  unfold zlet
  rw [zlon_eq T hs]
  by_cases q : zkd T s = 1
  · rw [if_pos q, decide_eq_true q, Bool.true_and]
    by_cases z : znx T s - s = 1
    · have kk := zkd1.1 q
      have hL := zisL_i kk.2
      rw [if_pos z, decide_eq_true z, Bool.true_and, zat_s kk.1, t97, pk_sub hL.1, t6, decide_eq_true hL.1, Bool.true_and]
      by_cases w : T.2 s ≤ 97 + 5
      · rw [if_pos (nI_lt (show T.2 s - 97 < 6 by omega) (by omega)), decide_eq_true w, if_pos rfl]
      · rw [if_neg (nI_nlt (show 6 ≤ T.2 s - 97 by omega) (by omega)), decide_eq_false w, if_neg (by decide)]
    · rw [if_neg z, decide_eq_false z, Bool.false_and, if_neg (by decide)]
  · rw [if_neg q, decide_eq_false q, Bool.false_and, Bool.false_and, if_neg (by decide)]
end LNm
