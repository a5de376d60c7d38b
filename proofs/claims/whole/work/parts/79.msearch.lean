/-! ===== the reference's two swaps ===== -/
theorem zin213 : zin 213 0 = true ∧ zin 213 1 = true ∧ zin 213 2 = true ∧ zin 213 3 = true ∧ zin 213 4 = true := by decide
theorem mTeam_213 {I J : ZI} {S P : Nat} (h : ∀ b, b ≠ 213 → J b = I b) : mTeam J S P = mTeam I S P := mTeam_congr (h _ (by decide)) (h _ (by decide)) (h _ (by decide))
section LM2
variable {I : ZI} {R : ZR} {n w Wk P O : Nat}
theorem M_second190_ok {J : ZI} (h : WM R n) (x1 x2 x3 x4 x5 x6 x7 : Int32) (ha : ¬ x1 = -1) : ∃ J', M_second_190 195 x1 x2 x3 x4 x5 x6 x7 J R n = M_second_23 195 x1 x2 x3 x4 x5 (x6 + 1) J' R n ∧ zSm J' (true, x7, x1, x2, x5, x6) ∧ ∀ b, b ≠ 213 → J' b = J b := by
  rw [e_M_second_190]
  simp only [h.k, h.2, zc_t, zr_s, zin213, Bool.true_and, zixs]
  rw [e_M_second_220]
  simp only [h.k, h.2, zc_t, zr_s, zin213, Bool.true_and, zixs]
  refine ⟨_, rfl, ⟨?_, fun _ => ⟨?_, ?_, ?_, ?_⟩, ⟨fun z => by simp at z, fun _ => ha⟩⟩, fun b hb => ?_⟩
  any_goals simp [zup_cases]
  funext j
  simp [zup_cases, hb]
theorem M_second_inner (h : WM R n) (hP : P ≤ 16) (hp : I 195 17 = nI P) (hW : I 198 6 = nI Wk) (hWk : Wk ≤ 6) (h9 : I 208 9 = nI w) (hw : w ≤ Wk) {i o i2 : Nat} (hO : zswp O i o < 2 ^ P) (hi : i < P) (ho : o < P) (hi2 : i2 < P) (left : Int32) : ∀ d o2 (J : ZI) a, o2 + d = P → (∀ b, b ≠ 213 → J b = I b) → zSm J a → ∃ J', M_second_23 195 (nI i) (nI o) left (nI (zswp O i o)) (nI i2) (nI o2) J R n = M_second_11 195 (nI i) (nI o) left (nI (zswp O i o)) (nI (i2 + 1)) J' R n ∧ (∀ b, b ≠ 213 → J' b = I b) ∧ zSm J' (zgo (mF2 I w Wk P O i o left i2) d o2 a) := by
  have hp16 : 2 ^ P ≤ 2 ^ 16 := Nat.pow_le_pow_right (by omega) hP
  intro d
  induction d with
  | zero =>
    intro o2 J a hd hJ ha
    refine ⟨J, ?_, hJ, ha⟩
    rw [e_M_second_23]
    simp only [h.k, zc_t, hJ 195 (by decide), hp]
    rw [if_neg (nI_nlt (show P ≤ o2 by omega) (by omega)), nI_1]
  | succ d ih =>
    intro o2 J a hd hJ ha
    have jp : J 195 17 = nI P := by rw [hJ 195 (by decide)]; exact hp
    have jW : J 198 6 = nI Wk := by rw [hJ 198 (by decide)]; exact hW
    have j9 : J 208 9 = nI w := by rw [hJ 208 (by decide)]; exact h9
    have st := e_M_second_23 195 (nI i) (nI o) left (nI (zswp O i o)) (nI i2) (nI o2) J R n
    simp only [h.k, h.2, zc_t, zr_s, jp, if_pos (nI_lt (show o2 < P by omega) (show P < 2 ^ 31 by omega)), M_has_ok (show zswp O i o < 2 ^ 31 by omega) (show i2 < 32 by omega), M_has_ok (show zswp O i o < 2 ^ 31 by omega) (show o2 < 32 by omega), zbI_s, nI_1] at st
    have skip : mF2 I w Wk P O i o left i2 o2 a = a → M_second_23 195 (nI i) (nI o) left (nI (zswp O i o)) (nI i2) (nI o2) J R n = M_second_23 195 (nI i) (nI o) left (nI (zswp O i o)) (nI i2) (nI (o2 + 1)) J R n → ∃ J', M_second_23 195 (nI i) (nI o) left (nI (zswp O i o)) (nI i2) (nI o2) J R n = M_second_11 195 (nI i) (nI o) left (nI (zswp O i o)) (nI (i2 + 1)) J' R n ∧ (∀ b, b ≠ 213 → J' b = I b) ∧ zSm J' (zgo (mF2 I w Wk P O i o left i2) (d + 1) o2 a) := by
      intro e1 e2
      have e3 : zgo (mF2 I w Wk P O i o left i2) (d + 1) o2 a = zgo (mF2 I w Wk P O i o left i2) d (o2 + 1) a := by
        show zgo _ d (o2 + 1) (mF2 I w Wk P O i o left i2 o2 a) = _
        rw [e1]
      rw [e3]
      obtain ⟨J', e, f, s⟩ := ih (o2 + 1) J a (by omega) hJ ha
      exact ⟨J', e2.trans e, f, s⟩
    cases b1 : (zswp O i o).testBit i2 with
    | false =>
      rw [b1, if_neg (show ¬ (false = true) by decide), if_pos rfl] at st
      exact skip (by unfold mF2 mCan; rw [b1]; rfl) st
    | true =>
      rw [b1, if_pos rfl, if_neg (by decide)] at st
      cases b2 : (zswp O i o).testBit o2 with
      | true =>
        rw [b2, if_pos rfl, if_neg (by decide)] at st
        exact skip (by unfold mF2 mCan; rw [b1, b2]; rfl) st
      | false =>
        rw [b2, if_neg (show ¬ (false = true) by decide), if_pos rfl, zswp_M (show zswp O i o < 65536 by omega) b1 b2 (by omega) (by omega)] at st
        have hsw : zswp (zswp O i o) i2 o2 < 2 ^ P := zswp_lt hO hi2 (by omega)
        have eT : mTeam J (zswp (zswp O i o) i2 o2) P = mTeam I (zswp (zswp O i o) i2 o2) P := mTeam_213 hJ
        simp only [h.k, h.2, zc_t, zr_s, M_isTeam_ok h (show zswp (zswp O i o) i2 o2 < 2 ^ 31 by omega) hP jp, zbI_s, M_brings2_ok h (show i2 < 16 by omega), M_priceOf_ok h (show i2 < 16 by omega), eT] at st
        by_cases c3 : mTeam I (zswp (zswp O i o) i2 o2) P
        · rw [zb01_t c3, if_neg (by decide)] at st
          have e98 : M_second_23 195 (nI i) (nI o) left (nI (zswp O i o)) (nI i2) (nI o2) J R n = M_second_98 195 (nI i) (nI o) left (nI (zswp O i o)) (nI i2) (nI o2) left (if nI i2 = nI o then I 208 (11 + i2) else zbrings (I 208 (11 + i2)) (I 208 (27 + i2))) J R n := by
            rw [st, hJ 208 (by decide)]
            by_cases c : nI i2 = nI o
            · rw [if_pos c, if_pos c]
            · rw [if_neg c, if_neg c]
          have s98 := e_M_second_98 195 (nI i) (nI o) left (nI (zswp O i o)) (nI i2) (nI o2) left (if nI i2 = nI o then I 208 (11 + i2) else zbrings (I 208 (11 + i2)) (I 208 (27 + i2))) J R n
          have pf : ∀ k, k < 16 → M_pointsIn 195 (nI k) (nI w) J R n = some (some (.int (mG I w Wk k)), J, R, n) := fun k hk => by
            have := M_pointsIn_ok (I := J) h hk jW hWk hw
            rw [hJ 206 (by decide)] at this
            exact this
          simp only [h.k, h.2, zc_t, zr_s, M_priceOf_ok h (show o2 < 16 by omega), zbI_s, zin208, zin213, zixs, Bool.true_or, Bool.true_and, j9, pf o (by omega), pf i (by omega), pf o2 (by omega), pf i2 (by omega), hJ 208 (by decide), ha.1, nI_1] at s98
          by_cases c4 : left + (if nI i2 = nI o then I 208 (11 + i2) else zbrings (I 208 (11 + i2)) (I 208 (27 + i2))) < I 208 (11 + o2)
          · rw [if_pos c4] at s98
            exact skip (by unfold mF2 mCan mMo2; rw [b1, b2, decide_eq_true c4]; simp) (e98.trans s98)
          · rw [if_neg c4] at s98
            rw [z4sub] at s98
            have e1 : mF2 I w Wk P O i o left i2 o2 a = zwei a (mG I w Wk o - mG I w Wk i + (mG I w Wk o2 - mG I w Wk i2)) (nI i) (nI o) (nI i2) (nI o2) := by
              unfold mF2 mCan mMo2
              rw [b1, b2, decide_eq_false c4, zdc_t c3]
              rfl
            have e3 : zgo (mF2 I w Wk P O i o left i2) (d + 1) o2 a = zgo (mF2 I w Wk P O i o left i2) d (o2 + 1) (zwei a (mG I w Wk o - mG I w Wk i + (mG I w Wk o2 - mG I w Wk i2)) (nI i) (nI o) (nI i2) (nI o2)) := by
              show zgo _ d (o2 + 1) (mF2 I w Wk P O i o left i2 o2 a) = _
              rw [e1]
            rw [e3]
            obtain ⟨J1, q1, s1, f1⟩ := M_second190_ok (J := J) (R := R) (n := n) h (nI i) (nI o) left (nI (zswp O i o)) (nI i2) (nI o2) (mG I w Wk o - mG I w Wk i + (mG I w Wk o2 - mG I w Wk i2)) (nI_nm1 (show i < 2 ^ 31 by omega))
            rw [nI_1] at q1
            rw [q1] at s98
            generalize mG I w Wk o - mG I w Wk i + (mG I w Wk o2 - mG I w Wk i2) = g at s98 s1
            have fin : ∃ J2, M_second_98 195 (nI i) (nI o) left (nI (zswp O i o)) (nI i2) (nI o2) left (if nI i2 = nI o then I 208 (11 + i2) else zbrings (I 208 (11 + i2)) (I 208 (27 + i2))) J R n = M_second_23 195 (nI i) (nI o) left (nI (zswp O i o)) (nI i2) (nI (o2 + 1)) J2 R n ∧ zSm J2 (zwei a g (nI i) (nI o) (nI i2) (nI o2)) ∧ ∀ b, b ≠ 213 → J2 b = J b := by
              unfold zwei
              cases hb1 : a.1 with
              | false =>
                rw [if_pos (ha.2.2.1 hb1)] at s98
                rw [if_pos (Or.inl rfl)]
                exact ⟨J1, s98, s1, f1⟩
              | true =>
                rw [if_neg (ha.2.2.2 hb1), (ha.2.1 hb1).2.2.2] at s98
                by_cases c : a.2.1 < g
                · rw [if_pos c] at s98
                  rw [if_pos (Or.inr c)]
                  exact ⟨J1, s98, s1, f1⟩
                · rw [if_neg c] at s98
                  rw [if_neg (show ¬ (true = false ∨ a.2.1 < g) from fun z => by rcases z with z | z; cases z; exact c z)]
                  exact ⟨J, s98, ha, fun _ _ => rfl⟩
            obtain ⟨J2, q2, s2, f2⟩ := fin
            obtain ⟨J', e, f, s⟩ := ih (o2 + 1) J2 _ (by omega) (fun b hb => by rw [f2 b hb, hJ b hb]) s2
            exact ⟨J', e98.trans (q2.trans e), f, s⟩
        · rw [zb01_f c3, if_pos rfl] at st
          exact skip (by unfold mF2 mCan; rw [b1, b2, zdc_f c3]; rfl) st
theorem M_second_outer (h : WM R n) (hP : P ≤ 16) (hp : I 195 17 = nI P) (hW : I 198 6 = nI Wk) (hWk : Wk ≤ 6) (h9 : I 208 9 = nI w) (hw : w ≤ Wk) {i o : Nat} (hO : zswp O i o < 2 ^ P) (hi : i < P) (ho : o < P) (left : Int32) : ∀ d i2 (J : ZI) a, i2 + d = P → (∀ b, b ≠ 213 → J b = I b) → zSm J a → ∃ J', M_second_11 195 (nI i) (nI o) left (nI (zswp O i o)) (nI i2) J R n = some (none, J', R, n) ∧ (∀ b, b ≠ 213 → J' b = I b) ∧ zSm J' (zgo (fun i2 => zgo (mF2 I w Wk P O i o left i2) P 0) d i2 a) := by
  intro d
  induction d with
  | zero =>
    intro i2 J a hd hJ ha
    refine ⟨J, ?_, hJ, ha⟩
    rw [e_M_second_11]
    simp only [h.k, zc_t, hJ 195 (by decide), hp]
    rw [if_neg (nI_nlt (show P ≤ i2 by omega) (by omega))]
  | succ d ih =>
    intro i2 J a hd hJ ha
    have st := e_M_second_11 195 (nI i) (nI o) left (nI (zswp O i o)) (nI i2) J R n
    simp only [h.k, zc_t, hJ 195 (by decide), hp, if_pos (nI_lt (show i2 < P by omega) (show P < 2 ^ 31 by omega))] at st
    obtain ⟨J1, e1, f1, s1⟩ := M_second_inner (I := I) h hP hp hW hWk h9 hw hO hi ho (show i2 < P by omega) left P 0 J a (by omega) hJ ha
    rw [nI_0] at e1
    obtain ⟨J', e, f, s⟩ := ih (i2 + 1) J1 _ (by omega) f1 s1
    exact ⟨J', st.trans (e1.trans e), f, s⟩
theorem M_two_inner (h : WM R n) (hP : P ≤ 16) (hp : I 195 17 = nI P) (hb : I 208 0 = 1) (ht : I 208 1 = nI O) (hO : O < 2 ^ P) (hW : I 198 6 = nI Wk) (hWk : Wk ≤ 6) (h9 : I 208 9 = nI w) (hw : w ≤ Wk) {i : Nat} (hi : i < P) (x1 : Int32) : ∀ d o (J : ZI) a, o + d = P → (∀ b, b ≠ 213 → J b = I b) → zSm J a → ∃ J', M_twoSwaps_57 195 x1 (nI i) (nI o) J R n = M_twoSwaps_47 195 x1 (nI (i + 1)) J' R n ∧ (∀ b, b ≠ 213 → J' b = I b) ∧ zSm J' (zgo (mF3 I w Wk P O i) d o a) := by
  have hp16 : 2 ^ P ≤ 2 ^ 16 := Nat.pow_le_pow_right (by omega) hP
  intro d
  induction d with
  | zero =>
    intro o J a hd hJ ha
    refine ⟨J, ?_, hJ, ha⟩
    rw [e_M_twoSwaps_57]
    simp only [h.k, zc_t, hJ 195 (by decide), hp]
    rw [if_neg (nI_nlt (show P ≤ o by omega) (by omega)), nI_1]
  | succ d ih =>
    intro o J a hd hJ ha
    have jp : J 195 17 = nI P := by rw [hJ 195 (by decide)]; exact hp
    have j8 : ∀ k, J 208 k = I 208 k := fun k => by rw [hJ 208 (by decide)]
    have jb : J 208 0 = 1 := by rw [j8]; exact hb
    have jt : J 208 1 = nI O := by rw [j8]; exact ht
    have st := e_M_twoSwaps_57 195 x1 (nI i) (nI o) J R n
    simp only [h.k, h.2, zc_t, zr_s, jp, if_pos (nI_lt (show o < P by omega) (show P < 2 ^ 31 by omega)), M_isOwned_ok h jb jt (show O < 2 ^ 31 by omega) (show i < 32 by omega), M_isOwned_ok h jb jt (show O < 2 ^ 31 by omega) (show o < 32 by omega), zbI_s, M_swapped_ok h, jt] at st
    have neg : M_twoSwaps_116 195 x1 (nI i) (nI o) (-1) J R n = M_twoSwaps_57 195 x1 (nI i) (nI (o + 1)) J R n := by
      rw [e_M_twoSwaps_116, if_pos (by decide), nI_1]
    have skip : mF3 I w Wk P O i o a = a → M_twoSwaps_57 195 x1 (nI i) (nI o) J R n = M_twoSwaps_57 195 x1 (nI i) (nI (o + 1)) J R n → ∃ J', M_twoSwaps_57 195 x1 (nI i) (nI o) J R n = M_twoSwaps_47 195 x1 (nI (i + 1)) J' R n ∧ (∀ b, b ≠ 213 → J' b = I b) ∧ zSm J' (zgo (mF3 I w Wk P O i) (d + 1) o a) := by
      intro e1 e2
      have e3 : zgo (mF3 I w Wk P O i) (d + 1) o a = zgo (mF3 I w Wk P O i) d (o + 1) a := by
        show zgo _ d (o + 1) (mF3 I w Wk P O i o a) = _
        rw [e1]
      rw [e3]
      obtain ⟨J', e, f, s⟩ := ih (o + 1) J a (by omega) hJ ha
      exact ⟨J', e2.trans e, f, s⟩
    cases b1 : O.testBit i with
    | false =>
      rw [b1, if_neg (show ¬ (false = true) by decide), if_pos rfl, neg] at st
      exact skip (by unfold mF3; rw [b1]; rfl) st
    | true =>
      rw [b1, if_pos rfl, if_neg (by decide)] at st
      cases b2 : O.testBit o with
      | true =>
        rw [b2, if_pos rfl, if_neg (by decide), neg] at st
        exact skip (by unfold mF3; rw [b1, b2]; rfl) st
      | false =>
        rw [b2, if_neg (show ¬ (false = true) by decide), if_pos rfl, zswp_M (show O < 65536 by omega) b1 b2 (by omega) (by omega)] at st
        have hsw : zswp O i o < 2 ^ P := zswp_lt hO hi (by omega)
        have eT : mTeam J (zswp O i o) P = mTeam I (zswp O i o) P := mTeam_213 hJ
        simp only [h.k, h.2, zc_t, zr_s, M_isTeam_ok h (show zswp O i o < 2 ^ 31 by omega) hP jp, zbI_s, zin208, zixs, Bool.true_or, Bool.true_and, M_brings2_ok h (show i < 16 by omega), M_priceOf_ok h (show o < 16 by omega), eT, j8] at st
        by_cases c3 : mTeam I (zswp O i o) P
        · rw [zb01_t c3, if_neg (by decide), e_M_twoSwaps_116] at st
          by_cases c4 : I 208 2 + zbrings (I 208 (11 + i)) (I 208 (27 + i)) - I 208 (11 + o) < 0
          · rw [if_pos c4, nI_1] at st
            exact skip (by unfold mF3 mMo; rw [b1, b2, decide_eq_true c4]; simp) st
          · rw [if_neg c4] at st
            obtain ⟨J1, e1, f1, s1⟩ := M_second_outer (I := I) h hP hp hW hWk h9 hw hsw hi (show o < P by omega) (I 208 2 + zbrings (I 208 (11 + i)) (I 208 (27 + i)) - I 208 (11 + o)) P 0 J a (by omega) hJ ha
            rw [nI_0] at e1
            have e0 := e_M_second 195 (nI i) (nI o) (I 208 2 + zbrings (I 208 (11 + i)) (I 208 (27 + i)) - I 208 (11 + o)) J R n
            simp only [h.k, zc_t, M_swapped_ok h, zbI_s, jt, zswp_M (show O < 65536 by omega) b1 b2 (show i < 16 by omega) (show o < 16 by omega)] at e0
            rw [e1] at e0
            simp only [h.k, zc_t, e0, zbV_s, nI_1] at st
            obtain ⟨J', e, f, s⟩ := ih (o + 1) J1 _ (by omega) f1 s1
            refine ⟨J', st.trans e, f, ?_⟩
            show zSm J' (zgo _ d (o + 1) (mF3 I w Wk P O i o a))
            have e2 : mF3 I w Wk P O i o a = zgo (fun i2 => zgo (mF2 I w Wk P O i o (I 208 2 + zbrings (I 208 (11 + i)) (I 208 (27 + i)) - I 208 (11 + o)) i2) P 0) P 0 a := by
              unfold mF3 mMo
              rw [b1, b2, decide_eq_false c4, zdc_t c3]
              rfl
            rw [e2]
            exact s
        · rw [zb01_f c3, if_pos rfl, neg] at st
          exact skip (by unfold mF3; rw [b1, b2, zdc_f c3]; rfl) st
theorem M_two_outer (h : WM R n) (hP : P ≤ 16) (hp : I 195 17 = nI P) (hb : I 208 0 = 1) (ht : I 208 1 = nI O) (hO : O < 2 ^ P) (hW : I 198 6 = nI Wk) (hWk : Wk ≤ 6) (h9 : I 208 9 = nI w) (hw : w ≤ Wk) {x : Nat} (hx : x < 5) : ∀ d i (J : ZI) a, i + d = P → (∀ b, b ≠ 213 → J b = I b) → zSm J a → ∃ J' b, b = zgo (fun i => zgo (mF3 I w Wk P O i) P 0) d i a ∧ zSm J' b ∧ (∀ b, b ≠ 213 → J' b = I b) ∧ M_twoSwaps_47 195 (nI x) (nI i) J R n = some (some (.int (if b.1 = true then J' 213 x else -1000000)), J', R, n) := by
  intro d
  induction d with
  | zero =>
    intro i J a hd hJ ha
    refine ⟨J, a, rfl, ha, hJ, ?_⟩
    have i1 : zin 213 (nI x) = true := zin_nI (by show _ < 5; omega) (by omega)
    rw [e_M_twoSwaps_47]
    simp only [h.k, h.2, zc_t, zr_s, hJ 195 (by decide), hp, zin213, zixs, Bool.true_or, Bool.true_and, i1, zix_nI (show x < 2 ^ 31 by omega), ha.1]
    rw [if_neg (nI_nlt (show P ≤ i by omega) (by omega))]
    cases hb1 : a.1 with
    | false => rw [if_pos (ha.2.2.1 hb1), if_neg (by decide)]
    | true => rw [if_neg (ha.2.2.2 hb1), if_pos rfl]
  | succ d ih =>
    intro i J a hd hJ ha
    have st := e_M_twoSwaps_47 195 (nI x) (nI i) J R n
    simp only [h.k, zc_t, hJ 195 (by decide), hp, if_pos (nI_lt (show i < P by omega) (show P < 2 ^ 31 by omega))] at st
    obtain ⟨J1, e1, f1, s1⟩ := M_two_inner (I := I) h hP hp hb ht hO hW hWk h9 hw (show i < P by omega) (nI x) P 0 J a (by omega) hJ ha
    rw [nI_0] at e1
    obtain ⟨J', b, q1, q2, q3, q4⟩ := ih (i + 1) J1 _ (by omega) f1 s1
    exact ⟨J', b, q1, q2, q3, st.trans (e1.trans q4)⟩
end LM2
