/-! ===== two swaps, and the start of a search (class) ===== -/
/-- one second pair weighed -/
noncomputable def cF2 (I : ZI) (L w P O : Nat) (G : Nat → Int32) (i o : Nat) (left : Int32) (i2 o2 : Nat) (a : Bool × Int32 × Int32 × Int32 × Int32 × Int32) : Bool × Int32 × Int32 × Int32 × Int32 × Int32 := if cCan I L w P (zswp O i o) (left + (if nI i2 = nI o then I (L + 15 + w) i2 else zbrings (I (L + 15 + w) i2) (I 11 i2))) i2 o2 = true then zwei a (G o - G i + (G o2 - G i2)) (nI i) (nI o) (nI i2) (nI o2) else a
/-- all second pairs behind a first one -/
noncomputable def cF3 (I : ZI) (L w P O : Nat) (G : Nat → Int32) (i o : Nat) (a : Bool × Int32 × Int32 × Int32 × Int32 × Int32) : Bool × Int32 × Int32 × Int32 × Int32 × Int32 := if cCan I L w P O (I 10 3 + zbrings (I (L + 15 + w) i) (I 11 i)) i o = true then zgo (fun i2 => zgo (cF2 I L w P O G i o (I 10 3 + zbrings (I (L + 15 + w) i) (I 11 i) - I (L + 15 + w) o) i2) P 0) P 0 a else a
section LSw2
variable {R : ZR} {n L w P : Nat}
theorem Sw_second_inner {I : ZI} (hw : WSw R n L w) (hL : WL R n L) (hS : WS R n 10) {O i o i2 : Nat} {G : Nat → Int32} (hO : zswp O i o < 2 ^ 31) (hi : i < P) (ho : o < P) (hi2 : i2 < P) (hw7 : w < 7) (hP : P ≤ 16) (hs2 : zSets I (L + 6) (I (L + 4)) 6 P) (hp : I L 8 = nI P) (hG : ∀ i, i < P → I 140 i = G i) (left : Int32) : ∀ d o2 (J : ZI) a, o2 + d = P → (∀ b, b ≠ 138 → b ≠ 139 → J b = I b) → zSa J a → ∃ J', Sw_findSecond_46 138 (nI i) (nI o) left (nI (zswp O i o)) (nI i2) (left + (if nI i2 = nI o then I (L + 15 + w) i2 else zbrings (I (L + 15 + w) i2) (I 11 i2))) (nI o2) J R n = Sw_findSecond_20 138 (nI i) (nI o) left (nI (zswp O i o)) (nI (i2 + 1)) J' R n ∧ (∀ b, b ≠ 138 → b ≠ 139 → J' b = I b) ∧ zSa J' (zgo (cF2 I L w P O G i o left i2) d o2 a) := by
  have hl := isL_i hL.2.1
  intro d
  induction d with
  | zero =>
    intro o2 J a hd hJ ha
    refine ⟨J, ?_, hJ, ha⟩
    rw [e_Sw_findSecond_46]
    simp only [hL.k, hw.k, hw.2, zr_s, zc_t, hJ L (by omega) (by omega), hp]
    rw [if_neg (nI_nlt (show P ≤ o2 by omega) (by omega)), nI_1]
  | succ d ih =>
    intro o2 J a hd hJ ha
    have hs2' : zSets J (L + 6) (J (L + 4)) 6 P := zSets_congr (hJ _ (by omega) (by omega)) (hJ _ (by omega) (by omega)) hs2
    have st := e_Sw_findSecond_46 138 (nI i) (nI o) left (nI (zswp O i o)) (nI i2) (left + (if nI i2 = nI o then I (L + 15 + w) i2 else zbrings (I (L + 15 + w) i2) (I 11 i2))) (nI o2) J R n
    simp only [hL.k, hw.k, hw.2, zr_s, zc_t, hJ L (by omega) (by omega), hp, if_pos (nI_lt (show o2 < P by omega) (show P < 2 ^ 31 by omega)), Sw_canFollow_ok hw hL hS hO (show i2 < 16 by omega) (show o2 < 16 by omega) hw7 hP hs2', zbI_s, cCan_congr (I := I) _ i2 o2 hL.2.1 hJ, nI_1] at st
    cases hc : cCan I L w P (zswp O i o) (left + (if nI i2 = nI o then I (L + 15 + w) i2 else zbrings (I (L + 15 + w) i2) (I 11 i2))) i2 o2 with
    | false =>
      rw [hc, if_pos (show zbo false = 0 by decide)] at st
      obtain ⟨J', e, f, s⟩ := ih (o2 + 1) J a (by omega) hJ ha
      refine ⟨J', st.trans e, f, ?_⟩
      show zSa J' (zgo _ d (o2 + 1) (cF2 I L w P O G i o left i2 o2 a))
      have e2 : cF2 I L w P O G i o left i2 o2 a = a := by unfold cF2; rw [hc, if_neg (by decide)]
      rw [e2]
      exact s
    | true =>
      rw [hc, if_neg (show ¬ zbo true = 0 by decide)] at st
      obtain ⟨J1, e1, s1, f1⟩ := Sw_weigh_two (J := J) hw ha (show i < 16 by omega) (show o < 16 by omega) (show i2 < 16 by omega) (show o2 < 16 by omega)
      have g : ∀ k, k < P → J 140 k = G k := fun k hk => by rw [hJ 140 (by decide) (by decide)]; exact hG k hk
      rw [g o ho, g i hi, g o2 (by omega), g i2 hi2] at s1
      simp only [e1, zbV_s] at st
      obtain ⟨J', e, f, s⟩ := ih (o2 + 1) J1 _ (by omega) (fun b h1 h2 => by rw [f1 b h1 h2, hJ b h1 h2]) s1
      refine ⟨J', st.trans e, f, ?_⟩
      show zSa J' (zgo _ d (o2 + 1) (cF2 I L w P O G i o left i2 o2 a))
      have e2 : cF2 I L w P O G i o left i2 o2 a = zwei a (G o - G i + (G o2 - G i2)) (nI i) (nI o) (nI i2) (nI o2) := by unfold cF2; rw [hc, if_pos rfl]
      rw [e2]
      exact s
theorem Sw_second_outer {I : ZI} (hw : WSw R n L w) (hL : WL R n L) (hS : WS R n 10) {O i o : Nat} {G : Nat → Int32} (hO : zswp O i o < 2 ^ 31) (hi : i < P) (ho : o < P) (hw7 : w < 7) (hP : P ≤ 16) (hs2 : zSets I (L + 6) (I (L + 4)) 6 P) (hp : I L 8 = nI P) (hG : ∀ i, i < P → I 140 i = G i) (left : Int32) : ∀ d i2 (J : ZI) a, i2 + d = P → (∀ b, b ≠ 138 → b ≠ 139 → J b = I b) → zSa J a → ∃ J', Sw_findSecond_20 138 (nI i) (nI o) left (nI (zswp O i o)) (nI i2) J R n = some (none, J', R, n) ∧ (∀ b, b ≠ 138 → b ≠ 139 → J' b = I b) ∧ zSa J' (zgo (fun i2 => zgo (cF2 I L w P O G i o left i2) P 0) d i2 a) := by
  have hl := isL_i hL.2.1
  intro d
  induction d with
  | zero =>
    intro i2 J a hd hJ ha
    refine ⟨J, ?_, hJ, ha⟩
    rw [e_Sw_findSecond_20]
    simp only [hL.k, hw.k, hw.2, zr_s, zc_t, hJ L (by omega) (by omega), hp]
    rw [if_neg (nI_nlt (show P ≤ i2 by omega) (by omega))]
  | succ d ih =>
    intro i2 J a hd hJ ha
    have st := e_Sw_findSecond_20 138 (nI i) (nI o) left (nI (zswp O i o)) (nI i2) J R n
    simp only [hL.k, hw.k, hw.2, zr_s, zc_t, hJ L (by omega) (by omega), hp, if_pos (nI_lt (show i2 < P by omega) (show P < 2 ^ 31 by omega)), Sw_bringsNow_ok hw hL hS (show i2 < 16 by omega) hw7, zbI_s, hJ (L + 15 + w) (by omega) (by omega), hJ 11 (by omega) (by omega)] at st
    obtain ⟨J1, e1, f1, s1⟩ := Sw_second_inner (I := I) hw hL hS hO hi ho (show i2 < P by omega) hw7 hP hs2 hp hG left P 0 J a (by omega) hJ ha
    rw [nI_0] at e1
    obtain ⟨J', e, f, s⟩ := ih (i2 + 1) J1 _ (by omega) f1 s1
    exact ⟨J', st.trans (e1.trans e), f, s⟩
theorem Sw_two_inner {I : ZI} (hw : WSw R n L w) (hL : WL R n L) (hS : WS R n 10) {O i : Nat} {G : Nat → Int32} (hO : O < 2 ^ P) (hi : i < P) (hw7 : w < 7) (hP : P ≤ 16) (hs2 : zSets I (L + 6) (I (L + 4)) 6 P) (hp : I L 8 = nI P) (ho : I 10 8 = nI O) (hG : ∀ i, i < P → I 140 i = G i) : ∀ d o (J : ZI) a, o + d = P → (∀ b, b ≠ 138 → b ≠ 139 → J b = I b) → zSa J a → ∃ J', Sw_findTwo_32 138 L 10 (nI i) (I 10 3 + zbrings (I (L + 15 + w) i) (I 11 i)) (nI o) J R n = Sw_findTwo_8 138 L 10 (nI (i + 1)) J' R n ∧ (∀ b, b ≠ 138 → b ≠ 139 → J' b = I b) ∧ zSa J' (zgo (cF3 I L w P O G i) d o a) := by
  have hl := isL_i hL.2.1
  have hp16 : 2 ^ P ≤ 2 ^ 16 := Nat.pow_le_pow_right (by omega) hP
  intro d
  induction d with
  | zero =>
    intro o J a hd hJ ha
    refine ⟨J, ?_, hJ, ha⟩
    rw [e_Sw_findTwo_32]
    simp only [hL.k, zc_t, hJ L (by omega) (by omega), hp]
    rw [if_neg (nI_nlt (show P ≤ o by omega) (by omega)), nI_1]
  | succ d ih =>
    intro o J a hd hJ ha
    have hs2' : zSets J (L + 6) (J (L + 4)) 6 P := zSets_congr (hJ _ (by omega) (by omega)) (hJ _ (by omega) (by omega)) hs2
    have i1 : zin (L + 15 + w) (nI o) = true := zin_of (hL.pw hw7).2 (show o < 16 by omega) (by decide)
    have st := e_Sw_findTwo_32 138 L 10 (nI i) (I 10 3 + zbrings (I (L + 15 + w) i) (I 11 i)) (nI o) J R n
    simp only [hL.k, hS.k, hw.k, hw.2, (hL.pw hw7).1, i1, Bool.true_or, Bool.true_and, zr_s, zc_t, zix_nI (show o < 2 ^ 31 by omega), hJ L (by omega) (by omega), hJ 10 (by omega) (by omega), hJ (L + 15 + w) (by omega) (by omega), hp, ho, if_pos (nI_lt (show o < P by omega) (show P < 2 ^ 31 by omega)), Sw_canFollow_ok hw hL hS (show O < 2 ^ 31 by omega) (show i < 16 by omega) (show o < 16 by omega) hw7 hP hs2', zbI_s, cCan_congr (I := I) _ i o hL.2.1 hJ, nI_1] at st
    cases hc : cCan I L w P O (I 10 3 + zbrings (I (L + 15 + w) i) (I 11 i)) i o with
    | false =>
      rw [hc, if_pos (show zbo false = 0 by decide)] at st
      obtain ⟨J', e, f, s⟩ := ih (o + 1) J a (by omega) hJ ha
      refine ⟨J', st.trans e, f, ?_⟩
      show zSa J' (zgo _ d (o + 1) (cF3 I L w P O G i o a))
      have e2 : cF3 I L w P O G i o a = a := by unfold cF3; rw [hc, if_neg (by decide)]
      rw [e2]
      exact s
    | true =>
      rw [hc, if_neg (show ¬ zbo true = 0 by decide)] at st
      have hsw : zswp O i o < 2 ^ P := zswp_lt hO hi (by omega)
      obtain ⟨J1, e1, f1, s1⟩ := Sw_second_outer (I := I) hw hL hS (show zswp O i o < 2 ^ 31 by omega) hi (show o < P by omega) hw7 hP hs2 hp hG (I 10 3 + zbrings (I (L + 15 + w) i) (I 11 i) - I (L + 15 + w) o) P 0 J a (by omega) hJ ha
      rw [nI_0] at e1
      have e0 := e_Sw_findSecond 138 (nI i) (nI o) (I 10 3 + zbrings (I (L + 15 + w) i) (I 11 i) - I (L + 15 + w) o) J R n
      simp only [hw.k, hw.2, hS.k, zr_s, zc_t, hJ 10 (by omega) (by omega), ho, zswp_I2 (show i < 31 by omega) (show o < 31 by omega)] at e0
      rw [e1] at e0
      simp only [e0, zbV_s] at st
      obtain ⟨J', e, f, s⟩ := ih (o + 1) J1 _ (by omega) f1 s1
      refine ⟨J', st.trans e, f, ?_⟩
      show zSa J' (zgo _ d (o + 1) (cF3 I L w P O G i o a))
      have e2 : cF3 I L w P O G i o a = zgo (fun i2 => zgo (cF2 I L w P O G i o (I 10 3 + zbrings (I (L + 15 + w) i) (I 11 i) - I (L + 15 + w) o) i2) P 0) P 0 a := by unfold cF3; rw [hc, if_pos rfl]
      rw [e2]
      exact s
theorem Sw_two_outer {I : ZI} (hw : WSw R n L w) (hL : WL R n L) (hS : WS R n 10) {O : Nat} {G : Nat → Int32} (hO : O < 2 ^ P) (hw7 : w < 7) (hP : P ≤ 16) (hs2 : zSets I (L + 6) (I (L + 4)) 6 P) (hp : I L 8 = nI P) (ho : I 10 8 = nI O) (hG : ∀ i, i < P → I 140 i = G i) : ∀ d i (J : ZI) a, i + d = P → (∀ b, b ≠ 138 → b ≠ 139 → J b = I b) → zSa J a → ∃ J', Sw_findTwo_8 138 L 10 (nI i) J R n = some (some (.int (zbo (zgo (fun i => zgo (cF3 I L w P O G i) P 0) d i a).1)), J', R, n) ∧ (∀ b, b ≠ 138 → b ≠ 139 → J' b = I b) ∧ zSa J' (zgo (fun i => zgo (cF3 I L w P O G i) P 0) d i a) := by
  have hl := isL_i hL.2.1
  intro d
  induction d with
  | zero =>
    intro i J a hd hJ ha
    refine ⟨J, ?_, hJ, ha⟩
    rw [e_Sw_findTwo_8]
    simp only [hL.k, hw.k, zc_t, hJ L (by omega) (by omega), hp, ha.1, zbool_bo]
    rw [if_neg (nI_nlt (show P ≤ i by omega) (by omega))]
    rfl
  | succ d ih =>
    intro i J a hd hJ ha
    have m1 : ¬ nI i = -1 := nI_nm1 (by omega)
    have st := e_Sw_findTwo_8 138 L 10 (nI i) J R n
    simp only [hL.k, hS.k, hw.k, zc_t, hJ L (by omega) (by omega), hJ 10 (by omega) (by omega), hp, if_pos (nI_lt (show i < P by omega) (show P < 2 ^ 31 by omega)), Sw_bringsNow_ok hw hL hS (show i < 16 by omega) hw7, if_neg m1, zbI_s, hJ (L + 15 + w) (by omega) (by omega), hJ 11 (by omega) (by omega)] at st
    obtain ⟨J1, e1, f1, s1⟩ := Sw_two_inner (I := I) hw hL hS hO (show i < P by omega) hw7 hP hs2 hp ho hG P 0 J a (by omega) hJ ha
    rw [nI_0] at e1
    obtain ⟨J', e, f, s⟩ := ih (i + 1) J1 _ (by omega) f1 s1
    exact ⟨J', st.trans (e1.trans e), f, s⟩
/-- the references behind start -/
def zRs (R : ZR) (L w : Nat) : ZR := zur (zur (zur R 138 2 (some L)) 138 3 (some 10)) 138 4 (some (L + 15 + w))
theorem zRs_n {b : Nat} (j : Nat) (h : b ≠ 138) : zRs R L w b j = R b j := by
  unfold zRs
  rw [zur_n _ h, zur_n _ h, zur_n _ h]
theorem WL_zur {b k : Nat} {v : Option Nat} (h : WL R n L) (hb : b < L ∨ L + 22 ≤ b) : WL (zur R b k v) n L := by
  have e : ∀ c j, L ≤ c → c < L + 22 → zur R b k v c j = R c j := fun c j h1 h2 => zur_n _ (by omega)
  obtain ⟨y1, y2, y3, y4, y5⟩ := h
  refine ⟨y1, y2, ?_, fun w hw => by rw [e _ _ (by omega) (by omega)]; exact y4 w hw, fun w hw => by rw [e _ _ (by omega) (by omega)]; exact y5 w hw⟩
  rw [e L 0 (by omega) (by omega), e L 1 (by omega) (by omega), e L 2 (by omega) (by omega), e L 3 (by omega) (by omega), e L 4 (by omega) (by omega), e L 5 (by omega) (by omega), e L 6 (by omega) (by omega), e L 7 (by omega) (by omega)]
  exact y3
theorem WS_zur {s b k : Nat} {v : Option Nat} (h : WS R n s) (hb : b < s ∨ s + 9 ≤ b) : WS (zur R b k v) n s := by
  obtain ⟨y1, y2, y3, y4, y5⟩ := h
  exact ⟨y1, y2, by rw [zur_n _ (by omega)]; exact y3, by rw [zur_n _ (by omega)]; exact y4, fun w hw => by rw [zur_n _ (by omega)]; exact y5 w hw⟩
theorem WM_zur {b k : Nat} {v : Option Nat} (h : WM R n) (hb : b ≠ 195) : WM (zur R b k v) n := by
  unfold WM at h ⊢
  simp only [zur_n _ (Ne.symm hb)]
  exact h
theorem Sw_start_ok {I : ZI} {Wk : Nat} (hn : 195 ≤ n) (r0 : R 138 0 = some 139) (r1 : R 138 1 = some 140) (hL : WL R n L) (hS : WS R n 10) (h4 : I 10 4 = nI w) (hw : w ≤ Wk) (hWk : Wk ≤ 6) (hW : I (L + 2) 2 = nI Wk) (hP : P ≤ 16) (hp : I L 8 = nI P) : WSw (zRs R L w) n L w ∧ WL (zRs R L w) n L ∧ WS (zRs R L w) n 10 ∧ ∃ J, Sw_start 138 L 10 I R n = some (none, J, zRs R L w, n) ∧ J 138 6 = 0 ∧ J 138 5 = 0 ∧ (∀ i, i < P → J 140 i = zrow (fun w => I (L + 8 + w) i) w (Wk - w)) ∧ ∀ b, b ≠ 138 → b ≠ 140 → J b = I b := by
  have hl := isL_i hL.2.1
  have hk := zkS hn
  have hw7 : w < 7 := by omega
  have hWS : WSw (zRs R L w) n L w := by
    refine ⟨hn, ?_, ?_, ?_, ?_, ?_⟩ <;> unfold zRs
    · rw [zur_k _ (by decide), zur_k _ (by decide), zur_k _ (by decide)]; exact r0
    · rw [zur_k _ (by decide), zur_k _ (by decide), zur_k _ (by decide)]; exact r1
    · rw [zur_k _ (by decide), zur_k _ (by decide), zur_s]
    · rw [zur_k _ (by decide), zur_s]
    · rw [zur_s]
  have hL' : WL (zRs R L w) n L := WL_zur (WL_zur (WL_zur hL (by omega)) (by omega)) (by omega)
  have hS' : WS (zRs R L w) n 10 := WS_zur (WS_zur (WS_zur hS (by omega)) (by omega)) (by omega)
  refine ⟨hWS, hL', hS', ?_⟩
  have i1 : zin (L + 14) (nI w) = true := zin_of hL.ln.2.2.2.2.2.2.2 hw7 (by decide)
  have e7 : (zur (zur R 138 2 (some L)) 138 3 (some 10)) L 7 = some (L + 14) := by rw [zur_n _ (by omega), zur_n _ (by omega)]; exact hL.r.2.2.2.2.2.2.2
  have e8 : (zur (zur R 138 2 (some L)) 138 3 (some 10)) (L + 14) w = some (L + 15 + w) := by rw [zur_n _ (by omega), zur_n _ (by omega)]; exact hL.2.2.2.2 w hw7
  have st := e_Sw_start 138 L 10 I R n
  simp only [hk, hL.k, hS.k, zc_t, e7, zr_s, h4, i1, Bool.true_or, Bool.true_and, zix_nI (show w < 2 ^ 31 by omega), e8] at st
  rw [show zur (zur (zur R 138 2 (some L)) 138 3 (some 10)) 138 4 (some (L + 15 + w)) = zRs R L w from rfl, e_Sw_start_28] at st
  simp only [hk, zc_t] at st
  have key : ∀ k, k ≤ P → ∃ J, Sw_start_35 138 L 10 (nI 0) (zup (zup I 138 6 0) 138 5 0) (zRs R L w) n = Sw_start_35 138 L 10 (nI k) J (zRs R L w) n ∧ J 138 6 = 0 ∧ J 138 5 = 0 ∧ (∀ i, i < k → J 140 i = zrow (fun w => I (L + 8 + w) i) w (Wk - w)) ∧ ∀ b, b ≠ 138 → b ≠ 140 → J b = I b := by
    intro k
    induction k with
    | zero =>
      intro _
      refine ⟨_, rfl, ?_, zup_s _ _ _ _, fun i hi => by omega, fun b h1 h2 => ?_⟩
      · rw [zup_k _ (by decide), zup_s]
      · funext j
        rw [zup_n _ h1, zup_n _ h1]
    | succ k ih =>
      intro hk'
      obtain ⟨J, e, a1, a2, a3, a4⟩ := ih (by omega)
      have eL : J L = I L := a4 L (by omega) (by omega)
      have pf := Lg_pointsFrom_ok (I := J) hL' (show k < 16 by omega) (by rw [a4 (L + 2) (by omega) (by omega)]; exact hW) hWk hw
      have ef : (fun w => J (L + 8 + w) k) = fun w => I (L + 8 + w) k := by
        funext v
        rw [a4 (L + 8 + v) (by omega) (by omega)]
      have st2 := e_Sw_start_35 138 L 10 (nI k) J (zRs R L w) n
      simp only [hWS.k, hWS.2, hL'.k, hS'.k, zc_t, zr_s, eL, hp, if_pos (nI_lt (show k < P by omega) (show P < 2 ^ 31 by omega)), a4 10 (by decide) (by decide), h4, pf, zbI_s, zin140 (show k < 16 by omega), Bool.true_and, zix_nI (show k < 2 ^ 31 by omega), nI_1] at st2
      refine ⟨_, e.trans st2, ?_, ?_, fun i hi => ?_, fun b h1 h2 => ?_⟩
      · rw [zup_n _ (by decide)]; exact a1
      · rw [zup_n _ (by decide)]; exact a2
      · by_cases z : i = k
        · subst z
          rw [zup_s, ef]
        · rw [zup_k _ z]; exact a3 i (by omega)
      · funext j
        rw [zup_n _ h2, a4 b h1 h2]
  obtain ⟨J, e, a1, a2, a3, a4⟩ := key P (Nat.le_refl _)
  rw [nI_0] at e
  refine ⟨J, ?_, a1, a2, a3, a4⟩
  rw [st, e, e_Sw_start_35]
  simp only [hL'.k, zc_t, a4 L (by omega) (by omega), hp]
  rw [if_neg (nI_nlt (Nat.le_refl _) (by omega))]
end LSw2
