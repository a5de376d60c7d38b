/-! ===== the search for swaps (class) ===== -/
def WSw (R : ZR) (n L w : Nat) : Prop := 195 ≤ n ∧ R 138 0 = some 139 ∧ R 138 1 = some 140 ∧ R 138 2 = some L ∧ R 138 3 = some 10 ∧ R 138 4 = some (L + 15 + w)
theorem zkS {n : Nat} (h : 195 ≤ n) : zis n 138 5 = true ∧ zis n 139 20 = true ∧ zis n 140 20 = true := by
  refine ⟨?_, ?_, ?_⟩ <;> exact zis_lit (by omega) (by decide)
theorem WSw.k {R : ZR} {n L w : Nat} (h : WSw R n L w) : zis n 138 5 = true ∧ zis n 139 20 = true ∧ zis n 140 20 = true := zkS h.1
theorem zin140 {i : Nat} (h : i < 16) : zin 140 (nI i) = true := zin_nI (by show _ < 16; omega) (by omega)
theorem zin139 : zin 139 0 = true ∧ zin 139 1 = true ∧ zin 139 2 = true ∧ zin 139 3 = true := by decide
def zgo {α : Type} (f : Nat → α → α) : Nat → Nat → α → α
  | 0, _, a => a
  | d + 1, o, a => zgo f d (o + 1) (f o a)
theorem zgo_congr {α : Type} {f g : Nat → α → α} : ∀ d o a, (∀ i b, o ≤ i → i < o + d → f i b = g i b) → zgo f d o a = zgo g d o a
  | 0, _, _, _ => rfl
  | d + 1, o, a, h => by
    show zgo f d (o + 1) (f o a) = zgo g d (o + 1) (g o a)
    rw [h o a (by omega) (by omega)]
    exact zgo_congr d (o + 1) _ (fun i b h1 h2 => h i b (by omega) (by omega))
def zwei (a : Bool × Int32 × Int32 × Int32 × Int32 × Int32) (g r0 r1 r2 r3 : Int32) : Bool × Int32 × Int32 × Int32 × Int32 × Int32 := if a.1 = false ∨ a.2.1 < g then (true, g, r0, r1, r2, r3) else a
def zSa (J : ZI) (a : Bool × Int32 × Int32 × Int32 × Int32 × Int32) : Prop := J 138 6 = zbo a.1 ∧ J 138 5 = a.2.1 ∧ (a.1 = true → J 139 0 = a.2.2.1 ∧ J 139 1 = a.2.2.2.1 ∧ J 139 2 = a.2.2.2.2.1 ∧ J 139 3 = a.2.2.2.2.2)
noncomputable def cCan (I : ZI) (L w P : Nat) (X : Nat) (mo : Int32) (i o : Nat) : Bool := !(decide (I 10 10 = 2)) && (X.testBit i && (!(X.testBit o) && (decide (I (L + 3) i = I (L + 3) o) && (!(decide (mo < I (L + 15 + w) o)) && zdc (cClubs I L (zswp X i o) P)))))
theorem zbool_bo (b : Bool) : zbool (zbo b) = true := by cases b <;> decide
theorem cCan_congr {I J : ZI} {L w P X : Nat} (mo : Int32) (i o : Nat) (hL : isL L) (h : ∀ b, b ≠ 138 → b ≠ 139 → J b = I b) : cCan J L w P X mo i o = cCan I L w P X mo i o := by
  have hl := isL_i hL
  unfold cCan cClubs
  rw [h 10 (by decide) (by decide), h (L + 3) (by omega) (by omega), h (L + 15 + w) (by omega) (by omega), h (L + 2) (by omega) (by omega), h (L + 4) (by omega) (by omega)]
section LSw
variable {R : ZR} {n L w P : Nat}
theorem Sw_canFollow_ok {I : ZI} (hw : WSw R n L w) (hL : WL R n L) (hS : WS R n 10) {X i o : Nat} (hX : X < 2 ^ 31) (hi : i < 16) (ho : o < 16) (hw7 : w < 7) (hP : P ≤ 16) (hs2 : zSets I (L + 6) (I (L + 4)) 6 P) (x2 : Int32) : Sw_canFollow 138 (nI X) x2 (nI i) (nI o) I R n = some (some (.int (zbo (cCan I L w P X x2 i o))), I, R, n) := by
  have i1 : zin (L + 3) (nI i) = true := zin_of hL.ln.2.2.1 hi (by decide)
  have i2 : zin (L + 3) (nI o) = true := zin_of hL.ln.2.2.1 ho (by decide)
  have i3 : zin (L + 15 + w) (nI o) = true := zin_of (hL.pw hw7).2 ho (by decide)
  rw [e_Sw_canFollow]
  simp only [hw.k, hw.2, hL.k, hL.r, hS.k, (hL.pw hw7).1, zc_t, zr_s, zbit hX (show i < 32 by omega), zbit hX (show o < 32 by omega), i1, i2, i3, Bool.true_or, Bool.true_and, zix_nI (show i < 2 ^ 31 by omega), zix_nI (show o < 2 ^ 31 by omega), zswp_I2 (show i < 31 by omega) (show o < 31 by omega), Lg_keepsClubs_ok hL hP hs2, zbI_s]
  unfold cCan
  by_cases c0 : I 10 10 = 2
  · rw [if_pos c0, decide_eq_true c0]; rfl
  · rw [if_neg c0, decide_eq_false c0]
    cases hb1 : X.testBit i with
    | false => rfl
    | true =>
      rw [if_pos rfl, if_neg (by decide)]
      cases hb2 : X.testBit o with
      | true => rfl
      | false =>
        rw [if_pos (show (if false = true then (1 : Int32) else 0) = 0 by decide)]
        by_cases c1 : I (L + 3) i = I (L + 3) o
        · rw [if_pos c1, decide_eq_true c1]
          by_cases c2 : x2 < I (L + 15 + w) o
          · rw [if_pos c2, decide_eq_true c2]; rfl
          · rw [if_neg c2, decide_eq_false c2]
            by_cases c3 : cClubs I L (zswp X i o) P
            · rw [zb01_t c3, zdc_t c3]; rfl
            · rw [zb01_f c3, zdc_f c3]; rfl
        · rw [if_neg c1, decide_eq_false c1]; rfl
theorem Sw_weigh62_ok {J : ZI} (hw : WSw R n L w) (x1 x2 x3 x4 x5 : Int32) : ∃ J', Sw_weigh_62 138 x1 x2 x3 x4 x5 J R n = some (none, J', R, n) ∧ zSa J' (true, x5, x1, x2, x3, x4) ∧ (∀ b, b ≠ 138 → b ≠ 139 → J' b = J b) := by
  rw [e_Sw_weigh_62]
  simp only [hw.k, hw.2, zc_t, zr_s, zin139, Bool.true_and, zixs]
  rw [e_Sw_weigh_87]
  simp only [hw.k, hw.2, zc_t, zr_s, zin139, Bool.true_and, zixs]
  refine ⟨_, rfl, ⟨?_, ?_, fun _ => ⟨?_, ?_, ?_, ?_⟩⟩, fun b h1 h2 => ?_⟩
  any_goals simp [zup_cases, zbo]
  funext j
  simp [zup_cases, h1, h2]
theorem zwei_case {J : ZI} {a : Bool × Int32 × Int32 × Int32 × Int32 × Int32} (hw : WSw R n L w) (ha : zSa J a) (x1 x2 x3 x4 g : Int32) : ∃ J', (if J 138 6 = 0 then Sw_weigh_62 138 x1 x2 x3 x4 g J R n else if J 138 5 < g then Sw_weigh_62 138 x1 x2 x3 x4 g J R n else some (none, J, R, n)) = some (none, J', R, n) ∧ zSa J' (zwei a g x1 x2 x3 x4) ∧ (∀ b, b ≠ 138 → b ≠ 139 → J' b = J b) := by
  obtain ⟨J', e, s, f⟩ := Sw_weigh62_ok (J := J) hw x1 x2 x3 x4 g
  unfold zwei
  rw [e, ha.1, ha.2.1]
  cases hb : a.1 with
  | false =>
    rw [if_pos (show zbo false = 0 by decide), if_pos (Or.inl rfl)]
    exact ⟨J', rfl, s, f⟩
  | true =>
    rw [if_neg (show ¬ zbo true = 0 by decide)]
    by_cases c : a.2.1 < g
    · rw [if_pos c, if_pos (Or.inr c)]; exact ⟨J', rfl, s, f⟩
    · rw [if_neg c, if_neg (fun z => by rcases z with z | z; cases z; exact c z)]
      exact ⟨J, rfl, ha, fun _ _ _ => rfl⟩
theorem Sw_weigh_one {J : ZI} {a : Bool × Int32 × Int32 × Int32 × Int32 × Int32} (hw : WSw R n L w) (ha : zSa J a) {i o : Nat} (hi : i < 16) (ho : o < 16) : ∃ J', Sw_weigh 138 (nI i) (nI o) (-1) (-1) J R n = some (none, J', R, n) ∧ zSa J' (zwei a (J 140 o - J 140 i) (nI i) (nI o) (-1) (-1)) ∧ (∀ b, b ≠ 138 → b ≠ 139 → J' b = J b) := by
  obtain ⟨J', e, s, f⟩ := zwei_case (J := J) hw ha (nI i) (nI o) (-1) (-1) (J 140 o - J 140 i)
  refine ⟨J', ?_, s, f⟩
  rw [e_Sw_weigh]
  simp only [hw.k, hw.2, zc_t, zr_s, zin140 hi, zin140 ho, Bool.true_or, Bool.true_and, zix_nI (show i < 2 ^ 31 by omega), zix_nI (show o < 2 ^ 31 by omega), if_true]
  exact e
theorem Sw_weigh_two {J : ZI} {a : Bool × Int32 × Int32 × Int32 × Int32 × Int32} (hw : WSw R n L w) (ha : zSa J a) {i o i2 o2 : Nat} (hi : i < 16) (ho : o < 16) (hi2 : i2 < 16) (ho2 : o2 < 16) : ∃ J', Sw_weigh 138 (nI i) (nI o) (nI i2) (nI o2) J R n = some (none, J', R, n) ∧ zSa J' (zwei a (J 140 o - J 140 i + (J 140 o2 - J 140 i2)) (nI i) (nI o) (nI i2) (nI o2)) ∧ (∀ b, b ≠ 138 → b ≠ 139 → J' b = J b) := by
  obtain ⟨J', e, s, f⟩ := zwei_case (J := J) hw ha (nI i) (nI o) (nI i2) (nI o2) (J 140 o - J 140 i + (J 140 o2 - J 140 i2))
  refine ⟨J', ?_, s, f⟩
  rw [e_Sw_weigh]
  simp only [hw.k, hw.2, zc_t, zr_s, zin140 hi, zin140 ho, zin140 hi2, zin140 ho2, Bool.true_or, Bool.true_and, zix_nI (show i < 2 ^ 31 by omega), zix_nI (show o < 2 ^ 31 by omega), zix_nI (show i2 < 2 ^ 31 by omega), zix_nI (show o2 < 2 ^ 31 by omega), if_neg (nI_nm1 (show i2 < 2 ^ 31 by omega)), if_neg (nI_nm1 (show o2 < 2 ^ 31 by omega))]
  exact e
theorem Sw_bringsNow_ok {I : ZI} (hw : WSw R n L w) (hL : WL R n L) (hS : WS R n 10) {i : Nat} (hi : i < 16) (hw7 : w < 7) (x : Int32) : Sw_bringsNow 138 (nI i) x I R n = some (some (.int (if nI i = x then I (L + 15 + w) i else zbrings (I (L + 15 + w) i) (I 11 i))), I, R, n) := by
  have i1 : zin (L + 15 + w) (nI i) = true := zin_of (hL.pw hw7).2 hi (by decide)
  rw [e_Sw_bringsNow]
  simp only [hw.k, hw.2, hS.k, (hL.pw hw7).1, zc_t, zr_s, i1, Bool.true_or, Bool.true_and, zix_nI (show i < 2 ^ 31 by omega), Se_brings_ok hS hi, zbI_s]
  by_cases c : nI i = x
  · rw [if_pos c, if_pos c]
  · rw [if_neg c, if_neg c]
/-- one pair weighed -/
noncomputable def cF1 (I : ZI) (L w P O : Nat) (G : Nat → Int32) (i o : Nat) (a : Bool × Int32 × Int32 × Int32 × Int32 × Int32) : Bool × Int32 × Int32 × Int32 × Int32 × Int32 := if cCan I L w P O (I 10 3 + zbrings (I (L + 15 + w) i) (I 11 i)) i o = true then zwei a (G o - G i) (nI i) (nI o) (-1) (-1) else a
theorem Sw_one_inner {I : ZI} (hw : WSw R n L w) (hL : WL R n L) (hS : WS R n 10) {O i : Nat} {G : Nat → Int32} (hO : O < 2 ^ 31) (hi : i < P) (hw7 : w < 7) (hP : P ≤ 16) (hs2 : zSets I (L + 6) (I (L + 4)) 6 P) (hp : I L 8 = nI P) (ho : I 10 8 = nI O) (hG : ∀ i, i < P → I 140 i = G i) : ∀ d o (J : ZI) a, o + d = P → (∀ b, b ≠ 138 → b ≠ 139 → J b = I b) → zSa J a → ∃ J', Sw_findOne_32 138 L 10 (nI i) (I 10 3 + zbrings (I (L + 15 + w) i) (I 11 i)) (nI o) J R n = Sw_findOne_8 138 L 10 (nI (i + 1)) J' R n ∧ (∀ b, b ≠ 138 → b ≠ 139 → J' b = I b) ∧ zSa J' (zgo (cF1 I L w P O G i) d o a) := by
  have hl := isL_i hL.2.1
  intro d
  induction d with
  | zero =>
    intro o J a hd hJ ha
    refine ⟨J, ?_, hJ, ha⟩
    rw [e_Sw_findOne_32]
    simp only [hL.k, zc_t, hJ L (by omega) (by omega), hp]
    rw [if_neg (nI_nlt (show P ≤ o by omega) (by omega)), nI_1]
  | succ d ih =>
    intro o J a hd hJ ha
    have hs2' : zSets J (L + 6) (J (L + 4)) 6 P := zSets_congr (hJ _ (by omega) (by omega)) (hJ _ (by omega) (by omega)) hs2
    have st := e_Sw_findOne_32 138 L 10 (nI i) (I 10 3 + zbrings (I (L + 15 + w) i) (I 11 i)) (nI o) J R n
    simp only [hL.k, hS.k, hw.k, zc_t, hJ L (by omega) (by omega), hJ 10 (by omega) (by omega), hp, ho, if_pos (nI_lt (show o < P by omega) (show P < 2 ^ 31 by omega)), Sw_canFollow_ok hw hL hS hO (show i < 16 by omega) (show o < 16 by omega) hw7 hP hs2', zbI_s, cCan_congr (I := I) _ i o hL.2.1 hJ, nI_1] at st
    cases hc : cCan I L w P O (I 10 3 + zbrings (I (L + 15 + w) i) (I 11 i)) i o with
    | false =>
      rw [hc, if_pos (show zbo false = 0 by decide)] at st
      obtain ⟨J', e, f, s⟩ := ih (o + 1) J a (by omega) hJ ha
      refine ⟨J', st.trans e, f, ?_⟩
      show zSa J' (zgo _ d (o + 1) (cF1 I L w P O G i o a))
      unfold cF1 at s ⊢
      rw [hc, if_neg (by decide)]
      exact s
    | true =>
      rw [hc, if_neg (show ¬ zbo true = 0 by decide)] at st
      obtain ⟨J1, e1, s1, f1⟩ := Sw_weigh_one (J := J) hw ha (show i < 16 by omega) (show o < 16 by omega)
      have g1 : J 140 o = G o := by rw [hJ 140 (by decide) (by decide)]; exact hG o (by omega)
      have g2 : J 140 i = G i := by rw [hJ 140 (by decide) (by decide)]; exact hG i hi
      rw [g1, g2] at s1
      simp only [e1, zbV_s] at st
      obtain ⟨J', e, f, s⟩ := ih (o + 1) J1 _ (by omega) (fun b h1 h2 => by rw [f1 b h1 h2, hJ b h1 h2]) s1
      refine ⟨J', st.trans e, f, ?_⟩
      show zSa J' (zgo _ d (o + 1) (cF1 I L w P O G i o a))
      have e2 : cF1 I L w P O G i o a = zwei a (G o - G i) (nI i) (nI o) (-1) (-1) := by unfold cF1; rw [hc, if_pos rfl]
      rw [e2]
      exact s
theorem Sw_one_outer {I : ZI} (hw : WSw R n L w) (hL : WL R n L) (hS : WS R n 10) {O : Nat} {G : Nat → Int32} (hO : O < 2 ^ 31) (hw7 : w < 7) (hP : P ≤ 16) (hs2 : zSets I (L + 6) (I (L + 4)) 6 P) (hp : I L 8 = nI P) (ho : I 10 8 = nI O) (hG : ∀ i, i < P → I 140 i = G i) : ∀ d i (J : ZI) a, i + d = P → (∀ b, b ≠ 138 → b ≠ 139 → J b = I b) → zSa J a → ∃ J', Sw_findOne_8 138 L 10 (nI i) J R n = some (some (.int (zbo (zgo (fun i => zgo (cF1 I L w P O G i) P 0) d i a).1)), J', R, n) ∧ (∀ b, b ≠ 138 → b ≠ 139 → J' b = I b) ∧ zSa J' (zgo (fun i => zgo (cF1 I L w P O G i) P 0) d i a) := by
  have hl := isL_i hL.2.1
  intro d
  induction d with
  | zero =>
    intro i J a hd hJ ha
    refine ⟨J, ?_, hJ, ha⟩
    rw [e_Sw_findOne_8]
    simp only [hL.k, hw.k, zc_t, hJ L (by omega) (by omega), hp, ha.1, zbool_bo]
    rw [if_neg (nI_nlt (show P ≤ i by omega) (by omega))]
    rfl
  | succ d ih =>
    intro i J a hd hJ ha
    have m1 : ¬ nI i = -1 := nI_nm1 (by omega)
    have st := e_Sw_findOne_8 138 L 10 (nI i) J R n
    simp only [hL.k, hS.k, hw.k, zc_t, hJ L (by omega) (by omega), hJ 10 (by omega) (by omega), hp, if_pos (nI_lt (show i < P by omega) (show P < 2 ^ 31 by omega)), Sw_bringsNow_ok hw hL hS (show i < 16 by omega) hw7, if_neg m1, zbI_s, hJ (L + 15 + w) (by omega) (by omega), hJ 11 (by omega) (by omega)] at st
    obtain ⟨J1, e1, f1, s1⟩ := Sw_one_inner (I := I) hw hL hS hO (show i < P by omega) hw7 hP hs2 hp ho hG P 0 J a (by omega) hJ ha
    rw [nI_0] at e1
    obtain ⟨J', e, f, s⟩ := ih (i + 1) J1 _ (by omega) f1 s1
    exact ⟨J', st.trans (e1.trans e), f, s⟩
end LSw
