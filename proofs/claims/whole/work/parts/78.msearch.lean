/-! ===== the reference's swaps ===== -/
def zAo (a : Bool × Int32 × Int32 × Int32 × Int32 × Int32) : Prop := (a.1 = false → a.2.2.1 = -1) ∧ (a.1 = true → ¬ a.2.2.1 = -1)
def zSm (J : ZI) (a : Bool × Int32 × Int32 × Int32 × Int32 × Int32) : Prop := J 213 0 = a.2.2.1 ∧ (a.1 = true → J 213 1 = a.2.2.2.1 ∧ J 213 2 = a.2.2.2.2.1 ∧ J 213 3 = a.2.2.2.2.2 ∧ J 213 4 = a.2.1) ∧ zAo a
theorem zAo_wei {a : Bool × Int32 × Int32 × Int32 × Int32 × Int32} (h : zAo a) (g r1 r2 r3 : Int32) {i : Nat} (hi : i < 2 ^ 31) : zAo (zwei a g (nI i) r1 r2 r3) := by
  unfold zwei
  by_cases c : a.1 = false ∨ a.2.1 < g
  · rw [if_pos c]
    exact ⟨fun z => by simp at z, fun _ => nI_nm1 hi⟩
  · rw [if_neg c]; exact h
theorem zwei_m {α : Type} {a : Bool × Int32 × Int32 × Int32 × Int32 × Int32} (h : zAo a) (g : Int32) (x y : α) : (if a.2.2.1 = -1 then x else if a.2.1 < g then x else y) = if a.1 = false ∨ a.2.1 < g then x else y := by
  cases hb : a.1 with
  | false => rw [if_pos (h.1 hb), if_pos (Or.inl rfl)]
  | true =>
    rw [if_neg (h.2 hb)]
    by_cases c : a.2.1 < g
    · rw [if_pos c, if_pos (Or.inr c)]
    · rw [if_neg c, if_neg (fun z => by rcases z with z | z; cases z; exact c z)]
theorem z4sub (a b c d : Int32) : a - b + c - d = a - b + (c - d) := by
  rw [Int32.sub_eq_add_neg (a - b + c), Int32.add_assoc, ← Int32.sub_eq_add_neg]
noncomputable def mCan (I : ZI) (P X : Nat) (mo : Int32) (i o : Nat) : Bool := X.testBit i && (!(X.testBit o) && (zdc (mTeam I (zswp X i o) P) && !(decide (mo < I 208 (11 + o)))))
def mG (I : ZI) (w Wk i : Nat) : Int32 := zrow (fun v => I 206 (6 * i + v)) w (Wk - w)
def mMo (I : ZI) (i : Nat) : Int32 := I 208 2 + zbrings (I 208 (11 + i)) (I 208 (27 + i))
noncomputable def mF1 (I : ZI) (w Wk P O i o : Nat) (a : Bool × Int32 × Int32 × Int32 × Int32 × Int32) : Bool × Int32 × Int32 × Int32 × Int32 × Int32 := if mCan I P O (mMo I i) i o = true then zwei a (mG I w Wk o - mG I w Wk i) (nI i) (nI o) (-1) (-1) else a
def mMo2 (I : ZI) (o i2 : Nat) (left : Int32) : Int32 := left + (if nI i2 = nI o then I 208 (11 + i2) else zbrings (I 208 (11 + i2)) (I 208 (27 + i2)))
noncomputable def mF2 (I : ZI) (w Wk P O i o : Nat) (left : Int32) (i2 o2 : Nat) (a : Bool × Int32 × Int32 × Int32 × Int32 × Int32) : Bool × Int32 × Int32 × Int32 × Int32 × Int32 := if mCan I P (zswp O i o) (mMo2 I o i2 left) i2 o2 = true then zwei a (mG I w Wk o - mG I w Wk i + (mG I w Wk o2 - mG I w Wk i2)) (nI i) (nI o) (nI i2) (nI o2) else a
noncomputable def mF3 (I : ZI) (w Wk P O i o : Nat) (a : Bool × Int32 × Int32 × Int32 × Int32 × Int32) : Bool × Int32 × Int32 × Int32 × Int32 × Int32 := if (O.testBit i && (!(O.testBit o) && (zdc (mTeam I (zswp O i o) P) && !(decide (mMo I i - I 208 (11 + o) < 0))))) = true then zgo (fun i2 => zgo (mF2 I w Wk P O i o (mMo I i - I 208 (11 + o)) i2) P 0) P 0 a else a
section LMs
variable {I : ZI} {R : ZR} {n w Wk P O : Nat}
theorem M_one_inner (h : WM R n) (hP : P ≤ 16) (hp : I 195 17 = nI P) (hb : I 208 0 = 1) (ht : I 208 1 = nI O) (hO : O < 2 ^ P) (hW : I 198 6 = nI Wk) (hWk : Wk ≤ 6) (h9 : I 208 9 = nI w) (hw : w ≤ Wk) {i : Nat} (hi : i < P) (x1 : Int32) : ∀ d o a, o + d = P → zAo a → M_bestSwap_60 195 x1 a.2.2.1 a.2.2.2.1 a.2.1 (nI i) (nI o) I R n = M_bestSwap_48 195 x1 (zgo (mF1 I w Wk P O i) d o a).2.2.1 (zgo (mF1 I w Wk P O i) d o a).2.2.2.1 (zgo (mF1 I w Wk P O i) d o a).2.1 (nI (i + 1)) I R n ∧ zAo (zgo (mF1 I w Wk P O i) d o a) := by
  have hp16 : 2 ^ P ≤ 2 ^ 16 := Nat.pow_le_pow_right (by omega) hP
  intro d
  induction d with
  | zero =>
    intro o a hd ha
    refine ⟨?_, ha⟩
    rw [e_M_bestSwap_60]
    simp only [h.k, zc_t, hp]
    rw [if_neg (nI_nlt (show P ≤ o by omega) (by omega)), nI_1]
    rfl
  | succ d ih =>
    intro o a hd ha
    have st := e_M_bestSwap_60 195 x1 a.2.2.1 a.2.2.2.1 a.2.1 (nI i) (nI o) I R n
    simp only [h.k, h.2, zc_t, zr_s, hp, if_pos (nI_lt (show o < P by omega) (show P < 2 ^ 31 by omega)), M_isOwned_ok h hb ht (show O < 2 ^ 31 by omega) (show i < 32 by omega), M_isOwned_ok h hb ht (show O < 2 ^ 31 by omega) (show o < 32 by omega), zbI_s, M_swapped_ok h, ht, nI_1] at st
    have skip : mF1 I w Wk P O i o a = a → M_bestSwap_60 195 x1 a.2.2.1 a.2.2.2.1 a.2.1 (nI i) (nI o) I R n = M_bestSwap_60 195 x1 a.2.2.1 a.2.2.2.1 a.2.1 (nI i) (nI (o + 1)) I R n → M_bestSwap_60 195 x1 a.2.2.1 a.2.2.2.1 a.2.1 (nI i) (nI o) I R n = M_bestSwap_48 195 x1 (zgo (mF1 I w Wk P O i) (d + 1) o a).2.2.1 (zgo (mF1 I w Wk P O i) (d + 1) o a).2.2.2.1 (zgo (mF1 I w Wk P O i) (d + 1) o a).2.1 (nI (i + 1)) I R n ∧ zAo (zgo (mF1 I w Wk P O i) (d + 1) o a) := by
      intro e1 e2
      have e3 : zgo (mF1 I w Wk P O i) (d + 1) o a = zgo (mF1 I w Wk P O i) d (o + 1) a := by
        show zgo _ d (o + 1) (mF1 I w Wk P O i o a) = _
        rw [e1]
      rw [e3]
      have := ih (o + 1) a (by omega) ha
      exact ⟨e2.trans this.1, this.2⟩
    cases b1 : O.testBit i with
    | false =>
      rw [b1, if_neg (show ¬ (false = true) by decide), if_pos rfl] at st
      exact skip (by unfold mF1 mCan; rw [b1]; rfl) st
    | true =>
      rw [b1, if_pos rfl, if_neg (by decide)] at st
      cases b2 : O.testBit o with
      | true =>
        rw [b2, if_pos rfl, if_neg (by decide)] at st
        exact skip (by unfold mF1 mCan; rw [b1, b2]; rfl) st
      | false =>
        rw [b2, if_neg (show ¬ (false = true) by decide), if_pos rfl, zswp_M (show O < 65536 by omega) b1 b2 (by omega) (by omega)] at st
        have hsw : zswp O i o < 2 ^ P := zswp_lt hO hi (by omega)
        simp only [h.k, h.2, zc_t, zr_s, M_isTeam_ok h (show zswp O i o < 2 ^ 31 by omega) hP hp, zbI_s, zin208, zixs, Bool.true_or, Bool.true_and, M_brings2_ok h (show i < 16 by omega), M_priceOf_ok h (show o < 16 by omega), h9, M_pointsIn_ok h (show o < 16 by omega) hW hWk hw, M_pointsIn_ok h (show i < 16 by omega) hW hWk hw] at st
        by_cases c3 : mTeam I (zswp O i o) P
        · rw [zb01_t c3, if_neg (by decide)] at st
          by_cases c4 : I 208 2 + zbrings (I 208 (11 + i)) (I 208 (27 + i)) < I 208 (11 + o)
          · rw [if_pos c4] at st
            exact skip (by unfold mF1 mCan mMo; rw [b1, b2, decide_eq_true c4]; simp) st
          · rw [if_neg c4] at st
            have e1 : mF1 I w Wk P O i o a = zwei a (mG I w Wk o - mG I w Wk i) (nI i) (nI o) (-1) (-1) := by
              unfold mF1 mCan mMo
              rw [b1, b2, decide_eq_false c4, zdc_t c3]
              rfl
            have e3 : zgo (mF1 I w Wk P O i) (d + 1) o a = zgo (mF1 I w Wk P O i) d (o + 1) (zwei a (mG I w Wk o - mG I w Wk i) (nI i) (nI o) (-1) (-1)) := by
              show zgo _ d (o + 1) (mF1 I w Wk P O i o a) = _
              rw [e1]
            rw [e3]
            have hz := zAo_wei ha (mG I w Wk o - mG I w Wk i) (nI o) (-1) (-1) (show i < 2 ^ 31 by omega)
            have := ih (o + 1) _ (by omega) hz
            refine ⟨Eq.trans ?_ this.1, this.2⟩
            rw [st]
            show (if a.2.2.1 = -1 then M_bestSwap_60 195 x1 (nI i) (nI o) (mG I w Wk o - mG I w Wk i) (nI i) (nI (o + 1)) I R n else if a.2.1 < mG I w Wk o - mG I w Wk i then M_bestSwap_60 195 x1 (nI i) (nI o) (mG I w Wk o - mG I w Wk i) (nI i) (nI (o + 1)) I R n else M_bestSwap_60 195 x1 a.2.2.1 a.2.2.2.1 a.2.1 (nI i) (nI (o + 1)) I R n) = _
            rw [zwei_m ha]
            unfold zwei
            by_cases c5 : a.1 = false ∨ a.2.1 < mG I w Wk o - mG I w Wk i
            · rw [if_pos c5, if_pos c5]
            · rw [if_neg c5, if_neg c5]
        · rw [zb01_f c3, if_pos rfl] at st
          exact skip (by unfold mF1 mCan; rw [b1, b2, zdc_f c3]; rfl) st
theorem M_one_outer (h : WM R n) (hP : P ≤ 16) (hp : I 195 17 = nI P) (hb : I 208 0 = 1) (ht : I 208 1 = nI O) (hO : O < 2 ^ P) (hW : I 198 6 = nI Wk) (hWk : Wk ≤ 6) (h9 : I 208 9 = nI w) (hw : w ≤ Wk) (x1 : Int32) : ∀ d i a, i + d = P → zAo a → ∃ b, b = zgo (fun i => zgo (mF1 I w Wk P O i) P 0) d i a ∧ zAo b ∧ M_bestSwap_48 195 x1 a.2.2.1 a.2.2.2.1 a.2.1 (nI i) I R n = some (some (.int (if b.1 = true then (if x1 = 0 then b.2.2.1 else if x1 = 1 then b.2.2.2.1 else b.2.1) else -1000000)), I, R, n) := by
  intro d
  induction d with
  | zero =>
    intro i a hd ha
    refine ⟨a, rfl, ha, ?_⟩
    rw [e_M_bestSwap_48]
    simp only [h.k, zc_t, hp]
    rw [if_neg (nI_nlt (show P ≤ i by omega) (by omega))]
    cases hb1 : a.1 with
    | false => rw [if_pos (ha.1 hb1), if_neg (by decide)]
    | true =>
      rw [if_neg (ha.2 hb1), if_pos rfl]
      by_cases c1 : x1 = 0
      · rw [if_pos c1, if_pos c1]
      · rw [if_neg c1, if_neg c1]
        by_cases c2 : x1 = 1
        · rw [if_pos c2, if_pos c2]
        · rw [if_neg c2, if_neg c2]
  | succ d ih =>
    intro i a hd ha
    have st := e_M_bestSwap_48 195 x1 a.2.2.1 a.2.2.2.1 a.2.1 (nI i) I R n
    simp only [h.k, zc_t, hp, if_pos (nI_lt (show i < P by omega) (show P < 2 ^ 31 by omega))] at st
    have inn := M_one_inner (I := I) h hP hp hb ht hO hW hWk h9 hw (show i < P by omega) x1 P 0 a (by omega) ha
    rw [nI_0] at inn
    obtain ⟨b, e1, e2, e3⟩ := ih (i + 1) _ (by omega) inn.2
    exact ⟨b, e1, e2, st.trans (inn.1.trans e3)⟩
end LMs
