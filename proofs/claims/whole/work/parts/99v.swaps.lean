/-! ===== bestSwap, twoSwaps ===== -/
theorem zcl3 {α : Type} (x : Int32) {N : Nat} (hN : N + 1 < 2 ^ 31) (A B : α) : (if x < 0 then A else if nI N < x then A else B) = if zlt x (N + 1) = 0 then A else B := by
  unfold zlt
  by_cases c : x < 0
  · rw [if_pos c, if_pos c, if_pos rfl]
  · rw [if_neg c, if_neg c]
    obtain ⟨j, hj, rfl⟩ := nI_of c
    by_cases c2 : N < j
    · rw [if_pos ((nI_ltI (by omega) hj).mpr c2), if_neg (show ¬ nI j < nI (N + 1) from fun e => by rw [nI_ltI hj hN] at e; omega), if_pos rfl]
    · rw [if_neg (show ¬ nI N < nI j from fun e => by rw [nI_ltI (by omega) hj] at e; omega), if_pos ((nI_ltI hj hN).mpr (by omega)), if_neg (by decide)]
theorem zgo_id {α : Type} {f : Nat → α → α} : ∀ d o a, (∀ i b, f i b = b) → zgo f d o a = a
  | 0, _, _, _ => rfl
  | d + 1, o, a, h => by
    show zgo f d (o + 1) (f o a) = a
    rw [h o a]
    exact zgo_id d (o + 1) a h
section LSs
variable {q : Nat} {I : ZI} {R : ZR} {n L L' P Wk z m : Nat} {t : Nat → Nat}
theorem cCan_2 {w X : Nat} (c : I 10 10 = 2) (mo : Int32) (i o : Nat) : cCan I L w P X mo i o = false := by
  unfold cCan
  rw [decide_eq_true c]; rfl
theorem zCan_eq (g : zLg I L P Wk z) (c2 : ¬ I 10 10 = 2) {X w i o : Nat} (hX : cSlots I L X P) (hi : i < P) (ho : o < P) {mo mo' : Int32} (hmo : X.testBit i = true → mo = mo') (hpr : I 208 (11 + o) = I (L + 15 + w) o) : cCan I L w P X mo i o = mCan I P X mo' i o := by
  unfold cCan mCan
  rw [decide_eq_false c2, hpr]
  cases hbi : X.testBit i with
  | false => rfl
  | true =>
    cases hbo : X.testBit o with
    | true => rfl
    | false =>
      have exf : ∃ pl : Nat → Nat, ∀ i, i < P → I (L + 3) i = nI (pl i) ∧ pl i < 4 := by
        refine ⟨fun i => if hh : i < P then Classical.choose (g.2.2.2.2.2.1 i hh).1 else 0, fun i hi => ?_⟩
        dsimp only
        rw [dif_pos hi]
        have := Classical.choose_spec (g.2.2.2.2.2.1 i hi).1
        exact ⟨this.2.1, this.1⟩
      obtain ⟨pl, pl1⟩ := exf
      have e := cSlots_swp (I := I) (L := L) (S := X) (P := P) (a := i) (b := o) g.1.2.1 hX hbi hbo hi ho pl1
      rw [hmo hbi]
      have em : zdc (mTeam I (zswp X i o) P) = zdc (cTeam I L (zswp X i o) P) := by rw [propext (mTeam_c g (zswp X i o))]
      rw [em]
      show (decide (I (L + 3) i = I (L + 3) o) && (!(decide (mo' < I (L + 15 + w) o)) && zdc (cClubs I L (zswp X i o) P))) = (zdc (cTeam I L (zswp X i o) P) && !(decide (mo' < I (L + 15 + w) o)))
      by_cases c1 : I (L + 3) i = I (L + 3) o
      · rw [decide_eq_true c1]
        by_cases c3 : cClubs I L (zswp X i o) P
        · rw [zdc_t c3, zdc_t (show cTeam I L (zswp X i o) P from ⟨e.mpr c1, c3⟩)]
          cases (!(decide (mo' < I (L + 15 + w) o))) <;> rfl
        · rw [zdc_f c3, zdc_f (fun y : cTeam I L (zswp X i o) P => c3 y.2)]
          cases (!(decide (mo' < I (L + 15 + w) o))) <;> rfl
      · rw [decide_eq_false c1, zdc_f (fun y : cTeam I L (zswp X i o) P => c1 (e.mp y.1))]; rfl
/-- what both searches need of a memory -/
def zSf (I : ZI) (L P w O mo : Nat) : Prop := cSlots I L O P ∧ (I 10 3 = nI mo ∧ I 208 2 = nI mo ∧ mo ≤ 100000000) ∧ (∀ i, i < P → O.testBit i = true → ∃ v, 1 ≤ v ∧ v ≤ 99 ∧ I 11 i = nI v ∧ I 208 (27 + i) = nI v) ∧ ∀ i, i < P → I 208 (11 + i) = I (L + 15 + w) i ∧ ∃ v, 1 ≤ v ∧ v ≤ 99 ∧ I (L + 15 + w) i = nI v
theorem zMo_eq {w O mo : Nat} (s : zSf I L P w O mo) {i : Nat} (hi : i < P) (hb : O.testBit i = true) : I 10 3 + zbrings (I (L + 15 + w) i) (I 11 i) = mMo I i ∧ ∃ v, v ≤ 100000100 ∧ mMo I i = nI v := by
  obtain ⟨-, ⟨m1, m2, m3⟩, hbt, hpr⟩ := s
  obtain ⟨v, v1, v2, v3, v4⟩ := hbt i hi hb
  obtain ⟨p1, p, p2, p3, p4⟩ := hpr i hi
  obtain ⟨b, b1, b2, b3⟩ := zbrings_r p v p2 p3 v1 v2
  unfold mMo
  rw [m1, m2, p1, v3, v4, p4, b3, nI_add]
  exact ⟨rfl, _, by omega, rfl⟩
theorem zF1_eq (g : zLg I L P Wk z) (c2 : ¬ I 10 10 = 2) {w O mo : Nat} (s : zSf I L P w O mo) {i o : Nat} (hi : i < P) (ho : o < P) (a : Bool × Int32 × Int32 × Int32 × Int32 × Int32) : cF1 I L w P O (mG I w Wk) i o a = mF1 I w Wk P O i o a := by
  unfold cF1 mF1
  rw [zCan_eq g c2 s.1 hi ho (fun hb => (zMo_eq s hi hb).1) (s.2.2.2 o ho).1]
theorem zCan_m (g : zLg I L P Wk z) {w O mo : Nat} (s : zSf I L P w O mo) {i o : Nat} (hi : i < P) (ho : o < P) : mCan I P O (mMo I i) i o = (O.testBit i && (!(O.testBit o) && (zdc (mTeam I (zswp O i o) P) && !(decide (mMo I i - I 208 (11 + o) < 0))))) := by
  obtain ⟨p1, p, p2, p3, p4⟩ := s.2.2.2 o ho
  unfold mCan
  cases hb : O.testBit i with
  | false => rw [Bool.false_and, Bool.false_and]
  | true =>
    obtain ⟨-, v, v1, v2⟩ := zMo_eq s hi hb
    rw [v2, p1, p4]
    have : (nI v < nI p) ↔ (nI v - nI p < 0) := by
      rw [nI_ltI (by omega) (by omega), Int32.lt_iff_toInt_lt, pk_sub_toInt (by omega) (by omega)]
      have : (0 : Int32).toInt = 0 := by decide
      omega
    rw [decide_eq_decide.mpr this]
theorem zF2_eq (g : zLg I L P Wk z) (c2 : ¬ I 10 10 = 2) {w O mo : Nat} (s : zSf I L P w O mo) {i o i2 o2 : Nat} (ht : cSlots I L (zswp O i o) P) (hb : O.testBit i = true) (hi2 : i2 < P) (ho2 : o2 < P) (left : Int32) (a : Bool × Int32 × Int32 × Int32 × Int32 × Int32) : cF2 I L w P O (mG I w Wk) i o left i2 o2 a = mF2 I w Wk P O i o left i2 o2 a := by
  have e : cCan I L w P (zswp O i o) (left + (if nI i2 = nI o then I (L + 15 + w) i2 else zbrings (I (L + 15 + w) i2) (I 11 i2))) i2 o2 = mCan I P (zswp O i o) (mMo2 I o i2 left) i2 o2 := by
    refine zCan_eq (w := w) g c2 ht hi2 ho2 (fun hb2 => ?_) (s.2.2.2 o2 ho2).1
    unfold mMo2
    rw [(s.2.2.2 i2 hi2).1]
    by_cases e : nI i2 = nI o
    · rw [if_pos e, if_pos e]
    · rw [if_neg e, if_neg e]
      have e' : i2 ≠ o := fun y => e (by rw [y])
      have hbi2 : O.testBit i2 = true := by
        by_cases e2 : i2 = i
        · rw [e2]; exact hb
        · rw [zswp_bit, decide_eq_false e2, decide_eq_false e', Bool.xor_false, Bool.xor_false] at hb2
          exact hb2
      obtain ⟨v, -, -, v3, v4⟩ := s.2.2.1 i2 hi2 hbi2
      rw [v3, v4]
  unfold cF2 mF2
  rw [e]
theorem zF3_eq (g : zLg I L P Wk z) (c2 : ¬ I 10 10 = 2) {w O mo : Nat} (s : zSf I L P w O mo) {i o : Nat} (hi : i < P) (ho : o < P) (a : Bool × Int32 × Int32 × Int32 × Int32 × Int32) : cF3 I L w P O (mG I w Wk) i o a = mF3 I w Wk P O i o a := by
  have e1 := (zCan_eq (w := w) g c2 s.1 hi ho (fun hb => (zMo_eq s hi hb).1) (s.2.2.2 o ho).1).trans (zCan_m g s hi ho)
  have p1 := (s.2.2.2 o ho).1
  unfold cF3 mF3
  rw [e1]
  by_cases c : (O.testBit i && (!(O.testBit o) && (zdc (mTeam I (zswp O i o) P) && !(decide (mMo I i - I 208 (11 + o) < 0))))) = true
  · rw [if_pos c, if_pos c]
    rw [Bool.and_eq_true, Bool.and_eq_true, Bool.and_eq_true] at c
    have hb := c.1
    have ht := ((mTeam_c g _).mp (zdc_iff.mp c.2.2.1)).1
    rw [(zMo_eq s hi hb).1, p1]
    exact zgo_congr _ _ _ (fun i2 b _ h2 => zgo_congr _ _ _ (fun o2 b2 _ h4 => zF2_eq g c2 s ht hb (by omega) (by omega) _ _))
  · rw [if_neg c, if_neg c]
end LSs
