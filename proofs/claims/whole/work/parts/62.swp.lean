/-! ===== a swap keeps the slots just if both have one place ===== -/
theorem zcnt_swp {S a b : Nat} (c : Nat → Bool) (ha : S.testBit a = true) (hb : S.testBit b = false) : ∀ k, zcnt (zswp S a b) c k + (if decide (a < k) && c a then 1 else 0) = zcnt S c k + (if decide (b < k) && c b then 1 else 0)
  | 0 => by simp [zcnt]
  | k + 1 => by
    have ih := zcnt_swp c ha hb k
    have hab : a ≠ b := fun q => by rw [q, hb] at ha; cases ha
    rw [zcnt_succ, zcnt_succ, zswp_bit]
    by_cases q1 : k = a
    · subst q1
      have e1 : decide (k < k) = false := decide_eq_false (by omega)
      have e2 : decide (k < k + 1) = true := decide_eq_true (by omega)
      have e3 : decide (b < k + 1) = decide (b < k) := decide_eq_decide.mpr ⟨fun z => by omega, fun z => by omega⟩
      have e4 : decide (k = b) = false := decide_eq_false hab
      have e5 : decide (k = k) = true := decide_eq_true rfl
      rw [e1] at ih
      rw [e2, e3, e4, e5, ha]
      cases c k <;> simp at ih ⊢ <;> omega
    · by_cases q2 : k = b
      · subst q2
        have e1 : decide (k < k) = false := decide_eq_false (by omega)
        have e2 : decide (k < k + 1) = true := decide_eq_true (by omega)
        have e3 : decide (a < k + 1) = decide (a < k) := decide_eq_decide.mpr ⟨fun z => by omega, fun z => by omega⟩
        have e4 : decide (k = a) = false := decide_eq_false q1
        have e5 : decide (k = k) = true := decide_eq_true rfl
        rw [e1] at ih
        rw [e2, e3, e4, e5, hb]
        cases c k <;> simp at ih ⊢ <;> omega
      · have e3 : decide (a < k + 1) = decide (a < k) := decide_eq_decide.mpr ⟨fun z => by omega, fun z => by omega⟩
        have e6 : decide (b < k + 1) = decide (b < k) := decide_eq_decide.mpr ⟨fun z => by omega, fun z => by omega⟩
        have e4 : decide (k = a) = false := decide_eq_false q1
        have e5 : decide (k = b) = false := decide_eq_false q2
        rw [e3, e6, e4, e5, Bool.xor_false, Bool.xor_false]
        omega
theorem cSlots_swp {I : ZI} {L S P a b : Nat} {pl : Nat → Nat} (hP : P ≤ 16) (hS : cSlots I L S P) (ha : S.testBit a = true) (hb : S.testBit b = false) (haP : a < P) (hbP : b < P) (hpl : ∀ i, i < P → I (L + 3) i = nI (pl i) ∧ pl i < 4) : cSlots I L (zswp S a b) P ↔ I (L + 3) a = I (L + 3) b := by
  have hle := fun (T : Nat) (c : Nat → Bool) => zcnt_le T c P
  constructor
  · intro h
    obtain ⟨p1, p2⟩ := hpl a haP
    have k := zcnt_swp (fun i => decide (I (L + 3) i = nI (pl a))) ha hb P
    have e : zcnt (zswp S a b) (fun i => decide (I (L + 3) i = nI (pl a))) P = zcnt S (fun i => decide (I (L + 3) i = nI (pl a))) P := by
      have h1 := h (pl a) p2
      have h2 := hS (pl a) p2
      rw [← h2] at h1
      have l1 := hle (zswp S a b) (fun i => decide (I (L + 3) i = nI (pl a)))
      have l2 := hle S (fun i => decide (I (L + 3) i = nI (pl a)))
      exact (nI_eq (by omega) (by omega)).mp h1
    rw [e, decide_eq_true haP, decide_eq_true hbP, decide_eq_true p1] at k
    by_cases q : I (L + 3) b = nI (pl a)
    · rw [p1, q]
    · rw [decide_eq_false q] at k
      simp at k
  · intro h p hp
    have k := zcnt_swp (fun i => decide (I (L + 3) i = nI p)) ha hb P
    simp only [h, decide_eq_true haP, decide_eq_true hbP] at k
    have e : zcnt (zswp S a b) (fun i => decide (I (L + 3) i = nI p)) P = zcnt S (fun i => decide (I (L + 3) i = nI p)) P := by omega
    rw [e]
    exact hS p hp
/-- the reference writes a swap with other signs -/
theorem zswp_M {S a b : Nat} (hS : S < 65536) (ha : S.testBit a = true) (hb : S.testBit b = false) (ha16 : a < 16) (hb16 : b < 16) : (nI S &&& (((1 : Int32) <<< (nI a &&& 31)) ^^^ (-1))) ||| ((1 : Int32) <<< (nI b &&& 31)) = nI (zswp S a b) := by
  have em : (-1 : Int32) = nI 4294967295 := by decide +kernel
  rw [zshl1 a (by omega), zshl1 b (by omega), em, zxorN, zandN, zorN]
  congr 1
  apply Nat.eq_of_testBit_eq
  intro i
  rw [zswp_bit, Nat.testBit_or, Nat.testBit_and, Nat.testBit_xor, Nat.testBit_two_pow, Nat.testBit_two_pow]
  have hab : a ≠ b := fun q => by rw [q, hb] at ha; cases ha
  have e1 : Nat.testBit 4294967295 i = decide (i < 32) := by
    have := Nat.testBit_two_pow_sub_one 32 i
    exact this
  rw [e1]
  by_cases q1 : i = a
  · subst q1
    rw [ha, decide_eq_true (show i < 32 by omega), decide_eq_false (show ¬ b = i from fun z => hab z.symm), decide_eq_false hab]
    simp
  · by_cases q2 : i = b
    · subst q2
      rw [hb]
      simp [q1]
    · rw [decide_eq_false (show ¬ a = i from fun z => q1 z.symm), decide_eq_false (show ¬ b = i from fun z => q2 z.symm), decide_eq_false q1, decide_eq_false q2]
      by_cases q3 : i < 32
      · simp [q3]
      · have : S.testBit i = false := Nat.testBit_lt_two_pow (Nat.lt_of_lt_of_le hS (Nat.pow_le_pow_right (n := 2) (i := 16) (by omega) (by omega)))
        rw [this]; simp
