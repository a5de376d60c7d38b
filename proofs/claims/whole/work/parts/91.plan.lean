/-! ===== the planner (class): what it measures ===== -/
theorem zandn {x y : Nat} (hx : x < 65536) : nI x &&& (nI y ^^^ (-1)) = nI (x &&& (65535 ^^^ y)) := by
  apply Int32.toBitVec_inj.mp
  have e1 : ∀ k, (nI k).toBitVec = BitVec.ofNat 32 k := fun _ => rfl
  have e2 : (-1 : Int32).toBitVec = BitVec.allOnes 32 := by decide
  rw [Int32.toBitVec_and, Int32.toBitVec_xor, e1, e1, e1, e2]
  apply BitVec.eq_of_getLsbD_eq
  intro i hi
  rw [BitVec.getLsbD_and, BitVec.getLsbD_xor, BitVec.getLsbD_ofNat, BitVec.getLsbD_ofNat, BitVec.getLsbD_ofNat, BitVec.getLsbD_allOnes, Nat.testBit_and, Nat.testBit_xor]
  have hb : (65535 : Nat).testBit i = decide (i < 16) := by
    have : (65535 : Nat) = 2 ^ 16 - 1 := by decide
    rw [this, Nat.testBit_two_pow_sub_one]
  rw [hb, decide_eq_true hi]
  by_cases c : i < 16
  · rw [decide_eq_true c]
    cases x.testBit i <;> cases y.testBit i <;> rfl
  · have : x.testBit i = false := Nat.testBit_lt_two_pow (Nat.lt_of_lt_of_le hx (by
      have : 2 ^ 16 ≤ 2 ^ i := Nat.pow_le_pow_right (by decide) (by omega)
      omega))
    rw [this]
    rfl
section LPm
variable {I : ZI} {R : ZR} {n L N rows : Nat} {c bs : Nat → Nat}
theorem Pl_measure12_ok (hW : WP R n L) (hN : N ≤ 40) (hrow : rows ≤ 41) (h11 : I 141 11 = nI N) (hc : ∀ k, k < N → I 223 k = nI (c k) ∧ c k < 65536) (hbs : ∀ r, r < rows → I 223 r = nI (bs r)) {r : Nat} (hr : r < rows) {J : ZI} (hJ : ∀ b, (b < 225 ∨ 266 ≤ b) → J b = I b) : ∃ J', Pl_measure_12 141 (nI r) (nI 0) J R n = Pl_measure_2 141 (nI (r + 1)) J' R n ∧ (∀ k, k < N → J' (225 + r) k = nI (zdf (c k) (bs r))) ∧ ∀ b j, b ≠ 225 + r → J' b j = J b j := by
  have key : ∀ k, k ≤ N → ∃ J', Pl_measure_12 141 (nI r) (nI 0) J R n = Pl_measure_12 141 (nI r) (nI k) J' R n ∧ (∀ i, i < k → J' (225 + r) i = nI (zdf (c i) (bs r))) ∧ ∀ b j, b ≠ 225 + r → J' b j = J b j := by
    intro k
    induction k with
    | zero => intro _; exact ⟨J, rfl, fun i hi => by omega, fun _ _ _ => rfl⟩
    | succ k ih =>
      intro hk
      obtain ⟨J1, e, a1, a2⟩ := ih (by omega)
      have g : ∀ b j, (b < 225 ∨ 266 ≤ b) → J1 b j = I b j := fun b j hb => by rw [a2 b j (by omega), hJ b hb]
      have t41 : zin 224 (nI r) = true := zin_nI (by show _ < 41; omega) (by omega)
      have t23 : zin 223 (nI r) = true := zin_nI (by show _ < 41; omega) (by omega)
      have hck := hc k (by omega)
      have zp := zinP (show k < 40 by omega)
      have hlt : c k &&& (65535 ^^^ bs r) < 65536 := Nat.lt_of_le_of_lt (Nat.and_le_left) hck.2
      have st := e_Pl_measure_12 141 (nI r) (nI k) J1 R n
      simp only [hW.k, hW.2.1, hW.s (show r < 41 by omega), zc_t, zr_s, g 141 11 (by omega), h11, if_pos (nI_lt (show k < N by omega) (show N < 2 ^ 31 by omega)), t41, t23, zp.2.2, zp.1 r (show r < 41 by omega), Bool.true_or, Bool.true_and, zix_nI (show r < 2 ^ 31 by omega), hW.2.2.1 r (show r < 41 by omega), zix_nI (show k < 2 ^ 31 by omega), g 223 k (by omega), g 223 r (by omega), hck.1, hbs r hr, zandn hck.2, zbits_ok hlt, zbI_s, nI_1] at st
      refine ⟨_, e.trans st, fun i hi => ?_, fun b j hb => ?_⟩
      · by_cases z : i = k
        · subst z; rw [zup_s]; rfl
        · rw [zup_k _ z]; exact a1 i (by omega)
      · rw [zup_n _ hb]; exact a2 b j hb
  obtain ⟨J', e, a1, a2⟩ := key N (Nat.le_refl _)
  refine ⟨J', ?_, a1, a2⟩
  rw [e, e_Pl_measure_12]
  have : J' 141 11 = nI N := by rw [a2 141 11 (by omega), hJ 141 (by omega)]; exact h11
  simp only [hW.k, zc_t, this]
  rw [if_neg (nI_nlt (Nat.le_refl _) (by omega)), nI_1]
theorem Pl_measure2_ok (hW : WP R n L) (hS : WS R n 10) (hN : N ≤ 40) (hrow : rows ≤ 41) (h11 : I 141 11 = nI N) (h12 : I 141 12 = nI rows) (hc : ∀ k, k < N → I 223 k = nI (c k) ∧ c k < 65536) (hbs : ∀ r, r < rows → I 223 r = nI (bs r)) : ∃ J, Pl_measure 141 I R n = Pl_measure_66 141 (I 10 4) J R n ∧ (∀ r k, r < rows → k < N → J (225 + r) k = nI (zdf (c k) (bs r))) ∧ ∀ b, (b < 225 ∨ 266 ≤ b) → J b = I b := by
  have key : ∀ r, r ≤ rows → ∃ J, Pl_measure_2 141 (nI 0) I R n = Pl_measure_2 141 (nI r) J R n ∧ (∀ r' k, r' < r → k < N → J (225 + r') k = nI (zdf (c k) (bs r'))) ∧ ∀ b, (b < 225 ∨ 266 ≤ b) → J b = I b := by
    intro r
    induction r with
    | zero => intro _; exact ⟨I, rfl, fun r' k hr => by omega, fun _ _ => rfl⟩
    | succ r ih =>
      intro hr
      obtain ⟨J, e, a1, a2⟩ := ih (by omega)
      obtain ⟨J', e2, b1, b2⟩ := Pl_measure12_ok (I := I) hW hN hrow h11 hc hbs (show r < rows by omega) a2
      have st := e_Pl_measure_2 141 (nI r) J R n
      simp only [hW.k, zc_t, a2 141 (by omega), h12, if_pos (nI_lt (show r < rows by omega) (show rows < 2 ^ 31 by omega))] at st
      rw [nI_0] at e2
      refine ⟨J', e.trans (st.trans e2), fun r' k h1 h2 => ?_, fun b hb => ?_⟩
      · by_cases z : r' = r
        · subst z; exact b1 k h2
        · rw [b2 _ _ (by omega)]; exact a1 r' k (by omega) h2
      · funext j
        rw [b2 b j (by omega), a2 b hb]
  obtain ⟨J, e, a1, a2⟩ := key rows (Nat.le_refl _)
  rw [nI_0] at e
  refine ⟨J, ?_, a1, a2⟩
  rw [e_Pl_measure, e, e_Pl_measure_2]
  simp only [hW.k, hW.2.1, hS.k, zc_t, zr_s, a2 141 (by omega), a2 10 (by omega), h12]
  rw [if_neg (nI_nlt (Nat.le_refl _) (by omega))]
end LPm
