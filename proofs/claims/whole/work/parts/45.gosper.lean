/-! ===== the class's next set ===== -/
theorem zgos_all {X : Nat} (h : X < 65536) (h0 : X ≠ 0) : zglo X = 2 ^ zgct X ∧ X < zgnx X ∧ zgnx X < 2 ^ 18 ∧ zcnt (zgnx X) (fun _ => true) 20 = zcnt X (fun _ => true) 20 ∧ ∀ S, X < S → S < zgnx X → zcnt S (fun _ => true) 20 ≠ zcnt X (fun _ => true) 20 := by
  have h1 := zgchk_ok (zgchkA (X / 4096) (by omega)) (X % 4096) (by omega)
  have e : 4096 * (X / 4096) + X % 4096 = X := by omega
  rw [e] at h1
  have h2 := h1 h0
  unfold zgchk1 at h2
  simp only [Bool.and_eq_true] at h2
  obtain ⟨a1, a2, a3, a4, a5⟩ := h2
  have a1 := Nat.le_of_ble_eq_true a1
  have a2 := Nat.le_of_ble_eq_true a2
  have a3 := Nat.eq_of_beq_eq_true a3
  have a4 := Nat.eq_of_beq_eq_true a4
  have a5 := Nat.eq_of_beq_eq_true a5
  obtain ⟨b1, b2, -⟩ := zgos (N := 20 - (zgct X + zgrn X) - 1) (S := 0) a1 a3 a4
  have e2 : zgct X + zgrn X + (1 + (20 - (zgct X + zgrn X) - 1)) = 20 := by omega
  rw [e2] at b2
  refine ⟨a5, b1, ?_, b2, ?_⟩
  · have p1 : 2 ^ zgrn X ≤ 2 ^ 16 := Nat.pow_le_pow_right (by omega) (by omega)
    have p2 : 2 ^ (zgrn X - 1) ≤ 2 ^ 16 := Nat.pow_le_pow_right (by omega) (by omega)
    have p3 : 2 ^ (zgct X + zgrn X) ≤ 2 ^ 16 := Nat.pow_le_pow_right (by omega) (by omega)
    have e3 : 2 ^ (zgct X + zgrn X) * (2 * (X / 2 ^ (zgct X + zgrn X + 1)) + 1) = 2 ^ (zgct X + zgrn X) * (2 * (X / 2 ^ (zgct X + zgrn X + 1))) + 2 ^ (zgct X + zgrn X) := by rw [Nat.mul_add, Nat.mul_one]
    omega
  · intro S h3 h4
    obtain ⟨-, -, b3⟩ := zgos (N := 20 - (zgct X + zgrn X) - 1) (S := S) a1 a3 a4
    rw [e2] at b3
    exact b3 h3 h4
theorem zneg {X : Nat} (h : X ≤ 4294967296) : -(nI X) = nI (4294967296 - X) := by
  have h1 : nI X + nI (4294967296 - X) = 0 := by
    rw [nI_add]
    have : X + (4294967296 - X) = 4294967296 := by omega
    rw [this]
    decide +kernel
  have h2 : -(nI X) + (nI X + nI (4294967296 - X)) = nI (4294967296 - X) := by
    rw [← Int32.add_assoc]
    rw [Int32.add_left_neg, Int32.zero_add]
  rw [h1, Int32.add_zero] at h2
  exact h2
theorem Tb_next_ok {I : ZI} {R : ZR} {n X : Nat} (h : X < 65536) (h0 : X ≠ 0) : Tb_nextOfSameSize (nI X) I R n = some (some (.int (nI (zgnx X))), I, R, n) := by
  obtain ⟨a1, a2, a3, -⟩ := zgos_all h h0
  have e1 : nI X &&& -(nI X) = nI (zglo X) := by rw [zneg (by omega), zandN]; rfl
  have l1 : zglo X ≤ X := Nat.and_le_left
  have l0 : 1 ≤ zglo X := by rw [a1]; exact Nat.two_pow_pos _
  have n0 : ¬ nI (zglo X) = 0 := nI_ne0 (by omega) (by omega)
  have x1 : X ^^^ (X + zglo X) < 2 ^ 20 := Nat.xor_lt_two_pow (by omega) (by omega)
  have e2 : (!(decide (nI (zglo X) = 0))) = true := by rw [decide_eq_false n0]; rfl
  have l3 : (X ^^^ (X + zglo X)) / zglo X < 2 ^ 20 := Nat.lt_of_le_of_lt (Nat.div_le_self _ _) x1
  have e3 : nI ((X ^^^ (X + zglo X)) / zglo X) >>> ((2 : Int32) &&& 31) = nI ((X ^^^ (X + zglo X)) / zglo X / 4) := zshr (j := 2) (by omega) (by omega)
  rw [e_Tb_nextOfSameSize, e1, if_neg n0, e2, zc_t, nI_add, zxorN, pk_div (by omega) (by omega) (by omega), e3, zorN]
  rfl
