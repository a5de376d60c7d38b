/-! ===== the next set of the same size ===== -/
theorem zpow_split {m t : Nat} (h : t ≤ m) : 2 ^ m = 2 ^ (m - t) * 2 ^ t := by rw [← Nat.pow_add]; congr 1; omega
theorem zbit_top {Y m : Nat} (h : Y < 2 ^ (m + 1)) : (Y.testBit m = true ∧ 2 ^ m ≤ Y ∧ Y % 2 ^ m + 2 ^ m = Y) ∨ (Y.testBit m = false ∧ Y < 2 ^ m) := by
  rw [Nat.pow_succ] at h
  rcases Nat.lt_or_ge Y (2 ^ m) with q | q
  · exact Or.inr ⟨Nat.testBit_lt_two_pow q, q⟩
  · refine Or.inl ⟨?_, q, ?_⟩
    · rw [Nat.testBit_eq_decide_div_mod_eq]
      have : Y / 2 ^ m = 1 := by
        apply Nat.div_eq_of_lt_le
        · omega
        · omega
      rw [this]; rfl
    · have : Y % 2 ^ m = Y - 2 ^ m := by
        rw [Nat.mod_eq_sub_mod q, Nat.mod_eq_of_lt (by omega)]
      omega
theorem zcnt_mod (Y : Nat) (m : Nat) : zcnt (Y % 2 ^ m) (fun _ => true) m = zcnt Y (fun _ => true) m :=
  zcnt_ext (fun i hi => by rw [Nat.testBit_mod_two_pow, decide_eq_true hi, Bool.true_and])
/-- with t bits at most, of m -/
theorem zpc_max : ∀ (m t Y : Nat), Y < 2 ^ m → zcnt Y (fun _ => true) m ≤ t → t ≤ m → Y + 2 ^ (m - t) ≤ 2 ^ m
  | 0, t, Y, h, h2, h3 => by
    have : t = 0 := by omega
    subst this
    omega
  | m + 1, t, Y, h, h2, h3 => by
    rw [zcnt_succ] at h2
    rcases zbit_top h with ⟨b, q1, q2⟩ | ⟨b, q⟩
    · rw [b] at h2
      simp at h2
      have ih := zpc_max m (t - 1) (Y % 2 ^ m) (Nat.mod_lt _ (Nat.two_pow_pos m)) (by rw [zcnt_mod]; omega) (by omega)
      have e : m + 1 - t = m - (t - 1) := by omega
      rw [e, Nat.pow_succ]
      omega
    · rw [b] at h2
      simp at h2
      by_cases q3 : t = m + 1
      · subst q3
        rw [Nat.sub_self, Nat.pow_zero]
        omega
      · by_cases q4 : t = 0
        · subst q4
          have ih := zpc_max m 0 Y q (by omega) (by omega)
          rw [Nat.sub_zero] at ih ⊢
          have : 2 ^ m ≥ 1 := Nat.two_pow_pos m
          rw [Nat.pow_succ]
          omega
        · have ih : 2 ^ (m + 1 - t) ≤ 2 ^ m := Nat.pow_le_pow_right (by omega) (by omega)
          rw [Nat.pow_succ 2 m]
          omega
theorem zpc_min : ∀ (m j Y : Nat), Y < 2 ^ m → j ≤ zcnt Y (fun _ => true) m → 2 ^ j ≤ Y + 1
  | 0, j, Y, h, h2 => by
    have : j = 0 := Nat.le_zero.mp h2
    subst this
    omega
  | m + 1, j, Y, h, h2 => by
    have hle := zcnt_le Y (fun _ => true) m
    rw [zcnt_succ] at h2
    rcases zbit_top h with ⟨b, q1, q2⟩ | ⟨b, q⟩
    · rw [b] at h2
      simp at h2
      by_cases q3 : j = 0
      · subst q3; omega
      · obtain ⟨i, rfl⟩ : ∃ i, j = i + 1 := ⟨j - 1, by omega⟩
        have ih := zpc_min m i (Y % 2 ^ m) (Nat.mod_lt _ (Nat.two_pow_pos m)) (by rw [zcnt_mod]; omega)
        have h3 : 2 ^ i ≤ 2 ^ m := Nat.pow_le_pow_right (by omega) (by omega)
        rw [Nat.pow_succ]
        omega
    · rw [b] at h2
      simp at h2
      exact zpc_min m j Y q h2
theorem zcnt_run {Y c t : Nat} (h : ∀ i, i < c + t → Y.testBit i = decide (c ≤ i)) : ∀ k, k ≤ t → zcnt Y (fun _ => true) (c + k) = k := by
  intro k
  induction k with
  | zero =>
    intro _
    have : ∀ m, m ≤ c → zcnt Y (fun _ => true) m = 0 := by
      intro m
      induction m with
      | zero => intro _; rfl
      | succ m ih =>
        intro hm
        rw [zcnt_succ, ih (by omega), h m (by omega), decide_eq_false (by omega)]
        rfl
    exact this c (Nat.le_refl _)
  | succ k ih =>
    intro hk
    show zcnt Y _ ((c + k) + 1) = _
    rw [zcnt_succ, ih (by omega), h (c + k) (by omega), decide_eq_true (by omega)]
    rfl
theorem zcnt_hi {H Lw m : Nat} (h : Lw < 2 ^ m) : ∀ N, zcnt (2 ^ m * H + Lw) (fun _ => true) (m + N) = zcnt Lw (fun _ => true) m + zcnt H (fun _ => true) N
  | 0 => by
    show zcnt _ _ m = zcnt Lw _ m + 0
    exact zcnt_ext (fun i hi => by rw [Nat.testBit_two_pow_mul_add _ h, if_pos hi])
  | N + 1 => by
    show zcnt _ _ ((m + N) + 1) = _ + zcnt H _ (N + 1)
    rw [zcnt_succ, zcnt_succ, zcnt_hi h N, Nat.testBit_two_pow_mul_add _ h, if_neg (show ¬ m + N < m by omega), Nat.add_sub_cancel_left, Nat.add_assoc]
theorem zcnt_2h (h N : Nat) : zcnt (2 * h) (fun _ => true) (1 + N) = zcnt h (fun _ => true) N ∧ zcnt (2 * h + 1) (fun _ => true) (1 + N) = 1 + zcnt h (fun _ => true) N := by
  have a := zcnt_hi (H := h) (Lw := 0) (m := 1) (by decide) N
  have b := zcnt_hi (H := h) (Lw := 1) (m := 1) (by decide) N
  have e0 : zcnt 0 (fun _ => true) 1 = 0 := by decide
  have e1 : zcnt 1 (fun _ => true) 1 = 1 := by decide
  rw [e0] at a
  rw [e1] at b
  refine ⟨?_, b⟩
  have : 2 ^ 1 * h + 0 = 2 * h := by omega
  rw [this] at a
  omega
/-- nothing of the same size between a set and the next one -/
theorem zgos {X g h c t N S : Nat} (ht : 1 ≤ t) (hX : X = 2 ^ (c + t) * (2 * h) + (2 ^ t - 1) * 2 ^ c) (hg : g = 2 ^ (c + t) * (2 * h + 1) + (2 ^ (t - 1) - 1)) : X < g ∧ zcnt g (fun _ => true) (c + t + (1 + N)) = zcnt X (fun _ => true) (c + t + (1 + N)) ∧ (X < S → S < g → zcnt S (fun _ => true) (c + t + (1 + N)) ≠ zcnt X (fun _ => true) (c + t + (1 + N))) := by
  have p0 : 2 ^ (c + t) = 2 ^ c * 2 ^ t := Nat.pow_add 2 c t
  have p1 : 1 ≤ 2 ^ c := Nat.two_pow_pos c
  have p2 : 2 ^ t = 2 * 2 ^ (t - 1) := by
    have : t = (t - 1) + 1 := by omega
    rw [this, Nat.pow_succ, Nat.add_sub_cancel]; omega
  have p3 : 1 ≤ 2 ^ (t - 1) := Nat.two_pow_pos _
  have p4 : (2 ^ t - 1) * 2 ^ c = 2 ^ (c + t) - 2 ^ c := by
    rw [Nat.sub_mul, Nat.one_mul, p0, Nat.mul_comm]
  have p5 : 2 ^ t ≤ 2 ^ (c + t) := Nat.pow_le_pow_right (by omega) (by omega)
  have p6 : 2 ^ c ≤ 2 ^ (c + t) := Nat.pow_le_pow_right (by omega) (by omega)
  have l1 : (2 ^ t - 1) * 2 ^ c < 2 ^ (c + t) := by omega
  have l2 : 2 ^ (t - 1) - 1 < 2 ^ (c + t) := by omega
  have eh : 2 ^ (c + t) * (2 * h + 1) = 2 ^ (c + t) * (2 * h) + 2 ^ (c + t) := by rw [Nat.mul_add, Nat.mul_one]
  obtain ⟨z1, z2⟩ := zcnt_2h h N
  have cx : zcnt X (fun _ => true) (c + t + (1 + N)) = t + zcnt h (fun _ => true) N := by
    rw [hX, zcnt_hi l1, z1]
    have : zcnt ((2 ^ t - 1) * 2 ^ c) (fun _ => true) (c + t) = t := by
      apply zcnt_run (c := c) (t := t) _ t (Nat.le_refl _)
      intro i hi
      rw [Nat.testBit_mul_two_pow, Nat.testBit_two_pow_sub_one]
      by_cases q : c ≤ i
      · rw [decide_eq_true q, decide_eq_true (show i - c < t by omega)]; rfl
      · rw [decide_eq_false q]; rfl
    rw [this]
  have cg : zcnt (2 ^ (t - 1) - 1) (fun _ => true) (c + t) = t - 1 := by
    have h1 : zcnt (2 ^ (t - 1) - 1) (fun _ => true) (0 + (t - 1)) = t - 1 := by
      apply zcnt_run (c := 0) (t := t - 1) _ (t - 1) (Nat.le_refl _)
      intro i hi
      rw [Nat.testBit_two_pow_sub_one, decide_eq_true (show i < t - 1 by omega), decide_eq_true (Nat.zero_le i)]
    rw [Nat.zero_add] at h1
    have h2 : zcnt (2 ^ (t - 1) - 1) (fun _ => true) ((t - 1) + (c + 1)) = zcnt (2 ^ (t - 1) - 1) (fun _ => true) (t - 1) := zcnt_out (c + 1) (fun i hi => by
      rw [Nat.testBit_two_pow_sub_one, decide_eq_false (by omega)]; rfl)
    have e : t - 1 + (c + 1) = c + t := by omega
    rw [e] at h2
    rw [h2, h1]
  refine ⟨by omega, ?_, ?_⟩
  · rw [cx, hg, zcnt_hi l2, z2, cg]; omega
  · intro h1 h2 h3
    rw [cx] at h3
    have hs : S = 2 ^ (c + t) * (S / 2 ^ (c + t)) + S % 2 ^ (c + t) := (Nat.div_add_mod S _).symm
    have hm : S % 2 ^ (c + t) < 2 ^ (c + t) := Nat.mod_lt _ (Nat.two_pow_pos _)
    have d1 : 2 * h ≤ S / 2 ^ (c + t) := by
      rw [Nat.le_div_iff_mul_le (Nat.two_pow_pos _), Nat.mul_comm]
      omega
    have d2 : S / 2 ^ (c + t) < 2 * h + 2 := by
      rw [Nat.div_lt_iff_lt_mul (Nat.two_pow_pos _), Nat.mul_comm]
      have : 2 ^ (c + t) * (2 * h + 2) = 2 ^ (c + t) * (2 * h) + 2 ^ (c + t) * 2 := Nat.mul_add _ _ _
      omega
    have d3 : S / 2 ^ (c + t) = 2 * h ∨ S / 2 ^ (c + t) = 2 * h + 1 := by omega
    rw [hs, zcnt_hi hm] at h3
    rcases d3 with d | d
    · rw [d] at h3 hs
      rw [z1] at h3
      have := zpc_max (c + t) t (S % 2 ^ (c + t)) hm (by omega) (by omega)
      have e : c + t - t = c := by omega
      rw [e] at this
      omega
    · rw [d] at h3 hs
      rw [z2] at h3
      have := zpc_min (c + t) (t - 1) (S % 2 ^ (c + t)) hm (by omega)
      omega
