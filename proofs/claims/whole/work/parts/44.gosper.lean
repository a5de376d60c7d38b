/-! ===== the class's next set, tried at every set of 16 ===== -/
def zglo (X : Nat) : Nat := X &&& (4294967296 - X)
def zgnx (X : Nat) : Nat := (X + zglo X) ||| ((X ^^^ (X + zglo X)) / zglo X / 4)
def zgct (X : Nat) : Nat := Nat.log2 (zglo X)
def zgrn (X : Nat) : Nat := Nat.log2 (Nat.xor (X / 2 ^ zgct X) (X / 2 ^ zgct X + 1))
def zgchk1 (X c t : Nat) : Bool := Nat.ble 1 t && (Nat.ble (c + t) 16 && (Nat.beq X (2 ^ (c + t) * (2 * (X / 2 ^ (c + t + 1))) + (2 ^ t - 1) * 2 ^ c) && (Nat.beq (zgnx X) (2 ^ (c + t) * (2 * (X / 2 ^ (c + t + 1)) + 1) + (2 ^ (t - 1) - 1)) && Nat.beq (zglo X) (2 ^ c))))
def zgchk : Nat → Nat → Bool
  | _, 0 => true
  | b, k + 1 => (Nat.beq (b + k) 0 || zgchk1 (b + k) (zgct (b + k)) (zgrn (b + k))) && zgchk b k
theorem zgchk_ok {b : Nat} : ∀ {N : Nat}, zgchk b N = true → ∀ k, k < N → b + k ≠ 0 → zgchk1 (b + k) (zgct (b + k)) (zgrn (b + k)) = true
  | 0, _, k, hk, _ => by omega
  | N + 1, h, k, hk, h0 => by
    unfold zgchk at h
    rw [Bool.and_eq_true] at h
    by_cases q : k = N
    · subst q
      have h1 := h.1
      rw [Bool.or_eq_true] at h1
      rcases h1 with z | z
      · exact absurd (Nat.eq_of_beq_eq_true z) h0
      · exact z
    · exact zgchk_ok h.2 k (by omega) h0
theorem zgchkA : ∀ b, b < 16 → zgchk (4096 * b) 4096 = true := by decide +kernel
