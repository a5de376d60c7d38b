/-! ===== bits: and, or, xor of numbers; how many bits ===== -/
theorem zandN (a b : Nat) : nI a &&& nI b = nI (a &&& b) := by
  apply Int32.toBitVec_inj.mp
  rw [Int32.toBitVec_and]
  show BitVec.ofNat 32 a &&& BitVec.ofNat 32 b = BitVec.ofNat 32 (a &&& b)
  apply BitVec.eq_of_getLsbD_eq
  intro i hi
  rw [BitVec.getLsbD_and, BitVec.getLsbD_ofNat, BitVec.getLsbD_ofNat, BitVec.getLsbD_ofNat, Nat.testBit_and]
  simp [hi]
theorem zorN (a b : Nat) : nI a ||| nI b = nI (a ||| b) := by
  apply Int32.toBitVec_inj.mp
  rw [Int32.toBitVec_or]
  show BitVec.ofNat 32 a ||| BitVec.ofNat 32 b = BitVec.ofNat 32 (a ||| b)
  apply BitVec.eq_of_getLsbD_eq
  intro i hi
  rw [BitVec.getLsbD_or, BitVec.getLsbD_ofNat, BitVec.getLsbD_ofNat, BitVec.getLsbD_ofNat, Nat.testBit_or]
  simp [hi]
theorem zxorN (a b : Nat) : nI a ^^^ nI b = nI (a ^^^ b) := by
  apply Int32.toBitVec_inj.mp
  rw [Int32.toBitVec_xor]
  show BitVec.ofNat 32 a ^^^ BitVec.ofNat 32 b = BitVec.ofNat 32 (a ^^^ b)
  apply BitVec.eq_of_getLsbD_eq
  intro i hi
  rw [BitVec.getLsbD_xor, BitVec.getLsbD_ofNat, BitVec.getLsbD_ofNat, BitVec.getLsbD_ofNat, Nat.testBit_xor]
  simp [hi]
theorem zshl1 : ∀ j, j < 31 → (1 : Int32) <<< (nI j &&& 31) = nI (2 ^ j) := by decide +kernel
theorem zushN {X k : Nat} (hX : X < 2 ^ 32) (hk : k < 32) : zushr (nI X) (nI k) = nI (X / 2 ^ k) := by
  have e : ∀ k, k < 32 → (((nI k).toUInt32 &&& Int32.toUInt32 31).toBitVec % 32).toNat = k := by decide +kernel
  exact pk_ushrN hX _ k (e k hk)
def zf1 (X : Nat) : Nat := X - (X / 2 &&& 1431655765)
def zf2 (X : Nat) : Nat := (X &&& 858993459) + (X / 4 &&& 858993459)
def zf3 (X : Nat) : Nat := (X + X / 16) &&& 252645135
def zf4 (X : Nat) : Nat := X + X / 256
def zf5 (X : Nat) : Nat := (X + X / 65536) &&& 63
def zbc (X : Nat) : Nat := X % 2 + X / 2 % 2 + X / 4 % 2 + X / 8 % 2 + X / 16 % 2 + X / 32 % 2 + X / 64 % 2 + X / 128 % 2 + X / 256 % 2 + X / 512 % 2 + X / 1024 % 2 + X / 2048 % 2 + X / 4096 % 2 + X / 8192 % 2 + X / 16384 % 2 + X / 32768 % 2
def zchk : Nat → Nat → Bool
  | _, 0 => true
  | b, k + 1 => Nat.beq (zf5 (zf4 (zf3 (zf2 (zf1 (b + k)))))) (zbc (b + k)) && zchk b k
theorem zchk_ok {b : Nat} : ∀ {N : Nat}, zchk b N = true → ∀ k, k < N → zf5 (zf4 (zf3 (zf2 (zf1 (b + k))))) = zbc (b + k)
  | 0, _, k, hk => by omega
  | N + 1, h, k, hk => by
    unfold zchk at h
    rw [Bool.and_eq_true] at h
    by_cases q : k = N
    · rw [q]; exact Nat.eq_of_beq_eq_true h.1
    · exact zchk_ok h.2 k (by omega)
theorem zchkA : ∀ b, b < 16 → zchk (4096 * b) 4096 = true := by decide +kernel
theorem zbc_f {X : Nat} (h : X < 65536) : zf5 (zf4 (zf3 (zf2 (zf1 X)))) = zbc X := by
  have h1 := zchk_ok (zchkA (X / 4096) (by omega)) (X % 4096) (by omega)
  have e : 4096 * (X / 4096) + X % 4096 = X := by omega
  rwa [e] at h1
theorem zcnt_ext {S T : Nat} {c d : Nat → Bool} : ∀ {N : Nat}, (∀ i, i < N → (S.testBit i && c i) = (T.testBit i && d i)) → zcnt S c N = zcnt T d N
  | 0, _ => rfl
  | k + 1, h => by rw [zcnt_succ, zcnt_succ, zcnt_ext (fun i hi => h i (by omega)), h k (by omega)]
theorem zcnt_out {S : Nat} {c : Nat → Bool} {P : Nat} : ∀ d, (∀ i, P ≤ i → (S.testBit i && c i) = false) → zcnt S c (P + d) = zcnt S c P
  | 0, _ => rfl
  | d + 1, h => by
    show zcnt S c ((P + d) + 1) = _
    rw [zcnt_succ, h (P + d) (by omega), zcnt_out d h]
    rfl
theorem zcnt_le (S : Nat) (c : Nat → Bool) : ∀ N, zcnt S c N ≤ N
  | 0 => Nat.le_refl _
  | k + 1 => by
    have := zcnt_le S c k
    rw [zcnt_succ]
    split <;> omega
theorem zbc_cnt (X : Nat) : zbc X = zcnt X (fun _ => true) 16 := by
  have e : ∀ i, (if (X.testBit i && true) = true then 1 else 0) = X / 2 ^ i % 2 := by
    intro i
    rw [Nat.testBit_eq_decide_div_mod_eq, Bool.and_true]
    rcases Nat.mod_two_eq_zero_or_one (X / 2 ^ i) with h | h
    · rw [h]; rfl
    · rw [h]; rfl
  simp only [zcnt, e]
  unfold zbc
  simp only [Nat.reducePow, Nat.div_one, Nat.zero_add]
theorem zbits_ok {I : ZI} {R : ZR} {n X : Nat} (h : X < 65536) : J_bitCount (nI X) I R n = some (some (.int (nI (zcnt X (fun _ => true) 16))), I, R, n) := by
  rw [e_J_bitCount, ← zbc_cnt, ← zbc_f h]
  have b1 : zf1 X < 2 ^ 31 := by unfold zf1; omega
  have c1 : (nI X - ((zushr (nI X) 1) &&& 1431655765)) = nI (zf1 X) := by
    have a1 : zushr (nI X) 1 = nI (X / 2) := zushN (k := 1) (show X < 2 ^ 32 by omega) (by omega)
    have a2 : nI (X / 2) &&& 1431655765 = nI (X / 2 &&& 1431655765) := zandN _ _
    have a3 : X / 2 &&& 1431655765 ≤ X / 2 := Nat.and_le_left
    rw [a1, a2, pk_sub (by omega)]
    rfl
  rw [c1]
  have b2 : zf2 (zf1 X) < 2 ^ 31 := by
    have a3 : zf1 X &&& 858993459 ≤ 858993459 := Nat.and_le_right
    have a4 : zf1 X / 4 &&& 858993459 ≤ 858993459 := Nat.and_le_right
    unfold zf2; omega
  have c2 : (nI (zf1 X) &&& 858993459) + ((zushr (nI (zf1 X)) 2) &&& 858993459) = nI (zf2 (zf1 X)) := by
    have a1 : zushr (nI (zf1 X)) 2 = nI (zf1 X / 4) := zushN (k := 2) (by omega) (by omega)
    have a2 : nI (zf1 X / 4) &&& 858993459 = nI (zf1 X / 4 &&& 858993459) := zandN _ _
    have a3 : nI (zf1 X) &&& 858993459 = nI (zf1 X &&& 858993459) := zandN _ _
    rw [a1, a2, a3, nI_add]
    rfl
  rw [c2]
  have c3 : (nI (zf2 (zf1 X)) + (zushr (nI (zf2 (zf1 X))) 4)) &&& 252645135 = nI (zf3 (zf2 (zf1 X))) := by
    have a1 : zushr (nI (zf2 (zf1 X))) 4 = nI (zf2 (zf1 X) / 16) := zushN (k := 4) (by omega) (by omega)
    rw [a1, nI_add]
    exact zandN _ _
  rw [c3]
  have b3 : zf3 (zf2 (zf1 X)) ≤ 252645135 := Nat.and_le_right
  have c4 : nI (zf3 (zf2 (zf1 X))) + (zushr (nI (zf3 (zf2 (zf1 X)))) 8) = nI (zf4 (zf3 (zf2 (zf1 X)))) := by
    have a1 : zushr (nI (zf3 (zf2 (zf1 X)))) 8 = nI (zf3 (zf2 (zf1 X)) / 256) := zushN (k := 8) (by omega) (by omega)
    rw [a1, nI_add]
    rfl
  rw [c4]
  have b4 : zf4 (zf3 (zf2 (zf1 X))) < 2 ^ 31 := by unfold zf4; omega
  have c5 : (nI (zf4 (zf3 (zf2 (zf1 X)))) + (zushr (nI (zf4 (zf3 (zf2 (zf1 X))))) 16)) &&& 63 = nI (zf5 (zf4 (zf3 (zf2 (zf1 X))))) := by
    have a1 : zushr (nI (zf4 (zf3 (zf2 (zf1 X))))) 16 = nI (zf4 (zf3 (zf2 (zf1 X))) / 65536) := zushN (k := 16) (by omega) (by omega)
    rw [a1, nI_add]
    exact zandN _ _
  rw [c5]
