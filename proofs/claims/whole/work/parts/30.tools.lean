/-! ===== numbers, bits and loops of the pure machine ===== -/
theorem zsh : ∀ j, j < 32 → ((nI j &&& 31).toBitVec.smod 32).toNat = j := by decide +kernel
theorem zshr {S j : Nat} (hS : S < 2 ^ 31) (hj : j < 32) : nI S >>> (nI j &&& 31) = nI (S / 2 ^ j) := pk_shrN hS _ j (zsh j hj)
theorem zand1 (S : Nat) (hS : S < 2 ^ 32) : nI S &&& 1 = nI (S % 2) := by
  have := pk_andN (n := S) hS (m := 1) 1 (by decide)
  simpa using this
theorem zbit {S j : Nat} (hS : S < 2 ^ 31) (hj : j < 32) : (nI S >>> (nI j &&& 31)) &&& 1 = if S.testBit j then 1 else 0 := by
  rw [zshr hS hj, zand1 _ (Nat.lt_of_le_of_lt (Nat.div_le_self _ _) (by omega))]
  rw [Nat.testBit_eq_decide_div_mod_eq]
  rcases Nat.mod_two_eq_zero_or_one (S / 2 ^ j) with h | h
  · rw [h]; decide
  · rw [h]; decide
theorem zix_nI {k : Nat} (h : k < 2 ^ 31) : zix (nI k) = k := nI_clamp h
theorem zin_nI {a k : Nat} (h : k < z_ln a) (hk : k < 2 ^ 31) : zin a (nI k) = true := by
  unfold zin
  rw [zix_nI hk]
  have h1 : decide (nI k < 0) = false := decide_eq_false (nI_pos hk)
  rw [h1]
  show (true && Nat.blt k (z_ln a)) = true
  rw [Bool.true_and]
  exact Nat.ble_eq_true_of_le h
theorem zc_t (x : ZO) : zc true x = x := rfl
theorem zr_s (b : Nat) (k : Nat → ZO) : zr (some b) k = k b := rfl
theorem zbI_s (x : Int32) (I : ZI) (R : ZR) (n : Nat) (k : Int32 → ZI → ZR → Nat → ZO) : zbI (some (some (.int x), I, R, n)) k = k x I R n := rfl
theorem zbV_s (I : ZI) (R : ZR) (n : Nat) (k : ZI → ZR → Nat → ZO) : zbV (some (none, I, R, n)) k = k I R n := rfl
theorem zbR_s (x : Nat) (I : ZI) (R : ZR) (n : Nat) (k : Nat → ZI → ZR → Nat → ZO) : zbR (some (some (.ref x), I, R, n)) k = k x I R n := rfl
theorem zis_lit {n a k : Nat} (h : a < n) (hk : z_kd a = k) : zis n a k = true := by
  unfold zis
  rw [hk]
  have h1 : Nat.blt a n = true := Nat.ble_eq_true_of_le h
  have h2 : Nat.beq k k = true := Nat.beq_refl k
  rw [h1, h2]
  rfl
def zfold {α : Type} (f : Nat → α → α) : Nat → α → α
  | 0, a => a
  | k + 1, a => f k (zfold f k a)
theorem zloop {α β : Type} (G : Nat → α → β) (f : Nat → α → α) (N : Nat) (h : ∀ i a, i < N → G i a = G (i + 1) (f i a)) (a : α) : ∀ k, k ≤ N → G 0 a = G k (zfold f k a)
  | 0, _ => rfl
  | k + 1, hk => (zloop G f N h a k (by omega)).trans (h k _ (by omega))
theorem zloopI {α β : Type} (P : Nat → α → Prop) (G : Nat → α → β) (f : Nat → α → α) (N : Nat) (h : ∀ i a, i < N → P i a → G i a = G (i + 1) (f i a) ∧ P (i + 1) (f i a)) (a : α) (h0 : P 0 a) : ∀ k, k ≤ N → G 0 a = G k (zfold f k a) ∧ P k (zfold f k a)
  | 0, _ => ⟨rfl, h0⟩
  | k + 1, hk => by
    obtain ⟨h1, h2⟩ := zloopI P G f N h a h0 k (by omega)
    obtain ⟨h3, h4⟩ := h k _ (by omega) h2
    exact ⟨h1.trans h3, h4⟩
/-- the first place at which c holds -/
def zfirst (c : Nat → Bool) : Nat → Nat → Option Nat
  | _, 0 => none
  | i, k + 1 => bif c i then some i else zfirst c (i + 1) k
theorem zloopE {β : Type} (G : Nat → β) (c : Nat → Bool) (E : Nat → β) (N : Nat) (h : ∀ i, i < N → G i = bif c i then E i else G (i + 1)) : ∀ k i, i + k = N → G i = match zfirst c i k with
    | some j => E j
    | none => G N
  | 0, i, hk => by
    have : i = N := by omega
    subst this; rfl
  | k + 1, i, hk => by
    rw [h i (by omega)]
    unfold zfirst
    cases hc : c i with
    | true => rfl
    | false =>
      dsimp only [cond_false]
      exact zloopE G c E N h k (i + 1) (by omega)
/-- the sum over the players of a set -/
def zsum (S : Nat) (f : Nat → Int32) : Nat → Int32
  | 0 => 0
  | k + 1 => zsum S f k + (if S.testBit k then f k else 0)
theorem zsum_fold (S : Nat) (f : Nat → Int32) : ∀ N, zfold (fun i a => a + (if S.testBit i then f i else 0)) N 0 = zsum S f N
  | 0 => rfl
  | k + 1 => by
    show zfold _ k 0 + _ = zsum S f k + _
    rw [zsum_fold S f k]
theorem zsum_congr {S : Nat} {f g : Nat → Int32} : ∀ {N : Nat}, (∀ i, i < N → S.testBit i = true → f i = g i) → zsum S f N = zsum S g N
  | 0, _ => rfl
  | k + 1, h => by
    show zsum S f k + _ = zsum S g k + _
    rw [zsum_congr (fun i hi => h i (by omega))]
    by_cases hb : S.testBit k = true
    · rw [h k (by omega) hb]
    · rw [if_neg hb, if_neg hb]
theorem zsum_zero {S : Nat} (f : Nat → Int32) {k : Nat} (h : S / 2 ^ k = 0) : ∀ N, k ≤ N → zsum S f N = zsum S f k := by
  intro N hN
  induction hN with
  | refl => rfl
  | step hN ih =>
    rename_i m
    show zsum S f m + _ = _
    have hb : S.testBit m = false := by
      have h1 : S / 2 ^ m = 0 := by
        have : S < 2 ^ k := by
          rcases Nat.lt_or_ge S (2 ^ k) with q | q
          · exact q
          · have := Nat.div_pos q (Nat.two_pow_pos k); omega
        exact Nat.div_eq_of_lt (Nat.lt_of_lt_of_le this (Nat.pow_le_pow_right (by omega) hN))
      rw [Nat.testBit_eq_decide_div_mod_eq, h1]
      rfl
    rw [ih, hb]
    simp
/-! The reference's object: 195, its rows 196 .. 217 -/
def WM (R : ZR) (n : Nat) : Prop := 218 ≤ n ∧ R 195 1 = some 196 ∧ R 195 5 = some 197 ∧ R 195 6 = some 198 ∧ R 195 7 = some 199 ∧ R 195 8 = some 200 ∧ R 195 9 = some 201 ∧ R 195 10 = some 202 ∧ R 195 11 = some 203 ∧ R 195 12 = some 204 ∧ R 195 13 = some 205 ∧ R 195 14 = some 206 ∧ R 195 19 = some 207 ∧ R 195 21 = some 208 ∧ R 195 22 = some 209 ∧ R 195 23 = some 210 ∧ R 195 26 = some 211 ∧ R 195 28 = some 212 ∧ R 195 29 = some 213 ∧ R 195 30 = some 214 ∧ R 195 31 = some 215 ∧ R 195 35 = some 216 ∧ R 195 36 = some 217
theorem WM.k {R : ZR} {n : Nat} (h : WM R n) : zis n 195 9 = true ∧ zis n 196 21 = true ∧ zis n 197 20 = true ∧ zis n 198 20 = true ∧ zis n 199 20 = true ∧ zis n 200 20 = true ∧ zis n 201 20 = true ∧ zis n 202 20 = true ∧ zis n 203 20 = true ∧ zis n 204 20 = true ∧ zis n 205 20 = true ∧ zis n 206 20 = true ∧ zis n 207 20 = true ∧ zis n 208 20 = true ∧ zis n 209 20 = true ∧ zis n 210 20 = true ∧ zis n 211 20 = true ∧ zis n 212 20 = true ∧ zis n 213 20 = true ∧ zis n 214 20 = true ∧ zis n 215 20 = true ∧ zis n 216 20 = true ∧ zis n 217 20 = true := by
  have hn := h.1
  refine ⟨?_, ?_, ?_, ?_, ?_, ?_, ?_, ?_, ?_, ?_, ?_, ?_, ?_, ?_, ?_, ?_, ?_, ?_, ?_, ?_, ?_, ?_, ?_⟩ <;> exact zis_lit (by omega) (by decide)
