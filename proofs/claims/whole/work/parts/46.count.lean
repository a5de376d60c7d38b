/-! ===== how many teams ===== -/
def zct (p : Nat → Bool) : Nat → Nat
  | 0 => 0
  | k + 1 => zct p k + (if p k then 1 else 0)
theorem zct_succ (p : Nat → Bool) (k : Nat) : zct p (k + 1) = zct p k + (if p k then 1 else 0) := rfl
theorem zct_add (p : Nat → Bool) (a : Nat) : ∀ b, zct p (a + b) = zct p a + zct (fun k => p (a + k)) b
  | 0 => rfl
  | b + 1 => by
    show zct p ((a + b) + 1) = _ + (zct _ b + _)
    rw [zct_succ, zct_add p a b, Nat.add_assoc]
theorem zct_ext {p q : Nat → Bool} : ∀ {N : Nat}, (∀ i, i < N → p i = q i) → zct p N = zct q N
  | 0, _ => rfl
  | k + 1, h => by rw [zct_succ, zct_succ, zct_ext (fun i hi => h i (by omega)), h k (by omega)]
theorem zct_sub {p q : Nat → Bool} : ∀ {N : Nat}, (∀ i, i < N → p i = true → q i = true) → zct p N ≤ zct q N
  | 0, _ => Nat.le_refl _
  | k + 1, h => by
    have h1 := zct_sub (p := p) (q := q) (N := k) (fun i hi => h i (by omega))
    have h2 := h k (by omega)
    rw [zct_succ, zct_succ]
    cases hp : p k
    · simp; omega
    · rw [h2 hp]; simp; omega
theorem zct_mono (p : Nat → Bool) {a b : Nat} (h : a ≤ b) : zct p a ≤ zct p b := by
  obtain ⟨d, rfl⟩ : ∃ d, b = a + d := ⟨b - a, by omega⟩
  rw [zct_add]; omega
theorem zct_none (p : Nat → Bool) {a b : Nat} (hab : a ≤ b) (h : ∀ i, a ≤ i → i < b → p i = false) : zct p b = zct p a := by
  obtain ⟨d, rfl⟩ : ∃ d, b = a + d := ⟨b - a, by omega⟩
  rw [zct_add]
  have : ∀ e, e ≤ d → zct (fun k => p (a + k)) e = 0 := by
    intro e
    induction e with
    | zero => intro _; rfl
    | succ e ih => intro he; rw [zct_succ, ih (by omega), h (a + e) (by omega) (by omega)]; rfl
  rw [this d (Nat.le_refl _)]; rfl
theorem zct_kth (p : Nat → Bool) {k : Nat} : ∀ {N : Nat}, k < zct p N → ∃ S, S < N ∧ p S = true ∧ zct p S = k
  | 0, h => absurd h (Nat.not_lt_zero _)
  | N + 1, h => by
    rw [zct_succ] at h
    by_cases q : k < zct p N
    · obtain ⟨S, h1, h2⟩ := zct_kth p q
      exact ⟨S, by omega, h2⟩
    · cases hp : p N with
      | false => rw [hp] at h; simp at h; omega
      | true => rw [hp] at h; simp at h; exact ⟨N, by omega, hp, by omega⟩
theorem zct_lt (p : Nat → Bool) {S N : Nat} (h : S < N) (hp : p S = true) : zct p S < zct p N := by
  have h1 : zct p (S + 1) ≤ zct p N := zct_mono p (by omega)
  rw [zct_succ, hp] at h1
  simp at h1; omega
/-- a row with the sets of a kind, rising -/
def zTab (p : Nat → Bool) (N : Nat) (row : Nat → Int32) : Prop := ∀ S, S < N → p S = true → row (zct p S) = nI S
theorem zTab_eq {p : Nat → Bool} {N : Nat} {f g : Nat → Int32} (hf : zTab p N f) (hg : zTab p N g) : ∀ k, k < zct p N → f k = g k := by
  intro k hk
  obtain ⟨S, h1, h2, h3⟩ := zct_kth p hk
  rw [← h3, hf S h1 h2, hg S h1 h2]
def zch : Nat → Nat → Nat
  | _, 0 => 1
  | 0, _ + 1 => 0
  | n + 1, k + 1 => zch n (k + 1) + zch n k
/-- how many of the first ones have a place -/
def znk (pl : Nat → Nat) (k : Nat) : Nat → Nat
  | 0 => 0
  | i + 1 => znk pl k i + (if pl i = k then 1 else 0)
def zqf (pl : Nat → Nat) (P : Nat) (s0 s1 s2 s3 : Nat) (S : Nat) : Bool := decide (zcnt S (fun i => decide (pl i = 0)) P = s0) && (decide (zcnt S (fun i => decide (pl i = 1)) P = s1) && (decide (zcnt S (fun i => decide (pl i = 2)) P = s2) && decide (zcnt S (fun i => decide (pl i = 3)) P = s3)))
theorem zcnt_hi1 {P S : Nat} (c : Nat → Bool) (h : S < 2 ^ P) : zcnt (2 ^ P + S) c (P + 1) = zcnt S c P + (if c P then 1 else 0) := by
  have e : 2 ^ P + S = 2 ^ P * 1 + S := by rw [Nat.mul_one]
  rw [zcnt_succ, e, Nat.testBit_two_pow_mul_add _ h, if_neg (show ¬ P < P by omega), Nat.sub_self]
  have e2 : zcnt (2 ^ P * 1 + S) c P = zcnt S c P := zcnt_ext (fun i hi => by rw [Nat.testBit_two_pow_mul_add _ h, if_pos hi])
  rw [e2]
  have : Nat.testBit 1 0 = true := by decide
  rw [this, Bool.true_and]
theorem zcnt_lo1 {P S : Nat} (c : Nat → Bool) (h : S < 2 ^ P) : zcnt S c (P + 1) = zcnt S c P := by
  rw [zcnt_succ, Nat.testBit_lt_two_pow h]
  rfl
theorem zct_zero {p : Nat → Bool} {N : Nat} (h : ∀ i, i < N → p i = false) : zct p N = 0 := by
  have := zct_none p (Nat.zero_le N) (fun i _ hi => h i hi)
  exact this
theorem zch_succ (n s : Nat) : zch (n + 1) s = zch n s + (if s = 0 then 0 else zch n (s - 1)) := by
  cases s with
  | zero => cases n <;> rfl
  | succ k => rfl
theorem zct_prod (pl : Nat → Nat) : ∀ (P s0 s1 s2 s3 : Nat), (∀ i, i < P → pl i < 4) → zct (zqf pl P s0 s1 s2 s3) (2 ^ P) = zch (znk pl 0 P) s0 * (zch (znk pl 1 P) s1 * (zch (znk pl 2 P) s2 * zch (znk pl 3 P) s3))
  | 0, s0, s1, s2, s3, _ => by
    show 0 + (if zqf pl 0 s0 s1 s2 s3 0 = true then 1 else 0) = zch 0 s0 * (zch 0 s1 * (zch 0 s2 * zch 0 s3))
    cases s0 <;> cases s1 <;> cases s2 <;> cases s3 <;> simp [zqf, zcnt, zch]
  | P + 1, s0, s1, s2, s3, h => by
    have hP := h P (by omega)
    have ih := fun a b c d => zct_prod pl P a b c d (fun i hi => h i (by omega))
    have e0 : 2 ^ (P + 1) = 2 ^ P + 2 ^ P := by rw [Nat.pow_succ]; omega
    rw [e0, zct_add]
    have lo : zct (zqf pl (P + 1) s0 s1 s2 s3) (2 ^ P) = zct (zqf pl P s0 s1 s2 s3) (2 ^ P) := zct_ext (fun S hS => by unfold zqf; rw [zcnt_lo1 _ hS, zcnt_lo1 _ hS, zcnt_lo1 _ hS, zcnt_lo1 _ hS])
    rw [lo, ih]
    have dd : ∀ (a s : Nat), decide (a + 1 = s + 1) = decide (a = s) := fun a s => decide_eq_decide.mpr ⟨fun q => by omega, fun q => by omega⟩
    have d0 : ∀ (a : Nat), decide (a + 1 = 0) = false := fun a => decide_eq_false (by omega)
    have cs : pl P = 0 ∨ pl P = 1 ∨ pl P = 2 ∨ pl P = 3 := by omega
    rcases cs with q | q | q | q
    · have hi : zct (fun k => zqf pl (P + 1) s0 s1 s2 s3 (2 ^ P + k)) (2 ^ P) = if s0 = 0 then 0 else zct (zqf pl P (s0 - 1) s1 s2 s3) (2 ^ P) := by
        cases s0 with
        | zero => exact zct_zero (fun S hS => by unfold zqf; rw [zcnt_hi1 _ hS]; simp [q])
        | succ s => exact zct_ext (fun S hS => by unfold zqf; rw [zcnt_hi1 _ hS, zcnt_hi1 _ hS, zcnt_hi1 _ hS, zcnt_hi1 _ hS]; simp [q])
      rw [hi, ih]
      simp only [znk, q, if_true, (by decide : ¬ (0 : Nat) = 1), (by decide : ¬ (0 : Nat) = 2), (by decide : ¬ (0 : Nat) = 3), if_false, Nat.add_zero, zch_succ]
      by_cases z : s0 = 0
      · simp [z]
      · simp only [if_neg z, Nat.add_mul]
    · have hi : zct (fun k => zqf pl (P + 1) s0 s1 s2 s3 (2 ^ P + k)) (2 ^ P) = if s1 = 0 then 0 else zct (zqf pl P s0 (s1 - 1) s2 s3) (2 ^ P) := by
        cases s1 with
        | zero => exact zct_zero (fun S hS => by unfold zqf; rw [zcnt_hi1 _ hS, zcnt_hi1 _ hS]; simp [q])
        | succ s => exact zct_ext (fun S hS => by unfold zqf; rw [zcnt_hi1 _ hS, zcnt_hi1 _ hS, zcnt_hi1 _ hS, zcnt_hi1 _ hS]; simp [q])
      rw [hi, ih]
      simp only [znk, q, if_true, (by decide : ¬ (1 : Nat) = 0), (by decide : ¬ (1 : Nat) = 2), (by decide : ¬ (1 : Nat) = 3), if_false, Nat.add_zero, zch_succ]
      by_cases z : s1 = 0
      · simp [z]
      · simp only [if_neg z, Nat.add_mul, Nat.mul_add]
    · have hi : zct (fun k => zqf pl (P + 1) s0 s1 s2 s3 (2 ^ P + k)) (2 ^ P) = if s2 = 0 then 0 else zct (zqf pl P s0 s1 (s2 - 1) s3) (2 ^ P) := by
        cases s2 with
        | zero => exact zct_zero (fun S hS => by unfold zqf; rw [zcnt_hi1 _ hS, zcnt_hi1 _ hS, zcnt_hi1 _ hS]; simp [q])
        | succ s => exact zct_ext (fun S hS => by unfold zqf; rw [zcnt_hi1 _ hS, zcnt_hi1 _ hS, zcnt_hi1 _ hS, zcnt_hi1 _ hS]; simp [q])
      rw [hi, ih]
      simp only [znk, q, if_true, (by decide : ¬ (2 : Nat) = 0), (by decide : ¬ (2 : Nat) = 1), (by decide : ¬ (2 : Nat) = 3), if_false, Nat.add_zero, zch_succ]
      by_cases z : s2 = 0
      · simp [z]
      · simp only [if_neg z, Nat.add_mul, Nat.mul_add]
    · have hi : zct (fun k => zqf pl (P + 1) s0 s1 s2 s3 (2 ^ P + k)) (2 ^ P) = if s3 = 0 then 0 else zct (zqf pl P s0 s1 s2 (s3 - 1)) (2 ^ P) := by
        cases s3 with
        | zero => exact zct_zero (fun S hS => by unfold zqf; rw [zcnt_hi1 _ hS, zcnt_hi1 _ hS, zcnt_hi1 _ hS, zcnt_hi1 _ hS]; simp [q])
        | succ s => exact zct_ext (fun S hS => by unfold zqf; rw [zcnt_hi1 _ hS, zcnt_hi1 _ hS, zcnt_hi1 _ hS, zcnt_hi1 _ hS]; simp [q])
      rw [hi, ih]
      simp only [znk, q, if_true, (by decide : ¬ (3 : Nat) = 0), (by decide : ¬ (3 : Nat) = 1), (by decide : ¬ (3 : Nat) = 2), if_false, Nat.add_zero, zch_succ]
      by_cases z : s3 = 0
      · simp [z]
      · simp only [if_neg z, Nat.mul_add]
theorem znk_sum (pl : Nat → Nat) : ∀ P, znk pl 0 P + znk pl 1 P + znk pl 2 P + znk pl 3 P ≤ P
  | 0 => Nat.le_refl _
  | P + 1 => by
    have ih := znk_sum pl P
    simp only [znk]
    by_cases q0 : pl P = 0
    · simp [q0]; omega
    · by_cases q1 : pl P = 1
      · simp [q1]; omega
      · by_cases q2 : pl P = 2
        · simp [q2]; omega
        · simp [q0, q1, q2]
          split <;> omega
def zc3 (n s : Nat) : Nat := bif Nat.beq s 0 then 1 else bif Nat.beq s 1 then n else bif Nat.beq s 2 then n * (n - 1) / 2 else n * (n - 1) * (n - 2) / 6
theorem zch_c3 : ∀ n, n < 17 → ∀ s, s < 4 → zch n s = zc3 n s := by decide +kernel
def zBt : Nat := 5687360739143969190035802149789488219802257892705901763893131525924215987597036476444717116285439740645687884040485668812266123803390606355141928031656564539071267145806580554259939945646286565139315324429141788299105272670980593431196555342721194745839060345101305881819784520565703086156312674152639897566326753357372705887234071110439930686327069680391363924450929377874408254875823171330502994397198196718670245965516660277249
def zB (n s : Nat) : Nat := zBt / 2 ^ (12 * (7 * n + s)) % 4096
theorem zB_two : ∀ n, n < 17 → ∀ m, m < 17 → n + m ≤ 16 → ∀ s, s < 4 → ∀ t, t < 4 → zc3 n s * zc3 m t ≤ zB (n + m) (s + t) := by decide +kernel
def zB4 (n m s t : Nat) : Bool := !(Nat.ble (n + m) 16 && Nat.ble (s + t) 6) || Nat.ble (zB n s * zB m t) 3136
theorem zB_four' : ∀ n, n < 17 → ∀ m, m < 17 → ∀ s, s < 7 → ∀ t, t < 7 → zB4 n m s t = true := by decide +kernel
theorem zB_four (n : Nat) (hn : n < 17) (m : Nat) (hm : m < 17) (h1 : n + m ≤ 16) (s : Nat) (hs : s < 7) (t : Nat) (ht : t < 7) (h2 : s + t ≤ 6) : zB n s * zB m t ≤ 3136 := by
  have h := zB_four' n hn m hm s hs t ht
  unfold zB4 at h
  rw [Nat.ble_eq_true_of_le h1, Nat.ble_eq_true_of_le h2] at h
  exact Nat.le_of_ble_eq_true h
theorem zct_teams (pl : Nat → Nat) {P s0 s1 s2 s3 : Nat} (hP : P ≤ 16) (hpl : ∀ i, i < P → pl i < 4) (h0 : s0 < 4) (h1 : s1 < 4) (h2 : s2 < 4) (h3 : s3 < 4) (hs : s0 + s1 + s2 + s3 ≤ 6) : zct (zqf pl P s0 s1 s2 s3) (2 ^ P) ≤ 3136 := by
  have hn := znk_sum pl P
  rw [zct_prod pl P s0 s1 s2 s3 hpl, zch_c3 _ (by omega) _ h0, zch_c3 _ (by omega) _ h1, zch_c3 _ (by omega) _ h2, zch_c3 _ (by omega) _ h3, ← Nat.mul_assoc]
  exact Nat.le_trans (Nat.mul_le_mul (zB_two _ (by omega) _ (by omega) (by omega) _ h0 _ h1) (zB_two _ (by omega) _ (by omega) (by omega) _ h2 _ h3)) (zB_four _ (by omega) _ (by omega) (by omega) _ (by omega) _ (by omega) (by omega))
