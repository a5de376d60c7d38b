/-! ===== the League: teams, moves, who outdoes whom, the most ===== -/
def zSets (I : ZI) (a : Nat) (row : Nat → Int32) (N P : Nat) : Prop := ∀ p, p < N → ∃ T, T < 65536 ∧ I a p = nI T ∧ ∀ i, T.testBit i = (decide (i < P) && decide (row i = nI p))
theorem zcnt_and {S T P : Nat} {c : Nat → Bool} (hP : P ≤ 16) (hT : ∀ i, T.testBit i = (decide (i < P) && c i)) : zcnt (S &&& T) (fun _ => true) 16 = zcnt S c P := by
  have h1 : zcnt (S &&& T) (fun _ => true) 16 = zcnt S (fun i => decide (i < P) && c i) 16 := zcnt_ext (fun i _ => by rw [Nat.testBit_and, hT i, Bool.and_true])
  have h2 : zcnt S (fun i => decide (i < P) && c i) (P + (16 - P)) = zcnt S (fun i => decide (i < P) && c i) P := zcnt_out (16 - P) (fun i hi => by rw [decide_eq_false (by omega), Bool.false_and, Bool.and_false])
  have e : P + (16 - P) = 16 := by omega
  rw [e] at h2
  rw [h1, h2]
  exact zcnt_ext (fun i hi => by rw [decide_eq_true hi, Bool.true_and])
def cSlots (I : ZI) (L S P : Nat) : Prop := ∀ k, k < 4 → nI (zcnt S (fun i => decide (I (L + 3) i = nI k)) P) = I (L + 1) k
def cClubs (I : ZI) (L S P : Nat) : Prop := ∀ k, k < 6 → ¬ I (L + 2) 1 < nI (zcnt S (fun i => decide (I (L + 4) i = nI k)) P)
def cTeam (I : ZI) (L S P : Nat) : Prop := cSlots I L S P ∧ cClubs I L S P
/-- the best of 0 .. k, the first of several -/
def zbest (c : Nat → Nat → Bool) : Nat → Nat
  | 0 => 0
  | k + 1 => if c (k + 1) (zbest c k) then k + 1 else zbest c k
theorem zbest_le (c : Nat → Nat → Bool) : ∀ k, zbest c k ≤ k
  | 0 => Nat.le_refl _
  | k + 1 => by
    have := zbest_le c k
    unfold zbest
    split <;> omega
theorem zbest_succ (c : Nat → Nat → Bool) (k : Nat) : zbest c (k + 1) = if c (k + 1) (zbest c k) then k + 1 else zbest c k := rfl
section LL2
variable {I : ZI} {R : ZR} {n L : Nat}
theorem Lg_fillsSlots_ok (h : WL R n L) {S P : Nat} (hP : P ≤ 16) (hs : zSets I (L + 5) (I (L + 3)) 4 P) : Lg_fillsSlots L (nI S) I R n = some (some (.int (zb01 (cSlots I L S P))), I, R, n) := by
  rw [e_Lg_fillsSlots]
  have hl := zall_loop (fun i => Lg_fillsSlots_2 L (nI S) (nI i) I R n) (fun k => nI (zcnt S (fun i => decide (I (L + 3) i = nI k)) P) = I (L + 1) k) (some (some (.int 0), I, R, n)) 4 (fun i hi => by
    obtain ⟨T, hT, e1, hb⟩ := hs i hi
    have e4 : (4 : Int32) = nI 4 := by decide
    have hle : S &&& T ≤ T := Nat.and_le_right
    show Lg_fillsSlots_2 L (nI S) (nI i) I R n = _
    rw [e_Lg_fillsSlots_2, e4]
    simp only [h.k, h.r, zc_t, zr_s, if_pos (nI_lt hi (show 4 < 2 ^ 31 by omega)), zin_of h.ln.2.2.2.2.1 hi (by omega), zin_of h.ln.1 hi (by omega), zix_nI (show i < 2 ^ 31 by omega), e1, zandN, zbits_ok (show S &&& T < 65536 by omega), zbI_s, Bool.true_or, Bool.true_and, zcnt_and hP hb, nI_1])
  rw [nI_0] at hl
  rw [hl]
  by_cases q : (∀ j, j < 4 → nI (zcnt S (fun i => decide (I (L + 3) i = nI j)) P) = I (L + 1) j)
  · rw [if_pos q, zb01_t (p := cSlots I L S P) q, e_Lg_fillsSlots_2]
    rfl
  · rw [if_neg q, zb01_f (p := cSlots I L S P) q]
theorem Lg_keepsClubs_ok (h : WL R n L) {S P : Nat} (hP : P ≤ 16) (hs : zSets I (L + 6) (I (L + 4)) 6 P) : Lg_keepsClubs L (nI S) I R n = some (some (.int (zb01 (cClubs I L S P))), I, R, n) := by
  rw [e_Lg_keepsClubs]
  have hl := zall_loop (fun i => Lg_keepsClubs_2 L (nI S) (nI i) I R n) (fun k => ¬ I (L + 2) 1 < nI (zcnt S (fun i => decide (I (L + 4) i = nI k)) P)) (some (some (.int 0), I, R, n)) 6 (fun i hi => by
    obtain ⟨T, hT, e1, hb⟩ := hs i hi
    have e4 : (6 : Int32) = nI 6 := by decide
    have hle : S &&& T ≤ T := Nat.and_le_right
    show Lg_keepsClubs_2 L (nI S) (nI i) I R n = _
    rw [e_Lg_keepsClubs_2, e4]
    simp only [h.k, h.r, h.zrules, zixs, zc_t, zr_s, if_pos (nI_lt hi (show 6 < 2 ^ 31 by omega)), zin_of h.ln.2.2.2.2.2.1 hi (by omega), zix_nI (show i < 2 ^ 31 by omega), e1, zandN, zbits_ok (show S &&& T < 65536 by omega), zbI_s, Bool.true_or, Bool.true_and, zcnt_and hP hb, nI_1]
    by_cases q : I (L + 2) 1 < nI (zcnt S (fun j => decide (I (L + 4) j = nI i)) P)
    · rw [if_pos q, if_neg (fun z => z q)]
    · rw [if_neg q, if_pos q])
  rw [nI_0] at hl
  rw [hl]
  by_cases q : (∀ j, j < 6 → ¬ I (L + 2) 1 < nI (zcnt S (fun i => decide (I (L + 4) i = nI j)) P))
  · rw [if_pos q, zb01_t (p := cClubs I L S P) q, e_Lg_keepsClubs_2]
    rfl
  · rw [if_neg q, zb01_f (p := cClubs I L S P) q]
theorem Lg_isTeam_ok (h : WL R n L) {S P : Nat} (hP : P ≤ 16) (hs : zSets I (L + 5) (I (L + 3)) 4 P) (hs2 : zSets I (L + 6) (I (L + 4)) 6 P) : Lg_isTeam L (nI S) I R n = some (some (.int (zb01 (cTeam I L S P))), I, R, n) := by
  rw [e_Lg_isTeam]
  simp only [h.k, zc_t, Lg_fillsSlots_ok h hP hs, Lg_keepsClubs_ok h hP hs2, zbI_s]
  by_cases q1 : cSlots I L S P
  · rw [zb01_t q1, if_neg (by decide)]
    by_cases q2 : cClubs I L S P
    · rw [zb01_t q2, zb01_t (p := cTeam I L S P) ⟨q1, q2⟩, if_neg (by decide)]
    · rw [zb01_f q2, zb01_f (p := cTeam I L S P) (fun z => q2 z.2), if_pos rfl]
  · rw [zb01_f q1, zb01_f (p := cTeam I L S P) (fun z => q1 z.1), if_pos rfl]
theorem zmm : ∀ p, p < 100 → 1 ≤ p → zmax 1 (zmin 99 (nI p + 0)) = nI p ∧ zmax 1 (zmin 99 (nI p + (-1))) = zmax 1 (nI p - 1) ∧ zmax 1 (zmin 99 (nI p + 1)) = zmin 99 (nI p + 1) := by decide +kernel
theorem Lg_moved_ok (h : WL R n L) {p : Nat} (h1 : 1 ≤ p) (hp : p < 100) (y : Int32) : Lg_moved L (nI p) y I R n = some (some (.int (zmoved (nI p) y (I (L + 2) 4) (I (L + 2) 5))), I, R, n) := by
  rw [e_Lg_moved]
  obtain ⟨a1, a2, a3⟩ := zmm p hp h1
  simp only [h.k, h.r, h.zrules, zixs, zc_t, zr_s, Bool.true_or, Bool.true_and]
  unfold zmoved
  rw [a1, a2, a3]
  by_cases q1 : y < I (L + 2) 4
  · rw [if_pos q1, if_pos q1]
    by_cases q2 : I (L + 2) 5 < y
    · rw [if_pos q2, if_pos q2]
    · rw [if_neg q2, if_neg q2]
  · rw [if_neg q1, if_neg q1]
theorem zmoved_rng {p : Nat} (h1 : 1 ≤ p) (hp : p < 100) (y a b : Int32) : ∃ q, 1 ≤ q ∧ q < 100 ∧ zmoved (nI p) y a b = nI q := by
  have e : ∀ p, p < 100 → 1 ≤ p → (∃ q, q < 100 ∧ 1 ≤ q ∧ zmax 1 (zmin 99 (nI p + 0)) = nI q) ∧ (∃ q, q < 100 ∧ 1 ≤ q ∧ zmax 1 (zmin 99 (nI p + (-1))) = nI q) ∧ (∃ q, q < 100 ∧ 1 ≤ q ∧ zmax 1 (zmin 99 (nI p + 1)) = nI q) := by
    decide +kernel
  obtain ⟨⟨q1, b1, c1, d1⟩, ⟨q2, b2, c2, d2⟩, ⟨q3, b3, c3, d3⟩⟩ := e p hp h1
  unfold zmoved
  by_cases z1 : y < a
  · rw [if_pos z1]
    by_cases z2 : b < y
    · rw [if_pos z2]; exact ⟨q1, c1, b1, d1⟩
    · rw [if_neg z2]; exact ⟨q2, c2, b2, d2⟩
  · rw [if_neg z1]; exact ⟨q3, c3, b3, d3⟩
end LL2
