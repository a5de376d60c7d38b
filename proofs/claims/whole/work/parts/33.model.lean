/-! ===== sums, captains and teams of the reference ===== -/
theorem zfirst_none {c : Nat → Bool} : ∀ (k i : Nat), zfirst c i k = none ↔ ∀ j, i ≤ j → j < i + k → c j = false
  | 0, i => ⟨fun _ j h1 h2 => by omega, fun _ => rfl⟩
  | k + 1, i => by
    unfold zfirst
    cases hc : c i with
    | true => exact ⟨(fun h => by cases h), (fun h => by rw [h i (by omega) (by omega)] at hc; cases hc)⟩
    | false =>
      dsimp only [cond_false]
      rw [zfirst_none k (i + 1)]
      refine ⟨fun h j h1 h2 => ?_, fun h j h1 h2 => h j (by omega) (by omega)⟩
      by_cases hj : j = i
      · rw [hj]; exact hc
      · exact h j (by omega) (by omega)
theorem zall_loop {β : Type} (G : Nat → β) (p : Nat → Prop) [∀ i, Decidable (p i)] (e : β) (N : Nat) (h : ∀ i, i < N → G i = if p i then G (i + 1) else e) : G 0 = if (∀ j, j < N → p j) then G N else e := by
  have h1 := zloopE G (fun i => !(decide (p i))) (fun _ => e) N (fun i hi => by
    rw [h i hi]
    by_cases q : p i
    · rw [if_pos q, decide_eq_true q]; rfl
    · rw [if_neg q, decide_eq_false q]; rfl) N 0 (by omega)
  rw [h1]
  cases hz : zfirst (fun i => !(decide (p i))) 0 N with
  | none =>
    have := (zfirst_none N 0).mp hz
    rw [if_pos (fun j hj => by simpa using this j (by omega) (by omega))]
  | some j =>
    have : ¬ ∀ j, j < N → p j := fun q => by
      have h2 : zfirst (fun i => !(decide (p i))) 0 N = none := (zfirst_none N 0).mpr (fun j _ hj => by simpa using q j (by omega))
      rw [hz] at h2; cases h2
    rw [if_neg this]
/-- how many of a set -/
def zcnt (S : Nat) (c : Nat → Bool) : Nat → Nat
  | 0 => 0
  | k + 1 => zcnt S c k + (if S.testBit k && c k then 1 else 0)
theorem zcnt_succ (S : Nat) (c : Nat → Bool) (k : Nat) : zcnt S c (k + 1) = zcnt S c k + (if S.testBit k && c k then 1 else 0) := rfl
/-- the first of a set with the most -/
def zcap (S : Nat) (f : Nat → Int32) : Nat → Option Nat
  | 0 => none
  | k + 1 => if S.testBit k then (match zcap S f k with
    | none => some k
    | some b => if f b < f k then some k else some b) else zcap S f k
def zo (o : Option Nat) : Int32 := match o with
  | none => -1
  | some k => nI k
theorem zo_none : zo none = -1 := rfl
theorem zo_some (k : Nat) : zo (some k) = nI k := rfl
theorem zcap_lt {S : Nat} {f : Nat → Int32} : ∀ {k b : Nat}, zcap S f k = some b → b < k ∧ S.testBit b = true
  | 0, _, h => by cases h
  | k + 1, b, h => by
    unfold zcap at h
    by_cases hb : S.testBit k = true
    · rw [if_pos hb] at h
      cases hz : zcap S f k with
      | none => rw [hz] at h; cases h; exact ⟨by omega, hb⟩
      | some b0 =>
        rw [hz] at h
        dsimp only at h
        obtain ⟨h1, h2⟩ := zcap_lt hz
        by_cases hc : f b0 < f k
        · rw [if_pos hc] at h; cases h; exact ⟨by omega, hb⟩
        · rw [if_neg hc] at h; cases h; exact ⟨by omega, h2⟩
    · rw [if_neg hb] at h
      obtain ⟨h1, h2⟩ := zcap_lt h
      exact ⟨by omega, h2⟩
section LM3
variable {I : ZI} {R : ZR} {n : Nat}
theorem zpt {i w : Nat} : (6 : Int32) * nI i + nI w = nI (6 * i + w) := by
  have : (6 : Int32) = nI 6 := by decide
  rw [this, pk_mul, nI_add]
theorem zin206 {i w : Nat} (hi : i < 16) (hw : w < 6) : zin 206 (nI (6 * i + w)) = true := zin_nI (by show _ < 96; omega) (by omega)
theorem M_pointsOf_ok (h : WM R n) {S P w : Nat} (hS : S < 2 ^ 31) (hP : P ≤ 16) (hp : I 195 17 = nI P) (hw : w < 6) : M_pointsOf 195 (nI S) (nI w) I R n = some (some (.int (zsum S (fun i => I 206 (6 * i + w)) P)), I, R, n) := by
  rw [e_M_pointsOf]
  have key : ∀ k, k ≤ P → M_pointsOf_5 195 (nI S) (nI w) 0 (nI 0) I R n = M_pointsOf_5 195 (nI S) (nI w) (zsum S (fun i => I 206 (6 * i + w)) k) (nI k) I R n := by
    intro k
    induction k with
    | zero => intro _; rfl
    | succ k ih =>
      intro hk
      rw [ih (by omega), e_M_pointsOf_5]
      simp only [h.k, h.2, zc_t, zr_s, hp, if_pos (nI_lt (show k < P by omega) (show P < 2 ^ 31 by omega)), M_has_ok hS (show k < 32 by omega), zbI_s, nI_1, zpt, zin206 (show k < 16 by omega) hw, Bool.true_or, Bool.true_and, zix_nI (show 6 * k + w < 2 ^ 31 by omega), zsum_succ]
      cases S.testBit k <;> rfl
  rw [nI_0] at key
  rw [key P (Nat.le_refl _), e_M_pointsOf_5]
  simp only [h.k, zc_t, hp]
  rw [if_neg (nI_nlt (Nat.le_refl _) (by omega))]
theorem zo_ne {k : Nat} (h : k < 2 ^ 31) : ¬ nI k = (-1 : Int32) := by
  intro q
  have h1 := nI_toInt h
  rw [q] at h1
  have h2 : ((-1 : Int32)).toInt = -1 := by decide
  omega
theorem M_bestCaptain_ok (h : WM R n) {S P w : Nat} (hS : S < 2 ^ 31) (hP : P ≤ 16) (hp : I 195 17 = nI P) (hw : w < 6) : M_bestCaptain 195 (nI S) (nI w) I R n = some (some (.int (zo (zcap S (fun i => I 206 (6 * i + w)) P))), I, R, n) := by
  rw [e_M_bestCaptain]
  have key : ∀ k, k ≤ P → M_bestCaptain_5 195 (nI S) (nI w) (-1) (nI 0) I R n = M_bestCaptain_5 195 (nI S) (nI w) (zo (zcap S (fun i => I 206 (6 * i + w)) k)) (nI k) I R n := by
    intro k
    induction k with
    | zero => intro _; rfl
    | succ k ih =>
      intro hk
      rw [ih (by omega), e_M_bestCaptain_5]
      simp only [h.k, h.2, zc_t, zr_s, hp, if_pos (nI_lt (show k < P by omega) (show P < 2 ^ 31 by omega)), M_has_ok hS (show k < 32 by omega), zbI_s, nI_1, zpt, zin206 (show k < 16 by omega) hw, Bool.true_or, Bool.true_and, zix_nI (show 6 * k + w < 2 ^ 31 by omega)]
      cases hb : S.testBit k
      · have e : zcap S (fun i => I 206 (6 * i + w)) (k + 1) = zcap S (fun i => I 206 (6 * i + w)) k := by
          show (if S.testBit k then _ else _) = _
          rw [hb]; rfl
        rw [e]; rfl
      · have e : zcap S (fun i => I 206 (6 * i + w)) (k + 1) = (match zcap S (fun i => I 206 (6 * i + w)) k with | none => some k | some b => if I 206 (6 * b + w) < I 206 (6 * k + w) then some k else some b) := by
          show (if S.testBit k then _ else _) = _
          rw [hb]; rfl
        rw [e]
        rw [if_neg (by decide)]
        cases hz : zcap S (fun i => I 206 (6 * i + w)) k with
        | none => rw [zo_none, if_pos rfl]; rfl
        | some b =>
          have hb16 := (zcap_lt hz).1
          rw [zo_some, if_neg (zo_ne (by omega))]
          simp only [zpt, zin206 (show b < 16 by omega) hw, zix_nI (show 6 * b + w < 2 ^ 31 by omega), Bool.true_and, zc_t]
          by_cases hc : I 206 (6 * b + w) < I 206 (6 * k + w)
          · rw [if_pos hc, if_pos hc, zo_some]
          · rw [if_neg hc, if_neg hc, zo_some]
  rw [nI_0] at key
  rw [key P (Nat.le_refl _), e_M_bestCaptain_5]
  simp only [h.k, zc_t, hp]
  rw [if_neg (nI_nlt (Nat.le_refl _) (by omega))]
/-- points of a set, its best captain's once more -/
def zwith (S : Nat) (f : Nat → Int32) (P : Nat) : Int32 := zsum S f P + (match zcap S f P with
  | some b => f b
  | none => 0)
theorem M_withBest_ok (h : WM R n) {S P w : Nat} (hS : S < 2 ^ 31) (hP : P ≤ 16) (hp : I 195 17 = nI P) (hw : w < 6) (hne : zcap S (fun i => I 206 (6 * i + w)) P ≠ none) : M_withBest 195 (nI S) (nI w) I R n = some (some (.int (zwith S (fun i => I 206 (6 * i + w)) P)), I, R, n) := by
  rw [e_M_withBest]
  simp only [h.k, h.2, zc_t, zr_s, M_pointsOf_ok h hS hP hp hw, M_bestCaptain_ok h hS hP hp hw, zbI_s]
  cases hz : zcap S (fun i => I 206 (6 * i + w)) P with
  | none => exact absurd hz hne
  | some b =>
    have hb := (zcap_lt hz).1
    unfold zwith
    rw [hz]
    dsimp only [zo]
    simp only [zpt, zin206 (show b < 16 by omega) hw, zix_nI (show 6 * b + w < 2 ^ 31 by omega), Bool.true_and, Bool.true_or, zc_t]
theorem M_placesIn_ok (h : WM R n) {S P p : Nat} (hS : S < 2 ^ 31) (hP : P ≤ 16) (hp : I 195 17 = nI P) : M_placesIn 195 (nI S) (nI p) I R n = some (some (.int (nI (zcnt S (fun i => decide (I 203 i = nI p)) P))), I, R, n) := by
  rw [e_M_placesIn]
  have key : ∀ k, k ≤ P → M_placesIn_5 195 (nI S) (nI p) (nI 0) (nI 0) I R n = M_placesIn_5 195 (nI S) (nI p) (nI (zcnt S (fun i => decide (I 203 i = nI p)) k)) (nI k) I R n := by
    intro k
    induction k with
    | zero => intro _; rfl
    | succ k ih =>
      intro hk
      have e2 : zin 203 (nI k) = true := zin_nI (by show _ < 16; omega) (by omega)
      rw [ih (by omega), e_M_placesIn_5]
      simp only [h.k, h.2, zc_t, zr_s, hp, if_pos (nI_lt (show k < P by omega) (show P < 2 ^ 31 by omega)), M_has_ok hS (show k < 32 by omega), zbI_s, nI_1, e2, Bool.true_or, Bool.true_and, zix_nI (show k < 2 ^ 31 by omega), zcnt_succ]
      cases S.testBit k
      · simp
      · by_cases q : I 203 k = nI p
        · rw [if_neg (by decide), if_pos q]
          simp [q]
        · rw [if_neg (by decide), if_neg q]
          simp [q]
  rw [nI_0] at key
  rw [key P (Nat.le_refl _), e_M_placesIn_5]
  simp only [h.k, zc_t, hp]
  rw [if_neg (nI_nlt (Nat.le_refl _) (by omega))]
/-- as many of each place as the slots tell -/
def mSlots (I : ZI) (S P : Nat) : Prop := ∀ k, k < 4 → nI (zcnt S (fun i => decide (I 203 i = nI k)) P) = I 198 k
def mClubs (I : ZI) (S P : Nat) : Prop := ∀ k, k < 6 → ¬ I 198 5 < nI (zcnt S (fun i => decide (I 204 i = nI k)) P)
noncomputable def zb01 (p : Prop) : Int32 := @ite _ p (Classical.propDecidable p) 1 0
theorem zb01_t {p : Prop} (h : p) : zb01 p = 1 := if_pos h
theorem zb01_f {p : Prop} (h : ¬ p) : zb01 p = 0 := if_neg h
theorem M_hasSlots_ok (h : WM R n) {S P : Nat} (hS : S < 2 ^ 31) (hP : P ≤ 16) (hp : I 195 17 = nI P) : M_hasSlots 195 (nI S) I R n = some (some (.int (zb01 (mSlots I S P))), I, R, n) := by
  rw [e_M_hasSlots]
  have hl := zall_loop (fun i => M_hasSlots_2 195 (nI S) (nI i) I R n) (fun k => nI (zcnt S (fun i => decide (I 203 i = nI k)) P) = I 198 k) (some (some (.int 0), I, R, n)) 4 (fun i hi => by
    have e2 : zin 198 (nI i) = true := zin_nI (by show _ < 10; omega) (by omega)
    have e4 : (4 : Int32) = nI 4 := by decide
    show M_hasSlots_2 195 (nI S) (nI i) I R n = _
    rw [e_M_hasSlots_2, e4]
    simp only [h.k, h.2, zc_t, zr_s, if_pos (nI_lt hi (show 4 < 2 ^ 31 by omega)), M_placesIn_ok h hS hP hp, zbI_s, nI_1, e2, Bool.true_or, Bool.true_and, zix_nI (show i < 2 ^ 31 by omega)])
  rw [nI_0] at hl
  rw [hl]
  by_cases q : (∀ j, j < 4 → nI (zcnt S (fun i => decide (I 203 i = nI j)) P) = I 198 j)
  · rw [if_pos q, zb01_t (p := mSlots I S P) q, e_M_hasSlots_2]
    rfl
  · rw [if_neg q, zb01_f (p := mSlots I S P) q]
end LM3
