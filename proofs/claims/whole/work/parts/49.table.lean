/-! ===== the table's questions ===== -/
/-- teams t 0 .. t (m - 1) -/
def zTm (I : ZI) (m : Nat) (t : Nat → Nat) : Prop := I 4 6 = nI m ∧ m ≤ 3136 ∧ ∀ k, k < m → I 218 k = nI (t k) ∧ t k < 65536 ∧ t k ≠ 0
/-- the first with the most among some -/
def zcapc (c : Nat → Bool) (f : Nat → Int32) : Nat → Option Nat
  | 0 => none
  | k + 1 => if c k then (match zcapc c f k with
    | none => some k
    | some b => if f b < f k then some k else some b) else zcapc c f k
theorem zcapc_succ (c : Nat → Bool) (f : Nat → Int32) (k : Nat) : zcapc c f (k + 1) = if c k then (match zcapc c f k with
    | none => some k
    | some b => if f b < f k then some k else some b) else zcapc c f k := rfl
theorem zcapc_lt {c : Nat → Bool} {f : Nat → Int32} : ∀ {k b : Nat}, zcapc c f k = some b → b < k ∧ c b = true
  | 0, _, h => by cases h
  | k + 1, b, h => by
    unfold zcapc at h
    by_cases hb : c k = true
    · rw [if_pos hb] at h
      cases hz : zcapc c f k with
      | none => rw [hz] at h; cases h; exact ⟨by omega, hb⟩
      | some b0 =>
        rw [hz] at h
        dsimp only at h
        obtain ⟨h1, h2⟩ := zcapc_lt hz
        by_cases hc : f b0 < f k
        · rw [if_pos hc] at h; cases h; exact ⟨by omega, hb⟩
        · rw [if_neg hc] at h; cases h; exact ⟨by omega, h2⟩
    · rw [if_neg hb] at h
      obtain ⟨h1, h2⟩ := zcapc_lt h
      exact ⟨by omega, h2⟩
/-- what all of some have -/
def zall (x : Int32) (c : Nat → Bool) (f : Nat → Int32) : Nat → Int32
  | 0 => x
  | k + 1 => if c k then zall x c f k &&& f k else zall x c f k
theorem zall_succ (x : Int32) (c : Nat → Bool) (f : Nat → Int32) (k : Nat) : zall x c f (k + 1) = if c k then zall x c f k &&& f k else zall x c f k := rfl
/-- the least of some; -1 if there is none -/
def zlst (c : Nat → Bool) (f : Nat → Int32) : Nat → Int32
  | 0 => -1
  | k + 1 => if c k then (if zlst c f k = -1 then f k else if f k < zlst c f k then f k else zlst c f k) else zlst c f k
theorem zlst_succ (c : Nat → Bool) (f : Nat → Int32) (k : Nat) : zlst c f (k + 1) = if c k then (if zlst c f k = -1 then f k else if f k < zlst c f k then f k else zlst c f k) else zlst c f k := rfl
section LT
variable {I : ZI} {R : ZR} {n L : Nat}
theorem Tb_priceFor_ok (hT : WT R n L) (hL : WL R n L) {m P w : Nat} {t : Nat → Nat} (ht : zTm I m t) (hP : P ≤ 16) (hp : I L 8 = nI P) (hw : w < 7) (hc : I 4 8 = nI w → ∀ k, k < m → I 219 k = zsum (t k) (I (L + 15 + w)) P) : ∃ I', Tb_priceFor 4 (nI w) I R n = some (none, I', R, n) ∧ I' 4 8 = nI w ∧ (∀ k, k < m → I' 219 k = zsum (t k) (I (L + 15 + w)) P) ∧ ∀ b j, b ≠ 219 → (b = 4 → j ≠ 8) → I' b j = I b j := by
  have hLb : 151 ≤ L ∧ L + 22 ≤ 195 := by rcases hL.2.1 with rfl | rfl <;> decide
  rw [e_Tb_priceFor]
  simp only [hT.k, zc_t]
  by_cases q : I 4 8 = nI w
  · rw [if_pos q]
    exact ⟨I, rfl, q, hc q, fun _ _ _ _ => rfl⟩
  · rw [if_neg q]
    have key : ∀ k, k ≤ m → ∃ J, Tb_priceFor_11 4 (nI w) (nI 0) I R n = Tb_priceFor_11 4 (nI w) (nI k) J R n ∧ (∀ i, i < k → J 219 i = zsum (t i) (I (L + 15 + w)) P) ∧ ∀ b j, b ≠ 219 → J b j = I b j := by
      intro k
      induction k with
      | zero => intro _; exact ⟨I, rfl, fun i hi => by omega, fun _ _ _ => rfl⟩
      | succ k ih =>
        intro hk
        obtain ⟨J, e, a1, a2⟩ := ih (by omega)
        obtain ⟨e6, hm, hk2⟩ := ht
        obtain ⟨s1, s2, s3⟩ := hk2 k (by omega)
        have j6 : J 4 6 = nI m := by rw [a2 _ _ (by decide), e6]
        have j8 : J L 8 = nI P := by rw [a2 _ _ (by omega), hp]
        have js : J 218 k = nI (t k) := by rw [a2 _ _ (by decide), s1]
        have jr : J (L + 15 + w) = I (L + 15 + w) := funext fun j => a2 _ _ (by omega)
        have st := e_Tb_priceFor_11 4 (nI w) (nI k) J R n
        simp only [hT.k, hT.r, hL.k, zc_t, zr_s, j6, if_pos (nI_lt (show k < m by omega) (show m < 2 ^ 31 by omega)), zinT (show k < 3136 by omega), zix_nI (show k < 2 ^ 31 by omega), js, Lg_priceOf_ok hL (show t k < 2 ^ 31 by omega) hP j8 hw, zbI_s, Bool.true_or, Bool.true_and, nI_1, jr] at st
        refine ⟨_, e.trans st, ?_, ?_⟩
        · intro i hi
          by_cases z : i = k
          · rw [z, zup_s]
          · rw [zup_k _ z]; exact a1 i (by omega)
        · intro b j hb
          rw [zup_n _ hb]; exact a2 b j hb
    obtain ⟨J, e, a1, a2⟩ := key m (Nat.le_refl _)
    have j6 : J 4 6 = nI m := by rw [a2 _ _ (by decide), ht.1]
    rw [nI_0] at e
    have st := e_Tb_priceFor_11 4 (nI w) (nI m) J R n
    simp only [hT.k, zc_t, j6] at st
    rw [if_neg (nI_nlt (Nat.le_refl _) (by have := ht.2.1; omega))] at st
    refine ⟨_, e.trans st, ?_, ?_, ?_⟩
    · rw [zup_s]
    · intro k hk; rw [zup_n _ (by decide)]; exact a1 k hk
    · intro b j h1 h2
      by_cases z : b = 4
      · rw [zup_k _ (h2 z)]; exact a2 b j h1
      · rw [zup_n _ z]; exact a2 b j h1
theorem Tb_scoreFor_ok (hT : WT R n L) (hL : WL R n L) {m P w : Nat} {t : Nat → Nat} (ht : zTm I m t) (hP : P ≤ 16) (hp : I L 8 = nI P) (hw : w < 6) (hlow : ∀ k, k < P → (-100000000 : Int32) < I (L + 8 + w) k) (hne : ∀ k, k < m → zcap (t k) (I (L + 8 + w)) P ≠ none) (hc : I 4 9 = nI w → ∀ k, k < m → I 220 k = zwith (t k) (I (L + 8 + w)) P) : ∃ I', Tb_scoreFor 4 (nI w) I R n = some (none, I', R, n) ∧ I' 4 9 = nI w ∧ (∀ k, k < m → I' 220 k = zwith (t k) (I (L + 8 + w)) P) ∧ ∀ b j, b ≠ 220 → (b = 4 → j ≠ 9) → I' b j = I b j := by
  have hLb : 151 ≤ L ∧ L + 22 ≤ 195 := by rcases hL.2.1 with rfl | rfl <;> decide
  rw [e_Tb_scoreFor]
  simp only [hT.k, zc_t]
  by_cases q : I 4 9 = nI w
  · rw [if_pos q]
    exact ⟨I, rfl, q, hc q, fun _ _ _ _ => rfl⟩
  · rw [if_neg q]
    have key : ∀ k, k ≤ m → ∃ J, Tb_scoreFor_11 4 (nI w) (nI 0) I R n = Tb_scoreFor_11 4 (nI w) (nI k) J R n ∧ (∀ i, i < k → J 220 i = zwith (t i) (I (L + 8 + w)) P) ∧ ∀ b j, b ≠ 220 → J b j = I b j := by
      intro k
      induction k with
      | zero => intro _; exact ⟨I, rfl, fun i hi => by omega, fun _ _ _ => rfl⟩
      | succ k ih =>
        intro hk
        obtain ⟨J, e, a1, a2⟩ := ih (by omega)
        obtain ⟨e6, hm, hk2⟩ := ht
        obtain ⟨s1, s2, s3⟩ := hk2 k (by omega)
        have j6 : J 4 6 = nI m := by rw [a2 _ _ (by decide), e6]
        have j8 : J L 8 = nI P := by rw [a2 _ _ (by omega), hp]
        have js : J 218 k = nI (t k) := by rw [a2 _ _ (by decide), s1]
        have jr : J (L + 8 + w) = I (L + 8 + w) := funext fun j => a2 _ _ (by omega)
        have sc := Lg_scoreOf_ok hL (I := J) (show t k < 2 ^ 31 by omega) hP j8 hw (by rw [jr]; exact hlow) s3 (by rw [jr]; exact hne k (by omega))
        rw [jr] at sc
        have st := e_Tb_scoreFor_11 4 (nI w) (nI k) J R n
        simp only [hT.k, hT.r, hL.k, zc_t, zr_s, j6, if_pos (nI_lt (show k < m by omega) (show m < 2 ^ 31 by omega)), zinT (show k < 3136 by omega), zix_nI (show k < 2 ^ 31 by omega), js, sc, zbI_s, Bool.true_or, Bool.true_and, nI_1] at st
        refine ⟨_, e.trans st, ?_, ?_⟩
        · intro i hi
          by_cases z : i = k
          · rw [z, zup_s]
          · rw [zup_k _ z]; exact a1 i (by omega)
        · intro b j hb
          rw [zup_n _ hb]; exact a2 b j hb
    obtain ⟨J, e, a1, a2⟩ := key m (Nat.le_refl _)
    have j6 : J 4 6 = nI m := by rw [a2 _ _ (by decide), ht.1]
    rw [nI_0] at e
    have st := e_Tb_scoreFor_11 4 (nI w) (nI m) J R n
    simp only [hT.k, zc_t, j6] at st
    rw [if_neg (nI_nlt (Nat.le_refl _) (by have := ht.2.1; omega))] at st
    refine ⟨_, e.trans st, ?_, ?_, ?_⟩
    · rw [zup_s]
    · intro k hk; rw [zup_n _ (by decide)]; exact a1 k hk
    · intro b j h1 h2
      by_cases z : b = 4
      · rw [zup_k _ (h2 z)]; exact a2 b j h1
      · rw [zup_n _ z]; exact a2 b j h1
theorem Tb_sizeUnder_ok (hT : WT R n L) {m : Nat} (l x : Int32) (h6 : I 4 6 = nI m) (hm : m ≤ 3136) : Tb_sizeUnder 4 l x I R n = some (some (.int (nI (zct (fun k => !(decide (l < I 219 k)) && decide (I 218 k &&& x = x)) m))), I, R, n) := by
  rw [e_Tb_sizeUnder]
  have key : ∀ k, k ≤ m → Tb_sizeUnder_5 4 l x (nI 0) (nI 0) I R n = Tb_sizeUnder_5 4 l x (nI (zct (fun k => !(decide (l < I 219 k)) && decide (I 218 k &&& x = x)) k)) (nI k) I R n := by
    intro k
    induction k with
    | zero => intro _; rfl
    | succ k ih =>
      intro hk
      rw [ih (by omega), e_Tb_sizeUnder_5]
      simp only [hT.k, hT.r, zc_t, zr_s, h6, if_pos (nI_lt (show k < m by omega) (show m < 2 ^ 31 by omega)), zinT (show k < 3136 by omega), zix_nI (show k < 2 ^ 31 by omega), Bool.true_or, Bool.true_and, nI_1, zct_succ]
      by_cases q : l < I 219 k
      · simp [q]
      · by_cases q2 : I 218 k &&& x = x
        · simp [q, q2]
        · simp [q, q2]
  rw [nI_0] at key
  rw [key m (Nat.le_refl _), e_Tb_sizeUnder_5]
  simp only [hT.k, zc_t, h6]
  rw [if_neg (nI_nlt (Nat.le_refl _) (by omega))]
theorem Tb_bestUnder_ok (hT : WT R n L) {m : Nat} (l : Int32) (h6 : I 4 6 = nI m) (hm : m ≤ 3136) : Tb_bestUnder 4 l I R n = some (some (.int (zo (zcapc (fun k => !(decide (l < I 219 k))) (I 220) m))), I, R, n) := by
  rw [e_Tb_bestUnder]
  have key : ∀ k, k ≤ m → Tb_bestUnder_4 4 l (-1) (nI 0) I R n = Tb_bestUnder_4 4 l (zo (zcapc (fun k => !(decide (l < I 219 k))) (I 220) k)) (nI k) I R n := by
    intro k
    induction k with
    | zero => intro _; rfl
    | succ k ih =>
      intro hk
      rw [ih (by omega), e_Tb_bestUnder_4]
      simp only [hT.k, hT.r, zc_t, zr_s, h6, if_pos (nI_lt (show k < m by omega) (show m < 2 ^ 31 by omega)), zinT (show k < 3136 by omega), zix_nI (show k < 2 ^ 31 by omega), Bool.true_or, Bool.true_and, nI_1, zcapc_succ]
      by_cases q : l < I 219 k
      · simp [q]
      · rw [if_neg q, decide_eq_false q]
        cases hz : zcapc (fun k => !(decide (l < I 219 k))) (I 220) k with
        | none => rw [zo_none, if_pos rfl]; rfl
        | some b =>
          have hb := (zcapc_lt hz).1
          rw [zo_some, if_neg (zo_ne (by omega))]
          simp only [zinT (show b < 3136 by omega), zix_nI (show b < 2 ^ 31 by omega), zc_t, Bool.not_false, if_true]
          by_cases hc : I 220 b < I 220 k
          · rw [if_pos hc, if_pos hc, zo_some]
          · rw [if_neg hc, if_neg hc, zo_some]
  rw [nI_0] at key
  rw [key m (Nat.le_refl _), e_Tb_bestUnder_4]
  simp only [hT.k, zc_t, h6]
  rw [if_neg (nI_nlt (Nat.le_refl _) (by omega))]
theorem Tb_sharedBy_ok (hT : WT R n L) {m : Nat} (l y : Int32) (h6 : I 4 6 = nI m) (hm : m ≤ 3136) : Tb_sharedBy 4 l y I R n = some (some (.int (zall (-1) (fun k => !(decide (l < I 219 k)) && decide (I 220 k = y)) (I 218) m)), I, R, n) := by
  rw [e_Tb_sharedBy]
  have key : ∀ k, k ≤ m → Tb_sharedBy_5 4 l y (-1) (nI 0) I R n = Tb_sharedBy_5 4 l y (zall (-1) (fun k => !(decide (l < I 219 k)) && decide (I 220 k = y)) (I 218) k) (nI k) I R n := by
    intro k
    induction k with
    | zero => intro _; rfl
    | succ k ih =>
      intro hk
      rw [ih (by omega), e_Tb_sharedBy_5]
      simp only [hT.k, hT.r, zc_t, zr_s, h6, if_pos (nI_lt (show k < m by omega) (show m < 2 ^ 31 by omega)), zinT (show k < 3136 by omega), zix_nI (show k < 2 ^ 31 by omega), Bool.true_or, Bool.true_and, nI_1, zall_succ]
      by_cases q : l < I 219 k
      · simp [q]
      · by_cases q2 : I 220 k = y
        · simp [q, q2]
        · simp [q, q2]
  rw [nI_0] at key
  rw [key m (Nat.le_refl _), e_Tb_sharedBy_5]
  simp only [hT.k, zc_t, h6]
  rw [if_neg (nI_nlt (Nat.le_refl _) (by omega))]
theorem Tb_leastFor_ok (hT : WT R n L) {m : Nat} (y : Int32) (h6 : I 4 6 = nI m) (hm : m ≤ 3136) : Tb_leastFor 4 y I R n = some (some (.int (zlst (fun k => !(decide (I 220 k < y))) (I 219) m)), I, R, n) := by
  rw [e_Tb_leastFor]
  have key : ∀ k, k ≤ m → Tb_leastFor_4 4 y (-1) (nI 0) I R n = Tb_leastFor_4 4 y (zlst (fun k => !(decide (I 220 k < y))) (I 219) k) (nI k) I R n := by
    intro k
    induction k with
    | zero => intro _; rfl
    | succ k ih =>
      intro hk
      rw [ih (by omega), e_Tb_leastFor_4]
      simp only [hT.k, hT.r, zc_t, zr_s, h6, if_pos (nI_lt (show k < m by omega) (show m < 2 ^ 31 by omega)), zinT (show k < 3136 by omega), zix_nI (show k < 2 ^ 31 by omega), Bool.true_or, Bool.true_and, nI_1, zlst_succ]
      by_cases q : I 220 k < y
      · simp [q]
      · rw [if_neg q, decide_eq_false q]
        simp only [Bool.not_false, if_true]
        by_cases q2 : zlst (fun k => !(decide (I 220 k < y))) (I 219) k = -1
        · rw [if_pos q2, if_pos q2]
        · rw [if_neg q2, if_neg q2]
          by_cases q3 : I 219 k < zlst (fun k => !(decide (I 220 k < y))) (I 219) k
          · rw [if_pos q3, if_pos q3]
          · rw [if_neg q3, if_neg q3]
  rw [nI_0] at key
  rw [key m (Nat.le_refl _), e_Tb_leastFor_4]
  simp only [hT.k, zc_t, h6]
  rw [if_neg (nI_nlt (Nat.le_refl _) (by omega))]
end LT
