/-! ===== the League's readings (class side) ===== -/
def isL (L : Nat) : Prop := L = 151 ∨ L = 173
def WL (R : ZR) (n L : Nat) : Prop := 195 ≤ n ∧ isL L ∧ (R L 0 = some (L + 1) ∧ R L 1 = some (L + 2) ∧ R L 2 = some (L + 3) ∧ R L 3 = some (L + 4) ∧ R L 4 = some (L + 5) ∧ R L 5 = some (L + 6) ∧ R L 6 = some (L + 7) ∧ R L 7 = some (L + 14)) ∧ (∀ w, w < 6 → R (L + 7) w = some (L + 8 + w)) ∧ ∀ w, w < 7 → R (L + 14) w = some (L + 15 + w)
section LL
variable {I : ZI} {R : ZR} {n L : Nat}
theorem WL.r (h : WL R n L) : R L 0 = some (L + 1) ∧ R L 1 = some (L + 2) ∧ R L 2 = some (L + 3) ∧ R L 3 = some (L + 4) ∧ R L 4 = some (L + 5) ∧ R L 5 = some (L + 6) ∧ R L 6 = some (L + 7) ∧ R L 7 = some (L + 14) := h.2.2.1
theorem WL.k (h : WL R n L) : zis n L 1 = true ∧ zis n (L + 1) 20 = true ∧ zis n (L + 2) 20 = true ∧ zis n (L + 3) 20 = true ∧ zis n (L + 4) 20 = true ∧ zis n (L + 5) 20 = true ∧ zis n (L + 6) 20 = true ∧ zis n (L + 7) 22 = true ∧ zis n (L + 14) 22 = true := by
  obtain ⟨hn, hL, -⟩ := h
  rcases hL with rfl | rfl
  · refine ⟨?_, ?_, ?_, ?_, ?_, ?_, ?_, ?_, ?_⟩ <;> exact zis_lit (by omega) (by decide)
  · refine ⟨?_, ?_, ?_, ?_, ?_, ?_, ?_, ?_, ?_⟩ <;> exact zis_lit (by omega) (by decide)
theorem WL.ln (h : WL R n L) : z_ln (L + 1) = 4 ∧ z_ln (L + 2) = 6 ∧ z_ln (L + 3) = 16 ∧ z_ln (L + 4) = 16 ∧ z_ln (L + 5) = 4 ∧ z_ln (L + 6) = 6 ∧ z_ln (L + 7) = 6 ∧ z_ln (L + 14) = 7 := by
  obtain ⟨hn, hL, -⟩ := h
  rcases hL with rfl | rfl <;> decide
theorem WL.rw (h : WL R n L) {w : Nat} (hw : w < 6) : zis n (L + 8 + w) 20 = true ∧ z_ln (L + 8 + w) = 16 := by
  obtain ⟨hn, hL, -⟩ := h
  have e1 : ∀ w, w < 6 → z_kd (151 + 8 + w) = 20 ∧ z_ln (151 + 8 + w) = 16 ∧ z_kd (173 + 8 + w) = 20 ∧ z_ln (173 + 8 + w) = 16 := by decide
  obtain ⟨a, b, c, d⟩ := e1 w hw
  rcases hL with rfl | rfl
  · exact ⟨zis_lit (by omega) a, b⟩
  · exact ⟨zis_lit (by omega) c, d⟩
theorem WL.pw (h : WL R n L) {w : Nat} (hw : w < 7) : zis n (L + 15 + w) 20 = true ∧ z_ln (L + 15 + w) = 16 := by
  obtain ⟨hn, hL, -⟩ := h
  have e1 : ∀ w, w < 7 → z_kd (151 + 15 + w) = 20 ∧ z_ln (151 + 15 + w) = 16 ∧ z_kd (173 + 15 + w) = 20 ∧ z_ln (173 + 15 + w) = 16 := by decide
  obtain ⟨a, b, c, d⟩ := e1 w hw
  rcases hL with rfl | rfl
  · exact ⟨zis_lit (by omega) a, b⟩
  · exact ⟨zis_lit (by omega) c, d⟩
theorem WL.zrules (h : WL R n L) : zin (L + 2) 0 = true ∧ zin (L + 2) 1 = true ∧ zin (L + 2) 2 = true ∧ zin (L + 2) 3 = true ∧ zin (L + 2) 4 = true ∧ zin (L + 2) 5 = true := by
  obtain ⟨hn, hL, -⟩ := h
  rcases hL with rfl | rfl <;> decide
theorem zin_of {a N k : Nat} (ha : z_ln a = N) (h : k < N) (hN : N < 2 ^ 31) : zin a (nI k) = true := zin_nI (by rw [ha]; exact h) (by omega)
theorem Lg_hasPlayer_ok (h : WL R n L) {x : Int32} {P : Nat} (hp : I L 8 = nI P) : Lg_hasPlayer L x I R n = some (some (.int (zlt x P)), I, R, n) := by
  rw [e_Lg_hasPlayer]
  simp only [h.k, zc_t, hp]
  unfold zlt
  by_cases h1 : x < 0
  · rw [if_pos h1, if_pos h1]
  · rw [if_neg h1, if_neg h1]
    by_cases h2 : x < nI P
    · rw [if_pos h2, if_pos h2]
    · rw [if_neg h2, if_neg h2]
theorem Lg_hasWeek_ok (h : WL R n L) {x : Int32} {Wk : Nat} (hp : I (L + 2) 2 = nI Wk) : Lg_hasWeek L x I R n = some (some (.int (zlt x Wk)), I, R, n) := by
  rw [e_Lg_hasWeek]
  simp only [h.k, h.r, h.zrules, zixs, zc_t, zr_s, Bool.true_or, Bool.true_and, hp]
  unfold zlt
  by_cases h1 : x < 0
  · rw [if_pos h1, if_pos h1]
  · rw [if_neg h1, if_neg h1]
    by_cases h2 : x < nI Wk
    · rw [if_pos h2, if_pos h2]
    · rw [if_neg h2, if_neg h2]
theorem Lg_knows_ok (h : WL R n L) {x : Int32} {P : Nat} (hp : I L 8 = nI P) : Lg_knows L x I R n = some (some (.int (zset1 x P)), I, R, n) := by
  rw [e_Lg_knows]
  simp only [h.k, zc_t, hp]
  unfold zset1
  by_cases h1 : x < 0
  · rw [if_pos h1, if_pos h1]
  · rw [if_neg h1, if_neg h1]
    by_cases h2 : x >>> (nI P &&& 31) = 0
    · rw [if_pos h2, if_pos h2]
    · rw [if_neg h2, if_neg h2]
theorem zhalf {S k : Nat} (hS : S < 2 ^ 31) : nI (S / 2 ^ k) >>> ((1 : Int32) &&& 31) = nI (S / 2 ^ (k + 1)) := by
  have h1 : S / 2 ^ k < 2 ^ 31 := Nat.lt_of_le_of_lt (Nat.div_le_self _ _) hS
  have := zshr (S := S / 2 ^ k) (j := 1) h1 (by omega)
  have e : (nI 1 : Int32) = 1 := by decide
  rw [e] at this
  rw [this, Nat.div_div_eq_div_mul, Nat.pow_one, ← Nat.pow_succ]
theorem zlow {S k : Nat} (hS : S < 2 ^ 31) : (nI (S / 2 ^ k) &&& 1) = if S.testBit k then 1 else 0 := by
  have h1 : S / 2 ^ k < 2 ^ 31 := Nat.lt_of_le_of_lt (Nat.div_le_self _ _) hS
  rw [zand1 _ (by omega), Nat.testBit_eq_decide_div_mod_eq]
  rcases Nat.mod_two_eq_zero_or_one (S / 2 ^ k) with h | h
  · rw [h]; decide
  · rw [h]; decide
theorem zrest0 {S k : Nat} (hS : S < 2 ^ 31) : nI (S / 2 ^ k) = 0 ↔ S / 2 ^ k = 0 := by
  have h1 : S / 2 ^ k < 2 ^ 31 := Nat.lt_of_le_of_lt (Nat.div_le_self _ _) hS
  rw [← nI_0]
  exact nI_eq h1 (by omega)
theorem Lg_sumOf_ok (h : WL R n L) {S P r : Nat} (hS : S < 2 ^ 31) (hP : P ≤ 16) (hp : I L 8 = nI P) (hr : zis n r 20 = true) (hl : z_ln r = 16) : Lg_sumOf L (nI S) r I R n = some (some (.int (zsum S (I r) P)), I, R, n) := by
  rw [e_Lg_sumOf]
  have key : ∀ d k, k + d = P → Lg_sumOf_8 L r (zsum S (I r) k) (nI (S / 2 ^ k)) (nI k) I R n = some (some (.int (zsum S (I r) P)), I, R, n) := by
    intro d
    induction d with
    | zero =>
      intro k hk
      have : k = P := by omega
      subst this
      rw [e_Lg_sumOf_8]
      simp only [h.k, zc_t, hp]
      rw [if_neg (nI_nlt (Nat.le_refl _) (by omega))]
    | succ d ih =>
      intro k hk
      rw [e_Lg_sumOf_8]
      simp only [h.k, zc_t, hp, if_pos (nI_lt (show k < P by omega) (show P < 2 ^ 31 by omega)), hr, zin_of hl (show k < 16 by omega) (by omega), zix_nI (show k < 2 ^ 31 by omega), Bool.true_or, Bool.true_and, zhalf hS, nI_1, zlow hS]
      by_cases h0 : nI (S / 2 ^ k) = 0
      · rw [if_pos h0, zsum_zero (I r) ((zrest0 hS).mp h0) P (by omega)]
      · rw [if_neg h0]
        have := ih (k + 1) (by omega)
        rw [zsum_succ] at this
        cases hb : S.testBit k
        · rw [hb] at this
          simpa using this
        · rw [hb] at this
          simpa using this
  have h0 := key P 0 (by omega)
  rw [Nat.pow_zero, Nat.div_one, nI_0] at h0
  exact h0
theorem Lg_priceOf_ok (h : WL R n L) {S P w : Nat} (hS : S < 2 ^ 31) (hP : P ≤ 16) (hp : I L 8 = nI P) (hw : w < 7) : Lg_priceOf L (nI S) (nI w) I R n = some (some (.int (zsum S (I (L + 15 + w)) P)), I, R, n) := by
  rw [e_Lg_priceOf]
  simp only [h.k, h.r, zc_t, zr_s, Bool.true_or, Bool.true_and, zin_of h.ln.2.2.2.2.2.2.2 hw (by omega), zix_nI (show w < 2 ^ 31 by omega), h.2.2.2.2 w hw, Lg_sumOf_ok h hS hP hp (h.pw hw).1 (h.pw hw).2, zbI_s]
theorem Lg_pointsOf_ok (h : WL R n L) {S P w : Nat} (hS : S < 2 ^ 31) (hP : P ≤ 16) (hp : I L 8 = nI P) (hw : w < 6) : Lg_pointsOf L (nI S) (nI w) I R n = some (some (.int (zsum S (I (L + 8 + w)) P)), I, R, n) := by
  rw [e_Lg_pointsOf]
  simp only [h.k, h.r, zc_t, zr_s, Bool.true_or, Bool.true_and, zin_of h.ln.2.2.2.2.2.2.1 hw (by omega), zix_nI (show w < 2 ^ 31 by omega), h.2.2.2.1 w hw, Lg_sumOf_ok h hS hP hp (h.rw hw).1 (h.rw hw).2, zbI_s]
theorem zcap_succ (S : Nat) (f : Nat → Int32) (k : Nat) : zcap S f (k + 1) = if S.testBit k then (match zcap S f k with
    | none => some k
    | some b => if f b < f k then some k else some b) else zcap S f k := rfl
theorem Lg_topPlayer_ok (h : WL R n L) {S P w : Nat} (hS : S < 2 ^ 31) (hP : P ≤ 16) (hp : I L 8 = nI P) (hw : w < 6) : Lg_topPlayer L (nI S) (nI w) I R n = some (some (.int (zo (zcap S (I (L + 8 + w)) P))), I, R, n) := by
  rw [e_Lg_topPlayer]
  have key : ∀ k, k ≤ P → Lg_topPlayer_5 L (nI S) (nI w) (-1) (nI 0) I R n = Lg_topPlayer_5 L (nI S) (nI w) (zo (zcap S (I (L + 8 + w)) k)) (nI k) I R n := by
    intro k
    induction k with
    | zero => intro _; rfl
    | succ k ih =>
      intro hk
      rw [ih (by omega), e_Lg_topPlayer_5]
      simp only [h.k, h.r, zc_t, zr_s, hp, if_pos (nI_lt (show k < P by omega) (show P < 2 ^ 31 by omega)), zbit hS (show k < 32 by omega), nI_1, Bool.true_or, Bool.true_and, zin_of h.ln.2.2.2.2.2.2.1 hw (by omega), zix_nI (show w < 2 ^ 31 by omega), h.2.2.2.1 w hw, (h.rw hw).1, zin_of (h.rw hw).2 (show k < 16 by omega) (by omega), zix_nI (show k < 2 ^ 31 by omega), zcap_succ]
      cases hb : S.testBit k
      · rfl
      · rw [if_neg (by decide)]
        cases hz : zcap S (I (L + 8 + w)) k with
        | none => rw [zo_none, if_pos rfl]; rfl
        | some b =>
          have hb16 := (zcap_lt hz).1
          rw [zo_some, if_neg (zo_ne (by omega))]
          simp only [zin_of (h.rw hw).2 (show b < 16 by omega) (by omega), zix_nI (show b < 2 ^ 31 by omega), zc_t, if_true]
          by_cases hc : I (L + 8 + w) b < I (L + 8 + w) k
          · rw [if_pos hc, if_pos hc, zo_some]
          · rw [if_neg hc, if_neg hc, zo_some]
  rw [nI_0] at key
  rw [key P (Nat.le_refl _), e_Lg_topPlayer_5]
  simp only [h.k, zc_t, hp]
  rw [if_neg (nI_nlt (Nat.le_refl _) (by omega))]
def ztop (t0 : Int32) (S : Nat) (f : Nat → Int32) (k : Nat) : Int32 := match zcap S f k with
  | none => t0
  | some b => f b
theorem ztop_succ (t0 : Int32) (S : Nat) (f : Nat → Int32) (k : Nat) (hlow : zcap S f k = none → t0 < f k) : ztop t0 S f (k + 1) = if S.testBit k then (if ztop t0 S f k < f k then f k else ztop t0 S f k) else ztop t0 S f k := by
  unfold ztop
  rw [zcap_succ]
  cases S.testBit k
  · rfl
  · simp only [if_true]
    cases hz : zcap S f k with
    | none => dsimp only; rw [if_pos (hlow hz)]
    | some b =>
      dsimp only
      by_cases hc : f b < f k
      · rw [if_pos hc, if_pos hc]
      · rw [if_neg hc, if_neg hc]
theorem ztop_zero {t0 : Int32} {S : Nat} (f : Nat → Int32) {k : Nat} (h : S / 2 ^ k = 0) : ∀ N, k ≤ N → zcap S f N = zcap S f k := by
  intro N hN
  induction hN with
  | refl => rfl
  | step hN ih =>
    rename_i m
    have hb : S.testBit m = false := by
      have h1 : S / 2 ^ m = 0 := by
        have : S < 2 ^ k := by
          rcases Nat.lt_or_ge S (2 ^ k) with q | q
          · exact q
          · have := Nat.div_pos q (Nat.two_pow_pos k); omega
        exact Nat.div_eq_of_lt (Nat.lt_of_lt_of_le this (Nat.pow_le_pow_right (by omega) hN))
      rw [Nat.testBit_eq_decide_div_mod_eq, h1]
      rfl
    rw [zcap_succ, hb, ← ih]
    rfl
theorem Lg_scoreOf28_ok (h : WL R n L) {S P r : Nat} {t0 : Int32} (hS : S < 2 ^ 31) (hP : P ≤ 16) (hp : I L 8 = nI P) (hr : zis n r 20 = true) (hl : z_ln r = 16) (hlow : ∀ k, k < P → t0 < I r k) : Lg_scoreOf_28 L r 0 t0 (nI S) 0 I R n = some (some (.int (zsum S (I r) P + ztop t0 S (I r) P)), I, R, n) := by
  have key : ∀ d k, k + d = P → Lg_scoreOf_28 L r (zsum S (I r) k) (ztop t0 S (I r) k) (nI (S / 2 ^ k)) (nI k) I R n = some (some (.int (zsum S (I r) P + ztop t0 S (I r) P)), I, R, n) := by
    intro d
    induction d with
    | zero =>
      intro k hk
      have : k = P := by omega
      subst this
      rw [e_Lg_scoreOf_28]
      simp only [h.k, zc_t, hp]
      rw [if_neg (nI_nlt (Nat.le_refl _) (by omega))]
    | succ d ih =>
      intro k hk
      rw [e_Lg_scoreOf_28]
      simp only [h.k, zc_t, hp, if_pos (nI_lt (show k < P by omega) (show P < 2 ^ 31 by omega)), hr, zin_of hl (show k < 16 by omega) (by omega), zix_nI (show k < 2 ^ 31 by omega), Bool.true_or, Bool.true_and, zhalf hS, nI_1, zlow hS]
      by_cases h0 : nI (S / 2 ^ k) = 0
      · have e1 : ztop t0 S (I r) P = ztop t0 S (I r) k := by
          unfold ztop
          rw [ztop_zero (t0 := t0) (I r) ((zrest0 hS).mp h0) P (by omega)]
        rw [if_pos h0, zsum_zero (I r) ((zrest0 hS).mp h0) P (by omega), e1]
      · rw [if_neg h0]
        have := ih (k + 1) (by omega)
        rw [zsum_succ, ztop_succ t0 S (I r) k (fun _ => hlow k (by omega))] at this
        cases hb : S.testBit k
        · rw [hb] at this
          simpa using this
        · rw [hb] at this
          rw [if_neg (by decide)]
          simp only [if_true] at this
          by_cases hc : ztop t0 S (I r) k < I r k
          · rw [if_pos hc] at this ⊢; exact this
          · rw [if_neg hc] at this ⊢; exact this
  have h0 := key P 0 (by omega)
  rw [Nat.pow_zero, Nat.div_one, nI_0] at h0
  exact h0
theorem Lg_scoreOf_ok (h : WL R n L) {S P w : Nat} (hS : S < 2 ^ 31) (hP : P ≤ 16) (hp : I L 8 = nI P) (hw : w < 6) (hlow : ∀ k, k < P → (-100000000 : Int32) < I (L + 8 + w) k) (hS0 : S ≠ 0) (hne : zcap S (I (L + 8 + w)) P ≠ none) : Lg_scoreOf L (nI S) (nI w) I R n = some (some (.int (zwith S (I (L + 8 + w)) P)), I, R, n) := by
  rw [e_Lg_scoreOf]
  simp only [h.k, h.r, zc_t, zr_s, Bool.true_or, Bool.true_and, zin_of h.ln.2.2.2.2.2.2.1 hw (by omega), zix_nI (show w < 2 ^ 31 by omega), h.2.2.2.1 w hw]
  rw [if_neg (nI_ne0 (by omega) hS), Lg_scoreOf28_ok h hS hP hp (h.rw hw).1 (h.rw hw).2 hlow]
  unfold zwith ztop
  cases hz : zcap S (I (L + 8 + w)) P with
  | none => exact absurd hz hne
  | some b => rfl
theorem Lg_pointsFrom_ok (h : WL R n L) {i w0 Wk : Nat} (hi : i < 16) (hW : I (L + 2) 2 = nI Wk) (hWk : Wk ≤ 6) (h0 : w0 ≤ Wk) : Lg_pointsFrom L (nI i) (nI w0) I R n = some (some (.int (zrow (fun w => I (L + 8 + w) i) w0 (Wk - w0))), I, R, n) := by
  rw [e_Lg_pointsFrom]
  have key : ∀ k, k ≤ Wk - w0 → Lg_pointsFrom_5 L (nI i) 0 (nI w0) I R n = Lg_pointsFrom_5 L (nI i) (zrow (fun w => I (L + 8 + w) i) w0 k) (nI (w0 + k)) I R n := by
    intro k
    induction k with
    | zero => intro _; rfl
    | succ k ih =>
      intro hk
      have hw : w0 + k < 6 := by omega
      rw [ih (by omega), e_Lg_pointsFrom_5]
      simp only [h.k, h.r, h.zrules, zc_t, zr_s, zixs, hW, if_pos (nI_lt (show w0 + k < Wk by omega) (show Wk < 2 ^ 31 by omega)), zin_of h.ln.2.2.2.2.2.2.1 hw (by omega), zix_nI (show w0 + k < 2 ^ 31 by omega), h.2.2.2.1 _ hw, (h.rw hw).1, zin_of (h.rw hw).2 hi (by omega), zix_nI (show i < 2 ^ 31 by omega), nI_1, Bool.true_or, Bool.true_and]
      rfl
  rw [key (Wk - w0) (Nat.le_refl _), e_Lg_pointsFrom_5]
  simp only [h.k, h.r, h.zrules, zc_t, zr_s, zixs, hW, Bool.true_or, Bool.true_and]
  rw [if_neg (nI_nlt (by omega) (by omega))]
end LL
