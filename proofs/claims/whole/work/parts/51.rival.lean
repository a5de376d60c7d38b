/-! ===== drawn teams, steady teams ===== -/
/-- the place that a seed draws -/
def zdrw (x : Int64) (D : Int32) : Int32 := Int64.toInt32 ((zlushr ((x * 6364136223846793005) + 1442695040888963407) 33) - (zlushr ((x * 6364136223846793005) + 1442695040888963407) 33) / (Int32.toInt64 D) * (Int32.toInt64 D))
theorem zlus_ok (x : Int64) : ∃ a, a < 2 ^ 31 ∧ zlushr x 33 = lN a := by
  have e : ((33 : Int32).toInt64.toUInt64 &&& Int64.toUInt64 63) = 33 := by decide +kernel
  refine ⟨(x.toUInt64 >>> 33).toNat, ?_, ?_⟩
  · rw [UInt64.toNat_shiftRight]
    have h : x.toUInt64.toNat < 2 ^ 64 := x.toUInt64.toNat_lt
    have e2 : ((33 : UInt64).toNat % 64) = 33 := by decide
    rw [e2, Nat.shiftRight_eq_div_pow]
    omega
  · unfold zlushr
    rw [e]
    apply Int64.toBitVec_inj.mp
    show (x.toUInt64 >>> 33).toBitVec = BitVec.ofNat 64 _
    apply BitVec.eq_of_toNat_eq
    rw [BitVec.toNat_ofNat]
    exact (Nat.mod_eq_of_lt (x.toUInt64 >>> 33).toNat_lt).symm
theorem zdrw_ok (x : Int64) {D : Nat} (h1 : 1 ≤ D) (hD : D < 2 ^ 31) : ∃ r, r < D ∧ zdrw x (nI D) = nI r := by
  obtain ⟨a, ha, e⟩ := zlus_ok ((x * 6364136223846793005) + 1442695040888963407)
  have hr : a % D < D := Nat.mod_lt _ (by omega)
  refine ⟨a % D, hr, ?_⟩
  unfold zdrw
  rw [e, nI_l hD, pk_lRem (by omega) (by omega) (by omega), ← nI_l (show a % D < 2 ^ 31 by omega)]
  simp
section LR
variable {I : ZI} {R : ZR} {n L : Nat}
theorem M_toldPrices_ok (h : WM R n) {S P : Nat} (hS : S < 2 ^ 31) (hP : P ≤ 16) (hp : I 195 17 = nI P) : M_toldPrices 195 (nI S) I R n = some (some (.int (mTo I P S)), I, R, n) := by
  rw [e_M_toldPrices]
  have key : ∀ k, k ≤ P → M_toldPrices_4 195 (nI S) 0 (nI 0) I R n = M_toldPrices_4 195 (nI S) (zsum S (I 205) k) (nI k) I R n := by
    intro k
    induction k with
    | zero => intro _; rfl
    | succ k ih =>
      intro hk
      have e2 : zin 205 (nI k) = true := zin_nI (by show _ < 16; omega) (by omega)
      rw [ih (by omega), e_M_toldPrices_4]
      simp only [h.k, h.2, zc_t, zr_s, hp, if_pos (nI_lt (show k < P by omega) (show P < 2 ^ 31 by omega)), M_has_ok hS (show k < 32 by omega), zbI_s, nI_1, e2, Bool.true_or, Bool.true_and, zix_nI (show k < 2 ^ 31 by omega), zsum_succ]
      cases S.testBit k <;> rfl
  rw [nI_0] at key
  rw [key P (Nat.le_refl _), e_M_toldPrices_4]
  simp only [h.k, zc_t, hp]
  rw [if_neg (nI_nlt (Nat.le_refl _) (by omega))]
  rfl
theorem M_rivalMany_ok (h : WM R n) {m P : Nat} {t : Nat → Nat} (ht : zTmM I m t) (hP : P ≤ 16) (hp : I 195 17 = nI P) : M_rivalMany 195 I R n = some (some (.int (nI (zct (fun k => !(decide (I 198 4 < mTo I P (t k)))) m))), I, R, n) := by
  obtain ⟨h20, hm, hk2⟩ := ht
  rw [e_M_rivalMany]
  have key : ∀ k, k ≤ m → M_rivalMany_4 195 (nI 0) (nI 0) I R n = M_rivalMany_4 195 (nI (zct (fun k => !(decide (I 198 4 < mTo I P (t k)))) k)) (nI k) I R n := by
    intro k
    induction k with
    | zero => intro _; rfl
    | succ k ih =>
      intro hk
      obtain ⟨s1, s2, s3⟩ := hk2 k (by omega)
      rw [ih (by omega), e_M_rivalMany_4]
      simp only [h.k, h.2, zc_t, zr_s, h20, if_pos (nI_lt (show k < m by omega) (show m < 2 ^ 31 by omega)), zin207 (show k < 3136 by omega), zix_nI (show k < 2 ^ 31 by omega), Bool.true_or, Bool.true_and, nI_1, s1, M_toldPrices_ok h (show t k < 2 ^ 31 by omega) hP hp, zbI_s, zin198, zixs, Int32.add_zero, zct_succ]
      by_cases q : I 198 4 < mTo I P (t k)
      · simp [q]
      · simp [q]
  rw [nI_0] at key
  rw [key m (Nat.le_refl _), e_M_rivalMany_4]
  simp only [h.k, zc_t, h20]
  rw [if_neg (nI_nlt (Nat.le_refl _) (by omega))]
theorem M_rivalTeam_ok (h : WM R n) {m P k D : Nat} {t : Nat → Nat} (x : Int64) (ht : zTmM I m t) (hP : P ≤ 16) (hp : I 195 17 = nI P) (hk : k < m) (hd : (!(decide (I 198 4 < mTo I P (t k)))) = true) (hD1 : 1 ≤ D) (hD : D < 2 ^ 31) (hx : zdrw x (nI D) = nI (zct (fun k => !(decide (I 198 4 < mTo I P (t k)))) k)) : M_rivalTeam 195 x (nI D) I R n = some (some (.int (nI (t k))), I, R, n) := by
  obtain ⟨h20, hm, hk2⟩ := ht
  have g0 : (!(decide (Int32.toInt64 (nI D) = 0))) = true := by
    rw [nI_l hD]
    have : ¬ lN D = 0 := fun q => by
      have e0 : (0 : Int64) = lN 0 := by decide
      rw [e0, pk_lEQ (by omega) (by omega)] at q
      omega
    rw [decide_eq_false this]; rfl
  have hle : ∀ j, zct (fun k => !(decide (I 198 4 < mTo I P (t k)))) j ≤ j := by
    intro j
    induction j with
    | zero => exact Nat.le_refl _
    | succ j ih => rw [zct_succ]; split <;> omega
  have hlk := hle k
  have key : ∀ i, i ≤ k → M_rivalTeam_25 195 (nI (zct (fun k => !(decide (I 198 4 < mTo I P (t k)))) k)) (nI 0) I R n = M_rivalTeam_25 195 (nI (zct (fun k => !(decide (I 198 4 < mTo I P (t k)))) k - zct (fun k => !(decide (I 198 4 < mTo I P (t k)))) i)) (nI i) I R n := by
    intro i
    induction i with
    | zero => intro _; rfl
    | succ i ih =>
      intro hi
      obtain ⟨s1, s2, s3⟩ := hk2 i (by omega)
      rw [ih (by omega), e_M_rivalTeam_25]
      simp only [h.k, h.2, zc_t, zr_s, h20, if_pos (nI_lt (show i < m by omega) (show m < 2 ^ 31 by omega)), zin207 (show i < 3136 by omega), zix_nI (show i < 2 ^ 31 by omega), Bool.true_or, Bool.true_and, nI_1, s1, M_toldPrices_ok h (show t i < 2 ^ 31 by omega) hP hp, zbI_s, zin198, zixs]
      by_cases q : I 198 4 < mTo I P (t i)
      · rw [if_pos q, zct_succ]; simp [q]
      · have hl := zct_lt (fun k => !(decide (I 198 4 < mTo I P (t k)))) (show i < k by omega) (by simp [q])
        rw [if_neg q, if_neg (nI_ne0 (by omega) (by omega)), zsubm1, zpred (by omega)]
        have e : zct (fun k => !(decide (I 198 4 < mTo I P (t k)))) (i + 1) = zct (fun k => !(decide (I 198 4 < mTo I P (t k)))) i + 1 := by rw [zct_succ]; simp [q]
        rw [e, Nat.sub_sub]
  rw [e_M_rivalTeam, g0, zc_t]
  show M_rivalTeam_25 195 (zdrw x (nI D)) 0 I R n = _
  rw [nI_0] at key
  rw [hx, key k (Nat.le_refl _), Nat.sub_self, nI_0, e_M_rivalTeam_25]
  obtain ⟨s1, s2, s3⟩ := hk2 k hk
  have q : ¬ I 198 4 < mTo I P (t k) := by simpa using hd
  simp only [h.k, h.2, zc_t, zr_s, h20, if_pos (nI_lt hk (show m < 2 ^ 31 by omega)), zin207 (show k < 3136 by omega), zix_nI (show k < 2 ^ 31 by omega), Bool.true_or, Bool.true_and, s1, M_toldPrices_ok h (show t k < 2 ^ 31 by omega) hP hp, zbI_s, zin198, zixs, if_neg q, if_true]
theorem Tb_draw_ok (hT : WT R n L) {D r : Nat} (x : Int64) (h7 : I 4 7 = nI D) (hD1 : 1 ≤ D) (hD : D ≤ 3136) (hr : r < D) (hx : zdrw x (nI D) = nI r) : Tb_draw 4 x I R n = some (some (.int (I 221 r)), I, R, n) := by
  have g0 : (!(decide (Int32.toInt64 (nI D) = 0))) = true := by
    rw [nI_l (show D < 2 ^ 31 by omega)]
    have : ¬ lN D = 0 := fun q => by
      have e0 : (0 : Int64) = lN 0 := by decide
      rw [e0, pk_lEQ (by omega) (by omega)] at q
      omega
    rw [decide_eq_false this]; rfl
  have e1 : ¬ nI D < 1 := nI_nlt (b := 1) hD1 (by omega)
  rw [e_Tb_draw]
  unfold zdrw at hx
  simp only [hT.k, hT.r, zc_t, zr_s, h7, if_neg e1, g0, hx, zinT (show r < 3136 by omega), zix_nI (show r < 2 ^ 31 by omega), Bool.true_or, Bool.true_and]
theorem Tb_draw_no (hT : WT R n L) (x : Int64) (h7 : I 4 7 = 0) : Tb_draw 4 x I R n = some (some (.int (-1)), I, R, n) := by
  rw [e_Tb_draw]
  simp only [hT.k, zc_t, h7]
  rw [if_pos (by decide)]
/-- the least of weeks w0 .. w0 + k -/
def zmnW (f : Nat → Int32) (w0 : Nat) : Nat → Int32
  | 0 => f w0
  | k + 1 => zmin (zmnW f w0 k) (f (w0 + (k + 1)))
theorem zmin_lt {x y z : Int32} (h : z < zmin x y) : z < x := by
  unfold zmin at h
  by_cases q : y < x
  · rw [if_pos q] at h
    rw [Int32.lt_iff_toInt_lt] at *
    omega
  · rw [if_neg q] at h; exact h
theorem zmnW_le (f : Nat → Int32) (w0 : Nat) {z : Int32} {k : Nat} : ∀ j, z < zmnW f w0 (k + j) → z < zmnW f w0 k
  | 0, h => h
  | j + 1, h => zmnW_le f w0 j (zmin_lt h)
theorem Tb_leastScore_ok (hT : WT R n L) (hL : WL R n L) {S P w0 Wk : Nat} (known : Int32) (hS : S < 65536) (hS0 : S ≠ 0) (hP : P ≤ 16) (hp : I L 8 = nI P) (hW : I (L + 2) 2 = nI Wk) (hWk : Wk ≤ 6) (h0 : w0 < Wk) (hlow : ∀ w k, w < Wk → k < P → (-100000000 : Int32) < I (L + 8 + w) k) (hne : ∀ w, w < 6 → zcap S (I (L + 8 + w)) P ≠ none) : ∃ v, Tb_leastScore 4 (nI S) (nI w0) known I R n = some (some (.int v), I, R, n) ∧ ((known < zmnW (fun w => zwith S (I (L + 8 + w)) P) w0 (Wk - w0 - 1) ∧ v = zmnW (fun w => zwith S (I (L + 8 + w)) P) w0 (Wk - w0 - 1)) ∨ (¬ known < zmnW (fun w => zwith S (I (L + 8 + w)) P) w0 (Wk - w0 - 1) ∧ ¬ known < v)) := by
  have sc : ∀ w, w < Wk → Lg_scoreOf L (nI S) (nI w) I R n = some (some (.int (zwith S (I (L + 8 + w)) P)), I, R, n) := fun w hw => Lg_scoreOf_ok hL (by omega) hP hp (by omega) (fun k hk => hlow w k hw hk) hS0 (hne w (by omega))
  have key : ∀ d k, k + d = Wk - w0 - 1 → ∃ v, Tb_leastScore_16 4 (nI S) known (zmnW (fun w => zwith S (I (L + 8 + w)) P) w0 k) (nI (w0 + (k + 1))) I R n = some (some (.int v), I, R, n) ∧ ((known < zmnW (fun w => zwith S (I (L + 8 + w)) P) w0 (Wk - w0 - 1) ∧ v = zmnW (fun w => zwith S (I (L + 8 + w)) P) w0 (Wk - w0 - 1)) ∨ (¬ known < zmnW (fun w => zwith S (I (L + 8 + w)) P) w0 (Wk - w0 - 1) ∧ ¬ known < v)) := by
    intro d
    induction d with
    | zero =>
      intro k hk
      rw [Nat.add_zero] at hk
      subst hk
      refine ⟨zmnW (fun w => zwith S (I (L + 8 + w)) P) w0 (Wk - w0 - 1), ?_, ?_⟩
      · rw [e_Tb_leastScore_16]
        simp only [hT.k, hT.r, hL.k, hL.r, hL.zrules, zixs, zc_t, zr_s, hW, Bool.true_or, Bool.true_and]
        rw [if_neg (nI_nlt (by omega) (by omega))]
      · by_cases q : known < zmnW (fun w => zwith S (I (L + 8 + w)) P) w0 (Wk - w0 - 1)
        · exact Or.inl ⟨q, rfl⟩
        · exact Or.inr ⟨q, q⟩
    | succ d ih =>
      intro k hk
      have st := e_Tb_leastScore_16 4 (nI S) known (zmnW (fun w => zwith S (I (L + 8 + w)) P) w0 k) (nI (w0 + (k + 1))) I R n
      simp only [hT.k, hT.r, hL.k, hL.r, hL.zrules, zixs, zc_t, zr_s, hW, Bool.true_or, Bool.true_and, if_pos (nI_lt (show w0 + (k + 1) < Wk by omega) (show Wk < 2 ^ 31 by omega)), sc (w0 + (k + 1)) (by omega), zbI_s, nI_1] at st
      by_cases q : known < zmnW (fun w => zwith S (I (L + 8 + w)) P) w0 k
      · rw [if_pos q] at st
        obtain ⟨v, e, hv⟩ := ih (k + 1) (by omega)
        exact ⟨v, st.trans e, hv⟩
      · rw [if_neg q] at st
        refine ⟨_, st, Or.inr ⟨fun z => q ?_, q⟩⟩
        have e : Wk - w0 - 1 = k + (d + 1) := by omega
        rw [e] at z
        exact zmnW_le _ _ (d + 1) z
  obtain ⟨v, e, hv⟩ := key (Wk - w0 - 1) 0 (by omega)
  refine ⟨v, ?_, hv⟩
  rw [e_Tb_leastScore]
  simp only [hT.k, hT.r, hL.k, zc_t, zr_s, sc w0 (by omega), zbI_s, nI_1]
  exact e
theorem M_leastPoints_ok (h : WM R n) {S P w0 Wk : Nat} (hS : S < 65536) (hP : P ≤ 16) (hp : I 195 17 = nI P) (hW : I 198 6 = nI Wk) (hWk : Wk ≤ 6) (hw0 : I 208 9 = nI w0) (h0 : w0 < Wk) (hne : ∀ w, w < 6 → zcap S (fun i => I 206 (6 * i + w)) P ≠ none) : M_leastPoints 195 (nI S) I R n = some (some (.int (zmnW (fun w => mSc I P w S) w0 (Wk - w0 - 1))), I, R, n) := by
  have sc : ∀ w, w < 6 → M_withBest 195 (nI S) (nI w) I R n = some (some (.int (mSc I P w S)), I, R, n) := fun w hw => M_withBest_ok h (by omega) hP hp hw (hne w hw)
  have key : ∀ k, k ≤ Wk - w0 - 1 → M_leastPoints_23 195 (nI S) (mSc I P w0 S) (nI (w0 + 1)) I R n = M_leastPoints_23 195 (nI S) (zmnW (fun w => mSc I P w S) w0 k) (nI (w0 + (k + 1))) I R n := by
    intro k
    induction k with
    | zero => intro _; rfl
    | succ k ih =>
      intro hk
      rw [ih (by omega), e_M_leastPoints_23]
      simp only [h.k, h.2, zc_t, zr_s, zin198, zixs, hW, Bool.true_or, Bool.true_and, if_pos (nI_lt (show w0 + (k + 1) < Wk by omega) (show Wk < 2 ^ 31 by omega)), sc (w0 + (k + 1)) (by omega), zbI_s, nI_1]
      rfl
  rw [e_M_leastPoints]
  simp only [h.k, h.2, zc_t, zr_s, zin208, zixs, hw0, Bool.true_or, Bool.true_and, sc w0 (by omega), zbI_s, nI_1]
  rw [key _ (Nat.le_refl _), e_M_leastPoints_23]
  simp only [h.k, h.2, zc_t, zr_s, zin198, zixs, hW, Bool.true_or, Bool.true_and]
  rw [if_neg (nI_nlt (by omega) (by omega))]
end LR
