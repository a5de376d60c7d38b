/-! ===== one part of the text, as the reference sees it ===== -/
theorem zl64 (x y : Int32) : (Int32.toInt64 x < Int32.toInt64 y) ↔ x < y := by
  rw [Int64.lt_iff_toInt_lt, Int32.lt_iff_toInt_lt, Int32.toInt_toInt64, Int32.toInt_toInt64]
theorem zsb_eq : ∀ b, b < 256 → ∀ c, c < 128 → ((nI b).toInt8.toInt32 = nI c ↔ b = c) := by decide +kernel
theorem zsb_97 : ∀ b, b < 256 → ((nI b).toInt8.toInt32 < 97 ↔ (b < 97 ∨ 128 ≤ b)) := by decide +kernel
theorem zsb_122 : ∀ b, b < 256 → (122 < (nI b).toInt8.toInt32 ↔ (122 < b ∧ b < 128)) := by decide +kernel
theorem zdig_no {T : Nat × (Nat → Nat)} {s : Nat} (h : ¬ (s < T.1 ∧ zisD (T.2 s) = true)) (k v : Nat) : zdig T s k s v = (s, v) := by
  cases k with
  | zero => rfl
  | succ k => unfold zdig; rw [if_neg h]
theorem zdig_yes {T : Nat × (Nat → Nat)} {s : Nat} (h : s < T.1 ∧ zisD (T.2 s) = true) : s < (zdig T s (T.1 - s) s 0).1 := by
  obtain ⟨k, hk⟩ : ∃ k, T.1 - s = k + 1 := ⟨T.1 - s - 1, by omega⟩
  rw [hk]
  unfold zdig
  rw [if_pos h]
  have := (zdig_le T s k (s + 1) (if s - s < 3 then 0 * 10 + T.2 s - 48 else 0) (by omega)).2
  omega
theorem zher_sg {T : Nat × (Nat → Nat)} (hz : zTp T) (s : Nat) {c : Nat} (hc : c < 256) : (zher T s = nI c) ↔ zsgn T s c = true := by
  unfold zher zsgn
  by_cases q : s < T.1
  · have hb := (hz.2 s q).2
    rw [if_pos q, decide_eq_true q, Bool.true_and, nI_eq (by omega) (by omega), decide_eq_true_iff]
  · rw [if_neg q, decide_eq_false q]
    have : ∀ c, c < 256 → ¬ ((-1 : Int32) = nI c) := by decide +kernel
    exact ⟨fun z => absurd z (this c hc), fun z => by cases z⟩
section LSc3
variable {I : ZI} {R : ZR} {n : Nat} {T : Nat × (Nat → Nat)}
theorem M_look_ok2 (h : WM R n) (hz : zTp T) {a : Nat} (ha : a ≤ T.1) (hT : tpM I T) (h3 : I 195 3 = nI a) : ∃ I', M_look 195 I R n = some (some (.int (zher T (zsk T a))), I', R, n) ∧ I' 195 3 = nI (zsk T a) ∧ ∀ b j, (b = 195 → j ≠ 3) → I' b j = I b j := M_look_ok h hz (T.1 - a) a I (Nat.le_refl _) ha hT h3
theorem zsk_no (T : Nat × (Nat → Nat)) (a : Nat) : ¬ (zsk T a < T.1 ∧ T.2 (zsk T a) = 32) := zskp_stop T _ a (Nat.le_refl _)
theorem zsk_id {s : Nat} (h : ¬ (s < T.1 ∧ T.2 s = 32)) : zsk T s = s := by
  unfold zsk
  cases T.1 - s with
  | zero => rfl
  | succ k => unfold zskp; rw [if_neg h]
theorem zsk_zsk (a : Nat) : zsk T (zsk T a) = zsk T a := zsk_id (zsk_no T a)
theorem tpM_fr {J : ZI} (hT : tpM I T) (f : ∀ b j, (b = 195 → j ≠ 3 ∧ j ≠ 4 ∧ j ≠ 15 ∧ j ≠ 16) → (b = 195 ∨ b = 196) → J b j = I b j) : tpM J T := ⟨by rw [f 195 2 (by decide) (by decide)]; exact hT.1, fun i hi => by rw [f 196 i (fun z => absurd z (by decide)) (by decide)]; exact hT.2 i hi⟩
theorem M_fails_ok (h : WM R n) (x : Int32) : ∃ I', M_fails 195 x I R n = some (none, I', R, n) ∧ I' 195 4 = (if I 195 4 = -1 then x else I 195 4) ∧ ∀ b j, (b = 195 → j ≠ 4) → I' b j = I b j := by
  rw [e_M_fails]
  simp only [h.k, zc_t]
  by_cases q : I 195 4 = -1
  · rw [if_pos q, if_pos q]
    refine ⟨_, rfl, zup_s _ _ _ _, fun b j hb => ?_⟩
    by_cases z : b = 195
    · rw [zup_k _ (hb z)]
    · rw [zup_n _ z]
  · rw [if_neg q, if_neg q]
    exact ⟨I, rfl, rfl, fun _ _ _ => rfl⟩
theorem M_takes_ok (h : WM R n) (hz : zTp T) {a : Nat} (ha : a ≤ T.1) (hT : tpM I T) (h3 : I 195 3 = nI a) {c : Nat} (hc : c < 256) {x : Int32} (ex : x = nI c) : ∃ I', M_takes 195 x I R n = some (some (.int (zbo (zsgn T (zsk T a) c))), I', R, n) ∧ I' 195 3 = nI (if zsgn T (zsk T a) c = true then zsk T a + 1 else zsk T a) ∧ ∀ b j, (b = 195 → j ≠ 3) → I' b j = I b j := by
  obtain ⟨I1, e1, a1, f1⟩ := M_look_ok2 h hz ha hT h3
  rw [e_M_takes]
  simp only [h.k, zc_t, e1, zbI_s, ex, zher_sg hz (zsk T a) hc, a1, nI_1]
  cases zsgn T (zsk T a) c with
  | true =>
    refine ⟨_, rfl, zup_s _ _ _ _, fun b j hb => ?_⟩
    by_cases z : b = 195
    · rw [zup_k _ (hb z), f1 b j hb]
    · rw [zup_n _ z, f1 b j hb]
  | false => exact ⟨I1, rfl, a1, f1⟩
theorem M_number_ok (h : WM R n) (hz : zTp T) {a : Nat} (ha : a ≤ T.1) (hT : tpM I T) (h3 : I 195 3 = nI a) {d lo hi : Nat} {x1 x2 x3 : Int32} (e1 : x1 = nI d) (e2 : x2 = nI lo) (e3 : x3 = nI hi) (hd : d < 1000) (hlo : lo < 1000) (hhi : hi < 1000) : ∃ I', M_number 195 x1 x2 x3 I R n = some (some (.int (nI (zvl T (zsk T a)))), I', R, n) ∧ (znum T (zsk T a) d lo hi = true → I' 195 3 = nI (znx T (zsk T a))) ∧ I' 195 4 = (if znum T (zsk T a) d lo hi = true then I 195 4 else if I 195 4 = -1 then nI (zsk T a) else I 195 4) ∧ ∀ b j, (b = 195 → j ≠ 3 ∧ j ≠ 4) → I' b j = I b j := by
  subst e1; subst e2; subst e3
  have hl := hz.1
  obtain ⟨I1, q1, a1, f1⟩ := M_look_ok2 h hz ha hT h3
  have hs := (zsk_le T ha).1
  generalize zsk T a = s at *
  have hT1 : tpM I1 T := tpM_fr hT (fun b j hb _ => f1 b j (fun z => (hb z).1))
  obtain ⟨I2, q2, a2, f2⟩ := M_digits_ok h hz (s := s) (nI d) (nI lo) (nI hi) (T.1 - s) s 0 I1 (Nat.le_refl _) (Nat.le_refl _) hs hT1 a1
  have hv := zvl_lt T s
  have ev : (zdig T s (T.1 - s) s 0).2 = zvl T s := rfl
  rw [ev] at q2
  have hle := zdig_le T s (T.1 - s) s 0 hs
  have st := e_M_number 195 (nI d) (nI lo) (nI hi) I R n
  simp only [h.k, zc_t, q1, zbI_s, a1] at st
  rw [← nI_0, q2, e_M_number_72] at st
  simp only [h.k, zc_t, a2, nI_eq (show (zdig T s (T.1 - s) s 0).1 < 2 ^ 31 by omega) (show s < 2 ^ 31 by omega), pk_sub hle.2, nI_ltI (show d < 2 ^ 31 by omega) (show (zdig T s (T.1 - s) s 0).1 - s < 2 ^ 31 by omega), M_isIn_ok, zbI_s, zl64, nI_ltI (show zvl T s < 2 ^ 31 by omega) (show lo < 2 ^ 31 by omega), nI_ltI (show hi < 2 ^ 31 by omega) (show zvl T s < 2 ^ 31 by omega)] at st
  obtain ⟨I3, q3, a3, f3⟩ := M_fails_ok (I := I2) h (nI s)
  simp only [q3, zbV_s] at st
  have f4 : I2 195 4 = I 195 4 := by rw [f2 195 4 (by decide), f1 195 4 (by decide)]
  have fr2 : ∀ b j, (b = 195 → j ≠ 3 ∧ j ≠ 4) → I2 b j = I b j := fun b j hb => by rw [f2 b j (fun z => (hb z).1), f1 b j (fun z => (hb z).1)]
  have fr3 : ∀ b j, (b = 195 → j ≠ 3 ∧ j ≠ 4) → I3 b j = I b j := fun b j hb => by rw [f3 b j (fun z => (hb z).2), fr2 b j hb]
  rw [f4] at a3
  unfold znum
  by_cases k2 : zkd T s = 2
  · have kk := zkd2.1 k2
    have hx : znx T s = (zdig T s (T.1 - s) s 0).1 := by
      unfold znx
      have nl : zisL (T.2 s) = false := zisL_f (by have := zisD_i kk.2; omega)
      rw [if_pos kk.1, nl, if_neg (by decide), if_pos kk.2]
    have hy := zdig_yes kk
    rw [← hx] at st hy a2
    rw [if_neg (show ¬ znx T s = s by omega)] at st
    rw [decide_eq_true k2, Bool.true_and]
    by_cases c1 : d < znx T s - s
    · rw [if_pos c1] at st
      rw [decide_eq_false (show ¬ znx T s - s ≤ d by omega), Bool.false_and]
      exact ⟨I3, st, fun z => by simp at z, by rw [if_neg (by decide)]; exact a3, fr3⟩
    · rw [if_neg c1] at st
      rw [decide_eq_true (show znx T s - s ≤ d by omega), Bool.true_and]
      by_cases c2 : zvl T s < lo
      · rw [if_pos c2, if_pos rfl] at st
        rw [decide_eq_false (show ¬ lo ≤ zvl T s by omega), Bool.false_and]
        exact ⟨I3, st, fun z => by simp at z, by rw [if_neg (by decide)]; exact a3, fr3⟩
      · rw [if_neg c2] at st
        rw [decide_eq_true (show lo ≤ zvl T s by omega), Bool.true_and]
        by_cases c3 : hi < zvl T s
        · rw [if_pos c3, if_pos rfl] at st
          rw [decide_eq_false (show ¬ zvl T s ≤ hi by omega)]
          exact ⟨I3, st, fun z => by simp at z, by rw [if_neg (by decide)]; exact a3, fr3⟩
        · rw [if_neg c3, if_neg (by decide)] at st
          rw [decide_eq_true (show zvl T s ≤ hi by omega)]
          exact ⟨I2, st, fun _ => a2, by rw [if_pos rfl]; exact f4, fr2⟩
  · have kk : ¬ (s < T.1 ∧ zisD (T.2 s) = true) := fun z => k2 (zkd2.2 z)
    rw [zdig_no kk, if_pos rfl] at st
    rw [decide_eq_false k2, Bool.false_and]
    exact ⟨I3, st, fun z => by simp at z, by rw [if_neg (by decide)]; exact a3, fr3⟩
theorem M_word7_ok (h : WM R n) (hT : tpM I T) (hz : zTp T) {s j : Nat} (hs : s ≤ T.1) (hj : j < 7) (h3 : I 195 3 = nI s) : ∀ m k, k + m = z_ln (1000 + j) → M_word_7 195 (1000 + j) (nI k) I R n = if (zwfl T s (1000 + j) m k && !(zisL (zat T (s + z_ln (1000 + j))))) = true then some (some (.int 1), zup I 195 3 (nI (s + z_ln (1000 + j))), R, n) else some (some (.int 0), I, R, n) := by
  have hl := hz.1
  have hw := zw_ln j hj
  have eN : ∀ q, Int32.ofNat q = nI q := fun _ => rfl
  intro m
  induction m with
  | zero =>
    intro k e
    rw [e_M_word_7]
    simp only [zis_w n hj, h.k, h.2, zc_t, zr_s, eN, h3, hT.1, nI_add]
    rw [if_neg (nI_nlt (show z_ln (1000 + j) ≤ k by omega) (by omega))]
    show _ = if (true && _) = true then _ else _
    rw [Bool.true_and]
    by_cases q : s + z_ln (1000 + j) < T.1
    · have hb := (hz.2 _ q).2
      have i1 : zin 196 (nI (s + z_ln (1000 + j))) = true := zin_nI (by show _ < 400; omega) (by omega)
      rw [if_pos (nI_lt q (by omega))]
      simp only [i1, Bool.true_and, zc_t, zix_nI (show s + z_ln (1000 + j) < 2 ^ 31 by omega), hT.2 _ q, zsb_97 _ hb, zsb_122 _ hb, zat_s q]
      cases hL : zisL (T.2 (s + z_ln (1000 + j))) with
      | true =>
        have := zisL_i hL
        rw [if_neg (by omega), if_neg (by omega)]
        rfl
      | false =>
        have : T.2 (s + z_ln (1000 + j)) < 97 ∨ 122 < T.2 (s + z_ln (1000 + j)) := by
          rcases Nat.lt_or_ge (T.2 (s + z_ln (1000 + j))) 97 with z | z
          · exact Or.inl z
          · rcases Nat.lt_or_ge 122 (T.2 (s + z_ln (1000 + j))) with y | y
            · exact Or.inr y
            · rw [zisL_m z y] at hL; cases hL
        by_cases c1 : T.2 (s + z_ln (1000 + j)) < 97 ∨ 128 ≤ T.2 (s + z_ln (1000 + j))
        · rw [if_pos c1]; rfl
        · rw [if_neg c1, if_pos (by omega)]; rfl
    · rw [if_neg (nI_nlt (by omega) (by omega)), zat_z q]
      rfl
  | succ m ih =>
    intro k e
    have hc := zw_ch j hj k (by omega) (by omega)
    have i1 : zin (1000 + j) (nI k) = true := zin_nI (by omega) (by omega)
    rw [e_M_word_7]
    simp only [zis_w n hj, h.k, h.2, zc_t, zr_s, eN, h3, hT.1, nI_add, zix_nI (show k < 2 ^ 31 by omega), i1, Bool.true_and, nI_1, ih (k + 1) (by omega)]
    rw [if_pos (nI_lt (show k < z_ln (1000 + j) by omega) (by omega))]
    rw [show zwfl T s (1000 + j) (m + 1) k = (decide (zat T (s + k) = z_ch (1000 + j) k) && zwfl T s (1000 + j) m (k + 1)) from rfl]
    by_cases q : s + k < T.1
    · have hb := (hz.2 _ q).2
      have i2 : zin 196 (nI (s + k)) = true := zin_nI (by show _ < 400; omega) (by omega)
      rw [if_pos (nI_lt q (by omega))]
      simp only [i2, zc_t, zix_nI (show s + k < 2 ^ 31 by omega), hT.2 _ q, zsb_eq _ hb _ (show z_ch (1000 + j) k < 128 by omega), zat_s q]
      by_cases z : T.2 (s + k) = z_ch (1000 + j) k
      · rw [if_pos z, decide_eq_true z, Bool.true_and]
      · rw [if_neg z, decide_eq_false z, Bool.false_and, Bool.false_and, if_neg (by decide)]
    · rw [if_neg (nI_nlt (by omega) (by omega)), zat_z q, decide_eq_false (by omega), Bool.false_and, Bool.false_and, if_neg (by decide)]
theorem M_word_ok (h : WM R n) (hz : zTp T) {a : Nat} (ha : a ≤ T.1) (hT : tpM I T) (h3 : I 195 3 = nI a) {j : Nat} (hj : j < 7) : ∃ I', M_word 195 (1000 + j) I R n = some (some (.int (zbo (zwrd T (zsk T a) (1000 + j)))), I', R, n) ∧ I' 195 3 = nI (if zwrd T (zsk T a) (1000 + j) = true then znx T (zsk T a) else zsk T a) ∧ ∀ b j, (b = 195 → j ≠ 3) → I' b j = I b j := by
  obtain ⟨I1, q1, a1, f1⟩ := M_look_ok2 h hz ha hT h3
  have hs := (zsk_le T ha).1
  generalize zsk T a = s at *
  have hT1 : tpM I1 T := tpM_fr hT (fun b j hb _ => f1 b j (fun z => (hb z).1))
  have w := M_word7_ok (I := I1) (R := R) (n := n) h hT1 hz hs hj a1 (z_ln (1000 + j)) 0 (by omega)
  rw [nI_0] at w
  have st := e_M_word 195 (1000 + j) I R n
  simp only [h.k, zc_t, q1, zbI_s] at st
  rw [w] at st
  have e : (zwfl T s (1000 + j) (z_ln (1000 + j)) 0 && !(zisL (zat T (s + z_ln (1000 + j))))) = zwrd T s (1000 + j) := rfl
  rw [e] at st
  cases q : zwrd T s (1000 + j) with
  | true =>
    rw [q, if_pos rfl] at st
    refine ⟨_, st, ?_, fun b i hb => ?_⟩
    · rw [zup_s, if_pos rfl, znx_w hs hj q]
    · by_cases z : b = 195
      · rw [zup_k _ (hb z), f1 b i hb]
      · rw [zup_n _ z, f1 b i hb]
  | false =>
    rw [q, if_neg (by decide)] at st
    exact ⟨I1, st, by rw [if_neg (by decide)]; exact a1, f1⟩
/-- a letter that stands alone -/
def zlon (T : Nat × (Nat → Nat)) (s : Nat) : Bool := decide (s < T.1) && (zisL (T.2 s) && !(zisL (zat T (s + 1))))
theorem zlon_eq (T : Nat × (Nat → Nat)) {s : Nat} (hs : s ≤ T.1) : zlon T s = (decide (zkd T s = 1) && decide (znx T s - s = 1)) := by
  unfold zlon
  by_cases k1 : zkd T s = 1
  · have kk := zkd1.1 k1
    have hx : znx T s = zrunp zisL T (T.1 - s) s := by unfold znx; rw [if_pos kk.1, if_pos kk.2]
    rw [decide_eq_true k1, decide_eq_true kk.1, kk.2, Bool.true_and, Bool.true_and, Bool.true_and]
    cases hL : zisL (zat T (s + 1)) with
    | false =>
      have : zrunp zisL T (T.1 - s) s = s + 1 := zrunp_go zisL T 1 (T.1 - s) s (by omega) (fun i hi => by rw [show i = 0 by omega]; exact kk) (fun z => by rw [zat_s z.1, z.2] at hL; cases hL)
      rw [hx, this, decide_eq_true (by omega)]
      rfl
    | true =>
      have l : s + 1 < T.1 := zat_in (by have := zisL_i hL; omega)
      rw [zat_s l] at hL
      have e := zrunp_end zisL T (T.1 - s) s (Nat.le_refl _)
      have hne : ¬ (znx T s - s = 1) := by
        intro z
        rw [hx] at z
        have e2 : zrunp zisL T (T.1 - s) s = s + 1 := by omega
        rw [e2] at e
        exact e ⟨l, hL⟩
      rw [decide_eq_false hne]
      rfl
  · rw [decide_eq_false k1, Bool.false_and]
    by_cases q : s < T.1
    · rw [decide_eq_true q, Bool.true_and]
      cases hL : zisL (T.2 s) with
      | false => rfl
      | true => exact absurd (zkd1.2 ⟨q, hL⟩) k1
    · rw [decide_eq_false q]; rfl
theorem znx_l {s : Nat} (hs : s ≤ T.1) (h : zlon T s = true) : znx T s = s + 1 := by
  rw [zlon_eq T hs, Bool.and_eq_true] at h
  have := of_decide_eq_true h.2
  omega
/-- letters from f on, m above it -/
def zlet (T : Nat × (Nat → Nat)) (s f m : Nat) : Bool := zlon T s && (decide (f ≤ T.2 s) && decide (T.2 s ≤ f + m))
theorem M_letter_ok (h : WM R n) (hz : zTp T) {a : Nat} (ha : a ≤ T.1) (hT : tpM I T) (h3 : I 195 3 = nI a) {f m : Nat} {x1 x2 : Int32} (e1 : x1 = nI f) (e2 : x2 = nI m) (hf : 97 ≤ f) (hm : f + m ≤ 122) : ∃ I', M_letter 195 x1 x2 I R n = some (some (.int (if zlet T (zsk T a) f m = true then nI (T.2 (zsk T a) - f) else -1)), I', R, n) ∧ I' 195 3 = nI (if zlet T (zsk T a) f m = true then znx T (zsk T a) else zsk T a) ∧ ∀ b j, (b = 195 → j ≠ 3) → I' b j = I b j := by
  have hl := hz.1
  obtain ⟨I1, q1, a1, f1⟩ := M_look_ok2 h hz ha hT h3
  have hs := (zsk_le T ha).1
  generalize zsk T a = s at *
  have hT1 : tpM I1 T := tpM_fr hT (fun b j hb _ => f1 b j (fun z => (hb z).1))
  have st := e_M_letter 195 x1 x2 I R n
  simp only [h.k, h.2, zc_t, zr_s, q1, zbI_s, M_isIn_ok, zl64, a1, hT1.1, nI_1, e1, e2, nI_add] at st
  have no : zlet T s f m = false → (M_letter 195 x1 x2 I R n = some (some (.int (-1)), I1, R, n)) → ∃ I', M_letter 195 x1 x2 I R n = some (some (.int (if zlet T s f m = true then nI (T.2 s - f) else -1)), I', R, n) ∧ I' 195 3 = nI (if zlet T s f m = true then znx T s else s) ∧ ∀ b j, (b = 195 → j ≠ 3) → I' b j = I b j := by
    intro z e
    rw [z]
    exact ⟨I1, e, by rw [if_neg (by decide)]; exact a1, f1⟩
  rw [← e1, ← e2] at st
  by_cases q : s < T.1
  · have hb := (hz.2 s q).2
    have eh : zher T s = nI (T.2 s) := by unfold zher; rw [if_pos q]
    simp only [eh, e1, nI_ltI (show T.2 s < 2 ^ 31 by omega) (show f < 2 ^ 31 by omega), nI_ltI (show f + m < 2 ^ 31 by omega) (show T.2 s < 2 ^ 31 by omega)] at st
    rw [← e1] at st
    by_cases c1 : T.2 s < f
    · rw [if_pos c1, if_pos rfl] at st
      exact no (by unfold zlet; rw [decide_eq_false (show ¬ f ≤ T.2 s by omega), Bool.false_and, Bool.and_false]) st
    · rw [if_neg c1] at st
      by_cases c2 : f + m < T.2 s
      · rw [if_pos c2, if_pos rfl] at st
        exact no (by unfold zlet; rw [decide_eq_false (show ¬ T.2 s ≤ f + m by omega), Bool.and_false, Bool.and_false]) st
      · rw [if_neg c2, if_neg (by decide)] at st
        have eL : zlet T s f m = !(zisL (zat T (s + 1))) := by
          unfold zlet zlon
          rw [decide_eq_true q, zisL_m (show 97 ≤ T.2 s by omega) (show T.2 s ≤ 122 by omega), decide_eq_true (show f ≤ T.2 s by omega), decide_eq_true (show T.2 s ≤ f + m by omega)]
          cases zisL (zat T (s + 1)) <;> rfl
        have yes : zlet T s f m = true → M_letter 195 x1 x2 I R n = M_letter_68 195 x1 (nI (T.2 s)) I1 R n → ∃ I', M_letter 195 x1 x2 I R n = some (some (.int (if zlet T s f m = true then nI (T.2 s - f) else -1)), I', R, n) ∧ I' 195 3 = nI (if zlet T s f m = true then znx T s else s) ∧ ∀ b j, (b = 195 → j ≠ 3) → I' b j = I b j := by
          intro z e
          have hx : znx T s = s + 1 := znx_l hs (by unfold zlet at z; rw [Bool.and_eq_true] at z; exact z.1)
          rw [e_M_letter_68] at e
          simp only [h.k, zc_t, a1, nI_1] at e
          rw [z, if_pos rfl, if_pos rfl, hx]
          refine ⟨zup I1 195 3 (nI (s + 1)), ?_, zup_s _ _ _ _, fun b j hb => ?_⟩
          · rw [e, e1, pk_sub (by omega)]
          · by_cases z : b = 195
            · rw [zup_k _ (hb z), f1 b j hb]
            · rw [zup_n _ z, f1 b j hb]
        by_cases q2 : s + 1 < T.1
        · have hb2 := (hz.2 _ q2).2
          have i1 : zin 196 (nI (s + 1)) = true := zin_nI (by show _ < 400; omega) (by omega)
          rw [if_pos (nI_lt q2 (by omega))] at st
          simp only [i1, Bool.true_and, zc_t, zix_nI (show s + 1 < 2 ^ 31 by omega), hT1.2 _ q2, zsb_97 _ hb2, zsb_122 _ hb2] at st
          rw [zat_s q2] at eL
          cases hL : zisL (T.2 (s + 1)) with
          | true =>
            have := zisL_i hL
            rw [if_neg (by omega), if_neg (by omega)] at st
            exact no (by rw [eL, hL]; rfl) st
          | false =>
            have : T.2 (s + 1) < 97 ∨ 122 < T.2 (s + 1) := by
              rcases Nat.lt_or_ge (T.2 (s + 1)) 97 with z | z
              · exact Or.inl z
              · rcases Nat.lt_or_ge 122 (T.2 (s + 1)) with y | y
                · exact Or.inr y
                · rw [zisL_m z y] at hL; cases hL
            by_cases c3 : T.2 (s + 1) < 97 ∨ 128 ≤ T.2 (s + 1)
            · rw [if_pos c3] at st
              exact yes (by rw [eL, hL]; rfl) st
            · rw [if_neg c3, if_pos (by omega)] at st
              exact yes (by rw [eL, hL]; rfl) st
        · rw [if_neg (nI_nlt (by omega) (by omega))] at st
          rw [zat_z q2] at eL
          exact yes (by rw [eL]; rfl) st
  · have eh : zher T s = -1 := by unfold zher; rw [if_neg q]
    have hlt : ∀ f, f < 256 → (-1 : Int32) < nI f := by decide +kernel
    rw [eh, e1, if_pos (hlt f (by omega)), if_pos rfl, ← e1] at st
    exact no (by unfold zlet zlon; rw [decide_eq_false q, Bool.false_and, Bool.false_and]) st
end LSc3
