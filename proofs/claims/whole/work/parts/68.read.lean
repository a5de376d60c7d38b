/-! ===== one part of the text, as the class's reader sees it ===== -/
def zkd (T : Nat × (Nat → Nat)) (s : Nat) : Nat := if s < T.1 then (if zisL (T.2 s) = true then 1 else if zisD (T.2 s) = true then 2 else 3) else 0
def znx (T : Nat × (Nat → Nat)) (s : Nat) : Nat := if s < T.1 then (if zisL (T.2 s) = true then zrunp zisL T (T.1 - s) s else if zisD (T.2 s) = true then (zdig T s (T.1 - s) s 0).1 else s + 1) else s
def zvl (T : Nat × (Nat → Nat)) (s : Nat) : Nat := (zdig T s (T.1 - s) s 0).2
def ztok (T : Nat × (Nat → Nat)) (I : ZI) (s : Nat) : Prop := I 3 3 = nI (zkd T s) ∧ I 3 4 = nI s ∧ I 3 5 = nI (znx T s) ∧ (zkd T s = 2 → I 3 6 = nI (zvl T s))
theorem zrunp_le (c : Nat → Bool) (T : Nat × (Nat → Nat)) : ∀ k a, a ≤ T.1 → zrunp c T k a ≤ T.1 ∧ a ≤ zrunp c T k a
  | 0, a, h => ⟨h, Nat.le_refl _⟩
  | k + 1, a, h => by
    unfold zrunp
    by_cases q : a < T.1 ∧ c (T.2 a) = true
    · rw [if_pos q]
      have := zrunp_le c T k (a + 1) (by omega)
      omega
    · rw [if_neg q]; exact ⟨h, Nat.le_refl _⟩
theorem zrunp_go (c : Nat → Bool) (T : Nat × (Nat → Nat)) : ∀ m k a, m ≤ k → (∀ i, i < m → a + i < T.1 ∧ c (T.2 (a + i)) = true) → ¬ (a + m < T.1 ∧ c (T.2 (a + m)) = true) → zrunp c T k a = a + m
  | 0, 0, a, _, _, _ => rfl
  | 0, k + 1, a, _, _, h2 => by
    unfold zrunp
    have h3 : ¬ (a < T.1 ∧ c (T.2 a) = true) := h2
    rw [if_neg h3]
    rfl
  | m + 1, 0, a, h, _, _ => by omega
  | m + 1, k + 1, a, h, h1, h2 => by
    unfold zrunp
    have h3 : a < T.1 ∧ c (T.2 a) = true := h1 0 (by omega)
    rw [if_pos h3, zrunp_go c T m k (a + 1) (by omega) (fun i hi => by
      have := h1 (i + 1) (by omega)
      rw [show a + 1 + i = a + (i + 1) by omega]; exact this) (by rw [show a + 1 + m = a + (m + 1) by omega]; exact h2)]
    omega
theorem zrunp_in (c : Nat → Bool) (T : Nat × (Nat → Nat)) : ∀ k a i, a ≤ i → i < zrunp c T k a → i < T.1 ∧ c (T.2 i) = true
  | 0, a, i, h1, h2 => by
    have : zrunp c T 0 a = a := rfl
    omega
  | k + 1, a, i, h1, h2 => by
    unfold zrunp at h2
    by_cases q : a < T.1 ∧ c (T.2 a) = true
    · rw [if_pos q] at h2
      by_cases z : i = a
      · rw [z]; exact q
      · exact zrunp_in c T k (a + 1) i (by omega) h2
    · rw [if_neg q] at h2; omega
theorem zrunp_end (c : Nat → Bool) (T : Nat × (Nat → Nat)) : ∀ k a, T.1 - a ≤ k → ¬ (zrunp c T k a < T.1 ∧ c (T.2 (zrunp c T k a)) = true)
  | 0, a, h => by
    show ¬ (a < T.1 ∧ _)
    omega
  | k + 1, a, h => by
    unfold zrunp
    by_cases q : a < T.1 ∧ c (T.2 a) = true
    · rw [if_pos q]; exact zrunp_end c T k (a + 1) (by omega)
    · rw [if_neg q]; exact q
theorem zdig_le (T : Nat × (Nat → Nat)) (s : Nat) : ∀ k a v, a ≤ T.1 → (zdig T s k a v).1 ≤ T.1 ∧ a ≤ (zdig T s k a v).1
  | 0, a, v, h => ⟨h, Nat.le_refl _⟩
  | k + 1, a, v, h => by
    unfold zdig
    by_cases q : a < T.1 ∧ zisD (T.2 a) = true
    · rw [if_pos q]
      have := zdig_le T s k (a + 1) (if a - s < 3 then v * 10 + T.2 a - 48 else v) (by omega)
      omega
    · rw [if_neg q]; exact ⟨h, Nat.le_refl _⟩
theorem zisD_i {b : Nat} (h : zisD b = true) : 48 ≤ b ∧ b ≤ 57 := by
  unfold zisD at h
  rw [Bool.and_eq_true] at h
  exact ⟨of_decide_eq_true h.1, of_decide_eq_true h.2⟩
theorem zisL_i {b : Nat} (h : zisL b = true) : 97 ≤ b ∧ b ≤ 122 := by
  unfold zisL at h
  rw [Bool.and_eq_true] at h
  exact ⟨of_decide_eq_true h.1, of_decide_eq_true h.2⟩
theorem zisL_m {b : Nat} (h1 : 97 ≤ b) (h2 : b ≤ 122) : zisL b = true := by
  unfold zisL
  rw [decide_eq_true h1, decide_eq_true h2]; rfl
theorem zisL_f {b : Nat} (h : b < 97 ∨ 122 < b) : zisL b = false := by
  cases q : zisL b with
  | false => rfl
  | true => have := zisL_i q; omega
theorem zisD_f {b : Nat} (h : b < 48 ∨ 57 < b) : zisD b = false := by
  cases q : zisD b with
  | false => rfl
  | true => have := zisD_i q; omega
theorem zdig_lt (T : Nat × (Nat → Nat)) (s : Nat) : ∀ k a v, s ≤ a → ((a = s → v < 1) ∧ (a = s + 1 → v < 10) ∧ (a = s + 2 → v < 100) ∧ v < 1000) → (zdig T s k a v).2 < 1000
  | 0, a, v, _, h => h.2.2.2
  | k + 1, a, v, hs, h => by
    unfold zdig
    by_cases q : a < T.1 ∧ zisD (T.2 a) = true
    · rw [if_pos q]
      have hd := zisD_i q.2
      by_cases q3 : a - s < 3
      · rw [if_pos q3]
        exact zdig_lt T s k (a + 1) _ (by omega) (by omega)
      · rw [if_neg q3]
        exact zdig_lt T s k (a + 1) _ (by omega) (by omega)
    · rw [if_neg q]; exact h.2.2.2
theorem zvl_lt (T : Nat × (Nat → Nat)) (s : Nat) : zvl T s < 1000 := zdig_lt T s _ s 0 (Nat.le_refl _) (by omega)
theorem znx_le (T : Nat × (Nat → Nat)) {s : Nat} (h : s ≤ T.1) : znx T s ≤ T.1 ∧ s ≤ znx T s := by
  unfold znx
  by_cases q : s < T.1
  · rw [if_pos q]
    by_cases q1 : zisL (T.2 s) = true
    · rw [if_pos q1]; exact zrunp_le _ _ _ _ h
    · rw [if_neg q1]
      by_cases q2 : zisD (T.2 s) = true
      · rw [if_pos q2]; exact zdig_le _ _ _ _ _ h
      · rw [if_neg q2]; omega
  · rw [if_neg q]; omega
theorem zsk_le (T : Nat × (Nat → Nat)) {a : Nat} (h : a ≤ T.1) : zsk T a ≤ T.1 ∧ a ≤ zsk T a := zskp_le T _ a h
theorem zkd_lt (T : Nat × (Nat → Nat)) (s : Nat) : zkd T s < 4 := by
  unfold zkd
  by_cases q : s < T.1
  · rw [if_pos q]
    by_cases q1 : zisL (T.2 s) = true
    · rw [if_pos q1]; omega
    · rw [if_neg q1]
      by_cases q2 : zisD (T.2 s) = true
      · rw [if_pos q2]; omega
      · rw [if_neg q2]; omega
  · rw [if_neg q]; omega
section LRd4
variable {R : ZR} {n : Nat}
theorem Rd_step_ok (h : WRd R n) {T : Nat × (Nat → Nat)} (hz : zTp T) {a : Nat} {I : ZI} (ha : a ≤ T.1) (hT : tpC I T) (h5 : I 3 5 = nI a) : ∃ I', Rd_step 3 I R n = some (none, I', R, n) ∧ ztok T I' (zsk T a) ∧ ∀ b j, (b = 3 → j ≠ 3 ∧ j ≠ 4 ∧ j ≠ 5 ∧ j ≠ 6) → I' b j = I b j := by
  have hl := hz.1
  obtain ⟨I1, e1, a1, f1⟩ := Rd_skip_ok h hz (T.1 - a) a I (Nat.le_refl _) ha hT h5
  have hs := (zskp_le T (T.1 - a) a ha).1
  show ∃ I', _ ∧ ztok T I' (zskp T (T.1 - a) a) ∧ _
  generalize zskp T (T.1 - a) a = s at a1 hs ⊢
  have hT1 : tpC I1 T := ⟨by rw [f1 1 1 (by decide)]; exact hT.1, fun i hi => by rw [f1 2 i (fun z => absurd z (by decide))]; exact hT.2 i hi⟩
  have up : ∀ (J : ZI) (k : Nat) (v : Int32), tpC J T → tpC (zup J 3 k v) T := fun J k v hJ => ⟨by rw [zup_n _ (by decide)]; exact hJ.1, fun i hi => by rw [zup_n _ (by decide)]; exact hJ.2 i hi⟩
  have hT2 : tpC (zup I1 3 4 (nI s)) T := up _ _ _ hT1
  have fr2 : ∀ b j, (b = 3 → j ≠ 3 ∧ j ≠ 4 ∧ j ≠ 5 ∧ j ≠ 6) → (zup I1 3 4 (nI s)) b j = I b j := fun b j hb => by
    by_cases z : b = 3
    · rw [zup_k _ (hb z).2.1, f1 b j (fun z => (hb z).2.2.1)]
    · rw [zup_n _ z, f1 b j (fun z => (hb z).2.2.1)]
  have st := e_Rd_step_43 3 I1 R n
  simp only [h.k, h.2.2, zc_t, zr_s, a1, zup_k 3 (show 5 ≠ 4 by decide), zup_n 1 (show 1 ≠ 3 by decide), hT1.1] at st
  rw [e1]
  have g4 : (zup I1 3 4 (nI s)) 3 4 = nI s := zup_s _ _ _ _
  have g5 : (zup I1 3 4 (nI s)) 3 5 = nI s := by rw [zup_k _ (by decide), a1]
  generalize zup I1 3 4 (nI s) = J at st hT2 fr2 g4 g5
  unfold ztok zkd znx
  by_cases q : s < T.1
  · rw [if_pos (nI_lt q (by omega))] at st
    have ea : zat T s = T.2 s := by unfold zat; rw [if_pos q]
    simp only [Tp_hasLetterAt_ok h hT2 hz (show s < 2 ^ 31 by omega), zbI_s, ea] at st
    rw [if_pos q, if_pos q]
    cases hL : zisL (T.2 s) with
    | true =>
      simp only [hL, if_neg (show ¬ zbo true = 0 by decide), h.k, zc_t] at st
      obtain ⟨I2, e2, b2, f2⟩ := Rd_letters_ok h hz (T.1 - s) s (zup J 3 3 1) (Nat.le_refl _) hs (up _ _ _ hT2) (by rw [zup_k _ (by decide), g5])
      rw [e2, zbV_s] at st
      refine ⟨I2, st, ⟨?_, ?_, ?_, ?_⟩, ?_⟩
      · rw [f2 3 3 (by decide), zup_s]; rfl
      · rw [f2 3 4 (by decide), zup_k _ (by decide), g4]
      · exact b2
      · intro z; simp at z
      · intro b j hb
        rw [f2 b j (fun z => (hb z).2.2.1)]
        by_cases z : b = 3
        · rw [zup_k _ (hb z).1, fr2 b j hb]
        · rw [zup_n _ z, fr2 b j hb]
    | false =>
      simp only [hL, if_pos (show zbo false = 0 by decide), h.k, h.2.2, zc_t, zr_s, g5, Tp_hasDigitAt_ok h hT2 hz (show s < 2 ^ 31 by omega), zbI_s, ea] at st
      cases hD : zisD (T.2 s) with
      | true =>
        simp only [hD, if_neg (show ¬ zbo true = 0 by decide), h.k, zc_t, e_Rd_stepOverDigits] at st
        obtain ⟨I2, e2, b2, c2, f2⟩ := Rd_digits_ok h hz (s := s) (T.1 - s) s 0 (zup (zup J 3 3 2) 3 6 0) (Nat.le_refl _) (Nat.le_refl _) hs (up _ _ _ (up _ _ _ hT2)) (by rw [zup_k _ (by decide), zup_k _ (by decide), g4]) (by rw [zup_k _ (by decide), zup_k _ (by decide), g5]) (by rw [zup_s, nI_0])
        rw [e2, zbV_s] at st
        refine ⟨I2, st, ⟨?_, ?_, ?_, ?_⟩, ?_⟩
        · rw [f2 3 3 (by decide), zup_k _ (by decide), zup_s]; rfl
        · rw [f2 3 4 (by decide), zup_k _ (by decide), zup_k _ (by decide), g4]
        · exact b2
        · exact fun _ => c2
        · intro b j hb
          rw [f2 b j (fun z => (hb z).2.2)]
          by_cases z : b = 3
          · rw [zup_k _ (hb z).2.2.2, zup_k _ (hb z).1, fr2 b j hb]
          · rw [zup_n _ z, zup_n _ z, fr2 b j hb]
      | false =>
        simp only [hD, if_pos (show zbo false = 0 by decide), h.k, zc_t, zup_k 3 (show 5 ≠ 3 by decide), g5, nI_1] at st
        refine ⟨_, st, ⟨?_, ?_, ?_, ?_⟩, ?_⟩
        · rw [zup_k _ (by decide), zup_s]; rfl
        · rw [zup_k _ (by decide), zup_k _ (by decide), g4]
        · exact zup_s _ _ _ _
        · intro z; simp at z
        · intro b j hb
          by_cases z : b = 3
          · rw [zup_k _ (hb z).2.2.1, zup_k _ (hb z).1, fr2 b j hb]
          · rw [zup_n _ z, zup_n _ z, fr2 b j hb]
  · rw [if_neg (nI_nlt (by omega) (by omega))] at st
    rw [if_neg q, if_neg q]
    refine ⟨_, st, ⟨?_, ?_, ?_, ?_⟩, ?_⟩
    · rw [zup_s, nI_0]
    · rw [zup_k _ (by decide), g4]
    · rw [zup_k _ (by decide), g5]
    · intro z; omega
    · intro b j hb
      by_cases z : b = 3
      · rw [zup_k _ (hb z).1, fr2 b j hb]
      · rw [zup_n _ z, fr2 b j hb]
end LRd4
/-- a number of at most d digits from lo to hi stands at s -/
def znum (T : Nat × (Nat → Nat)) (s d lo hi : Nat) : Bool := decide (zkd T s = 2) && (decide (znx T s - s ≤ d) && (decide (lo ≤ zvl T s) && decide (zvl T s ≤ hi)))
def zsgn (T : Nat × (Nat → Nat)) (s c : Nat) : Bool := decide (s < T.1) && decide (T.2 s = c)
/-- the letters of a word from its place k on, m of them -/
def zwfl (T : Nat × (Nat → Nat)) (s w : Nat) : Nat → Nat → Bool
  | 0, _ => true
  | m + 1, k => decide (zat T (s + k) = z_ch w k) && zwfl T s w m (k + 1)
def zwrd (T : Nat × (Nat → Nat)) (s w : Nat) : Bool := zwfl T s w (z_ln w) 0 && !(zisL (zat T (s + z_ln w)))
theorem zw_ln : ∀ j, j < 7 → 3 ≤ z_ln (1000 + j) ∧ z_ln (1000 + j) ≤ 5 := by decide +kernel
theorem zw_ch : ∀ j, j < 7 → ∀ k, k < 5 → k < z_ln (1000 + j) → 97 ≤ z_ch (1000 + j) k ∧ z_ch (1000 + j) k ≤ 122 := by decide +kernel
theorem zw_kd : ∀ j, j < 7 → (Nat.ble 1000 (1000 + j) = true ∧ Nat.beq (z_kd (1000 + j)) 25 = true) := by decide +kernel
theorem zis_w (n : Nat) {j : Nat} (hj : j < 7) : zis n (1000 + j) 25 = true := by
  unfold zis
  rw [(zw_kd j hj).1, (zw_kd j hj).2, Bool.or_true]
  rfl
theorem zat_s {T : Nat × (Nat → Nat)} {s : Nat} (q : s < T.1) : zat T s = T.2 s := by unfold zat; rw [if_pos q]
theorem zat_z {T : Nat × (Nat → Nat)} {s : Nat} (q : ¬ s < T.1) : zat T s = 0 := by unfold zat; rw [if_neg q]
theorem zat_in {T : Nat × (Nat → Nat)} {s : Nat} (q : 0 < zat T s) : s < T.1 := by
  by_cases z : s < T.1
  · exact z
  · rw [zat_z z] at q; omega
theorem zkd1 {T : Nat × (Nat → Nat)} {s : Nat} : zkd T s = 1 ↔ (s < T.1 ∧ zisL (T.2 s) = true) := by
  unfold zkd
  by_cases q : s < T.1
  · rw [if_pos q]
    by_cases q1 : zisL (T.2 s) = true
    · rw [if_pos q1]; exact ⟨fun _ => ⟨q, q1⟩, fun _ => rfl⟩
    · rw [if_neg q1]
      by_cases q2 : zisD (T.2 s) = true
      · rw [if_pos q2]; exact ⟨fun z => by omega, fun z => absurd z.2 q1⟩
      · rw [if_neg q2]; exact ⟨fun z => by omega, fun z => absurd z.2 q1⟩
  · rw [if_neg q]; exact ⟨fun z => by omega, fun z => absurd z.1 q⟩
theorem zkd2 {T : Nat × (Nat → Nat)} {s : Nat} : zkd T s = 2 ↔ (s < T.1 ∧ zisD (T.2 s) = true) := by
  unfold zkd
  by_cases q : s < T.1
  · rw [if_pos q]
    by_cases q1 : zisL (T.2 s) = true
    · rw [if_pos q1]
      have := zisL_i q1
      exact ⟨fun z => by omega, fun z => by have := zisD_i z.2; omega⟩
    · rw [if_neg q1]
      by_cases q2 : zisD (T.2 s) = true
      · rw [if_pos q2]; exact ⟨fun _ => ⟨q, q2⟩, fun _ => rfl⟩
      · rw [if_neg q2]; exact ⟨fun z => by omega, fun z => absurd z.2 q2⟩
  · rw [if_neg q]; exact ⟨fun z => by omega, fun z => absurd z.1 q⟩
theorem zkd3 {T : Nat × (Nat → Nat)} {s : Nat} : zkd T s = 3 ↔ (s < T.1 ∧ zisL (T.2 s) = false ∧ zisD (T.2 s) = false) := by
  unfold zkd
  by_cases q : s < T.1
  · rw [if_pos q]
    cases q1 : zisL (T.2 s) with
    | true => simp
    | false =>
      cases q2 : zisD (T.2 s) with
      | true => simp
      | false => simp [q]
  · rw [if_neg q]; exact ⟨fun z => by omega, fun z => absurd z.1 q⟩
theorem zkd0 {T : Nat × (Nat → Nat)} {s : Nat} : zkd T s = 0 ↔ ¬ s < T.1 := by
  unfold zkd
  by_cases q : s < T.1
  · rw [if_pos q]
    cases q1 : zisL (T.2 s) with
    | true => simp [q]
    | false =>
      cases q2 : zisD (T.2 s) with
      | true => simp [q]
      | false => simp [q]
  · rw [if_neg q]; exact ⟨fun _ => q, fun _ => rfl⟩
theorem zwfl_all {T : Nat × (Nat → Nat)} {s w : Nat} : ∀ m k, zwfl T s w m k = true → ∀ i, k ≤ i → i < k + m → zat T (s + i) = z_ch w i
  | 0, k, _, i, h1, h2 => by omega
  | m + 1, k, h, i, h1, h2 => by
    unfold zwfl at h
    rw [Bool.and_eq_true] at h
    by_cases z : i = k
    · rw [z]; exact of_decide_eq_true h.1
    · exact zwfl_all m (k + 1) h.2 i (by omega) (by omega)
theorem zwrd_eq (T : Nat × (Nat → Nat)) {s j : Nat} (hs : s ≤ T.1) (hj : j < 7) : zwrd T s (1000 + j) = (decide (zkd T s = 1) && (decide (znx T s - s = z_ln (1000 + j)) && zwfl T s (1000 + j) (z_ln (1000 + j)) 0)) := by
  have hw := zw_ln j hj
  have hc := zw_ch j hj
  unfold zwrd
  cases hf : zwfl T s (1000 + j) (z_ln (1000 + j)) 0 with
  | false => simp
  | true =>
    have all := zwfl_all _ _ hf
    have lets : ∀ i, i < z_ln (1000 + j) → s + i < T.1 ∧ zisL (T.2 (s + i)) = true := by
      intro i hi
      have e := all i (by omega) (by omega)
      have c := hc i (by omega) hi
      have l : s + i < T.1 := zat_in (by omega)
      rw [zat_s l] at e
      exact ⟨l, zisL_m (by omega) (by omega)⟩
    have k1 : zkd T s = 1 := zkd1.2 (by have := lets 0 (by omega); exact this)
    have kk := zkd1.1 k1
    have hx : znx T s = zrunp zisL T (T.1 - s) s := by unfold znx; rw [if_pos kk.1, if_pos kk.2]
    rw [decide_eq_true k1, Bool.true_and, Bool.true_and, Bool.and_true]
    have lst := lets (z_ln (1000 + j) - 1) (by omega)
    cases hL : zisL (zat T (s + z_ln (1000 + j))) with
    | false =>
      have : zrunp zisL T (T.1 - s) s = s + z_ln (1000 + j) := zrunp_go zisL T (z_ln (1000 + j)) (T.1 - s) s (by omega) lets (fun z => by rw [zat_s z.1, z.2] at hL; cases hL)
      rw [hx, this, decide_eq_true (by omega)]
      rfl
    | true =>
      have l : s + z_ln (1000 + j) < T.1 := zat_in (by have := zisL_i hL; omega)
      rw [zat_s l] at hL
      have := zrunp_end zisL T (T.1 - s) s (Nat.le_refl _)
      have hne : ¬ (znx T s - s = z_ln (1000 + j)) := by
        intro z
        rw [hx] at z
        have e : zrunp zisL T (T.1 - s) s = s + z_ln (1000 + j) := by
          have := (zrunp_le zisL T (T.1 - s) s hs).2
          omega
        rw [e] at this
        exact this ⟨l, hL⟩
      rw [decide_eq_false hne]
      rfl
theorem znx_w {T : Nat × (Nat → Nat)} {s j : Nat} (hs : s ≤ T.1) (hj : j < 7) (h : zwrd T s (1000 + j) = true) : znx T s = s + z_ln (1000 + j) := by
  rw [zwrd_eq T hs hj, Bool.and_eq_true, Bool.and_eq_true] at h
  have := of_decide_eq_true h.2.1
  have := (znx_le T hs).2
  have := zw_ln j hj
  omega
section LRd5
variable {I : ZI} {R : ZR} {n : Nat} {T : Nat × (Nat → Nat)} {s : Nat}
theorem Rd_isNumber_ok (h : WRd R n) (hz : zTp T) (hs : s ≤ T.1) (ht : ztok T I s) {d lo hi : Nat} {x1 x2 x3 : Int32} (e1 : x1 = nI d) (e2 : x2 = nI lo) (e3 : x3 = nI hi) (hd : d < 1000) (hlo : lo < 1000) (hhi : hi < 1000) : Rd_isNumber 3 x1 x2 x3 I R n = some (some (.int (zbo (znum T s d lo hi))), I, R, n) := by
  have hl := hz.1
  have hx := znx_le T hs
  have hv := zvl_lt T s
  have hk := zkd_lt T s
  have t2 : (2 : Int32) = nI 2 := by decide
  rw [e_Rd_isNumber]
  simp only [h.k, zc_t, ht.1, ht.2.1, ht.2.2.1, t2, nI_eq (show zkd T s < 2 ^ 31 by omega) (show 2 < 2 ^ 31 by omega), e1, e2, e3, pk_sub hx.2, nI_ltI (show d < 2 ^ 31 by omega) (show znx T s - s < 2 ^ 31 by omega)]
  unfold znum
  by_cases q : zkd T s = 2
  · rw [if_pos q, decide_eq_true q, Bool.true_and]
    simp only [ht.2.2.2 q, nI_ltI (show zvl T s < 2 ^ 31 by omega) (show lo < 2 ^ 31 by omega), nI_ltI (show hi < 2 ^ 31 by omega) (show zvl T s < 2 ^ 31 by omega)]
    by_cases q1 : d < znx T s - s
    · rw [if_pos q1, decide_eq_false (show ¬ znx T s - s ≤ d by omega)]; rfl
    · rw [if_neg q1, decide_eq_true (show znx T s - s ≤ d by omega), Bool.true_and]
      by_cases q2 : zvl T s < lo
      · rw [if_pos q2, decide_eq_false (show ¬ lo ≤ zvl T s by omega)]; rfl
      · rw [if_neg q2, decide_eq_true (show lo ≤ zvl T s by omega), Bool.true_and]
        by_cases q3 : hi < zvl T s
        · rw [if_pos q3, decide_eq_false (show ¬ zvl T s ≤ hi by omega)]; rfl
        · rw [if_neg q3, decide_eq_true (show zvl T s ≤ hi by omega)]; rfl
  · rw [if_neg q, decide_eq_false q]; rfl
theorem Rd_isSign_ok (h : WRd R n) (hz : zTp T) (hT : tpC I T) (hs : s ≤ T.1) (ht : ztok T I s) {c : Nat} {x : Int32} (ex : x = nI c) (hc : c = 59 ∨ c = 45) : Rd_isSign 3 x I R n = some (some (.int (zbo (zsgn T s c))), I, R, n) := by
  have hl := hz.1
  have hk := zkd_lt T s
  have hb := zat_lt hz s
  have t3 : (3 : Int32) = nI 3 := by decide
  rw [e_Rd_isSign]
  simp only [h.k, h.2.2, zc_t, zr_s, ht.1, ht.2.1, t3, nI_eq (show zkd T s < 2 ^ 31 by omega) (show 3 < 2 ^ 31 by omega), Tp_byteAt_ok h hT hz (show s < 2 ^ 31 by omega), zbI_s, ex, nI_eq (show zat T s < 2 ^ 31 by omega) (show c < 2 ^ 31 by omega)]
  unfold zsgn
  by_cases q : zkd T s = 3
  · have k3 := zkd3.1 q
    rw [if_pos q, zat_s k3.1, decide_eq_true k3.1, Bool.true_and]
    by_cases z : T.2 s = c
    · rw [if_pos z, decide_eq_true z]; rfl
    · rw [if_neg z, decide_eq_false z]; rfl
  · rw [if_neg q]
    by_cases q1 : s < T.1
    · rw [decide_eq_true q1, Bool.true_and, decide_eq_false]
      · rfl
      · intro z
        exact q (zkd3.2 ⟨q1, zisL_f (by omega), zisD_f (by omega)⟩)
    · rw [decide_eq_false q1]; rfl
theorem Rd_isWord28_ok (h : WRd R n) (hT : tpC I T) (hz : zTp T) {j : Nat} (hs : s ≤ T.1) (hj : j < 7) (h4 : I 3 4 = nI s) : ∀ m k, k + m = z_ln (1000 + j) → Rd_isWord_28 3 (1000 + j) (nI k) I R n = some (some (.int (zbo (zwfl T s (1000 + j) m k))), I, R, n) := by
  have hl := hz.1
  have hw := zw_ln j hj
  have eN : ∀ q, Int32.ofNat q = nI q := fun _ => rfl
  intro m
  induction m with
  | zero =>
    intro k e
    rw [e_Rd_isWord_28]
    simp only [zis_w n hj, zc_t, eN]
    rw [if_neg (nI_nlt (show z_ln (1000 + j) ≤ k by omega) (by omega))]
    rfl
  | succ m ih =>
    intro k e
    have hb := zat_lt hz (s + k)
    have hc := zw_ch j hj k (by omega) (by omega)
    have i1 : zin (1000 + j) (nI k) = true := zin_nI (by omega) (by omega)
    rw [e_Rd_isWord_28]
    simp only [zis_w n hj, h.k, h.2.2, zc_t, zr_s, h4, nI_add, Tp_byteAt_ok h hT hz (show s + k < 2 ^ 31 by omega), zbI_s, zix_nI (show k < 2 ^ 31 by omega), i1, Bool.true_and, nI_1, eN, ih (k + 1) (by omega), nI_eq (show zat T (s + k) < 2 ^ 31 by omega) (show z_ch (1000 + j) k < 2 ^ 31 by omega)]
    rw [if_pos (nI_lt (show k < z_ln (1000 + j) by omega) (by omega))]
    rw [show zwfl T s (1000 + j) (m + 1) k = (decide (zat T (s + k) = z_ch (1000 + j) k) && zwfl T s (1000 + j) m (k + 1)) from rfl]
    by_cases z : zat T (s + k) = z_ch (1000 + j) k
    · rw [if_pos z, decide_eq_true z, Bool.true_and]
    · rw [if_neg z, decide_eq_false z]; rfl
theorem Rd_isWord_ok (h : WRd R n) (hT : tpC I T) (hz : zTp T) {j : Nat} (hs : s ≤ T.1) (hj : j < 7) (ht : ztok T I s) : Rd_isWord 3 (1000 + j) I R n = some (some (.int (zbo (zwrd T s (1000 + j)))), I, R, n) := by
  have hl := hz.1
  have hw := zw_ln j hj
  have hx := znx_le T hs
  have hk := zkd_lt T s
  have eN : ∀ q, Int32.ofNat q = nI q := fun _ => rfl
  have t1 : (1 : Int32) = nI 1 := by decide
  have w := Rd_isWord28_ok (R := R) (n := n) h hT hz hs hj ht.2.1 (z_ln (1000 + j)) 0 (by omega)
  rw [nI_0] at w
  rw [e_Rd_isWord, zwrd_eq T hs hj]
  simp only [zis_w n hj, h.k, zc_t, ht.1, ht.2.1, ht.2.2.1, eN, t1, pk_sub hx.2, nI_eq (show zkd T s < 2 ^ 31 by omega) (show 1 < 2 ^ 31 by omega), nI_eq (show znx T s - s < 2 ^ 31 by omega) (show z_ln (1000 + j) < 2 ^ 31 by omega), w]
  by_cases q : zkd T s = 1
  · rw [if_pos q, decide_eq_true q, Bool.true_and]
    by_cases z : znx T s - s = z_ln (1000 + j)
    · rw [if_pos z, decide_eq_true z, Bool.true_and]
    · rw [if_neg z, decide_eq_false z]; rfl
  · rw [if_neg q, decide_eq_false q]; rfl
end LRd5
