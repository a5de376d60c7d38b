/-! ===== seasons: what acts do ===== -/
section LS2
variable {I : ZI} {R : ZR} {n s d : Nat}
theorem Se_clear_ok (h : WS R n s) : ∃ I', Se_clear s I R n = some (none, I', R, n) ∧ I' s 2 = 0 ∧ I' s 3 = 0 ∧ I' s 4 = 0 ∧ I' s 5 = 0 ∧ I' s 6 = 0 ∧ I' s 7 = -1 ∧ I' s 8 = 0 ∧ I' s 9 = 0 ∧ I' s 10 = -1 ∧ I' s 11 = 0 ∧ I' s 12 = 0 ∧ ∀ b j, b ≠ s → I' b j = I b j := by
  rw [e_Se_clear]
  simp only [h.k, zc_t]
  rw [e_Se_clear_20]
  simp only [h.k, zc_t]
  rw [e_Se_clear_40]
  simp only [h.k, zc_t]
  refine ⟨_, rfl, ?_, ?_, ?_, ?_, ?_, ?_, ?_, ?_, ?_, ?_, ?_, ?_⟩
  any_goals simp [zup_cases]
  intro b j hb
  simp [hb]
theorem zsubm1 (x : Int32) : x + (-1) = x - 1 := by
  rw [Int32.sub_eq_add_neg]
theorem Se_open43_ok (h : WS R n s) {L : Nat} (hL : WL R n L) {S P : Nat} (hS : S < 2 ^ 16) (hP : P ≤ 16) (row : Nat → Int32) : ∀ k, k ≤ P → ∀ J : ZI, (∀ i, J (L + 15) i = row i) → J s 8 = nI S → J s 7 = zo (zfirst (fun i => S.testBit i) k (P - k)) → (∀ i, k ≤ i → i < P → S.testBit i = true → J (s + 1) i = row i) → ∃ I', Se_open_43 s L (nI k - 1) J R n = some (none, I', R, n) ∧ I' s 7 = zo (zfirst (fun i => S.testBit i) 0 P) ∧ (∀ i, i < P → S.testBit i = true → I' (s + 1) i = row i) ∧ (∀ j, j ≠ 7 → I' s j = J s j) ∧ ∀ b j, b ≠ s → b ≠ s + 1 → I' b j = J b j := by
  have hsL : s + 9 ≤ L := by
    have h1 := h.2.1.ok.2.1
    rcases hL.2.1 with rfl | rfl <;> omega
  intro k
  induction k with
  | zero =>
    intro _ J h1 h2 h3 h4
    refine ⟨J, ?_, h3, fun i hi hb => h4 i (by omega) hi hb, fun _ _ => rfl, fun _ _ _ _ => rfl⟩
    rw [e_Se_open_43, if_pos (by decide)]
  | succ k ih =>
    intro hk J h1 h2 h3 h4
    have hPk : P - k = (P - (k + 1)) + 1 := by omega
    rw [nI_pred, e_Se_open_43, if_neg (nI_pos (by omega))]
    simp only [h.k, hL.k, zc_t, Se_owns_ok h h2 (show S < 2 ^ 31 by omega) (show k < 16 by omega), zbI_s]
    cases hb : S.testBit k with
    | false =>
      rw [if_pos (show (if false = true then (1 : Int32) else 0) = 0 from rfl), zsubm1]
      refine ih (by omega) J h1 h2 ?_ (fun i hi hiP hbi => ?_)
      · rw [h3, hPk]
        show _ = zo (bif S.testBit k then _ else _)
        rw [hb]; rfl
      · by_cases q : i = k
        · rw [q, hb] at hbi; cases hbi
        · exact h4 i (by omega) hiP hbi
    | true =>
      rw [if_neg (show ¬ (if true = true then (1 : Int32) else 0) = 0 by decide), zsubm1]
      have g15 : R (L + 14) 0 = some (L + 15) := hL.2.2.2.2 0 (by omega)
      have gin : zin (L + 14) 0 = true := by have := zin_of hL.ln.2.2.2.2.2.2.2 (show 0 < 7 by omega) (by omega); rwa [nI_0] at this
      have gp := hL.pw (show 0 < 7 by omega)
      rw [Nat.add_zero] at gp
      simp only [h.k, h.r, hL.r, zr_s, hL.k, zc_t, zixs, g15, gin, gp, Bool.true_or, Bool.true_and, zin_of gp.2 (show k < 16 by omega) (by omega), zin_of h.ln.1 (show k < 16 by omega) (by omega), zix_nI (show k < 2 ^ 31 by omega)]
      obtain ⟨I', e, a1, a2, a3, a4⟩ := ih (by omega) (zup (zup J (s + 1) k (J (L + 15) k)) s 7 (nI k)) (fun i => by rw [zup_n _ (by omega), zup_n _ (by omega)]; exact h1 i) (by rw [zup_k _ (by omega), zup_n _ (by omega)]; exact h2) (by
        rw [zup_s, hPk]
        show _ = zo (bif S.testBit k then _ else _)
        rw [hb]; rfl) (fun i hi hiP hbi => by
        rw [zup_n _ (by omega)]
        by_cases q : i = k
        · rw [q, zup_s]; exact h1 k
        · rw [zup_k _ q]; exact h4 i (by omega) hiP hbi)
      refine ⟨I', e, a1, a2, ?_, ?_⟩
      · intro j hj
        rw [a3 j hj, zup_k _ hj, zup_n _ (by omega)]
      · intro b j hb1 hb2
        rw [a4 b j hb1 hb2, zup_n _ hb1, zup_n _ hb2]
theorem Se_open_ok (h : WS R n s) {L : Nat} (hL : WL R n L) {S P : Nat} (hS : S < 2 ^ 16) (hP : P ≤ 16) (hp : I L 8 = nI P) : ∃ I', Se_open s (nI S) L I R n = some (none, I', R, n) ∧ (I' s 2 = 1 ∧ I' s 3 = I (L + 2) 0 - zsum S (I (L + 15)) P ∧ I' s 4 = 0 ∧ I' s 5 = 1 ∧ I' s 6 = 0 ∧ I' s 7 = zo (zfirst (fun i => S.testBit i) 0 P) ∧ I' s 8 = nI S ∧ I' s 9 = 0 ∧ I' s 10 = -1 ∧ I' s 11 = 0 ∧ I' s 12 = 0) ∧ (∀ i, i < P → S.testBit i = true → I' (s + 1) i = I (L + 15) i) ∧ ∀ b j, b ≠ s → b ≠ s + 1 → I' b j = I b j := by
  have hsL : s + 9 ≤ L := by
    have h1 := h.2.1.ok.2.1
    rcases hL.2.1 with rfl | rfl <;> omega
  obtain ⟨J, e, c2, c3, c4, c5, c6, c7, c8, c9, c10, c11, c12, cf⟩ := Se_clear_ok (I := I) h
  rw [e_Se_open]
  have q1 : (zup (zup (zup J s 2 1) s 8 (nI S)) s 5 1) L 8 = nI P := by
    rw [zup_n _ (by omega), zup_n _ (by omega), zup_n _ (by omega), cf _ _ (by omega), hp]
  have q2 := Lg_priceOf_ok hL (I := zup (zup (zup J s 2 1) s 8 (nI S)) s 5 1) (w := 0) (show S < 2 ^ 31 by omega) hP q1 (by omega)
  rw [nI_0, Nat.add_zero] at q2
  simp only [h.k, hL.k, hL.r, hL.zrules, zixs, zc_t, zr_s, e, zbV_s, q2, zbI_s, Bool.true_or, Bool.true_and]
  have q3 : zsum S ((zup (zup (zup J s 2 1) s 8 (nI S)) s 5 1) (L + 15)) P = zsum S (I (L + 15)) P := zsum_congr (fun i _ _ => by rw [zup_n _ (by omega), zup_n _ (by omega), zup_n _ (by omega), cf _ _ (by omega)])
  have q4 : (zup (zup (zup J s 2 1) s 8 (nI S)) s 5 1) (L + 2) 0 = I (L + 2) 0 := by
    rw [zup_n _ (by omega), zup_n _ (by omega), zup_n _ (by omega), cf _ _ (by omega)]
  rw [q3, q4]
  generalize hK : zup (zup (zup (zup J s 2 1) s 8 (nI S)) s 5 1) s 3 (I (L + 2) 0 - zsum S (I (L + 15)) P) = K
  have hKn : ∀ b j, b ≠ s → K b j = I b j := fun b j hb => by
    rw [← hK, zup_n _ hb, zup_n _ hb, zup_n _ hb, zup_n _ hb, cf _ _ hb]
  have hKs : K s 2 = 1 ∧ K s 3 = I (L + 2) 0 - zsum S (I (L + 15)) P ∧ K s 4 = 0 ∧ K s 5 = 1 ∧ K s 6 = 0 ∧ K s 7 = -1 ∧ K s 8 = nI S ∧ K s 9 = 0 ∧ K s 10 = -1 ∧ K s 11 = 0 ∧ K s 12 = 0 := by
    rw [← hK]
    simp [zup_cases, c4, c6, c7, c9, c10, c11, c12]
  obtain ⟨k2, k3, k4, k5, k6, k7, k8, k9, k10, k11, k12⟩ := hKs
  have e8 : K L 8 = nI P := by rw [hKn _ _ (by omega), hp]
  rw [e8]
  have e15 : ∀ i, K (L + 15) i = I (L + 15) i := fun i => hKn _ _ (by omega)
  obtain ⟨I', e', a1, a2, a3, a4⟩ := Se_open43_ok h hL hS hP (I (L + 15)) P (Nat.le_refl _) K e15 k8 (by rw [Nat.sub_self, k7]; rfl) (fun i h1 h2 => by omega)
  refine ⟨I', e', ⟨?_, ?_, ?_, ?_, ?_, a1, ?_, ?_, ?_, ?_, ?_⟩, a2, ?_⟩
  · rw [a3 _ (by omega), k2]
  · rw [a3 _ (by omega), k3]
  · rw [a3 _ (by omega), k4]
  · rw [a3 _ (by omega), k5]
  · rw [a3 _ (by omega), k6]
  · rw [a3 _ (by omega), k8]
  · rw [a3 _ (by omega), k9]
  · rw [a3 _ (by omega), k10]
  · rw [a3 _ (by omega), k11]
  · rw [a3 _ (by omega), k12]
  · intro b j h1 h2
    rw [a4 b j h1 h2, hKn _ _ h1]
/-- one out, one in -/
def zswp (S a b : Nat) : Nat := S ^^^ 2 ^ a ^^^ 2 ^ b
theorem zswp_I {S a b : Nat} (ha : a < 31) (hb : b < 31) : nI S ^^^ (((1 : Int32) <<< (nI a &&& 31)) ^^^ ((1 : Int32) <<< (nI b &&& 31))) = nI (zswp S a b) := by
  rw [zshl1 a ha, zshl1 b hb, zxorN, zxorN, ← Nat.xor_assoc]
  rfl
theorem zswp_I2 {S a b : Nat} (ha : a < 31) (hb : b < 31) : nI S ^^^ ((1 : Int32) <<< (nI a &&& 31)) ^^^ ((1 : Int32) <<< (nI b &&& 31)) = nI (zswp S a b) := by
  rw [zshl1 a ha, zshl1 b hb, zxorN, zxorN]
  rfl
theorem zswp_bit (S a b i : Nat) : (zswp S a b).testBit i = (S.testBit i ^^ decide (i = a) ^^ decide (i = b)) := by
  unfold zswp
  rw [Nat.testBit_xor, Nat.testBit_xor, Nat.testBit_two_pow, Nat.testBit_two_pow]
  have e1 : decide (a = i) = decide (i = a) := decide_eq_decide.mpr ⟨Eq.symm, Eq.symm⟩
  have e2 : decide (b = i) = decide (i = b) := decide_eq_decide.mpr ⟨Eq.symm, Eq.symm⟩
  rw [e1, e2]
theorem zswp_lt {S a b P : Nat} (hS : S < 2 ^ P) (ha : a < P) (hb : b < P) : zswp S a b < 2 ^ P :=
  Nat.xor_lt_two_pow (Nat.xor_lt_two_pow hS (Nat.pow_lt_pow_right (by omega) ha)) (Nat.pow_lt_pow_right (by omega) hb)
theorem Se_exchange_ok (h : WS R n s) {S a b r : Nat} (ho : I s 8 = nI S) (ha : a < 16) (hb : b < 16) (hr : zis n r 20 = true) (hl : z_ln r = 16) (hrs : s + 9 ≤ r) : ∃ I', Se_exchange s (nI a) (nI b) r I R n = some (none, I', R, n) ∧ (I' s 3 = I s 3 + (zbrings (I r a) (I (s + 1) a) - I r b) ∧ I' s 8 = nI (zswp S a b) ∧ I' s 6 = I s 6 + 1 ∧ I' s 7 = (if I s 7 = nI a then nI b else I s 7)) ∧ I' (s + 1) b = I r b ∧ (∀ j, j ≠ b → I' (s + 1) j = I (s + 1) j) ∧ (∀ j, j ≠ 3 → j ≠ 6 → j ≠ 7 → j ≠ 8 → I' s j = I s j) ∧ ∀ c j, c ≠ s → c ≠ s + 1 → I' c j = I c j := by
  rw [e_Se_exchange]
  simp only [h.k, h.r, hr, zc_t, zr_s, Bool.true_or, Bool.true_and, zin_of hl ha (by omega), zin_of hl hb (by omega), zin_of h.ln.1 hb (by omega), zix_nI (show a < 2 ^ 31 by omega), zix_nI (show b < 2 ^ 31 by omega), Se_brings_ok h ha, zbI_s, zup_n _ (show r ≠ s by omega)]
  generalize hM : I s 3 + (zbrings (I r a) (I (s + 1) a) - I r b) = M
  have e8 : zup I s 3 M s 8 = nI S := by rw [zup_k _ (by omega), ho]
  rw [e8, zswp_I (by omega) (by omega)]
  have e6 : zup (zup (zup I s 3 M) s 8 (nI (zswp S a b))) (s + 1) b (I r b) s 6 = I s 6 := by
    rw [zup_n _ (by omega), zup_k _ (by omega), zup_k _ (by omega)]
  rw [e6, e_Se_exchange_56]
  have e7 : zup (zup (zup (zup I s 3 M) s 8 (nI (zswp S a b))) (s + 1) b (I r b)) s 6 (I s 6 + 1) s 7 = I s 7 := by
    rw [zup_k _ (by omega), zup_n _ (by omega), zup_k _ (by omega), zup_k _ (by omega)]
  simp only [h.k, zc_t, e7]
  by_cases q : I s 7 = nI a
  · rw [if_pos q, if_pos q]
    refine ⟨_, rfl, ⟨?_, ?_, ?_, ?_⟩, ?_, ?_, ?_, ?_⟩
    · simp [zup_cases]
    · simp [zup_cases]
    · simp [zup_cases]
    · simp [zup_cases]
    · simp [zup_cases]
    · intro j hj; simp [zup_cases, hj]
    · intro j h3 h6 h7 h8; simp [zup_cases, h3, h6, h7, h8]
    · intro c j h1 h2; simp [zup_cases, h1, h2]
  · rw [if_neg q, if_neg q]
    refine ⟨_, rfl, ⟨?_, ?_, ?_, ?_⟩, ?_, ?_, ?_, ?_⟩
    · simp [zup_cases]
    · simp [zup_cases]
    · simp [zup_cases]
    · simp [zup_cases]
    · simp [zup_cases]
    · intro j hj; simp [zup_cases, hj]
    · intro j h3 h6 h7 h8; simp [zup_cases, h3, h6, h7, h8]
    · intro c j h1 h2; simp [zup_cases, h1, h2]
theorem Se_chipIsFree_ok (h : WS R n s) {c j : Nat} (hc : I s 9 = nI c) (hc8 : c < 8) (hj : j < 32) : Se_chipIsFree s (nI j) I R n = some (some (.int (if I s 10 = -1 ∧ c.testBit j = false then 1 else 0)), I, R, n) := by
  rw [e_Se_chipIsFree]
  simp only [h.k, zc_t, hc, zbit (show c < 2 ^ 31 by omega) hj]
  by_cases q : I s 10 = -1
  · rw [if_pos q]
    cases hb : c.testBit j
    · rw [if_pos (show (if false = true then (1 : Int32) else 0) = 0 from rfl), if_pos (show I s 10 = -1 ∧ false = false from ⟨q, rfl⟩)]
    · rw [if_neg (show ¬ (if true = true then (1 : Int32) else 0) = 0 by decide), if_neg (show ¬ (I s 10 = -1 ∧ true = false) from fun z => by cases z.2)]
  · rw [if_neg q, if_neg (fun z => q z.1)]
theorem Se_play_ok (h : WS R n s) (x : Int32) : Se_play s x I R n = some (none, zup (zup I s 9 ((I s 9) ||| ((1 : Int32) <<< (x &&& 31)))) s 10 x, R, n) := by
  rw [e_Se_play]
  simp only [h.k, zc_t]
def zuse (chip swaps : Int32) : Int32 := if chip = 1 then 0 else if chip = 2 then 0 else swaps
theorem Se_swapsOfFree_ok (h : WS R n s) : Se_swapsOfFree s I R n = some (some (.int (zuse (I s 10) (I s 6))), I, R, n) := by
  rw [e_Se_swapsOfFree]
  simp only [h.k, zc_t]
  unfold zuse
  by_cases q : I s 10 = 1
  · rw [if_pos q, if_pos q]
  · rw [if_neg q, if_neg q]
    by_cases q2 : I s 10 = 2
    · rw [if_pos q2, if_pos q2]
    · rw [if_neg q2, if_neg q2]
theorem Se_swapsPaid_ok (h : WS R n s) : Se_swapsPaid s I R n = some (some (.int (zmax 0 (zuse (I s 10) (I s 6) - I s 5))), I, R, n) := by
  rw [e_Se_swapsPaid]
  simp only [h.k, zc_t, Se_swapsOfFree_ok h, zbI_s]
end LS2
