/-! ===== seasons: 10, 19, and those of the ring 30 + 9 k; s + 1 bought, s + 2 tales, s + 3 + w their rows ===== -/
theorem zup_s (f : ZI) (a k : Nat) (v : Int32) : zup f a k v a k = v := by unfold zup; rw [if_pos rfl, if_pos rfl]
theorem zup_n {f : ZI} {a k b : Nat} {v : Int32} (j : Nat) (h : b ≠ a) : zup f a k v b j = f b j := by unfold zup; rw [if_neg h]
theorem zup_k {f : ZI} {a k j : Nat} {v : Int32} (b : Nat) (h : j ≠ k) : zup f a k v b j = f b j := by
  unfold zup
  by_cases q : b = a
  · rw [if_pos q, if_neg h]
  · rw [if_neg q]
def isS (s : Nat) : Prop := s = 10 ∨ s = 19 ∨ ∃ k, k < 12 ∧ s = 30 + 9 * k
def zSok (s : Nat) : Bool := Nat.beq (z_kd s) 4 && Nat.beq (z_kd (s + 1)) 20 && Nat.beq (z_kd (s + 2)) 22 && Nat.beq (z_ln (s + 1)) 16 && Nat.beq (z_ln (s + 2)) 6 && Nat.beq (z_kd (s + 3)) 20 && Nat.beq (z_kd (s + 4)) 20 && Nat.beq (z_kd (s + 5)) 20 && Nat.beq (z_kd (s + 6)) 20 && Nat.beq (z_kd (s + 7)) 20 && Nat.beq (z_kd (s + 8)) 20 && Nat.beq (z_ln (s + 3)) 6 && Nat.beq (z_ln (s + 4)) 6 && Nat.beq (z_ln (s + 5)) 6 && Nat.beq (z_ln (s + 6)) 6 && Nat.beq (z_ln (s + 7)) 6 && Nat.beq (z_ln (s + 8)) 6
theorem isS.ok {s : Nat} (h : isS s) : zSok s = true ∧ s + 9 ≤ 138 ∧ 10 ≤ s := by
  rcases h with rfl | rfl | ⟨k, hk, rfl⟩
  · decide
  · decide
  · have : ∀ k, k < 12 → zSok (30 + 9 * k) = true := by decide
    exact ⟨this k hk, by omega, by omega⟩
def WS (R : ZR) (n s : Nat) : Prop := 195 ≤ n ∧ isS s ∧ R s 0 = some (s + 1) ∧ R s 1 = some (s + 2) ∧ ∀ w, w < 6 → R (s + 2) w = some (s + 3 + w)
section LS
variable {I : ZI} {R : ZR} {n s d : Nat}
theorem WS.all (h : WS R n s) : (zis n s 4 = true ∧ zis n (s + 1) 20 = true ∧ zis n (s + 2) 22 = true) ∧ (z_ln (s + 1) = 16 ∧ z_ln (s + 2) = 6) ∧ ∀ w, w < 6 → zis n (s + 3 + w) 20 = true ∧ z_ln (s + 3 + w) = 6 := by
  obtain ⟨hn, hs, -⟩ := h
  obtain ⟨h1, h2, -⟩ := hs.ok
  unfold zSok at h1
  simp only [Bool.and_eq_true, Nat.beq_eq] at h1
  obtain ⟨⟨⟨⟨⟨⟨⟨⟨⟨⟨⟨⟨⟨⟨⟨⟨a0, a1⟩, a2⟩, a3⟩, a4⟩, b0⟩, b1⟩, b2⟩, b3⟩, b4⟩, b5⟩, c0⟩, c1⟩, c2⟩, c3⟩, c4⟩, c5⟩ := h1
  refine ⟨⟨zis_lit (by omega) a0, zis_lit (by omega) a1, zis_lit (by omega) a2⟩, ⟨a3, a4⟩, ?_⟩
  intro w hw
  have hw' : w = 0 ∨ w = 1 ∨ w = 2 ∨ w = 3 ∨ w = 4 ∨ w = 5 := by omega
  rcases hw' with rfl | rfl | rfl | rfl | rfl | rfl
  · exact ⟨zis_lit (by omega) b0, c0⟩
  · exact ⟨zis_lit (by omega) b1, c1⟩
  · exact ⟨zis_lit (by omega) b2, c2⟩
  · exact ⟨zis_lit (by omega) b3, c3⟩
  · exact ⟨zis_lit (by omega) b4, c4⟩
  · exact ⟨zis_lit (by omega) b5, c5⟩
theorem WS.k (h : WS R n s) : zis n s 4 = true ∧ zis n (s + 1) 20 = true ∧ zis n (s + 2) 22 = true := h.all.1
theorem WS.ln (h : WS R n s) : z_ln (s + 1) = 16 ∧ z_ln (s + 2) = 6 := h.all.2.1
theorem WS.rw (h : WS R n s) {w : Nat} (hw : w < 6) : zis n (s + 3 + w) 20 = true ∧ z_ln (s + 3 + w) = 6 := h.all.2.2 w hw
theorem WS.r (h : WS R n s) : R s 0 = some (s + 1) ∧ R s 1 = some (s + 2) := ⟨h.2.2.1, h.2.2.2.1⟩
theorem WS.rr (h : WS R n s) {w : Nat} (hw : w < 6) : R (s + 2) w = some (s + 3 + w) := h.2.2.2.2 w hw
theorem zix16 : zix 0 + zix 16 = 16 ∧ zix 0 + zix 6 = 6 ∧ zix 16 = 16 := by decide +kernel
theorem Se_owns_ok (h : WS R n s) {S j : Nat} (ho : I s 8 = nI S) (hS : S < 2 ^ 31) (hj : j < 16) : Se_owns s (nI j) I R n = some (some (.int (if S.testBit j then 1 else 0)), I, R, n) := by
  have e : (16 : Int32) = nI 16 := by decide
  rw [e_Se_owns, if_neg (nI_pos (by omega)), e, if_pos (nI_lt hj (by omega))]
  simp only [h.k, zc_t, ho, zbit hS (show j < 32 by omega)]
  cases S.testBit j <;> rfl
/-- for any number -/
theorem Se_owns_any (h : WS R n s) {S : Nat} {x : Int32} (ho : I s 8 = nI S) (hS : S < 2 ^ 16) : Se_owns s x I R n = some (some (.int (if zlt x 16 = 1 ∧ S.testBit (zix x) then 1 else 0)), I, R, n) := by
  rcases zlt_cases x (N := 16) (by omega) with q | ⟨j, hj, rfl, q⟩
  · rw [q, if_neg (fun z => absurd z.1 (by decide))]
    unfold zlt at q
    rw [e_Se_owns]
    have e : (16 : Int32) = nI 16 := by decide
    rw [e]
    by_cases h1 : x < 0
    · rw [if_pos h1]
    · rw [if_neg h1] at q ⊢
      by_cases h2 : x < nI 16
      · rw [if_pos h2] at q; exact absurd q (by decide)
      · rw [if_neg h2]
  · rw [Se_owns_ok h ho (by omega) hj, q, zix_nI (by omega)]
    cases S.testBit j <;> simp
theorem Se_brings_ok (h : WS R n s) {i : Nat} (hi : i < 16) (x : Int32) : Se_brings s (nI i) x I R n = some (some (.int (zbrings x (I (s + 1) i))), I, R, n) := by
  have e3 : (!(decide ((2 : Nat) = 0))) = true := by decide
  rw [e_Se_brings]
  simp only [h.k, h.r, e3, zc_t, zr_s, Bool.true_or, Bool.true_and, zin_of h.ln.1 hi (by omega), zix_nI (show i < 2 ^ 31 by omega)]
  unfold zbrings
  by_cases q : I (s + 1) i < x
  · rw [if_pos q, if_pos q]
  · rw [if_neg q, if_neg q]
theorem Se_worth_ok (h : WS R n s) {S r : Nat} (ho : I s 8 = nI S) (hS : S < 2 ^ 31) (hr : zis n r 20 = true) (hl : z_ln r = 16) : Se_worth s r I R n = some (some (.int (I s 3 + zsum S (fun i => zbrings (I r i) (I (s + 1) i)) 16)), I, R, n) := by
  rw [e_Se_worth]
  simp only [h.k, zc_t]
  have e16 : (16 : Int32) = nI 16 := by decide
  have key : ∀ k, k ≤ 16 → Se_worth_7 s r (I s 3) (nI 0) I R n = Se_worth_7 s r (I s 3 + zsum S (fun i => zbrings (I r i) (I (s + 1) i)) k) (nI k) I R n := by
    intro k
    induction k with
    | zero => intro _; show _ = Se_worth_7 s r (I s 3 + 0) _ _ _ _; rw [Int32.add_zero]
    | succ k ih =>
      intro hk
      rw [ih (by omega), e_Se_worth_7, e16, if_pos (nI_lt (show k < 16 by omega) (by omega))]
      simp only [h.k, zc_t, Se_owns_ok h ho hS (show k < 16 by omega), zbI_s, hr, zin_of hl (show k < 16 by omega) (by omega), zix_nI (show k < 2 ^ 31 by omega), Se_brings_ok h (show k < 16 by omega), Bool.true_or, Bool.true_and, nI_1]
      rw [zsum_succ]
      cases hbit : S.testBit k
      · simp
      · simp [Int32.add_assoc]
  rw [nI_0] at key
  rw [key 16 (Nat.le_refl _), e_Se_worth_7, if_neg (by decide)]
theorem zup_cases (f : ZI) (a k : Nat) (v : Int32) (b j : Nat) : zup f a k v b j = if b = a then (if j = k then v else f b j) else f b j := rfl
theorem Se_copy105_ok (hs : WS R n s) (hd : WS R n d) (hsd : s + 9 ≤ d ∨ d + 9 ≤ s) (I1 : ZI) : ∀ k, k ≤ 6 → ∃ I', Se_copy_105 d s (nI 0) I1 R n = Se_copy_105 d s (nI k) I' R n ∧ (∀ w j, w < k → j < 6 → I' (d + 3 + w) j = I1 (s + 3 + w) j) ∧ (∀ b j, (b < d + 3 ∨ d + 3 + k ≤ b) → I' b j = I1 b j) := by
  intro k
  induction k with
  | zero => intro _; exact ⟨I1, rfl, fun w j hw => by omega, fun _ _ _ => rfl⟩
  | succ k ih =>
    intro hk
    obtain ⟨I', e, h1, h2⟩ := ih (by omega)
    have hk6 : k < 6 := by omega
    have e6 : (6 : Int32) = nI 6 := by decide
    have g1 : (!(decide ((0 : Nat) < 0))) = true := by decide
    have g2 : (!(decide ((6 : Nat) < 0))) = true := by decide
    have g3 : Nat.ble 6 6 = true := rfl
    have g4 : Nat.beq (s + 3 + k) (d + 3 + k) = false := by
      cases q : Nat.beq (s + 3 + k) (d + 3 + k) with
      | false => rfl
      | true => have := Nat.eq_of_beq_eq_true q; omega
    refine ⟨zcp I' (s + 3 + k) 0 (d + 3 + k) 0 6, ?_, ?_, ?_⟩
    · rw [e, e_Se_copy_105, if_pos (by rw [e6]; exact nI_lt hk6 (by omega))]
      simp only [hs.k, hd.k, hs.r, hd.r, hs.rr hk6, hd.rr hk6, zc_t, zr_s, zin_of hs.ln.2 hk6 (by omega), zin_of hd.ln.2 hk6 (by omega), zix_nI (show k < 2 ^ 31 by omega), (hs.rw hk6).1, (hd.rw hk6).1, (hs.rw hk6).2, (hd.rw hk6).2, g1, g2, g3, g4, Bool.true_or, Bool.true_and, Bool.not_false, zix16, zixs, nI_1]
    · intro w j hw hj
      unfold zcp
      by_cases q : w = k
      · subst q
        rw [if_pos rfl, if_pos ⟨by omega, by omega⟩, Nat.zero_add, Nat.sub_zero]
        exact h2 _ _ (by omega)
      · rw [if_neg (by omega)]
        exact h1 w j (by omega) hj
    · intro b j hb
      unfold zcp
      rw [if_neg (by omega)]
      exact h2 b j (by omega)
theorem Se_copy_ok (hs : WS R n s) (hd : WS R n d) (hsd : s + 9 ≤ d ∨ d + 9 ≤ s) (hb : zbool (I s 2) = true) : ∃ I', Se_copy d s I R n = some (none, I', R, n) ∧ (∀ j, 2 ≤ j → j ≤ 12 → I' d j = I s j) ∧ (∀ j, j < 16 → I' (d + 1) j = I (s + 1) j) ∧ (∀ w j, w < 6 → j < 6 → I' (d + 3 + w) j = I (s + 3 + w) j) ∧ (∀ b j, (b < d ∨ d + 9 ≤ b) → I' b j = I b j) := by
  have hne : s ≠ d := by omega
  have g1 : (!(decide ((0 : Nat) < 0))) = true := by decide
  have g2 : (!(decide ((16 : Nat) < 0))) = true := by decide
  have g3 : Nat.ble 16 16 = true := rfl
  have g4 : Nat.beq (s + 1) (d + 1) = false := by
    cases q : Nat.beq (s + 1) (d + 1) with
    | false => rfl
    | true => have := Nat.eq_of_beq_eq_true q; omega
  rw [e_Se_copy]
  simp only [hs.k, hd.k, zc_t, hb]
  rw [e_Se_copy_32]
  simp only [hs.k, hd.k, zc_t]
  rw [e_Se_copy_64]
  simp only [hs.k, hd.k, hs.r, hd.r, hs.ln, hd.ln, zc_t, zr_s, g1, g2, g3, g4, zix16, zixs, Bool.true_and, Bool.not_false]
  rw [e_Se_copy_103]
  simp only [zup_n _ hne]
  generalize hJ : zcp _ (s + 1) 0 (d + 1) 0 16 = J
  have hJ' : ∀ b j, J b j = if b = d + 1 then (if j < 16 then I (s + 1) j else I b j) else if b = d ∧ 2 ≤ j ∧ j ≤ 12 then I s j else I b j := by
    intro b j
    rw [← hJ]
    unfold zcp
    by_cases q : b = d + 1
    · rw [if_pos q, if_pos q]
      by_cases q2 : j < 16
      · rw [if_pos ⟨by omega, by omega⟩, if_pos q2, Nat.zero_add, Nat.sub_zero]
        simp only [zup_n _ (show s + 1 ≠ d by omega)]
      · rw [if_neg (fun z => q2 (by omega)), if_neg q2]
        simp only [zup_n _ (show b ≠ d by omega)]
    · rw [if_neg q, if_neg q]
      by_cases q2 : b = d
      · subst q2
        by_cases q3 : 2 ≤ j ∧ j ≤ 12
        · rw [if_pos ⟨rfl, q3⟩]
          have q4 : j = 2 ∨ j = 3 ∨ j = 4 ∨ j = 5 ∨ j = 6 ∨ j = 7 ∨ j = 8 ∨ j = 9 ∨ j = 10 ∨ j = 11 ∨ j = 12 := by omega
          rcases q4 with rfl | rfl | rfl | rfl | rfl | rfl | rfl | rfl | rfl | rfl | rfl <;> simp [zup_cases]
        · rw [if_neg (fun z => q3 z.2)]
          simp only [zup_k _ (show j ≠ 2 by omega), zup_k _ (show j ≠ 3 by omega), zup_k _ (show j ≠ 4 by omega), zup_k _ (show j ≠ 5 by omega), zup_k _ (show j ≠ 6 by omega), zup_k _ (show j ≠ 7 by omega), zup_k _ (show j ≠ 8 by omega), zup_k _ (show j ≠ 9 by omega), zup_k _ (show j ≠ 10 by omega), zup_k _ (show j ≠ 11 by omega), zup_k _ (show j ≠ 12 by omega)]
      · rw [if_neg (fun z => q2 z.1)]
        simp only [zup_n _ q2]
  obtain ⟨I', e, h1, h2⟩ := Se_copy105_ok hs hd hsd J 6 (Nat.le_refl _)
  rw [nI_0] at e
  refine ⟨I', ?_, ?_, ?_, ?_, ?_⟩
  · rw [e, e_Se_copy_105, if_neg (by decide)]
  · intro j hj hj2
    rw [h2 d j (by omega), hJ', if_neg (by omega), if_pos ⟨rfl, hj, hj2⟩]
  · intro j hj
    rw [h2 (d + 1) j (by omega), hJ', if_pos rfl, if_pos hj]
  · intro w j hw hj
    rw [h1 w j hw hj, hJ', if_neg (by omega), if_neg (by omega)]
  · intro b j hb
    rw [h2 b j (by omega), hJ', if_neg (by omega), if_neg (by omega)]
end LS
