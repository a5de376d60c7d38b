/-! ===== prices to come; the table's rows ===== -/
/-- the price ahead of week w, class -/
def cFore (I : ZI) (L i : Nat) : Nat → Int32
  | 0 => I (L + 15) i
  | w + 1 => zmoved (cFore I L i w) (I (L + 8 + w) i) (I (L + 2) 4) (I (L + 2) 5)
theorem cFore_rng {I : ZI} {L i : Nat} (h : ∃ p, 1 ≤ p ∧ p < 100 ∧ I (L + 15) i = nI p) : ∀ w, ∃ p, 1 ≤ p ∧ p < 100 ∧ cFore I L i w = nI p
  | 0 => h
  | w + 1 => by
    obtain ⟨p, h1, h2, e⟩ := cFore_rng h w
    obtain ⟨q, a, b, c⟩ := zmoved_rng h1 h2 (I (L + 8 + w) i) (I (L + 2) 4) (I (L + 2) 5)
    exact ⟨q, a, b, by show zmoved (cFore I L i w) _ _ _ = _; rw [e, c]⟩
section LC2
variable {I : ZI} {R : ZR} {n L : Nat}
theorem Lg_complete80_ok (h : WL R n L) {J : ZI} {P w : Nat} (hP : P ≤ 16) (hw : w < 6) (hp : J L 8 = nI P) (hr : ∀ i, i < P → ∃ p, 1 ≤ p ∧ p < 100 ∧ J (L + 15 + w) i = nI p) : ∃ K, Lg_complete_80 L (nI w) 0 J R n = Lg_complete_68 L (nI (w + 1)) K R n ∧ (∀ i, i < P → K (L + 15 + (w + 1)) i = zmoved (J (L + 15 + w) i) (J (L + 8 + w) i) (J (L + 2) 4) (J (L + 2) 5)) ∧ ∀ b j, b ≠ L + 15 + (w + 1) → K b j = J b j := by
  have hw7 : w < 7 := by omega
  have hw8 : w + 1 < 7 := by omega
  have key : ∀ k, k ≤ P → ∃ K, Lg_complete_80 L (nI w) (nI 0) J R n = Lg_complete_80 L (nI w) (nI k) K R n ∧ (∀ i, i < k → K (L + 15 + (w + 1)) i = zmoved (J (L + 15 + w) i) (J (L + 8 + w) i) (J (L + 2) 4) (J (L + 2) 5)) ∧ ∀ b j, b ≠ L + 15 + (w + 1) → K b j = J b j := by
    intro k
    induction k with
    | zero => intro _; exact ⟨J, rfl, fun i hi => by omega, fun _ _ _ => rfl⟩
    | succ k ih =>
      intro hk
      obtain ⟨K, e, a1, a2⟩ := ih (by omega)
      obtain ⟨p, p1, p2, p3⟩ := hr k (by omega)
      have k8 : K L 8 = nI P := by rw [a2 _ _ (by omega), hp]
      have kp : K (L + 15 + w) k = nI p := by rw [a2 _ _ (by omega), p3]
      have kq : K (L + 8 + w) k = J (L + 8 + w) k := a2 _ _ (by omega)
      have mv := Lg_moved_ok h (I := K) p1 p2 (J (L + 8 + w) k)
      rw [a2 (L + 2) 4 (by omega), a2 (L + 2) 5 (by omega), ← p3] at mv
      have st := e_Lg_complete_80 L (nI w) (nI k) K R n
      simp only [h.k, h.r, zc_t, zr_s, k8, if_pos (nI_lt (show k < P by omega) (show P < 2 ^ 31 by omega)), nI_1, zin_of h.ln.2.2.2.2.2.2.2 hw7 (by omega), zin_of h.ln.2.2.2.2.2.2.2 hw8 (by omega), zin_of h.ln.2.2.2.2.2.2.1 hw (by omega), zix_nI (show w < 2 ^ 31 by omega), zix_nI (show w + 1 < 2 ^ 31 by omega), h.2.2.2.2 w hw7, h.2.2.2.2 (w + 1) hw8, h.2.2.2.1 w hw, (h.pw hw7).1, (h.pw hw8).1, (h.rw hw).1, zin_of (h.pw hw7).2 (show k < 16 by omega) (by omega), zin_of (h.pw hw8).2 (show k < 16 by omega) (by omega), zin_of (h.rw hw).2 (show k < 16 by omega) (by omega), zix_nI (show k < 2 ^ 31 by omega), Bool.true_or, Bool.true_and, kp, kq] at st
      rw [← p3, mv] at st
      simp only [zbI_s, (h.pw hw8).1, Bool.true_and, zc_t] at st
      refine ⟨_, e.trans st, ?_, ?_⟩
      · intro i hi
        by_cases q : i = k
        · rw [q, zup_s]
        · rw [zup_k _ q]; exact a1 i (by omega)
      · intro b j hb
        rw [zup_n _ hb]; exact a2 b j hb
  obtain ⟨K, e, a1, a2⟩ := key P (Nat.le_refl _)
  rw [nI_0] at e
  refine ⟨K, ?_, a1, a2⟩
  rw [e, e_Lg_complete_80]
  simp only [h.k, zc_t, a2 L 8 (by omega), hp, nI_1]
  rw [if_neg (nI_nlt (Nat.le_refl _) (by omega))]
theorem Lg_complete68_ok (h : WL R n L) {P Wk : Nat} (hP : P ≤ 16) (hp : I L 8 = nI P) (hW : I (L + 2) 2 = nI Wk) (hWk : Wk ≤ 6) (hr : ∀ i, i < P → ∃ p, 1 ≤ p ∧ p < 100 ∧ I (L + 15) i = nI p) : ∃ K, Lg_complete_68 L 0 I R n = some (none, K, R, n) ∧ (∀ w i, w ≤ Wk → i < P → K (L + 15 + w) i = cFore I L i w) ∧ ∀ b j, (b < L + 16 ∨ L + 22 ≤ b) → K b j = I b j := by
  have key : ∀ w, w ≤ Wk → ∃ K, Lg_complete_68 L (nI 0) I R n = Lg_complete_68 L (nI w) K R n ∧ (∀ v i, v ≤ w → i < P → K (L + 15 + v) i = cFore I L i v) ∧ ∀ b j, (b < L + 16 ∨ L + 22 ≤ b) → K b j = I b j := by
    intro w
    induction w with
    | zero =>
      intro _
      refine ⟨I, rfl, ?_, fun _ _ _ => rfl⟩
      intro v i hv hi
      have : v = 0 := by omega
      subst this; rfl
    | succ w ih =>
      intro hw
      obtain ⟨K, e, a1, a2⟩ := ih (by omega)
      have kp : K L 8 = nI P := by rw [a2 _ _ (by omega), hp]
      have kW : K (L + 2) 2 = nI Wk := by rw [a2 _ _ (by omega), hW]
      obtain ⟨M, f, b1, b2⟩ := Lg_complete80_ok h (J := K) hP (show w < 6 by omega) kp (fun i hi => by
        rw [a1 w i (Nat.le_refl _) hi]; exact cFore_rng (hr i hi) w)
      have st := e_Lg_complete_68 L (nI w) K R n
      simp only [h.k, h.r, h.zrules, zixs, zc_t, zr_s, kW, Bool.true_or, Bool.true_and, if_pos (nI_lt (show w < Wk by omega) (show Wk < 2 ^ 31 by omega))] at st
      refine ⟨M, e.trans (st.trans f), ?_, ?_⟩
      · intro v i hv hi
        by_cases q : v = w + 1
        · rw [q, b1 i hi, a1 w i (Nat.le_refl _) hi, a2 (L + 8 + w) i (by omega), a2 (L + 2) 4 (by omega), a2 (L + 2) 5 (by omega)]; rfl
        · rw [b2 _ _ (by omega)]; exact a1 v i (by omega) hi
      · intro b j hb
        rw [b2 _ _ (by omega)]; exact a2 b j hb
  obtain ⟨K, e, a1, a2⟩ := key Wk (Nat.le_refl _)
  rw [nI_0] at e
  refine ⟨K, ?_, a1, a2⟩
  have st := e_Lg_complete_68 L (nI Wk) K R n
  simp only [h.k, h.r, h.zrules, zixs, zc_t, zr_s, a2 (L + 2) 2 (by omega), hW, Bool.true_or, Bool.true_and] at st
  rw [if_neg (nI_nlt (Nat.le_refl _) (by omega))] at st
  exact e.trans st
theorem Lg_complete_ok (h : WL R n L) {P Wk : Nat} (hP : P ≤ 16) {pl cl : Nat → Nat} (hpl : ∀ i, i < P → I (L + 3) i = nI (pl i) ∧ pl i < 4) (hcl : ∀ i, i < P → I (L + 4) i = nI (cl i) ∧ cl i < 6) (hp : I L 8 = nI P) (hW : I (L + 2) 2 = nI Wk) (hWk : Wk ≤ 6) (hr : ∀ i, i < P → ∃ p, 1 ≤ p ∧ p < 100 ∧ I (L + 15) i = nI p) : ∃ K, Lg_complete L I R n = some (none, K, R, n) ∧ zSets K (L + 5) (K (L + 3)) 4 P ∧ zSets K (L + 6) (K (L + 4)) 6 P ∧ (∀ w i, w ≤ Wk → i < P → K (L + 15 + w) i = cFore I L i w) ∧ ∀ b j, b ≠ L + 5 → b ≠ L + 6 → (b < L + 16 ∨ L + 22 ≤ b) → K b j = I b j := by
  obtain ⟨J1, e1, f1, g1⟩ := J_fill_ok (I := I) (R := R) h.k.2.2.2.2.2.1 h.ln.2.2.2.2.1 (by omega) 0
  obtain ⟨J2, e2, f2, g2⟩ := J_fill_ok (I := J1) (R := R) h.k.2.2.2.2.2.2.1 h.ln.2.2.2.2.2.1 (by omega) 0
  have s3 : J2 (L + 3) = I (L + 3) := funext fun j => by rw [g2 _ _ (by omega), g1 _ _ (by omega)]
  have s4 : J2 (L + 4) = I (L + 4) := funext fun j => by rw [g2 _ _ (by omega), g1 _ _ (by omega)]
  have fr2 : ∀ b j, b ≠ L + 5 → b ≠ L + 6 → J2 b j = I b j := fun b j h1 h2 => by rw [g2 _ _ h2, g1 _ _ h1]
  obtain ⟨J3, e3, a1, a2, a3⟩ := Lg_complete18_ok h (I := J2) hP (pl := pl) (cl := cl) (fun i hi => by rw [s3]; exact hpl i hi) (fun i hi => by rw [s4]; exact hcl i hi) (by rw [fr2 _ _ (by omega) (by omega), hp]) (fun p hp => by rw [g2 _ _ (by omega)]; exact f1 p hp) (fun p hp => f2 p hp)
  have fr3 : ∀ b j, b ≠ L + 5 → b ≠ L + 6 → J3 b j = I b j := fun b j h1 h2 => by rw [a3 _ _ h1 h2, fr2 _ _ h1 h2]
  obtain ⟨K, e4, b1, b2⟩ := Lg_complete68_ok h (I := J3) hP (by rw [fr3 _ _ (by omega) (by omega), hp]) (by rw [fr3 _ _ (by omega) (by omega), hW]) hWk (fun i hi => by rw [fr3 _ _ (by omega) (by omega)]; exact hr i hi)
  have cf : ∀ i w, cFore J3 L i w = cFore I L i w := by
    intro i w
    induction w with
    | zero => exact fr3 _ _ (by omega) (by omega)
    | succ w ih =>
      show zmoved (cFore J3 L i w) _ _ _ = zmoved (cFore I L i w) _ _ _
      rw [ih, fr3 _ _ (by omega) (by omega), fr3 _ _ (by omega) (by omega), fr3 _ _ (by omega) (by omega)]
  refine ⟨K, ?_, ?_, ?_, ?_, ?_⟩
  · rw [e_Lg_complete]
    simp only [h.k, h.r, zc_t, zr_s, e1, zbV_s, e2]
    exact e3.trans e4
  · have k3 : K (L + 3) = J2 (L + 3) := funext fun j => by rw [b2 _ _ (by omega), a3 _ _ (by omega) (by omega)]
    exact zSets_congr (funext fun j => b2 _ _ (by omega)) k3 a1
  · have k4 : K (L + 4) = J2 (L + 4) := funext fun j => by rw [b2 _ _ (by omega), a3 _ _ (by omega) (by omega)]
    exact zSets_congr (funext fun j => b2 _ _ (by omega)) k4 a2
  · intro w i hw hi
    rw [b1 w i hw hi, cf]
  · intro b j h1 h2 h3
    rw [b2 _ _ h3, fr3 _ _ h1 h2]
end LC2
