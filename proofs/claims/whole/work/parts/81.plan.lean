/-! ===== the planner (class): the most from each point ===== -/
def WP (R : ZR) (n L : Nat) : Prop := 281 ≤ n ∧ (R 141 0 = some 223 ∧ R 141 1 = some 224 ∧ R 141 2 = some 266 ∧ R 141 3 = some 273 ∧ R 141 4 = some 280 ∧ R 141 5 = some 147 ∧ R 141 6 = some 148 ∧ R 141 7 = some 149 ∧ R 141 8 = some L ∧ R 141 9 = some 10) ∧ (∀ r, r < 41 → R 224 r = some (225 + r)) ∧ (∀ w, w < 6 → R 266 w = some (267 + w)) ∧ ∀ w, w < 6 → R 273 w = some (274 + w)
section LPn
variable {I : ZI} {R : ZR} {n L : Nat}
theorem WP.k (h : WP R n L) : zis n 141 2 = true ∧ zis n 223 20 = true ∧ zis n 224 22 = true ∧ zis n 266 22 = true ∧ zis n 273 22 = true ∧ zis n 280 20 = true ∧ zis n 147 20 = true ∧ zis n 148 20 = true ∧ zis n 149 20 = true := by
  have := h.1
  refine ⟨?_, ?_, ?_, ?_, ?_, ?_, ?_, ?_, ?_⟩ <;> exact zis_lit (by omega) (by decide)
theorem zPlr : (∀ r, r < 41 → z_kd (225 + r) = 20 ∧ z_ln (225 + r) = 40) ∧ (∀ w, w < 6 → z_kd (267 + w) = 20 ∧ z_ln (267 + w) = 40 ∧ z_kd (274 + w) = 20 ∧ z_ln (274 + w) = 40) := by decide +kernel
theorem WP.s (h : WP R n L) {r : Nat} (hr : r < 41) : zis n (225 + r) 20 = true := zis_lit (by have := h.1; omega) (zPlr.1 r hr).1
theorem WP.p (h : WP R n L) {w : Nat} (hw : w < 6) : zis n (267 + w) 20 = true ∧ zis n (274 + w) 20 = true := ⟨zis_lit (by have := h.1; omega) (zPlr.2 w hw).1, zis_lit (by have := h.1; omega) (zPlr.2 w hw).2.2.1⟩
theorem zinP {k : Nat} (hk : k < 40) : (∀ r, r < 41 → zin (225 + r) (nI k) = true) ∧ (∀ w, w < 6 → zin (267 + w) (nI k) = true ∧ zin (274 + w) (nI k) = true) ∧ zin 223 (nI k) = true := ⟨fun r hr => zin_of (zPlr.1 r hr).2 hk (by decide), fun w hw => ⟨zin_of (zPlr.2 w hw).2.1 hk (by decide), zin_of (zPlr.2 w hw).2.2.2 hk (by decide)⟩, zin_nI (by show _ < 41; omega) (by omega)⟩
theorem zinW {w : Nat} (hw : w < 6) : zin 266 (nI w) = true ∧ zin 273 (nI w) = true ∧ zin 147 (nI w) = true ∧ zin 148 (nI w) = true ∧ zin 149 (nI w) = true := ⟨zin_nI (by show _ < 6; omega) (by omega), zin_nI (by show _ < 6; omega) (by omega), zin_nI (by show _ < 6; omega) (by omega), zin_nI (by show _ < 6; omega) (by omega), zin_nI (by show _ < 6; omega) (by omega)⟩
def zspt (w r f u : Nat) : Nat := w * 656 + (r * 2 + f - 1) * 8 + u
theorem zspt_lt {w r f u : Nat} (hw : w ≤ 6) (hr : r ≤ 40) (h1 : 1 ≤ f) (h2 : f ≤ 2) (hu : u < 8) : zspt w r f u < 4592 := by
  unfold zspt
  omega
theorem zin280 {w r f u : Nat} (hw : w ≤ 6) (hr : r ≤ 40) (h1 : 1 ≤ f) (h2 : f ≤ 2) (hu : u < 8) : zin 280 (nI (zspt w r f u)) = true := zin_nI (by show _ < 4592; exact zspt_lt hw hr h1 h2 hu) (by have := zspt_lt hw hr h1 h2 hu; omega)
theorem Pl_spot_ok {w r f u : Nat} (hf : 1 ≤ f) {x0 x1 x2 x3 : Int32} (e0 : x0 = nI w) (e1 : x1 = nI r) (e2 : x2 = nI f) (e3 : x3 = nI u) : Pl_spot x0 x1 x2 x3 I R n = some (some (.int (nI (zspt w r f u))), I, R, n) := by
  have t1 : (656 : Int32) = nI 656 := by decide
  have t2 : (2 : Int32) = nI 2 := by decide
  have t3 : (1 : Int32) = nI 1 := by decide
  have t4 : (8 : Int32) = nI 8 := by decide
  rw [e_Pl_spot, e0, e1, e2, e3, t1, t2, t3, t4, pk_mul, pk_mul, nI_add, pk_sub (by omega), pk_mul, nI_add, nI_add]
  rfl
theorem zfold_mx (i0 : Int32) (a : Nat → Int32) : ∀ N, zfold (fun k x => zmax x (a k)) N i0 = zmxF i0 a N
  | 0 => rfl
  | N + 1 => by
    show zmax (zfold _ N i0) (a N) = zmax (zmxF i0 a N) (a N)
    rw [zfold_mx i0 a N]
theorem Pl_wild_ok (hW : WP R n L) {w u N : Nat} (hw : w < 6) (hu : u < 8) (hN : N ≤ 40) (h11 : I 141 11 = nI N) : Pl_wildValue 141 (nI w) (nI u) I R n = some (some (.int (zmxF (-100000000) (fun k => I (267 + w) k + I 280 (zspt (w + 1) k 2 u)) N)), I, R, n) := by
  have l := zloop (fun k a => Pl_wildValue_6 141 (nI w) (nI u) a (nI k) I R n) (fun k x => zmax x (I (267 + w) k + I 280 (zspt (w + 1) k 2 u))) N (fun k a hk => ?_) (-100000000) N (Nat.le_refl _)
  · have l' : Pl_wildValue_6 141 (nI w) (nI u) (-100000000) (nI 0) I R n = Pl_wildValue_6 141 (nI w) (nI u) (zfold (fun k x => zmax x (I (267 + w) k + I 280 (zspt (w + 1) k 2 u))) N (-100000000)) (nI N) I R n := l
    rw [nI_0, zfold_mx] at l'
    rw [e_Pl_wildValue, l', e_Pl_wildValue_6]
    simp only [hW.k, zc_t, h11]
    rw [if_neg (nI_nlt (Nat.le_refl _) (by omega))]
  · show Pl_wildValue_6 141 (nI w) (nI u) a (nI k) I R n = Pl_wildValue_6 141 (nI w) (nI u) _ (nI (k + 1)) I R n
    have sp := Pl_spot_ok (I := I) (R := R) (n := n) (w := w + 1) (r := k) (f := 2) (u := u) (by decide) (x0 := nI (w + 1)) (x1 := nI k) (x2 := 2) (x3 := nI u) rfl rfl (by decide) rfl
    have hk40 : k < 40 := by omega
    rw [e_Pl_wildValue_6]
    simp only [hW.k, hW.2.1, zc_t, zr_s, h11, if_pos (nI_lt hk (show N < 2 ^ 31 by omega)), (zinW hw).1, Bool.true_or, Bool.true_and, zix_nI (show w < 2 ^ 31 by omega), hW.2.2.2.1 w hw, (hW.p hw).1, ((zinP hk40).2.1 w hw).1, sp, zbI_s, zin280 (show w + 1 ≤ 6 by omega) (show k ≤ 40 by omega) (show 1 ≤ 2 by decide) (show 2 ≤ 2 by decide) hu, zix_nI (show k < 2 ^ 31 by omega), zix_nI (show zspt (w + 1) k 2 u < 2 ^ 31 by have := zspt_lt (show w + 1 ≤ 6 by omega) (show k ≤ 40 by omega) (show 1 ≤ 2 by decide) (show 2 ≤ 2 by decide) hu; omega), nI_1]
theorem zsh2 (u : Nat) (hu : u < 8) : ((nI u >>> ((2 : Int32) &&& 31)) &&& 1 = 0 ↔ u.testBit 2 = false) ∧ ((nI u >>> ((1 : Int32) &&& 31)) &&& 1 = 0 ↔ u.testBit 1 = false) ∧ ((nI u >>> ((0 : Int32) &&& 31)) &&& 1 = 0 ↔ u.testBit 0 = false) ∧ nI u ||| 4 = nI (u ||| 2 ^ 2) ∧ nI u ||| 2 = nI (u ||| 2 ^ 1) ∧ (u ||| 2 ^ 2) < 8 ∧ (u ||| 2 ^ 1) < 8 ∧ (u ||| 2 ^ 0) < 8 ∧ (u.testBit 0 = false → u ||| 2 ^ 0 = u + 1) := by
  have : ∀ u, u < 8 → (((nI u >>> ((2 : Int32) &&& 31)) &&& 1 = 0 ↔ u.testBit 2 = false) ∧ ((nI u >>> ((1 : Int32) &&& 31)) &&& 1 = 0 ↔ u.testBit 1 = false) ∧ ((nI u >>> ((0 : Int32) &&& 31)) &&& 1 = 0 ↔ u.testBit 0 = false) ∧ nI u ||| 4 = nI (u ||| 2 ^ 2) ∧ nI u ||| 2 = nI (u ||| 2 ^ 1) ∧ (u ||| 2 ^ 2) < 8 ∧ (u ||| 2 ^ 1) < 8 ∧ (u ||| 2 ^ 0) < 8 ∧ (u.testBit 0 = false → u ||| 2 ^ 0 = u + 1)) := by decide +kernel
  exact this u hu
theorem Pl_loan_ok (hW : WP R n L) {w u r : Nat} (hw : w < 6) (hu : u < 8) (hr : r ≤ 40) : Pl_loanValue 141 (nI w) (nI r) (nI u) I R n = some (some (.int (if u.testBit 2 = false then I 147 w + I 280 (zspt (w + 1) r 2 (u ||| 2 ^ 2)) else -100000000)), I, R, n) := by
  have z := zsh2 u hu
  have sp := Pl_spot_ok (I := I) (R := R) (n := n) (w := w + 1) (r := r) (f := 2) (u := u ||| 2 ^ 2) (by decide) (x0 := nI w + 1) (x1 := nI r) (x2 := 2) (x3 := nI (u ||| 2 ^ 2)) (nI_1 w) rfl (by decide) rfl
  rw [e_Pl_loanValue]
  by_cases c : u.testBit 2 = false
  · rw [if_pos (z.1.2 c), if_pos c, z.2.2.2.1]
    simp only [hW.k, hW.2.1, zc_t, zr_s, (zinW hw).2.2.1, Bool.true_or, Bool.true_and, sp, zbI_s, zin280 (show w + 1 ≤ 6 by omega) hr (show 1 ≤ 2 by decide) (show 2 ≤ 2 by decide) z.2.2.2.2.2.1, zix_nI (show w < 2 ^ 31 by omega), zix_nI (show zspt (w + 1) r 2 (u ||| 2 ^ 2) < 2 ^ 31 by have := zspt_lt (show w + 1 ≤ 6 by omega) hr (show 1 ≤ 2 by decide) (show 2 ≤ 2 by decide) z.2.2.2.2.2.1; omega)]
  · rw [if_neg (fun q => c (z.1.1 q)), if_neg c]
def zsvF (tri : Bool) (a0 a1 : Nat → Int32) : Nat → Int32
  | 0 => -100000000
  | k + 1 => if tri = true then zmax (zmax (zsvF tri a0 a1 k) (a0 k)) (a1 k) else zmax (zsvF tri a0 a1 k) (a0 k)
theorem zsvF_succ (tri : Bool) (a0 a1 : Nat → Int32) (k : Nat) : zsvF tri a0 a1 (k + 1) = if tri = true then zmax (zmax (zsvF tri a0 a1 k) (a0 k)) (a1 k) else zmax (zsvF tri a0 a1 k) (a0 k) := rfl
theorem Pl_freeBehind_ok {f s : Nat} (hf : f < 2 ^ 31) (hs : s < 2 ^ 31) : Pl_freeBehind (nI f) (nI s) I R n = some (some (.int (nI (if s < f then 2 else 1))), I, R, n) := by
  rw [e_Pl_freeBehind]
  by_cases c : s < f
  · rw [if_pos (nI_lt c hf), if_pos c]; rfl
  · rw [if_neg (nI_nlt (by omega) hs), if_neg c]; rfl
theorem zfb_le (s f : Nat) : 1 ≤ (if s < f then 2 else 1) ∧ (if s < f then 2 else 1) ≤ 2 := by split <;> omega
theorem Pl_swap_ok (hW : WP R n L) (hL : WL R n L) {w u r f N co : Nat} {D : Nat → Nat} (hw : w < 6) (hu : u < 8) (hr : r ≤ 40) (hf1 : 1 ≤ f) (hf2 : f ≤ 2) (hN : N ≤ 40) (h11 : I 141 11 = nI N) (hco : I (L + 2) 3 = nI co) (hD : ∀ k, k < N → I (225 + r) k = nI (D k) ∧ D k ≤ 16) : Pl_swapValue 141 (nI w) (nI r) (nI f) (nI u) I R n = some (some (.int (zsvF (!(u.testBit 0)) (fun k => I (267 + w) k - nI ((D k - f) * co) + I 280 (zspt (w + 1) k (if D k < f then 2 else 1) u)) (fun k => I (267 + w) k - nI ((D k - f) * co) + I (274 + w) k + I 280 (zspt (w + 1) k (if D k < f then 2 else 1) (u ||| 2 ^ 0))) N)), I, R, n) := by
  have z := zsh2 u hu
  have t41 : zin 224 (nI r) = true := zin_nI (by show _ < 41; omega) (by omega)
  have key : ∀ (x9 : Int32) (tri : Bool), x9 = zbo tri → tri = !(u.testBit 0) → ∀ k, k ≤ N → Pl_swapValue_58 141 (nI w) (nI f) (nI u) (225 + r) (267 + w) (274 + w) (nI co) x9 (-100000000) (nI 0) I R n = Pl_swapValue_58 141 (nI w) (nI f) (nI u) (225 + r) (267 + w) (274 + w) (nI co) x9 (zsvF tri (fun k => I (267 + w) k - nI ((D k - f) * co) + I 280 (zspt (w + 1) k (if D k < f then 2 else 1) u)) (fun k => I (267 + w) k - nI ((D k - f) * co) + I (274 + w) k + I 280 (zspt (w + 1) k (if D k < f then 2 else 1) (u ||| 2 ^ 0))) k) (nI k) I R n := by
    intro x9 tri e9 htri k
    induction k with
    | zero => intro _; rfl
    | succ k ih =>
      intro hk
      refine (ih (by omega)).trans ?_
      have hk40 : k < 40 := by omega
      obtain ⟨d1, d2⟩ := hD k (by omega)
      have fb := zfb_le (D k) f
      have sp := Pl_spot_ok (I := I) (R := R) (n := n) (w := w + 1) (r := k) (f := if D k < f then 2 else 1) (u := u) fb.1 (x0 := nI w + 1) (x1 := nI k) (x2 := nI (if D k < f then 2 else 1)) (x3 := nI u) (nI_1 w) rfl rfl rfl
      have slt := zspt_lt (show w + 1 ≤ 6 by omega) (show k ≤ 40 by omega) fb.1 fb.2 hu
      have sin := zin280 (show w + 1 ≤ 6 by omega) (show k ≤ 40 by omega) fb.1 fb.2 hu
      have i1 := (zinP hk40).1 r (by omega)
      have i2 := (zinP hk40).2.1 w hw
      rw [zsvF_succ]
      generalize zsvF tri (fun k => I (267 + w) k - nI ((D k - f) * co) + I 280 (zspt (w + 1) k (if D k < f then 2 else 1) u)) (fun k => I (267 + w) k - nI ((D k - f) * co) + I (274 + w) k + I 280 (zspt (w + 1) k (if D k < f then 2 else 1) (u ||| 2 ^ 0))) k = m
      show _ = Pl_swapValue_58 141 (nI w) (nI f) (nI u) (225 + r) (267 + w) (274 + w) (nI co) x9 (if tri = true then zmax (zmax m (I (267 + w) k - nI ((D k - f) * co) + I 280 (zspt (w + 1) k (if D k < f then 2 else 1) u))) (I (267 + w) k - nI ((D k - f) * co) + I (274 + w) k + I 280 (zspt (w + 1) k (if D k < f then 2 else 1) (u ||| 2 ^ 0))) else zmax m (I (267 + w) k - nI ((D k - f) * co) + I 280 (zspt (w + 1) k (if D k < f then 2 else 1) u))) (nI (k + 1)) I R n
      have s58 := e_Pl_swapValue_58 141 (nI w) (nI f) (nI u) (225 + r) (267 + w) (274 + w) (nI co) x9 m (nI k) I R n
      simp only [hW.k, hW.s (show r < 41 by omega), (hW.p hw).1, zc_t, h11, if_pos (nI_lt (show k < N by omega) (show N < 2 ^ 31 by omega)), i1, i2.1, Bool.true_or, Bool.true_and, zix_nI (show k < 2 ^ 31 by omega), d1, Pl_freeBehind_ok (show f < 2 ^ 31 by omega) (show D k < 2 ^ 31 by omega), zbI_s, sp] at s58
      have e119 : Pl_swapValue_58 141 (nI w) (nI f) (nI u) (225 + r) (267 + w) (274 + w) (nI co) x9 m (nI k) I R n = Pl_swapValue_119 141 (nI w) (nI f) (nI u) (225 + r) (267 + w) (274 + w) (nI co) x9 m (nI k) (nI (zspt (w + 1) k (if D k < f then 2 else 1) u)) (I (267 + w) k - nI ((D k - f) * co)) I R n := by
        rw [s58]
        by_cases c : f < D k
        · rw [if_pos (nI_lt c (by omega)), pk_sub (by omega), pk_mul]
        · rw [if_neg (nI_nlt (by omega) (by omega)), show D k - f = 0 by omega, Nat.zero_mul, nI_0, Int32.sub_zero]
      have s119 := e_Pl_swapValue_119 141 (nI w) (nI f) (nI u) (225 + r) (267 + w) (274 + w) (nI co) x9 m (nI k) (nI (zspt (w + 1) k (if D k < f then 2 else 1) u)) (I (267 + w) k - nI ((D k - f) * co)) I R n
      simp only [hW.k, hW.2.1, zc_t, zr_s, sin, Bool.true_or, Bool.true_and, zix_nI (show zspt (w + 1) k (if D k < f then 2 else 1) u < 2 ^ 31 by omega)] at s119
      have e147 : Pl_swapValue_119 141 (nI w) (nI f) (nI u) (225 + r) (267 + w) (274 + w) (nI co) x9 m (nI k) (nI (zspt (w + 1) k (if D k < f then 2 else 1) u)) (I (267 + w) k - nI ((D k - f) * co)) I R n = Pl_swapValue_147 141 (nI w) (nI f) (nI u) (225 + r) (267 + w) (274 + w) (nI co) x9 (nI k) (nI (zspt (w + 1) k (if D k < f then 2 else 1) u)) (I (267 + w) k - nI ((D k - f) * co)) (zmax m (I (267 + w) k - nI ((D k - f) * co) + I 280 (zspt (w + 1) k (if D k < f then 2 else 1) u))) I R n := by
        rw [s119]
        unfold zmax
        by_cases c : m < I (267 + w) k - nI ((D k - f) * co) + I 280 (zspt (w + 1) k (if D k < f then 2 else 1) u)
        · rw [if_pos c, if_pos c]
        · rw [if_neg c, if_neg c]
      rw [e119, e147, e_Pl_swapValue_147, nI_1]
      cases ht : tri with
      | false =>
        rw [e9, ht, if_pos (show zbo false = 0 by decide), if_neg (show ¬ (false = true) by decide)]
      | true =>
        have hb0 : u.testBit 0 = false := by
          rw [ht] at htri
          cases q : u.testBit 0 with
          | false => rfl
          | true => rw [q] at htri; cases htri
        have eu := z.2.2.2.2.2.2.2.2 hb0
        have ez : zspt (w + 1) k (if D k < f then 2 else 1) u + 1 = zspt (w + 1) k (if D k < f then 2 else 1) (u ||| 2 ^ 0) := by
          rw [eu]; unfold zspt; omega
        have hu1 : (u ||| 2 ^ 0) < 8 := z.2.2.2.2.2.2.2.1
        have slt1 := zspt_lt (show w + 1 ≤ 6 by omega) (show k ≤ 40 by omega) fb.1 fb.2 hu1
        have sin1 := zin280 (show w + 1 ≤ 6 by omega) (show k ≤ 40 by omega) fb.1 fb.2 hu1
        rw [e9, ht, if_neg (show ¬ zbo true = 0 by decide), if_pos rfl]
        simp only [hW.k, hW.2.1, (hW.p hw).2, zc_t, zr_s, i2.2, Bool.true_or, Bool.true_and, zix_nI (show k < 2 ^ 31 by omega), nI_1, ez, sin1, zix_nI (show zspt (w + 1) k (if D k < f then 2 else 1) (u ||| 2 ^ 0) < 2 ^ 31 by omega)]
        generalize zmax m (I (267 + w) k - nI ((D k - f) * co) + I 280 (zspt (w + 1) k (if D k < f then 2 else 1) u)) = m1
        unfold zmax
        by_cases c : m1 < I (267 + w) k - nI ((D k - f) * co) + I (274 + w) k + I 280 (zspt (w + 1) k (if D k < f then 2 else 1) (u ||| 2 ^ 0))
        · rw [if_pos c, if_pos c]
        · rw [if_neg c, if_neg c]
  have st := e_Pl_swapValue 141 (nI w) (nI r) (nI f) (nI u) I R n
  simp only [hW.k, hW.2.1, hL.k, hL.r, hL.zrules, zixs, zc_t, zr_s, t41, (zinW hw).1, (zinW hw).2.1, Bool.true_or, Bool.true_and, zix_nI (show r < 2 ^ 31 by omega), zix_nI (show w < 2 ^ 31 by omega), hW.2.2.1 r (by omega), hW.2.2.2.1 w hw, hW.2.2.2.2 w hw, hco] at st
  have fin : ∀ (x9 : Int32) (x : Int32), Pl_swapValue_58 141 (nI w) (nI f) (nI u) (225 + r) (267 + w) (274 + w) (nI co) x9 x (nI N) I R n = some (some (.int x), I, R, n) := by
    intro x9 x
    rw [e_Pl_swapValue_58]
    simp only [hW.k, zc_t, h11]
    rw [if_neg (nI_nlt (Nat.le_refl _) (by omega))]
  rw [st]
  cases hb : u.testBit 0 with
  | false =>
    rw [if_pos (z.2.2.1.2 hb)]
    have := key 1 true (by decide) (by rw [hb]; rfl) N (Nat.le_refl _)
    rw [nI_0] at this
    rw [this, fin]
    rfl
  | true =>
    rw [if_neg (fun q => by rw [z.2.2.1.1 q] at hb; cases hb)]
    have := key 0 false (by decide) (by rw [hb]; rfl) N (Nat.le_refl _)
    rw [nI_0] at this
    rw [this, fin]
    rfl
end LPn
