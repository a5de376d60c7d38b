/-! ===== the planner (class): one week of the walk ===== -/
theorem zor_wh : ∀ u, u < 8 → ∀ ch, ch < 4 → 1 ≤ ch → (nI u ||| ((1 : Int32) <<< (zwh ch &&& 31))) = nI (u ||| 2 ^ (ch - 1)) ∧ (u ||| 2 ^ (ch - 1)) < 8 := by decide +kernel
theorem znu_lt {u ch : Nat} (hu : u < 8) (hch : ch < 4) : znu u ch < 8 := by
  unfold znu
  by_cases c : ch = 0
  · rw [if_pos c]; exact hu
  · rw [if_neg c]; exact (zor_wh u hu ch hch (by omega)).2
theorem znf_le (f s ch : Nat) : 1 ≤ znf f s ch ∧ znf f s ch ≤ 2 := by
  unfold znf
  by_cases c : ch < 2
  · rw [if_pos c]; exact zfb_le s f
  · rw [if_neg c]; omega
section LPo
variable {J : ZI} {R : ZR} {n L w w0 s0 a f u k ch D co : Nat}
theorem Pl_used_ok (hW : WP R n L) (hS : WS R n 10) (hch : ch < 4) (hk : k < 40) (hw : w < 2 ^ 31) (hw0 : w0 < 2 ^ 31) (ha : a < 41) (h15 : J 141 15 = nI a) (h4 : J 10 4 = nI w0) (h6 : J 10 6 = nI s0) (hD : J (225 + a) k = nI D) : Pl_swapsUsed 141 (nI w) (nI k) (zwh ch) J R n = some (some (.int (nI (if ch < 2 then (if w = w0 then s0 else 0) + D else 0))), J, R, n) := by
  have zs := zwh_s ch hch
  have t41 : zin 224 (nI a) = true := zin_nI (by show _ < 41; omega) (by omega)
  rw [e_Pl_swapsUsed]
  by_cases c1 : ch = 2
  · rw [if_pos (zs.2.2.2.2.1.2 c1), if_neg (show ¬ ch < 2 by omega), nI_0]
  · rw [if_neg (fun q => c1 (zs.2.2.2.2.1.1 q))]
    by_cases c2 : ch = 3
    · rw [if_pos (zs.2.2.2.2.2.1.2 c2), if_neg (show ¬ ch < 2 by omega), nI_0]
    · rw [if_neg (fun q => c2 (zs.2.2.2.2.2.1.1 q)), if_pos (show ch < 2 by omega)]
      simp only [hW.k, hW.2.1, hS.k, hW.s ha, zc_t, zr_s, h15, t41, Bool.true_or, Bool.true_and, zix_nI (show a < 2 ^ 31 by omega), hW.2.2.1 a ha, (zinP hk).1 a ha, zix_nI (show k < 2 ^ 31 by omega), hD, h4, h6, nI_eq hw hw0, nI_add]
      by_cases c3 : w = w0
      · rw [if_pos c3, if_pos c3, Nat.add_comm]
      · rw [if_neg c3, if_neg c3, Nat.zero_add, Int32.add_zero]
theorem Pl_chipsWith_ok (hW : WP R n L) (hch : ch < 4) (hu : u < 8) (h17 : J 141 17 = nI u) : Pl_chipsWith 141 (zwh ch) J R n = some (some (.int (nI (znu u ch))), J, R, n) := by
  have zs := zwh_s ch hch
  rw [e_Pl_chipsWith]
  simp only [hW.k, zc_t, h17]
  unfold znu
  by_cases c : ch = 0
  · rw [if_pos (zs.2.2.1.2 c), if_pos c]
  · rw [if_neg (fun q => c (zs.2.2.1.1 q)), if_neg c, (zor_wh u hu ch hch (by omega)).1]
theorem znf_use {f s : Nat} (hf1 : 1 ≤ f) (ch : Nat) : (if (if ch < 2 then s else 0) < f then 2 else 1) = znf f s ch := by
  unfold znf
  by_cases c : ch < 2
  · rw [if_pos c, if_pos c]
  · rw [if_neg c, if_neg c, if_pos (show 0 < f by omega)]
theorem Pl_option_ok (hW : WP R n L) (hL : WL R n L) (hS : WS R n 10) (hch : ch < 4) (hk : k < 40) (hw : w < 6) (hw0 : w0 < 2 ^ 31) (ha : a < 41) (hf1 : 1 ≤ f) (hf2 : f ≤ 2) (hu : u < 8) (hs0 : s0 ≤ 1000) (hDD : D ≤ 16) (h15 : J 141 15 = nI a) (h16 : J 141 16 = nI f) (h17 : J 141 17 = nI u) (h4 : J 10 4 = nI w0) (h6 : J 10 6 = nI s0) (hD : J (225 + a) k = nI D) (hco : J (L + 2) 3 = nI co) : Pl_optionValue 141 (nI w) (nI k) (zwh ch) J R n = some (some (.int (zsco (J (267 + w) k) (J (274 + w) k) co f ((if w = w0 then s0 else 0) + D) ch + J 280 (zspt (w + 1) (if ch = 3 then a else k) (znf f ((if w = w0 then s0 else 0) + D) ch) (znu u ch)))), J, R, n) := by
  have zs := zwh_s ch hch
  have us := Pl_used_ok (J := J) (R := R) (n := n) hW hS hch hk (show w < 2 ^ 31 by omega) hw0 ha h15 h4 h6 hD
  have hsz : (if w = w0 then s0 else 0) ≤ 1000 := by split <;> omega
  have hSb : (if w = w0 then s0 else 0) + D ≤ 1016 := by omega
  generalize (if w = w0 then s0 else 0) + D = S at us hSb ⊢
  · have hus : (if ch < 2 then S else 0) ≤ 1016 := by split <;> omega
    have mx := zmx0 (s := if ch < 2 then S else 0) (f := f) (by omega) (by omega)
    have nf := znf_le f S ch
    have nu := znu_lt hu hch
    have row40 : (if ch = 3 then a else k) ≤ 40 := by split <;> omega
    have slt := zspt_lt (show w + 1 ≤ 6 by omega) row40 nf.1 nf.2 nu
    have sin := zin280 (show w + 1 ≤ 6 by omega) row40 nf.1 nf.2 nu
    have e71 : ∀ (x5 s : Int32), s = nI (if ch = 3 then a else k) → Pl_optionValue_71 141 (nI w) (zwh ch) (nI (if ch < 2 then S else 0)) x5 s J R n = some (some (.int (x5 + J 280 (zspt (w + 1) (if ch = 3 then a else k) (znf f S ch) (znu u ch)))), J, R, n) := by
      intro x5 s hs
      have fb := Pl_freeBehind_ok (I := J) (R := R) (n := n) (f := f) (s := if ch < 2 then S else 0) (by omega) (by omega)
      rw [znf_use hf1] at fb
      have sp := Pl_spot_ok (I := J) (R := R) (n := n) (w := w + 1) (r := if ch = 3 then a else k) (f := znf f S ch) (u := znu u ch) nf.1 (x0 := nI w + 1) (x1 := s) (x2 := nI (znf f S ch)) (x3 := nI (znu u ch)) (nI_1 w) hs rfl rfl
      have st := e_Pl_optionValue_71 141 (nI w) (zwh ch) (nI (if ch < 2 then S else 0)) x5 s J R n
      simp only [hW.k, hW.2.1, zc_t, zr_s, h16, fb, zbI_s, Pl_chipsWith_ok hW hch hu h17, sp, sin, Bool.true_or, Bool.true_and, zix_nI (show zspt (w + 1) (if ch = 3 then a else k) (znf f S ch) (znu u ch) < 2 ^ 31 by omega)] at st
      exact st
    have st := e_Pl_optionValue 141 (nI w) (nI k) (zwh ch) J R n
    simp only [hW.k, hW.2.1, hL.k, hL.r, hL.zrules, zixs, zc_t, zr_s, us, zbI_s, (zinW hw).1, (zinW hw).2.1, Bool.true_or, Bool.true_and, zix_nI (show w < 2 ^ 31 by omega), hW.2.2.2.1 w hw, hW.2.2.2.2 w hw, (hW.p hw).1, (hW.p hw).2, ((zinP hk).2.1 w hw).1, ((zinP hk).2.1 w hw).2, zix_nI (show k < 2 ^ 31 by omega), h16, h15, hco, mx, pk_mul] at st
    rw [st]
    unfold zsco
    have c4 : ch = 0 ∨ ch = 1 ∨ ch = 2 ∨ ch = 3 := by omega
    rcases c4 with rfl | rfl | rfl | rfl
    · rw [if_neg (by decide), if_neg (by decide), e71 _ (nI k) rfl]
      rfl
    · rw [if_pos (by decide), if_neg (by decide), e71 _ (nI k) rfl]
      rfl
    · rw [if_neg (by decide), if_neg (by decide), e71 _ (nI k) rfl]
      have z : J (267 + w) k - nI ((0 - f) * co) = J (267 + w) k := by
        rw [Nat.zero_sub, Nat.zero_mul, nI_0, Int32.sub_zero]
      show some (some (Value.int (J (267 + w) k - nI ((0 - f) * co) + _)), J, R, n) = _
      rw [z]
      rfl
    · rw [if_neg (by decide), if_pos (by decide), e71 _ (nI a) rfl]
      have z : J (267 + w) k - nI ((0 - f) * co) = J (267 + w) k := by
        rw [Nat.zero_sub, Nat.zero_mul, nI_0, Int32.sub_zero]
      show some (some (Value.int (J (267 + w) k - nI ((0 - f) * co) + _)), J, R, n) = _
      rw [z]
      rfl
theorem Pl_moveOn_ok (hW : WP R n L) (hS : WS R n 10) (hch : ch < 4) (hk : k < 40) (hw : w < 2 ^ 31) (hw0 : w0 < 2 ^ 31) (ha : a < 41) (hf1 : 1 ≤ f) (hf2 : f ≤ 2) (hu : u < 8) (hs0 : s0 ≤ 1000) (hDD : D ≤ 16) (h15 : J 141 15 = nI a) (h16 : J 141 16 = nI f) (h17 : J 141 17 = nI u) (h4 : J 10 4 = nI w0) (h6 : J 10 6 = nI s0) (hD : J (225 + a) k = nI D) : ∃ J', Pl_moveOn 141 (nI w) (nI k) (zwh ch) J R n = some (none, J', R, n) ∧ J' 141 15 = nI (if ch = 3 then a else k) ∧ J' 141 16 = nI (znf f ((if w = w0 then s0 else 0) + D) ch) ∧ J' 141 17 = nI (znu u ch) ∧ ∀ b j, (b = 141 → j ≠ 15 ∧ j ≠ 16 ∧ j ≠ 17) → J' b j = J b j := by
  have zs := zwh_s ch hch
  have us := Pl_used_ok (J := J) (R := R) (n := n) hW hS hch hk hw hw0 ha h15 h4 h6 hD
  have hsz : (if w = w0 then s0 else 0) ≤ 1000 := by split <;> omega
  have hus : (if ch < 2 then (if w = w0 then s0 else 0) + D else 0) ≤ 1016 := by
    by_cases c : ch < 2
    · rw [if_pos c]; omega
    · rw [if_neg c]; omega
  have fb := Pl_freeBehind_ok (I := J) (R := R) (n := n) (f := f) (s := if ch < 2 then (if w = w0 then s0 else 0) + D else 0) (by omega) (by omega)
  rw [znf_use hf1] at fb
  have cw := Pl_chipsWith_ok (J := zup J 141 16 (nI (znf f ((if w = w0 then s0 else 0) + D) ch))) (R := R) (n := n) hW hch hu (by rw [zup_k _ (by decide)]; exact h17)
  have st := e_Pl_moveOn 141 (nI w) (nI k) (zwh ch) J R n
  simp only [hW.k, zc_t, us, zbI_s, h16, fb, cw] at st
  generalize znf f ((if w = w0 then s0 else 0) + D) ch = F at st ⊢
  generalize znu u ch = U at st ⊢
  by_cases c3 : ch = 3
  · rw [if_pos (zs.2.2.2.2.2.1.2 c3)] at st
    refine ⟨_, st, ?_, ?_, ?_, fun b j hb => ?_⟩
    · rw [zup_s, zup_k _ (by decide), zup_k _ (by decide), h15, if_pos c3]
    · rw [zup_k _ (by decide), zup_k _ (by decide), zup_s]
    · rw [zup_k _ (by decide), zup_s]
    · by_cases z : b = 141
      · rw [zup_k _ (hb z).1, zup_k _ (hb z).2.2, zup_k _ (hb z).2.1]
      · rw [zup_n _ z, zup_n _ z, zup_n _ z]
  · rw [if_neg (fun q => c3 (zs.2.2.2.2.2.1.1 q))] at st
    refine ⟨_, st, ?_, ?_, ?_, fun b j hb => ?_⟩
    · rw [zup_s, if_neg c3]
    · rw [zup_k _ (by decide), zup_k _ (by decide), zup_s]
    · rw [zup_k _ (by decide), zup_s]
    · by_cases z : b = 141
      · rw [zup_k _ (hb z).1, zup_k _ (hb z).2.2, zup_k _ (hb z).2.1]
      · rw [zup_n _ z, zup_n _ z, zup_n _ z]
end LPo
