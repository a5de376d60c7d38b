section LSp
variable {I : ZI} {R : ZR} {L : Nat}
def WSr (R : ZR) (s : Nat) : Prop := R s 0 = some (s + 1) ∧ R s 1 = some (s + 2) ∧ ∀ w, w < 6 → R (s + 2) w = some (s + 3 + w)
theorem WSr_c {R' : ZR} {s : Nat} (h : WSr R s) (e : ∀ b j, s ≤ b → b < s + 9 → R' b j = R b j) : WSr R' s := ⟨by rw [e _ _ (by omega) (by omega)]; exact h.1, by rw [e _ _ (by omega) (by omega)]; exact h.2.1, fun w hw => by rw [e _ _ (by omega) (by omega)]; exact h.2.2 w hw⟩
theorem Se_made (s : Nat) : WSr (zur (zrm (zur R s 0 (some (s + 1))) (s + 2) 6) s 1 (some (s + 2))) s ∧ ∀ b j, b < s ∨ s + 9 ≤ b → zur (zrm (zur R s 0 (some (s + 1))) (s + 2) 6) s 1 (some (s + 2)) b j = R b j := by
  refine ⟨⟨?_, ?_, fun w hw => ?_⟩, fun b j hb => ?_⟩
  · rw [zur_k _ (by decide)]
    unfold zrm
    rw [if_neg (by omega), zur_s]
  · rw [zur_s]
  · rw [zur_n _ (by omega)]
    unfold zrm
    rw [if_pos rfl, if_pos hw]
  · rw [zur_n _ (by omega)]
    unfold zrm
    rw [if_neg (by omega), zur_n _ (by omega)]
theorem Hist_init15_ok : ∀ e k (I : ZI) (R : ZR), k + e = 12 → R 28 0 = some 29 → (∀ i, i < k → R 29 i = some (30 + 9 * i) ∧ WSr R (30 + 9 * i)) → ∃ I' R', Hist_init_15 28 (nI k) I R (30 + 9 * k) = some (none, I', R', 138) ∧ (∀ i, i < 12 → R' 29 i = some (30 + 9 * i) ∧ WSr R' (30 + 9 * i)) ∧ (∀ b j, b < 29 ∨ 138 ≤ b → R' b j = R b j) ∧ ∀ b j, b < 30 ∨ 138 ≤ b → I' b j = I b j := by
  intro e
  have t12 : (12 : Int32) = nI 12 := by decide
  induction e with
  | zero =>
    intro k I R hk h0 hi
    obtain rfl : k = 12 := by omega
    have st := e_Hist_init_15 28 (nI 12) I R (30 + 9 * 12)
    rw [if_neg (by decide)] at st
    exact ⟨I, R, st, hi, fun _ _ _ => rfl, fun _ _ _ => rfl⟩
  | succ e ih =>
    intro k I R hk h0 hi
    have hk12 : k < 12 := by omega
    have c : zis (30 + 9 * k) 28 0 = true ∧ Nat.beq (z_kd (30 + 9 * k)) 4 = true ∧ zis (30 + 9 * k + 1) (30 + 9 * k) 4 = true ∧ (zis (30 + 9 * k + 9) 29 23 && zin 29 (nI k) && zis (30 + 9 * k + 9) (30 + 9 * k) 4) = true := by
      have : k = 0 ∨ k = 1 ∨ k = 2 ∨ k = 3 ∨ k = 4 ∨ k = 5 ∨ k = 6 ∨ k = 7 ∨ k = 8 ∨ k = 9 ∨ k = 10 ∨ k = 11 := by omega
      rcases this with rfl | rfl | rfl | rfl | rfl | rfl | rfl | rfl | rfl | rfl | rfl | rfl <;> decide +kernel
    have st := e_Hist_init_15 28 (nI k) I R (30 + 9 * k)
    rw [if_pos (show nI k < 12 by rw [t12]; exact nI_lt hk12 (by decide)), c.1, zc_t, h0, zr_s, c.2.1, zc_t, c.2.2.1, zc_t, Se_init_ok (Or.inr (Or.inr ⟨k, hk12, rfl⟩)), zbV_s, c.2.2.2, zc_t, nI_1, zix_nI (show k < 2 ^ 31 by omega)] at st
    obtain ⟨m1, m2⟩ := Se_made (R := zzr R (30 + 9 * k)) (30 + 9 * k)
    have fr : ∀ b j, b ≠ 29 → b < 30 + 9 * k ∨ 30 + 9 * k + 9 ≤ b → zur (zur (zrm (zur (zzr R (30 + 9 * k)) (30 + 9 * k) 0 (some (30 + 9 * k + 1))) (30 + 9 * k + 2) 6) (30 + 9 * k) 1 (some (30 + 9 * k + 2))) 29 k (some (30 + 9 * k)) b j = R b j := fun b j h1 h2 => by
      rw [zur_n _ h1, m2 b j h2]
      unfold zzr
      rw [if_neg (by omega)]
    obtain ⟨I', R', i1, i2, i3, i4⟩ := ih (k + 1) _ (zur (zur (zrm (zur (zzr R (30 + 9 * k)) (30 + 9 * k) 0 (some (30 + 9 * k + 1))) (30 + 9 * k + 2) 6) (30 + 9 * k) 1 (some (30 + 9 * k + 2))) 29 k (some (30 + 9 * k))) (by omega) (by rw [fr 28 0 (by decide) (by omega)]; exact h0) (fun i hik => by
      by_cases e : i = k
      · subst e
        exact ⟨by rw [zur_s], WSr_c m1 (fun b j h1 h2 => zur_n _ (by omega))⟩
      · refine ⟨?_, WSr_c (hi i (by omega)).2 (fun b j h1 h2 => fr b j (by omega) (by omega))⟩
        rw [zur_k _ e, m2 29 i (by omega)]
        unfold zzr
        rw [if_neg (by omega)]
        exact (hi i (by omega)).1)
    refine ⟨I', R', st.trans i1, i2, fun b j hb => ?_, fun b j hb => ?_⟩
    · rw [i3 b j hb, fr b j (by omega) (by omega)]
    · rw [i4 b j hb]
      unfold zzm zz
      rw [if_neg (by omega), if_neg (by omega), if_neg (by omega)]
theorem Hist_init_ok : ∃ I' R', Hist_init 28 I R 29 = some (none, I', R', 138) ∧ R' 28 0 = some 29 ∧ (∀ i, i < 12 → R' 29 i = some (30 + 9 * i) ∧ WSr R' (30 + 9 * i)) ∧ (∀ b j, b < 28 ∨ 138 ≤ b → R' b j = R b j) ∧ ∀ b j, b < 30 ∨ 138 ≤ b → I' b j = I b j := by
  have c : (Nat.beq (z_kd 29) 23 && !(decide (12 < 0)) && Nat.beq (z_ln 29) (zix 12)) = true ∧ zis (29 + 1) 28 0 = true := by decide +kernel
  have st := e_Hist_init 28 I R 29
  rw [c.1, zc_t, c.2, zc_t] at st
  obtain ⟨I', R', i1, i2, i3, i4⟩ := Hist_init15_ok 12 0 I (zur (zzr R 29) 28 0 (some 29)) (by omega) (by rw [zur_s]) (fun i hi => by omega)
  rw [nI_0] at i1
  refine ⟨I', R', st.trans i1, by rw [i3 28 0 (by decide), zur_s], i2, fun b j hb => ?_, i4⟩
  rw [i3 b j (by omega), zur_n _ (by omega)]
  unfold zzr
  rw [if_neg (by omega)]
end LSp
