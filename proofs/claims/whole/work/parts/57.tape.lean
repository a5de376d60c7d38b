/-! ===== the tape ===== -/
/-- the byte of x that lies s bits up -/
def zbyte (x : Int32) (s : Nat) : Nat := x.toBitVec.toNat / 2 ^ s % 256
theorem zbyte_u (x : Int32) (s : Nat) (hs : s < 32) : zushr x (nI s) &&& 255 = nI (zbyte x s) := by
  have e : ∀ k, k < 32 → (((nI k).toUInt32 &&& Int32.toUInt32 31).toBitVec % 32).toNat = k := by decide +kernel
  have h := pk_ushr x (nI s) s (e s hs)
  rw [pk_and (zushr x (nI s)) 8 (by decide)]
  unfold zushr zbyte
  rw [h]
theorem zmod256 (y : Int32) : ((y.toBitVec.toNat % 2 ^ 8 : Nat) : Int) = y.toInt % 256 := by
  have h : y.toInt = y.toBitVec.toInt := rfl
  rw [h, BitVec.toInt_eq_toNat_cond]
  have := y.toBitVec.isLt
  split <;> omega
theorem zbyte_s (x : Int32) (s : Nat) (hs : s = 0 ∨ s = 8 ∨ s = 16 ∨ s = 24) : (x >>> (nI s &&& 31)) &&& 255 = nI (zbyte x s) := by
  rw [pk_and (x >>> (nI s &&& 31)) 8 (by decide)]
  have h1 := pk_shr x (nI s &&& 31) s (zsh s (by omega))
  have h2 := zmod256 (x >>> (nI s &&& 31))
  rw [h1, Int.shiftRight_eq_div_pow] at h2
  have h3 : x.toInt = x.toBitVec.toInt := rfl
  rw [h3, BitVec.toInt_eq_toNat_cond] at h2
  have h4 := x.toBitVec.isLt
  congr 1
  unfold zbyte
  rcases hs with rfl | rfl | rfl | rfl
  all_goals (split at h2 <;> omega)
def zput (b : Nat) (T : Nat × (Nat → Nat)) : Nat × (Nat → Nat) := if b = 0 then T else (T.1 + 1, fun k => if k = T.1 then b else T.2 k)
def zput4 (x : Int32) (T : Nat × (Nat → Nat)) : Nat × (Nat → Nat) := zput (zbyte x 0) (zput (zbyte x 8) (zput (zbyte x 16) (zput (zbyte x 24) T)))
def zbn (x : Int32) : Nat := (if zbyte x 24 = 0 then 0 else 1) + (if zbyte x 16 = 0 then 0 else 1) + (if zbyte x 8 = 0 then 0 else 1) + (if zbyte x 0 = 0 then 0 else 1)
theorem zput_1 (b : Nat) (T : Nat × (Nat → Nat)) : (zput b T).1 = T.1 + (if b = 0 then 0 else 1) := by
  unfold zput
  split <;> rfl
theorem zput4_1 (x : Int32) (T : Nat × (Nat → Nat)) : (zput4 x T).1 = T.1 + zbn x := by
  unfold zput4 zbn
  rw [zput_1, zput_1, zput_1, zput_1]
  omega
theorem zbyte_lt (x : Int32) (s : Nat) : zbyte x s < 256 := Nat.mod_lt _ (by decide)
theorem zbyte0 (x : Int32) (s : Nat) : (nI (zbyte x s) = 0) ↔ zbyte x s = 0 := by
  have := zbyte_lt x s
  rw [← nI_0]
  exact nI_eq (by omega) (by omega)
/-- bytes as they lie on a tape: 1 .. 255 -/
def zTp (T : Nat × (Nat → Nat)) : Prop := T.1 ≤ 400 ∧ ∀ k, k < T.1 → 1 ≤ T.2 k ∧ T.2 k < 256
def tpC (I : ZI) (T : Nat × (Nat → Nat)) : Prop := I 1 1 = nI T.1 ∧ ∀ k, k < T.1 → I 2 k = nI (T.2 k)
def tpM (I : ZI) (T : Nat × (Nat → Nat)) : Prop := I 195 2 = nI T.1 ∧ ∀ k, k < T.1 → I 196 k = (nI (T.2 k)).toInt8.toInt32
theorem zput_ok {b : Nat} {T : Nat × (Nat → Nat)} (hb : b < 256) (h : zTp T) (hl : (zput b T).1 ≤ 400) : zTp (zput b T) := by
  refine ⟨hl, ?_⟩
  unfold zput
  by_cases q : b = 0
  · rw [if_pos q]; exact h.2
  · rw [if_neg q]
    intro k hk
    show 1 ≤ (if k = T.1 then b else T.2 k) ∧ (if k = T.1 then b else T.2 k) < 256
    by_cases z : k = T.1
    · rw [if_pos z]; omega
    · rw [if_neg z]; exact h.2 k (by have : k < T.1 + 1 := hk; omega)
theorem zs8 : (24 : Int32) + (-8) = nI 16 ∧ nI 16 + (-8) = nI 8 ∧ nI 8 + (-8) = nI 0 ∧ nI 0 + (-8) = (-8 : Int32) ∧ (24 : Int32) = nI 24 := by decide
section LTp
variable {I : ZI} {R : ZR} {n : Nat}
theorem Tp_bytesIn_ok (x : Int32) : Tp_bytesIn x I R n = some (some (.int (nI (zbn x))), I, R, n) := by
  have step : ∀ c s, s < 32 → Tp_bytesIn_5 x (nI c) (nI s) I R n = Tp_bytesIn_5 x (nI (c + (if zbyte x s = 0 then 0 else 1))) (nI s + (-8)) I R n := by
    intro c s hs
    rw [e_Tp_bytesIn_5, if_neg (nI_pos (by omega)), zbyte_u x s hs]
    simp only [zbyte0]
    by_cases q : zbyte x s = 0
    · rw [if_pos q, if_pos q]; rfl
    · rw [if_neg q, if_neg q, nI_1]
  rw [e_Tp_bytesIn, ← nI_0, zs8.2.2.2.2, step 0 24 (by decide)]
  rw [← zs8.2.2.2.2, zs8.1, step _ 16 (by decide), zs8.2.1, step _ 8 (by decide), zs8.2.2.1, step _ 0 (by decide), zs8.2.2.2.1, e_Tp_bytesIn_5, if_pos (by decide)]
  unfold zbn
  rw [Nat.zero_add]
theorem M_bytesOf_ok (x : Int32) : M_bytesOf x I R n = some (some (.int (nI (zbn x))), I, R, n) := by
  have step : ∀ c i s, i < 4 → s = 8 * i → M_bytesOf_4 x (nI c) (nI i) I R n = M_bytesOf_4 x (nI (c + (if zbyte x s = 0 then 0 else 1))) (nI (i + 1)) I R n := by
    intro c i s hi hs
    have e4 : (4 : Int32) = nI 4 := by decide
    have e8 : (8 : Int32) * nI i = nI s := by
      have : (8 : Int32) = nI 8 := by decide
      rw [this, pk_mul, hs]
    rw [e_M_bytesOf_4, e4, if_pos (nI_lt hi (by omega)), e8, zbyte_s x s (by omega)]
    simp only [zbyte0, nI_1, Int32.add_zero]
    by_cases q : zbyte x s = 0
    · rw [if_pos q, if_pos q]; rfl
    · rw [if_neg q, if_neg q]
  rw [e_M_bytesOf, ← nI_0, step 0 0 0 (by decide) rfl, step _ 1 8 (by decide) rfl, step _ 2 16 (by decide) rfl, step _ 3 24 (by decide) rfl, e_M_bytesOf_4, if_neg (by decide)]
  have e : 0 + (if zbyte x 0 = 0 then 0 else 1) + (if zbyte x 8 = 0 then 0 else 1) + (if zbyte x 16 = 0 then 0 else 1) + (if zbyte x 24 = 0 then 0 else 1) = zbn x := by unfold zbn; omega
  rw [e]
def WTp (R : ZR) (n : Nat) : Prop := 4 < n ∧ R 1 0 = some 2
theorem Tp_take_step (h : WTp R n) (x : Int32) {s : Nat} (hs : s < 32) {T : Nat × (Nat → Nat)} (hT : tpC I T) (hl : (zput (zbyte x s) T).1 ≤ 400) : ∃ I', Tp_take_3 1 x (nI s) I R n = Tp_take_3 1 x (nI s + (-8)) I' R n ∧ tpC I' (zput (zbyte x s) T) ∧ ∀ b j, b ≠ 2 → (b = 1 → j ≠ 1) → I' b j = I b j := by
  obtain ⟨hn, r0⟩ := h
  have k1 : zis n 1 6 = true := zis_lit (by omega) (by decide)
  have k2 : zis n 2 20 = true := zis_lit (by omega) (by decide)
  obtain ⟨t1, t2⟩ := hT
  rw [zput_1] at hl
  rw [e_Tp_take_3, if_neg (nI_pos (by omega)), zbyte_u x s hs]
  simp only [zbyte0]
  unfold zput
  by_cases q : zbyte x s = 0
  · rw [if_pos q, if_pos q]
    exact ⟨I, rfl, ⟨t1, t2⟩, fun _ _ _ _ => rfl⟩
  · rw [if_neg q] at hl
    rw [if_neg q, if_neg q]
    have e4 : (400 : Int32) = nI 400 := by decide
    have i2 : zin 2 (nI T.1) = true := zin_nI (by show _ < 400; omega) (by omega)
    simp only [k1, k2, zc_t, zr_s, r0, t1, e4, if_pos (nI_lt (show T.1 < 400 by omega) (show 400 < 2 ^ 31 by omega)), i2, Bool.true_and, zix_nI (show T.1 < 2 ^ 31 by omega), zup_n _ (show (1 : Nat) ≠ 2 by decide), nI_1]
    refine ⟨_, rfl, ⟨zup_s _ _ _ _, ?_⟩, ?_⟩
    · intro k hk
      rw [zup_n _ (by decide)]
      show _ = nI (if k = T.1 then _ else T.2 k)
      by_cases z : k = T.1
      · rw [z, zup_s, if_pos rfl]
      · rw [zup_k _ z, if_neg z]; exact t2 k (by have : k < T.1 + 1 := hk; omega)
    · intro b j h1 h2
      by_cases z : b = 1
      · rw [zup_k _ (h2 z), zup_n _ h1]
      · rw [zup_n _ z, zup_n _ h1]
theorem Tp_take_ok (h : WTp R n) (x : Int32) {T : Nat × (Nat → Nat)} (hT : tpC I T) (hl : (zput4 x T).1 ≤ 400) : ∃ I', Tp_take 1 x I R n = some (none, I', R, n) ∧ tpC I' (zput4 x T) ∧ ∀ b j, b ≠ 2 → (b = 1 → j ≠ 1) → I' b j = I b j := by
  unfold zput4 at hl ⊢
  have l3 : (zput (zbyte x 8) (zput (zbyte x 16) (zput (zbyte x 24) T))).1 ≤ 400 := by rw [zput_1] at hl; omega
  have l2 : (zput (zbyte x 16) (zput (zbyte x 24) T)).1 ≤ 400 := by rw [zput_1] at l3; omega
  have l1 : (zput (zbyte x 24) T).1 ≤ 400 := by rw [zput_1] at l2; omega
  obtain ⟨I1, e1, a1, f1⟩ := Tp_take_step (I := I) h x (show 24 < 32 by decide) hT l1
  obtain ⟨I2, e2, a2, f2⟩ := Tp_take_step (I := I1) h x (show 16 < 32 by decide) a1 l2
  obtain ⟨I3, e3, a3, f3⟩ := Tp_take_step (I := I2) h x (show 8 < 32 by decide) a2 l3
  obtain ⟨I4, e4, a4, f4⟩ := Tp_take_step (I := I3) h x (show 0 < 32 by decide) a3 hl
  refine ⟨I4, ?_, a4, fun b j h1 h2 => by rw [f4 b j h1 h2, f3 b j h1 h2, f2 b j h1 h2, f1 b j h1 h2]⟩
  rw [e_Tp_take, zs8.2.2.2.2, e1, ← zs8.2.2.2.2, zs8.1, e2, zs8.2.1, e3, zs8.2.2.1, e4, zs8.2.2.2.1, e_Tp_take_3, if_pos (by decide)]
theorem M_brings_step (h : WM R n) (x : Int32) {s : Nat} (hs : s = 0 ∨ s = 8 ∨ s = 16 ∨ s = 24) {T : Nat × (Nat → Nat)} (hT : tpM I T) (hl : (zput (zbyte x s) T).1 ≤ 400) : ∃ I', M_brings_3 195 x (nI s) I R n = M_brings_3 195 x (nI s + (-8)) I' R n ∧ tpM I' (zput (zbyte x s) T) ∧ ∀ b j, b ≠ 196 → (b = 195 → j ≠ 2) → I' b j = I b j := by
  obtain ⟨t1, t2⟩ := hT
  rw [zput_1] at hl
  rw [e_M_brings_3, if_neg (nI_pos (by omega)), zbyte_s x s hs]
  simp only [zbyte0]
  unfold zput
  by_cases q : zbyte x s = 0
  · rw [if_pos q, if_pos q]
    exact ⟨I, rfl, ⟨t1, t2⟩, fun _ _ _ _ => rfl⟩
  · rw [if_neg q] at hl
    rw [if_neg q, if_neg q]
    have i2 : zin 196 (nI T.1) = true := zin_nI (by show _ < 400; omega) (by omega)
    simp only [h.k, h.2, zc_t, zr_s, t1, i2, Bool.true_and, zix_nI (show T.1 < 2 ^ 31 by omega), zup_n _ (show (195 : Nat) ≠ 196 by decide), nI_1]
    refine ⟨_, rfl, ⟨zup_s _ _ _ _, ?_⟩, ?_⟩
    · intro k hk
      rw [zup_n _ (by decide)]
      show _ = (nI (if k = T.1 then _ else T.2 k)).toInt8.toInt32
      by_cases z : k = T.1
      · rw [z, zup_s, if_pos rfl]; simp
      · rw [zup_k _ z, if_neg z]; exact t2 k (by have : k < T.1 + 1 := hk; omega)
    · intro b j h1 h2
      by_cases z : b = 195
      · rw [zup_k _ (h2 z), zup_n _ h1]
      · rw [zup_n _ z, zup_n _ h1]
theorem M_brings_ok (h : WM R n) (x : Int32) {T : Nat × (Nat → Nat)} (hT : tpM I T) (hl : (zput4 x T).1 ≤ 400) : ∃ I', M_brings 195 x I R n = some (none, I', R, n) ∧ tpM I' (zput4 x T) ∧ ∀ b j, b ≠ 196 → (b = 195 → j ≠ 2) → I' b j = I b j := by
  unfold zput4 at hl ⊢
  have l3 : (zput (zbyte x 8) (zput (zbyte x 16) (zput (zbyte x 24) T))).1 ≤ 400 := by rw [zput_1] at hl; omega
  have l2 : (zput (zbyte x 16) (zput (zbyte x 24) T)).1 ≤ 400 := by rw [zput_1] at l3; omega
  have l1 : (zput (zbyte x 24) T).1 ≤ 400 := by rw [zput_1] at l2; omega
  obtain ⟨I1, e1, a1, f1⟩ := M_brings_step (I := I) h x (show 24 = 0 ∨ 24 = 8 ∨ 24 = 16 ∨ 24 = 24 by omega) hT l1
  obtain ⟨I2, e2, a2, f2⟩ := M_brings_step (I := I1) h x (show 16 = 0 ∨ 16 = 8 ∨ 16 = 16 ∨ 16 = 24 by omega) a1 l2
  obtain ⟨I3, e3, a3, f3⟩ := M_brings_step (I := I2) h x (show 8 = 0 ∨ 8 = 8 ∨ 8 = 16 ∨ 8 = 24 by omega) a2 l3
  obtain ⟨I4, e4, a4, f4⟩ := M_brings_step (I := I3) h x (show 0 = 0 ∨ 0 = 8 ∨ 0 = 16 ∨ 0 = 24 by omega) a3 hl
  refine ⟨I4, ?_, a4, fun b j h1 h2 => by rw [f4 b j h1 h2, f3 b j h1 h2, f2 b j h1 h2, f1 b j h1 h2]⟩
  rw [e_M_brings, zs8.2.2.2.2, e1, ← zs8.2.2.2.2, zs8.1, e2, zs8.2.1, e3, zs8.2.2.1, e4, zs8.2.2.2.1, e_M_brings_3, if_pos (by decide)]
end LTp
