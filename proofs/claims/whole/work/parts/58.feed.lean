/-! ===== feed and end ===== -/
def zfed (a b c d e : Int32) (T : Nat × (Nat → Nat)) : Nat × (Nat → Nat) := zput4 e (zput4 d (zput4 c (zput4 b (zput4 a T))))
def zfbn (a b c d e : Int32) : Nat := zbn a + zbn b + zbn c + zbn d + zbn e
theorem zbn_le (x : Int32) : zbn x ≤ 4 := by
  unfold zbn
  have : ∀ p : Nat, (if p = 0 then 0 else 1) ≤ 1 := fun p => by split <;> omega
  have h1 := this (zbyte x 24)
  have h2 := this (zbyte x 16)
  have h3 := this (zbyte x 8)
  have h4 := this (zbyte x 0)
  omega
theorem zfed_1 (a b c d e : Int32) (T : Nat × (Nat → Nat)) : (zfed a b c d e T).1 = T.1 + zfbn a b c d e := by
  unfold zfed zfbn
  rw [zput4_1, zput4_1, zput4_1, zput4_1, zput4_1]
  omega
section LF
variable {I : ZI} {R : ZR} {n : Nat}
theorem C_feed_ok (hn : 4 < n) (r00 : R 0 0 = some 1) (h : WTp R n) {T : Nat × (Nat → Nat)} (hT : tpC I T) (hl : T.1 ≤ 400) (a b c d e : Int32) : ∃ I', C_feed 0 a b c d e I R n = some (some (.int (if 400 < T.1 + zfbn a b c d e then -1 else nI (T.1 + zfbn a b c d e))), I', R, n) ∧ tpC I' (if 400 < T.1 + zfbn a b c d e then T else zfed a b c d e T) ∧ ∀ b j, b ≠ 2 → (b = 1 → j ≠ 1) → I' b j = I b j := by
  have k0 : zis n 0 8 = true := zis_lit (by omega) (by decide)
  have k1 : zis n 1 6 = true := zis_lit (by omega) (by decide)
  have ha := zbn_le a
  have hb := zbn_le b
  have hc := zbn_le c
  have hd := zbn_le d
  have he := zbn_le e
  have e4 : (400 : Int32) = nI 400 := by decide
  have es : nI T.1 + (nI (zbn a) + nI (zbn b) + nI (zbn c) + nI (zbn d) + nI (zbn e)) = nI (T.1 + zfbn a b c d e) := by
    rw [nI_add, nI_add, nI_add, nI_add, nI_add]; rfl
  have hf : zfbn a b c d e ≤ 20 := by unfold zfbn; omega
  have lt : (400 : Int32) < nI (T.1 + zfbn a b c d e) ↔ 400 < T.1 + zfbn a b c d e := by rw [e4]; exact nI_ltI (by omega) (by omega)
  have st := e_C_feed 0 a b c d e I R n
  simp only [Tp_bytesIn_ok, zbI_s, k0, k1, r00, zc_t, zr_s, hT.1, es, lt] at st
  by_cases q : 400 < T.1 + zfbn a b c d e
  · rw [if_pos q] at st ⊢
    rw [if_pos q]
    exact ⟨I, st, hT, fun _ _ _ _ => rfl⟩
  · rw [if_neg q] at st ⊢
    rw [if_neg q]
    have q1 : T.1 + zfbn a b c d e ≤ 400 := by omega
    unfold zfbn at q1
    obtain ⟨I1, e1, a1, f1⟩ := Tp_take_ok (I := I) h a hT (by rw [zput4_1]; omega)
    obtain ⟨I2, e2, a2, f2⟩ := Tp_take_ok (I := I1) h b a1 (by rw [zput4_1, zput4_1]; omega)
    obtain ⟨I3, e3, a3, f3⟩ := Tp_take_ok (I := I2) h c a2 (by rw [zput4_1, zput4_1, zput4_1]; omega)
    obtain ⟨I4, e4, a4, f4⟩ := Tp_take_ok (I := I3) h d a3 (by rw [zput4_1, zput4_1, zput4_1, zput4_1]; omega)
    obtain ⟨I5, e5, a5, f5⟩ := Tp_take_ok (I := I4) h e a4 (by rw [zput4_1, zput4_1, zput4_1, zput4_1, zput4_1]; omega)
    simp only [e1, e2, e3, e4, e5, zbV_s, k0, k1, r00, zc_t, zr_s, a5.1] at st
    refine ⟨I5, ?_, a5, fun b j h1 h2 => by rw [f5 b j h1 h2, f4 b j h1 h2, f3 b j h1 h2, f2 b j h1 h2, f1 b j h1 h2]⟩
    rw [st, ← zfed_1]
    rfl
theorem M_feed_ok (h : WM R n) {T : Nat × (Nat → Nat)} (hT : tpM I T) (hl : T.1 ≤ 400) (a b c d e : Int32) : ∃ I', M_feed 195 a b c d e I R n = some (some (.int (if 400 < T.1 + zfbn a b c d e then -1 else nI (T.1 + zfbn a b c d e))), I', R, n) ∧ tpM I' (if 400 < T.1 + zfbn a b c d e then T else zfed a b c d e T) ∧ I' 195 0 = 0 ∧ ∀ b j, b ≠ 196 → (b = 195 → j ≠ 0 ∧ j ≠ 2) → I' b j = I b j := by
  have ha := zbn_le a
  have hb := zbn_le b
  have hc := zbn_le c
  have hd := zbn_le d
  have he := zbn_le e
  have e4 : (400 : Int32) = nI 400 := by decide
  have es : nI T.1 + nI (zbn a) + nI (zbn b) + nI (zbn c) + nI (zbn d) + nI (zbn e) = nI (T.1 + zfbn a b c d e) := by
    rw [nI_add, nI_add, nI_add, nI_add, nI_add]
    unfold zfbn
    congr 1
    omega
  have hf : zfbn a b c d e ≤ 20 := by unfold zfbn; omega
  have lt : (400 : Int32) < nI (T.1 + zfbn a b c d e) ↔ 400 < T.1 + zfbn a b c d e := by rw [e4]; exact nI_ltI (by omega) (by omega)
  have hT0 : tpM (zup I 195 0 0) T := ⟨by rw [zup_k _ (by decide)]; exact hT.1, fun k hk => by rw [zup_n _ (by decide)]; exact hT.2 k hk⟩
  have fr0 : ∀ b j, b ≠ 196 → (b = 195 → j ≠ 0 ∧ j ≠ 2) → (zup I 195 0 0) b j = I b j := fun b j h1 h2 => by
    by_cases z : b = 195
    · rw [zup_k _ (h2 z).1]
    · rw [zup_n _ z]
  have st := e_M_feed 195 a b c d e I R n
  simp only [h.k, M_bytesOf_ok, zbI_s, zc_t, hT0.1, es, lt] at st
  by_cases q : 400 < T.1 + zfbn a b c d e
  · rw [if_pos q] at st ⊢
    rw [if_pos q]
    exact ⟨_, st, hT0, zup_s _ _ _ _, fr0⟩
  · rw [if_neg q] at st ⊢
    rw [if_neg q]
    have q1 : T.1 + zfbn a b c d e ≤ 400 := by omega
    unfold zfbn at q1
    obtain ⟨I1, e1, a1, f1⟩ := M_brings_ok (I := zup I 195 0 0) h a hT0 (by rw [zput4_1]; omega)
    obtain ⟨I2, e2, a2, f2⟩ := M_brings_ok (I := I1) h b a1 (by rw [zput4_1, zput4_1]; omega)
    obtain ⟨I3, e3, a3, f3⟩ := M_brings_ok (I := I2) h c a2 (by rw [zput4_1, zput4_1, zput4_1]; omega)
    obtain ⟨I4, e4, a4, f4⟩ := M_brings_ok (I := I3) h d a3 (by rw [zput4_1, zput4_1, zput4_1, zput4_1]; omega)
    obtain ⟨I5, e5, a5, f5⟩ := M_brings_ok (I := I4) h e a4 (by rw [zput4_1, zput4_1, zput4_1, zput4_1, zput4_1]; omega)
    simp only [e1, e2, e3, e4, e5, zbV_s, h.k, zc_t, a5.1] at st
    have fall : ∀ b j, b ≠ 196 → (b = 195 → j ≠ 2) → I5 b j = (zup I 195 0 0) b j := fun b j h1 h2 => by rw [f5 b j h1 h2, f4 b j h1 h2, f3 b j h1 h2, f2 b j h1 h2, f1 b j h1 h2]
    refine ⟨I5, ?_, a5, ?_, ?_⟩
    · rw [st, ← zfed_1]; rfl
    · rw [fall 195 0 (by decide) (fun _ => by decide), zup_s]
    · intro b j h1 h2
      rw [fall b j h1 (fun z => (h2 z).2), fr0 b j h1 h2]
theorem zfed_ok {a b c d e : Int32} {T : Nat × (Nat → Nat)} (h : zTp T) (hl : (zfed a b c d e T).1 ≤ 400) : zTp (zfed a b c d e T) := by
  have p4 : ∀ x T, zTp T → (zput4 x T).1 ≤ 400 → zTp (zput4 x T) := by
    intro x T h hl
    unfold zput4 at hl ⊢
    have l3 : (zput (zbyte x 8) (zput (zbyte x 16) (zput (zbyte x 24) T))).1 ≤ 400 := by rw [zput_1] at hl; omega
    have l2 : (zput (zbyte x 16) (zput (zbyte x 24) T)).1 ≤ 400 := by rw [zput_1] at l3; omega
    have l1 : (zput (zbyte x 24) T).1 ≤ 400 := by rw [zput_1] at l2; omega
    exact zput_ok (zbyte_lt _ _) (zput_ok (zbyte_lt _ _) (zput_ok (zbyte_lt _ _) (zput_ok (zbyte_lt _ _) h l1) l2) l3) hl
  have hf := zfed_1 a b c d e T
  unfold zfbn at hf
  have hl2 := hl
  unfold zfed at hl2 ⊢
  exact p4 _ _ (p4 _ _ (p4 _ _ (p4 _ _ (p4 _ _ h (by rw [zput4_1]; omega)) (by rw [zput4_1, zput4_1]; omega)) (by rw [zput4_1, zput4_1, zput4_1]; omega)) (by rw [zput4_1, zput4_1, zput4_1, zput4_1]; omega)) hl2
end LF
