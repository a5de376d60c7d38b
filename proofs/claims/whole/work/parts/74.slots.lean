/-! ===== a whole text on both sides ===== -/
def zs4 (g : Nat → Int32) : Nat → Int32
  | 0 => 0
  | k + 1 => zs4 g k + g k
theorem zs4_congr {f g : Nat → Int32} : ∀ {k : Nat}, (∀ i, i < k → f i = g i) → zs4 f k = zs4 g k
  | 0, _ => rfl
  | k + 1, h => by
    show zs4 f k + f k = zs4 g k + g k
    rw [zs4_congr (fun i hi => h i (by omega)), h k (by omega)]
def zD0 (T : Nat × (Nat → Nat)) (L : Nat) (C M : ZI) (Wk : Nat) : Prop := (tpC C T ∧ tpM M T) ∧ (C 3 2 = nI 0 ∧ M 195 16 = nI 0) ∧ zRu C M L ∧ (M 197 6 = nI Wk ∧ Wk ≤ 6) ∧ C L 8 = nI 0 ∧ M 195 15 = nI 0
def zS0 (C M : ZI) (L k S : Nat) : Prop := (∀ i, i < k → ∃ v, v ≤ 3 ∧ C (L + 1) i = nI v ∧ M 197 i = nI v) ∧ S ≤ 3 * k ∧ C L 9 = nI S ∧ zs4 (M 197) k = nI S
section LRs
variable {R R' : ZR} {n n' L : Nat} {T : Nat × (Nat → Nat)}
theorem zslot_bad (hM : WM R' n') {M : ZI} (x : Int32) {k : Nat} (hk : k ≤ 4) (m4 : ¬ M 195 4 = -1) : M_slots_22 195 x (nI k) M R' n' = some (none, M, R', n') := by
  have t4 : (4 : Int32) = nI 4 := by decide
  rw [e_M_slots_22]
  simp only [hM.k, zc_t, if_neg m4]
  by_cases q : nI k < (4 : Int32)
  · rw [if_pos q]
  · rw [if_neg q]
theorem zslots (h : WRd R n) (hM : WM R' n') (hL : WL R n L) (r31 : R 3 1 = some L) (hz : zTp T) {Wk : Nat} : ∀ d k (C M : ZI) a S, k + d = 3 → zD0 T L C M Wk → zS0 C M L k S → a ≤ T.1 → C 3 5 = nI a → M 195 3 = nI a → M 195 4 = -1 → ∃ v C' M', Rd_readSlots_17 3 (nI k) C R n = some (some (.int v), C', R, n) ∧ M_slots_22 195 (nI S) (nI k) M R' n' = some (none, M', R', n') ∧ zFC L C C' ∧ zFM M M' ∧ ((v = 0 ∧ zBad T C' M') ∨ (v = 1 ∧ ∃ a', a ≤ a' ∧ zGG T L C' M' a' 0 0 Wk)) := by
  have hl := isL_i hL.2.1
  have hl4 := hz.1
  have t4 : (4 : Int32) = nI 4 := by decide
  have o1 : (1 : Int64) = Int32.toInt64 (nI 1) := by decide
  have o6 : (6 : Int64) = Int32.toInt64 (nI 6) := by decide
  intro d
  induction d with
  | zero =>
    intro k C M a S hk D0 S0 ha c5 m3 m4
    have hk3 : k = 3 := by omega
    subst hk3
    obtain ⟨⟨t1, t2⟩, ⟨u2, u3⟩, r, ⟨w1, w2⟩, p2, p3⟩ := D0
    obtain ⟨s1, s2, s3, s4⟩ := S0
    have hs := zsk_le T ha
    have hx := znx_le T hs.1
    have hkk : zsk T (zsk T a) = zsk T a := zsk_zsk a
    obtain ⟨C1, e1, k1, f1⟩ := Rd_step_ok (R := R) (n := n) h hz ha t1 c5
    have fc1 : ∀ b j, b ≠ 3 → C1 b j = C b j := fun b j hb => f1 b j (fun z => absurd z hb)
    have nu := Rd_isNumber_ok (R := R) (n := n) h hz hs.1 k1 (d := 1) (lo := 0) (hi := 3) (x1 := 1) (x2 := 0) (x3 := 3) (by decide) (by decide) (by decide) (by decide) (by decide) (by decide)
    obtain ⟨M1, q1, a1, g1⟩ := M_look_ok2 (R := R') (n := n') hM hz ha t2 m3
    have tm1 : tpM M1 T := tpM_fr t2 (fun b j hb _ => g1 b j (fun z => (hb z).1))
    obtain ⟨M2, q2, a2, b2, g2⟩ := M_number_ok (R := R') (n := n') hM hz hs.1 tm1 a1 (d := 1) (lo := 0) (hi := 3) (x1 := 1) (x2 := 0) (x3 := 3) (by decide) (by decide) (by decide) (by decide) (by decide) (by decide)
    rw [hkk] at q2 a2 b2
    rw [g1 195 4 (by decide), m4] at b2
    have fm2 : ∀ b j, (b = 195 → j ≠ 3 ∧ j ≠ 4) → M2 b j = M b j := fun b j hb => by rw [g2 b j hb, g1 b j (fun z => (hb z).1)]
    have i1 : zin (L + 1) (nI 3) = true := zin_of hL.ln.1 (by decide) (by decide)
    have i2 : zin 197 (nI 3) = true := zin_nI (by decide) (by decide)
    have c9 : C1 L 9 = nI S := by rw [fc1 L 9 (by omega)]; exact s3
    have stC := e_Rd_readSlots_17 3 (nI 3) C R n
    rw [t4, if_pos (nI_lt (show 3 < 4 by decide) (by decide))] at stC
    simp only [h.k, hL.k, hL.r, r31, zc_t, zr_s, e1, zbV_s, nu, zbI_s, i1, Bool.true_and, zix_nI (show 3 < 2 ^ 31 by decide), nI_1] at stC
    have stM := e_M_slots_22 195 (nI S) (nI 3) M R' n'
    rw [t4, if_pos (nI_lt (show 3 < 4 by decide) (by decide))] at stM
    simp only [hM.k, hM.2, zc_t, zr_s, if_pos m4, q1, zbI_s, a1, q2, i2, Bool.true_or, Bool.true_and, zix_nI (show 3 < 2 ^ 31 by decide), zup_s, nI_add, if_pos (show nI 3 = 3 by decide), M_isIn_ok, o1, o6, zl64, nI_1] at stM
    cases hn : znum T (zsk T a) 1 0 3 with
    | false =>
      rw [hn, if_pos (show zbo false = 0 by decide)] at stC
      rw [hn, if_neg (by decide), if_pos rfl] at b2
      have b2' : (zup M2 197 3 (nI (zvl T (zsk T a)))) 195 4 = nI (zsk T a) := by rw [zup_n _ (by decide)]; exact b2
      have nb : ¬ (zup M2 197 3 (nI (zvl T (zsk T a)))) 195 4 = -1 := by rw [b2']; exact nI_nm1 (by omega)
      have fr : zFM M (zup M2 197 3 (nI (zvl T (zsk T a)))) := fun b j h1 h2 => by rw [zup_n _ (by omega), fm2 b j (fun z => ⟨(h2 z).1, (h2 z).2.1⟩)]
      obtain ⟨M4, q4, a4, g4⟩ := M_fails_ok (R := R') (n := n') (I := zup M2 197 3 (nI (zvl T (zsk T a)))) hM (nI (zsk T a))
      rw [if_neg nb, b2'] at a4
      have fr4 : zFM M M4 := fun b j h1 h2 => by rw [g4 b j (fun z => (h2 z).2.1), fr b j h1 h2]
      simp only [q4, zbV_s, zslot_bad hM _ (show 3 + 1 ≤ 4 by decide) nb, zslot_bad hM (M := M4) _ (show 3 + 1 ≤ 4 by decide) (by rw [a4]; exact nI_nm1 (by omega))] at stM
      by_cases q : (if nI (S + zvl T (zsk T a)) < nI 1 then (0 : Int32) else if nI 6 < nI (S + zvl T (zsk T a)) then 0 else 1) = 0
      · rw [if_pos q] at stM
        exact ⟨0, C1, M4, stC, stM, fun b j h1 _ => fc1 b j h1, fr4, Or.inl ⟨rfl, _, hs.1, k1.2.1, a4⟩⟩
      · rw [if_neg q] at stM
        exact ⟨0, C1, _, stC, stM, fun b j h1 _ => fc1 b j h1, fr, Or.inl ⟨rfl, _, hs.1, k1.2.1, b2'⟩⟩
    | true =>
      rw [hn, if_neg (show ¬ zbo true = 0 by decide)] at stC
      rw [hn, if_pos rfl] at b2
      have hnn := hn
      unfold znum at hnn
      rw [Bool.and_eq_true, Bool.and_eq_true, Bool.and_eq_true] at hnn
      have kv : C1 3 6 = nI (zvl T (zsk T a)) := k1.2.2.2 (of_decide_eq_true hnn.1)
      have v2 := of_decide_eq_true hnn.2.2.2
      have a2' := a2 hn
      have x9 : (zup C1 (L + 1) 3 (C1 3 6)) L 9 = nI S := by rw [zup_n _ (by omega)]; exact c9
      have x6 : (zup C1 (L + 1) 3 (C1 3 6)) 3 6 = nI (zvl T (zsk T a)) := by rw [zup_n _ (by omega)]; exact kv
      rw [x9, x6, kv, nI_add] at stC
      generalize zvl T (zsk T a) = v at stC stM v2
      have fc4 : ∀ b j, b ≠ 3 → ¬ (b = L + 1 ∧ j = 3) → ¬ (b = L ∧ j = 9) → (zup (zup C1 (L + 1) 3 (nI v)) L 9 (nI (S + v))) b j = C b j := fun b j h1 h2 h3 => by
        by_cases z : b = L
        · rw [zup_k _ (by omega), zup_n _ (by omega), fc1 b j h1]
        · rw [zup_n _ z]
          by_cases y : b = L + 1
          · rw [zup_k _ (by omega), fc1 b j h1]
          · rw [zup_n _ y, fc1 b j h1]
      have fm4 : ∀ b j, (b = 195 → j ≠ 3 ∧ j ≠ 4) → ¬ (b = 197 ∧ j = 3) → (zup M2 197 3 (nI v)) b j = M b j := fun b j h1 h2 => by
        by_cases z : b = 197
        · rw [zup_k _ (by omega), fm2 b j h1]
        · rw [zup_n _ z, fm2 b j h1]
      have y9 : (zup (zup C1 (L + 1) 3 (nI v)) L 9 (nI (S + v))) L 9 = nI (S + v) := zup_s _ _ _ _
      have y34 : (zup (zup C1 (L + 1) 3 (nI v)) L 9 (nI (S + v))) 3 4 = nI (zsk T a) := by rw [zup_n _ (by omega), zup_n _ (by omega)]; exact k1.2.1
      have y35 : (zup (zup C1 (L + 1) 3 (nI v)) L 9 (nI (S + v))) 3 5 = nI (znx T (zsk T a)) := by rw [zup_n _ (by omega), zup_n _ (by omega)]; exact k1.2.2.1
      have y32 : (zup (zup C1 (L + 1) 3 (nI v)) L 9 (nI (S + v))) 3 2 = nI 0 := by rw [zup_n _ (by omega), zup_n _ (by omega), f1 3 2 (by decide)]; exact u2
      have y13 : (zup (zup C1 (L + 1) 3 (nI v)) L 9 (nI (S + v))) (L + 1) 3 = nI v := by rw [zup_n _ (by omega), zup_s]
      generalize zup (zup C1 (L + 1) 3 (nI v)) L 9 (nI (S + v)) = C2 at stC fc4 y9 y34 y35 y32 y13
      have z3 : (zup M2 197 3 (nI v)) 195 3 = nI (znx T (zsk T a)) := by rw [zup_n _ (by decide)]; exact a2'
      have z4 : (zup M2 197 3 (nI v)) 195 4 = -1 := by rw [zup_n _ (by decide)]; exact b2
      have z7 : (zup M2 197 3 (nI v)) 197 3 = nI v := zup_s _ _ _ _
      generalize zup M2 197 3 (nI v) = M3 at stM fm4 z3 z4 z7
      have fcl : zFC L C C2 := fun b j h1 h2 => fc4 b j h1 (by omega) (by omega)
      have fml : zFM M M3 := fun b j h1 h2 => fm4 b j (fun z => ⟨(h2 z).1, (h2 z).2.1⟩) (by omega)
      obtain ⟨M4, q4, a4, g4⟩ := M_fails_ok (R := R') (n := n') (I := M3) hM (nI (zsk T a))
      rw [if_pos z4] at a4
      have fml4 : zFM M M4 := fun b j h1 h2 => by rw [g4 b j (fun z => (h2 z).2.1), fml b j h1 h2]
      have e4C := e_Rd_readSlots_17 3 (nI (3 + 1)) C2 R n
      rw [t4, if_neg (nI_nlt (Nat.le_refl _) (by decide))] at e4C
      simp only [h.k, hL.k, r31, zc_t, zr_s, y9] at e4C
      have t1' : (1 : Int32) = nI 1 := by decide
      have t6' : (6 : Int32) = nI 6 := by decide
      simp only [t6', nI_ltI (show 6 < 2 ^ 31 by decide) (show S + v < 2 ^ 31 by omega)] at e4C
      have l1 : (nI (S + v) < (1 : Int32)) ↔ S + v < 1 := by rw [t1']; exact nI_ltI (by omega) (by decide)
      simp only [l1] at e4C
      simp only [nI_ltI (show S + v < 2 ^ 31 by omega) (show 1 < 2 ^ 31 by decide), nI_ltI (show 6 < 2 ^ 31 by decide) (show S + v < 2 ^ 31 by omega), q4, zbV_s, zslot_bad hM (M := M4) _ (show 3 + 1 ≤ 4 by decide) (by rw [a4]; exact nI_nm1 (by omega))] at stM
      by_cases c1 : S + v < 1
      · rw [if_pos c1] at e4C
        rw [if_pos c1, if_pos rfl] at stM
        exact ⟨0, C2, M4, stC.trans e4C, stM, fcl, fml4, Or.inl ⟨rfl, _, hs.1, y34, a4⟩⟩
      · rw [if_neg c1] at e4C stM
        by_cases c2 : 6 < S + v
        · rw [if_pos c2] at e4C
          rw [if_pos c2, if_pos rfl] at stM
          exact ⟨0, C2, M4, stC.trans e4C, stM, fcl, fml4, Or.inl ⟨rfl, _, hs.1, y34, a4⟩⟩
        · rw [if_neg c2] at e4C
          rw [if_neg c2, if_neg (by decide)] at stM
          have e4M := e_M_slots_22 195 (nI (S + v)) (nI (3 + 1)) M3 R' n'
          rw [t4, if_neg (nI_nlt (Nat.le_refl _) (by decide))] at e4M
          refine ⟨1, C2, M3, stC.trans e4C, stM.trans e4M, fcl, fml, Or.inr ⟨rfl, znx T (zsk T a), by omega, ⟨⟨⟨?_, ?_⟩, ⟨?_, ?_⟩⟩, ⟨by decide, y32, ?_⟩, ?_, ⟨?_, w2⟩, ⟨?_, S + v, by omega, by omega, y9, ?_⟩, ⟨by decide, ?_, ?_⟩, fun i hi => by omega⟩, hx.1, y35, z3, z4⟩⟩
          · rw [fc4 1 1 (by decide) (by omega) (by omega)]; exact t1.1
          · intro i hi; rw [fc4 2 i (by decide) (by omega) (by omega)]; exact t1.2 i hi
          · rw [fm4 195 2 (by decide) (by decide)]; exact t2.1
          · intro i hi; rw [fm4 196 i (by omega) (by omega)]; exact t2.2 i hi
          · rw [fm4 195 16 (by decide) (by decide)]; exact u3
          · intro k hk
            obtain ⟨v', y1, y2, y3, y4⟩ := r k hk
            exact ⟨v', y1, y2, by rw [fc4 _ _ (by omega) (by omega) (by omega)]; exact y3, by rw [fm4 _ _ (by omega) (by omega)]; exact y4⟩
          · rw [fm4 _ _ (by decide) (by decide)]; exact w1
          · intro k hk
            by_cases e : k = 3
            · subst e; exact ⟨v, v2, y13, z7⟩
            · obtain ⟨v', y1, y3, y4⟩ := s1 k (by omega)
              exact ⟨v', y1, by rw [fc4 _ _ (by omega) (by omega) (by omega)]; exact y3, by rw [fm4 _ _ (by omega) (by omega)]; exact y4⟩
          · have e3 : M3 197 0 + M3 197 1 + M3 197 2 = nI S := by
              rw [fm4 197 0 (by decide) (by decide), fm4 197 1 (by decide) (by decide), fm4 197 2 (by decide) (by decide), ← s4]
              show _ = 0 + M 197 0 + M 197 1 + M 197 2
              rw [Int32.zero_add]
            rw [e3, z7, nI_add]
          · rw [fc4 _ _ (by omega) (by omega) (by omega)]; exact p2
          · rw [fm4 _ _ (by decide) (by decide)]; exact p3
  | succ d ih =>
    intro k C M a S hk D0 S0 ha c5 m3 m4
    have hk3 : k < 3 := by omega
    obtain ⟨⟨t1, t2⟩, ⟨u2, u3⟩, r, ⟨w1, w2⟩, p2, p3⟩ := D0
    obtain ⟨s1, s2, s3, s4⟩ := S0
    have hs := zsk_le T ha
    have hx := znx_le T hs.1
    have hkk : zsk T (zsk T a) = zsk T a := zsk_zsk a
    obtain ⟨C1, e1, k1, f1⟩ := Rd_step_ok (R := R) (n := n) h hz ha t1 c5
    have fc1 : ∀ b j, b ≠ 3 → C1 b j = C b j := fun b j hb => f1 b j (fun z => absurd z hb)
    have nu := Rd_isNumber_ok (R := R) (n := n) h hz hs.1 k1 (d := 1) (lo := 0) (hi := 3) (x1 := 1) (x2 := 0) (x3 := 3) (by decide) (by decide) (by decide) (by decide) (by decide) (by decide)
    obtain ⟨M1, q1, a1, g1⟩ := M_look_ok2 (R := R') (n := n') hM hz ha t2 m3
    have tm1 : tpM M1 T := tpM_fr t2 (fun b j hb _ => g1 b j (fun z => (hb z).1))
    obtain ⟨M2, q2, a2, b2, g2⟩ := M_number_ok (R := R') (n := n') hM hz hs.1 tm1 a1 (d := 1) (lo := 0) (hi := 3) (x1 := 1) (x2 := 0) (x3 := 3) (by decide) (by decide) (by decide) (by decide) (by decide) (by decide)
    rw [hkk] at q2 a2 b2
    rw [g1 195 4 (by decide), m4] at b2
    have fm2 : ∀ b j, (b = 195 → j ≠ 3 ∧ j ≠ 4) → M2 b j = M b j := fun b j hb => by rw [g2 b j hb, g1 b j (fun z => (hb z).1)]
    have i1 : zin (L + 1) (nI k) = true := zin_of hL.ln.1 (by omega) (by decide)
    have i2 : zin 197 (nI k) = true := zin_nI (by show _ < 10; omega) (by omega)
    have c9 : C1 L 9 = nI S := by rw [fc1 L 9 (by omega)]; exact s3
    have n3 : ¬ nI k = 3 := by
      have t3 : (3 : Int32) = nI 3 := by decide
      rw [t3, nI_eq (by omega) (by decide)]; omega
    have stC := e_Rd_readSlots_17 3 (nI k) C R n
    rw [t4, if_pos (nI_lt (show k < 4 by omega) (by decide))] at stC
    simp only [h.k, hL.k, hL.r, r31, zc_t, zr_s, e1, zbV_s, nu, zbI_s, i1, Bool.true_and, zix_nI (show k < 2 ^ 31 by omega), nI_1] at stC
    have stM := e_M_slots_22 195 (nI S) (nI k) M R' n'
    rw [t4, if_pos (nI_lt (show k < 4 by omega) (by decide))] at stM
    simp only [hM.k, hM.2, zc_t, zr_s, if_pos m4, q1, zbI_s, a1, q2, i2, Bool.true_or, Bool.true_and, zix_nI (show k < 2 ^ 31 by omega), zup_s, nI_add, if_neg n3, nI_1] at stM
    cases hn : znum T (zsk T a) 1 0 3 with
    | false =>
      rw [hn, if_pos (show zbo false = 0 by decide)] at stC
      rw [hn, if_neg (by decide), if_pos rfl] at b2
      have b2' : (zup M2 197 k (nI (zvl T (zsk T a)))) 195 4 = nI (zsk T a) := by rw [zup_n _ (by decide)]; exact b2
      have nb : ¬ (zup M2 197 k (nI (zvl T (zsk T a)))) 195 4 = -1 := by rw [b2']; exact nI_nm1 (by omega)
      have fr : zFM M (zup M2 197 k (nI (zvl T (zsk T a)))) := fun b j h1 h2 => by rw [zup_n _ (by omega), fm2 b j (fun z => ⟨(h2 z).1, (h2 z).2.1⟩)]
      have e5 := zslot_bad hM (nI (S + zvl T (zsk T a))) (show k + 1 ≤ 4 by omega) nb
      exact ⟨0, C1, _, stC, stM.trans e5, fun b j h1 _ => fc1 b j h1, fr, Or.inl ⟨rfl, _, hs.1, k1.2.1, b2'⟩⟩
    | true =>
      rw [hn, if_neg (show ¬ zbo true = 0 by decide)] at stC
      rw [hn, if_pos rfl] at b2
      have hnn := hn
      unfold znum at hnn
      rw [Bool.and_eq_true, Bool.and_eq_true, Bool.and_eq_true] at hnn
      have kv : C1 3 6 = nI (zvl T (zsk T a)) := k1.2.2.2 (of_decide_eq_true hnn.1)
      have v2 := of_decide_eq_true hnn.2.2.2
      have a2' := a2 hn
      have x9 : (zup C1 (L + 1) k (C1 3 6)) L 9 = nI S := by rw [zup_n _ (by omega)]; exact c9
      have x6 : (zup C1 (L + 1) k (C1 3 6)) 3 6 = nI (zvl T (zsk T a)) := by rw [zup_n _ (by omega)]; exact kv
      rw [x9, x6, kv, nI_add] at stC
      generalize zvl T (zsk T a) = v at stC stM v2
      have fc4 : ∀ b j, b ≠ 3 → ¬ (b = L + 1 ∧ j = k) → ¬ (b = L ∧ j = 9) → (zup (zup C1 (L + 1) k (nI v)) L 9 (nI (S + v))) b j = C b j := fun b j h1 h2 h3 => by
        by_cases z : b = L
        · rw [zup_k _ (by omega), zup_n _ (by omega), fc1 b j h1]
        · rw [zup_n _ z]
          by_cases y : b = L + 1
          · rw [zup_k _ (by omega), fc1 b j h1]
          · rw [zup_n _ y, fc1 b j h1]
      have fm4 : ∀ b j, (b = 195 → j ≠ 3 ∧ j ≠ 4) → ¬ (b = 197 ∧ j = k) → (zup M2 197 k (nI v)) b j = M b j := fun b j h1 h2 => by
        by_cases z : b = 197
        · rw [zup_k _ (by omega), fm2 b j h1]
        · rw [zup_n _ z, fm2 b j h1]
      have y9 : (zup (zup C1 (L + 1) k (nI v)) L 9 (nI (S + v))) L 9 = nI (S + v) := zup_s _ _ _ _
      have y35 : (zup (zup C1 (L + 1) k (nI v)) L 9 (nI (S + v))) 3 5 = nI (znx T (zsk T a)) := by rw [zup_n _ (by omega), zup_n _ (by omega)]; exact k1.2.2.1
      have y32 : (zup (zup C1 (L + 1) k (nI v)) L 9 (nI (S + v))) 3 2 = nI 0 := by rw [zup_n _ (by omega), zup_n _ (by omega), f1 3 2 (by decide)]; exact u2
      have y13 : (zup (zup C1 (L + 1) k (nI v)) L 9 (nI (S + v))) (L + 1) k = nI v := by rw [zup_n _ (by omega), zup_s]
      generalize zup (zup C1 (L + 1) k (nI v)) L 9 (nI (S + v)) = C2 at stC fc4 y9 y35 y32 y13
      have z3 : (zup M2 197 k (nI v)) 195 3 = nI (znx T (zsk T a)) := by rw [zup_n _ (by decide)]; exact a2'
      have z4 : (zup M2 197 k (nI v)) 195 4 = -1 := by rw [zup_n _ (by decide)]; exact b2
      have z7 : (zup M2 197 k (nI v)) 197 k = nI v := zup_s _ _ _ _
      generalize zup M2 197 k (nI v) = M3 at stM fm4 z3 z4 z7
      have D1 : zD0 T L C2 M3 Wk := by
        refine ⟨⟨⟨?_, ?_⟩, ⟨?_, ?_⟩⟩, ⟨y32, ?_⟩, ?_, ⟨?_, w2⟩, ?_, ?_⟩
        · rw [fc4 1 1 (by decide) (by omega) (by omega)]; exact t1.1
        · intro i hi; rw [fc4 2 i (by decide) (by omega) (by omega)]; exact t1.2 i hi
        · rw [fm4 195 2 (by decide) (by omega)]; exact t2.1
        · intro i hi; rw [fm4 196 i (by omega) (by omega)]; exact t2.2 i hi
        · rw [fm4 195 16 (by decide) (by omega)]; exact u3
        · intro k' hk'
          obtain ⟨v', y1, y2, y3, y4⟩ := r k' hk'
          exact ⟨v', y1, y2, by rw [fc4 _ _ (by omega) (by omega) (by omega)]; exact y3, by rw [fm4 _ _ (by omega) (by omega)]; exact y4⟩
        · rw [fm4 _ _ (by decide) (by omega)]; exact w1
        · rw [fc4 _ _ (by omega) (by omega) (by omega)]; exact p2
        · rw [fm4 _ _ (by decide) (by omega)]; exact p3
      have S1 : zS0 C2 M3 L (k + 1) (S + v) := by
        refine ⟨fun i hi => ?_, by omega, y9, ?_⟩
        · by_cases e : i = k
          · subst e; exact ⟨v, v2, y13, z7⟩
          · obtain ⟨v', y1, y3, y4⟩ := s1 i (by omega)
            exact ⟨v', y1, by rw [fc4 _ _ (by omega) (by omega) (by omega)]; exact y3, by rw [fm4 _ _ (by omega) (by omega)]; exact y4⟩
        · show zs4 (M3 197) k + M3 197 k = _
          rw [zs4_congr (g := M 197) (fun i hi => fm4 197 i (by omega) (by omega)), s4, z7, nI_add]
      obtain ⟨v', C', M', eC, eM, fC, fM, out⟩ := ih (k + 1) C2 M3 (znx T (zsk T a)) (S + v) (by omega) D1 S1 hx.1 y35 z3 z4
      refine ⟨v', C', M', stC.trans eC, stM.trans eM, ?_, ?_, ?_⟩
      · intro b j h1 h2
        rw [fC b j h1 h2, fc4 b j h1 (by omega) (by omega)]
      · intro b j h1 h2
        rw [fM b j h1 h2, fm4 b j (fun z => ⟨(h2 z).1, (h2 z).2.1⟩) (by omega)]
      · rcases out with o | ⟨o1, a', o2, o3⟩
        · exact Or.inl o
        · exact Or.inr ⟨o1, a', by omega, o3⟩
end LRs
