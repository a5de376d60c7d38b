/-! ===== the draft of a league: the class's reader and the reference's scanner side by side ===== -/
def zrDg (k : Nat) : Nat := bif Nat.beq k 0 then 3 else bif Nat.ble k 3 then 1 else 3
def zrLo (k : Nat) : Nat := bif Nat.beq k 3 then 0 else bif Nat.beq k 5 then 0 else 1
def zrHi (k : Nat) : Nat := bif Nat.beq k 0 then 599 else bif Nat.ble k 2 then 6 else bif Nat.beq k 3 then 9 else 99
def zPl (C M : ZI) (L Wk i : Nat) : Prop := (∃ v, v < 4 ∧ C (L + 3) i = nI v ∧ M 199 i = nI v) ∧ (∃ v, v < 6 ∧ C (L + 4) i = nI v ∧ M 200 i = nI v) ∧ (∃ v, 1 ≤ v ∧ v ≤ 99 ∧ C (L + 15) i = nI v ∧ M 201 i = nI v) ∧ ∀ w, w < Wk → ∃ x : Int32, -99 ≤ x.toInt ∧ x.toInt ≤ 99 ∧ C (L + 8 + w) i = x ∧ M 202 (6 * i + w) = x
def zRu (C M : ZI) (L : Nat) : Prop := ∀ k, k < 6 → ∃ v, zrLo k ≤ v ∧ v ≤ zrHi k ∧ C (L + 2) k = nI v ∧ M 197 (4 + k) = nI v
def zSl (C M : ZI) (L : Nat) : Prop := (∀ k, k < 4 → ∃ v, v ≤ 3 ∧ C (L + 1) k = nI v ∧ M 197 k = nI v) ∧ ∃ z, 1 ≤ z ∧ z ≤ 6 ∧ C L 9 = nI z ∧ M 197 0 + M 197 1 + M 197 2 + M 197 3 = nI z
def zD (T : Nat × (Nat → Nat)) (L : Nat) (C M : ZI) (m P Wk : Nat) : Prop := (tpC C T ∧ tpM M T) ∧ (m < 64 ∧ C 3 2 = nI m ∧ M 195 16 = nI (16 * m)) ∧ zRu C M L ∧ (M 197 6 = nI Wk ∧ Wk ≤ 6) ∧ zSl C M L ∧ (P ≤ 16 ∧ C L 8 = nI P ∧ M 195 15 = nI P) ∧ ∀ i, i < P → zPl C M L Wk i
def zGG (T : Nat × (Nat → Nat)) (L : Nat) (C M : ZI) (a m P Wk : Nat) : Prop := zD T L C M m P Wk ∧ a ≤ T.1 ∧ C 3 5 = nI a ∧ M 195 3 = nI a ∧ M 195 4 = -1
def zFC (L : Nat) (C C' : ZI) : Prop := ∀ b j, b ≠ 3 → (b < L ∨ L + 22 ≤ b) → C' b j = C b j
def zFM (M M' : ZI) : Prop := ∀ b j, (b < 197 ∨ b = 198 ∨ 202 < b) → (b = 195 → j ≠ 3 ∧ j ≠ 4 ∧ j ≠ 15 ∧ j ≠ 16) → M' b j = M b j
def zBad (T : Nat × (Nat → Nat)) (C M : ZI) : Prop := ∃ p, p ≤ T.1 ∧ C 3 4 = nI p ∧ M 195 4 = nI p
theorem isL_i {L : Nat} (h : isL L) : 150 < L ∧ L < 174 := by
  rcases h with rfl | rfl <;> omega
theorem nI_nm1 {k : Nat} (h : k < 2 ^ 31) : ¬ nI k = -1 := fun z => nI_pos h (by rw [z]; decide)
theorem zPl_fr {C M C' M' : ZI} {L Wk i : Nat} (hW : Wk ≤ 6) (h : zPl C M L Wk i) (c : ∀ b, L + 3 ≤ b → b ≤ L + 15 → C' b i = C b i) (m1 : M' 199 i = M 199 i) (m2 : M' 200 i = M 200 i) (m3 : M' 201 i = M 201 i) (m4 : ∀ w, w < Wk → M' 202 (6 * i + w) = M 202 (6 * i + w)) : zPl C' M' L Wk i := by
  obtain ⟨⟨v1, a1, b1, c1⟩, ⟨v2, a2, b2, c2⟩, ⟨v3, a3, a4, b3, c3⟩, p⟩ := h
  refine ⟨⟨v1, a1, by rw [c _ (by omega) (by omega)]; exact b1, by rw [m1]; exact c1⟩, ⟨v2, a2, by rw [c _ (by omega) (by omega)]; exact b2, by rw [m2]; exact c2⟩, ⟨v3, a3, a4, by rw [c _ (by omega) (by omega)]; exact b3, by rw [m3]; exact c3⟩, fun w hw => ?_⟩
  obtain ⟨x, x1, x2, x3, x4⟩ := p w hw
  exact ⟨x, x1, x2, by rw [c _ (by omega) (by omega)]; exact x3, by rw [m4 w hw]; exact x4⟩
theorem zD_fr {T : Nat × (Nat → Nat)} {C M C' M' : ZI} {L m P Wk : Nat} (hL : isL L) (h : zD T L C M m P Wk) (c3 : C' 3 2 = C 3 2) (c : ∀ b j, b ≠ 3 → ¬ (j = P ∧ L + 3 ≤ b ∧ b ≤ L + 15) → C' b j = C b j) (mm : ∀ b j, (b = 195 → j ≠ 3 ∧ j ≠ 4) → (b = 199 ∨ b = 200 ∨ b = 201 → j ≠ P) → (b = 202 → j < 6 * P) → M' b j = M b j) : zD T L C' M' m P Wk := by
  have hl := isL_i hL
  obtain ⟨⟨t1, t2⟩, ⟨m1, m2, m3⟩, r, ⟨w1, w2⟩, ⟨s1, z, s2, s3, s4, s5⟩, ⟨p1, p2, p3⟩, pl⟩ := h
  have m197 : ∀ j, M' 197 j = M 197 j := fun j => mm 197 j (fun z => absurd z (by decide)) (fun z => by omega) (fun z => absurd z (by decide))
  refine ⟨⟨⟨by rw [c 1 1 (by decide) (by omega)]; exact t1.1, fun i hi => by rw [c 2 i (by decide) (by omega)]; exact t1.2 i hi⟩, ⟨by rw [mm 195 2 (by decide) (by omega) (by omega)]; exact t2.1, fun i hi => by rw [mm 196 i (fun z => absurd z (by decide)) (fun z => by omega) (fun z => absurd z (by decide))]; exact t2.2 i hi⟩⟩, ⟨m1, by rw [c3]; exact m2, by rw [mm 195 16 (by decide) (by omega) (by omega)]; exact m3⟩, fun k hk => ?_, ⟨by rw [m197]; exact w1, w2⟩, ⟨fun k hk => ?_, z, s2, s3, ?_, ?_⟩, ⟨p1, ?_, ?_⟩, fun i hi => ?_⟩
  · obtain ⟨v, a1, a2, a3, a4⟩ := r k hk
    exact ⟨v, a1, a2, by rw [c _ _ (by omega) (by omega)]; exact a3, by rw [m197]; exact a4⟩
  · obtain ⟨v, a1, a3, a4⟩ := s1 k hk
    exact ⟨v, a1, by rw [c _ _ (by omega) (by omega)]; exact a3, by rw [m197]; exact a4⟩
  · rw [c _ _ (by omega) (by omega)]; exact s4
  · rw [m197, m197, m197, m197]; exact s5
  · rw [c _ _ (by omega) (by omega)]; exact p2
  · rw [mm 195 15 (by decide) (by omega) (by omega)]; exact p3
  · exact zPl_fr w2 (pl i hi) (fun b _ _ => c b i (by omega) (by omega)) (mm 199 i (fun z => absurd z (by decide)) (fun _ => by omega) (fun z => absurd z (by decide))) (mm 200 i (fun z => absurd z (by decide)) (fun _ => by omega) (fun z => absurd z (by decide))) (mm 201 i (fun z => absurd z (by decide)) (fun _ => by omega) (fun z => absurd z (by decide))) (fun w hw => mm 202 _ (fun z => absurd z (by decide)) (fun z => by omega) (fun _ => by omega))
theorem zD_more {T : Nat × (Nat → Nat)} {C M : ZI} {L m P Wk : Nat} (hL : isL L) (h : zD T L C M m P Wk) (hP : P < 16) (hp : zPl C M L Wk P) : zD T L (zup C L 8 (nI (P + 1))) (zup M 195 15 (nI (P + 1))) m (P + 1) Wk := by
  have hl := isL_i hL
  obtain ⟨⟨t1, t2⟩, ⟨m1, m2, m3⟩, r, ⟨w1, w2⟩, ⟨s1, z, s2, s3, s4, s5⟩, ⟨p1, p2, p3⟩, pl⟩ := h
  have c : ∀ b j, (b = L → j ≠ 8) → (zup C L 8 (nI (P + 1))) b j = C b j := fun b j hb => by
    by_cases z : b = L
    · rw [zup_k _ (hb z)]
    · rw [zup_n _ z]
  have mm : ∀ b j, (b = 195 → j ≠ 15) → (zup M 195 15 (nI (P + 1))) b j = M b j := fun b j hb => by
    by_cases z : b = 195
    · rw [zup_k _ (hb z)]
    · rw [zup_n _ z]
  have m197 : ∀ b j, b ≠ 195 → (zup M 195 15 (nI (P + 1))) b j = M b j := fun b j hb => mm b j (fun z => absurd z hb)
  refine ⟨⟨⟨by rw [c 1 1 (by omega)]; exact t1.1, fun i hi => by rw [c 2 i (by omega)]; exact t1.2 i hi⟩, ⟨by rw [mm 195 2 (by decide)]; exact t2.1, fun i hi => by rw [m197 196 i (by decide)]; exact t2.2 i hi⟩⟩, ⟨m1, by rw [c 3 2 (by omega)]; exact m2, by rw [mm 195 16 (by decide)]; exact m3⟩, fun k hk => ?_, ⟨by rw [m197 _ _ (by decide)]; exact w1, w2⟩, ⟨fun k hk => ?_, z, s2, s3, ?_, ?_⟩, ⟨by omega, zup_s _ _ _ _, zup_s _ _ _ _⟩, fun i hi => ?_⟩
  · obtain ⟨v, a1, a2, a3, a4⟩ := r k hk
    exact ⟨v, a1, a2, by rw [c _ _ (by omega)]; exact a3, by rw [m197 _ _ (by decide)]; exact a4⟩
  · obtain ⟨v, a1, a3, a4⟩ := s1 k hk
    exact ⟨v, a1, by rw [c _ _ (by omega)]; exact a3, by rw [m197 _ _ (by decide)]; exact a4⟩
  · rw [c _ _ (by omega)]; exact s4
  · rw [m197 _ _ (by decide), m197 _ _ (by decide), m197 _ _ (by decide), m197 _ _ (by decide)]; exact s5
  · have q : zPl C M L Wk i := by
      by_cases e : i = P
      · rw [e]; exact hp
      · exact pl i (by omega)
    exact zPl_fr w2 q (fun b _ _ => c b i (by omega)) (m197 _ _ (by decide)) (m197 _ _ (by decide)) (m197 _ _ (by decide)) (fun w _ => m197 _ _ (by decide))
theorem znx_sg {T : Nat × (Nat → Nat)} {s c : Nat} (h : zsgn T s c = true) (hc : c = 59 ∨ c = 45) : s < T.1 ∧ znx T s = s + 1 := by
  unfold zsgn at h
  rw [Bool.and_eq_true] at h
  have h1 := of_decide_eq_true h.1
  have h2 := of_decide_eq_true h.2
  refine ⟨h1, ?_⟩
  unfold znx
  rw [if_pos h1, zisL_f (by omega), if_neg (by decide), zisD_f (by omega), if_neg (by decide)]
section LDr
variable {R : ZR} {n : Nat} {T : Nat × (Nat → Nat)}
/-- where the number of a player's points begins -/
def zps (T : Nat × (Nat → Nat)) (a : Nat) : Nat := if zsgn T (zsk T a) 45 = true then zsk T (znx T (zsk T a)) else zsk T a
def zpv (T : Nat × (Nat → Nat)) (a : Nat) : Int32 := if zsgn T (zsk T a) 45 = true then -(nI (zvl T (zps T a))) else nI (zvl T (zps T a))
theorem zps_le {a : Nat} (ha : a ≤ T.1) : zps T a ≤ T.1 ∧ a ≤ zps T a := by
  have h1 := zsk_le T ha
  have h2 := znx_le T h1.1
  have h3 := zsk_le T h2.1
  unfold zps
  by_cases q : zsgn T (zsk T a) 45 = true
  · rw [if_pos q]; omega
  · rw [if_neg q]; exact h1
theorem Rd_readPoints_ok (h : WRd R n) (hz : zTp T) {C : ZI} {a : Nat} (ha : a ≤ T.1) (hT : tpC C T) (h5 : C 3 5 = nI a) : ∃ C', Rd_readPoints 3 C R n = some (some (.int (zbo (znum T (zps T a) 3 0 99))), C', R, n) ∧ C' 3 4 = nI (zps T a) ∧ C' 3 5 = nI (znx T (zps T a)) ∧ (znum T (zps T a) 3 0 99 = true → C' 3 6 = zpv T a) ∧ ∀ b j, (b = 3 → j ≠ 3 ∧ j ≠ 4 ∧ j ≠ 5 ∧ j ≠ 6) → C' b j = C b j := by
  obtain ⟨C1, e1, k1, f1⟩ := Rd_step_ok h hz ha hT h5
  have hs := (zsk_le T ha).1
  have hT1 : tpC C1 T := ⟨by rw [f1 1 1 (by decide)]; exact hT.1, fun i hi => by rw [f1 2 i (fun z => absurd z (by decide))]; exact hT.2 i hi⟩
  have sg := Rd_isSign_ok (R := R) (n := n) h hz hT1 hs k1 (c := 45) (x := 45) (by decide) (Or.inr rfl)
  have st := e_Rd_readPoints 3 C R n
  simp only [h.k, zc_t, e1, zbV_s, sg, zbI_s] at st
  have fin : ∀ (C2 : ZI) (s : Nat) (v2 : Int32) (bb : Bool), v2 = zbo bb → s ≤ T.1 → ztok T C2 s → (∀ b j, (b = 3 → j ≠ 3 ∧ j ≠ 4 ∧ j ≠ 5 ∧ j ≠ 6) → C2 b j = C b j) → ∃ C', Rd_readPoints_19 3 v2 C2 R n = some (some (.int (zbo (znum T s 3 0 99))), C', R, n) ∧ C' 3 4 = nI s ∧ C' 3 5 = nI (znx T s) ∧ (znum T s 3 0 99 = true → C' 3 6 = if bb = true then -(nI (zvl T s)) else nI (zvl T s)) ∧ ∀ b j, (b = 3 → j ≠ 3 ∧ j ≠ 4 ∧ j ≠ 5 ∧ j ≠ 6) → C' b j = C b j := by
    intro C2 s v2 bb hv hs2 k2 f2
    have nu := Rd_isNumber_ok (R := R) (n := n) h hz hs2 k2 (d := 3) (lo := 0) (hi := 99) (x1 := 3) (x2 := 0) (x3 := 99) (by decide) (by decide) (by decide) (by decide) (by decide) (by decide)
    rw [e_Rd_readPoints_19]
    simp only [h.k, zc_t, nu, zbI_s]
    cases hn : znum T s 3 0 99 with
    | false => exact ⟨C2, rfl, k2.2.1, k2.2.2.1, fun z => absurd z (by decide), f2⟩
    | true =>
      have k6 : C2 3 6 = nI (zvl T s) := k2.2.2.2 (by unfold znum at hn; rw [Bool.and_eq_true] at hn; exact of_decide_eq_true hn.1)
      rw [if_neg (show ¬ zbo true = 0 by decide), hv]
      have fr : ∀ (x : Int32) b j, (b = 3 → j ≠ 3 ∧ j ≠ 4 ∧ j ≠ 5 ∧ j ≠ 6) → (zup C2 3 6 x) b j = C b j := fun x b j hb => by
        by_cases z : b = 3
        · rw [zup_k _ (hb z).2.2.2, f2 b j hb]
        · rw [zup_n _ z, f2 b j hb]
      cases bb with
      | true =>
        rw [if_neg (show ¬ zbo true = 0 by decide)]
        exact ⟨_, rfl, by rw [zup_k _ (by decide)]; exact k2.2.1, by rw [zup_k _ (by decide)]; exact k2.2.2.1, fun _ => by rw [zup_s, k6, if_pos rfl], fr _⟩
      | false =>
        rw [if_pos (show zbo false = 0 by decide)]
        exact ⟨_, rfl, by rw [zup_k _ (by decide)]; exact k2.2.1, by rw [zup_k _ (by decide)]; exact k2.2.2.1, fun _ => by rw [zup_s, k6, if_neg (by decide)], fr _⟩
  unfold zpv zps
  cases hb : zsgn T (zsk T a) 45 with
  | true =>
    rw [hb, if_neg (show ¬ zbo true = 0 by decide)] at st
    obtain ⟨C2, e2, k2, f2⟩ := Rd_step_ok h hz (znx_le T hs).1 hT1 k1.2.2.1
    simp only [e2, zbV_s] at st
    obtain ⟨C', e3, g1, g2, g3, g4⟩ := fin C2 (zsk T (znx T (zsk T a))) (zbo true) true rfl (zsk_le T (znx_le T hs).1).1 k2 (fun b j hb => by rw [f2 b j hb, f1 b j hb])
    rw [if_pos rfl, if_pos rfl]
    exact ⟨C', st.trans e3, g1, g2, g3, g4⟩
  | false =>
    rw [hb, if_pos (show zbo false = 0 by decide)] at st
    obtain ⟨C', e3, g1, g2, g3, g4⟩ := fin C1 (zsk T a) (zbo false) false rfl hs k1 f1
    rw [if_neg (by decide), if_neg (by decide)]
    exact ⟨C', st.trans e3, g1, g2, g3, g4⟩
theorem M_points_ok (h : WM R n) (hz : zTp T) {M : ZI} {a : Nat} (ha : a ≤ T.1) (hT : tpM M T) (h3 : M 195 3 = nI a) : ∃ M1 M', M_takes 195 45 M R n = some (some (.int (zbo (zsgn T (zsk T a) 45))), M1, R, n) ∧ M_number 195 3 0 99 M1 R n = some (some (.int (nI (zvl T (zps T a)))), M', R, n) ∧ (znum T (zps T a) 3 0 99 = true → M' 195 3 = nI (znx T (zps T a))) ∧ M' 195 4 = (if znum T (zps T a) 3 0 99 = true then M 195 4 else if M 195 4 = -1 then nI (zps T a) else M 195 4) ∧ ∀ b j, (b = 195 → j ≠ 3 ∧ j ≠ 4) → M' b j = M b j := by
  obtain ⟨M1, e1, a1, f1⟩ := M_takes_ok (R := R) (n := n) h hz ha hT h3 (c := 45) (by decide) (x := 45) (by decide)
  have hs := zsk_le T ha
  have hT1 : tpM M1 T := tpM_fr hT (fun b j hb _ => f1 b j (fun z => (hb z).1))
  have l1 : (if zsgn T (zsk T a) 45 = true then zsk T a + 1 else zsk T a) ≤ T.1 := by
    by_cases q : zsgn T (zsk T a) 45 = true
    · rw [if_pos q]; have := (znx_sg q (Or.inr rfl)).1; omega
    · rw [if_neg q]; exact hs.1
  obtain ⟨M2, e2, a2, b2, f2⟩ := M_number_ok (R := R) (n := n) h hz l1 hT1 a1 (d := 3) (lo := 0) (hi := 99) (x1 := 3) (x2 := 0) (x3 := 99) (by decide) (by decide) (by decide) (by decide) (by decide) (by decide)
  have ez : zsk T (if zsgn T (zsk T a) 45 = true then zsk T a + 1 else zsk T a) = zps T a := by
    unfold zps
    by_cases q : zsgn T (zsk T a) 45 = true
    · rw [if_pos q, if_pos q, (znx_sg q (Or.inr rfl)).2]
    · rw [if_neg q, if_neg q, zsk_zsk]
  rw [ez] at e2 a2 b2
  rw [f1 195 4 (by decide)] at b2
  exact ⟨M1, M2, e1, e2, a2, b2, fun b j hb => by rw [f2 b j hb, f1 b j (fun z => (hb z).1)]⟩
end LDr
