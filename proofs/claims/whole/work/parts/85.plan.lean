/-! ===== the planner (class): all weeks ===== -/
section LPx
variable {I : ZI} {R : ZR} {n L N rows co s w0 Wk d w : Nat} {c bs : Nat → Nat} {pl tp : Nat → Nat → Int32}
theorem zPd_280 {J : ZI} (hL : isL L) (hd : zPd I L N rows co s w0 Wk c bs pl tp) (hn : zPn N rows co s w0 Wk c bs pl tp) (hJ : ∀ b, b ≠ 280 → J b = I b) : zPd J L N rows co s w0 Wk c bs pl tp := by
  have hl := isL_i hL
  obtain ⟨⟨d1, d2, d3, d4⟩, d5, d6, d7⟩ := hd
  obtain ⟨⟨n1, n2⟩, ⟨n3, n4⟩, n5, n6, n7, n8, n9⟩ := hn
  exact ⟨⟨by rw [hJ _ (by decide)]; exact d1, by rw [hJ _ (by decide)]; exact d2, by rw [hJ _ (by omega)]; exact d3, by rw [hJ _ (by decide)]; exact d4⟩, fun r k h1 h2 => by rw [hJ _ (by omega)]; exact d5 r k h1 h2, fun w k h1 h2 h3 => by rw [hJ _ (by omega), hJ _ (by omega)]; exact d6 w k h1 h2 h3, fun w h1 h2 => by rw [hJ _ (by decide)]; exact d7 w h1 h2⟩
/-- the tables of all weeks behind w are right -/
noncomputable def zTbs (J : ZI) (pl tp : Nat → Nat → Int32) (c bs : Nat → Nat) (co N rows s Wk w : Nat) : Prop := ∀ w' d', w < w' → w' + d' = Wk → tabC J (zVal pl tp c co N Wk d') bs rows s w' ∧ zVb (zVal pl tp c co N Wk d') bs rows s d'
theorem Pl_weeks_ok (hW : WP R n L) (hL : WL R n L) (hS : WS R n 10) (hn : zPn N rows co s w0 Wk c bs pl tp) : ∀ e (J : ZI), w0 + e + 1 ≤ Wk → J 10 4 = nI w0 → zPd J L N rows co s w0 Wk c bs pl tp → zTbs J pl tp c bs co N rows s Wk (w0 + e) → ∃ J', Pl_make_75 141 10 (nI (w0 + e)) J R n = zbV (Pl_walk 141 J' R n) (fun I1 R1 n1 => some (none, I1, R1, n1)) ∧ (∀ b, b ≠ 280 → J' b = J b) ∧ zTbs J' pl tp c bs co N rows s Wk w0 := by
  have hn' := hn
  obtain ⟨⟨n1, n2⟩, ⟨n3, n4⟩, n5, n6, n7, n8, n9⟩ := hn'
  intro e
  induction e with
  | zero =>
    intro J he h4 hd ht
    refine ⟨J, ?_, fun _ _ => rfl, ht⟩
    rw [e_Pl_make_75]
    simp only [hW.k, hS.k, zc_t, h4]
    rw [if_neg (nI_nlt (show w0 + 0 ≤ w0 by omega) (by omega))]
  | succ e ih =>
    intro J he h4 hd ht
    obtain ⟨d, hdd⟩ : ∃ d, w0 + (e + 1) + (d + 1) = Wk := ⟨Wk - (w0 + (e + 1)) - 1, by omega⟩
    have t1 := ht (w0 + (e + 1) + 1) d (by omega) (by omega)
    obtain ⟨J1, e1, f1, g1⟩ := Pl_vw2_ok (I := J) hW hL hS hd hn hdd (by omega) t1.1 t1.2 8 0 J (by omega) ⟨fun _ _ => rfl, fun _ _ => rfl⟩ (fun r' f u' h1 h2 h3 h4 => by omega)
    rw [nI_0, ← e_Pl_valueWeek] at e1
    have st := e_Pl_make_75 141 10 (nI (w0 + (e + 1))) J R n
    simp only [hW.k, hS.k, zc_t, h4] at st
    rw [if_pos (nI_lt (show w0 < w0 + (e + 1) by omega) (by omega)), e1, zbV_s, show w0 + (e + 1) = w0 + e + 1 by omega, pk_m1] at st
    have ht1 : zTbs J1 pl tp c bs co N rows s Wk (w0 + e) := by
      intro w' d' h1 h2
      by_cases z : w' = w0 + (e + 1)
      · have hd1 : d' = d + 1 := by omega
        subst z
        subst hd1
        refine ⟨g1, fun r f u h1 h2 h3 h4 h5 => ?_⟩
        obtain ⟨W1, Lo, sv1, -, -, -, -, -, q, -⟩ := zval_class (I := J) hW hL hd hn hdd (by omega) t1.1 t1.2 (J := J) (fun _ _ => rfl) (fun _ _ => rfl) h1 h2 h3 h4 h5
        exact q
      · have t2 := ht w' d' (by omega) h2
        refine ⟨fun r f u h1' h2' h3' h4' h5' => ?_, t2.2⟩
        have rg := zspt_rng (w := w') (show r ≤ 40 by omega) h2' h3' h4'
        rw [f1.2 _ (Or.inr (by
          have : (w0 + (e + 1) + 1) * 656 ≤ w' * 656 := Nat.mul_le_mul_right _ (by omega)
          omega))]
        exact t2.1 r f u h1' h2' h3' h4' h5'
    obtain ⟨J', e2, f2, g2⟩ := ih J1 (by omega) (by rw [f1.1 10 (by decide)]; exact h4) (zPd_280 hL.2.1 hd hn f1.1) ht1
    exact ⟨J', st.trans e2, fun b hb => by rw [f2 b hb, f1.1 b hb], g2⟩
theorem Pl_clearEnd_ok (hW : WP R n L) (h13 : I 141 13 = nI Wk) (hWk : Wk ≤ 6) : ∃ J, Pl_clearEnd 141 I R n = some (none, J, R, n) ∧ (∀ b, b ≠ 280 → J b = I b) ∧ ∀ k, k < 656 → J 280 (Wk * 656 + k) = 0 := by
  have t6 : (656 : Int32) = nI 656 := by decide
  have key : ∀ k, k ≤ 656 → ∃ J, Pl_clearEnd_11 141 (nI (Wk * 656)) (nI 0) I R n = Pl_clearEnd_11 141 (nI (Wk * 656)) (nI k) J R n ∧ (∀ b, b ≠ 280 → J b = I b) ∧ ∀ i, i < k → J 280 (Wk * 656 + i) = 0 := by
    intro k
    induction k with
    | zero => intro _; exact ⟨I, rfl, fun _ _ => rfl, fun i hi => by omega⟩
    | succ k ih =>
      intro hk
      obtain ⟨J, e, f, g⟩ := ih (by omega)
      have i1 : zin 280 (nI (Wk * 656 + k)) = true := zin_nI (by show _ < 4592; omega) (by omega)
      have st := e_Pl_clearEnd_11 141 (nI (Wk * 656)) (nI k) J R n
      rw [t6, if_pos (nI_lt (show k < 656 by omega) (by decide))] at st
      simp only [hW.k, hW.2.1, zc_t, zr_s, nI_add, i1, Bool.true_and, zix_nI (show Wk * 656 + k < 2 ^ 31 by omega), nI_1] at st
      refine ⟨_, e.trans st, fun b hb => ?_, fun i hi => ?_⟩
      · funext j
        rw [zup_n _ hb, f b hb]
      · by_cases z : i = k
        · rw [z, zup_s]
        · rw [zup_k _ (by omega)]; exact g i (by omega)
  obtain ⟨J, e, f, g⟩ := key 656 (Nat.le_refl _)
  rw [nI_0] at e
  refine ⟨J, ?_, f, g⟩
  rw [e_Pl_clearEnd]
  simp only [hW.k, zc_t, h13]
  rw [t6, pk_mul, e, e_Pl_clearEnd_11, t6, if_neg (nI_nlt (Nat.le_refl _) (by decide))]
theorem zTbs_end {J : ZI} (hn : zPn N rows co s w0 Wk c bs pl tp) (hJ : ∀ k, k < 656 → J 280 (Wk * 656 + k) = 0) (hw : w + 1 = Wk) : zTbs J pl tp c bs co N rows s Wk w := by
  obtain ⟨⟨n1, n2⟩, ⟨n3, n4⟩, n5, n6, n7, n8, n9⟩ := hn
  intro w' d' h1 h2
  have hd : d' = 0 := by omega
  have hw' : w' = Wk := by omega
  subst hd
  subst hw'
  refine ⟨fun r f u a1 a2 a3 a4 _ => ?_, fun r f u _ _ _ _ _ => ?_⟩
  · have rg := zspt_rng (w := w') (show r ≤ 40 by omega) a2 a3 a4
    have := hJ (zspt w' r f u - w' * 656) (by omega)
    rw [show w' * 656 + (zspt w' r f u - w' * 656) = zspt w' r f u by omega] at this
    exact this
  · show zbd _ (0 : Int32)
    unfold zbd
    have : (0 : Int32).toInt = 0 := by decide
    rw [this]
    omega
end LPx
/-! ===== options in their order ===== -/
/-- the pairs that lie ahead of (K, H) -/
def zAh (K H k ch : Nat) : Prop := k < K ∨ (k = K ∧ ch < H)
def zTI (N : Nat) (ok : Nat → Nat → Bool) (v : Nat → Nat → Int32) (K H : Nat) (m : Int32) (tk tc : Nat) : Prop := (m = -100000000 ∧ ∀ k ch, k < N → ch < 4 → zAh K H k ch → ok k ch = false) ∨ (zAh K H tk tc ∧ zFs N ok v m tk tc ∧ ∀ k ch, k < N → ch < 4 → zAh K H k ch → ok k ch = true → ¬ m < v k ch)
theorem zTI_step {N : Nat} {ok : Nat → Nat → Bool} {v : Nat → Nat → Int32} {K H : Nat} {m : Int32} {tk tc : Nat} (hK : K < N) (hH : H < 4) (hlow : ∀ k ch, k < N → ch < 4 → ok k ch = true → (-100000000 : Int32) < v k ch) (h : zTI N ok v K H m tk tc) : (ok K H = true → m < v K H → zTI N ok v K (H + 1) (v K H) K H) ∧ ((ok K H = false ∨ ¬ m < v K H) → zTI N ok v K (H + 1) m tk tc) := by
  have nx : ∀ k ch, zAh K (H + 1) k ch → zAh K H k ch ∨ (k = K ∧ ch = H) := by
    intro k ch q
    unfold zAh at *
    omega
  have up : ∀ k ch, zAh K H k ch → zAh K (H + 1) k ch := by
    intro k ch q
    unfold zAh at *
    omega
  constructor
  · intro ho hm
    refine Or.inr ⟨Or.inr ⟨rfl, by omega⟩, ⟨hK, hH, ho, rfl, fun k' ch' a1 a2 a3 a4 z => ?_⟩, fun k ch a1 a2 a3 a4 => ?_⟩
    · have q : zAh K H k' ch' := a3
      rcases h with ⟨e, h⟩ | ⟨_, h1, h2⟩
      · rw [h k' ch' a1 a2 q] at a4; cases a4
      · have := h2 k' ch' a1 a2 q a4
        rw [z] at this
        exact this hm
    · rcases nx k ch a3 with q | ⟨q1, q2⟩
      · rcases h with ⟨e, h⟩ | ⟨_, h1, h2⟩
        · rw [h k ch a1 a2 q] at a4; cases a4
        · have := h2 k ch a1 a2 q a4
          rw [Int32.lt_iff_toInt_lt] at *; omega
      · rw [q1, q2, Int32.lt_iff_toInt_lt]; omega
  · intro hq
    rcases h with ⟨e, h⟩ | ⟨h0, h1, h2⟩
    · refine Or.inl ⟨e, fun k ch a1 a2 a3 => ?_⟩
      rcases nx k ch a3 with q | ⟨q1, q2⟩
      · exact h k ch a1 a2 q
      · rw [q1, q2]
        rcases hq with hq | hq
        · exact hq
        · cases ho : ok K H with
          | false => rfl
          | true => rw [e] at hq; exact absurd (hlow K H hK hH ho) hq
    · refine Or.inr ⟨up _ _ h0, h1, fun k ch a1 a2 a3 a4 => ?_⟩
      rcases nx k ch a3 with q | ⟨q1, q2⟩
      · exact h2 k ch a1 a2 q a4
      · rw [q1, q2] at a4 ⊢
        rcases hq with hq | hq
        · rw [hq] at a4; cases a4
        · exact hq
theorem zTI_next {N : Nat} {ok : Nat → Nat → Bool} {v : Nat → Nat → Int32} {K : Nat} {m : Int32} {tk tc : Nat} (h : zTI N ok v K 4 m tk tc) : zTI N ok v (K + 1) 0 m tk tc := by
  rcases h with ⟨e, h⟩ | ⟨h0, h1, h2⟩
  · refine Or.inl ⟨e, fun k ch a1 a2 a3 => h k ch a1 a2 ?_⟩
    unfold zAh at *
    omega
  · refine Or.inr ⟨?_, h1, fun k ch a1 a2 a3 a4 => h2 k ch a1 a2 ?_ a4⟩
    · unfold zAh at *
      omega
    · unfold zAh at *
      omega
theorem zTI_end {N : Nat} {ok : Nat → Nat → Bool} {v : Nat → Nat → Int32} {m : Int32} {tk tc : Nat} (hex : ∃ k ch, k < N ∧ ch < 4 ∧ ok k ch = true) (h : zTI N ok v N 0 m tk tc) : zIM N ok v m ∧ zFs N ok v m tk tc := by
  obtain ⟨k, ch, q1, q2, q3⟩ := hex
  rcases h with ⟨e, h⟩ | ⟨h0, h1, h2⟩
  · rw [h k ch q1 q2 (Or.inl q1)] at q3; cases q3
  · refine ⟨⟨⟨tk, tc, h1.1, h1.2.1, h1.2.2.1, h1.2.2.2.1⟩, fun k ch a1 a2 a3 => h2 k ch a1 a2 (Or.inl a1) a3⟩, h1⟩
