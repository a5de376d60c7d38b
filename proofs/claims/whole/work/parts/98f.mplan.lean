/-! ===== the reference lays all its values ===== -/
def zbM (N O : Nat) (c : Nat → Nat) (b : Nat) : Nat := if b < N then c b else O
/-- what the reference's plan is made of -/
def zMp (I : ZI) (N P w0 Wk co s0 O : Nat) (c : Nat → Nat) (pl tp : Nat → Nat → Int32) : Prop := (I 195 32 = nI N ∧ 1 ≤ N ∧ N ≤ 40) ∧ (∀ k, k < N → I 214 k = nI (c k) ∧ c k < 65536) ∧ (P ≤ 16 ∧ I 195 17 = nI P) ∧ (∀ w k, w < Wk → k < N → zcap (c k) (fun i => I 206 (6 * i + w)) P ≠ none) ∧ (I 208 1 = nI O ∧ I 208 9 = nI w0 ∧ I 208 5 = nI s0) ∧ (I 198 7 = nI co ∧ I 198 6 = nI Wk) ∧ (co ≤ 9 ∧ s0 ≤ 1000 ∧ w0 < Wk ∧ Wk ≤ 6) ∧ ∀ w k, w0 ≤ w → w < Wk → k < N → mPl I P c w k = pl w k ∧ mTp I P c w k = tp w k ∧ zbd 800 (pl w k) ∧ zbd 100 (tp w k)
def zPf (I J : ZI) : Prop := ∀ q j, (q = 195 → j ≠ 33 ∧ j ≠ 34) → q ≠ 215 → q ≠ 216 → q ≠ 217 → J q j = I q j
theorem zMp_fr {I J : ZI} {N P w0 Wk co s0 O : Nat} {c : Nat → Nat} {pl tp : Nat → Nat → Int32} (h : zMp I N P w0 Wk co s0 O c pl tp) (f : zPf I J) : zMp J N P w0 Wk co s0 O c pl tp := by
  obtain ⟨⟨a1, a2, a3⟩, b, ⟨c1, c2⟩, d, ⟨e1, e2, e3⟩, ⟨g1, g2⟩, k, l⟩ := h
  have r6 : ∀ w, (fun i => J 206 (6 * i + w)) = fun i => I 206 (6 * i + w) := fun w => funext (fun i => f 206 _ (fun z => absurd z (by decide)) (by decide) (by decide) (by decide))
  refine ⟨⟨by rw [f 195 32 (by decide) (by decide) (by decide) (by decide)]; exact a1, a2, a3⟩, fun k hk => ?_, ⟨c1, by rw [f 195 17 (by decide) (by decide) (by decide) (by decide)]; exact c2⟩, fun w k h1 h2 => by rw [r6]; exact d w k h1 h2, ⟨?_, ?_, ?_⟩, ⟨?_, ?_⟩, k, fun w k h1 h2 h3 => ?_⟩
  · rw [f 214 k (fun z => absurd z (by decide)) (by decide) (by decide) (by decide)]; exact b k hk
  · rw [f 208 1 (by decide) (by decide) (by decide) (by decide)]; exact e1
  · rw [f 208 9 (by decide) (by decide) (by decide) (by decide)]; exact e2
  · rw [f 208 5 (by decide) (by decide) (by decide) (by decide)]; exact e3
  · rw [f 198 7 (by decide) (by decide) (by decide) (by decide)]; exact g1
  · rw [f 198 6 (by decide) (by decide) (by decide) (by decide)]; exact g2
  · have := l w k h1 h2 h3
    unfold mPl mTp at *
    rw [r6]; exact this
noncomputable def tabM (J : ZI) (V : Nat → Nat → Nat → Int32) (N O : Nat) (c : Nat → Nat) (w : Nat) : Prop := ∀ b f u, b ≤ 40 → (b < N ∨ b = 40) → 1 ≤ f → f ≤ 2 → u < 8 → J 215 (zsta w b f u) = V (zbM N O c b) f u
theorem zBf_Pf {w : Nat} {I J : ZI} (h : zBf w I J) : zPf I J := fun q j a1 a2 _ _ => h q j a1 (fun z => absurd z a2)
section LMA
variable {I : ZI} {R : ZR} {n N P w0 Wk co s0 O l : Nat} {c : Nat → Nat} {pl tp : Nat → Nat → Int32}
theorem zMp_Pn (h : zMp I N P w0 Wk co s0 O c pl tp) : zPn N (N + 1) co 0 w0 Wk c (zbM N O c) pl tp := by
  obtain ⟨⟨a1, a2, a3⟩, b, c1, d, e, g, k, l⟩ := h
  refine ⟨⟨a2, a3⟩, ⟨by omega, by omega⟩, k.1, by decide, k.2.2.2, fun k hk => ?_, fun w k h1 h2 h3 => (l w k h1 h2 h3).2.2⟩
  unfold zbM
  rw [if_pos hk]
theorem M_aheadM (h : WM R n) (g : zMp I N P w0 Wk co s0 O c pl tp) {b : Nat} (hb : b < N ∨ b = 40) : M_ahead 195 (nI b) I R n = some (some (.int (nI (zbM N O c b))), I, R, n) := by
  have a3 := g.1.2.2
  unfold zbM
  rcases hb with hb | hb
  · rw [if_pos hb]; exact M_ahead_k h (by omega) (g.2.1 b hb).1
  · rw [if_neg (by omega), hb]; exact M_ahead_own h g.2.2.2.2.1.1
/-- one option of one point -/
theorem M_opt (h : WM R n) (g : zMp I N P w0 Wk co s0 O c pl tp) {w b f u k ch : Nat} (hw : w < Wk) (hw0 : w0 ≤ w) (hb : b ≤ 40) (hbN : b < N ∨ b = 40) (hf1 : 1 ≤ f) (hf2 : f ≤ 2) (hu : u < 8) (hk : k < N) (hch : ch < 4) {V : Nat → Nat → Nat → Int32} (ht : tabM I V N O c (w + 1)) (hcp : w = w0 → ¬ I 208 7 = 2) : (zokT (decide (w = w0)) (I 208 7) s0 l u c k ch = false → M_steps 195 (nI w) (nI b) (nI f) (nI u) (nI k) (zwh ch) I R n = some (some (.int 0), I, R, n)) ∧ (zokT (decide (w = w0)) (I 208 7) s0 l u c k ch = true → ∃ I', M_steps 195 (nI w) (nI b) (nI f) (nI u) (nI k) (zwh ch) I R n = some (some (.int 1), I', R, n) ∧ I' 195 34 = nI (zsta (w + 1) (if ch = 3 then b else k) (znf f ((if w = w0 then s0 else 0) + zdf (c k) (zbM N O c b)) ch) (znu u ch)) ∧ zin 215 (I' 195 34) = true ∧ I' 195 33 + I' 215 (zix (I' 195 34)) = zov V (pl w) (tp w) c co (zbM N O c b) f u (if w = w0 then s0 else 0) k ch ∧ ∀ q j, (q = 195 → j ≠ 33 ∧ j ≠ 34) → I' q j = I q j) := by
  have hA := M_aheadM h g hbN
  obtain ⟨⟨a1, a2, a3⟩, b1, ⟨c1, c2⟩, d, ⟨e1, e2, e3⟩, ⟨g1, g2⟩, ⟨k1, k2, k3, k4⟩, l1⟩ := g
  have s := M_steps_ok (I := I) (R := R) (n := n) (w := w) (w0 := w0) (k := k) (b := b) (B := zbM N O c b) (f := f) (u := u) (s0 := s0) (l := l) (ch := ch) (P := P) (co := co) (c := c) h (by omega) (by omega) (by omega) hch hu (b1 k hk).1 (b1 k hk).2 c1 c2 (d w k hw hk) hA hf1 hf2 g1 k2 e2 e3 hcp
  refine ⟨s.1, fun ho => ?_⟩
  obtain ⟨I', q1, q2, q3, q4⟩ := s.2 ho
  have nf := znf_le f ((if w = w0 then s0 else 0) + zdf (c k) (zbM N O c b)) ch
  have hb' : (if ch = 3 then b else k) ≤ 40 := by split <;> omega
  have hbN' : (if ch = 3 then b else k) < N ∨ (if ch = 3 then b else k) = 40 := by split <;> omega
  have lt := zsta_lt (w := w + 1) (by omega) hb' nf.2 (znu_lt hu hch)
  refine ⟨I', q1, q3, ?_, ?_, q4⟩
  · rw [q3]; exact zin215 (by omega) hb' nf.2 (znu_lt hu hch)
  · rw [q3, zix_nI (by omega), q2, q4 215 _ (fun z => absurd z (by decide)), ht _ _ _ hb' hbN' nf.1 nf.2 (znu_lt hu hch), (l1 w k hw0 hw hk).1, (l1 w k hw0 hw hk).2.1]
    unfold zov
    have : zbM N O c (if ch = 3 then b else k) = znb (zbM N O c b) (c k) ch := by
      unfold znb
      by_cases z : ch = 3
      · rw [if_pos z, if_pos z]
      · rw [if_neg z, if_neg z]; unfold zbM; rw [if_pos hk]
    rw [this]
theorem zok_ex {cp : Int32} {u : Nat} {fst : Bool} (hN : 1 ≤ N) (hcp : fst = true → cp = -1 ∨ cp = 0 ∨ cp = 1) : ∃ k ch, k < N ∧ ch < 4 ∧ zokT fst cp s0 l u c k ch = true := by
  by_cases z : fst = true ∧ ¬ cp = -1
  · rcases hcp z.1 with q | q | q
    · exact absurd q z.2
    · refine ⟨0, 1, by omega, by decide, ?_⟩
      unfold zokT
      rw [if_pos z, q, decide_eq_true (show zwh 1 = 0 by decide), decide_eq_false (show ¬ (1 : Nat) = 3 by decide)]
      rfl
    · refine ⟨0, 2, by omega, by decide, ?_⟩
      unfold zokT
      rw [if_pos z, q, decide_eq_true (show zwh 2 = 1 by decide), decide_eq_false (show ¬ (2 : Nat) = 3 by decide)]
      rfl
  · refine ⟨0, 0, by omega, by decide, ?_⟩
    unfold zokT
    rw [if_neg z]
    unfold zokc
    rw [decide_eq_true rfl, decide_eq_false (show ¬ (0 : Nat) = 3 by decide)]
    rfl
/-- the value of one point (no loan played in this week) -/
theorem M_point (h : WM R n) (g : zMp I N P w0 Wk co s0 O c pl tp) {w d : Nat} (hw : w + (d + 1) = Wk) (hw0 : w0 ≤ w) {V : Nat → Nat → Nat → Int32} (ht : tabM I V N O c (w + 1)) (hV : zVb V (zbM N O c) (N + 1) 0 d) (hcp : w = w0 → I 208 7 = -1 ∨ I 208 7 = 0 ∨ I 208 7 = 1) : ∀ b f u (J : ZI), b ≤ 40 → (b < N ∨ b = 40) → f ≤ 2 → u < 8 → zBf w I J → ∃ J', M_laysValue 195 (nI w) (nI b) (nI f) (nI u) J R n = some (none, J', R, n) ∧ (1 ≤ f → zIM N (zokT (decide (w = w0)) (I 208 7) s0 l u c) (zov V (pl w) (tp w) c co (zbM N O c b) f u (if w = w0 then s0 else 0)) (J' 215 (zsta w b f u))) ∧ ∀ q j, (q = 195 → j ≠ 33 ∧ j ≠ 34) → (q = 215 → j ≠ zsta w b f u) → J' q j = J q j := by
  intro b f u J hb hbN hf hu hJ
  have gJ := zMp_fr g (zBf_Pf hJ)
  have wk := g.2.2.2.2.2.2.1.2.2.2
  have c2 : w = w0 → ¬ I 208 7 = 2 := fun z q => by
    rcases hcp z with y | y | y <;> rw [y] at q <;> exact absurd q (by decide)
  have tJ : tabM J V N O c (w + 1) := fun b f u h1 h2 h3 h4 h5 => by
    have := zsta_rng (w := w + 1) h1 h4 h5
    rw [hJ 215 _ (fun z => absurd z (by decide)) (fun _ => Or.inr this.1)]
    exact ht b f u h1 h2 h3 h4 h5
  have j7 : J 208 7 = I 208 7 := hJ 208 7 (by decide) (fun z => absurd z (by decide))
  have fr : ∀ K : ZI, (∀ q j, (q = 195 → j ≠ 33 ∧ j ≠ 34) → K q j = J q j) → zMp K N P w0 Wk co s0 O c pl tp ∧ K 208 7 = I 208 7 ∧ tabM K V N O c (w + 1) := fun K hK => ⟨zMp_fr gJ (fun q j a1 _ _ _ => hK q j a1), by rw [hK 208 7 (by decide)]; exact j7, fun b f u h1 h2 h3 h4 h5 => by
    rw [hK 215 _ (fun z => absurd z (by decide))]
    exact tJ b f u h1 h2 h3 h4 h5⟩
  have hl : ∀ K : ZI, (∀ q j, (q = 195 → j ≠ 33 ∧ j ≠ 34) → K q j = J q j) → M_isLent 195 (nI w) K R n = some (some (.int 0), K, R, n) := fun K hK => M_isLent_no h (by omega) (by omega) (fr K hK).1.2.2.2.2.1.2.1 (fun z => by rw [(fr K hK).2.1]; exact c2 z)
  have w0l : w0 < 2 ^ 31 := by have := g.2.2.2.2.2.2.1.2.2.1; omega
  by_cases f1 : 1 ≤ f
  · obtain ⟨J', m, q1, q2, q3, q4⟩ := M_laysValue_ok (I := J) (R := R) (n := n) (N := N) (w := w) (b := b) (f := f) (u := u) (ok := zokT (decide (w = w0)) (I 208 7) s0 l u c) (v := zov V (pl w) (tp w) c co (zbM N O c b) f u (if w = w0 then s0 else 0)) h g.1.2.2 (by omega) hb hf hu gJ.1.1 hl (fun k ch hk hch _ => by
      have hr : ∃ r, r < N + 1 ∧ zbM N O c b = zbM N O c r := by
        rcases hbN with z | z
        · exact ⟨b, by omega, rfl⟩
        · refine ⟨N, by omega, ?_⟩
          unfold zbM
          rw [if_neg (by have := g.1.2.2; omega), if_neg (by omega)]
      obtain ⟨r, r1, r2⟩ := hr
      rw [r2]
      have := zov_bd (zMp_Pn g) hw0 (show w < Wk by omega) hV (show d ≤ 6 by omega) (r := r) (f := f) (u := u) (s0 := if w = w0 then s0 else 0) (k := k) (ch := ch) r1 f1 hf hu (Nat.and_zero _) (by have := g.2.2.2.2.2.2.1.2.1; split <;> omega) hk hch
      exact (zlow_bd this (by omega)).1) (fun k ch K hk hch hK => by
      obtain ⟨k1, k2, k3⟩ := fr K hK
      have o := M_opt (l := l) h k1 (show w < Wk by omega) hw0 hb hbN f1 hf hu hk hch k3 (fun z => by rw [k2]; exact c2 z)
      rw [k2] at o
      refine ⟨o.1, fun ho => ?_⟩
      obtain ⟨K', p1, -, p3, p4, p5⟩ := o.2 ho
      exact ⟨K', p1, p3, p4, fun q j hq => by rw [p5 q j hq, hK q j hq]⟩) (zok_ex g.1.2.1 (fun z => hcp (of_decide_eq_true z)))
    exact ⟨J', q1, fun _ => by rw [q3]; exact q2, q4⟩
  · obtain ⟨J', q1, q2⟩ := M_laysValue_weak (I := J) (R := R) (n := n) (N := N) (w := w) (b := b) (f := f) (u := u) h g.1.2.2 (by omega) hb hf hu gJ.1.1 hl (fun k ch K hk hch hK => by
      obtain ⟨k1, -, -⟩ := fr K hK
      have hA := M_aheadM h k1 hbN
      obtain ⟨⟨a1, a2, a3⟩, b1, ⟨d1, d2⟩, d, ⟨e1, e2, e3⟩, ⟨g1, g2⟩, ⟨y1, y2, y3, y4⟩, l1⟩ := k1
      exact M_steps_weak (I := K) (R := R) (n := n) (w0 := w0) h (by omega) w0l (by omega) hb hch hu (b1 k hk).1 (b1 k hk).2 d1 d2 (d w k (by omega) hk) hA hf y2 e2 e3)
    exact ⟨J', q1, fun z => absurd z f1, q2⟩
/-- tables of the weeks from w on -/
noncomputable def zTM (J : ZI) (pl tp : Nat → Nat → Int32) (N O co Wk : Nat) (c : Nat → Nat) (w : Nat) : Prop := ∀ w' d', w ≤ w' → w' + d' = Wk → tabM J (zVal pl tp c co N Wk d') N O c w' ∧ zVb (zVal pl tp c co N Wk d') (zbM N O c) (N + 1) 0 d'
theorem zIM_bd {ok : Nat → Nat → Bool} {v : Nat → Nat → Int32} {x : Int32} {K : Nat} (h : zIM N ok v x) (hb : ∀ k ch, k < N → ch < 4 → zbd K (v k ch)) : zbd K x := by
  obtain ⟨⟨k, ch, a1, a2, -, a4⟩, -⟩ := h
  rw [← a4]; exact hb k ch a1 a2
theorem M_week_down (h : WM R n) (g : zMp I N P w0 Wk co s0 O c pl tp) {w : Nat} (hw0 : w0 ≤ w) (hw : w < Wk) (ht : zTM I pl tp N O co Wk c (w + 1)) (hcp : w = w0 → I 208 7 = -1 ∨ I 208 7 = 0 ∨ I 208 7 = 1) : ∃ J, M_laysValues_46 195 (nI (w + 1) - 1) I R n = M_laysValues_46 195 (nI w - 1) J R n ∧ zBf w I J ∧ ∀ b f u, b ≤ 40 → (b < N ∨ b = 40) → 1 ≤ f → f ≤ 2 → u < 8 → zIM N (zokT (decide (w = w0)) (I 208 7) s0 l u c) (zov (zVal pl tp c co N Wk (Wk - (w + 1))) (pl w) (tp w) c co (zbM N O c b) f u (if w = w0 then s0 else 0)) (J 215 (zsta w b f u)) := by
  obtain ⟨t1, t2⟩ := ht (w + 1) (Wk - (w + 1)) (Nat.le_refl _) (by omega)
  have wk := g.2.2.2.2.2.2.1.2.2.2
  have pt := M_point (l := l) (d := Wk - (w + 1)) h g (by omega) hw0 t1 t2 hcp
  have st := e_M_laysValues_46 195 (nI (w + 1) - 1) I R n
  simp only [h.k, h.2, zc_t, zr_s, zin208, zixs, Bool.true_or, Bool.true_and, g.2.2.2.2.1.2.1, nI_pred, if_neg (nI_nlt hw0 (show w < 2 ^ 31 by omega))] at st
  rw [← nI_0] at st
  obtain ⟨J, e1, e2, e3⟩ := M_lvs59_ok (I := I) (R := R) (n := n) (N := N) (w := w) (Q := fun b f u x => 1 ≤ f → zIM N (zokT (decide (w = w0)) (I 208 7) s0 l u c) (zov (zVal pl tp c co N Wk (Wk - (w + 1))) (pl w) (tp w) c co (zbM N O c b) f u (if w = w0 then s0 else 0)) x) h g.1.2.2 g.1.1 pt 41 0 I (by omega) (fun _ _ _ _ => rfl) (fun b' f' u' _ _ _ _ z => by unfold zDn at z; omega)
  rw [nI_pred]
  exact ⟨J, st.trans e1, e2, fun b f u h1 h2 h3 h4 h5 => e3 b f u h1 h2 h4 h5 h3⟩
theorem zTM_fr {J : ZI} {w : Nat} (ht : zTM I pl tp N O co Wk c (w + 1)) (hJ : zBf w I J) : zTM J pl tp N O co Wk c (w + 1) := fun w' d' h1 h2 => ⟨fun b f u a1 a2 a3 a4 a5 => by
    have := zsta_rng (w := w') a1 a4 a5
    have q : zsta (w + 1) 0 0 0 ≤ zsta w' 0 0 0 := by unfold zsta; omega
    rw [hJ 215 _ (fun z => absurd z (by decide)) (fun _ => Or.inr (by omega))]
    exact (ht w' d' h1 h2).1 b f u a1 a2 a3 a4 a5, (ht w' d' h1 h2).2⟩
theorem M_weeks_down (h : WM R n) : ∀ e (I : ZI), zMp I N P w0 Wk co s0 O c pl tp → w0 + 1 + e ≤ Wk → zTM I pl tp N O co Wk c (w0 + 1 + e) → ∃ J, M_laysValues_46 195 (nI (w0 + 1 + e) - 1) I R n = M_laysValues_46 195 (nI (w0 + 1) - 1) J R n ∧ zTM J pl tp N O co Wk c (w0 + 1) ∧ ∀ q j, (q = 195 → j ≠ 33 ∧ j ≠ 34) → q ≠ 215 → J q j = I q j
  | 0, I, _, _, ht => ⟨I, rfl, ht, fun _ _ _ _ => rfl⟩
  | e + 1, I, g, he, ht => by
    obtain ⟨J, e1, e2, e3⟩ := M_week_down (l := 0) (w := w0 + 1 + e) h g (by omega) (by omega) ht (fun z => by omega)
    have gJ := zMp_fr g (zBf_Pf e2)
    have tJ := zTM_fr ht e2
    have wk := g.2.2.2.2.2.2.1.2.2.2
    obtain ⟨K, k1, k2, k3⟩ := M_weeks_down h e J gJ (by omega) (fun w' d' h1 h2 => by
      by_cases z : w0 + 1 + e + 1 ≤ w'
      · exact tJ w' d' z h2
      · have ew : w' = w0 + 1 + e := by omega
        subst ew
        obtain ⟨d, rfl⟩ : ∃ d, d' = d + 1 := ⟨d' - 1, by omega⟩
        have ed : Wk - (w0 + 1 + e + 1) = d := by omega
        have ev : Wk - (d + 1) = w0 + 1 + e := by omega
        rw [ed] at e3
        obtain ⟨-, t2⟩ := ht (w0 + 1 + e + 1) d (Nat.le_refl _) (by omega)
        have val : ∀ b f u, b ≤ 40 → (b < N ∨ b = 40) → 1 ≤ f → f ≤ 2 → u < 8 → zVal pl tp c co N Wk (d + 1) (zbM N O c b) f u = J 215 (zsta (w0 + 1 + e) b f u) ∧ zbd (11000 * (d + 1)) (J 215 (zsta (w0 + 1 + e) b f u)) := by
          intro b f u a1 a2 a3 a4 a5
          have im := e3 b f u a1 a2 a3 a4 a5
          rw [decide_eq_false (show ¬ w0 + 1 + e = w0 by omega), zokT_no, if_neg (show ¬ w0 + 1 + e = w0 by omega)] at im
          have im2 := im
          rw [← ev] at im2
          have hr : ∃ r, r < N + 1 ∧ zbM N O c b = zbM N O c r := by
            rcases a2 with z | z
            · exact ⟨b, by omega, rfl⟩
            · refine ⟨N, by omega, ?_⟩
              unfold zbM
              rw [if_neg (by have := g.1.2.2; omega), if_neg (by omega)]
          obtain ⟨r, r1, r2⟩ := hr
          have ve := zVal_eq im2
          rw [ev] at ve
          refine ⟨ve, zIM_bd im (fun k ch hk hch => ?_)⟩
          rw [r2]
          exact zov_bd (zMp_Pn g) (show w0 ≤ w0 + 1 + e by omega) (by omega) t2 (show d ≤ 6 by omega) r1 a3 a4 a5 (Nat.and_zero _) (by omega) hk hch
        refine ⟨fun b f u a1 a2 a3 a4 a5 => (val b f u a1 a2 a3 a4 a5).1.symm, fun r f u a1 a3 a4 a5 _ => ?_⟩
        by_cases z : r < N
        · have := val r f u (by have := g.1.2.2; omega) (Or.inl z) a3 a4 a5
          rw [this.1]; exact this.2
        · have := val 40 f u (by omega) (Or.inr rfl) a3 a4 a5
          have eb : zbM N O c r = zbM N O c 40 := by
            unfold zbM
            rw [if_neg z, if_neg (by have := g.1.2.2; omega)]
          rw [eb, this.1]; exact this.2)
    exact ⟨K, e1.trans k1, k2, fun q j a1 a2 => by rw [k3 q j a1 a2]; exact e2 q j a1 (fun z => absurd z a2)⟩
/-- all values but the first week's -/
theorem M_lvs_rest (h : WM R n) (g : zMp I N P w0 Wk co s0 O c pl tp) : ∃ J, M_laysValues 195 I R n = M_laysValues_46 195 (nI (w0 + 1) - 1) J R n ∧ zTM J pl tp N O co Wk c (w0 + 1) ∧ ∀ q j, (q = 195 → j ≠ 33 ∧ j ≠ 34) → q ≠ 215 → J q j = I q j := by
  obtain ⟨y1, y2, y3, y4⟩ := g.2.2.2.2.2.2.1
  obtain ⟨J, e1, e2, e3⟩ := M_lvs16_ok (I := I) h y4 g.2.2.2.2.2.1.2
  have gJ := zMp_fr g (zBf_Pf e3)
  obtain ⟨e, he⟩ : ∃ e, Wk = w0 + 1 + e := ⟨Wk - (w0 + 1), by omega⟩
  obtain ⟨K, k1, k2, k3⟩ := M_weeks_down h e J gJ (by omega) (fun w' d' h1 h2 => by
    obtain rfl : d' = 0 := by omega
    obtain rfl : w' = Wk := by omega
    refine ⟨fun b f u a1 a2 a3 a4 a5 => ?_, fun r f u a1 a3 a4 a5 _ => ?_⟩
    · have := zsta_rng (w := w') a1 a4 a5
      rw [e2 _ this.1 this.2]; rfl
    · show zbd 0 0
      unfold zbd
      decide)
  rw [← he] at k1
  exact ⟨K, e1.trans k1, k2, fun q j a1 a2 => by rw [k3 q j a1 a2]; exact e3 q j a1 (fun z => absurd z a2)⟩
/-- all values, no loan played -/
theorem M_laysValues_ok (h : WM R n) (g : zMp I N P w0 Wk co s0 O c pl tp) (hcp : I 208 7 = -1 ∨ I 208 7 = 0 ∨ I 208 7 = 1) : ∃ J, M_laysValues 195 I R n = some (none, J, R, n) ∧ zTM J pl tp N O co Wk c (w0 + 1) ∧ (∀ f u, 1 ≤ f → f ≤ 2 → u < 8 → zIM N (zokT true (I 208 7) s0 l u c) (zov (zVal pl tp c co N Wk (Wk - (w0 + 1))) (pl w0) (tp w0) c co O f u s0) (J 215 (zsta w0 40 f u))) ∧ ∀ q j, (q = 195 → j ≠ 33 ∧ j ≠ 34) → q ≠ 215 → J q j = I q j := by
  obtain ⟨y1, y2, y3, y4⟩ := g.2.2.2.2.2.2.1
  obtain ⟨J, e1, e2, e3⟩ := M_lvs_rest h g
  have gJ := zMp_fr g (fun q j a1 a2 _ _ => e3 q j a1 a2)
  have j7 : J 208 7 = I 208 7 := e3 208 7 (by decide) (by decide)
  obtain ⟨K, k1, k2, k3⟩ := M_week_down (l := l) (w := w0) h gJ (Nat.le_refl _) y3 e2 (fun _ => by rw [j7]; exact hcp)
  have gK := zMp_fr gJ (zBf_Pf k2)
  have st := e_M_laysValues_46 195 (nI w0 - 1) K R n
  have lt : nI w0 - 1 < nI w0 := by
    rcases Nat.eq_zero_or_pos w0 with z | z
    · subst z; decide
    · rw [zpred z]; exact nI_lt (by omega) (by omega)
  simp only [h.k, h.2, zc_t, zr_s, zin208, zixs, Bool.true_or, Bool.true_and, gK.2.2.2.2.1.2.1, if_pos lt] at st
  refine ⟨K, e1.trans (k1.trans st), zTM_fr e2 k2, fun f u a1 a2 a3 => ?_, fun q j a1 a2 => by rw [k2 q j a1 (fun z => absurd z a2)]; exact e3 q j a1 a2⟩
  have := k3 40 f u (by omega) (Or.inr rfl) a1 a2 a3
  rw [decide_eq_true rfl, if_pos rfl, j7] at this
  have eb : zbM N O c 40 = O := by unfold zbM; rw [if_neg (by have := g.1.2.2; omega)]
  rw [eb] at this
  exact this
/-- all values, a loan played -/
theorem M_laysValues_lent (h : WM R n) (g : zMp I N P w0 Wk co s0 O c pl tp) (h7 : I 208 7 = 2) (h8 : I 208 8 = nI l) (hl : l < 65536) (hne : zcap l (fun i => I 206 (6 * i + w0)) P ≠ none) : ∃ J, M_laysValues 195 I R n = some (none, J, R, n) ∧ zTM J pl tp N O co Wk c (w0 + 1) ∧ (∀ f u, 1 ≤ f → f ≤ 2 → u < 8 → J 215 (zsta w0 40 f u) = zwith l (fun i => I 206 (6 * i + w0)) P + zVal pl tp c co N Wk (Wk - (w0 + 1)) O 2 u) ∧ ∀ q j, (q = 195 → j ≠ 33 ∧ j ≠ 34) → q ≠ 215 → J q j = I q j := by
  obtain ⟨y1, y2, y3, y4⟩ := g.2.2.2.2.2.2.1
  obtain ⟨J, e1, e2, e3⟩ := M_lvs_rest h g
  have eb : zbM N O c 40 = O := by unfold zbM; rw [if_neg (by have := g.1.2.2; omega)]
  obtain ⟨t1, t2⟩ := e2 (w0 + 1) (Wk - (w0 + 1)) (Nat.le_refl _) (by omega)
  have st := e_M_laysValues_46 195 (nI (w0 + 1) - 1) J R n
  have gJ := zMp_fr g (fun q j a1 a2 _ _ => e3 q j a1 a2)
  simp only [h.k, h.2, zc_t, zr_s, zin208, zixs, Bool.true_or, Bool.true_and, gJ.2.2.2.2.1.2.1, nI_pred, if_neg (nI_nlt (Nat.le_refl w0) (show w0 < 2 ^ 31 by omega))] at st
  rw [← nI_0] at st
  obtain ⟨K, k1, k2, k3⟩ := M_lvs59_ok (I := J) (R := R) (n := n) (N := N) (w := w0) (Q := fun b f u x => b = 40 → 1 ≤ f → x = zwith l (fun i => I 206 (6 * i + w0)) P + zVal pl tp c co N Wk (Wk - (w0 + 1)) O 2 u) h g.1.2.2 gJ.1.1 (fun b f u L hb hbN hf hu hL => by
    have gL := zMp_fr gJ (zBf_Pf hL)
    have l7 : L 208 7 = 2 := by rw [hL 208 7 (by decide) (fun z => absurd z (by decide)), e3 208 7 (by decide) (by decide)]; exact h7
    have l8 : L 208 8 = nI l := by rw [hL 208 8 (by decide) (fun z => absurd z (by decide)), e3 208 8 (by decide) (by decide)]; exact h8
    have l6 : (fun i => L 206 (6 * i + w0)) = fun i => I 206 (6 * i + w0) := funext (fun i => by rw [hL 206 _ (fun z => absurd z (by decide)) (fun z => absurd z (by decide)), e3 206 _ (fun z => absurd z (by decide)) (by decide)])
    obtain ⟨L', q1, q2, q3⟩ := M_laysValue_lent (N := N) (I := L) (R := R) (n := n) (w := w0) (b := b) (f := f) (u := u) h (by omega) hb hf hu gL.2.2.2.2.1.2.1 l7 gL.2.2.1.1 gL.2.2.1.2 l8 hl (by rw [l6]; exact hne)
    refine ⟨L', q1, fun z1 z2 => ?_, fun q j a1 a2 => q3 q j a2⟩
    rw [q2 z2, l6]
    have rg := zsta_rng (w := w0 + 1) hb (show 2 ≤ 2 by omega) hu
    rw [hL 215 _ (fun z => absurd z (by decide)) (fun _ => Or.inr rg.1), t1 b 2 u hb hbN (by omega) (by omega) hu, z1, eb]) 41 0 J (by omega) (fun _ _ _ _ => rfl) (fun b' f' u' _ _ _ _ z => by unfold zDn at z; omega)
  have gK := zMp_fr gJ (zBf_Pf k2)
  have s2 := e_M_laysValues_46 195 (nI w0 - 1) K R n
  have lt : nI w0 - 1 < nI w0 := by
    rcases Nat.eq_zero_or_pos w0 with z | z
    · subst z; decide
    · rw [zpred z]; exact nI_lt (by omega) (by omega)
  simp only [h.k, h.2, zc_t, zr_s, zin208, zixs, Bool.true_or, Bool.true_and, gK.2.2.2.2.1.2.1, if_pos lt] at s2
  rw [nI_pred] at e1
  refine ⟨K, ?_, zTM_fr e2 k2, fun f u a1 a2 a3 => k3 40 f u (by omega) (Or.inr rfl) a2 a3 rfl a1, fun q j a1 a2 => by rw [k2 q j a1 (fun z => absurd z a2)]; exact e3 q j a1 a2⟩
  exact e1.trans (st.trans (k1.trans s2))
end LMA
