/-! ===== the planner (class): the table of values ===== -/
theorem zov0 (V : Nat → Nat → Nat → Int32) (pl tp : Nat → Int32) (c : Nat → Nat) (co B f u s0 k : Nat) : zov V pl tp c co B f u s0 k 0 = pl k - nI ((s0 + zdf (c k) B - f) * co) + V (c k) (if s0 + zdf (c k) B < f then 2 else 1) u := rfl
theorem zov1 (V : Nat → Nat → Nat → Int32) (pl tp : Nat → Int32) (c : Nat → Nat) (co B f u s0 k : Nat) : zov V pl tp c co B f u s0 k 1 = pl k - nI ((s0 + zdf (c k) B - f) * co) + tp k + V (c k) (if s0 + zdf (c k) B < f then 2 else 1) (u ||| 2 ^ 0) := rfl
theorem zov2 (V : Nat → Nat → Nat → Int32) (pl tp : Nat → Int32) (c : Nat → Nat) (co B f u s0 k : Nat) : zov V pl tp c co B f u s0 k 2 = pl k + V (c k) 2 (u ||| 2 ^ 1) := rfl
theorem zov3 (V : Nat → Nat → Nat → Int32) (pl tp : Nat → Int32) (c : Nat → Nat) (co B f u s0 k : Nat) : zov V pl tp c co B f u s0 k 3 = pl k + V B 2 (u ||| 2 ^ 2) := rfl
theorem zmxF_congr (i0 : Int32) {a b : Nat → Int32} : ∀ {N}, (∀ k, k < N → a k = b k) → zmxF i0 a N = zmxF i0 b N
  | 0, _ => rfl
  | N + 1, h => by
    show zmax (zmxF i0 a N) (a N) = zmax (zmxF i0 b N) (b N)
    rw [zmxF_congr i0 (fun k hk => h k (by omega)), h N (by omega)]
theorem zsvF_congr (tri : Bool) {a0 a1 b0 b1 : Nat → Int32} : ∀ {N}, (∀ k, k < N → a0 k = b0 k ∧ (tri = true → a1 k = b1 k)) → zsvF tri a0 a1 N = zsvF tri b0 b1 N
  | 0, _ => rfl
  | N + 1, h => by
    rw [zsvF_succ, zsvF_succ, zsvF_congr tri (fun k hk => h k (by omega)), (h N (by omega)).1]
    by_cases q : tri = true
    · rw [if_pos q, if_pos q, (h N (by omega)).2 q]
    · rw [if_neg q, if_neg q]
theorem zspt_inj {w r f u r' f' u' : Nat} (h1 : 1 ≤ f) (h2 : f ≤ 2) (hu : u < 8) (h1' : 1 ≤ f') (h2' : f' ≤ 2) (hu' : u' < 8) (e : zspt w r f u = zspt w r' f' u') : r = r' ∧ f = f' ∧ u = u' := by
  unfold zspt at e
  omega
theorem zspt_rng {w r f u : Nat} (hr : r ≤ 40) (h1 : 1 ≤ f) (h2 : f ≤ 2) (hu : u < 8) : w * 656 ≤ zspt w r f u ∧ zspt w r f u < (w + 1) * 656 := by
  unfold zspt
  omega
theorem zusub : ∀ u, u < 8 → ∀ s, s < 8 → ((nI u &&& nI s = nI s ↔ u &&& s = s) ∧ (u &&& s = s → (u ||| 2 ^ 0) &&& s = s ∧ (u ||| 2 ^ 1) &&& s = s ∧ (u ||| 2 ^ 2) &&& s = s)) := by decide +kernel
/-- what the planner has measured -/
def zPd (I : ZI) (L N rows co s w0 Wk : Nat) (c bs : Nat → Nat) (pl tp : Nat → Nat → Int32) : Prop := (I 141 11 = nI N ∧ I 141 12 = nI rows ∧ I (L + 2) 3 = nI co ∧ I 10 9 = nI s) ∧ (∀ r k, r < rows → k < N → I (225 + r) k = nI (zdf (c k) (bs r))) ∧ (∀ w k, w0 ≤ w → w < Wk → k < N → I (267 + w) k = pl w k ∧ I (274 + w) k = tp w k) ∧ ∀ w, w0 ≤ w → w < Wk → (∃ k, k < N ∧ pl w k = I 147 w) ∧ ∀ k, k < N → ¬ I 147 w < pl w k
def zPn (N rows co s w0 Wk : Nat) (c bs : Nat → Nat) (pl tp : Nat → Nat → Int32) : Prop := (1 ≤ N ∧ N ≤ 40) ∧ (N ≤ rows ∧ rows ≤ 41) ∧ co ≤ 9 ∧ s < 8 ∧ Wk ≤ 6 ∧ (∀ k, k < N → bs k = c k) ∧ ∀ w k, w0 ≤ w → w < Wk → k < N → zbd 800 (pl w k) ∧ zbd 100 (tp w k)
noncomputable def tabC (J : ZI) (V : Nat → Nat → Nat → Int32) (bs : Nat → Nat) (rows s w : Nat) : Prop := ∀ r f u, r < rows → 1 ≤ f → f ≤ 2 → u < 8 → u &&& s = s → J 280 (zspt w r f u) = V (bs r) f u
def zVb (V : Nat → Nat → Nat → Int32) (bs : Nat → Nat) (rows s d : Nat) : Prop := ∀ r f u, r < rows → 1 ≤ f → f ≤ 2 → u < 8 → u &&& s = s → zbd (11000 * d) (V (bs r) f u)
section LPv
variable {I : ZI} {R : ZR} {n L N rows co s w0 Wk d w : Nat} {c bs : Nat → Nat} {pl tp : Nat → Nat → Int32}
theorem zov_bd (hn : zPn N rows co s w0 Wk c bs pl tp) (hw0 : w0 ≤ w) (hw : w < Wk) {V : Nat → Nat → Nat → Int32} (hb : zVb V bs rows s d) (hd : d ≤ 6) {r f u s0 k ch : Nat} (hr : r < rows) (hf1 : 1 ≤ f) (hf2 : f ≤ 2) (hu : u < 8) (hus : u &&& s = s) (hs0 : s0 ≤ 1000) (hk : k < N) (hch : ch < 4) : zbd (11000 * (d + 1)) (zov V (pl w) (tp w) c co (bs r) f u s0 k ch) := by
  obtain ⟨⟨n1, n2⟩, ⟨n3, n4⟩, n5, n6, n7, n8, n9⟩ := hn
  have b := n9 w k hw0 hw hk
  have hdf := zdf_le (c k) (bs r)
  have sc := zsco_bd (f := f) (ch := ch) b.1 b.2 n5 (show s0 + zdf (c k) (bs r) ≤ 1016 by omega)
  have us := (zusub u hu s n6).2 hus
  have z8 := zsh2 u hu
  have vb : zbd (11000 * d) (V (znb (bs r) (c k) ch) (znf f (s0 + zdf (c k) (bs r)) ch) (znu u ch)) := by
    have fb := zfb_le (s0 + zdf (c k) (bs r)) f
    have c4 : ch = 0 ∨ ch = 1 ∨ ch = 2 ∨ ch = 3 := by omega
    rcases c4 with rfl | rfl | rfl | rfl
    · have q := hb k (if s0 + zdf (c k) (bs r) < f then 2 else 1) u (by omega) fb.1 fb.2 hu hus
      rw [n8 k hk] at q; exact q
    · have q := hb k (if s0 + zdf (c k) (bs r) < f then 2 else 1) (u ||| 2 ^ 0) (by omega) fb.1 fb.2 z8.2.2.2.2.2.2.2.1 us.1
      rw [n8 k hk] at q; exact q
    · have q := hb k 2 (u ||| 2 ^ 1) (by omega) (by omega) (by omega) z8.2.2.2.2.2.2.1 us.2.1
      rw [n8 k hk] at q; exact q
    · exact hb r 2 (u ||| 2 ^ 2) hr (by omega) (by omega) z8.2.2.2.2.2.1 us.2.2
  have := (zbd_add sc vb (by omega)).1
  exact zbd_mono this (by omega)
theorem zlow_bd {k : Nat} {x : Int32} (h : zbd k x) (hk : k ≤ 1000000 - 1) : (-1000000 : Int32) < x ∧ (-100000000 : Int32) < x := by
  unfold zbd at h
  have e1 : (-1000000 : Int32).toInt = -1000000 := by decide
  have e2 : (-100000000 : Int32).toInt = -100000000 := by decide
  rw [Int32.lt_iff_toInt_lt, Int32.lt_iff_toInt_lt, e1, e2]
  omega
/-- the value of one point, as the class finds it -/
theorem zval_class (hW : WP R n L) (hL : WL R n L) (hd : zPd I L N rows co s w0 Wk c bs pl tp) (hn : zPn N rows co s w0 Wk c bs pl tp) (hw : w + (d + 1) = Wk) (hw0 : w0 ≤ w) (ht : tabC I (zVal pl tp c co N Wk d) bs rows s (w + 1)) (hb : zVb (zVal pl tp c co N Wk d) bs rows s d) {J : ZI} (hJ : ∀ b, b ≠ 280 → J b = I b) (hJ2 : ∀ j, (w + 1) * 656 ≤ j → J 280 j = I 280 j) {r f u : Nat} (hr : r < rows) (hf1 : 1 ≤ f) (hf2 : f ≤ 2) (hu : u < 8) (hus : u &&& s = s) : ∃ W Lo sv, (u.testBit 1 = false → Pl_wildValue 141 (nI w) (nI (u ||| 2 ^ 1)) J R n = some (some (.int W), J, R, n)) ∧ (u.testBit 1 = true → W = -100000000) ∧ Pl_loanValue 141 (nI w) (nI r) (nI u) J R n = some (some (.int Lo), J, R, n) ∧ Pl_swapValue 141 (nI w) (nI r) (nI f) (nI u) J R n = some (some (.int sv), J, R, n) ∧ zmax (zmax W Lo) sv = zVal pl tp c co N Wk (d + 1) (bs r) f u ∧ zbd (11000 * (d + 1)) (zVal pl tp c co N Wk (d + 1) (bs r) f u) ∧ W = (if u.testBit 1 = false then zmxF (-100000000) (fun k => pl w k + zVal pl tp c co N Wk d (c k) 2 (u ||| 2 ^ 1)) N else -100000000) := by
  obtain ⟨⟨d1, d2, d3, d4⟩, d5, d6, d7⟩ := hd
  have hn' := hn
  obtain ⟨⟨n1, n2⟩, ⟨n3, n4⟩, n5, n6, n7, n8, n9⟩ := hn'
  have us := (zusub u hu s n6).2 hus
  have z8 := zsh2 u hu
  have hw6 : w < 6 := by omega
  have hl := isL_i hL.2.1
  have jt : ∀ k f u, k < rows → 1 ≤ f → f ≤ 2 → u < 8 → u &&& s = s → J 280 (zspt (w + 1) k f u) = zVal pl tp c co N Wk d (bs k) f u := fun k f u a1 a2 a3 a4 a5 => by
    rw [hJ2 _ (zspt_rng (by omega) a2 a3 a4).1]; exact ht k f u a1 a2 a3 a4 a5
  have j11 : J 141 11 = nI N := by rw [hJ 141 (by decide)]; exact d1
  have jco : J (L + 2) 3 = nI co := by rw [hJ _ (by omega)]; exact d3
  have jD : ∀ k, k < N → J (225 + r) k = nI (zdf (c k) (bs r)) ∧ zdf (c k) (bs r) ≤ 16 := fun k hk => ⟨by rw [hJ _ (by omega)]; exact d5 r k hr hk, zdf_le _ _⟩
  have jp : ∀ k, k < N → J (267 + w) k = pl w k ∧ J (274 + w) k = tp w k := fun k hk => by
    rw [hJ _ (by omega), hJ _ (by omega)]; exact d6 w k hw0 (by omega) hk
  have wd := Pl_wild_ok (I := J) hW hw6 z8.2.2.2.2.2.2.1 n2 j11
  have ld := Pl_loan_ok (I := J) hW hw6 hu (show r ≤ 40 by omega)
  have sd := Pl_swap_ok (I := J) hW hL hw6 hu (show r ≤ 40 by omega) hf1 hf2 n2 j11 jco jD
  have eW : zmxF (-100000000) (fun k => J (267 + w) k + J 280 (zspt (w + 1) k 2 (u ||| 2 ^ 1))) N = zmxF (-100000000) (fun k => pl w k + zVal pl tp c co N Wk d (c k) 2 (u ||| 2 ^ 1)) N := zmxF_congr _ (fun k hk => by
    show J (267 + w) k + J 280 (zspt (w + 1) k 2 (u ||| 2 ^ 1)) = _
    rw [(jp k hk).1, jt k 2 _ (by omega) (by omega) (by omega) z8.2.2.2.2.2.2.1 us.2.1, n8 k hk])
  rw [eW] at wd
  have eS : zsvF (!(u.testBit 0)) (fun k => J (267 + w) k - nI ((zdf (c k) (bs r) - f) * co) + J 280 (zspt (w + 1) k (if zdf (c k) (bs r) < f then 2 else 1) u)) (fun k => J (267 + w) k - nI ((zdf (c k) (bs r) - f) * co) + J (274 + w) k + J 280 (zspt (w + 1) k (if zdf (c k) (bs r) < f then 2 else 1) (u ||| 2 ^ 0))) N = zsvF (!(u.testBit 0)) (fun k => zov (zVal pl tp c co N Wk d) (pl w) (tp w) c co (bs r) f u 0 k 0) (fun k => zov (zVal pl tp c co N Wk d) (pl w) (tp w) c co (bs r) f u 0 k 1) N := zsvF_congr _ (fun k hk => by
    have fb := zfb_le (zdf (c k) (bs r)) f
    refine ⟨?_, fun _ => ?_⟩
    · show J (267 + w) k - nI ((zdf (c k) (bs r) - f) * co) + J 280 (zspt (w + 1) k (if zdf (c k) (bs r) < f then 2 else 1) u) = _
      rw [zov0, Nat.zero_add, (jp k hk).1, jt k _ u (by omega) fb.1 fb.2 hu hus, n8 k hk]
    · show J (267 + w) k - nI ((zdf (c k) (bs r) - f) * co) + J (274 + w) k + J 280 (zspt (w + 1) k (if zdf (c k) (bs r) < f then 2 else 1) (u ||| 2 ^ 0)) = _
      rw [zov1, Nat.zero_add, (jp k hk).1, (jp k hk).2, jt k _ _ (by omega) fb.1 fb.2 z8.2.2.2.2.2.2.2.1 us.1, n8 k hk])
  rw [eS] at sd
  have bd : ∀ k ch, k < N → ch < 4 → zbd (11000 * (d + 1)) (zov (zVal pl tp c co N Wk d) (pl w) (tp w) c co (bs r) f u 0 k ch) := fun k ch hk hch => zov_bd hn hw0 (by omega) hb (by omega) hr hf1 hf2 hu hus (by omega) hk hch
  have bV : zbd (11000 * d) (zVal pl tp c co N Wk d (bs r) 2 (u ||| 2 ^ 2)) := hb r 2 _ hr (by omega) (by omega) z8.2.2.2.2.2.1 us.2.2
  have im := zIM_class (N := N) (u := u) (v := zov (zVal pl tp c co N Wk d) (pl w) (tp w) c co (bs r) f u 0) (W := if u.testBit 1 = false then zmxF (-100000000) (fun k => pl w k + zVal pl tp c co N Wk d (c k) 2 (u ||| 2 ^ 1)) N else -100000000) (Lo := if u.testBit 2 = false then J 147 w + J 280 (zspt (w + 1) r 2 (u ||| 2 ^ 2)) else -100000000) n1 (fun k ch hk hch => (zlow_bd (bd k ch hk hch) (by omega)).2) rfl (fun h2 => by
    rw [if_pos h2, hJ 147 (by decide), jt r 2 _ hr (by omega) (by omega) z8.2.2.2.2.2.1 us.2.2]
    obtain ⟨⟨k0, q1, q2⟩, q3⟩ := d7 w hw0 (by omega)
    refine ⟨⟨k0, q1, by rw [zov3, q2]⟩, fun k hk => ?_⟩
    rw [zov3]
    have p0 := (n9 w k0 hw0 (by omega) q1).1
    rw [q2] at p0
    have a1 := (zbd_add p0 bV (by omega)).2
    have a2 := (zbd_add (n9 w k hw0 (by omega) hk).1 bV (by omega)).2
    have a3 := q3 k hk
    rw [Int32.lt_iff_toInt_lt] at a3 ⊢
    rw [a1, a2]
    omega) (fun h2 => by rw [h2, if_neg (by decide)])
  have ev := zVal_eq (pl := pl) (tp := tp) (c := c) (co := co) (N := N) (Wk := Wk) (d := d) (B := bs r) (f := f) (u := u) (by rw [show Wk - (d + 1) = w by omega]; exact im)
  refine ⟨_, _, _, fun h1 => ?_, fun h1 => ?_, ld, sd, ev.symm, ?_, rfl⟩
  · rw [if_pos h1]; exact wd
  · rw [h1, if_neg (by decide)]
  · obtain ⟨⟨k, ch, a1, a2, a3, a4⟩, -⟩ := im
    rw [ev, ← a4]
    exact bd k ch a1 a2
end LPv
