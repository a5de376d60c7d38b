/-! ===== seasons: a week played; the ring ===== -/
section LS3
variable {I : ZI} {R : ZR} {n s d : Nat}
theorem WS.zrow (h : WS R n s) {w : Nat} (hw : w < 6) : zin (s + 3 + w) 0 = true ∧ zin (s + 3 + w) 1 = true ∧ zin (s + 3 + w) 2 = true ∧ zin (s + 3 + w) 3 = true ∧ zin (s + 3 + w) 4 = true ∧ zin (s + 3 + w) 5 = true := by
  have hl := (h.rw hw).2
  exact ⟨zin_of (k := 0) hl (by omega) (by omega), zin_of (k := 1) hl (by omega) (by omega), zin_of (k := 2) hl (by omega) (by omega), zin_of (k := 3) hl (by omega) (by omega), zin_of (k := 4) hl (by omega) (by omega), zin_of (k := 5) hl (by omega) (by omega)⟩
theorem Se_tell_ok (h : WS R n s) {w : Nat} (hw : w < 6) (h4 : I s 4 = nI w) (x y z v : Int32) : ∃ I', Se_tell s x y z v I R n = some (none, I', R, n) ∧ (I' (s + 3 + w) 0 = x ∧ I' (s + 3 + w) 1 = y ∧ I' (s + 3 + w) 2 = z ∧ I' (s + 3 + w) 3 = I s 10 ∧ I' (s + 3 + w) 4 = I s 6 ∧ I' (s + 3 + w) 5 = v) ∧ ∀ b j, b ≠ s + 3 + w → I' b j = I b j := by
  rw [e_Se_tell]
  simp only [h.k, h.r, zc_t, zr_s, h4, zin_of h.ln.2 hw (by omega), zix_nI (show w < 2 ^ 31 by omega), h.rr hw, (h.rw hw).1, h.zrow hw, Bool.true_or, Bool.true_and, zixs]
  rw [e_Se_tell_34]
  simp only [h.k, zc_t, (h.rw hw).1, h.zrow hw, Bool.true_and, zixs]
  refine ⟨_, rfl, ⟨?_, ?_, ?_, ?_, ?_, ?_⟩, ?_⟩
  · simp [zup_cases]
  · simp [zup_cases]
  · simp [zup_cases]
  · have : s ≠ s + 3 + w := by omega
    simp [zup_cases, this]
  · have : s ≠ s + 3 + w := by omega
    simp [zup_cases, this]
  · simp [zup_cases]
  · intro b j hb; simp [zup_cases, hb]
/-- what a week brings: team S, captain b -/
def zscore (S P b : Nat) (pts : Nat → Int32) (chip swaps free cost : Int32) : Int32 := zsum S pts P - zmax 0 (zuse chip swaps - free) * cost + (if chip = 0 then 2 else 1) * pts b
def zWeekd (I I' : ZI) (s w : Nat) (score team head worth : Int32) : Prop := (I' s 4 = I s 4 + 1 ∧ I' s 5 = zmin 2 (zmax 0 (I s 5 - zuse (I s 10) (I s 6)) + 1) ∧ I' s 6 = 0 ∧ I' s 10 = -1 ∧ I' s 11 = I s 11 + score ∧ I' s 12 = 0) ∧ (I' (s + 3 + w) 0 = score ∧ I' (s + 3 + w) 1 = team ∧ I' (s + 3 + w) 2 = head ∧ I' (s + 3 + w) 3 = I s 10 ∧ I' (s + 3 + w) 4 = I s 6 ∧ I' (s + 3 + w) 5 = worth) ∧ (I' s 2 = I s 2 ∧ I' s 3 = I s 3 ∧ I' s 7 = I s 7 ∧ I' s 8 = I s 8 ∧ I' s 9 = I s 9) ∧ ∀ b j, b ≠ s → b ≠ s + 3 + w → I' b j = I b j
theorem Se_playWeek114_ok (h : WS R n s) {L : Nat} (hL : WL R n L) {O w : Nat} (hw : w < 6) (h4 : I s 4 = nI w) (ho : I s 8 = nI O) (hO : O < 2 ^ 31) (x3 x4 x5 : Int32) : ∃ I', Se_playWeek_114 s L x3 x4 x5 I R n = some (some (.int x5), I', R, n) ∧ zWeekd I I' s w x5 x3 x4 (I s 3 + zsum O (fun i => zbrings (I (L + 15 + w) i) (I (s + 1) i)) 16) := by
  rw [e_Se_playWeek_114]
  have hw7 : w < 7 := by omega
  obtain ⟨J, e, ⟨t0, t1, t2, t3, t4, t5⟩, tf⟩ := Se_tell_ok (I := I) h hw h4 x5 x3 x4 (I s 3 + zsum O (fun i => zbrings (I (L + 15 + w) i) (I (s + 1) i)) 16)
  have js : ∀ j, J s j = I s j := fun j => tf s j (by omega)
  simp only [h.k, hL.k, hL.r, zc_t, zr_s, h4, Bool.true_or, Bool.true_and, zin_of hL.ln.2.2.2.2.2.2.2 hw7 (by omega), zix_nI (show w < 2 ^ 31 by omega), hL.2.2.2.2 w hw7, Se_worth_ok h ho hO (hL.pw hw7).1 (hL.pw hw7).2, zbI_s, e, zbV_s, Se_swapsOfFree_ok h, js]
  rw [e_Se_playWeek_185]
  simp only [h.k, zc_t]
  have hn : s + 3 + w ≠ s := by omega
  refine ⟨_, rfl, ⟨?_, ?_, ?_, ?_, ?_, ?_⟩, ⟨?_, ?_, ?_, ?_, ?_, ?_⟩, ⟨?_, ?_, ?_, ?_, ?_⟩, ?_⟩
  · simp [zup_cases, js]
  · simp [zup_cases, js]
  · simp [zup_cases, js]
  · simp [zup_cases, js]
  · simp [zup_cases, js]
  · simp [zup_cases, js]
  · simp [zup_cases, hn, t0]
  · simp [zup_cases, hn, t1]
  · simp [zup_cases, hn, t2]
  · simp [zup_cases, hn, t3]
  · simp [zup_cases, hn, t4]
  · simp [zup_cases, hn, t5]
  · simp [zup_cases, js]
  · simp [zup_cases, js]
  · simp [zup_cases, js]
  · simp [zup_cases, js]
  · simp [zup_cases, js]
  · intro b j h1 h2
    simp [zup_cases, h1, tf b j h2]
theorem Se_playWeek50_ok (h : WS R n s) {L : Nat} (hL : WL R n L) {S O P b w : Nat} (hw : w < 6) (h4 : I s 4 = nI w) (ho : I s 8 = nI O) (hO : O < 2 ^ 31) (hS : S < 2 ^ 31) (hP : P ≤ 16) (hp : I L 8 = nI P) (hb : b < P) : ∃ I', Se_playWeek_50 s L (nI S) (nI b) I R n = some (some (.int (zscore S P b (I (L + 8 + w)) (I s 10) (I s 6) (I s 5) (I (L + 2) 3))), I', R, n) ∧ zWeekd I I' s w (zscore S P b (I (L + 8 + w)) (I s 10) (I s 6) (I s 5) (I (L + 2) 3)) (nI S) (nI b) (I s 3 + zsum O (fun i => zbrings (I (L + 15 + w) i) (I (s + 1) i)) 16) := by
  rw [e_Se_playWeek_50]
  simp only [h.k, hL.k, hL.r, hL.zrules, zixs, zc_t, zr_s, h4, Bool.true_or, Bool.true_and, Lg_pointsOf_ok hL hS hP hp hw, zbI_s, Se_swapsPaid_ok h, Lg_hasPlayer_ok hL hp, zlt_in hb (show P < 2 ^ 31 by omega), (by decide : ¬ (1 : Int32) = 0), if_false]
  unfold zscore
  by_cases q : I s 10 = 0
  · rw [if_pos q, if_pos q, e_Se_playWeek_98]
    simp only [h.k, hL.k, hL.r, zc_t, zr_s, h4, Bool.true_or, Bool.true_and, zin_of hL.ln.2.2.2.2.2.2.1 hw (by omega), zix_nI (show w < 2 ^ 31 by omega), hL.2.2.2.1 w hw, (hL.rw hw).1, zin_of (hL.rw hw).2 (show b < 16 by omega) (by omega), zix_nI (show b < 2 ^ 31 by omega)]
    exact Se_playWeek114_ok h hL hw h4 ho hO _ _ _
  · rw [if_neg q, if_neg q, e_Se_playWeek_98]
    simp only [h.k, hL.k, hL.r, zc_t, zr_s, h4, Bool.true_or, Bool.true_and, zin_of hL.ln.2.2.2.2.2.2.1 hw (by omega), zix_nI (show w < 2 ^ 31 by omega), hL.2.2.2.1 w hw, (hL.rw hw).1, zin_of (hL.rw hw).2 (show b < 16 by omega) (by omega), zix_nI (show b < 2 ^ 31 by omega)]
    exact Se_playWeek114_ok h hL hw h4 ho hO _ _ _
theorem Se_playWeek_own (h : WS R n s) {L : Nat} (hL : WL R n L) {O P b w : Nat} (hw : w < 6) (h4 : I s 4 = nI w) (ho : I s 8 = nI O) (hO : O < 2 ^ 31) (hP : P ≤ 16) (hp : I L 8 = nI P) (hb : b < P) (h7 : I s 7 = nI b) (hc : ¬ I s 10 = 2) : ∃ I', Se_playWeek s L I R n = some (some (.int (zscore O P b (I (L + 8 + w)) (I s 10) (I s 6) (I s 5) (I (L + 2) 3))), I', R, n) ∧ zWeekd I I' s w (zscore O P b (I (L + 8 + w)) (I s 10) (I s 6) (I s 5) (I (L + 2) 3)) (nI O) (nI b) (I s 3 + zsum O (fun i => zbrings (I (L + 15 + w) i) (I (s + 1) i)) 16) := by
  rw [e_Se_playWeek]
  simp only [h.k, zc_t, if_neg hc, if_true, ho]
  rw [e_Se_playWeek_29]
  simp only [h.k, zc_t, if_true, h7]
  exact Se_playWeek50_ok h hL hw h4 ho hO hO hP hp hb
theorem Se_playWeek_lent (h : WS R n s) {L : Nat} (hL : WL R n L) {S O P b w : Nat} (hw : w < 6) (h4 : I s 4 = nI w) (ho : I s 8 = nI O) (hO : O < 2 ^ 31) (h12 : I s 12 = nI S) (hS : S < 2 ^ 31) (hP : P ≤ 16) (hp : I L 8 = nI P) (hb : zcap S (I (L + 8 + w)) P = some b) (hc : I s 10 = 2) : ∃ I', Se_playWeek s L I R n = some (some (.int (zscore S P b (I (L + 8 + w)) (I s 10) (I s 6) (I s 5) (I (L + 2) 3))), I', R, n) ∧ zWeekd I I' s w (zscore S P b (I (L + 8 + w)) (I s 10) (I s 6) (I s 5) (I (L + 2) 3)) (nI S) (nI b) (I s 3 + zsum O (fun i => zbrings (I (L + 15 + w) i) (I (s + 1) i)) 16) := by
  rw [e_Se_playWeek]
  simp only [h.k, zc_t, if_pos hc, (by decide : ¬ (1 : Nat) = 0), if_false, h12]
  rw [e_Se_playWeek_29]
  simp only [h.k, hL.k, zc_t, (by decide : ¬ (1 : Int32) = 0), if_false, h4, Lg_topPlayer_ok hL hS hP hp hw, zbI_s, hb, zo_some]
  exact Se_playWeek50_ok h hL hw h4 ho hO hS hP hp (zcap_lt hb).1
/-- the ring -/
def WH (R : ZR) (n : Nat) : Prop := 195 ≤ n ∧ R 28 0 = some 29 ∧ ∀ k, k < 12 → R 29 k = some (30 + 9 * k) ∧ WS R n (30 + 9 * k)
theorem Hist_add_ok (hH : WH R n) (h : WS R n 10) {k m : Nat} (hk : k < 12) (h1 : I 28 1 = nI k) (h2 : I 28 2 = nI m) (hm : m ≤ 12) (hb : zbool (I 10 2) = true) : ∃ I', Hist_add 28 10 I R n = some (none, I', R, n) ∧ I' 28 1 = nI ((k + 1) % 12) ∧ I' 28 2 = nI (if m = 12 then 12 else m + 1) ∧ (∀ j, 2 ≤ j → j ≤ 12 → I' (30 + 9 * k) j = I 10 j) ∧ (∀ j, j < 16 → I' (30 + 9 * k + 1) j = I 11 j) ∧ (∀ w j, w < 6 → j < 6 → I' (30 + 9 * k + 3 + w) j = I (13 + w) j) ∧ (∀ b j, b ≠ 28 → (b < 30 + 9 * k ∨ 30 + 9 * k + 9 ≤ b) → I' b j = I b j) := by
  obtain ⟨hn, r0, hr⟩ := hH
  obtain ⟨rk, wk⟩ := hr k hk
  have k28 : zis n 28 0 = true := zis_lit (by omega) (by decide)
  have k29 : zis n 29 22 = true ∨ zis n 29 23 = true := by
    have : z_kd 29 = 22 ∨ z_kd 29 = 23 := by decide
    rcases this with q | q
    · exact Or.inl (zis_lit (by omega) q)
    · exact Or.inr (zis_lit (by omega) q)
  have k29' : (zis n 29 22 || zis n 29 23) = true := by rcases k29 with q | q <;> rw [q]; rfl; exact Bool.or_true _
  have i29 : zin 29 (nI k) = true := zin_nI (by show _ < 12; omega) (by omega)
  obtain ⟨J, e, a1, a2, a3, a4⟩ := Se_copy_ok (I := I) h wk (by omega) hb
  have g12 : (!(decide ((12 : Nat) = 0))) = true := by decide
  have e12 : (12 : Int32) = nI 12 := by decide
  have j1 : J 28 1 = nI k := by rw [a4 _ _ (by omega), h1]
  have j2 : J 28 2 = nI m := by rw [a4 _ _ (by omega), h2]
  have em : nI (k + 1) - nI (k + 1) / 12 * 12 = nI ((k + 1) % 12) := by
    rw [e12]; exact pk_rem (by omega) (by omega) (by omega)
  have ez : zmin 12 (nI m + 1) = nI (if m = 12 then 12 else m + 1) := by
    have : ∀ m, m ≤ 12 → zmin 12 (nI m + 1) = nI (if m = 12 then 12 else m + 1) := by decide +kernel
    exact this m hm
  rw [e_Hist_add]
  simp only [k28, r0, zc_t, zr_s, k29', h1, i29, Bool.true_and, zix_nI (show k < 2 ^ 31 by omega), rk, wk.k, e, zbV_s, g12, j1, nI_1, em, zup_k 28 (show 2 ≠ 1 by omega), j2, ez]
  have ez' : zmin 12 (nI (m + 1)) = nI (if m = 12 then 12 else m + 1) := by rw [← nI_1]; exact ez
  rw [ez']
  refine ⟨_, rfl, ?_, ?_, ?_, ?_, ?_, ?_⟩
  · simp [zup_cases]
  · simp [zup_cases]
  · intro j h1 h2
    rw [zup_n _ (by omega), zup_n _ (by omega)]; exact a1 j h1 h2
  · intro j hj
    rw [zup_n _ (by omega), zup_n _ (by omega)]; exact a2 j hj
  · intro w j hw hj
    rw [zup_n _ (by omega), zup_n _ (by omega)]; exact a3 w j hw hj
  · intro b j h1 h2
    rw [zup_n _ h1, zup_n _ h1]; exact a4 b j h2
theorem Hist_takeBack_ok (hH : WH R n) (h : WS R n 10) {k m : Nat} (hk : k < 12) (h1 : I 28 1 = nI ((k + 1) % 12)) (h2 : I 28 2 = nI (m + 1)) (hb : zbool (I (30 + 9 * k) 2) = true) : ∃ I', Hist_takeBack 28 10 I R n = some (none, I', R, n) ∧ I' 28 1 = nI k ∧ I' 28 2 = nI m ∧ (∀ j, 2 ≤ j → j ≤ 12 → I' 10 j = I (30 + 9 * k) j) ∧ (∀ j, j < 16 → I' 11 j = I (30 + 9 * k + 1) j) ∧ (∀ w j, w < 6 → j < 6 → I' (13 + w) j = I (30 + 9 * k + 3 + w) j) ∧ (∀ b j, b ≠ 28 → (b < 10 ∨ 19 ≤ b) → I' b j = I b j) := by
  obtain ⟨hn, r0, hr⟩ := hH
  obtain ⟨rk, wk⟩ := hr k hk
  have k28 : zis n 28 0 = true := zis_lit (by omega) (by decide)
  have k29' : (zis n 29 22 || zis n 29 23) = true := by
    have : z_kd 29 = 22 ∨ z_kd 29 = 23 := by decide
    rcases this with q | q
    · rw [zis_lit (k := 22) (by omega) q]; rfl
    · rw [zis_lit (k := 23) (by omega) q]; exact Bool.or_true _
  have i29 : zin 29 (nI k) = true := zin_nI (by show _ < 12; omega) (by omega)
  have g12 : (!(decide ((12 : Nat) = 0))) = true := by decide
  have em : ((nI ((k + 1) % 12)) + 12 - 1) - ((nI ((k + 1) % 12)) + 12 - 1) / 12 * 12 = nI k := by
    have : ∀ k, k < 12 → ((nI ((k + 1) % 12)) + 12 - 1) - ((nI ((k + 1) % 12)) + 12 - 1) / 12 * 12 = nI k := by decide +kernel
    exact this k hk
  have hbJ : zbool ((zup I 28 1 (nI k)) (30 + 9 * k) 2) = true := by rw [zup_n _ (by omega)]; exact hb
  obtain ⟨J, e, a1, a2, a3, a4⟩ := Se_copy_ok (I := zup I 28 1 (nI k)) wk h (by omega) hbJ
  have j2 : J 28 2 = nI (m + 1) := by rw [a4 _ _ (by omega), zup_k _ (by omega), h2]
  rw [e_Hist_takeBack]
  simp only [k28, r0, zc_t, zr_s, k29', h1, em, zup_s, i29, Bool.true_and, zix_nI (show k < 2 ^ 31 by omega), rk, h.k, e, zbV_s, g12, j2, nI_pred]
  refine ⟨_, rfl, ?_, ?_, ?_, ?_, ?_, ?_⟩
  · rw [zup_k _ (by omega), a4 _ _ (by omega), zup_s]
  · rw [zup_s]
  · intro j h1 h2
    rw [zup_n _ (by omega), a1 j h1 h2, zup_n _ (by omega)]
  · intro j hj
    rw [zup_n _ (by omega)]
    have := a2 j hj
    rw [zup_n _ (by omega)] at this
    exact this
  · intro w j hw hj
    rw [zup_n _ (by omega)]
    have := a3 w j hw hj
    rw [zup_n _ (by omega)] at this
    exact this
  · intro b j h1 h2
    rw [zup_n _ h1, a4 b j (by omega), zup_n _ h1]
end LS3
