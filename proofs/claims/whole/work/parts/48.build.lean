/-! ===== the class builds its table ===== -/
noncomputable def cT (I : ZI) (L z P S : Nat) : Bool := zdc (S < 2 ^ P ∧ zcnt S (fun _ => true) 20 = z ∧ cTeam I L S P)
/-- those that the first prices allow -/
noncomputable def cD (I : ZI) (L z P S : Nat) : Bool := zdc (cT I L z P S = true ∧ ¬ I (L + 2) 0 < zsum S (I (L + 15)) P)
def WT (R : ZR) (n L : Nat) : Prop := 223 ≤ n ∧ (R 4 0 = some 218 ∧ R 4 1 = some 219 ∧ R 4 2 = some 220 ∧ R 4 3 = some 221 ∧ R 4 4 = some 222) ∧ R 4 5 = some L
section LB
variable {I : ZI} {R : ZR} {n L : Nat}
theorem WT.k (h : WT R n L) : zis n 4 7 = true ∧ zis n 218 20 = true ∧ zis n 219 20 = true ∧ zis n 220 20 = true ∧ zis n 221 20 = true ∧ zis n 222 20 = true := by
  have hn := h.1
  refine ⟨?_, ?_, ?_, ?_, ?_, ?_⟩ <;> exact zis_lit (by omega) (by decide)
theorem WT.r (h : WT R n L) : R 4 0 = some 218 ∧ R 4 1 = some 219 ∧ R 4 2 = some 220 ∧ R 4 3 = some 221 ∧ R 4 4 = some 222 ∧ R 4 5 = some L := ⟨h.2.1.1, h.2.1.2.1, h.2.1.2.2.1, h.2.1.2.2.2.1, h.2.1.2.2.2.2, h.2.2⟩
theorem zinT {k : Nat} (h : k < 3136) : zin 218 (nI k) = true ∧ zin 219 (nI k) = true ∧ zin 220 (nI k) = true ∧ zin 221 (nI k) = true := by
  refine ⟨zin_nI ?_ (by omega), zin_nI ?_ (by omega), zin_nI ?_ (by omega), zin_nI ?_ (by omega)⟩ <;> (show _ < 3136; omega)
theorem cTeam_congr {J : ZI} {S P : Nat} (h : ∀ b, L ≤ b → b < L + 22 → J b = I b) : cTeam J L S P = cTeam I L S P := by
  unfold cTeam cSlots cClubs
  rw [h (L + 1) (by omega) (by omega), h (L + 2) (by omega) (by omega), h (L + 3) (by omega) (by omega), h (L + 4) (by omega) (by omega)]
theorem zSets_congr {J : ZI} {a N P : Nat} {f g : Nat → Int32} (hJ : J a = I a) (hf : f = g) (h : zSets I a g N P) : zSets J a f N P := by
  unfold zSets
  rw [hJ, hf]
  exact h
theorem Tb_addTeam_ok (hT : WT R n L) (hL : WL R n L) {J : ZI} {X P m e : Nat} (hX : X < 65536) (hP : P ≤ 16) (hp : J L 8 = nI P) (hm : J 4 6 = nI m) (hm2 : m < 3136) (he : J 4 7 = nI e) (he2 : e < 3136) : ∃ I', Tb_addTeam 4 (nI X) J R n = some (none, I', R, n) ∧ I' 4 6 = nI (m + 1) ∧ I' 218 m = nI X ∧ (∀ k, k ≠ m → I' 218 k = J 218 k) ∧ (if J (L + 2) 0 < zsum X (J (L + 15)) P then I' 4 7 = nI e ∧ (∀ k, I' 221 k = J 221 k) else I' 4 7 = nI (e + 1) ∧ I' 221 e = nI X ∧ (∀ k, k ≠ e → I' 221 k = J 221 k)) ∧ ∀ b j, b ≠ 218 → b ≠ 221 → (b = 4 → j ≠ 6 ∧ j ≠ 7) → I' b j = J b j := by
  have hLb : 151 ≤ L ∧ L + 22 ≤ 195 := by rcases hL.2.1 with rfl | rfl <;> decide
  have e36 : (3136 : Int32) = nI 3136 := by decide
  have hlt : nI m < (3136 : Int32) := by rw [e36]; exact nI_lt hm2 (by omega)
  have q1 : (zup (zup J 218 m (nI X)) 4 6 (nI (m + 1))) L 8 = nI P := by rw [zup_n _ (by omega), zup_n _ (by omega), hp]
  have q2 := Lg_priceOf_ok hL (I := zup (zup J 218 m (nI X)) 4 6 (nI (m + 1))) (w := 0) (show X < 2 ^ 31 by omega) hP q1 (by omega)
  rw [nI_0, Nat.add_zero] at q2
  have q3 : zsum X ((zup (zup J 218 m (nI X)) 4 6 (nI (m + 1))) (L + 15)) P = zsum X (J (L + 15)) P := zsum_congr (fun i _ _ => by rw [zup_n _ (by omega), zup_n _ (by omega)])
  have q4 : (zup (zup J 218 m (nI X)) 4 6 (nI (m + 1))) (L + 2) 0 = J (L + 2) 0 := by rw [zup_n _ (by omega), zup_n _ (by omega)]
  have q5 : (zup (zup J 218 m (nI X)) 4 6 (nI (m + 1))) 4 7 = nI e := by rw [zup_k _ (by decide), zup_n _ (by decide), he]
  rw [e_Tb_addTeam]
  simp only [hT.k, hT.r, hL.k, hL.r, hL.zrules, zixs, zc_t, zr_s, hm, if_pos hlt, zinT hm2, zix_nI (show m < 2 ^ 31 by omega), zup_n _ (show (4 : Nat) ≠ 218 by decide), nI_1, q2, zbI_s, Bool.true_or, Bool.true_and, q3, q4, q5, zinT he2, zix_nI (show e < 2 ^ 31 by omega), zup_n _ (show (4 : Nat) ≠ 221 by decide)]
  by_cases q : J (L + 2) 0 < zsum X (J (L + 15)) P
  · rw [if_pos q]
    simp only [if_pos q]
    refine ⟨_, rfl, ?_, ?_, ?_, ⟨q5, ?_⟩, ?_⟩
    · rw [zup_s]
    · rw [zup_n _ (by decide), zup_s]
    · intro k hk; rw [zup_n _ (by decide), zup_k _ hk]
    · intro k; rw [zup_n _ (by decide), zup_n _ (by decide)]
    · intro b j h1 h2 h3
      by_cases z : b = 4
      · rw [zup_k _ (h3 z).1, zup_n _ h1]
      · rw [zup_n _ z, zup_n _ h1]
  · rw [if_neg q]
    simp only [if_neg q]
    refine ⟨_, rfl, ?_, ?_, ?_, ⟨?_, ?_, ?_⟩, ?_⟩
    · rw [zup_k _ (by decide), zup_n _ (by decide), zup_s]
    · rw [zup_n _ (by decide), zup_n _ (by decide), zup_n _ (by decide), zup_s]
    · intro k hk; rw [zup_n _ (by decide), zup_n _ (by decide), zup_n _ (by decide), zup_k _ hk]
    · rw [zup_s]
    · rw [zup_n _ (by decide), zup_s]
    · intro k hk; rw [zup_n _ (by decide), zup_k _ hk, zup_n _ (by decide), zup_n _ (by decide)]
    · intro b j h1 h2 h3
      by_cases z : b = 4
      · rw [zup_k _ (h3 z).2, zup_n _ h2, zup_k _ (h3 z).1, zup_n _ h1]
      · rw [zup_n _ z, zup_n _ h2, zup_n _ z, zup_n _ h1]
/-- the table is right up to X -/
def zBt2 (I J : ZI) (L z P X : Nat) : Prop := J 4 6 = nI (zct (cT I L z P) X) ∧ zTab (cT I L z P) X (J 218) ∧ J 4 7 = nI (zct (cD I L z P) X) ∧ zTab (cD I L z P) X (J 221) ∧ ∀ b j, b ≠ 218 → b ≠ 221 → (b = 4 → j ≠ 6 ∧ j ≠ 7) → J b j = I b j
theorem cD_sub {z P S : Nat} (h : cD I L z P S = true) : cT I L z P S = true := (zdc_iff.mp h).1
theorem zBt2_skip {J : ZI} {z P X Y : Nat} (h : zBt2 I J L z P X) (hXY : X ≤ Y) (hn : ∀ S, X ≤ S → S < Y → cT I L z P S = false) : zBt2 I J L z P Y := by
  obtain ⟨a1, a2, a3, a4, a5⟩ := h
  have hd : ∀ S, X ≤ S → S < Y → cD I L z P S = false := fun S h1 h2 => by
    cases q : cD I L z P S with
    | false => rfl
    | true => have := cD_sub q; rw [hn S h1 h2] at this; cases this
  refine ⟨?_, ?_, ?_, ?_, a5⟩
  · rw [a1, zct_none _ hXY hn]
  · intro S hS hp
    rcases Nat.lt_or_ge S X with q | q
    · exact a2 S q hp
    · rw [hn S q hS] at hp; cases hp
  · rw [a3, zct_none _ hXY hd]
  · intro S hS hp
    rcases Nat.lt_or_ge S X with q | q
    · exact a4 S q hp
    · rw [hd S q hS] at hp; cases hp
theorem Tb_build48_ok (hT : WT R n L) (hL : WL R n L) {P z : Nat} (hP : P ≤ 16) (hp : I L 8 = nI P) (hs : zSets I (L + 5) (I (L + 3)) 4 P) (hs2 : zSets I (L + 6) (I (L + 4)) 6 P) (hB : zct (cT I L z P) (2 ^ P) ≤ 3136) : ∀ d X T J, 2 ^ P - X ≤ d → T ≤ X → X < 2 ^ 20 → X ≠ 0 → zcnt X (fun _ => true) 20 = z → zBt2 I J L z P X → ∃ I', Tb_build_48 4 L (nI (2 ^ P)) (nI X) (nI T) J R n = some (none, I', R, n) ∧ zBt2 I I' L z P (2 ^ P) := by
  have hLb : 151 ≤ L ∧ L + 22 ≤ 195 := by rcases hL.2.1 with rfl | rfl <;> decide
  have h2P : 2 ^ P ≤ 65536 := Nat.pow_le_pow_right (n := 2) (by omega) hP
  have stop : ∀ X T J, 2 ^ P ≤ X → X < 2 ^ 20 → zBt2 I J L z P X → ∃ I', Tb_build_48 4 L (nI (2 ^ P)) (nI X) (nI T) J R n = some (none, I', R, n) ∧ zBt2 I I' L z P (2 ^ P) := by
    intro X T J h1 h3 hI
    refine ⟨J, ?_, ?_⟩
    · rw [e_Tb_build_48]
      by_cases q : nI T < nI (2 ^ P)
      · rw [if_pos q, if_neg (nI_nlt h1 (by omega))]
      · rw [if_neg q]
    · obtain ⟨a1, a2, a3, a4, a5⟩ := hI
      have hn : ∀ S, 2 ^ P ≤ S → S < X → cT I L z P S = false := fun S h1 h2 => zdc_f (fun q => by have := q.1; omega)
      have hd : ∀ S, 2 ^ P ≤ S → S < X → cD I L z P S = false := fun S h1 h2 => by
        cases q : cD I L z P S with
        | false => rfl
        | true => have := cD_sub q; rw [hn S h1 h2] at this; cases this
      refine ⟨?_, fun S hS => a2 S (by omega), ?_, fun S hS => a4 S (by omega), a5⟩
      · rw [a1, zct_none _ h1 hn]
      · rw [a3, zct_none _ h1 hd]
  intro d
  induction d with
  | zero => intro X T J h1 h2 h3 h4 h5 h6; exact stop X T J (by omega) h3 h6
  | succ d ih =>
    intro X T J h1 h2 h3 h4 h5 h6
    rcases Nat.lt_or_ge X (2 ^ P) with hX | hX
    · have hX16 : X < 65536 := by omega
      obtain ⟨-, g1, g2, g3, g4⟩ := zgos_all hX16 h4
      have h6' := h6
      obtain ⟨a1, a2, a3, a4, a5⟩ := h6
      have jL : ∀ b, L ≤ b → b < L + 22 → J b = I b := fun b hb1 hb2 => funext fun j => a5 b j (by omega) (by omega) (fun q => by omega)
      have jp : J L 8 = nI P := by rw [jL L (by omega) (by omega), hp]
      have js : zSets J (L + 5) (J (L + 3)) 4 P := zSets_congr (jL _ (by omega) (by omega)) (jL _ (by omega) (by omega)) hs
      have js2 : zSets J (L + 6) (J (L + 4)) 6 P := zSets_congr (jL _ (by omega) (by omega)) (jL _ (by omega) (by omega)) hs2
      have gap : ∀ S, X + 1 ≤ S → S < zgnx X → cT I L z P S = false := fun S q1 q2 => zdc_f (fun w => g4 S (by omega) q2 (by rw [w.2.1, h5]))
      have st := e_Tb_build_48 4 L (nI (2 ^ P)) (nI X) (nI T) J R n
      simp only [if_pos (nI_lt (show T < 2 ^ P by omega) (show 2 ^ P < 2 ^ 31 by omega)), if_pos (nI_lt hX (show 2 ^ P < 2 ^ 31 by omega)), hL.k, hT.k, zc_t, Lg_isTeam_ok hL hP js js2, zbI_s, Tb_next_ok hX16 h4, nI_1] at st
      by_cases q : cTeam J L X P
      · rw [zb01_t q, if_neg (by decide)] at st
        have hc : cT I L z P X = true := zdc_t ⟨hX, h5, by rw [← cTeam_congr jL]; exact q⟩
        have hm : zct (cT I L z P) X < 3136 := Nat.lt_of_lt_of_le (zct_lt _ hX hc) hB
        have he : zct (cD I L z P) X ≤ zct (cT I L z P) X := zct_sub (fun i _ => cD_sub)
        obtain ⟨K, e, k1, k2, k3, k4, k5⟩ := Tb_addTeam_ok hT hL hX16 hP jp a1 hm a3 (by omega)
        simp only [e, zbV_s, Tb_next_ok hX16 h4, zbI_s] at st
        have e1 : J (L + 2) 0 = I (L + 2) 0 := by rw [jL _ (by omega) (by omega)]
        have e2 : zsum X (J (L + 15)) P = zsum X (I (L + 15)) P := by rw [jL (L + 15) (by omega) (by omega)]
        rw [e1, e2] at k4
        have hK : zBt2 I K L z P (X + 1) := by
          refine ⟨?_, ?_, ?_, ?_, ?_⟩
          · rw [k1, zct_succ, hc]; rfl
          · intro S hS hpS
            by_cases w : S = X
            · rw [w, k2]
            · have := zct_lt (cT I L z P) (show S < X by omega) hpS
              rw [k3 _ (by omega)]; exact a2 S (by omega) hpS
          · by_cases w : I (L + 2) 0 < zsum X (I (L + 15)) P
            · rw [if_pos w] at k4
              have : cD I L z P X = false := zdc_f (fun v => v.2 w)
              rw [k4.1, zct_succ, this]; rfl
            · rw [if_neg w] at k4
              have : cD I L z P X = true := zdc_t ⟨hc, w⟩
              rw [k4.1, zct_succ, this]; rfl
          · intro S hS hpS
            by_cases w : I (L + 2) 0 < zsum X (I (L + 15)) P
            · rw [if_pos w] at k4
              by_cases v : S = X
              · rw [v] at hpS; exact absurd w (zdc_iff.mp hpS).2
              · rw [k4.2]; exact a4 S (by omega) hpS
            · rw [if_neg w] at k4
              by_cases v : S = X
              · rw [v, k4.2.1]
              · have := zct_lt (cD I L z P) (show S < X by omega) hpS
                rw [k4.2.2 _ (by omega)]; exact a4 S (by omega) hpS
          · intro b j q1 q2 q3
            rw [k5 b j q1 q2 q3]; exact a5 b j q1 q2 q3
        obtain ⟨I', e', hI'⟩ := ih (zgnx X) (T + 1) K (by omega) (by omega) (by omega) (by omega) (by rw [g3, h5]) (zBt2_skip hK (by omega) gap)
        exact ⟨I', st.trans e', hI'⟩
      · rw [zb01_f q, if_pos rfl] at st
        have hc : cT I L z P X = false := zdc_f (fun w => q (by rw [cTeam_congr jL]; exact w.2.2))
        have hK : zBt2 I J L z P (zgnx X) := zBt2_skip h6' (by omega) (fun S q1 q2 => by
          by_cases w : S = X
          · rw [w, hc]
          · exact gap S (by omega) q2)
        obtain ⟨I', e', hI'⟩ := ih (zgnx X) (T + 1) J (by omega) (by omega) (by omega) (by omega) (by rw [g3, h5]) hK
        exact ⟨I', st.trans e', hI'⟩
    · exact stop X T J hX h3 h6
end LB
