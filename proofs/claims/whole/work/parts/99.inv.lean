/-! ===== the invariant of a run: the class's memory and the reference's ===== -/
def zWc (R : ZR) (n : Nat) : Prop := (R 0 0 = some 1 ∧ R 0 1 = some 3 ∧ R 0 2 = some 4 ∧ R 0 3 = some 10 ∧ R 0 4 = some 19 ∧ R 0 5 = some 28 ∧ R 0 6 = some 138 ∧ R 0 7 = some 141 ∧ R 0 8 = some 150) ∧ (R 1 0 = some 2 ∧ R 3 0 = some 1) ∧ (WL R n 151 ∧ WL R n 173) ∧ (WS R n 10 ∧ WS R n 19 ∧ WH R n) ∧ (R 138 0 = some 139 ∧ R 138 1 = some 140) ∧ (R 141 5 = some 147 ∧ R 141 6 = some 148 ∧ R 141 7 = some 149) ∧ WM R n
theorem zWc.k {R : ZR} {n : Nat} (h : zWc R n) : zis n 0 8 = true ∧ zis n 1 6 = true ∧ zis n 3 3 = true ∧ zis n 4 7 = true ∧ zis n 10 4 = true ∧ zis n 19 4 = true ∧ zis n 28 0 = true ∧ zis n 138 5 = true ∧ zis n 141 2 = true ∧ zis n 150 20 = true := by
  have hn := h.2.2.2.2.2.2.1
  refine ⟨?_, ?_, ?_, ?_, ?_, ?_, ?_, ?_, ?_, ?_⟩ <;> exact zis_lit (by omega) (by decide)
theorem zWc.L {R : ZR} {n L : Nat} (h : zWc R n) (hL : isL L) : WL R n L := by
  rcases hL with q | q
  · rw [q]; exact h.2.2.1.1
  · rw [q]; exact h.2.2.1.2
theorem zWc.M {R : ZR} {n : Nat} (h : zWc R n) : WM R n := h.2.2.2.2.2.2
theorem zWc.S {R : ZR} {n : Nat} (h : zWc R n) : WS R n 10 := h.2.2.2.1.1
theorem zWc.S2 {R : ZR} {n : Nat} (h : zWc R n) : WS R n 19 := h.2.2.2.1.2.1
theorem zWc.H {R : ZR} {n : Nat} (h : zWc R n) : WH R n := h.2.2.2.1.2.2
/-- the league that is told: the class's rows and the reference's -/
def zLg (I : ZI) (L P Wk z : Nat) : Prop := (1 ≤ P ∧ P ≤ 16 ∧ I L 8 = nI P ∧ I 195 17 = nI P) ∧ (1 ≤ Wk ∧ Wk ≤ 6 ∧ I (L + 2) 2 = nI Wk ∧ I 198 6 = nI Wk) ∧ (1 ≤ z ∧ z ≤ 6 ∧ I L 9 = nI z ∧ I 198 0 + I 198 1 + I 198 2 + I 198 3 = nI z) ∧ (∀ k, k < 6 → ∃ v, zrLo k ≤ v ∧ v ≤ zrHi k ∧ I (L + 2) k = nI v ∧ I 198 (4 + k) = nI v) ∧ (∀ k, k < 4 → ∃ v, v ≤ 3 ∧ I (L + 1) k = nI v ∧ I 198 k = nI v) ∧ (∀ i, i < P → (∃ v, v < 4 ∧ I (L + 3) i = nI v ∧ I 203 i = nI v) ∧ (∃ v, v < 6 ∧ I (L + 4) i = nI v ∧ I 204 i = nI v)) ∧ (∀ w i, w ≤ Wk → i < P → (∃ v, 1 ≤ v ∧ v ≤ 99 ∧ I (L + 15 + w) i = nI v) ∧ I (L + 15 + w) i = mFore I i w) ∧ (∀ w i, w < Wk → i < P → I (L + 8 + w) i = I 206 (6 * i + w) ∧ zbd 99 (I (L + 8 + w) i)) ∧ zSets I (L + 5) (I (L + 3)) 4 P ∧ zSets I (L + 6) (I (L + 4)) 6 P
/-- the teams -/
def zTt (I : ZI) (L P m : Nat) (t : Nat → Nat) : Prop := zTm I m t ∧ zTmM I m t ∧ (∀ k, k < m → t k < 2 ^ P ∧ cTeam I L (t k) P) ∧ (∀ S, S < 2 ^ P → cTeam I L S P → ∃ k, k < m ∧ t k = S) ∧ I 4 7 = nI (zct (fun k => !(decide (I (L + 2) 0 < zsum (t k) (I (L + 15)) P))) m) ∧ ∀ k, k < m → (!(decide (I (L + 2) 0 < zsum (t k) (I (L + 15)) P))) = true → I 221 (zct (fun k => !(decide (I (L + 2) 0 < zsum (t k) (I (L + 15)) P))) k) = nI (t k)
/-- the rows of prices and scores that the class keeps -/
def zCa (I : ZI) (L P Wk m : Nat) (t : Nat → Nat) : Prop := (∀ w, w ≤ Wk → I 4 8 = nI w → ∀ k, k < m → I 219 k = zsum (t k) (I (L + 15 + w)) P) ∧ ∀ w, w < Wk → I 4 9 = nI w → ∀ k, k < m → I 220 k = zwith (t k) (I (L + 8 + w)) P
/-- a season of the class (its fields S, bought B, tales Tl) and a row of the reference -/
def zSE (I : ZI) (L P Wk q : Nat) (S B : Nat → Int32) (Tl : Nat → Nat → Int32) (g : Nat → Int32) : Prop := ∃ (be : Bool) (mo w f sw O u l : Nat), (S 2 = zbo be ∧ g 0 = zbo be) ∧ (S 3 = nI mo ∧ g 2 = nI mo ∧ mo ≤ 1000 + 100 * q) ∧ (S 4 = nI w ∧ g 9 = nI w ∧ w ≤ Wk) ∧ (S 5 = nI f ∧ g 4 = nI f ∧ f ≤ 2 ∧ (be = true → 1 ≤ f)) ∧ (S 6 = nI sw ∧ g 5 = nI sw ∧ sw ≤ q) ∧ (be = true → ∃ b, b < P ∧ S 7 = nI b ∧ g 3 = nI b) ∧ (S 8 = nI O ∧ g 1 = nI O ∧ O < 2 ^ P ∧ (be = true → cTeam I L O P) ∧ (be = false → O = 0 ∧ w = 0 ∧ sw = 0 ∧ u = 0 ∧ l = 0 ∧ S 10 = -1 ∧ S 11 = 0)) ∧ (S 9 = nI u ∧ g 6 = nI u ∧ u < 8) ∧ (S 10 = g 7 ∧ (S 10 = -1 ∨ S 10 = 0 ∨ S 10 = 1 ∨ (S 10 = 2 ∧ u.testBit 2 = true ∧ sw = 0 ∧ cTeam I L l P ∧ ¬ S 3 + zsum O (fun i => zbrings (I (L + 15 + w) i) (B i)) 16 < zsum l (I (L + 15 + w)) P))) ∧ S 11 = g 10 ∧ (S 12 = nI l ∧ g 8 = nI l ∧ l < 2 ^ P) ∧ (∀ i, i < P → O.testBit i = true → ∃ v, 1 ≤ v ∧ v ≤ 99 ∧ B i = nI v ∧ g (27 + i) = nI v) ∧ (∀ w' j, w' < w → j < 6 → Tl w' j = g (43 + (6 * w' + j))) ∧ ∀ i, i < P → g (11 + i) = I (L + 15 + w) i
def zpl (I : ZI) (L P : Nat) (c : Nat → Nat) (w k : Nat) : Int32 := if w < 6 then cPl I L P c w k else 0
def ztp (I : ZI) (L P : Nat) (c : Nat → Nat) (w k : Nat) : Int32 := if w < 6 then cTp I L P c w k else 0
/-- the planner's answers are those of the present season -/
def zPln (I : ZI) (L P Wk m : Nat) (t : Nat → Nat) : Prop := ∀ w0 O f s s0 l co, I 10 4 = nI w0 → I 10 8 = nI O → I 10 5 = nI f → I 10 9 = nI s → I 10 6 = nI s0 → I 10 12 = nI l → I (L + 2) 3 = nI co → w0 < 7 → O < 65536 → f < 3 → s < 8 → s0 < 1001 → l < 65536 → co < 10 → ∀ cond : Nat → Bool, (cond = fun k => !(decide (I 10 3 + zsum O (fun i => zbrings (I (L + 15 + w0) i) (I 11 i)) 16 < zsum (t k) (I (L + 15 + w0)) P))) → I 141 11 = nI (zct cond m) ∧ (1 ≤ zct cond m → zct cond m ≤ 40 → zPS (zpl I L P (zChs m cond t)) (ztp I L P (zChs m cond t)) (zChs m cond t) co (zct cond m) Wk w0 O f s s0 l (I 10 10) (I 141 14) (I 148) (I 149))
def zHi (I : ZI) (L P Wk q : Nat) : Prop := ∃ nx mm, nx < 12 ∧ mm ≤ 12 ∧ I 28 1 = nI nx ∧ I 28 2 = nI mm ∧ I 195 24 = nI mm ∧ ∀ k, k < mm → zSE I L P Wk q (I (30 + 9 * ((nx + 12 - mm + k) % 12))) (I (30 + 9 * ((nx + 12 - mm + k) % 12) + 1)) (fun w => I (30 + 9 * ((nx + 12 - mm + k) % 12) + 3 + w)) (fun j => I 210 (79 * k + j))
def zIg (I : ZI) (L P Wk q : Nat) : Prop := (I 0 12 = 0 ∧ I 195 25 = 0) ∨ (I 0 12 = 1 ∧ I 195 25 = 1 ∧ zSE I L P Wk q (I 19) (I 20) (fun w => I (22 + w)) (I 209))
/-- the planner's rows -/
def zPr (R : ZR) : Prop := (R 141 0 = some 223 ∧ R 141 1 = some 224 ∧ R 141 2 = some 266 ∧ R 141 3 = some 273 ∧ R 141 4 = some 280) ∧ (∀ r, r < 41 → R 224 r = some (225 + r)) ∧ (∀ w, w < 6 → R 266 w = some (267 + w)) ∧ ∀ w, w < 6 → R 273 w = some (274 + w)
def zLr (R : ZR) (n L L' : Nat) : Prop := isL L ∧ isL L' ∧ L ≠ L' ∧ R 0 9 = some L ∧ R 0 10 = some L' ∧ WT R n L ∧ ((n = 223 ∧ R 141 0 = some 142) ∨ (n = 281 ∧ zPr R))
def zLea (q : Nat) (I : ZI) (R : ZR) (n L L' P Wk z m : Nat) (t : Nat → Nat) : Prop := zLr R n L L' ∧ (I 0 11 = 1 ∧ I 195 18 = 1) ∧ zLg I L P Wk z ∧ zTt I L P m t ∧ zCa I L P Wk m t ∧ zSE I L P Wk q (I 10) (I 11) (fun w => I (13 + w)) (I 208) ∧ zHi I L P Wk q ∧ zIg I L P Wk q ∧ (I 141 10 = 0 ∨ (I 141 10 = 1 ∧ n = 281 ∧ zPln I L P Wk m t))
def zNo (I : ZI) (R : ZR) (n : Nat) : Prop := (n = 218 ∧ R 4 0 = some 5 ∧ R 141 0 = some 142 ∧ R 0 9 = some 151 ∧ R 0 10 = some 173) ∧ (I 0 11 = 0 ∧ I 195 18 = 0) ∧ (I 10 2 = 0 ∧ I 208 0 = 0) ∧ (I 0 12 = 0 ∧ I 195 25 = 0) ∧ (I 28 2 = 0 ∧ I 195 24 = 0) ∧ ∃ nx, nx < 12 ∧ I 28 1 = nI nx
def zBs (I : ZI) : Prop := (∃ T, zTp T ∧ tpC I T ∧ tpM I T) ∧ zStt I ∧ ∀ k, k < 5 → I 150 k = I 211 k
def zInv (q : Nat) (I : ZI) (R : ZR) (n : Nat) : Prop := zWc R n ∧ zBs I ∧ (zNo I R n ∨ ∃ L L' P Wk z m t, zLea q I R n L L' P Wk z m t)
/-! frames -/
/-- what no part of the invariant reads -/
def zirr (L' b j : Nat) : Prop := b = 1 ∨ b = 2 ∨ b = 150 ∨ b = 211 ∨ b = 196 ∨ b = 3 ∨ (b = 4 ∧ 10 ≤ j) ∨ (138 ≤ b ∧ b ≤ 140) ∨ (b = 141 ∧ j ≠ 10 ∧ j ≠ 11 ∧ j ≠ 14) ∨ (142 ≤ b ∧ b ≤ 147) ∨ (L' ≤ b ∧ b < L' + 22) ∨ (b = 195 ∧ (j = 0 ∨ j = 2 ∨ j = 3 ∨ j = 4 ∨ j = 15 ∨ j = 16 ∨ j = 27 ∨ j = 32 ∨ j = 33 ∨ j = 34)) ∨ b = 197 ∨ (199 ≤ b ∧ b ≤ 202) ∨ (212 ≤ b ∧ b ≤ 217) ∨ (222 ≤ b ∧ b < 1000)
theorem cSlots_c {I J : ZI} {L S P : Nat} (h1 : J (L + 1) = I (L + 1)) (h3 : J (L + 3) = I (L + 3)) : cSlots J L S P = cSlots I L S P := by
  unfold cSlots
  rw [h1, h3]
theorem cTeam_c {I J : ZI} {L S P : Nat} (h : ∀ b, L ≤ b → b < L + 22 → J b = I b) : cTeam J L S P = cTeam I L S P := cTeam_congr h
theorem mFore_c {I J : ZI} (h5 : J 205 = I 205) (h6 : J 206 = I 206) (h8 : J 198 = I 198) (i : Nat) : ∀ w, mFore J i w = mFore I i w
  | 0 => by show J 205 i = I 205 i; rw [h5]
  | w + 1 => by
    show zmoved (mFore J i w) (J 206 (6 * i + w)) (J 198 8) (J 198 9) = zmoved (mFore I i w) (I 206 (6 * i + w)) (I 198 8) (I 198 9)
    rw [mFore_c h5 h6 h8 i w, h6, h8]
theorem zLg_c {I J : ZI} {L P Wk z : Nat} (h : zLg I L P Wk z) (hb : ∀ b, L ≤ b → b < L + 22 → J b = I b) (h17 : J 195 17 = I 195 17) (h198 : J 198 = I 198) (h203 : J 203 = I 203) (h204 : J 204 = I 204) (h205 : J 205 = I 205) (h206 : J 206 = I 206) : zLg J L P Wk z := by
  obtain ⟨a1, a2, a3, a4, a5, a6, a7, a8, a9, a10⟩ := h
  have e0 := hb L (by omega) (by omega)
  have e1 := hb (L + 1) (by omega) (by omega)
  have e2 := hb (L + 2) (by omega) (by omega)
  have e3 := hb (L + 3) (by omega) (by omega)
  have e4 := hb (L + 4) (by omega) (by omega)
  have e5 := hb (L + 5) (by omega) (by omega)
  have e6 := hb (L + 6) (by omega) (by omega)
  refine ⟨by rw [e0, h17]; exact a1, by rw [e2, h198]; exact a2, by rw [e0, h198]; exact a3, by rw [e2, h198]; exact a4, by rw [e1, h198]; exact a5, by rw [e3, e4, h203, h204]; exact a6, fun w i hw hi => ?_, fun w i hw hi => ?_, zSets_congr e5 e3 a9, zSets_congr e6 e4 a10⟩
  · have wk := a2.2.1
    rw [hb (L + 15 + w) (by omega) (by omega), mFore_c h205 h206 h198]; exact a7 w i hw hi
  · have wk := a2.2.1
    rw [hb (L + 8 + w) (by omega) (by omega), h206]; exact a8 w i hw hi
theorem zTt_c {I J : ZI} {L P m : Nat} {t : Nat → Nat} (h : zTt I L P m t) (hb : ∀ b, L ≤ b → b < L + 22 → J b = I b) (h46 : J 4 6 = I 4 6) (h47 : J 4 7 = I 4 7) (h218 : J 218 = I 218) (h221 : J 221 = I 221) (h20 : J 195 20 = I 195 20) (h207 : J 207 = I 207) : zTt J L P m t := by
  obtain ⟨a1, a2, a3, a4, a5, a6⟩ := h
  have e2 := hb (L + 2) (by omega) (by omega)
  have e15 := hb (L + 15) (by omega) (by omega)
  refine ⟨?_, ?_, fun k hk => ?_, fun S h1 h2 => ?_, ?_, ?_⟩
  · unfold zTm; rw [h46, h218]; exact a1
  · unfold zTmM; rw [h20, h207]; exact a2
  · rw [cTeam_c hb]; exact a3 k hk
  · rw [cTeam_c hb] at h2; exact a4 S h1 h2
  · rw [h47, e2, e15]; exact a5
  · rw [h221, e2, e15]; exact a6
theorem zCa_c {I J : ZI} {L P Wk m : Nat} {t : Nat → Nat} (h : zCa I L P Wk m t) (hWk : Wk ≤ 6) (hb : ∀ b, L ≤ b → b < L + 22 → J b = I b) (h48 : J 4 8 = I 4 8) (h49 : J 4 9 = I 4 9) (h219 : J 219 = I 219) (h220 : J 220 = I 220) : zCa J L P Wk m t := by
  refine ⟨fun w hw e k hk => ?_, fun w hw e k hk => ?_⟩
  · rw [h219, hb (L + 15 + w) (by omega) (by omega)]; exact h.1 w hw (by rw [← h48]; exact e) k hk
  · rw [h220, hb (L + 8 + w) (by omega) (by omega)]; exact h.2 w hw (by rw [← h49]; exact e) k hk
theorem zSE_c {I J : ZI} {L P Wk q q' : Nat} {S B : Nat → Int32} {Tl : Nat → Nat → Int32} {g S' B' : Nat → Int32} {Tl' : Nat → Nat → Int32} {g' : Nat → Int32} (h : zSE I L P Wk q S B Tl g) (hq : q ≤ q') (hP : P ≤ 16) (hWk : Wk ≤ 6) (hb : ∀ b, L ≤ b → b < L + 22 → J b = I b) (hS : ∀ j, 2 ≤ j → j ≤ 12 → S' j = S j) (hB : ∀ j, j < 16 → B' j = B j) (hT : ∀ w j, w < 6 → j < 6 → Tl' w j = Tl w j) (hg : ∀ j, j < 79 → g' j = g j) : zSE J L P Wk q' S' B' Tl' g' := by
  obtain ⟨be, mo, w, f, sw, O, u, l, a1, a2, a3, a4, a5, a6, a7, a8, a9, a10, a11, a12, a13, a14⟩ := h
  have e15 := hb (L + 15 + w) (by omega) (by omega)
  refine ⟨be, mo, w, f, sw, O, u, l, ?_, ?_, ?_, ?_, ?_, ?_, ?_, ?_, ?_, ?_, ?_, fun i hi ho => ?_, fun w' j h1 h2 => ?_, fun i hi => ?_⟩
  · rw [hS 2 (by omega) (by omega), hg 0 (by omega)]; exact a1
  · rw [hS 3 (by omega) (by omega), hg 2 (by omega)]; exact ⟨a2.1, a2.2.1, by omega⟩
  · rw [hS 4 (by omega) (by omega), hg 9 (by omega)]; exact a3
  · rw [hS 5 (by omega) (by omega), hg 4 (by omega)]; exact a4
  · rw [hS 6 (by omega) (by omega), hg 5 (by omega)]; exact ⟨a5.1, a5.2.1, by omega⟩
  · rw [hS 7 (by omega) (by omega), hg 3 (by omega)]; exact a6
  · rw [hS 8 (by omega) (by omega), hg 1 (by omega), cTeam_c hb, hS 10 (by omega) (by omega), hS 11 (by omega) (by omega)]; exact a7
  · rw [hS 9 (by omega) (by omega), hg 6 (by omega)]; exact a8
  · rw [hS 10 (by omega) (by omega), hg 7 (by omega), cTeam_c hb, hS 3 (by omega) (by omega), e15]
    have es : zsum O (fun i => zbrings (I (L + 15 + w) i) (B' i)) 16 = zsum O (fun i => zbrings (I (L + 15 + w) i) (B i)) 16 := zsum_congr (fun i hi _ => by rw [hB i hi])
    rw [es]; exact a9
  · rw [hS 11 (by omega) (by omega), hg 10 (by omega)]; exact a10
  · rw [hS 12 (by omega) (by omega), hg 8 (by omega)]; exact a11
  · rw [hB i (by omega), hg (27 + i) (by omega)]; exact a12 i hi ho
  · rw [hT w' j (by omega) h2, hg _ (by omega)]; exact a13 w' j h1 h2
  · rw [hg (11 + i) (by omega), e15]; exact a14 i hi
theorem zPln_c {I J : ZI} {L P Wk m : Nat} {t : Nat → Nat} (h : zPln I L P Wk m t) (hWk : Wk ≤ 6) (hb : ∀ b, L ≤ b → b < L + 22 → J b = I b) (h10 : J 10 = I 10) (h11 : J 11 = I 11) (h1 : J 141 11 = I 141 11) (h2 : J 141 14 = I 141 14) (h3 : J 148 = I 148) (h4 : J 149 = I 149) : zPln J L P Wk m t := by
  intro w0 O f s s0 l co q1 q2 q3 q4 q5 q6 q7 r1 r2 r3 r4 r5 r6 r7 cond hc
  rw [h10] at q1 q2 q3 q4 q5 q6
  rw [hb (L + 2) (by omega) (by omega)] at q7
  rw [h10, h11, hb (L + 15 + w0) (by omega) (by omega)] at hc
  have k := h w0 O f s s0 l co q1 q2 q3 q4 q5 q6 q7 r1 r2 r3 r4 r5 r6 r7 cond hc
  refine ⟨by rw [h1]; exact k.1, fun c1 c2 => ?_⟩
  have k2 := k.2 c1 c2
  have ep : ∀ c, zpl J L P c = zpl I L P c ∧ ztp J L P c = ztp I L P c := fun c => by
    constructor
    · funext w k
      unfold zpl cPl
      by_cases z : w < 6
      · rw [if_pos z, if_pos z, hb (L + 8 + w) (by omega) (by omega)]
      · rw [if_neg z, if_neg z]
    · funext w k
      unfold ztp cTp
      by_cases z : w < 6
      · rw [if_pos z, if_pos z, hb (L + 8 + w) (by omega) (by omega)]
      · rw [if_neg z, if_neg z]
  rw [h2, h3, h4, h10, (ep _).1, (ep _).2]
  exact k2
/-- what the invariant of a told league reads, but for the rows that are kept -/
def zrel (L' b j : Nat) : Prop := ¬ zirr L' b j ∧ b ≠ 219 ∧ b ≠ 220 ∧ (b = 4 → j ≠ 8 ∧ j ≠ 9)
theorem zirr_no {L' b j : Nat} (hL : isL L') (h1 : (b ≠ 1 ∧ b ≠ 2 ∧ b ≠ 150 ∧ b ≠ 211 ∧ b ≠ 196) ∧ b ≠ 3 ∧ b ≠ 4 ∧ b ≠ 195 ∧ b ≠ 197 ∧ ¬ (138 ≤ b ∧ b ≤ 147) ∧ ¬ (L' ≤ b ∧ b < L' + 22) ∧ ¬ (199 ≤ b ∧ b ≤ 202) ∧ ¬ (212 ≤ b ∧ b ≤ 217) ∧ ¬ (222 ≤ b ∧ b < 1000) ∧ b ≠ 219 ∧ b ≠ 220) : zrel L' b j := by
  unfold zrel zirr
  refine ⟨fun z => ?_, h1.2.2.2.2.2.2.2.2.2.2.1, h1.2.2.2.2.2.2.2.2.2.2.2, fun z => absurd z h1.2.2.1⟩
  omega
section LIv
variable {q q' : Nat} {I J : ZI} {R : ZR} {n L L' P Wk z m : Nat} {t : Nat → Nat}
theorem zLea_c (h : zLea q I R n L L' P Wk z m t) (hq : q ≤ q') (hJ : ∀ b j, zrel L' b j → J b j = I b j) (hc : zCa J L P Wk m t) : zLea q' J R n L L' P Wk z m t := by
  obtain ⟨a1, a2, a3, a4, a5, a6, a7, a8, a9⟩ := h
  have iL := a1.1
  have iL' := a1.2.1
  have hne := a1.2.2.1
  have hP := a3.1.2.1
  have hWk := a3.2.1.2.1
  have hLL : L + 22 ≤ L' ∨ L' + 22 ≤ L := by
    rcases iL with y | y <;> rcases iL' with y' | y' <;> omega
  have i1 := isL_i iL
  have i2 := isL_i iL'
  have row : ∀ b, ((b ≠ 1 ∧ b ≠ 2 ∧ b ≠ 150 ∧ b ≠ 211 ∧ b ≠ 196) ∧ b ≠ 3 ∧ b ≠ 4 ∧ b ≠ 195 ∧ b ≠ 197 ∧ ¬ (138 ≤ b ∧ b ≤ 147) ∧ ¬ (L' ≤ b ∧ b < L' + 22) ∧ ¬ (199 ≤ b ∧ b ≤ 202) ∧ ¬ (212 ≤ b ∧ b ≤ 217) ∧ ¬ (222 ≤ b ∧ b < 1000) ∧ b ≠ 219 ∧ b ≠ 220) → J b = I b := fun b hb => funext (fun j => hJ b j (zirr_no iL' hb))
  have hb : ∀ b, L ≤ b → b < L + 22 → J b = I b := fun b h1 h2 => row b (by rcases iL with y | y <;> rcases iL' with y' | y' <;> omega)
  have cell : ∀ b j, (b = 0 ∨ (b = 195 ∧ (j = 17 ∨ j = 18 ∨ j = 20 ∨ j = 24 ∨ j = 25)) ∨ (b = 4 ∧ (j = 6 ∨ j = 7)) ∨ (b = 141 ∧ (j = 10 ∨ j = 11 ∨ j = 14))) → J b j = I b j := fun b j hj => hJ b j (by
    unfold zrel zirr
    rcases iL' with y | y <;> omega)
  refine ⟨a1, ⟨by rw [cell 0 11 (by omega)]; exact a2.1, by rw [cell 195 18 (by omega)]; exact a2.2⟩, zLg_c a3 hb (cell _ _ (by omega)) (row _ (by omega)) (row _ (by omega)) (row _ (by omega)) (row _ (by omega)) (row _ (by omega)), zTt_c a4 hb (cell _ _ (by omega)) (cell _ _ (by omega)) (row _ (by omega)) (row _ (by omega)) (cell _ _ (by omega)) (row _ (by omega)), hc, ?_, ?_, ?_, ?_⟩
  · exact zSE_c a6 hq hP hWk hb (fun j _ _ => by rw [row 10 (by omega)]) (fun j _ => by rw [row 11 (by omega)]) (fun w j hw _ => by show J (13 + w) j = I (13 + w) j; rw [row (13 + w) (by omega)]) (fun j _ => by rw [row 208 (by omega)])
  · obtain ⟨nx, mm, b1, b2, b3, b4, b5, b6⟩ := a7
    refine ⟨nx, mm, b1, b2, by rw [row 28 (by omega)]; exact b3, by rw [row 28 (by omega)]; exact b4, by rw [cell 195 24 (by omega)]; exact b5, fun k hk => ?_⟩
    have hr : (nx + 12 - mm + k) % 12 < 12 := Nat.mod_lt _ (by decide)
    exact zSE_c (b6 k hk) hq hP hWk hb (fun j _ _ => by rw [row _ (by omega)]) (fun j _ => by rw [row _ (by omega)]) (fun w j hw _ => by show J (30 + 9 * ((nx + 12 - mm + k) % 12) + 3 + w) j = I (30 + 9 * ((nx + 12 - mm + k) % 12) + 3 + w) j; rw [row _ (by omega)]) (fun j _ => by show J 210 _ = I 210 _; rw [row 210 (by omega)])
  · rcases a8 with b | b
    · exact Or.inl (by rw [cell 0 12 (by omega), cell 195 25 (by omega)]; exact b)
    · refine Or.inr ⟨by rw [cell 0 12 (by omega)]; exact b.1, by rw [cell 195 25 (by omega)]; exact b.2.1, ?_⟩
      exact zSE_c b.2.2 hq hP hWk hb (fun j _ _ => by rw [row 19 (by omega)]) (fun j _ => by rw [row 20 (by omega)]) (fun w j hw _ => by show J (22 + w) j = I (22 + w) j; rw [row (22 + w) (by omega)]) (fun j _ => by rw [row 209 (by omega)])
  · rcases a9 with b | b
    · exact Or.inl (by rw [cell 141 10 (by omega)]; exact b)
    · exact Or.inr ⟨by rw [cell 141 10 (by omega)]; exact b.1, b.2.1, zPln_c b.2.2 hWk hb (row _ (by omega)) (row _ (by omega)) (cell _ _ (by omega)) (cell _ _ (by omega)) (row _ (by omega)) (row _ (by omega))⟩
/-- nothing of the kept rows has changed -/
theorem zLea_f (h : zLea q I R n L L' P Wk z m t) (hq : q ≤ q') (hJ : ∀ b j, ¬ zirr L' b j → J b j = I b j) : zLea q' J R n L L' P Wk z m t := by
  have iL := h.1.1
  have iL' := h.1.2.1
  have hne := h.1.2.2.1
  have hWk := h.2.2.1.2.1.2.1
  refine zLea_c h hq (fun b j hb => hJ b j hb.1) (zCa_c h.2.2.2.2.1 hWk (fun b h1 h2 => funext (fun j => hJ b j ?_)) (hJ _ _ ?_) (hJ _ _ ?_) (funext (fun j => hJ _ _ ?_)) (funext (fun j => hJ _ _ ?_)))
  all_goals (unfold zirr; rcases iL with y | y <;> rcases iL' with y' | y' <;> omega)
def zbsr (b j : Nat) : Prop := b = 1 ∨ b = 2 ∨ b = 150 ∨ b = 211 ∨ b = 196 ∨ (b = 195 ∧ j = 2) ∨ (1010 ≤ b ∧ b ≤ 1012)
theorem zBs_f (h : zBs I) (hJ : ∀ b j, zbsr b j → J b j = I b j) : zBs J := by
  obtain ⟨⟨T, h1, h2, h3⟩, h4, h5⟩ := h
  refine ⟨⟨T, h1, ⟨?_, fun k hk => ?_⟩, ⟨?_, fun k hk => ?_⟩⟩, fun k hk => ?_, fun k hk => ?_⟩
  · rw [hJ 1 1 (by unfold zbsr; omega)]; exact h2.1
  · rw [hJ 2 k (by unfold zbsr; omega)]; exact h2.2 k hk
  · rw [hJ 195 2 (by unfold zbsr; omega)]; exact h3.1
  · rw [hJ 196 k (by unfold zbsr; omega)]; exact h3.2 k hk
  · rw [hJ 1010 k (by unfold zbsr; omega), hJ 1011 k (by unfold zbsr; omega), hJ 1012 k (by unfold zbsr; omega)]; exact h4 k hk
  · rw [hJ 150 k (by unfold zbsr; omega), hJ 211 k (by unfold zbsr; omega)]; exact h5 k hk
theorem zNo_f (h : zNo I R n) (hJ : ∀ b j, ¬ zirr 173 b j → J b j = I b j) : zNo J R n := by
  obtain ⟨h1, h2, h3, h4, h5, nx, h6, h7⟩ := h
  refine ⟨h1, ⟨?_, ?_⟩, ⟨?_, ?_⟩, ⟨?_, ?_⟩, ⟨?_, ?_⟩, nx, h6, ?_⟩
  · rw [hJ]; exact h2.1; unfold zirr; omega
  · rw [hJ]; exact h2.2; unfold zirr; omega
  · rw [hJ]; exact h3.1; unfold zirr; omega
  · rw [hJ]; exact h3.2; unfold zirr; omega
  · rw [hJ]; exact h4.1; unfold zirr; omega
  · rw [hJ]; exact h4.2; unfold zirr; omega
  · rw [hJ]; exact h5.1; unfold zirr; omega
  · rw [hJ]; exact h5.2; unfold zirr; omega
  · rw [hJ]; exact h7; unfold zirr; omega
/-- calls that change nothing which the invariant reads -/
def zir0 (b j : Nat) : Prop := b = 3 ∨ (b = 4 ∧ 10 ≤ j) ∨ (138 ≤ b ∧ b ≤ 140) ∨ (b = 195 ∧ (j = 0 ∨ j = 27 ∨ j = 32 ∨ j = 33 ∨ j = 34)) ∨ (212 ≤ b ∧ b ≤ 217) ∨ b = 222
theorem zir0_i {L' b j : Nat} (h : ¬ zirr L' b j) : ¬ zir0 b j := by
  unfold zirr at h
  unfold zir0
  omega
theorem zInv_f (h : zInv q I R n) (hq : q ≤ q') (hJ : ∀ b j, ¬ zir0 b j → J b j = I b j) : zInv q' J R n := by
  obtain ⟨h1, h2, h3⟩ := h
  refine ⟨h1, zBs_f h2 (fun b j hb => hJ b j (by unfold zbsr at hb; unfold zir0; omega)), ?_⟩
  rcases h3 with h3 | ⟨L, L', P, Wk, z, m, t, h3⟩
  · exact Or.inl (zNo_f h3 (fun b j hb => hJ b j (zir0_i hb)))
  · exact Or.inr ⟨L, L', P, Wk, z, m, t, zLea_f h3 hq (fun b j hb => hJ b j (zir0_i hb))⟩
/-- only 'thrown' is written -/
theorem zInv_t (h : zInv q I R n) (x : Int32) : zInv (q + 1) (zup I 195 0 x) R n := zInv_f h (by omega) (fun b j hb => by
  by_cases e : b = 195
  · by_cases e2 : j = 0
    · exact absurd (Or.inr (Or.inr (Or.inr (Or.inl ⟨e, Or.inl e2⟩)))) hb
    · exact zup_k _ e2
  · exact zup_n _ e)
end LIv
