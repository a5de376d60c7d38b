/-! ===== who outdoes whom, and the most: class and reference side by side ===== -/
theorem zbest_loop {β : Type} (G : Nat → Nat → β) (c : Nat → Nat → Bool) (N : Nat) (h : ∀ i b, i < N → b ≤ i → G b (i + 1) = if c (i + 1) b then G (i + 1) (i + 2) else G b (i + 2)) : ∀ k, k ≤ N → G 0 1 = G (zbest c k) (k + 1)
  | 0, _ => rfl
  | k + 1, hk => by
    rw [zbest_loop G c N h k (by omega), h k _ (by omega) (zbest_le c k), zbest_succ]
    cases c (k + 1) (zbest c k) <;> rfl
theorem zdec {β : Type} (p : Prop) [Decidable p] (x y : β) : (if p then x else y) = if (decide p) = true then x else y := by
  by_cases q : p
  · rw [if_pos q, if_pos (decide_eq_true q)]
  · rw [if_neg q, if_neg (fun z => q (of_decide_eq_true z))]
/-- weeks in which one is never below the other, and above it once, or first of two -/
def zoutL (o i : Nat) (pt : Nat → Nat → Int32) : Nat → Nat → Bool → Bool
  | 0, _, b => b || decide (o < i)
  | k + 1, w, b => if pt w o < pt w i then false else zoutL o i pt k (w + 1) (b || decide (pt w i < pt w o))
def zoutd (pl pr : Nat → Int32) (pt : Nat → Nat → Int32) (w0 Wk o i : Nat) : Bool := if o = i then false else if pl o = pl i then (if pr i < pr o then false else zoutL o i pt (Wk - w0) w0 (decide (pr o < pr i))) else false
def zbo (b : Bool) : Int32 := if b then 1 else 0
def zwho (pl pr : Nat → Int32) (pt : Nat → Nat → Int32) (w0 Wk P i : Nat) : Option Nat := zfirst (fun o => zoutd pl pr pt w0 Wk o i) 0 P
/-- a number of points or prices -/
def zsm (x : Int32) : Prop := -1000 ≤ x.toInt ∧ x.toInt ≤ 1000
theorem zsubI {x y : Int32} (h1 : -2147483648 ≤ x.toInt - y.toInt) (h2 : x.toInt - y.toInt < 2147483648) : (x - y).toInt = x.toInt - y.toInt := by
  rw [Int32.toInt_sub]
  exact Int.bmod_eq_of_le (by omega) (by omega)
theorem zaddI {x y : Int32} (h1 : -2147483648 ≤ x.toInt + y.toInt) (h2 : x.toInt + y.toInt < 2147483648) : (x + y).toInt = x.toInt + y.toInt := by
  rw [Int32.toInt_add]
  exact Int.bmod_eq_of_le (by omega) (by omega)
theorem zmulI {x y : Int32} (h1 : -2147483648 ≤ x.toInt * y.toInt) (h2 : x.toInt * y.toInt < 2147483648) : (x * y).toInt = x.toInt * y.toInt := by
  rw [Int32.toInt_mul]
  exact Int.bmod_eq_of_le (by omega) (by omega)
theorem zsub_lt {x y : Int32} (hx : zsm x) (hy : zsm y) : (x - y < 0 ↔ x < y) ∧ (0 < x - y ↔ y < x) := by
  have h := zsubI (x := x) (y := y) (by unfold zsm at *; omega) (by unfold zsm at *; omega)
  simp only [Int32.lt_iff_toInt_lt, h]
  have : (0 : Int32).toInt = 0 := by decide
  rw [this]
  constructor <;> constructor <;> intro q <;> omega
section LL3
variable {I : ZI} {R : ZR} {n L : Nat}
theorem Lg_outdoes_ok (h : WL R n L) {o i w0 Wk : Nat} (hoi : o ≠ i) (ho : o < 16) (hi : i < 16) (hW : I (L + 2) 2 = nI Wk) (hWk : Wk ≤ 6) (h0 : w0 ≤ Wk) (hpt : ∀ w, w < Wk → zsm (I (L + 8 + w) o) ∧ zsm (I (L + 8 + w) i)) : Lg_outdoes L (nI o) (nI i) (nI w0) I R n = some (some (.int (zbo (zoutd (I (L + 3)) (I (L + 15 + w0)) (fun w j => I (L + 8 + w) j) w0 Wk o i))), I, R, n) := by
  have key : ∀ k w b, w + k = Wk → Lg_outdoes_57 L (nI o) (nI i) (zbo b) (nI w) I R n = some (some (.int (zbo (zoutL o i (fun w j => I (L + 8 + w) j) k w b))), I, R, n) := by
    intro k
    induction k with
    | zero =>
      intro w b hw
      rw [e_Lg_outdoes_57]
      simp only [h.k, h.r, h.zrules, zixs, zc_t, zr_s, hW, Bool.true_or, Bool.true_and]
      rw [if_neg (nI_nlt (by omega) (by omega))]
      cases b
      · unfold zoutL
        rw [if_pos (show zbo false = 0 from rfl), Bool.false_or]
        by_cases q : o < i
        · rw [if_pos (nI_lt q (by omega)), decide_eq_true q]; rfl
        · rw [if_neg (nI_nlt (by omega) (by omega)), decide_eq_false q]; rfl
      · rfl
    | succ k ih =>
      intro w b hw
      have hw6 : w < 6 := by omega
      obtain ⟨s1, s2⟩ := zsub_lt (hpt w (by omega)).1 (hpt w (by omega)).2
      rw [e_Lg_outdoes_57]
      simp only [h.k, h.r, h.zrules, zixs, zc_t, zr_s, hW, Bool.true_or, Bool.true_and, if_pos (nI_lt (show w < Wk by omega) (show Wk < 2 ^ 31 by omega)), zin_of h.ln.2.2.2.2.2.2.1 hw6 (by omega), zix_nI (show w < 2 ^ 31 by omega), h.2.2.2.1 w hw6, (h.rw hw6).1, zin_of (h.rw hw6).2 ho (by omega), zin_of (h.rw hw6).2 hi (by omega), zix_nI (show o < 2 ^ 31 by omega), zix_nI (show i < 2 ^ 31 by omega), s1, s2, nI_1]
      unfold zoutL
      by_cases q : I (L + 8 + w) o < I (L + 8 + w) i
      · rw [if_pos q, if_pos q]; rfl
      · rw [if_neg q, if_neg q]
        by_cases q2 : I (L + 8 + w) i < I (L + 8 + w) o
        · rw [if_pos q2, decide_eq_true q2, Bool.or_true]
          have e : zbo b ||| 1 = zbo true := by cases b <;> decide
          rw [e]; exact ih (w + 1) true (by omega)
        · rw [if_neg q2, decide_eq_false q2, Bool.or_false]
          have e : zbo b ||| 0 = zbo b := by cases b <;> decide
          rw [e]; exact ih (w + 1) b (by omega)
  rw [e_Lg_outdoes]
  have hw7 : w0 < 7 := by omega
  simp only [h.k, h.r, zc_t, zr_s, Bool.true_or, Bool.true_and, zin_of h.ln.2.2.2.2.2.2.2 hw7 (by omega), zix_nI (show w0 < 2 ^ 31 by omega), h.2.2.2.2 w0 hw7, (h.pw hw7).1, zin_of (h.pw hw7).2 ho (by omega), zin_of (h.pw hw7).2 hi (by omega), zin_of h.ln.2.2.1 ho (by omega), zin_of h.ln.2.2.1 hi (by omega), zix_nI (show o < 2 ^ 31 by omega), zix_nI (show i < 2 ^ 31 by omega)]
  unfold zoutd
  rw [if_neg hoi]
  by_cases q1 : I (L + 3) o = I (L + 3) i
  · rw [if_pos q1, if_pos q1]
    by_cases q2 : I (L + 15 + w0) i < I (L + 15 + w0) o
    · rw [if_pos q2, if_pos q2]; rfl
    · rw [if_neg q2, if_neg q2]
      by_cases q3 : I (L + 15 + w0) o < I (L + 15 + w0) i
      · rw [if_pos q3, decide_eq_true q3]; exact key (Wk - w0) w0 true (by omega)
      · rw [if_neg q3, decide_eq_false q3]; exact key (Wk - w0) w0 false (by omega)
  · rw [if_neg q1, if_neg q1]; rfl
theorem zbo_0 (b : Bool) : (zbo b = 0) ↔ b = false := by cases b <;> decide
theorem zwho_loop {β : Type} (G : Nat → β) (c : Nat → Bool) (E : Nat → β) (P : Nat) (h : ∀ o, o < P → G o = bif c o then E o else G (o + 1)) : G 0 = match zfirst c 0 P with
    | some j => E j
    | none => G P := zloopE G c E P h P 0 (by omega)
theorem zfirst_lt {c : Nat → Bool} : ∀ {k i j : Nat}, zfirst c i k = some j → i ≤ j ∧ j < i + k ∧ c j = true
  | 0, _, _, h => by cases h
  | k + 1, i, j, h => by
    unfold zfirst at h
    cases hc : c i with
    | true => rw [hc] at h; cases h; exact ⟨by omega, by omega, hc⟩
    | false =>
      rw [hc] at h
      obtain ⟨a, b, c⟩ := zfirst_lt h
      exact ⟨by omega, by omega, c⟩
theorem Lg_whoOutdoes_ok (h : WL R n L) {i w0 Wk P : Nat} (hi : i < P) (hp : I L 8 = nI P) (hP : P ≤ 16) (hW : I (L + 2) 2 = nI Wk) (hWk : Wk ≤ 6) (h0 : w0 ≤ Wk) (hpt : ∀ w j, w < Wk → j < P → zsm (I (L + 8 + w) j)) : Lg_whoOutdoes L (nI i) (nI w0) I R n = some (some (.int (zo (zwho (I (L + 3)) (I (L + 15 + w0)) (fun w j => I (L + 8 + w) j) w0 Wk P i))), I, R, n) := by
  rw [e_Lg_whoOutdoes]
  have hl := zwho_loop (fun o => Lg_whoOutdoes_2 L (nI i) (nI w0) (nI o) I R n) (fun o => zoutd (I (L + 3)) (I (L + 15 + w0)) (fun w j => I (L + 8 + w) j) w0 Wk o i) (fun o => some (some (.int (nI o)), I, R, n)) P (fun o ho => by
    show Lg_whoOutdoes_2 L (nI i) (nI w0) (nI o) I R n = _
    rw [e_Lg_whoOutdoes_2]
    simp only [h.k, zc_t, hp, if_pos (nI_lt ho (show P < 2 ^ 31 by omega)), nI_1, nI_eq (show o < 2 ^ 31 by omega) (show i < 2 ^ 31 by omega)]
    by_cases q : o = i
    · have e : zoutd (I (L + 3)) (I (L + 15 + w0)) (fun w j => I (L + 8 + w) j) w0 Wk o i = false := by unfold zoutd; rw [if_pos q]
      rw [if_pos q, e]; rfl
    · rw [if_neg q, Lg_outdoes_ok h q (by omega) (by omega) hW hWk h0 (fun w hw => ⟨hpt w _ hw (by omega), hpt w i hw hi⟩)]
      simp only [zbI_s, zbo_0]
      cases zoutd (I (L + 3)) (I (L + 15 + w0)) (fun w j => I (L + 8 + w) j) w0 Wk o i <;> rfl)
  rw [nI_0] at hl
  rw [hl]
  unfold zwho
  cases zfirst (fun o => zoutd (I (L + 3)) (I (L + 15 + w0)) (fun w j => I (L + 8 + w) j) w0 Wk o i) 0 P with
  | some j => rfl
  | none =>
    show Lg_whoOutdoes_2 L (nI i) (nI w0) (nI P) I R n = _
    rw [e_Lg_whoOutdoes_2]
    simp only [h.k, zc_t, hp]
    rw [if_neg (nI_nlt (Nat.le_refl _) (by omega))]; rfl
theorem zo_m1 {o : Option Nat} (h : ∀ j, o = some j → j < 2 ^ 31) : (zo o = -1) ↔ o = none := by
  cases o with
  | none => exact ⟨fun _ => rfl, fun _ => rfl⟩
  | some j => exact ⟨fun q => absurd q (zo_ne (h j rfl)), fun q => by cases q⟩
theorem zwho_lt {pl pr : Nat → Int32} {pt : Nat → Nat → Int32} {w0 Wk P i j : Nat} (h : zwho pl pr pt w0 Wk P i = some j) : j < P := by
  have := zfirst_lt h
  omega
theorem zwho_m1 {P : Nat} (hP : P ≤ 16) (pl pr : Nat → Int32) (pt : Nat → Nat → Int32) (w0 Wk i : Nat) : (zo (zwho pl pr pt w0 Wk P i) = -1) ↔ zwho pl pr pt w0 Wk P i = none := zo_m1 (fun j hj => by have := zwho_lt hj; omega)
def zmany (pl pr : Nat → Int32) (pt : Nat → Nat → Int32) (w0 Wk P : Nat) : Nat → Nat
  | 0 => 0
  | k + 1 => zmany pl pr pt w0 Wk P k + (if zwho pl pr pt w0 Wk P k = none then 0 else 1)
theorem zmany_succ (pl pr : Nat → Int32) (pt : Nat → Nat → Int32) (w0 Wk P k : Nat) : zmany pl pr pt w0 Wk P (k + 1) = zmany pl pr pt w0 Wk P k + (if zwho pl pr pt w0 Wk P k = none then 0 else 1) := rfl
theorem Lg_outdoneAtAll_ok (h : WL R n L) {w0 Wk P : Nat} (hp : I L 8 = nI P) (hP : P ≤ 16) (hW : I (L + 2) 2 = nI Wk) (hWk : Wk ≤ 6) (h0 : w0 ≤ Wk) (hpt : ∀ w j, w < Wk → j < P → zsm (I (L + 8 + w) j)) : Lg_outdoneAtAll L (nI w0) I R n = some (some (.int (nI (zmany (I (L + 3)) (I (L + 15 + w0)) (fun w j => I (L + 8 + w) j) w0 Wk P P))), I, R, n) := by
  rw [e_Lg_outdoneAtAll]
  have key : ∀ k, k ≤ P → Lg_outdoneAtAll_4 L (nI w0) (nI 0) (nI 0) I R n = Lg_outdoneAtAll_4 L (nI w0) (nI (zmany (I (L + 3)) (I (L + 15 + w0)) (fun w j => I (L + 8 + w) j) w0 Wk P k)) (nI k) I R n := by
    intro k
    induction k with
    | zero => intro _; rfl
    | succ k ih =>
      intro hk
      rw [ih (by omega), e_Lg_outdoneAtAll_4]
      simp only [h.k, zc_t, hp, if_pos (nI_lt (show k < P by omega) (show P < 2 ^ 31 by omega)), Lg_whoOutdoes_ok h (show k < P by omega) hp hP hW hWk h0 hpt, zbI_s, nI_1, zwho_m1 hP]
      rw [zmany_succ]
      by_cases q : zwho (I (L + 3)) (I (L + 15 + w0)) (fun w j => I (L + 8 + w) j) w0 Wk P k = none
      · rw [if_pos q, if_pos q]; rfl
      · rw [if_neg q, if_neg q]
  rw [nI_0] at key
  rw [key P (Nat.le_refl _), e_Lg_outdoneAtAll_4]
  simp only [h.k, zc_t, hp]
  rw [if_neg (nI_nlt (Nat.le_refl _) (by omega))]
theorem Lg_mostPoints_ok (h : WL R n L) {Wk P : Nat} (hp : I L 8 = nI P) (h1 : 1 ≤ P) (hP : P ≤ 16) (hW : I (L + 2) 2 = nI Wk) (hWk : Wk ≤ 6) : Lg_mostPoints L I R n = some (some (.int (nI (zbest (fun a b => decide (zrow (fun w => I (L + 8 + w) b) 0 (Wk - 0) < zrow (fun w => I (L + 8 + w) a) 0 (Wk - 0))) (P - 1)))), I, R, n) := by
  rw [e_Lg_mostPoints]
  have hl := zbest_loop (fun b i => Lg_mostPoints_4 L (nI b) (nI i) I R n) (fun a b => decide (zrow (fun w => I (L + 8 + w) b) 0 (Wk - 0) < zrow (fun w => I (L + 8 + w) a) 0 (Wk - 0))) (P - 1) (fun i b hi hb => by
    show Lg_mostPoints_4 L (nI b) (nI (i + 1)) I R n = _
    rw [e_Lg_mostPoints_4]
    simp only [h.k, zc_t, hp, if_pos (nI_lt (show i + 1 < P by omega) (show P < 2 ^ 31 by omega)), ← nI_0, Lg_pointsFrom_ok h (show i + 1 < 16 by omega) hW hWk (Nat.zero_le _), Lg_pointsFrom_ok h (show b < 16 by omega) hW hWk (Nat.zero_le _), zbI_s, nI_1]
    exact zdec _ _ _) (P - 1) (Nat.le_refl _)
  have hl' : Lg_mostPoints_4 L 0 1 I R n = _ := hl
  rw [hl']
  show Lg_mostPoints_4 L _ (nI (P - 1 + 1)) I R n = _
  rw [e_Lg_mostPoints_4]
  simp only [h.k, zc_t, hp]
  rw [if_neg (nI_nlt (by omega) (by omega))]
theorem Lg_mostPrice_ok (h : WL R n L) {w P : Nat} (hw : w < 7) (hp : I L 8 = nI P) (h1 : 1 ≤ P) (hP : P ≤ 16) : Lg_mostPrice L (nI w) I R n = some (some (.int (nI (zbest (fun a b => decide (I (L + 15 + w) b < I (L + 15 + w) a)) (P - 1)))), I, R, n) := by
  rw [e_Lg_mostPrice]
  have hl := zbest_loop (fun b i => Lg_mostPrice_4 L (nI w) (nI b) (nI i) I R n) (fun a b => decide (I (L + 15 + w) b < I (L + 15 + w) a)) (P - 1) (fun i b hi hb => by
    show Lg_mostPrice_4 L (nI w) (nI b) (nI (i + 1)) I R n = _
    rw [e_Lg_mostPrice_4]
    simp only [h.k, h.r, zc_t, zr_s, hp, if_pos (nI_lt (show i + 1 < P by omega) (show P < 2 ^ 31 by omega)), Bool.true_or, Bool.true_and, zin_of h.ln.2.2.2.2.2.2.2 hw (by omega), zix_nI (show w < 2 ^ 31 by omega), h.2.2.2.2 w hw, (h.pw hw).1, zin_of (h.pw hw).2 (show i + 1 < 16 by omega) (by omega), zin_of (h.pw hw).2 (show b < 16 by omega) (by omega), zix_nI (show i + 1 < 2 ^ 31 by omega), zix_nI (show b < 2 ^ 31 by omega), nI_1]
    exact zdec _ _ _) (P - 1) (Nat.le_refl _)
  have hl' : Lg_mostPrice_4 L (nI w) 0 1 I R n = _ := hl
  rw [hl']
  show Lg_mostPrice_4 L (nI w) _ (nI (P - 1 + 1)) I R n = _
  rw [e_Lg_mostPrice_4]
  simp only [h.k, zc_t, hp]
  rw [if_neg (nI_nlt (by omega) (by omega))]
theorem Lg_mostWeight_ok (h : WL R n L) {w Wk P : Nat} (hw : w < 7) (hp : I L 8 = nI P) (h1 : 1 ≤ P) (hP : P ≤ 16) (hW : I (L + 2) 2 = nI Wk) (hWk : Wk ≤ 6) : Lg_mostWeight L (nI w) I R n = some (some (.int (nI (zbest (fun a b => decide (zrow (fun w => I (L + 8 + w) b) 0 (Wk - 0) * I (L + 15 + w) a < zrow (fun w => I (L + 8 + w) a) 0 (Wk - 0) * I (L + 15 + w) b)) (P - 1)))), I, R, n) := by
  rw [e_Lg_mostWeight]
  have hl := zbest_loop (fun b i => Lg_mostWeight_4 L (nI w) (nI b) (nI i) I R n) (fun a b => decide (zrow (fun w => I (L + 8 + w) b) 0 (Wk - 0) * I (L + 15 + w) a < zrow (fun w => I (L + 8 + w) a) 0 (Wk - 0) * I (L + 15 + w) b)) (P - 1) (fun i b hi hb => by
    show Lg_mostWeight_4 L (nI w) (nI b) (nI (i + 1)) I R n = _
    rw [e_Lg_mostWeight_4]
    simp only [h.k, h.r, zc_t, zr_s, hp, if_pos (nI_lt (show i + 1 < P by omega) (show P < 2 ^ 31 by omega)), ← nI_0, Lg_pointsFrom_ok h (show i + 1 < 16 by omega) hW hWk (Nat.zero_le _), Lg_pointsFrom_ok h (show b < 16 by omega) hW hWk (Nat.zero_le _), zbI_s, Bool.true_or, Bool.true_and, zin_of h.ln.2.2.2.2.2.2.2 hw (by omega), zix_nI (show w < 2 ^ 31 by omega), h.2.2.2.2 w hw, (h.pw hw).1, zin_of (h.pw hw).2 (show i + 1 < 16 by omega) (by omega), zin_of (h.pw hw).2 (show b < 16 by omega) (by omega), zix_nI (show i + 1 < 2 ^ 31 by omega), zix_nI (show b < 2 ^ 31 by omega), nI_1]
    exact zdec _ _ _) (P - 1) (Nat.le_refl _)
  have hl' : Lg_mostWeight_4 L (nI w) 0 1 I R n = _ := hl
  rw [hl']
  show Lg_mostWeight_4 L (nI w) _ (nI (P - 1 + 1)) I R n = _
  rw [e_Lg_mostWeight_4]
  simp only [h.k, zc_t, hp]
  rw [if_neg (nI_nlt (by omega) (by omega))]
theorem Lg_greatestClub_ok (h : WL R n L) {P : Nat} (hP : P ≤ 16) (hs : zSets I (L + 6) (I (L + 4)) 6 P) : Lg_greatestClub L I R n = some (some (.int (nI (zbest (fun a b => decide (zcnt 65535 (fun i => decide (I (L + 4) i = nI b)) P < zcnt 65535 (fun i => decide (I (L + 4) i = nI a)) P)) 5))), I, R, n) := by
  rw [e_Lg_greatestClub]
  have hl := zbest_loop (fun b i => Lg_greatestClub_4 L (nI b) (nI i) I R n) (fun a b => decide (zcnt 65535 (fun i => decide (I (L + 4) i = nI b)) P < zcnt 65535 (fun i => decide (I (L + 4) i = nI a)) P)) 5 (fun i b hi hb => by
    obtain ⟨T, hT, e1, hb1⟩ := hs (i + 1) (by omega)
    obtain ⟨U, hU, e2, hb2⟩ := hs b (by omega)
    have e4 : (6 : Int32) = nI 6 := by decide
    have f1 : zcnt T (fun _ => true) 16 = zcnt 65535 (fun j => decide (I (L + 4) j = nI (i + 1))) P := by
      rw [← zcnt_and hP hb1]
      have : 65535 &&& T = T := by rw [Nat.and_comm]; exact (Nat.and_two_pow_sub_one_eq_mod T 16).trans (Nat.mod_eq_of_lt hT)
      rw [this]
    have f2 : zcnt U (fun _ => true) 16 = zcnt 65535 (fun j => decide (I (L + 4) j = nI b)) P := by
      rw [← zcnt_and hP hb2]
      have : 65535 &&& U = U := by rw [Nat.and_comm]; exact (Nat.and_two_pow_sub_one_eq_mod U 16).trans (Nat.mod_eq_of_lt hU)
      rw [this]
    have g1 := zcnt_le 65535 (fun j => decide (I (L + 4) j = nI (i + 1))) P
    have g2 := zcnt_le 65535 (fun j => decide (I (L + 4) j = nI b)) P
    show Lg_greatestClub_4 L (nI b) (nI (i + 1)) I R n = _
    rw [e_Lg_greatestClub_4, e4]
    simp only [h.k, h.r, zc_t, zr_s, if_pos (nI_lt (show i + 1 < 6 by omega) (show 6 < 2 ^ 31 by omega)), zin_of h.ln.2.2.2.2.2.1 (show i + 1 < 6 by omega) (by omega), zin_of h.ln.2.2.2.2.2.1 (show b < 6 by omega) (by omega), zix_nI (show i + 1 < 2 ^ 31 by omega), zix_nI (show b < 2 ^ 31 by omega), e1, e2, zbits_ok hT, zbits_ok hU, zbI_s, Bool.true_or, Bool.true_and, nI_1, f1, f2]
    rw [zdec]
    have e5 : decide (nI (zcnt 65535 (fun j => decide (I (L + 4) j = nI b)) P) < nI (zcnt 65535 (fun j => decide (I (L + 4) j = nI (i + 1))) P)) = decide (zcnt 65535 (fun j => decide (I (L + 4) j = nI b)) P < zcnt 65535 (fun j => decide (I (L + 4) j = nI (i + 1))) P) := decide_eq_decide.mpr (nI_ltI (by omega) (by omega))
    rw [e5]) 5 (Nat.le_refl _)
  have hl' : Lg_greatestClub_4 L 0 1 I R n = _ := hl
  rw [hl']
  show Lg_greatestClub_4 L _ (nI (5 + 1)) I R n = _
  rw [e_Lg_greatestClub_4, if_neg (by decide)]
theorem zall16 : ∀ P, P ≤ 16 → ((1 : Int32) <<< (nI P &&& 31)) - 1 = nI (2 ^ P - 1) := by decide +kernel
theorem Lg_richestWeek_ok (h : WL R n L) {Wk P : Nat} (hp : I L 8 = nI P) (hP : P ≤ 16) (hW : I (L + 2) 2 = nI Wk) (h1 : 1 ≤ Wk) (hWk : Wk ≤ 6) : Lg_richestWeek L I R n = some (some (.int (nI (zbest (fun a b => decide (zsum (2 ^ P - 1) (I (L + 8 + b)) P < zsum (2 ^ P - 1) (I (L + 8 + a)) P)) (Wk - 1)))), I, R, n) := by
  rw [e_Lg_richestWeek]
  simp only [h.k, zc_t, hp, zall16 P hP]
  have hS : 2 ^ P - 1 < 2 ^ 31 := by
    have : 2 ^ P ≤ 2 ^ 16 := Nat.pow_le_pow_right (by omega) hP
    omega
  have hl := zbest_loop (fun b i => Lg_richestWeek_13 L (nI (2 ^ P - 1)) (nI b) (nI i) I R n) (fun a b => decide (zsum (2 ^ P - 1) (I (L + 8 + b)) P < zsum (2 ^ P - 1) (I (L + 8 + a)) P)) (Wk - 1) (fun i b hi hb => by
    show Lg_richestWeek_13 L (nI (2 ^ P - 1)) (nI b) (nI (i + 1)) I R n = _
    rw [e_Lg_richestWeek_13]
    simp only [h.k, h.r, h.zrules, zixs, zc_t, zr_s, hW, Bool.true_or, Bool.true_and, if_pos (nI_lt (show i + 1 < Wk by omega) (show Wk < 2 ^ 31 by omega)), Lg_pointsOf_ok h hS hP hp (show i + 1 < 6 by omega), Lg_pointsOf_ok h hS hP hp (show b < 6 by omega), zbI_s, nI_1]
    exact zdec _ _ _) (Wk - 1) (Nat.le_refl _)
  have hl' : Lg_richestWeek_13 L (nI (2 ^ P - 1)) 0 1 I R n = _ := hl
  rw [hl']
  show Lg_richestWeek_13 L _ _ (nI (Wk - 1 + 1)) I R n = _
  rw [e_Lg_richestWeek_13]
  simp only [h.k, h.r, h.zrules, zixs, zc_t, zr_s, hW, Bool.true_or, Bool.true_and]
  rw [if_neg (nI_nlt (by omega) (by omega))]
end LL3
