/-! ===== plans: what both sides compute ===== -/
def zbd (k : Nat) (x : Int32) : Prop := -(k : Int) ≤ x.toInt ∧ x.toInt ≤ (k : Int)
theorem zbd_add {a b : Nat} {x y : Int32} (hx : zbd a x) (hy : zbd b y) (h : a + b < 2147483647) : zbd (a + b) (x + y) ∧ (x + y).toInt = x.toInt + y.toInt := by
  unfold zbd at *
  have := zaddI (x := x) (y := y) (by omega) (by omega)
  rw [this]
  omega
theorem zbd_sub {a b : Nat} {x y : Int32} (hx : zbd a x) (hy : zbd b y) (h : a + b < 2147483647) : zbd (a + b) (x - y) ∧ (x - y).toInt = x.toInt - y.toInt := by
  unfold zbd at *
  have := zsubI (x := x) (y := y) (by omega) (by omega)
  rw [this]
  omega
theorem zbd_mono {a b : Nat} {x : Int32} (hx : zbd a x) (h : a ≤ b) : zbd b x := by
  unfold zbd at *
  omega
theorem zbd_nI {a k : Nat} (h : k ≤ a) (ha : a < 2147483648) : zbd a (nI k) := by
  unfold zbd
  rw [nI_toInt (by omega)]
  omega
theorem zmax_I (x y : Int32) : (zmax x y = x ∧ ¬ x < y) ∨ (zmax x y = y ∧ x < y) := by
  unfold zmax
  by_cases h : x < y
  · rw [if_pos h]; exact Or.inr ⟨rfl, h⟩
  · rw [if_neg h]; exact Or.inl ⟨rfl, h⟩
theorem zmx0 {s f : Nat} (hs : s < 2 ^ 30) (hf : f < 2 ^ 30) : zmax 0 (nI s - nI f) = nI (s - f) := by
  unfold zmax
  by_cases h : f < s
  · rw [pk_sub (by omega), if_pos (zgt0 (by omega) (by omega))]
  · by_cases h2 : s = f
    · subst h2
      rw [pk_sub (Nat.le_refl _), Nat.sub_self, nI_0, if_neg (by decide)]
    · have := pk_sneg hf (show s < f by omega)
      rw [if_neg]
      · rw [show s - f = 0 by omega, nI_0]
      · intro z
        rw [Int32.lt_iff_toInt_lt] at this z
        omega
def zmxF (i0 : Int32) (a : Nat → Int32) : Nat → Int32
  | 0 => i0
  | k + 1 => zmax (zmxF i0 a k) (a k)
theorem zmxF_ok (i0 : Int32) (a : Nat → Int32) : ∀ N, (zmxF i0 a N = i0 ∨ ∃ k, k < N ∧ a k = zmxF i0 a N) ∧ ¬ zmxF i0 a N < i0 ∧ ∀ k, k < N → ¬ zmxF i0 a N < a k
  | 0 => ⟨Or.inl rfl, (by show ¬ i0 < i0; rw [Int32.lt_iff_toInt_lt]; omega), fun k hk => by omega⟩
  | N + 1 => by
    obtain ⟨h1, h2, h3⟩ := zmxF_ok i0 a N
    show (zmax (zmxF i0 a N) (a N) = i0 ∨ ∃ k, k < N + 1 ∧ a k = zmax (zmxF i0 a N) (a N)) ∧ ¬ zmax (zmxF i0 a N) (a N) < i0 ∧ ∀ k, k < N + 1 → ¬ zmax (zmxF i0 a N) (a N) < a k
    rcases zmax_I (zmxF i0 a N) (a N) with ⟨e, q⟩ | ⟨e, q⟩
    · rw [e]
      refine ⟨?_, h2, fun k hk => ?_⟩
      · rcases h1 with h1 | ⟨k, k1, k2⟩
        · exact Or.inl h1
        · exact Or.inr ⟨k, by omega, k2⟩
      · by_cases z : k = N
        · rw [z]; exact q
        · exact h3 k (by omega)
    · rw [e]
      refine ⟨Or.inr ⟨N, by omega, rfl⟩, ?_, fun k hk => ?_⟩
      · rw [Int32.lt_iff_toInt_lt] at *; omega
      · by_cases z : k = N
        · rw [z, Int32.lt_iff_toInt_lt]; omega
        · have := h3 k (by omega)
          rw [Int32.lt_iff_toInt_lt] at *; omega
/-- x is the most that one of the options is worth -/
def zIM (N : Nat) (ok : Nat → Nat → Bool) (v : Nat → Nat → Int32) (x : Int32) : Prop := (∃ k ch, k < N ∧ ch < 4 ∧ ok k ch = true ∧ v k ch = x) ∧ ∀ k ch, k < N → ch < 4 → ok k ch = true → ¬ x < v k ch
theorem zI_eq {x y : Int32} (h1 : ¬ x < y) (h2 : ¬ y < x) : x = y := by
  rw [Int32.lt_iff_toInt_lt] at h1 h2
  exact Int32.toInt_inj.mp (by omega)
theorem zIM_u {N : Nat} {ok : Nat → Nat → Bool} {v : Nat → Nat → Int32} {x y : Int32} (hx : zIM N ok v x) (hy : zIM N ok v y) : x = y := by
  obtain ⟨⟨k, ch, h1, h2, h3, h4⟩, h5⟩ := hx
  obtain ⟨⟨k', ch', g1, g2, g3, g4⟩, g5⟩ := hy
  have a := h5 k' ch' g1 g2 g3
  have b := g5 k ch h1 h2 h3
  rw [g4] at a
  rw [h4] at b
  exact zI_eq a b
/-- the first option that is worth x -/
def zFs (N : Nat) (ok : Nat → Nat → Bool) (v : Nat → Nat → Int32) (x : Int32) (k ch : Nat) : Prop := k < N ∧ ch < 4 ∧ ok k ch = true ∧ v k ch = x ∧ ∀ k' ch', k' < N → ch' < 4 → (k' < k ∨ (k' = k ∧ ch' < ch)) → ok k' ch' = true → v k' ch' ≠ x
theorem zFs_u {N : Nat} {ok : Nat → Nat → Bool} {v : Nat → Nat → Int32} {x : Int32} {k ch k' ch' : Nat} (h : zFs N ok v x k ch) (g : zFs N ok v x k' ch') : k = k' ∧ ch = ch' := by
  obtain ⟨h1, h2, h3, h4, h5⟩ := h
  obtain ⟨g1, g2, g3, g4, g5⟩ := g
  have a : ¬ (k' < k ∨ (k' = k ∧ ch' < ch)) := fun z => h5 k' ch' g1 g2 z g3 g4
  have b : ¬ (k < k' ∨ (k = k' ∧ ch < ch')) := fun z => g5 k ch h1 h2 z h3 h4
  omega
theorem zIM_congr {N : Nat} {ok ok' : Nat → Nat → Bool} {v v' : Nat → Nat → Int32} {x : Int32} (h1 : ∀ k ch, k < N → ch < 4 → ok k ch = ok' k ch) (h2 : ∀ k ch, k < N → ch < 4 → ok k ch = true → v k ch = v' k ch) (h : zIM N ok v x) : zIM N ok' v' x := by
  obtain ⟨⟨k, ch, a1, a2, a3, a4⟩, a5⟩ := h
  refine ⟨⟨k, ch, a1, a2, by rw [← h1 k ch a1 a2]; exact a3, by rw [← h2 k ch a1 a2 a3]; exact a4⟩, fun k' ch' b1 b2 b3 => ?_⟩
  rw [← h1 k' ch' b1 b2] at b3
  rw [← h2 k' ch' b1 b2 b3]
  exact a5 k' ch' b1 b2 b3
def zsco (pl tp : Int32) (co f s ch : Nat) : Int32 := if ch = 0 then pl - nI ((s - f) * co) else if ch = 1 then pl - nI ((s - f) * co) + tp else pl
def znf (f s ch : Nat) : Nat := if ch < 2 then (if s < f then 2 else 1) else 2
def znu (u ch : Nat) : Nat := if ch = 0 then u else u ||| 2 ^ (ch - 1)
def znb (B c ch : Nat) : Nat := if ch = 3 then B else c
/-- how many of c are not in B -/
def zdf (c B : Nat) : Nat := zcnt (c &&& (65535 ^^^ B)) (fun _ => true) 16
def zov (V : Nat → Nat → Nat → Int32) (pl tp : Nat → Int32) (c : Nat → Nat) (co B f u s0 k ch : Nat) : Int32 := zsco (pl k) (tp k) co f (s0 + zdf (c k) B) ch + V (znb B (c k) ch) (znf f (s0 + zdf (c k) B) ch) (znu u ch)
def zokc (u : Nat) (ch : Nat) : Bool := decide (ch = 0) || !(u.testBit (ch - 1))
/-- the most that can be got in the d weeks that are left -/
noncomputable def zVal (pl tp : Nat → Nat → Int32) (c : Nat → Nat) (co N Wk : Nat) : Nat → Nat → Nat → Nat → Int32
  | 0, _, _, _ => 0
  | d + 1, B, f, u => Classical.epsilon (zIM N (fun _ ch => zokc u ch) (zov (zVal pl tp c co N Wk d) (pl (Wk - (d + 1))) (tp (Wk - (d + 1))) c co B f u 0))
theorem zVal_eq {pl tp : Nat → Nat → Int32} {c : Nat → Nat} {co N Wk d B f u : Nat} {x : Int32} (h : zIM N (fun _ ch => zokc u ch) (zov (zVal pl tp c co N Wk d) (pl (Wk - (d + 1))) (tp (Wk - (d + 1))) c co B f u 0) x) : zVal pl tp c co N Wk (d + 1) B f u = x :=
  zIM_u (Classical.epsilon_spec (p := zIM N (fun _ ch => zokc u ch) (zov (zVal pl tp c co N Wk d) (pl (Wk - (d + 1))) (tp (Wk - (d + 1))) c co B f u 0)) ⟨x, h⟩) h
theorem zcntle (S : Nat) (c : Nat → Bool) : ∀ k, zcnt S c k ≤ k
  | 0 => Nat.le_refl _
  | k + 1 => by
    rw [zcnt_succ]
    have := zcntle S c k
    split <;> omega
theorem zdf_le (c B : Nat) : zdf c B ≤ 16 := zcntle _ _ _
theorem zsco_bd {pl tp : Int32} {co f s ch : Nat} (h1 : zbd 800 pl) (h2 : zbd 100 tp) (hc : co ≤ 9) (hs : s ≤ 1016) : zbd 11000 (zsco pl tp co f s ch) := by
  have m : (s - f) * co ≤ 1016 * 9 := Nat.mul_le_mul (by omega) hc
  have b := zbd_nI (a := 9144) (k := (s - f) * co) (by omega) (by decide)
  have c := (zbd_sub h1 b (by decide)).1
  unfold zsco
  by_cases e : ch = 0
  · rw [if_pos e]; exact zbd_mono c (by decide)
  · rw [if_neg e]
    by_cases e2 : ch = 1
    · rw [if_pos e2]; exact zbd_mono (zbd_add c h2 (by decide)).1 (by decide)
    · rw [if_neg e2]; exact zbd_mono h1 (by decide)
