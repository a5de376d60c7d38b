/-! ===== the stairs ===== -/
def zstr (o : Nat → Option Int32) : Nat → Nat × Option (Nat × Int32)
  | 0 => (0, none)
  | l + 1 => match o l with
    | none => zstr o l
    | some v => match (zstr o l).2 with
      | none => ((zstr o l).1 + 1, some (l, v))
      | some pw => if pw.2 < v then ((zstr o l).1 + 1, some (l, v)) else zstr o l
theorem zstr_succ (o : Nat → Option Int32) (l : Nat) : zstr o (l + 1) = match o l with
    | none => zstr o l
    | some v => match (zstr o l).2 with
      | none => ((zstr o l).1 + 1, some (l, v))
      | some pw => if pw.2 < v then ((zstr o l).1 + 1, some (l, v)) else zstr o l := rfl
def zlast (d : Int32) (o : Option (Nat × Int32)) : Int32 := match o with
  | none => d
  | some pw => pw.2
/-- a step up at l, or none -/
theorem zstr_step (o : Nat → Option Int32) (l : Nat) (d : Int32) (hd : ∀ l v, o l = some v → d < v) (hl : ∀ p w, (zstr o l).2 = some (p, w) → d < w) : (zlast d (zstr o l).2 < zgd d (o l) ∧ zstr o (l + 1) = ((zstr o l).1 + 1, some (l, zgd d (o l)))) ∨ (¬ zlast d (zstr o l).2 < zgd d (o l) ∧ zstr o (l + 1) = zstr o l) := by
  rw [zstr_succ]
  cases ho : o l with
  | none =>
    refine Or.inr ⟨?_, rfl⟩
    show ¬ zlast d (zstr o l).2 < d
    cases hz : (zstr o l).2 with
    | none => show ¬ d < d; rw [Int32.lt_iff_toInt_lt]; omega
    | some pw =>
      have := hl pw.1 pw.2 hz
      show ¬ pw.2 < d
      rw [Int32.lt_iff_toInt_lt] at *
      omega
  | some v =>
    cases hz : (zstr o l).2 with
    | none => exact Or.inl ⟨hd l v ho, rfl⟩
    | some pw =>
      by_cases q : pw.2 < v
      · refine Or.inl ⟨q, ?_⟩
        show (if pw.2 < v then _ else _) = _
        rw [if_pos q]; rfl
      · refine Or.inr ⟨q, ?_⟩
        show (if pw.2 < v then _ else _) = _
        rw [if_neg q]
theorem zstr_low (o : Nat → Option Int32) (d : Int32) (hd : ∀ l v, o l = some v → d < v) : ∀ l p w, (zstr o l).2 = some (p, w) → d < w
  | 0, _, _, h => by cases h
  | l + 1, p, w, h => by
    rcases zstr_step o l d hd (zstr_low o d hd l) with ⟨a, e⟩ | ⟨a, e⟩
    · rw [e] at h
      cases h
      cases ho : o l with
      | none =>
        rw [ho] at a
        exfalso
        cases hz : (zstr o l).2 with
        | none => rw [hz] at a; have a' : d < d := a; rw [Int32.lt_iff_toInt_lt] at a'; omega
        | some pw =>
          rw [hz] at a
          have a' : pw.2 < d := a
          have := zstr_low o d hd l pw.1 pw.2 hz
          rw [Int32.lt_iff_toInt_lt] at *
          omega
      | some v => exact hd l v ho
    · rw [e] at h
      exact zstr_low o d hd l p w h
theorem zstr_le (o : Nat → Option Int32) (d : Int32) (hd : ∀ l v, o l = some v → d < v) : ∀ l, (zstr o l).1 ≤ l
  | 0 => Nat.le_refl _
  | l + 1 => by
    have := zstr_le o d hd l
    rcases zstr_step o l d hd (zstr_low o d hd l) with ⟨a, e⟩ | ⟨a, e⟩
    · rw [e]; show (zstr o l).1 + 1 ≤ l + 1; omega
    · rw [e]; omega
section LSr
variable {I : ZI} {R : ZR} {n L : Nat}
theorem Tb_climb86_run (hT : WT R n L) {q : Nat} (hq : q < 2 ^ 31) {K : ZI} (o : Nat → Option Int32) (ho : ∀ l, l < 595 → K 222 l = zgd (-100000000) (o l)) (hd : ∀ l v, o l = some v → (-100000000 : Int32) < v) (h11 : K 4 11 = -100000000) : ∀ l, l ≤ 595 → (∀ l', l' < l → (zstr o l').1 < q) → ∃ J, Tb_climb_86 4 (lN q) (nI 0) (nI 0) K R n = Tb_climb_86 4 (lN q) (nI (zstr o l).1) (nI l) J R n ∧ J 4 11 = zlast (-100000000) (zstr o l).2 ∧ (∀ p w, (zstr o l).2 = some (p, w) → J 4 10 = nI p) ∧ ∀ b j, (b = 4 → j ≠ 10 ∧ j ≠ 11) → J b j = K b j := by
  intro l
  induction l with
  | zero => intro _ _; exact ⟨K, rfl, h11, (fun p w h => by cases h), fun _ _ _ => rfl⟩
  | succ l ih =>
    intro hl hlt
    obtain ⟨J, e, a1, a2, a3⟩ := ih (by omega) (fun l' h' => hlt l' (by omega))
    have hc := hlt l (by omega)
    have e594 : (594 : Int32) = nI 594 := by decide
    have hcmp : lg_cmp (Int32.toInt64 (nI (zstr o l).1)) (lN q) < 0 := by
      rw [zcmp_lt, nI_l (by omega), pk_lLT (by omega) (by omega)]; exact hc
    have j222 : J 222 l = zgd (-100000000) (o l) := by rw [a3 _ _ (fun z => absurd z (by decide)), ho l (by omega)]
    have st := e_Tb_climb_86 4 (lN q) (nI (zstr o l).1) (nI l) J R n
    rw [e594, if_neg (nI_nlt (show l ≤ 594 by omega) (by omega)), if_pos hcmp] at st
    simp only [hT.k, hT.r, zc_t, zr_s, zin222 (show l < 595 by omega), zix_nI (show l < 2 ^ 31 by omega), Bool.true_or, Bool.true_and, j222, a1, nI_1] at st
    rcases zstr_step o l (-100000000) hd (zstr_low o _ hd l) with ⟨s1, s2⟩ | ⟨s1, s2⟩
    · rw [if_pos s1] at st
      rw [s2]
      refine ⟨_, e.trans st, ?_, ?_, ?_⟩
      · rw [zup_k _ (by decide), zup_s]; rfl
      · intro p w hpw; cases hpw; rw [zup_s]
      · intro b j hb
        by_cases z : b = 4
        · rw [zup_k _ (hb z).1, zup_k _ (hb z).2]; exact a3 b j hb
        · rw [zup_n _ z, zup_n _ z]; exact a3 b j hb
    · rw [if_neg s1] at st
      rw [s2]
      exact ⟨J, e.trans st, a1, a2, a3⟩
theorem M_stairs51_run (h : WM R n) {x y : Int32} (o : Nat → Option Int32) (ho : ∀ l, l < 595 → I 212 l = zgd (-1000000) (o l)) (hd : ∀ l v, o l = some v → (-1000000 : Int32) < v) : ∀ l, l ≤ 595 → (∀ l', l' < l → (zstr o (l' + 1)).1 = (zstr o l').1 ∨ nI (zstr o l').1 ≠ x) → M_stairs_51 195 x y (-1000000) (nI 0) (nI 0) I R n = M_stairs_51 195 x y (zlast (-1000000) (zstr o l).2) (nI (zstr o l).1) (nI l) I R n := by
  intro l
  induction l with
  | zero => intro _ _; rfl
  | succ l ih =>
    intro hl hlt
    rw [ih (by omega) (fun l' h' => hlt l' (by omega))]
    have e594 : (594 : Int32) = nI 594 := by decide
    have st := e_M_stairs_51 195 x y (zlast (-1000000) (zstr o l).2) (nI (zstr o l).1) (nI l) I R n
    rw [e594, if_neg (nI_nlt (show l ≤ 594 by omega) (by omega))] at st
    simp only [h.k, h.2, zc_t, zr_s, zin212 (show l < 595 by omega), zix_nI (show l < 2 ^ 31 by omega), Bool.true_or, Bool.true_and, ho l (by omega), nI_1] at st
    rcases zstr_step o l (-1000000) hd (zstr_low o _ hd l) with ⟨s1, s2⟩ | ⟨s1, s2⟩
    · rw [if_pos s1] at st
      have hx : ¬ nI (zstr o l).1 = x := by
        rcases hlt l (by omega) with z | z
        · rw [s2] at z; have z' : (zstr o l).1 + 1 = (zstr o l).1 := z; omega
        · exact z
      rw [if_neg hx] at st
      rw [st, s2]; rfl
    · rw [if_neg s1] at st
      rw [st, s2]
end LSr
