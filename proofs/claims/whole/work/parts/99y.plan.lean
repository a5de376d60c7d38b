/-! ===== plan, class ===== -/
section LPg
variable {q q' : Nat} {I J : ZI} {R R' : ZR} {n n' L L' P Wk z m : Nat} {t : Nat → Nat}
theorem zLea_p (h : zLea q I R n L L' P Wk z m t) (hq : q ≤ q') (hJ : ∀ b j, zrel L' b j → b ≠ 141 → b ≠ 148 → b ≠ 149 → J b j = I b j) (hc : zCa J L P Wk m t) (hR : zLr R' n' L L') (hl : J 141 10 = 0 ∨ (J 141 10 = 1 ∧ n' = 281 ∧ zPln J L P Wk m t)) : zLea q' J R' n' L L' P Wk z m t := by
  obtain ⟨a1, a2, a3, a4, a5, a6, a7, a8, a9⟩ := h
  have iL := a1.1
  have iL' := a1.2.1
  have hne := a1.2.2.1
  have hP := a3.1.2.1
  have hWk := a3.2.1.2.1
  have i1 := isL_i iL
  have i2 := isL_i iL'
  have row : ∀ b, ((b ≠ 1 ∧ b ≠ 2 ∧ b ≠ 150 ∧ b ≠ 211 ∧ b ≠ 196) ∧ b ≠ 3 ∧ b ≠ 4 ∧ b ≠ 195 ∧ b ≠ 197 ∧ ¬ (138 ≤ b ∧ b ≤ 149) ∧ ¬ (L' ≤ b ∧ b < L' + 22) ∧ ¬ (199 ≤ b ∧ b ≤ 202) ∧ ¬ (212 ≤ b ∧ b ≤ 217) ∧ ¬ (222 ≤ b ∧ b < 1000) ∧ b ≠ 219 ∧ b ≠ 220) → J b = I b := fun b hb => funext (fun j => hJ b j (zirr_no iL' (by omega)) (by omega) (by omega) (by omega))
  have hb : ∀ b, L ≤ b → b < L + 22 → J b = I b := fun b h1 h2 => row b (by rcases iL with y | y <;> rcases iL' with y' | y' <;> omega)
  have cell : ∀ b j, (b = 0 ∨ (b = 195 ∧ (j = 17 ∨ j = 18 ∨ j = 20 ∨ j = 24 ∨ j = 25)) ∨ (b = 4 ∧ (j = 6 ∨ j = 7))) → J b j = I b j := fun b j hj => hJ b j (by
    unfold zrel zirr
    rcases iL' with y | y <;> omega) (by omega) (by omega) (by omega)
  refine ⟨hR, ⟨by rw [cell 0 11 (by omega)]; exact a2.1, by rw [cell 195 18 (by omega)]; exact a2.2⟩, zLg_c a3 hb (cell _ _ (by omega)) (row _ (by omega)) (row _ (by omega)) (row _ (by omega)) (row _ (by omega)) (row _ (by omega)), zTt_c a4 hb (cell _ _ (by omega)) (cell _ _ (by omega)) (row _ (by omega)) (row _ (by omega)) (cell _ _ (by omega)) (row _ (by omega)), hc, ?_, ?_, ?_, hl⟩
  · exact zSE_c a6 hq hP hWk hb (fun j _ _ => by rw [row 10 (by omega)]) (fun j _ => by rw [row 11 (by omega)]) (fun w j hw _ => by show J (13 + w) j = I (13 + w) j; rw [row (13 + w) (by omega)]) (fun j _ => by rw [row 208 (by omega)])
  · obtain ⟨nx, mm, b1, b2, b3, b4, b5, b6⟩ := a7
    refine ⟨nx, mm, b1, b2, by rw [row 28 (by omega)]; exact b3, by rw [row 28 (by omega)]; exact b4, by rw [cell 195 24 (by omega)]; exact b5, fun k hk => ?_⟩
    have hr : (nx + 12 - mm + k) % 12 < 12 := Nat.mod_lt _ (by decide)
    exact zSE_c (b6 k hk) hq hP hWk hb (fun j _ _ => by rw [row _ (by omega)]) (fun j _ => by rw [row _ (by omega)]) (fun w j hw _ => by show J (30 + 9 * ((nx + 12 - mm + k) % 12) + 3 + w) j = I (30 + 9 * ((nx + 12 - mm + k) % 12) + 3 + w) j; rw [row _ (by omega)]) (fun j _ => by show J 210 _ = I 210 _; rw [row 210 (by omega)])
  · rcases a8 with b | b
    · exact Or.inl (by rw [cell 0 12 (by omega), cell 195 25 (by omega)]; exact b)
    · refine Or.inr ⟨by rw [cell 0 12 (by omega)]; exact b.1, by rw [cell 195 25 (by omega)]; exact b.2.1, ?_⟩
      exact zSE_c b.2.2 hq hP hWk hb (fun j _ _ => by rw [row 19 (by omega)]) (fun j _ => by rw [row 20 (by omega)]) (fun w j hw _ => by show J (22 + w) j = I (22 + w) j; rw [row (22 + w) (by omega)]) (fun j _ => by rw [row 209 (by omega)])
theorem zWc_up2 {R3 : ZR} {n1 : Nat} (W : zWc R n) (hn : n ≤ n1) (hR : ∀ b j, b < 218 → (b = 141 → 5 ≤ j) → R3 b j = R b j) : zWc R3 n1 := by
  obtain ⟨⟨a0, a1, a2, a3, a4, a5, a6, a7, a8⟩, ⟨b1, b2⟩, ⟨c1, c2⟩, ⟨d1, d2, d3⟩, ⟨e1, e2⟩, ⟨f1, f2, f3⟩, g⟩ := W
  have wl : ∀ {L}, WL R n L → WL R3 n1 L := fun {L} h => by
    obtain ⟨y1, y2, y3, y4, y5⟩ := h
    have il := isL_i y2
    refine ⟨by omega, y2, ?_, fun w hw => by rw [hR _ _ (by omega) (by omega)]; exact y4 w hw, fun w hw => by rw [hR _ _ (by omega) (by omega)]; exact y5 w hw⟩
    rw [hR L 0 (by omega) (by omega), hR L 1 (by omega) (by omega), hR L 2 (by omega) (by omega), hR L 3 (by omega) (by omega), hR L 4 (by omega) (by omega), hR L 5 (by omega) (by omega), hR L 6 (by omega) (by omega), hR L 7 (by omega) (by omega)]
    exact y3
  have ws : ∀ {s}, WS R n s → WS R3 n1 s := fun {s} h => by
    obtain ⟨y1, y2, y3, y4, y5⟩ := h
    have is := y2.ok
    exact ⟨by omega, y2, by rw [hR _ _ (by omega) (by omega)]; exact y3, by rw [hR _ _ (by omega) (by omega)]; exact y4, fun w hw => by rw [hR _ _ (by omega) (by omega)]; exact y5 w hw⟩
  refine ⟨⟨?_, ?_, ?_, ?_, ?_, ?_, ?_, ?_, ?_⟩, ⟨?_, ?_⟩, ⟨wl c1, wl c2⟩, ⟨ws d1, ws d2, ?_⟩, ⟨?_, ?_⟩, ⟨?_, ?_, ?_⟩, ?_⟩
  case refine_12 =>
    obtain ⟨y1, y2, y3⟩ := d3
    exact ⟨by omega, by rw [hR _ _ (by decide) (by decide)]; exact y2, fun k hk => ⟨by rw [hR _ _ (by decide) (fun e => absurd e (by decide))]; exact (y3 k hk).1, ws (y3 k hk).2⟩⟩
  case refine_18 =>
    unfold WM at g ⊢
    simp only [hR 195 _ (show (195 : Nat) < 218 by decide) (fun e => absurd e (show ¬ (195 : Nat) = 141 by decide))]
    exact ⟨by omega, g.2⟩
  all_goals (rw [hR _ _ (by decide) (by decide)]; assumption)
/-- some step is always allowed -/
theorem zokT_ex {N s0 l s : Nat} {c : Nat → Nat} {cp : Int32} (hN : 1 ≤ N) (h : cp = -1 ∨ cp = 0 ∨ cp = 1 ∨ (cp = 2 ∧ ∃ k, k < N ∧ c k = l)) : ∃ k ch, k < N ∧ ch < 4 ∧ zokT true cp s0 l s c k ch = true := by
  rcases h with rfl | rfl | rfl | ⟨rfl, k, k1, k2⟩
  · refine ⟨0, 0, by omega, by decide, ?_⟩
    unfold zokT
    rw [if_neg (fun e => e.2 rfl)]
    rfl
  · refine ⟨0, 1, by omega, by decide, ?_⟩
    unfold zokT
    rw [if_pos ⟨rfl, by decide⟩, decide_eq_true (show zwh 1 = 0 by decide), decide_eq_false (show ¬ (1 : Nat) = 3 by decide)]
    rfl
  · refine ⟨0, 2, by omega, by decide, ?_⟩
    unfold zokT
    rw [if_pos ⟨rfl, by decide⟩, decide_eq_true (show zwh 2 = 1 by decide), decide_eq_false (show ¬ (2 : Nat) = 3 by decide)]
    rfl
  · refine ⟨k, 3, k1, by decide, ?_⟩
    unfold zokT
    rw [if_pos ⟨rfl, by decide⟩, k2, decide_eq_true (show l = l from rfl)]
    decide
end LPg
