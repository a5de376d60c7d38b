/-! ===== the planner (class): a week's values ===== -/
theorem zsvF_ok (tri : Bool) (a0 a1 : Nat → Int32) : ∀ N, (zsvF tri a0 a1 N = -100000000 ∨ ∃ k, k < N ∧ (a0 k = zsvF tri a0 a1 N ∨ (tri = true ∧ a1 k = zsvF tri a0 a1 N))) ∧ ∀ k, k < N → ¬ zsvF tri a0 a1 N < a0 k ∧ (tri = true → ¬ zsvF tri a0 a1 N < a1 k)
  | 0 => ⟨Or.inl rfl, fun k hk => by omega⟩
  | N + 1 => by
    obtain ⟨h1, h2⟩ := zsvF_ok tri a0 a1 N
    rw [zsvF_succ]
    generalize zsvF tri a0 a1 N = m at h1 h2
    have s1 : ∀ x, (zmax m x = m ∨ zmax m x = x) ∧ ¬ zmax m x < m ∧ ¬ zmax m x < x := by
      intro x
      rcases zmax_I m x with ⟨e, q⟩ | ⟨e, q⟩
      · rw [e]; exact ⟨Or.inl rfl, by rw [Int32.lt_iff_toInt_lt]; omega, q⟩
      · rw [e]; exact ⟨Or.inr rfl, by rw [Int32.lt_iff_toInt_lt] at *; omega, by rw [Int32.lt_iff_toInt_lt]; omega⟩
    have s2 : ∀ m x, (zmax m x = m ∨ zmax m x = x) ∧ ¬ zmax m x < m ∧ ¬ zmax m x < x := by
      intro m x
      rcases zmax_I m x with ⟨e, q⟩ | ⟨e, q⟩
      · rw [e]; exact ⟨Or.inl rfl, by rw [Int32.lt_iff_toInt_lt]; omega, q⟩
      · rw [e]; exact ⟨Or.inr rfl, by rw [Int32.lt_iff_toInt_lt] at *; omega, by rw [Int32.lt_iff_toInt_lt]; omega⟩
    cases tri with
    | false =>
      rw [if_neg (by decide)]
      obtain ⟨q1, q2, q3⟩ := s1 (a0 N)
      refine ⟨?_, fun k hk => ⟨?_, fun z => by cases z⟩⟩
      · rcases q1 with q1 | q1
        · rw [q1]
          rcases h1 with h1 | ⟨k, k1, k2⟩
          · exact Or.inl h1
          · exact Or.inr ⟨k, by omega, k2⟩
        · exact Or.inr ⟨N, by omega, Or.inl q1.symm⟩
      · by_cases z : k = N
        · rw [z]; exact q3
        · have := (h2 k (by omega)).1
          rw [Int32.lt_iff_toInt_lt] at *; omega
    | true =>
      rw [if_pos rfl]
      obtain ⟨q1, q2, q3⟩ := s1 (a0 N)
      obtain ⟨p1, p2, p3⟩ := s2 (zmax m (a0 N)) (a1 N)
      refine ⟨?_, fun k hk => ⟨?_, fun _ => ?_⟩⟩
      · rcases p1 with p1 | p1
        · rw [p1]
          rcases q1 with q1 | q1
          · rw [q1]
            rcases h1 with h1 | ⟨k, k1, k2⟩
            · exact Or.inl h1
            · exact Or.inr ⟨k, by omega, k2⟩
          · exact Or.inr ⟨N, by omega, Or.inl q1.symm⟩
        · exact Or.inr ⟨N, by omega, Or.inr ⟨rfl, p1.symm⟩⟩
      · by_cases z : k = N
        · rw [z]; rw [Int32.lt_iff_toInt_lt] at *; omega
        · have := (h2 k (by omega)).1
          rw [Int32.lt_iff_toInt_lt] at *; omega
      · by_cases z : k = N
        · rw [z]; exact p3
        · have := (h2 k (by omega)).2 rfl
          rw [Int32.lt_iff_toInt_lt] at *; omega
/-- wild, loan and swaps together are the most of all options -/
theorem zIM_class {N u : Nat} {v : Nat → Nat → Int32} {W Lo : Int32} (hN : 1 ≤ N) (hlow : ∀ k ch, k < N → ch < 4 → (-100000000 : Int32) < v k ch) (hW : W = if u.testBit 1 = false then zmxF (-100000000) (fun k => v k 2) N else -100000000) (hL1 : u.testBit 2 = false → (∃ k, k < N ∧ v k 3 = Lo) ∧ ∀ k, k < N → ¬ Lo < v k 3) (hL2 : u.testBit 2 = true → Lo = -100000000) : zIM N (fun _ ch => zokc u ch) v (zmax (zmax W Lo) (zsvF (!(u.testBit 0)) (fun k => v k 0) (fun k => v k 1) N)) := by
  have mx : ∀ m x, (zmax m x = m ∨ zmax m x = x) ∧ ¬ zmax m x < m ∧ ¬ zmax m x < x := by
    intro m x
    rcases zmax_I m x with ⟨e, q⟩ | ⟨e, q⟩
    · rw [e]; exact ⟨Or.inl rfl, by rw [Int32.lt_iff_toInt_lt]; omega, q⟩
    · rw [e]; exact ⟨Or.inr rfl, by rw [Int32.lt_iff_toInt_lt] at *; omega, by rw [Int32.lt_iff_toInt_lt]; omega⟩
  obtain ⟨s1, s2⟩ := zsvF_ok (!(u.testBit 0)) (fun k => v k 0) (fun k => v k 1) N
  generalize zsvF (!(u.testBit 0)) (fun k => v k 0) (fun k => v k 1) N = sv at s1 s2
  have hlow0 := hlow 0 0 (by omega) (by omega)
  have sv0 := (s2 0 (by omega)).1
  have svl : ¬ sv = -100000000 := by
    intro z
    rw [z] at sv0
    exact sv0 hlow0
  have ok0 : zokc u 0 = true := rfl
  have okc : ∀ ch, 1 ≤ ch → (zokc u ch = true ↔ u.testBit (ch - 1) = false) := by
    intro ch h1
    unfold zokc
    rw [decide_eq_false (by omega), Bool.false_or]
    cases u.testBit (ch - 1) <;> simp
  have svx : ∃ k ch, k < N ∧ ch < 4 ∧ zokc u ch = true ∧ v k ch = sv := by
    rcases s1 with s1 | ⟨k, k1, k2⟩
    · exact absurd s1 svl
    · rcases k2 with k2 | ⟨t, k2⟩
      · exact ⟨k, 0, k1, by omega, ok0, k2⟩
      · refine ⟨k, 1, k1, by omega, (okc 1 (by omega)).2 ?_, k2⟩
        show u.testBit 0 = false
        cases q : u.testBit 0 with
        | false => rfl
        | true => rw [q] at t; cases t
  obtain ⟨a1, a2, a3⟩ := mx W Lo
  obtain ⟨b1, b2, b3⟩ := mx (zmax W Lo) sv
  have svlt : (-100000000 : Int32) < sv := by
    rw [Int32.lt_iff_toInt_lt] at *
    omega
  have Wc : W = -100000000 ∨ (u.testBit 1 = false ∧ ∃ k, k < N ∧ v k 2 = W) := by
    cases q : u.testBit 1 with
    | true => rw [q, if_neg (by decide)] at hW; exact Or.inl hW
    | false =>
      rw [q, if_pos rfl] at hW
      rcases (zmxF_ok (-100000000) (fun k => v k 2) N).1 with z | ⟨k, k1, k2⟩
      · exact Or.inl (hW.trans z)
      · exact Or.inr ⟨rfl, k, k1, k2.trans hW.symm⟩
  have Lc : Lo = -100000000 ∨ (u.testBit 2 = false ∧ ∃ k, k < N ∧ v k 3 = Lo) := by
    cases q : u.testBit 2 with
    | true => exact Or.inl (hL2 q)
    | false => exact Or.inr ⟨rfl, (hL1 q).1⟩
  constructor
  · rcases b1 with b1 | b1
    · rcases a1 with a1 | a1
      · rcases Wc with z | ⟨z1, k, z2, z3⟩
        · exfalso
          rw [b1, a1, z] at b3
          exact b3 svlt
        · exact ⟨k, 2, z2, by omega, (okc 2 (by omega)).2 z1, by rw [b1, a1]; exact z3⟩
      · rcases Lc with z | ⟨z1, k, z2, z3⟩
        · exfalso
          rw [b1, a1, z] at b3
          exact b3 svlt
        · exact ⟨k, 3, z2, by omega, (okc 3 (by omega)).2 z1, by rw [b1, a1]; exact z3⟩
    · rw [b1]; exact svx
  · intro k ch hk hch ho
    have c4 : ch = 0 ∨ ch = 1 ∨ ch = 2 ∨ ch = 3 := by omega
    rcases c4 with rfl | rfl | rfl | rfl
    · have := (s2 k hk).1
      rw [Int32.lt_iff_toInt_lt] at *; omega
    · have t : u.testBit 0 = false := (okc 1 (by omega)).1 ho
      have := (s2 k hk).2 (by rw [t]; rfl)
      rw [Int32.lt_iff_toInt_lt] at *; omega
    · have t : u.testBit 1 = false := (okc 2 (by omega)).1 ho
      rw [if_pos t] at hW
      have := (zmxF_ok (-100000000) (fun k => v k 2) N).2.2 k hk
      rw [← hW] at this
      rw [Int32.lt_iff_toInt_lt] at *; omega
    · have t : u.testBit 2 = false := (okc 3 (by omega)).1 ho
      have := (hL1 t).2 k hk
      rw [Int32.lt_iff_toInt_lt] at *; omega
