section LL2
variable {p : Program} {l : Launch} {e : Env} {Rm : Room} {s : State} {mid : MethodId} {args : Array Value} {below : List Frame} {meth : Method} {c : Code} {Q : State → Prop}
variable {A : Nat → Prop} {H : Heap} {locs : List Loc} {kc ks : Nat} {ls : Array Slot} {b L : Nat} {xs : Nat → Int32}
/-- the code that loads script[i + 1] .. script[i + a] -/
def zl_ok (pc a : Nat) : Prop := ∀ k, k < a → decode code (pc + 6 * k) = .ok (.aload_n 0, 1) ∧ decode code (pc + 6 * k + 1) = .ok (.iload 4, 2) ∧ decode code (pc + 6 * k + 3) = .ok (.iconst ((k + 1 : Nat) : Int), 1) ∧ decode code (pc + 6 * k + 4) = .ok (.iadd, 1) ∧ decode code (pc + 6 * k + 5) = .ok (.iaload, 1)
def zl_as (xs : Nat → Int32) (i : Nat) : Nat → List Value
  | 0 => []
  | a + 1 => .int (xs (i + (a + 1))) :: zl_as xs i a
theorem zl_args (hx : p.tables.exec = Jvm.exec) (hb : c.code = code) (hX : va_X b L xs s s.heap) (hbl : b < s.heap.size) (hbA : ¬ A b) (hS : va_S A s.heap H locs) (hL : L ≤ 3072) {i : Nat} (l0 : ls[0]? = some (.val (.ref b))) (l4 : ls[4]? = some (.val (.int (nI i)))) {pc : Nat} {st : List Value} : ∀ a, a ≤ 5 → i + a < L → zl_ok pc a → W p l e Rm s mid args below meth c H locs kc ks Q (F0 mid (pc + 6 * a) ls (zl_as xs i a ++ st)) → W p l e Rm s mid args below meth c H locs kc ks Q (F0 mid pc ls st)
  | 0, _, _, _, k => k
  | a + 1, ha, hi, ho, k => by
    refine zl_args hx hb hX hbl hbA hS hL l0 l4 a (by omega) (by omega) (fun j hj => ho j (by omega)) ?_
    obtain ⟨d0, d1, d2, d3, d4⟩ := ho a (by omega)
    have hv : Int32.ofInt ((a + 1 : Nat) : Int) = nI (a + 1) := by
      have : a = 0 ∨ a = 1 ∨ a = 2 ∨ a = 3 ∨ a = 4 := by omega
      rcases this with rfl | rfl | rfl | rfl | rfl <;> decide
    have hin : vp_in (nI i + nI (a + 1)) L := by rw [nI_add]; exact vp_in_nI (by omega) (by omega)
    have ex : xs ((nI i + nI (a + 1)).toNatClampNeg) = xs (i + (a + 1)) := by rw [nI_add, nI_clamp (by omega)]
    refine lv_aload_n hx hb d0 rfl l0 ?_
    refine lv_iload hx hb d1 l4 ?_
    refine lv_iconst hx hb d2 hv ?_
    refine lv_iadd hx hb d3 ?_
    refine va_sld hx hb hX hbl hbA hS hin d4 ?_
    rw [ex]
    exact k
end LL2
