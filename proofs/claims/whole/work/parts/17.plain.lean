/-! ===== an instruction of the machine for an instruction of the pure one ===== -/
section ZA
variable {p : Program} {l : Launch} {e : Env} {Rm : Room} {s : State} {mid : MethodId} {args : Array Value} {below : List Frame} {meth : Method} {c : Code} {Q : State → Prop}
variable {base : Nat} {D : va_G} {tc : Nat → ClassId} {A : Nat → Prop} {ad0 : Nat → Nat} {n0 m : Nat}
variable {ls : ZL} {st : List Value} {I : ZI} {R : ZR} {n pc : Nat}
theorem za_iload (X : zCx p s mid args meth c m) {i : Nat} {x : Int32} (hd : decode (z_by m) pc = .ok (.iload i, 2)) (hl : zget ls i = some (.int x)) (k : zGo p l e Rm s mid args below meth c Q D tc A ad0 n0 m (pc + 2) ls (.int x :: st) I R n) : zGo p l e Rm s mid args below meth c Q D tc A ad0 n0 m pc ls st I R n :=
  fun ad H locs la S => lv_iload X.1 X.2.1 hd (S.2.2.2.2.2.1 i _ hl).2 (k ad H locs la (S.push (zwv_int _ _)))
theorem za_iload_n (X : zCx p s mid args meth c m) {i : Fin 4} {a : Nat} {x : Int32} (hd : decode (z_by m) pc = .ok (.iload_n i, 1)) (hi : i.val = a) (hl : zget ls a = some (.int x)) (k : zGo p l e Rm s mid args below meth c Q D tc A ad0 n0 m (pc + 1) ls (.int x :: st) I R n) : zGo p l e Rm s mid args below meth c Q D tc A ad0 n0 m pc ls st I R n :=
  fun ad H locs la S => lv_iload_n X.1 X.2.1 hd hi (S.2.2.2.2.2.1 a _ hl).2 (k ad H locs la (S.push (zwv_int _ _)))
theorem za_lload (X : zCx p s mid args meth c m) {i : Nat} {x : Int64} (hd : decode (z_by m) pc = .ok (.lload i, 2)) (hl : zget ls i = some (.long x)) (k : zGo p l e Rm s mid args below meth c Q D tc A ad0 n0 m (pc + 2) ls (.long x :: st) I R n) : zGo p l e Rm s mid args below meth c Q D tc A ad0 n0 m pc ls st I R n :=
  fun ad H locs la S => lv_lload X.1 X.2.1 hd (S.2.2.2.2.2.1 i _ hl).2 (k ad H locs la (S.push (zwv_long _ _)))
theorem za_lload_n (X : zCx p s mid args meth c m) {i : Fin 4} {a : Nat} {x : Int64} (hd : decode (z_by m) pc = .ok (.lload_n i, 1)) (hi : i.val = a) (hl : zget ls a = some (.long x)) (k : zGo p l e Rm s mid args below meth c Q D tc A ad0 n0 m (pc + 1) ls (.long x :: st) I R n) : zGo p l e Rm s mid args below meth c Q D tc A ad0 n0 m pc ls st I R n :=
  fun ad H locs la S => lv_lload_n X.1 X.2.1 hd hi (S.2.2.2.2.2.1 a _ hl).2 (k ad H locs la (S.push (zwv_long _ _)))
theorem za_aload (X : zCx p s mid args meth c m) {i : Nat} {x : Nat} (hd : decode (z_by m) pc = .ok (.aload i, 2)) (hl : zget ls i = some (.ref x)) (k : zGo p l e Rm s mid args below meth c Q D tc A ad0 n0 m (pc + 2) ls (.ref x :: st) I R n) : zGo p l e Rm s mid args below meth c Q D tc A ad0 n0 m pc ls st I R n :=
  fun ad H locs la S => lv_aload X.1 X.2.1 hd (S.2.2.2.2.2.1 i _ hl).2 (k ad H locs la (S.push (S.2.2.2.2.2.1 i _ hl).1))
theorem za_aload_n (X : zCx p s mid args meth c m) {i : Fin 4} {a : Nat} {x : Nat} (hd : decode (z_by m) pc = .ok (.aload_n i, 1)) (hi : i.val = a) (hl : zget ls a = some (.ref x)) (k : zGo p l e Rm s mid args below meth c Q D tc A ad0 n0 m (pc + 1) ls (.ref x :: st) I R n) : zGo p l e Rm s mid args below meth c Q D tc A ad0 n0 m pc ls st I R n :=
  fun ad H locs la S => lv_aload_n X.1 X.2.1 hd hi (S.2.2.2.2.2.1 a _ hl).2 (k ad H locs la (S.push (S.2.2.2.2.2.1 a _ hl).1))
theorem zSt.lt {ad : Nat → Nat} {H : Heap} {locs : List Loc} {la : Array Slot} (S : zSt D tc A s ad0 n0 m ad ls st I R n H locs la) {i : Nat} (h : zok ls i = true) : i < z_ml m := by
  have := zok_lt ls i h
  rw [S.2.2.2.2.2.2.1.2.1] at this
  exact this
theorem za_istore (X : zCx p s mid args meth c m) {i : Nat} {x : Int32} (hd : decode (z_by m) pc = .ok (.istore i, 2)) (ho : zok ls i = true) (k : zGo p l e Rm s mid args below meth c Q D tc A ad0 n0 m (pc + 2) (zset ls i (some (.int x))) st I R n) : zGo p l e Rm s mid args below meth c Q D tc A ad0 n0 m pc ls (.int x :: st) I R n :=
  fun ad H locs la S => lv_istore X.1 X.2.1 hd S.lv (S.lt ho) rfl (fun la' hl => k ad H locs la' (S.pop.store (v := .int x) (zwv_int _ _) ho hl))
theorem za_istore_n (X : zCx p s mid args meth c m) {i : Fin 4} {a : Nat} {x : Int32} (hd : decode (z_by m) pc = .ok (.istore_n i, 1)) (hi : i.val = a) (ho : zok ls a = true) (k : zGo p l e Rm s mid args below meth c Q D tc A ad0 n0 m (pc + 1) (zset ls a (some (.int x))) st I R n) : zGo p l e Rm s mid args below meth c Q D tc A ad0 n0 m pc ls (.int x :: st) I R n :=
  fun ad H locs la S => lv_istore_n X.1 X.2.1 hd hi S.lv (S.lt ho) rfl (fun la' hl => k ad H locs la' (S.pop.store (v := .int x) (zwv_int _ _) ho hl))
theorem za_astore (X : zCx p s mid args meth c m) {i : Nat} {x : Nat} (hd : decode (z_by m) pc = .ok (.astore i, 2)) (ho : zok ls i = true) (k : zGo p l e Rm s mid args below meth c Q D tc A ad0 n0 m (pc + 2) (zset ls i (some (.ref x))) st I R n) : zGo p l e Rm s mid args below meth c Q D tc A ad0 n0 m pc ls (.ref x :: st) I R n :=
  fun ad H locs la S => lv_astore X.1 X.2.1 hd S.lv (S.lt ho) rfl (fun la' hl => k ad H locs la' (S.pop.store (v := .ref x) S.top ho hl))
theorem za_astore_n (X : zCx p s mid args meth c m) {i : Fin 4} {a : Nat} {x : Nat} (hd : decode (z_by m) pc = .ok (.astore_n i, 1)) (hi : i.val = a) (ho : zok ls a = true) (k : zGo p l e Rm s mid args below meth c Q D tc A ad0 n0 m (pc + 1) (zset ls a (some (.ref x))) st I R n) : zGo p l e Rm s mid args below meth c Q D tc A ad0 n0 m pc ls (.ref x :: st) I R n :=
  fun ad H locs la S => lv_astore_n X.1 X.2.1 hd hi S.lv (S.lt ho) rfl (fun la' hl => k ad H locs la' (S.pop.store (v := .ref x) S.top ho hl))
theorem za_lstore (X : zCx p s mid args meth c m) {i : Nat} {x : Int64} (hd : decode (z_by m) pc = .ok (.lstore i, 2)) (ho : zok ls i = true) (ho2 : i + 1 < ls.length) (k : zGo p l e Rm s mid args below meth c Q D tc A ad0 n0 m (pc + 2) (zset (zset ls i (some (.long x))) (i + 1) none) st I R n) : zGo p l e Rm s mid args below meth c Q D tc A ad0 n0 m pc ls (.long x :: st) I R n :=
  fun ad H locs la S => lv_lstore X.1 X.2.1 hd S.lv (by rw [← S.2.2.2.2.2.2.1.2.1]; exact ho2) rfl (fun la' hl => k ad H locs la' (S.pop.store2 ho hl))
theorem za_lstore_n (X : zCx p s mid args meth c m) {i : Fin 4} {a : Nat} {x : Int64} (hd : decode (z_by m) pc = .ok (.lstore_n i, 1)) (hi : i.val = a) (ho : zok ls a = true) (ho2 : a + 1 < ls.length) (k : zGo p l e Rm s mid args below meth c Q D tc A ad0 n0 m (pc + 1) (zset (zset ls a (some (.long x))) (a + 1) none) st I R n) : zGo p l e Rm s mid args below meth c Q D tc A ad0 n0 m pc ls (.long x :: st) I R n :=
  fun ad H locs la S => lv_lstore_n X.1 X.2.1 hd hi S.lv (by rw [← S.2.2.2.2.2.2.1.2.1]; exact ho2) rfl (fun la' hl => k ad H locs la' (S.pop.store2 ho hl))
theorem za_iinc (X : zCx p s mid args meth c m) {i : Nat} {d : Int} {x : Int32} (hd : decode (z_by m) pc = .ok (.iinc i d, 3)) (hl : zget ls i = some (.int x)) (ho : zok ls i = true) (k : zGo p l e Rm s mid args below meth c Q D tc A ad0 n0 m (pc + 3) (zset ls i (some (.int (x + Int32.ofInt d)))) st I R n) : zGo p l e Rm s mid args below meth c Q D tc A ad0 n0 m pc ls st I R n := by
  intro ad H locs la S
  obtain ⟨q, hq⟩ := List.getElem?_of_mem (zas_mem (ad := ad) hl)
  exact lv_iinc X.1 X.2.1 hd S.lv (k := q) hq rfl (S.lt ho) rfl (fun la' hl => k ad H locs la' (S.store (v := .int _) (zwv_int _ _) ho hl))
theorem za_const (X : zCx p s mid args meth c m) {i : Instr} {v : Value} (hv : zwv n v) (hnr : ∀ b, v ≠ .ref b)
    (row : ∀ (H : Heap) (locs : List Loc) (la : Array Slot) (rest : List Value), W p l e Rm s mid args below meth c H locs (n - n0) (zs n - zs n0) Q (F0 mid (pc + zlenI i) la (v :: rest)) → W p l e Rm s mid args below meth c H locs (n - n0) (zs n - zs n0) Q (F0 mid pc la rest))
    (k : zGo p l e Rm s mid args below meth c Q D tc A ad0 n0 m (pc + zlenI i) ls (v :: st) I R n) : zGo p l e Rm s mid args below meth c Q D tc A ad0 n0 m pc ls st I R n := by
  intro ad H locs la S
  refine row H locs la _ ?_
  have := k ad H locs la (S.push hv)
  have e : ztr ad v = v := by
    cases v with
    | ref b => exact absurd rfl (hnr b)
    | _ => rfl
  rw [List.map_cons, e] at this
  exact this
theorem za_if (X : zCx p s mid args meth c m) {q : ClassFile.Cond} {off : Int} {a : Nat} {x : Int32} (hd : decode (z_by m) pc = .ok (.ifCond q off, 3)) (ht : (pc : Int) + off = (a : Int)) {K : ZK} {r : Option Value × ZI × ZR × Nat}
    (h : zbr q x 0 (K a ls st I R n) (K (pc + 3) ls st I R n) = some r) (hK : ∀ pc, K pc ls st I R n = some r → zGo p l e Rm s mid args below meth c Q D tc A ad0 n0 m pc ls st I R n) : zGo p l e Rm s mid args below meth c Q D tc A ad0 n0 m pc ls (.int x :: st) I R n := by
  intro ad H locs la S
  have go : ∀ pc, K pc ls st I R n = some r → W p l e Rm s mid args below meth c H locs (n - n0) (zs n - zs n0) Q (F0 mid pc la (st.map (ztr ad))) := fun pc h => hK pc h ad H locs la S.pop
  cases q
  · exact lv_if_eq X.1 X.2.1 hd ht (fun q => go _ (by dsimp only [zbr] at h; rw [if_pos q] at h; exact h)) (fun q => go _ (by dsimp only [zbr] at h; rw [if_neg q] at h; exact h))
  · exact lv_if_ne X.1 X.2.1 hd ht (fun q => go _ (by dsimp only [zbr] at h; rw [if_neg q] at h; exact h)) (fun q => go _ (by dsimp only [zbr] at h; rw [if_pos (by first | exact q | exact Classical.not_not.mp q)] at h; exact h))
  · exact lv_if_lt X.1 X.2.1 hd ht (fun q => go _ (by dsimp only [zbr] at h; rw [if_pos q] at h; exact h)) (fun q => go _ (by dsimp only [zbr] at h; rw [if_neg q] at h; exact h))
  · exact lv_if_ge X.1 X.2.1 hd ht (fun q => go _ (by dsimp only [zbr] at h; rw [if_neg (Int32.not_lt.mpr q)] at h; exact h)) (fun q => go _ (by dsimp only [zbr] at h; rw [if_pos (Int32.not_le.mp q)] at h; exact h))
  · exact lv_if_gt X.1 X.2.1 hd ht (fun q => go _ (by dsimp only [zbr] at h; rw [if_pos q] at h; exact h)) (fun q => go _ (by dsimp only [zbr] at h; rw [if_neg q] at h; exact h))
  · exact lv_if_le X.1 X.2.1 hd ht (fun q => go _ (by dsimp only [zbr] at h; rw [if_neg (Int32.not_lt.mpr q)] at h; exact h)) (fun q => go _ (by dsimp only [zbr] at h; rw [if_pos (Int32.not_le.mp q)] at h; exact h))
theorem za_icmp (X : zCx p s mid args meth c m) {q : ClassFile.Cond} {off : Int} {a : Nat} {x y : Int32} (hd : decode (z_by m) pc = .ok (.if_icmp q off, 3)) (ht : (pc : Int) + off = (a : Int)) {K : ZK} {r : Option Value × ZI × ZR × Nat}
    (h : zbr q x y (K a ls st I R n) (K (pc + 3) ls st I R n) = some r) (hK : ∀ pc, K pc ls st I R n = some r → zGo p l e Rm s mid args below meth c Q D tc A ad0 n0 m pc ls st I R n) : zGo p l e Rm s mid args below meth c Q D tc A ad0 n0 m pc ls (.int y :: .int x :: st) I R n := by
  intro ad H locs la S
  have go : ∀ pc, K pc ls st I R n = some r → W p l e Rm s mid args below meth c H locs (n - n0) (zs n - zs n0) Q (F0 mid pc la (st.map (ztr ad))) := fun pc h => hK pc h ad H locs la S.pop.pop
  cases q
  · exact lv_icmp_eq X.1 X.2.1 hd ht (fun q => go _ (by dsimp only [zbr] at h; rw [if_pos q] at h; exact h)) (fun q => go _ (by dsimp only [zbr] at h; rw [if_neg q] at h; exact h))
  · exact lv_icmp_ne X.1 X.2.1 hd ht (fun q => go _ (by dsimp only [zbr] at h; rw [if_neg q] at h; exact h)) (fun q => go _ (by dsimp only [zbr] at h; rw [if_pos (by first | exact q | exact Classical.not_not.mp q)] at h; exact h))
  · exact lv_icmp_lt X.1 X.2.1 hd ht (fun q => go _ (by dsimp only [zbr] at h; rw [if_pos q] at h; exact h)) (fun q => go _ (by dsimp only [zbr] at h; rw [if_neg q] at h; exact h))
  · exact lv_icmp_ge X.1 X.2.1 hd ht (fun q => go _ (by dsimp only [zbr] at h; rw [if_neg (Int32.not_lt.mpr q)] at h; exact h)) (fun q => go _ (by dsimp only [zbr] at h; rw [if_pos (Int32.not_le.mp q)] at h; exact h))
  · exact lv_icmp_gt X.1 X.2.1 hd ht (fun q => go _ (by dsimp only [zbr] at h; rw [if_pos q] at h; exact h)) (fun q => go _ (by dsimp only [zbr] at h; rw [if_neg q] at h; exact h))
  · exact lv_icmp_le X.1 X.2.1 hd ht (fun q => go _ (by dsimp only [zbr] at h; rw [if_neg (Int32.not_lt.mpr q)] at h; exact h)) (fun q => go _ (by dsimp only [zbr] at h; rw [if_pos (Int32.not_le.mp q)] at h; exact h))
theorem zsw_T {pc : Nat} {x : Int32} {k : Nat → ZO} {d : Nat} : ∀ (os : List Int) (lo : Int) (sw : List (Int32 × Nat)), zswT pc lo os sw = true →
    (∃ (j t : Nat) (o : Int), x.toInt = lo + (j : Int) ∧ os[j]? = some o ∧ (pc : Int) + o = (t : Int) ∧ zsw x k d sw = k t) ∨ ((x.toInt < lo ∨ lo + (os.length : Int) ≤ x.toInt) ∧ zsw x k d sw = k d)
  | [], lo, [], _ => Or.inr ⟨by rcases Int.lt_or_le x.toInt lo with q | q; exact Or.inl q; exact Or.inr (by simpa using q), rfl⟩
  | [], _, _ :: _, h => by cases h
  | _ :: _, _, [], h => by cases h
  | o :: os, lo, (y, t) :: sw, h => by
    unfold zswT at h
    simp only [Bool.and_eq_true, decide_eq_true_eq] at h
    by_cases hx : x = y
    · refine Or.inl ⟨0, t, o, by rw [hx, h.1.1]; simp, rfl, h.1.2, ?_⟩
      show (if x = y then k t else zsw x k d sw) = k t
      rw [if_pos hx]
    · have e : zsw x k d ((y, t) :: sw) = zsw x k d sw := by
        show (if x = y then k t else zsw x k d sw) = _
        rw [if_neg hx]
      have hne : x.toInt ≠ lo := fun q => hx (Int32.toInt_inj.mp (by rw [q, h.1.1]))
      rcases zsw_T os (lo + 1) sw h.2 with ⟨j, t', o', h1, h2, h3, h4⟩ | ⟨h1, h2⟩
      · exact Or.inl ⟨j + 1, t', o', by rw [h1]; push_cast; omega, h2, h3, by rw [e]; exact h4⟩
      · refine Or.inr ⟨?_, by rw [e]; exact h2⟩
        simp only [List.length_cons]
        push_cast
        omega
theorem za_table (X : zCx p s mid args meth c m) {d lo hi : Int} {offs : Array Int} {len a : Nat} {sw : List (Int32 × Nat)} {x : Int32} (hd : decode (z_by m) pc = .ok (.tableswitch d lo hi offs, len)) (ht : (pc : Int) + d = (a : Int)) (hh : hi = lo + (offs.toList.length : Int) - 1) (hs : zswT pc lo offs.toList sw = true) {K : ZK} {r : Option Value × ZI × ZR × Nat}
    (h : zsw x (fun t => K t ls st I R n) a sw = some r) (hK : ∀ pc, K pc ls st I R n = some r → zGo p l e Rm s mid args below meth c Q D tc A ad0 n0 m pc ls st I R n) : zGo p l e Rm s mid args below meth c Q D tc A ad0 n0 m pc ls (.int x :: st) I R n := by
  intro ad H locs la S
  rcases zsw_T (x := x) (k := fun t => K t ls st I R n) (d := a) offs.toList lo sw hs with ⟨j, t, o, h1, h2, h3, h4⟩ | ⟨h1, h2⟩
  · have hj : j < offs.toList.length := (List.getElem?_eq_some_iff.mp h2).1
    refine lv_tableIn X.1 X.2.1 hd (by omega) (by omega) (off := o) ?_ h3 (hK t (by rw [← h]; exact h4.symm) ad H locs la S.pop)
    have e : (x.toInt - lo).toNat = j := by omega
    rw [e, ← Array.getElem?_toList]
    exact h2
  · exact lv_tableOut X.1 X.2.1 hd (h1.imp id (fun q => by omega)) ht (hK a (by rw [← h]; exact h2.symm) ad H locs la S.pop)
theorem zsw_L {pc : Nat} {x : Int32} {k : Nat → ZO} {d : Nat} {dd : Int} (hd : (pc : Int) + dd = (d : Int)) : ∀ (ps : List (Int × Int)) (sw : List (Int32 × Nat)), zswL pc ps sw = true → ∃ t : Nat, (pc : Int) + Op.lookupswitch.offset ps dd x.toInt = (t : Int) ∧ zsw x k d sw = k t
  | [], [], _ => ⟨d, by first | exact hd | simpa [Op.lookupswitch.offset] using hd, rfl⟩
  | [], _ :: _, h => by cases h
  | _ :: _, [], h => by cases h
  | (a, o) :: ps, (y, t) :: sw, h => by
    unfold zswL at h
    simp only [Bool.and_eq_true, decide_eq_true_eq] at h
    by_cases hx : x = y
    · refine ⟨t, ?_, ?_⟩
      · rw [← h.1.2, ← h.1.1, hx]
        simp [Op.lookupswitch.offset]
      · show (if x = y then k t else zsw x k d sw) = k t
        rw [if_pos hx]
    · obtain ⟨t', h1, h2⟩ := zsw_L hd ps sw h.2
      refine ⟨t', ?_, ?_⟩
      · rw [lv_osw (k := y) hx h.1.1]
        exact h1
      · show (if x = y then k t else zsw x k d sw) = k t'
        rw [if_neg hx]
        exact h2
theorem za_lookup (X : zCx p s mid args meth c m) {d : Int} {ps : Array (Int × Int)} {len a : Nat} {sw : List (Int32 × Nat)} {x : Int32} (hd : decode (z_by m) pc = .ok (.lookupswitch d ps, len)) (ht : (pc : Int) + d = (a : Int)) (hh : (ps.toList.zip (ps.toList.drop 1)).all (fun (a, next) => a.1 < next.1) = true) (hs : zswL pc ps.toList sw = true) {K : ZK} {r : Option Value × ZI × ZR × Nat}
    (h : zsw x (fun t => K t ls st I R n) a sw = some r) (hK : ∀ pc, K pc ls st I R n = some r → zGo p l e Rm s mid args below meth c Q D tc A ad0 n0 m pc ls st I R n) : zGo p l e Rm s mid args below meth c Q D tc A ad0 n0 m pc ls (.int x :: st) I R n := by
  intro ad H locs la S
  obtain ⟨t, h1, h2⟩ := zsw_L (x := x) (k := fun t => K t ls st I R n) ht ps.toList sw hs
  exact lv_lookup X.1 X.2.1 hd hh rfl h1 (hK t (by rw [← h]; exact h2.symm) ad H locs la S.pop)
end ZA
