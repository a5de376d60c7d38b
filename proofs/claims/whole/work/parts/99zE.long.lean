/-! ===== rival and ahead: a long argument ===== -/
section LL6
variable {p : Program} {l : Launch} {e : Env} {Rm : Room} {s : State} {mid : MethodId} {args : Array Value} {below : List Frame} {meth : Method} {c : Code} {Q : State → Prop}
variable {D : va_G} {tc : Nat → ClassId} {ad0 : Nat → Nat} {b L ao : Nat} {xs : Nat → Int32} {O : Heap → Prop} {ec es : Nat}
variable {A : Nat → Prop} {H : Heap} {locs : List Loc} {kc ks : Nat} {ls : Array Slot}
/-- the code that loads script[i + k] -/
def zl_k (pc k : Nat) : Prop := decode code pc = .ok (.aload_n 0, 1) ∧ decode code (pc + 1) = .ok (.iload 4, 2) ∧ decode code (pc + 3) = .ok (.iconst (k : Int), 1) ∧ decode code (pc + 4) = .ok (.iadd, 1) ∧ decode code (pc + 5) = .ok (.iaload, 1)
theorem zl_one (hx : p.tables.exec = Jvm.exec) (hb : c.code = code) (hX : va_X b L xs s s.heap) (hbl : b < s.heap.size) (hbA : ¬ A b) (hS : va_S A s.heap H locs) (hL : L ≤ 3072) {i : Nat} (l0 : ls[0]? = some (.val (.ref b))) (l4 : ls[4]? = some (.val (.int (nI i)))) {pc : Nat} {st : List Value} {k : Nat} (h1 : 1 ≤ k) (h5 : k ≤ 5) (hi : i + k < L) (ho : zl_k pc k) (K : W p l e Rm s mid args below meth c H locs kc ks Q (F0 mid (pc + 6) ls (.int (xs (i + k)) :: st))) : W p l e Rm s mid args below meth c H locs kc ks Q (F0 mid pc ls st) := by
  obtain ⟨d0, d1, d2, d3, d4⟩ := ho
  have hv : Int32.ofInt (k : Int) = nI k := by
    have : k = 1 ∨ k = 2 ∨ k = 3 ∨ k = 4 ∨ k = 5 := by omega
    rcases this with rfl | rfl | rfl | rfl | rfl <;> decide
  have hin : vp_in (nI i + nI k) L := by rw [nI_add]; exact vp_in_nI (by omega) (by omega)
  have ex : xs ((nI i + nI k).toNatClampNeg) = xs (i + k) := by rw [nI_add, nI_clamp (by omega)]
  refine lv_aload_n hx hb d0 rfl l0 ?_
  refine lv_iload hx hb d1 l4 ?_
  refine lv_iconst hx hb d2 hv ?_
  refine lv_iadd hx hb d3 ?_
  refine va_sld hx hb hX hbl hbA hS hin d4 ?_
  rw [ex]
  exact K
def zl_X (xs : Nat → Int32) (i : Nat) : Int64 := ((xs (i + 1)).toInt64 <<< ((32 : Int32).toInt64 &&& 63)) ||| ((xs (i + 2)).toInt64 &&& 4294967295)
/-- the code that loads the long and script[i + 3] -/
def zl_kl (pc : Nat) : Prop := zl_k pc 1 ∧ decode code (pc + 6) = .ok (.i2l, 1) ∧ decode code (pc + 7) = .ok (.bipush 32, 2) ∧ decode code (pc + 9) = .ok (.lshl, 1) ∧ zl_k (pc + 10) 2 ∧ decode code (pc + 16) = .ok (.i2l, 1) ∧ decode code (pc + 17) = .ok (.ldc2_w 158, 3) ∧ decode code (pc + 20) = .ok (.land, 1) ∧ decode code (pc + 21) = .ok (.lor, 1) ∧ zl_k (pc + 22) 3
theorem zl_c158 : lw_tbl[1948]? = some (.constantLong RL 158 4294967295) := by decide +kernel
theorem zl_long (hx : p.tables.exec = Jvm.exec) (hb : c.code = code) (hown : s.vm.findClass RL = some mid.cls) (hts : ∀ w ∈ lw_tbl, w.before args s = true) (hX : va_X b L xs s s.heap) (hbl : b < s.heap.size) (hbA : ¬ A b) (hS : va_S A s.heap H locs) (hL : L ≤ 3072) {i : Nat} (l0 : ls[0]? = some (.val (.ref b))) (l4 : ls[4]? = some (.val (.int (nI i)))) {pc : Nat} {st : List Value} (hi : i + 3 < L) (ho : zl_kl pc) (K : W p l e Rm s mid args below meth c H locs kc ks Q (F0 mid (pc + 28) ls (.int (xs (i + 3)) :: .long (zl_X xs i) :: st))) : W p l e Rm s mid args below meth c H locs kc ks Q (F0 mid pc ls st) := by
  obtain ⟨o1, d6, d7, d9, o2, d16, d17, d20, d21, o3⟩ := ho
  refine zl_one hx hb hX hbl hbA hS hL l0 l4 (by decide) (by decide) (by omega) o1 ?_
  refine lv_i2l hx hb d6 rfl ?_
  refine lv_bipush (v := 32) hx hb d7 (by decide) ?_
  refine lv_lshl hx hb d9 rfl ?_
  refine zl_one hx hb hX hbl hbA hS hL l0 l4 (by decide) (by decide) (by omega) o2 ?_
  refine lv_i2l hx hb d16 rfl ?_
  refine lv_ldc2 hx hb hown (hts _ (List.mem_of_getElem? zl_c158)) d17 ?_
  refine lv_land hx hb d20 ?_
  refine lv_lor hx hb d21 ?_
  refine zl_one hx hb hX hbl hbA hS hL l0 l4 (by decide) (by decide) (by omega) o3 ?_
  exact K
def zl_chl (pc i1 y1 w1 i2 y2 w2 : Nat) (off : Int) : Prop := (decode code pc = .ok (.aload_n 1, 1) ∧ zl_kl (pc + 1) ∧ decode code (pc + 1 + 28) = .ok (.invokevirtual i1, 3) ∧ decode code (pc + 1 + 28 + 3) = .ok (.aload_n 2, 1) ∧ zl_kl (pc + 1 + 28 + 3 + 1) ∧ decode code (pc + 1 + 28 + 3 + 1 + 28) = .ok (.invokevirtual i2, 3) ∧ decode code (pc + 1 + 28 + 3 + 1 + 28 + 3) = .ok (.if_icmp .eq off, 3) ∧ ((pc + 1 + 28 + 3 + 1 + 28 + 3 : Nat) : Int) + off = ((1556 : Nat) : Int)) ∧ (lw_tbl[w1]? = some (.methodLink RL i1 (z_y y1)) ∧ lw_tbl[w2]? = some (.methodLink RL i2 (z_y y2))) ∧ (y1 < 283 ∧ z_oc y1 = 8 ∧ z_in y1 = false ∧ z_fr y1 ≤ 12 ∧ 8 + (z_ml y1 + 11) + z_lo y1 ≤ 449 ∧ z_np y1 = 3 ∧ 4 ≤ z_ml y1) ∧ (y2 < 283 ∧ z_oc y2 = 9 ∧ z_in y2 = false ∧ z_fr y2 ≤ 12 ∧ 8 + (z_ml y2 + 11) + z_lo y2 ≤ 449 ∧ z_np y2 = 3 ∧ 4 ≤ z_ml y2)
theorem zl_caseL (C : zLc p Rm s mid args c D tc ad0 b L ao xs O ec es) {pc i1 y1 w1 i2 y2 w2 : Nat} {off : Int} (o : zl_chl pc i1 y1 w1 i2 y2 w2 off) {i : Nat} (hia : i + 5 < L) {q : Nat} {I : ZI} {R : ZR} {n : Nat} (h : zInv q I R n) (g : ∃ v I1 R1 n1 I2 R2 n2, run y1 0 (zloc (z_ml y1) [.ref 0, .long (zl_X xs i), .int (xs (i + 3))]) [] I R n = some (some (.int v), I1, R1, n1) ∧ run y2 0 (zloc (z_ml y2) [.ref 195, .long (zl_X xs i), .int (xs (i + 3))]) [] I1 R1 n1 = some (some (.int v), I2, R2, n2) ∧ zInv (q + 1) I2 R2 n2)
    {ad : Nat → Nat} {H : Heap} {locs : List Loc} {la : Array Slot} (hw : zLw D tc s ad0 ao O I R n ad H locs) (hla : la.size = 7) (l0 : la[0]? = some (.val (.ref b))) (l1 : la[1]? = some (.val (.ref (ad 0)))) (l2 : la[2]? = some (.val (.ref (ad 195)))) (l4 : la[4]? = some (.val (.int (nI i))))
    (k : ∀ (I2 : ZI) (R2 : ZR) (n2 : Nat) (ad' : Nat → Nat) (H' : Heap) (locs' : List Loc), zInv (q + 1) I2 R2 n2 → ad' 0 = ad 0 → ad' 195 = ad 195 → zLw D tc s ad0 ao O I2 R2 n2 ad' H' locs' → W p l e Rm s mid args below meth c H' locs' (n2 + ec) (zs n2 + es) Q (F0 mid 1556 la [])) : W p l e Rm s mid args below meth c H locs (n + ec) (zs n + es) Q (F0 mid pc la []) := by
  obtain ⟨⟨hx, hb, hml, hown, hts⟩, E, hO, ⟨hX, hbl, hL⟩, hRf, hRl, hRc, hRs⟩ := C
  obtain ⟨⟨d0, ok1, d1, d2, ok2, d3, d4, ht⟩, ⟨k1, k2⟩, f1, f2⟩ := o
  obtain ⟨v, I1, R1, n1, I2, R2, n2, r1, r2, inv⟩ := g
  have hbA : ¬ zB0 s.heap.size b := Nat.not_le.mpr hbl
  have m1 : n ≤ n1 := run_mono r1
  have m2 : n1 ≤ n2 := run_mono r2
  have n281 := (zInv_n inv).2
  have hn := (zInv_n h).1
  have wv : ∀ n, ∀ v ∈ ([.long (zl_X xs i), .int (xs (i + 3))] : List Value), zwv n v := fun n v hv => by
    rcases List.mem_cons.mp hv with h | h
    · rw [h]; exact ⟨fun b hb => (nomatch hb), fun x hx => (nomatch hx)⟩
    · rw [List.mem_singleton.mp h]; exact ⟨fun b hb => (nomatch hb), fun x hx => (nomatch hx)⟩
  refine lv_aload_n hx hb d0 rfl l1 ?_
  refine zl_long hx hb hown hts hX hbl hbA hw.2.2.1 hL l0 l4 (by omega) ok1 ?_
  refine zl_step (vs := [.long (zl_X xs i), .int (xs (i + 3))]) (rest := []) (r := (some (.int v), I1, R1, n1)) hx hb hml hown hts E hO (List.mem_of_getElem? k1) f1.1 (by rw [f1.2.1]; decide) f1.2.2.1 (by have := f1.2.2.2.1; omega) (by have := f1.2.2.2.2.1; omega) (by rw [f1.2.2.2.2.2.1]; rfl) (by rw [f1.2.1]; exact zis_lit (by omega) (by decide)) (by show n1 ≤ 281; omega) hRc hRs (by show 4 ≤ _; exact f1.2.2.2.2.2.2) r1 hw (wv n) hla (by decide) d1 (fun ad1 H1 locs1 g1 w1 => ?_)
  have e0 : ad1 0 = ad 0 := g1 0 (Or.inl (by omega))
  have e195 : ad1 195 = ad 195 := g1 195 (Or.inl (by omega))
  refine lv_aload_n hx hb d2 rfl (show la[2]? = some (.val (.ref (ad1 195))) by rw [e195]; exact l2) ?_
  refine zl_long hx hb hown hts hX hbl hbA w1.2.2.1 hL l0 l4 (by omega) ok2 ?_
  refine zl_step (vs := [.long (zl_X xs i), .int (xs (i + 3))]) (rest := [.int v]) (r := (some (.int v), I2, R2, n2)) hx hb hml hown hts E hO (List.mem_of_getElem? k2) f2.1 (by rw [f2.2.1]; decide) f2.2.2.1 (by have := f2.2.2.2.1; omega) (by have := f2.2.2.2.2.1; omega) (by rw [f2.2.2.2.2.2.1]; rfl) (by rw [f2.2.1]; exact zis_lit (by omega) (by decide)) n281 hRc hRs (by show 4 ≤ _; exact f2.2.2.2.2.2.2) r2 w1 (wv n1) hla (show 1 + 0 ≤ 8 by decide) d3 (fun ad2 H2 locs2 g2 w2 => ?_)
  refine lv_icmp_eq (tgt := 1556) hx hb d4 ht (fun _ => ?_) (fun c => absurd rfl c)
  exact k I2 R2 n2 ad2 H2 locs2 inv ((g2 0 (Or.inl (by omega))).trans e0) ((g2 195 (Or.inl (by omega))).trans e195) w2
theorem zl_kl_32 : zl_kl 1268 ∧ zl_kl 1300 ∧ zl_kl 1337 ∧ zl_kl 1369 := by
  unfold zl_kl zl_k
  refine ⟨⟨⟨?_, ?_, ?_, ?_, ?_⟩, ?_, ?_, ?_, ⟨?_, ?_, ?_, ?_, ?_⟩, ?_, ?_, ?_, ?_, ?_, ?_, ?_, ?_, ?_⟩, ⟨⟨?_, ?_, ?_, ?_, ?_⟩, ?_, ?_, ?_, ⟨?_, ?_, ?_, ?_, ?_⟩, ?_, ?_, ?_, ?_, ?_, ?_, ?_, ?_, ?_⟩, ⟨⟨?_, ?_, ?_, ?_, ?_⟩, ?_, ?_, ?_, ⟨?_, ?_, ?_, ?_, ?_⟩, ?_, ?_, ?_, ?_, ?_, ?_, ?_, ?_, ?_⟩, ⟨⟨?_, ?_, ?_, ?_, ?_⟩, ?_, ?_, ?_, ⟨?_, ?_, ?_, ?_, ?_⟩, ?_, ?_, ?_, ?_, ?_, ?_, ?_, ?_, ?_⟩⟩ <;> decide +kernel
/-- rival -/
theorem zl_o32 : zl_chl 1267 160 151 1243 164 267 1874 (225) := ⟨⟨by decide +kernel, zl_kl_32.1, by decide +kernel, by decide +kernel, zl_kl_32.2.1, by decide +kernel, by decide +kernel, by decide⟩, ⟨by decide +kernel, by decide +kernel⟩, by decide +kernel, by decide +kernel⟩
/-- ahead -/
theorem zl_o33 : zl_chl 1336 165 152 1258 168 268 1896 (156) := ⟨⟨by decide +kernel, zl_kl_32.2.2.1, by decide +kernel, by decide +kernel, zl_kl_32.2.2.2, by decide +kernel, by decide +kernel, by decide⟩, ⟨by decide +kernel, by decide +kernel⟩, by decide +kernel, by decide +kernel⟩
theorem zg_32 {q : Nat} {I : ZI} {R : ZR} {n : Nat} (h : zInv q I R n) (i : Nat) : ∃ v I1 R1 n1 I2 R2 n2, run 151 0 (zloc (z_ml 151) [.ref 0, .long (zl_X xs i), .int (xs (i + 3))]) [] I R n = some (some (.int v), I1, R1, n1) ∧ run 267 0 (zloc (z_ml 267) [.ref 195, .long (zl_X xs i), .int (xs (i + 3))]) [] I1 R1 n1 = some (some (.int v), I2, R2, n2) ∧ zInv (q + 1) I2 R2 n2 := p_rival h (zl_X xs i) (xs (i + 3))
theorem zg_33 {q : Nat} {I : ZI} {R : ZR} {n : Nat} (h : zInv q I R n) (i : Nat) : ∃ v I1 R1 n1 I2 R2 n2, run 152 0 (zloc (z_ml 152) [.ref 0, .long (zl_X xs i), .int (xs (i + 3))]) [] I R n = some (some (.int v), I1, R1, n1) ∧ run 268 0 (zloc (z_ml 268) [.ref 195, .long (zl_X xs i), .int (xs (i + 3))]) [] I1 R1 n1 = some (some (.int v), I2, R2, n2) ∧ zInv (q + 1) I2 R2 n2 := p_ahead h (zl_X xs i) (xs (i + 3))
end LL6
