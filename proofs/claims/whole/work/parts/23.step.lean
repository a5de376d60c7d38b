/-! ===== every instruction; every method ===== -/
theorem zi_some {st : List Value} {k : Int32 → List Value → ZO} {r : Option Value × ZI × ZR × Nat} (h : zi st k = some r) : ∃ x s, st = .int x :: s ∧ k x s = some r := by
  unfold zi at h; split at h
  · exact ⟨_, _, rfl, h⟩
  · cases h
theorem zii_some {st : List Value} {k : Int32 → Int32 → List Value → ZO} {r : Option Value × ZI × ZR × Nat} (h : zii st k = some r) : ∃ x y s, st = .int y :: .int x :: s ∧ k x y s = some r := by
  unfold zii at h; split at h
  · exact ⟨_, _, _, rfl, h⟩
  · cases h
theorem zll_some {st : List Value} {k : Int64 → Int64 → List Value → ZO} {r : Option Value × ZI × ZR × Nat} (h : zll st k = some r) : ∃ x y s, st = .long y :: .long x :: s ∧ k x y s = some r := by
  unfold zll at h; split at h
  · exact ⟨_, _, _, rfl, h⟩
  · cases h
theorem zil_some {st : List Value} {k : Int64 → Int32 → List Value → ZO} {r : Option Value × ZI × ZR × Nat} (h : zil st k = some r) : ∃ x y s, st = .int y :: .long x :: s ∧ k x y s = some r := by
  unfold zil at h; split at h
  · exact ⟨_, _, _, rfl, h⟩
  · cases h
theorem zl_some {st : List Value} {k : Int64 → List Value → ZO} {r : Option Value × ZI × ZR × Nat} (h : zl st k = some r) : ∃ x s, st = .long x :: s ∧ k x s = some r := by
  unfold zl at h; split at h
  · exact ⟨_, _, rfl, h⟩
  · cases h
theorem za_some {st : List Value} {k : Nat → List Value → ZO} {r : Option Value × ZI × ZR × Nat} (h : za st k = some r) : ∃ x s, st = .ref x :: s ∧ k x s = some r := by
  unfold za at h; split at h
  · exact ⟨_, _, rfl, h⟩
  · cases h
theorem zia_some {st : List Value} {k : Nat → Int32 → List Value → ZO} {r : Option Value × ZI × ZR × Nat} (h : zia st k = some r) : ∃ o i s, st = .int i :: .ref o :: s ∧ k o i s = some r := by
  unfold zia at h; split at h
  · exact ⟨_, _, _, rfl, h⟩
  · cases h
theorem zgi_some {ls : ZL} {a : Nat} {k : Int32 → ZO} {r : Option Value × ZI × ZR × Nat} (h : zgi ls a k = some r) : ∃ x, zget ls a = some (.int x) ∧ k x = some r := by
  unfold zgi at h; split at h
  · exact ⟨_, by assumption, h⟩
  · cases h
theorem zgl_some {ls : ZL} {a : Nat} {k : Int64 → ZO} {r : Option Value × ZI × ZR × Nat} (h : zgl ls a k = some r) : ∃ x, zget ls a = some (.long x) ∧ k x = some r := by
  unfold zgl at h; split at h
  · exact ⟨_, by assumption, h⟩
  · cases h
theorem zga_some {ls : ZL} {a : Nat} {k : Nat → ZO} {r : Option Value × ZI × ZR × Nat} (h : zga ls a k = some r) : ∃ x, zget ls a = some (.ref x) ∧ k x = some r := by
  unfold zga at h; split at h
  · exact ⟨_, by assumption, h⟩
  · cases h
theorem zr_some {o : Option Nat} {k : Nat → ZO} {r : Option Value × ZI × ZR × Nat} (h : zr o k = some r) : ∃ x, o = some x ∧ k x = some r := by
  cases o with
  | none => cases h
  | some x => exact ⟨x, rfl, h⟩
theorem zveq_int {v : Value} {y : Int32} (h : zveq v (.int y) = true) : v = .int y := by
  unfold zveq at h
  split at h
  · rename_i h1; cases h1; exact congrArg Value.int (of_decide_eq_true h)
  · rename_i h1; cases h1
  · cases h
theorem zveq_long {v : Value} {y : Int64} (h : zveq v (.long y) = true) : v = .long y := by
  unfold zveq at h
  split at h
  · rename_i h1; cases h1
  · rename_i h1; cases h1; exact congrArg Value.long (of_decide_eq_true h)
  · cases h
theorem zveq_to {v w : Value} (h : zveq w v = true) : w = v := by
  cases v <;> first | exact zveq_int h | exact zveq_long h | (cases w <;> cases h)
theorem zcall_inv {nx a b : Nat} {K : ZK} {C : ZC} {ls : ZL} {st : List Value} {I : ZI} {R : ZR} {n : Nat} {r : Option Value × ZI × ZR × Nat} (hb : b < 3) (h : zcall nx a b K C ls st I R n = some r) :
    ∃ vs st' r', vs.length = z_np a ∧ st = vs.reverse ++ st' ∧ zwords st' ≤ 8 ∧ zwords vs ≤ z_ml a ∧ zrcv a n vs = true ∧ C a (zloc (z_ml a) vs) I R n = some r' ∧ K nx ls (r'.1.toList ++ st') r'.2.1 r'.2.2.1 r'.2.2.2 = some r := by
  have key : ∀ (g : ZO → List Value → ZO), (∀ o s, g o s = some r → ∃ r', o = some r' ∧ K nx ls (r'.1.toList ++ s) r'.2.1 r'.2.2.1 r'.2.2.2 = some r) → (zpop (z_np a) st [] fun vs s => zc (Nat.ble (zwords s) 8 && Nat.ble (zwords vs) (z_ml a)) (zc (zrcv a n vs) (g (C a (zloc (z_ml a) vs) I R n) s))) = some r →
      ∃ vs st' r', vs.length = z_np a ∧ st = vs.reverse ++ st' ∧ zwords st' ≤ 8 ∧ zwords vs ≤ z_ml a ∧ zrcv a n vs = true ∧ C a (zloc (z_ml a) vs) I R n = some r' ∧ K nx ls (r'.1.toList ++ st') r'.2.1 r'.2.2.1 r'.2.2.2 = some r := by
    intro g hg h
    obtain ⟨vs, st', h1, h2, h3⟩ := zpop_spec _ _ _ h
    rw [List.append_nil] at h3
    obtain ⟨h4, h5⟩ := zc_some h3
    obtain ⟨h6, h7⟩ := zc_some h5
    rw [Bool.and_eq_true] at h4
    obtain ⟨r', h8, h9⟩ := hg _ _ h7
    exact ⟨vs, st', r', h1, h2, Nat.le_of_ble_eq_true h4.1, Nat.le_of_ble_eq_true h4.2, h6, h8, h9⟩
  match b, hb with
  | 0, _ =>
    refine key (fun o s => zbV o fun I R n => K nx ls s I R n) (fun o s ho => ?_) h
    unfold zbV at ho
    split at ho
    · exact ⟨_, rfl, ho⟩
    · cases ho
  | 1, _ =>
    refine key (fun o s => zbI o fun x I R n => K nx ls (.int x :: s) I R n) (fun o s ho => ?_) h
    unfold zbI at ho
    split at ho
    · exact ⟨_, rfl, ho⟩
    · cases ho
  | 2, _ =>
    refine key (fun o s => zbR o fun x I R n => K nx ls (.ref x :: s) I R n) (fun o s ho => ?_) h
    unfold zbR at ho
    split at ho
    · exact ⟨_, rfl, ho⟩
    · cases ho
theorem zrcv_spec {y n : Nat} {vs : List Value} (hoc : z_oc y ≠ 50) (h : zrcv y n vs = true) : ∃ o vs', vs = .ref o :: vs' ∧ zis n o (z_oc y) = true := by
  unfold zrcv at h
  cases hh : Nat.beq (z_oc y) 50 with
  | true => exact absurd (Nat.eq_of_beq_eq_true hh) hoc
  | false =>
    rw [hh] at h
    dsimp only [cond_false] at h
    split at h
    · exact ⟨_, _, rfl, h⟩
    · cases h
theorem zri_inv {rt nx a b : Nat} {v : Value} {sw : List (Int32 × Nat)} {K : ZK} {C : ZC} {ls : ZL} {st : List Value} {I : ZI} {R : ZR} {n : Nat} {r : Option Value × ZI × ZR × Nat} (h : zdo .ireturn rt nx a b v sw K C ls st I R n = some r) : (rt = 1 ∧ ∃ x, st = [.int x] ∧ r = (some (.int x), I, R, n)) ∨ (rt = 2 ∧ ∃ x, st = [.int x] ∧ zbool x = true ∧ r = (some (.int x), I, R, n)) := by
  unfold zdo at h
  dsimp only at h
  split at h
  · exact Or.inl ⟨rfl, _, rfl, (Option.some.inj h).symm⟩
  · obtain ⟨h1, h2⟩ := zc_some h
    exact Or.inr ⟨rfl, _, rfl, h1, (Option.some.inj h2).symm⟩
  · cases h
theorem zra_inv {rt nx a b : Nat} {v : Value} {sw : List (Int32 × Nat)} {K : ZK} {C : ZC} {ls : ZL} {st : List Value} {I : ZI} {R : ZR} {n : Nat} {r : Option Value × ZI × ZR × Nat} (h : zdo .areturn rt nx a b v sw K C ls st I R n = some r) : rt = 3 ∧ ∃ x, st = [.ref x] ∧ r = (some (.ref x), I, R, n) := by
  unfold zdo at h
  dsimp only at h
  split at h
  · exact ⟨rfl, _, rfl, (Option.some.inj h).symm⟩
  · cases h
theorem zrv_inv {rt nx a b : Nat} {v : Value} {sw : List (Int32 × Nat)} {K : ZK} {C : ZC} {ls : ZL} {st : List Value} {I : ZI} {R : ZR} {n : Nat} {r : Option Value × ZI × ZR × Nat} (h : zdo .return_ rt nx a b v sw K C ls st I R n = some r) : rt = 0 ∧ r = (none, I, R, n) := by
  unfold zdo at h
  dsimp only at h
  split at h
  · exact ⟨rfl, (Option.some.inj h).symm⟩
  · cases h
theorem zrt_ok : ∀ m, m < 283 → (z_rt m = 0 → z_ret m = none) ∧ (z_rt m = 1 → z_ret m = some .int) ∧ (z_rt m = 2 → z_ret m = some .boolean) ∧ (z_rt m = 3 → z_ret m = some (.object "java/lang/String")) := by decide +kernel
theorem ne50 {y : Nat} (h : (!(Nat.beq (z_oc y) 50)) = true) : z_oc y ≠ 50 := by
  intro q
  rw [q] at h
  cases h
section ZStep
variable {p : Program} {l : Launch} {e : Env} {Rm : Room} {s : State} {mid : MethodId} {args : Array Value} {below : List Frame} {meth : Method} {c : Code}
variable {base : Nat} {D : va_G} {tc : Nat → ClassId} {ad0 : Nat → Nat} {n0 m : Nat} {I0 : ZI} {R0 : ZR}
theorem zfin {ad : Nat → Nat} {ls : ZL} {st : List Value} {I : ZI} {R : ZR} {n : Nat} {H : Heap} {locs : List Loc} {la : Array Slot} {v : Option Value} (S : zSt D tc (va_A (zwl tc ad0 I0 R0 n0) s.heap.size) s ad0 n0 m ad ls st I R n H locs la) (hv : ∀ w, v = some w → zwv n w) (a : Array Value) : ∀ t : State, t.heap = H → zQc D tc ad0 I0 R0 n0 s.heap.size (v, I, R, n) a s (.returned (v.map (ztr ad))) t := by
  intro t ht
  exact ⟨⟨ad, S.2.2.2.2.2.2.2.2, rfl, by rw [ht]; exact S.1, S.2.1⟩, S.2.2.1.F ht, S.2.2.2.1, S.2.2.2.2.2.2.2.1, hv⟩
set_option maxHeartbeats 16000000 in
theorem z_step (X : zCx p s mid args meth c m) (E : zEnv base D tc ad0 s s.heap) (hb : base ≤ s.heap.size) (hAb : ∀ q, va_A (zwl tc ad0 I0 R0 n0) s.heap.size q → base ≤ q) {r : Option Value × ZI × ZR × Nat} (hRm : Rm = zrm2 m n0 r.2.2.2) {K : ZK} {C : ZC}
    (hKn : ∀ pc ls st I R n, zmn n (K pc ls st I R n)) (hCn : ∀ y ls I R n, zmn n (C y ls I R n))
    (hK : ∀ pc ls st I R n, K pc ls st I R n = some r → zGo p l e Rm s mid args below meth c (MQ below (zQc D tc ad0 I0 R0 n0 s.heap.size r) args s (r.2.2.2 - n0) (zs r.2.2.2 - zs n0) (va_A (zwl tc ad0 I0 R0 n0) s.heap.size)) D tc (va_A (zwl tc ad0 I0 R0 n0) s.heap.size) ad0 n0 m pc ls st I R n)
    (hC : ∀ y vs I R n r', y < 283 → zwords vs ≤ z_ml y → C y (zloc (z_ml y) vs) I R n = some r' → zMet l base D tc y vs I R n r') :
    ∀ pc ls st I R n, n0 ≤ n → zst m K C pc ls st I R n = some r → zGo p l e Rm s mid args below meth c (MQ below (zQc D tc ad0 I0 R0 n0 s.heap.size r) args s (r.2.2.2 - n0) (zs r.2.2.2 - zs n0) (va_A (zwl tc ad0 I0 R0 n0) s.heap.size)) D tc (va_A (zwl tc ad0 I0 R0 n0) s.heap.size) ad0 n0 m pc ls st I R n := by
  intro pc ls0 st I R n hnn h
  have hA : ∀ q, s.heap.size ≤ q → va_A (zwl tc ad0 I0 R0 n0) s.heap.size q := fun q hq => Or.inr hq
  have hRf : z_fr m ≤ Rm.frames := by rw [hRm]; exact Nat.le_refl _
  have hRl : z_lo m ≤ Rm.locals := by rw [hRm]; exact Nat.le_refl _
  have hRc : r.2.2.2 - n0 ≤ Rm.cells := by rw [hRm]; exact Nat.le_refl _
  have hRs : zs r.2.2.2 - zs n0 ≤ Rm.slots := by rw [hRm]; exact Nat.le_refl _
  have hlim : ∀ n', n' ≤ r.2.2.2 → n' - n0 ≤ Rm.cells ∧ zs n' - zs n0 ≤ Rm.slots := fun n' hn' => ⟨by omega, by have := zs_le hn'; omega⟩
  unfold zst at h
  split at h
  case h_2 => cases h
  case h_1 i nx a b v msk sw hI =>
  obtain ⟨hm, hd, hnx, hf⟩ := ztab hI
  suffices hgo : zGo p l e Rm s mid args below meth c (MQ below (zQc D tc ad0 I0 R0 n0 s.heap.size r) args s (r.2.2.2 - n0) (zs r.2.2.2 - zs n0) (va_A (zwl tc ad0 I0 R0 n0) s.heap.size)) D tc (va_A (zwl tc ad0 I0 R0 n0) s.heap.size) ad0 n0 m pc (zmask msk ls0) st I R n from fun ad H locs la S => hgo ad H locs la S.mask
  generalize zmask msk ls0 = ls at h ⊢
  have key : zisw i = false → nx = pc + zlenI i ∧ decode (z_by m) pc = .ok (i, zlenI i) := by
    intro hns
    rw [hns, Bool.false_or] at hnx
    have e1 := Nat.eq_of_beq_eq_true hnx
    refine ⟨e1, ?_⟩
    rw [hd, e1, Nat.add_sub_cancel_left]
  have hd0 := hd
  clear hd
  cases i
  case iconst x =>
    obtain ⟨rfl, hd⟩ := key rfl
    obtain rfl := zveq_int hf
    exact fun ad H locs la S => lv_iconst X.1 X.2.1 hd rfl (hK _ _ _ _ _ _ h ad H locs la (S.push (zwv_int _ _)))
  case bipush x =>
    obtain ⟨rfl, hd⟩ := key rfl
    obtain rfl := zveq_int hf
    exact fun ad H locs la S => lv_bipush X.1 X.2.1 hd rfl (hK _ _ _ _ _ _ h ad H locs la (S.push (zwv_int _ _)))
  case sipush x =>
    obtain ⟨rfl, hd⟩ := key rfl
    obtain rfl := zveq_int hf
    exact fun ad H locs la S => lv_sipush X.1 X.2.1 hd rfl (hK _ _ _ _ _ _ h ad H locs la (S.push (zwv_int _ _)))
  case lconst x =>
    obtain ⟨rfl, hd⟩ := key rfl
    obtain rfl := zveq_long hf
    exact fun ad H locs la S => lv_lconst X.1 X.2.1 hd rfl (hK _ _ _ _ _ _ h ad H locs la (S.push (zwv_long _ _)))
  case ldc x =>
    obtain ⟨rfl, hd⟩ := key rfl
    cases v <;> first | (cases hf; done) | skip
    case int w =>
      have hf : zhK (z_own m) x (.int w) = true := hf
      exact fun ad H locs la S => lv_ldc X.1 X.2.1 X.2.2.2.2.1 (X.2.2.2.2.2.1 _ (zhK_int hm hf)) hd (hK _ _ _ _ _ _ h ad H locs la (S.push (zwv_int _ _)))
    case ref w =>
      have hf : (Nat.ble 1000 w && zhS (z_own m) x (w - 1000)) = true := hf
      rw [Bool.and_eq_true] at hf
      have hw : 1000 ≤ w := Nat.le_of_ble_eq_true hf.1
      intro ad H locs la S
      have hR := zhS_spec hm E hf.2
      have e1 : 1000 + (w - 1000) = w := Nat.add_sub_of_le hw
      have e2 : ad w = ad0 w := S.2.2.2.2.2.2.2.2 w (Or.inr hw)
      rw [e1, ← e2] at hR
      exact va_ldcS X.1 X.2.1 X.2.2.2.2.1 hR hd (hK _ _ _ _ _ _ h ad H locs la (S.push (zwv_ref (Or.inr hw))))
  case ldc_w x =>
    obtain ⟨rfl, hd⟩ := key rfl
    cases v <;> first | (cases hf; done) | skip
    case int w =>
      have hf : zhK (z_own m) x (.int w) = true := hf
      exact fun ad H locs la S => lv_ldcw X.1 X.2.1 X.2.2.2.2.1 (X.2.2.2.2.2.1 _ (zhK_int hm hf)) hd (hK _ _ _ _ _ _ h ad H locs la (S.push (zwv_int _ _)))
  case ldc2_w x =>
    obtain ⟨rfl, hd⟩ := key rfl
    cases v <;> first | (cases hf; done) | skip
    case long w =>
      have hf : zhK (z_own m) x (.long w) = true := hf
      exact fun ad H locs la S => lv_ldc2 X.1 X.2.1 X.2.2.2.2.1 (X.2.2.2.2.2.1 _ (zhK_long hm hf)) hd (hK _ _ _ _ _ _ h ad H locs la (S.push (zwv_long _ _)))
  case getstatic x =>
    obtain ⟨rfl, hd⟩ := key rfl
    cases v <;> first | (cases hf; done) | skip
    case ref w =>
      have hf : (Nat.ble 1010 w && zhG (z_own m) x (w - 1010)) = true := hf
      rw [Bool.and_eq_true] at hf
      have hw : 1010 ≤ w := Nat.le_of_ble_eq_true hf.1
      intro ad H locs la S
      obtain ⟨hj, hl⟩ := zhG_spec hm hf.2
      have hZ := ((E.2.2.2.2.1 (w - 1010) hj).1).narrow (B := va_A (zwl tc ad0 I0 R0 n0) s.heap.size) (fun q h => hAb q h)
      have e1 : 1010 + (w - 1010) = w := Nat.add_sub_of_le hw
      have e2 : ad w = ad0 w := S.2.2.2.2.2.2.2.2 w (Or.inr (Nat.le_trans (by decide) hw))
      rw [e1, ← e2] at hZ
      exact va_gets X.1 X.2.1 hZ S.2.2.1 X.2.2.2.2.1 (X.2.2.2.2.2.1 _ hl) (fun _ h => h) hd (hK _ _ _ _ _ _ h ad H locs la (S.push (zwv_ref (Or.inr (Nat.le_trans (by decide) hw)))))
  case iload x =>
    obtain ⟨rfl, hd⟩ := key rfl
    obtain rfl := Nat.eq_of_beq_eq_true hf
    obtain ⟨w, h1, h⟩ := zgi_some h
    exact za_iload X hd h1 (hK _ _ _ _ _ _ h)
  case iload_n x =>
    obtain ⟨rfl, hd⟩ := key rfl
    obtain ⟨w, h1, h⟩ := zgi_some h
    exact za_iload_n X hd (Nat.eq_of_beq_eq_true hf) h1 (hK _ _ _ _ _ _ h)
  case lload x =>
    obtain ⟨rfl, hd⟩ := key rfl
    obtain rfl := Nat.eq_of_beq_eq_true hf
    obtain ⟨w, h1, h⟩ := zgl_some h
    exact za_lload X hd h1 (hK _ _ _ _ _ _ h)
  case lload_n x =>
    obtain ⟨rfl, hd⟩ := key rfl
    obtain ⟨w, h1, h⟩ := zgl_some h
    exact za_lload_n X hd (Nat.eq_of_beq_eq_true hf) h1 (hK _ _ _ _ _ _ h)
  case aload x =>
    obtain ⟨rfl, hd⟩ := key rfl
    obtain rfl := Nat.eq_of_beq_eq_true hf
    obtain ⟨w, h1, h⟩ := zga_some h
    exact za_aload X hd h1 (hK _ _ _ _ _ _ h)
  case aload_n x =>
    obtain ⟨rfl, hd⟩ := key rfl
    obtain ⟨w, h1, h⟩ := zga_some h
    exact za_aload_n X hd (Nat.eq_of_beq_eq_true hf) h1 (hK _ _ _ _ _ _ h)
  case istore x =>
    obtain ⟨rfl, hd⟩ := key rfl
    obtain rfl := Nat.eq_of_beq_eq_true hf
    obtain ⟨w, st', rfl, h⟩ := zi_some h
    obtain ⟨h1, h⟩ := zc_some h
    exact za_istore X hd h1 (hK _ _ _ _ _ _ h)
  case istore_n x =>
    obtain ⟨rfl, hd⟩ := key rfl
    obtain ⟨w, st', rfl, h⟩ := zi_some h
    obtain ⟨h1, h⟩ := zc_some h
    exact za_istore_n X hd (Nat.eq_of_beq_eq_true hf) h1 (hK _ _ _ _ _ _ h)
  case astore x =>
    obtain ⟨rfl, hd⟩ := key rfl
    obtain rfl := Nat.eq_of_beq_eq_true hf
    obtain ⟨w, st', rfl, h⟩ := za_some h
    obtain ⟨h1, h⟩ := zc_some h
    exact za_astore X hd h1 (hK _ _ _ _ _ _ h)
  case astore_n x =>
    obtain ⟨rfl, hd⟩ := key rfl
    obtain ⟨w, st', rfl, h⟩ := za_some h
    obtain ⟨h1, h⟩ := zc_some h
    exact za_astore_n X hd (Nat.eq_of_beq_eq_true hf) h1 (hK _ _ _ _ _ _ h)
  case lstore x =>
    obtain ⟨rfl, hd⟩ := key rfl
    obtain rfl := Nat.eq_of_beq_eq_true hf
    obtain ⟨w, st', rfl, h⟩ := zl_some h
    obtain ⟨h1, h⟩ := zc_some h
    rw [Bool.and_eq_true] at h1
    exact za_lstore X hd h1.1 (Nat.le_of_ble_eq_true h1.2) (hK _ _ _ _ _ _ h)
  case lstore_n x =>
    obtain ⟨rfl, hd⟩ := key rfl
    obtain ⟨w, st', rfl, h⟩ := zl_some h
    obtain ⟨h1, h⟩ := zc_some h
    rw [Bool.and_eq_true] at h1
    exact za_lstore_n X hd (Nat.eq_of_beq_eq_true hf) h1.1 (Nat.le_of_ble_eq_true h1.2) (hK _ _ _ _ _ _ h)
  case iinc x d =>
    obtain ⟨rfl, hd⟩ := key rfl
    have hf : (Nat.beq x a && zveq v (.int (Int32.ofInt d))) = true := hf
    rw [Bool.and_eq_true] at hf
    obtain rfl := Nat.eq_of_beq_eq_true hf.1
    obtain rfl := zveq_int hf.2
    obtain ⟨w, h1, h⟩ := zgi_some h
    obtain ⟨h2, h⟩ := zc_some h
    exact za_iinc X hd h1 h2 (hK _ _ _ _ _ _ h)
  case iadd => obtain ⟨rfl, hd⟩ := key rfl; obtain ⟨x, y, st', rfl, h⟩ := zii_some h; exact fun ad H locs la S => lv_iadd X.1 X.2.1 hd (hK _ _ _ _ _ _ h ad H locs la (S.pop.pop.push (zwv_int _ _)))
  case isub => obtain ⟨rfl, hd⟩ := key rfl; obtain ⟨x, y, st', rfl, h⟩ := zii_some h; exact fun ad H locs la S => lv_isub X.1 X.2.1 hd (hK _ _ _ _ _ _ h ad H locs la (S.pop.pop.push (zwv_int _ _)))
  case imul => obtain ⟨rfl, hd⟩ := key rfl; obtain ⟨x, y, st', rfl, h⟩ := zii_some h; exact fun ad H locs la S => lv_imul X.1 X.2.1 hd (hK _ _ _ _ _ _ h ad H locs la (S.pop.pop.push (zwv_int _ _)))
  case iand => obtain ⟨rfl, hd⟩ := key rfl; obtain ⟨x, y, st', rfl, h⟩ := zii_some h; exact fun ad H locs la S => lv_iand X.1 X.2.1 hd (hK _ _ _ _ _ _ h ad H locs la (S.pop.pop.push (zwv_int _ _)))
  case ior => obtain ⟨rfl, hd⟩ := key rfl; obtain ⟨x, y, st', rfl, h⟩ := zii_some h; exact fun ad H locs la S => lv_ior X.1 X.2.1 hd (hK _ _ _ _ _ _ h ad H locs la (S.pop.pop.push (zwv_int _ _)))
  case ixor => obtain ⟨rfl, hd⟩ := key rfl; obtain ⟨x, y, st', rfl, h⟩ := zii_some h; exact fun ad H locs la S => lv_ixor X.1 X.2.1 hd (hK _ _ _ _ _ _ h ad H locs la (S.pop.pop.push (zwv_int _ _)))
  case ishl => obtain ⟨rfl, hd⟩ := key rfl; obtain ⟨x, y, st', rfl, h⟩ := zii_some h; exact fun ad H locs la S => lv_ishl X.1 X.2.1 hd (hK _ _ _ _ _ _ h ad H locs la (S.pop.pop.push (zwv_int _ _)))
  case ishr => obtain ⟨rfl, hd⟩ := key rfl; obtain ⟨x, y, st', rfl, h⟩ := zii_some h; exact fun ad H locs la S => lv_ishr X.1 X.2.1 hd (hK _ _ _ _ _ _ h ad H locs la (S.pop.pop.push (zwv_int _ _)))
  case iushr => obtain ⟨rfl, hd⟩ := key rfl; obtain ⟨x, y, st', rfl, h⟩ := zii_some h; exact fun ad H locs la S => lv_iushr X.1 X.2.1 hd rfl (hK _ _ _ _ _ _ h ad H locs la (S.pop.pop.push (zwv_int _ _)))
  case idiv =>
    obtain ⟨rfl, hd⟩ := key rfl; obtain ⟨x, y, st', rfl, h⟩ := zii_some h; obtain ⟨h1, h⟩ := zc_some h
    exact fun ad H locs la S => lv_idiv X.1 X.2.1 hd (by simpa using h1) (hK _ _ _ _ _ _ h ad H locs la (S.pop.pop.push (zwv_int _ _)))
  case irem =>
    obtain ⟨rfl, hd⟩ := key rfl; obtain ⟨x, y, st', rfl, h⟩ := zii_some h; obtain ⟨h1, h⟩ := zc_some h
    exact fun ad H locs la S => lv_irem X.1 X.2.1 hd (by simpa using h1) (hK _ _ _ _ _ _ h ad H locs la (S.pop.pop.push (zwv_int _ _)))
  case ineg => obtain ⟨rfl, hd⟩ := key rfl; obtain ⟨x, st', rfl, h⟩ := zi_some h; exact fun ad H locs la S => lv_ineg X.1 X.2.1 hd (hK _ _ _ _ _ _ h ad H locs la (S.pop.push (zwv_int _ _)))
  case i2l => obtain ⟨rfl, hd⟩ := key rfl; obtain ⟨x, st', rfl, h⟩ := zi_some h; exact fun ad H locs la S => lv_i2l X.1 X.2.1 hd rfl (hK _ _ _ _ _ _ h ad H locs la (S.pop.push (zwv_long _ _)))
  case i2b => obtain ⟨rfl, hd⟩ := key rfl; obtain ⟨x, st', rfl, h⟩ := zi_some h; exact fun ad H locs la S => lv_i2b X.1 X.2.1 hd rfl (hK _ _ _ _ _ _ h ad H locs la (S.pop.push (zwv_int _ _)))
  case l2i => obtain ⟨rfl, hd⟩ := key rfl; obtain ⟨x, st', rfl, h⟩ := zl_some h; exact fun ad H locs la S => lv_l2i X.1 X.2.1 hd rfl (hK _ _ _ _ _ _ h ad H locs la (S.pop.push (zwv_int _ _)))
  case ladd => obtain ⟨rfl, hd⟩ := key rfl; obtain ⟨x, y, st', rfl, h⟩ := zll_some h; exact fun ad H locs la S => lv_ladd X.1 X.2.1 hd (hK _ _ _ _ _ _ h ad H locs la (S.pop.pop.push (zwv_long _ _)))
  case lsub => obtain ⟨rfl, hd⟩ := key rfl; obtain ⟨x, y, st', rfl, h⟩ := zll_some h; exact fun ad H locs la S => lv_lsub X.1 X.2.1 hd (hK _ _ _ _ _ _ h ad H locs la (S.pop.pop.push (zwv_long _ _)))
  case lmul => obtain ⟨rfl, hd⟩ := key rfl; obtain ⟨x, y, st', rfl, h⟩ := zll_some h; exact fun ad H locs la S => lv_lmul X.1 X.2.1 hd (hK _ _ _ _ _ _ h ad H locs la (S.pop.pop.push (zwv_long _ _)))
  case lrem =>
    obtain ⟨rfl, hd⟩ := key rfl; obtain ⟨x, y, st', rfl, h⟩ := zll_some h; obtain ⟨h1, h⟩ := zc_some h
    exact fun ad H locs la S => lv_lrem X.1 X.2.1 hd (by simpa using h1) (hK _ _ _ _ _ _ h ad H locs la (S.pop.pop.push (zwv_long _ _)))
  case lushr => obtain ⟨rfl, hd⟩ := key rfl; obtain ⟨x, y, st', rfl, h⟩ := zil_some h; exact fun ad H locs la S => lv_lushr X.1 X.2.1 hd rfl (hK _ _ _ _ _ _ h ad H locs la (S.pop.pop.push (zwv_long _ _)))
  case lcmp => obtain ⟨rfl, hd⟩ := key rfl; obtain ⟨x, y, st', rfl, h⟩ := zll_some h; exact fun ad H locs la S => W.lcmp X.1 X.2.1 hd (hK _ _ _ _ _ _ h ad H locs la (S.pop.pop.push (zwv_int _ _)))
  case dup =>
    obtain ⟨rfl, hd⟩ := key rfl
    cases st with
    | nil => cases h
    | cons w st' =>
      obtain ⟨h1, h⟩ := zc_some h
      exact fun ad H locs la S => lv_dup X.1 X.2.1 hd (by rw [ztr_cat]; exact zcat1_spec h1) (hK _ _ _ _ _ _ h ad H locs la (S.push S.top))
  case pop =>
    obtain ⟨rfl, hd⟩ := key rfl
    cases st with
    | nil => cases h
    | cons w st' =>
      obtain ⟨h1, h⟩ := zc_some h
      exact fun ad H locs la S => lv_pop X.1 X.2.1 hd (by rw [ztr_cat]; exact zcat1_spec h1) (hK _ _ _ _ _ _ h ad H locs la S.pop)
  case dup2 =>
    obtain ⟨rfl, hd⟩ := key rfl
    cases st with
    | nil => cases h
    | cons w st' =>
      cases st' with
      | nil => cases h
      | cons w2 st' =>
        obtain ⟨h1, h⟩ := zc_some h
        rw [Bool.and_eq_true] at h1
        exact fun ad H locs la S => lv_dup2_11 X.1 X.2.1 hd (by rw [ztr_cat]; exact zcat1_spec h1.1) (by rw [ztr_cat]; exact zcat1_spec h1.2) (hK _ _ _ _ _ _ h ad H locs la ((S.push S.pop.top).push S.top))
  case goto off =>
    obtain ⟨rfl, hd⟩ := key rfl
    exact fun ad H locs la S => lv_goto X.1 X.2.1 hd (of_decide_eq_true hf) (hK _ _ _ _ _ _ h ad H locs la S)
  case ifCond q off =>
    obtain ⟨rfl, hd⟩ := key rfl
    obtain ⟨x, st', rfl, h⟩ := zi_some h
    exact za_if X hd (of_decide_eq_true hf) h (fun pc' h' => hK _ _ _ _ _ _ h')
  case if_icmp q off =>
    obtain ⟨rfl, hd⟩ := key rfl
    obtain ⟨x, y, st', rfl, h⟩ := zii_some h
    exact za_icmp X hd (of_decide_eq_true hf) h (fun pc' h' => hK _ _ _ _ _ _ h')
  case tableswitch d lo hi offs =>
    obtain ⟨x, st', rfl, h⟩ := zi_some h
    have hf : (decide ((pc : Int) + d = (a : Int)) && decide (hi = lo + (offs.toList.length : Int) - 1) && zswT pc lo offs.toList sw) = true := hf
    simp only [Bool.and_eq_true, decide_eq_true_eq] at hf
    exact za_table X hd0 hf.1.1 hf.1.2 hf.2 h (fun pc' h' => hK _ _ _ _ _ _ h')
  case lookupswitch d ps =>
    obtain ⟨x, st', rfl, h⟩ := zi_some h
    have hf : (decide ((pc : Int) + d = (a : Int)) && (ps.toList.zip (ps.toList.drop 1)).all (fun (a, next) => a.1 < next.1) && zswL pc ps.toList sw) = true := hf
    rw [Bool.and_eq_true, Bool.and_eq_true, decide_eq_true_eq] at hf
    exact za_lookup X hd0 hf.1.1 hf.1.2 hf.2 h (fun pc' h' => hK _ _ _ _ _ _ h')
  case getfield x =>
    obtain ⟨rfl, hd⟩ := key rfl
    obtain ⟨o, st', rfl, h⟩ := za_some h
    obtain ⟨h1, h⟩ := zc_some h
    by_cases hft : z_ft a b = 2
    · rw [hft] at h
      obtain ⟨w, h2, h⟩ := zr_some h
      exact za_getR X E hd hf h1 hft h2 (hK _ _ _ _ _ _ h)
    · have hbq : Nat.beq (z_ft a b) 2 = false := by
        cases hh : Nat.beq (z_ft a b) 2 with
        | false => rfl
        | true => exact absurd (Nat.eq_of_beq_eq_true hh) hft
      rw [hbq] at h
      exact za_getI X E hd hf h1 hft (hK _ _ _ _ _ _ h)
  case putfield x =>
    obtain ⟨rfl, hd⟩ := key rfl
    have hf : (zhF (z_own m) x a b && (!((z_T a b).2.2.2) || (z_in m && decide ((z_T a b).1 = z_cn (z_own m))))) = true := hf
    rw [Bool.and_eq_true] at hf
    have h : (bif Nat.beq (z_ft a b) 2 then (za st fun x st => za st fun o st => zc (zis n o a) (K _ ls st I (zur R o b (some x)) n)) else (zi st fun x st => za st fun o st => zc (zis n o a) (zc (Nat.beq (z_ft a b) 0 || zbool x) (K _ ls st (zup I o b x) R n)))) = some r := h
    by_cases hft : z_ft a b = 2
    · have hbq : Nat.beq (z_ft a b) 2 = true := by rw [hft]; rfl
      rw [hbq] at h
      obtain ⟨w, st1, h8, h3⟩ := za_some h
      obtain ⟨o, st2, h9, h4⟩ := za_some h3
      obtain ⟨h1, h5⟩ := zc_some h4
      subst h9
      subst h8
      exact za_putR X E hd hf.1 hf.2 h1 hft (hK _ _ _ _ _ _ h5)
    · have hbq : Nat.beq (z_ft a b) 2 = false := by
        cases hh : Nat.beq (z_ft a b) 2 with
        | false => rfl
        | true => exact absurd (Nat.eq_of_beq_eq_true hh) hft
      rw [hbq] at h
      obtain ⟨w, st1, h8, h3⟩ := zi_some h
      obtain ⟨o, st2, h9, h4⟩ := za_some h3
      obtain ⟨h1, h5⟩ := zc_some h4
      obtain ⟨h2, h6⟩ := zc_some h5
      subst h9
      subst h8
      exact za_putI X E hd hf.1 hf.2 h1 hft h2 (hK _ _ _ _ _ _ h6)
  case iaload =>
    obtain ⟨rfl, hd⟩ := key rfl
    obtain ⟨o, x, st', rfl, h⟩ := zia_some h
    obtain ⟨h1, h⟩ := zc_some h
    rw [Bool.and_eq_true] at h1
    exact za_iald X E hAb hd h1.1 h1.2 (hK _ _ _ _ _ _ h)
  case baload =>
    obtain ⟨rfl, hd⟩ := key rfl
    obtain ⟨o, x, st', rfl, h⟩ := zia_some h
    obtain ⟨h1, h⟩ := zc_some h
    rw [Bool.and_eq_true] at h1
    exact za_bald X E hd h1.1 h1.2 (hK _ _ _ _ _ _ h)
  case aaload =>
    obtain ⟨rfl, hd⟩ := key rfl
    obtain ⟨o, x, st', rfl, h⟩ := zia_some h
    obtain ⟨h1, h⟩ := zc_some h
    rw [Bool.and_eq_true] at h1
    obtain ⟨w, h2, h⟩ := zr_some h
    exact za_aald X E hd h1.1 h1.2 h2 (hK _ _ _ _ _ _ h)
  case iastore =>
    obtain ⟨rfl, hd⟩ := key rfl
    obtain ⟨w, st', rfl, h⟩ := zi_some h
    obtain ⟨o, x, st', rfl, h⟩ := zia_some h
    obtain ⟨h1, h⟩ := zc_some h
    rw [Bool.and_eq_true] at h1
    exact za_iast X E hd h1.1 h1.2 (hK _ _ _ _ _ _ h)
  case bastore =>
    obtain ⟨rfl, hd⟩ := key rfl
    obtain ⟨w, st', rfl, h⟩ := zi_some h
    obtain ⟨o, x, st', rfl, h⟩ := zia_some h
    obtain ⟨h1, h⟩ := zc_some h
    rw [Bool.and_eq_true] at h1
    exact za_bast X E hd h1.1 h1.2 (hK _ _ _ _ _ _ h)
  case aastore =>
    obtain ⟨rfl, hd⟩ := key rfl
    obtain ⟨w, st', rfl, h⟩ := za_some h
    obtain ⟨o, x, st', rfl, h⟩ := zia_some h
    obtain ⟨h1, h⟩ := zc_some h
    rw [Bool.and_eq_true, Bool.and_eq_true] at h1
    exact za_aast X E hd h1.1.1 h1.1.2 h1.2 (hK _ _ _ _ _ _ h)
  case arraylength =>
    obtain ⟨rfl, hd⟩ := key rfl
    obtain ⟨o, st', rfl, h⟩ := za_some h
    obtain ⟨h1, h⟩ := zc_some h
    exact za_alen X E hd h1 (hK _ _ _ _ _ _ h)
  case new x =>
    obtain ⟨rfl, hd⟩ := key rfl
    obtain ⟨h1, h⟩ := zc_some h
    rw [Bool.and_eq_true] at h1
    have ha : a < 10 := Nat.le_of_ble_eq_true h1.1
    have hf : (Nat.ble 10 a || zhC (z_own m) x a) = true := hf
    have hC1 : zhC (z_own m) x a = true := by
      rcases (Bool.or_eq_true _ _).mp hf with q | q
      · have := Nat.le_of_ble_eq_true q; omega
      · exact q
    obtain ⟨l1, l2⟩ := hlim (n + 1) (hKn _ _ _ _ _ _ r h)
    exact za_new X E hA hd ha hC1 (Nat.eq_of_beq_eq_true h1.2) l1 l2 (hK _ _ _ _ _ _ h)
  case newarray ty =>
    obtain ⟨rfl, hd⟩ := key rfl
    obtain ⟨x, st', rfl, h⟩ := zi_some h
    obtain ⟨h1, h⟩ := zc_some h
    rw [Bool.and_eq_true, Bool.and_eq_true] at h1
    obtain ⟨l1, l2⟩ := hlim (n + 1) (hKn _ _ _ _ _ _ r h)
    have hx : ¬ x < 0 := by simpa using h1.1.2
    cases ty
    case int => exact za_newa (a := 20) (j := 0) (ty := .int) X E hA hd (Nat.eq_of_beq_eq_true h1.1.1) (by omega) (by omega) rfl (zW_at zarr_i rfl) rfl rfl (by decide) (fun C q => by cases q) hx (Nat.eq_of_beq_eq_true h1.2) l1 l2 (hK _ _ _ _ _ _ h)
    case byte => exact za_newa (a := 21) (j := 1) (ty := .byte) X E hA hd (Nat.eq_of_beq_eq_true h1.1.1) (by omega) (by omega) rfl (zW_at zarr_b rfl) rfl rfl (by decide) (fun C q => by cases q) hx (Nat.eq_of_beq_eq_true h1.2) l1 l2 (hK _ _ _ _ _ _ h)
    all_goals
      have h77 : z_kd n = 77 := Nat.eq_of_beq_eq_true h1.1.1
      exact absurd h77 (zkd_77 n)
  case anewarray x =>
    obtain ⟨rfl, hd⟩ := key rfl
    obtain ⟨w, st', rfl, h⟩ := zi_some h
    obtain ⟨h1, h⟩ := zc_some h
    rw [Bool.and_eq_true, Bool.and_eq_true] at h1
    obtain ⟨l1, l2⟩ := hlim (n + 1) (hKn _ _ _ _ _ _ r h)
    exact za_newq X E hA hd hf (Nat.eq_of_beq_eq_true h1.1.1) (by simpa using h1.1.2) (Nat.eq_of_beq_eq_true h1.2) l1 l2 (hK _ _ _ _ _ _ h)
  case multianewarray x d =>
    obtain ⟨rfl, hd⟩ := key rfl
    obtain ⟨w, w2, st', rfl, h⟩ := zii_some h
    obtain ⟨h1, h⟩ := zc_some h
    rw [Bool.and_eq_true] at h1
    obtain rfl := Nat.eq_of_beq_eq_true h1.1
    obtain ⟨l1, l2⟩ := hlim (n + 1 + zix w) (hKn _ _ _ _ _ _ r h)
    exact za_multi X E hA hd hf h1.2 l1 l2 (hK _ _ _ _ _ _ h)
  case invokevirtual x =>
    obtain ⟨rfl, hd⟩ := key rfl
    have hf : ((Nat.blt b 3 && zhM (z_own m) x a && !(Nat.beq (z_oc a) 50) && !(z_in a) && zroom m a) || (Nat.beq b 15 && zhP (z_own m) x 15 && Nat.ble 5 (z_fr m) && Nat.ble 110 (z_lo m)) || (Nat.beq b 16 && zhP (z_own m) x 16 && Nat.ble 5 (z_fr m) && Nat.ble 110 (z_lo m))) = true := hf
    rw [Bool.or_eq_true, Bool.or_eq_true] at hf
    rcases hf with (hf | hf) | hf
    · simp only [Bool.and_eq_true] at hf
      obtain ⟨⟨⟨⟨f1, f2⟩, f3⟩, f4⟩, f5⟩ := hf
      obtain ⟨vs, st', r', g1, rfl, g3, g4, g5, g6, g7⟩ := zcall_inv (Nat.le_of_ble_eq_true f1) h
      obtain ⟨o, vs', rfl, g8⟩ := zrcv_spec (ne50 f3) g5
      have hy := (zhM_spec hm f2).1
      have hr1 := hCn _ _ _ _ _ _ g6
      have hr2 := hKn _ _ _ _ _ _ _ g7
      obtain ⟨l1, l2⟩ := hlim r'.2.2.2 hr2
      exact za_callV X E hAb hA hb hRf hRl hd f2 (ne50 f3) (by simpa using f4) f5 g1 g3 g8 hr1 l1 l2 hnn (hC _ _ _ _ _ _ hy g4 g6) (hK _ _ _ _ _ _ g7)
    · simp only [Bool.and_eq_true] at hf
      obtain ⟨⟨⟨f1, f2⟩, f3⟩, f4⟩ := hf
      obtain rfl := Nat.eq_of_beq_eq_true f1
      obtain ⟨o, st', rfl, h⟩ := za_some h
      obtain ⟨h1, h⟩ := zc_some h
      obtain ⟨h2, h⟩ := zc_some h
      obtain ⟨l1, l2⟩ := hlim n (hKn _ _ _ _ _ _ r h)
      exact za_slen X E hAb hb hd f2 (Nat.le_of_ble_eq_true h1) (Nat.le_trans (Nat.le_of_ble_eq_true f3) hRf) (Nat.le_trans (Nat.le_of_ble_eq_true f4) hRl) l1 l2 h2 (hK _ _ _ _ _ _ h)
    · simp only [Bool.and_eq_true] at hf
      obtain ⟨⟨⟨f1, f2⟩, f3⟩, f4⟩ := hf
      obtain rfl := Nat.eq_of_beq_eq_true f1
      obtain ⟨o, y, st', rfl, h⟩ := zia_some h
      obtain ⟨h1, h⟩ := zc_some h
      obtain ⟨h2, h⟩ := zc_some h
      rw [Bool.and_eq_true] at h2
      obtain ⟨l1, l2⟩ := hlim n (hKn _ _ _ _ _ _ r h)
      exact za_char X E hAb hb hd f2 (Nat.le_of_ble_eq_true h1) (Nat.le_trans (Nat.le_of_ble_eq_true f3) hRf) (Nat.le_trans (Nat.le_of_ble_eq_true f4) hRl) l1 l2 h2.1 h2.2 (hK _ _ _ _ _ _ h)
  case invokestatic x =>
    obtain ⟨rfl, hd⟩ := key rfl
    have hf : ((Nat.blt b 3 && zhM (z_own m) x a && Nat.beq (z_oc a) 50 && zroom m a) || ((Nat.beq b 10 || Nat.beq b 11 || Nat.beq b 12) && zhP (z_own m) x b && Nat.ble 1 (z_fr m) && Nat.ble 22 (z_lo m)) || (Nat.beq b 14 && zhP (z_own m) x 14 && Nat.ble 1 (z_fr m) && Nat.ble 60 (z_lo m))) = true := hf
    rw [Bool.or_eq_true, Bool.or_eq_true] at hf
    rcases hf with (hf | hf) | hf
    · simp only [Bool.and_eq_true] at hf
      obtain ⟨⟨⟨f1, f2⟩, f3⟩, f5⟩ := hf
      obtain ⟨vs, st', r', g1, rfl, g3, g4, g5, g6, g7⟩ := zcall_inv (Nat.le_of_ble_eq_true f1) h
      have hy := (zhM_spec hm f2).1
      have hr1 := hCn _ _ _ _ _ _ g6
      have hr2 := hKn _ _ _ _ _ _ _ g7
      obtain ⟨l1, l2⟩ := hlim r'.2.2.2 hr2
      exact za_callS X E hAb hA hb hRf hRl hd f2 (Nat.eq_of_beq_eq_true f3) f5 g1 g3 hr1 l1 l2 hnn (hC _ _ _ _ _ _ hy g4 g6) (hK _ _ _ _ _ _ g7)
    · simp only [Bool.and_eq_true, Bool.or_eq_true] at hf
      obtain ⟨⟨⟨f1, f2⟩, f3⟩, f4⟩ := hf
      have g1 := Nat.le_trans (Nat.le_of_ble_eq_true f3) hRf
      have g2 := Nat.le_trans (Nat.le_of_ble_eq_true f4) hRl
      rcases f1 with (f1 | f1) | f1
      · obtain rfl := Nat.eq_of_beq_eq_true f1
        obtain ⟨w, w2, st', rfl, h⟩ := zii_some h
        obtain ⟨h1, h⟩ := zc_some h
        obtain ⟨l1, l2⟩ := hlim n (hKn _ _ _ _ _ _ r h)
        exact za_max X hd f2 (Nat.le_of_ble_eq_true h1) g1 g2 l1 l2 (hK _ _ _ _ _ _ h)
      · obtain rfl := Nat.eq_of_beq_eq_true f1
        obtain ⟨w, w2, st', rfl, h⟩ := zii_some h
        obtain ⟨h1, h⟩ := zc_some h
        obtain ⟨l1, l2⟩ := hlim n (hKn _ _ _ _ _ _ r h)
        exact za_min X hd f2 (Nat.le_of_ble_eq_true h1) g1 g2 l1 l2 (hK _ _ _ _ _ _ h)
      · obtain rfl := Nat.eq_of_beq_eq_true f1
        obtain ⟨w, st', rfl, h⟩ := zi_some h
        obtain ⟨h1, h⟩ := zc_some h
        obtain ⟨l1, l2⟩ := hlim n (hKn _ _ _ _ _ _ r h)
        exact za_abs X hd f2 (Nat.le_of_ble_eq_true h1) g1 g2 l1 l2 (hK _ _ _ _ _ _ h)
    · simp only [Bool.and_eq_true] at hf
      obtain ⟨⟨⟨f1, f2⟩, f3⟩, f4⟩ := hf
      obtain rfl := Nat.eq_of_beq_eq_true f1
      obtain ⟨dp, cn, st', rfl, h⟩ := zii_some h
      obtain ⟨d, st', rfl, h⟩ := za_some h
      obtain ⟨sp, st', rfl, h⟩ := zi_some h
      obtain ⟨q, st', rfl, h⟩ := za_some h
      obtain ⟨h1, h⟩ := zc_some h
      obtain ⟨h2, h⟩ := zc_some h
      obtain ⟨h3, h⟩ := zc_some h
      simp only [Bool.and_eq_true, Bool.not_eq_true', decide_eq_false_iff_not] at h2 h3
      exact za_copy X E hd f2 (Nat.le_of_ble_eq_true h1) (Nat.le_trans (Nat.le_of_ble_eq_true f3) hRf) (Nat.le_trans (Nat.le_of_ble_eq_true f4) hRl) h2.1.1 h2.1.2 h3.1.1.1.1 h3.1.1.1.2 h3.1.1.2 (Nat.le_of_ble_eq_true h3.1.2) (Nat.le_of_ble_eq_true h3.2) (hK _ _ _ _ _ _ h)
  case invokespecial x =>
    obtain ⟨rfl, hd⟩ := key rfl
    have hf : (Nat.beq b 99 || (Nat.beq b 0 && zhM (z_own m) x a && !(Nat.beq (z_oc a) 50) && z_in a && zroom m a) || (Nat.beq b 13 && zhP (z_own m) x 13 && Nat.ble 1 (z_fr m) && Nat.ble 22 (z_lo m))) = true := hf
    rw [Bool.or_eq_true, Bool.or_eq_true] at hf
    rcases hf with (hf | hf) | hf
    · obtain rfl := Nat.eq_of_beq_eq_true hf
      cases h
    · simp only [Bool.and_eq_true] at hf
      obtain ⟨⟨⟨⟨f1, f2⟩, f3⟩, f4⟩, f5⟩ := hf
      obtain rfl := Nat.eq_of_beq_eq_true f1
      obtain ⟨vs, st', r', g1, rfl, g3, g4, g5, g6, g7⟩ := zcall_inv (nx := pc + 3) (a := a) (b := 0) (K := K) (C := C) (ls := ls) (st := st) (I := I) (R := R) (n := n) (r := r) (by omega) h
      obtain ⟨o, vs', rfl, g8⟩ := zrcv_spec (ne50 f3) g5
      have hy := (zhM_spec hm f2).1
      have hr1 := hCn _ _ _ _ _ _ g6
      have hr2 := hKn _ _ _ _ _ _ _ g7
      obtain ⟨l1, l2⟩ := hlim r'.2.2.2 hr2
      exact za_callI X E hAb hA hb hRf hRl hd f2 (ne50 f3) f4 f5 g1 g3 hr1 l1 l2 hnn (hC _ _ _ _ _ _ hy g4 g6) (hK _ _ _ _ _ _ g7)
    · simp only [Bool.and_eq_true] at hf
      obtain ⟨⟨⟨f1, f2⟩, f3⟩, f4⟩ := hf
      obtain rfl := Nat.eq_of_beq_eq_true f1
      obtain ⟨o, st', rfl, h⟩ := za_some h
      obtain ⟨h1, h⟩ := zc_some h
      exact za_obj X hd f2 (Nat.le_of_ble_eq_true h1) (Nat.le_trans (Nat.le_of_ble_eq_true f3) hRf) (Nat.le_trans (Nat.le_of_ble_eq_true f4) hRl) (hK _ _ _ _ _ _ h)
  case ireturn =>
    obtain ⟨rfl, hd⟩ := key rfl
    obtain ⟨-, r1, r2, -⟩ := zrt_ok m hm
    rcases zri_inv h with ⟨hz, x, h8, h9⟩ | ⟨hz, x, h8, h1, h9⟩
    · subst h8 h9
      exact fun ad H locs la S => W.iret X.1 X.2.1 (X.2.2.1.trans (r1 hz)) (fun t ht _ => zfin (v := some (.int x)) S (fun w hw => by cases hw; exact zwv_int _ _) args t ht) S.2.2.1.2.2 hd X.2.2.2.2.2.2.1
    · subst h8 h9
      unfold zbool at h1
      simp only [Bool.or_eq_true, decide_eq_true_eq] at h1
      exact fun ad H locs la S => W.zret X.1 X.2.1 (X.2.2.1.trans (r2 hz)) (by rcases h1 with h1 | h1 <;> subst h1 <;> decide) (fun t ht _ => zfin (v := some (.int x)) S (fun w hw => by cases hw; exact zwv_int _ _) args t ht) S.2.2.1.2.2 hd X.2.2.2.2.2.2.1
  case areturn =>
    obtain ⟨rfl, hd⟩ := key rfl
    obtain ⟨-, -, -, r3⟩ := zrt_ok m hm
    obtain ⟨hz, x, h8, h9⟩ := zra_inv h
    subst h8 h9
    exact fun ad H locs la S => W.aret X.1 X.2.1 (X.2.2.1.trans (r3 hz)) (Or.inl ⟨_, rfl⟩) (Or.inr ⟨_, rfl⟩) (fun t ht _ => zfin (v := some (.ref x)) S (fun w hw => by cases hw; exact S.top) args t ht) S.2.2.1.2.2 hd X.2.2.2.2.2.2.1
  case return_ =>
    obtain ⟨rfl, hd⟩ := key rfl
    obtain ⟨r0, -⟩ := zrt_ok m hm
    obtain ⟨hz, h9⟩ := zrv_inv h
    subst h9
    exact fun ad H locs la S => zvret X.1 X.2.1 (X.2.2.1.trans (r0 hz)) (fun t ht _ => zfin (v := none) S (fun w hw => by cases hw) args t ht) S.2.2.1.2.2 hd X.2.2.2.2.2.2.1
  all_goals cases h
end ZStep
