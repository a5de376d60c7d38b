/-! THE CLAIM OUT OF ONE WALK OF THE LAW'S BODY. Your part is whole_start (and what it stands on); all else here is the same for every law, but numbers. -/
def R_law : String := "SalaryLidLaw"
def lw_P (b : Addr) (xs : List Int32) (args : Array Value) (s : State) : Prop := args = #[.ref b] ∧ s.IntsAt b xs ∧ xs.length ≤ 3072 ∧ (Jvm.Cond.and given_1 narrow_1).before args s = true
def lw_Q (_ : Array Value) (s : State) (o : Outcome) (t : State) : Prop := o = .returned (some (.int 1)) ∧ Framed s o t [] 601024 7293034
def lw_Z (below : List Frame) (a : Array Value) (s : State) : State → Prop := fun t => ∃ o, t.status = .running ∧ Ended t below o ∧ lw_Q a s o t
/-- the law's own end, with 1 on the stack, nothing written that was there before, its room as the claim has it -/
theorem lw_ret {p : Program} {l : Launch} {e : Env} {s : State} {m : MethodId} {below : List Frame} {meth : Method} {c : Code} {b : Nat} (hx : p.tables.exec = Jvm.exec) (hb : c.code = code) (hr : meth.sig.returnType = ret) (hlocks : meth.locks = false) {pc : Nat} {H : Heap} {ls : Array Slot} (hdg : decode code pc = .ok (.ireturn, 1)) : W p l e room_1 s m #[Value.ref b] below meth c H [] 601024 7293034 (lw_Z below #[Value.ref b] s) (F0 m pc ls [.int 1]) := by
  intro T hT X
  obtain ⟨fs, hret, hrun, hended, hW, hframe⟩ := X.leave (v := some (.int 1)) (hlocks := hlocks) (fun h => by rw [hr] at h; cases h)
  have hmeth' : T.vm.method? m = some meth := X.method'
  refine ⟨T.setFrames fs, ?_, .returned (some (.int 1)), hrun, hended, rfl, ⟨_, rfl⟩, hW, hframe⟩
  jvm_step X.here [X.here.top, hx, hb, hdg, hmeth', hr, ret, narrow_b1]
  (try refine ⟨rfl, ?_⟩); (try refine ⟨rfl, ?_⟩)
  first | (intro acts; rw [hret _ acts rfl rfl rfl]) | rw [hret _ _ rfl rfl rfl]
  exact Steps.refl _
/-- what holds at the law's entry: the machine, the code, the tables' words (any of lw_tbl by 'hts w (by decide +kernel)'), the script of L ints xs at the cell b, what the Statement gives of the start (any of its parts by flat_of_before) -/
def lw_At (p : Program) (s : State) (m : MethodId) (meth : Method) (c : Code) (b L : Nat) (xs : Nat → Int32) : Prop :=
  p.tables.exec = Jvm.exec ∧ c.code = code ∧ meth.sig.returnType = ret ∧ c.maxLocals = 7 ∧ s.vm.findClass R_law = some m.cls ∧ (∀ w ∈ lw_tbl, w.before #[Value.ref b] s = true) ∧ va_X b L xs s s.heap ∧ b < s.heap.size ∧ meth.locks = false ∧ (Jvm.Cond.and given_1 narrow_1).before #[Value.ref b] s = true
theorem ze_d : (decode code 0 = .ok (.new 8, 3) ∧ decode code 3 = .ok (.dup, 1) ∧ decode code 4 = .ok (.invokespecial 15, 3) ∧ decode code 7 = .ok (.astore_n 1, 1) ∧ decode code 8 = .ok (.new 16, 3) ∧ decode code 11 = .ok (.dup, 1) ∧ decode code 12 = .ok (.invokespecial 18, 3) ∧ decode code 15 = .ok (.astore_n 2, 1)) ∧ (decode code 16 = .ok (.iconst 1, 1) ∧ decode code 17 = .ok (.newarray .long, 2) ∧ decode code 19 = .ok (.astore_n 3, 1) ∧ decode code 20 = .ok (.iconst 0, 1) ∧ decode code 21 = .ok (.istore 4, 2) ∧ decode code 1562 = .ok (.iconst 1, 1) ∧ decode code 1563 = .ok (.ireturn, 1)) := ⟨⟨by decide +kernel, by decide +kernel, by decide +kernel, by decide +kernel, by decide +kernel, by decide +kernel, by decide +kernel, by decide +kernel⟩, ⟨by decide +kernel, by decide +kernel, by decide +kernel, by decide +kernel, by decide +kernel, by decide +kernel, by decide +kernel⟩⟩
theorem ze_w : lw_tbl[146]? = some (.classLink RL 8 (z_cn 8)) ∧ lw_tbl[1356]? = some (.classLink RL 16 (z_cn 9)) ∧ lw_tbl[148]? = some (.methodLink RL 15 (z_y 110)) ∧ lw_tbl[1358]? = some (.methodLink RL 18 (z_y 165)) := by decide +kernel
theorem ze_n : (z_kd 0 = 8 ∧ z_kd 195 = 9 ∧ zs 0 = 0 ∧ zs 281 = 39427) ∧ (z_oc 110 ≠ 50 ∧ z_in 110 = true ∧ z_fr 110 = 3 ∧ z_lo 110 = 63 ∧ z_ml 110 = 1 ∧ z_np 110 = 1) ∧ (z_oc 165 ≠ 50 ∧ z_in 165 = true ∧ z_fr 165 = 1 ∧ z_lo 165 = 22 ∧ z_ml 165 = 1 ∧ z_np 165 = 1) := by decide +kernel
theorem ze_s : ∀ k, k < 6 → z_sv 0 k = nI (zrDg k) ∧ z_sv 1 k = nI (zrLo k) ∧ z_sv 2 k = nI (zrHi k) := by decide +kernel
def ze_I : ZI := fun a i => if a < 1010 then 0 else z_sv (a - 1010) i
def ze_R : ZR := fun _ _ => none
theorem ze_pure : zpure ze_I ze_R 0 := by
  refine ⟨fun a i b h => (by cases h), fun j i hj hi => ?_, by omega⟩
  show (if 1010 + j < 1010 then 0 else z_sv (1010 + j - 1010) i) = z_sv j i
  rw [if_neg (by omega), show 1010 + j - 1010 = j by omega]
theorem ze_stt : zStt ze_I := fun k hk => ze_s k hk
theorem ze_st {l : Launch} (h : l.flags = flags0) : l.stackTraces = false := by
  unfold Launch.stackTraces
  rw [h]
  decide +kernel
/-- from the entry, for every script of at most 3072 ints, the law comes to its end with true -/
theorem whole_start {p : Program} {e : Env} {s : State} {m : MethodId} {below : List Frame} {meth : Method} {c : Code} (l : Launch) (hflags : l.flags = flags0) {b L : Nat} {xs : Nat → Int32} (hL : L ≤ 3072) (C0 : lw_At p s m meth c b L xs) : W p l e room_1 s m #[Value.ref b] below meth c s.heap [] 0 0 (lw_Z below #[Value.ref b] s) (entryFrame m ([Value.ref b] : List Value).toArray 7) := by
  obtain ⟨hx, hb, hr, hml, hown, hts, hX, hbl, hlocks, hgv⟩ := C0
  obtain ⟨⟨d0, d3, d4, d7, d8, d11, d12, d15⟩, d16, d17, d19, d20, d21, d62, d63⟩ := ze_d
  obtain ⟨⟨kd0, kd195, zs0, zs281⟩, ⟨a1, a2, a3, a4, a5, a6⟩, b1, b2, b3, b4, b5, b6⟩ := ze_n
  have hown : s.vm.findClass RL = some m.cls := hown
  have hf : ∀ w ∈ zfl, w.before #[Value.ref b] s = true := flat_of_before _ hgv
  obtain ⟨D, tc, ad0, E⟩ := zl_env hts hf
  have hXe := zl_xe hts hf
  obtain ⟨I1, R1, I2, R2, r1, r2, inv⟩ := zstart (R0 := ze_R) ze_stt
  have hl := lv_entry ([.ref b]) (n := 7) (Nat.le_of_ble_eq_true rfl)
  rw [lg_entry_eq]
  generalize (lg_sl ([.ref b]) ++ List.replicate (7 - (lg_sl ([.ref b])).length) Slot.unset).toArray = ls at hl ⊢
  have hl : lv_has ls 7 [(0, .ref b)] := hl
  have hw0 : zwl tc ad0 ze_I ze_R 0 = [] := rfl
  have hP0 : va_P D vwCl (zwl tc ad0 ze_I ze_R 0) s.heap := fun k q h => by rw [hw0] at h; cases h
  have hD0 : va_D (zB0 s.heap.size) (zwl tc ad0 ze_I ze_R 0) := ⟨fun i j p q h => (by rw [hw0] at h; cases h), fun k q h => (by rw [hw0] at h; cases h)⟩
  have z1 := zs_le (show 1 ≤ 281 by decide)
  have z195 := zs_le (show 195 ≤ 281 by decide)
  have z196 := zs_le (show 196 ≤ 281 by decide)
  have z218 := zs_le (show 218 ≤ 281 by decide)
  have rc : room_1.cells = 601024 := rfl
  have rs : room_1.slots = 7293034 := rfl
  have rf : room_1.frames = 13 := rfl
  have rl : room_1.locals = 470 := rfl
  have hstart : W p l e room_1 s m #[Value.ref b] below meth c s.heap [] 0 (zs 0) (lw_Z below #[Value.ref b] s) (F0 m 0 ls []) := by
    refine zl_new hx hb hown hts E (by decide) (List.mem_of_getElem? ze_w.1) kd0 (by decide) (by rw [rc]; decide) (by rw [rs]; show zs 1 ≤ _; omega) hP0 hD0 va_S.rf ze_pure d0 (fun ad1 H1 g1 hP1 hD1 hS1 hu1 => ?_)
    refine lv_dup hx hb d3 rfl ?_
    refine zl_callI (r := (none, I1, R1, 195)) hx hb hml hown hts E (List.mem_of_getElem? ze_w.2.2.1) (by decide) a1 a2 (by rw [a3, rf]; decide) (by rw [a4, a5, rl]; decide) a6 (by rw [a5]; decide) (show 0 < 0 + 1 by decide) (by rw [rc]; show 195 ≤ 601024; decide) (by rw [rs]; show zs 195 ≤ _; omega) (by rw [a5]; exact r1) hP1 hD1 hS1 hu1 (fun k hk => g1 k (by omega)) hl.1 (by show 1 + 0 ≤ 8; decide) d4 (fun ad2 H2 locs2 g2 hP2 hD2 hS2 hu2 => ?_)
    refine lv_astore_n (lv' := [(1, .ref (ad1 0)), (0, .ref b)]) hx hb d7 rfl hl (by decide) rfl (fun ls1 hl1 => ?_)
    refine zl_new hx hb hown hts E (by decide) (List.mem_of_getElem? ze_w.2.1) kd195 (by decide) (by rw [rc]; decide) (by rw [rs]; show zs 196 ≤ _; omega) hP2 hD2 hS2 hu2 d8 (fun ad3 H3 g3 hP3 hD3 hS3 hu3 => ?_)
    refine lv_dup hx hb d11 rfl ?_
    have hag3 : zag 0 ad0 ad3 := fun k hk => ((g3 k (by omega)).trans (g2 k (by omega))).trans (g1 k (by omega))
    refine zl_callI (r := (none, I2, R2, 218)) hx hb hml hown hts E (List.mem_of_getElem? ze_w.2.2.2) (by decide) b1 b2 (by rw [b3, rf]; decide) (by rw [b4, b5, rl]; decide) b6 (by rw [b5]; decide) (show 195 < 195 + 1 by decide) (by rw [rc]; show 218 ≤ 601024; decide) (by rw [rs]; show zs 218 ≤ _; omega) (by rw [b5]; exact r2) hP3 hD3 hS3 hu3 hag3 hl1.1 (by show 1 + 0 ≤ 8; decide) d12 (fun ad4 H4 locs4 g4 hP4 hD4 hS4 hu4 => ?_)
    refine lv_astore_n (lv' := [(2, .ref (ad3 195)), (1, .ref (ad1 0)), (0, .ref b)]) hx hb d15 rfl hl1 (by decide) rfl (fun ls2 hl2 => ?_)
    refine lv_iconst (v := 1) hx hb d16 (by decide) ?_
    refine va_newaK (atype := .long) (N := 1) (h := H4.size) hx hb (hts _ (List.mem_of_getElem? zf_7.1.2.2)) rfl d17 rfl (by decide) (by decide) (by decide) (by rw [rc]; show 218 + 1 ≤ 601024; decide) (by rw [rs]; show zs 218 + 1 ≤ _; omega) rfl (fun H5 cL e5 z5 o5 hAr hNm => ?_)
    refine lv_astore_n (lv' := [(3, .ref H4.size), (2, .ref (ad3 195)), (1, .ref (ad1 0)), (0, .ref b)]) hx hb d19 rfl hl2 (by decide) rfl (fun ls3 hl3 => ?_)
    refine lv_iconst (v := 0) hx hb d20 (by decide) ?_
    refine lv_istore (lv' := [(4, .int 0), (3, .ref H4.size), (2, .ref (ad3 195)), (1, .ref (ad1 0)), (0, .ref b)]) hx hb d21 hl3 (by decide) rfl (fun ls4 hl4 => ?_)
    have e0 : ad4 0 = ad1 0 := ((g4 0 (by omega)).trans (g3 0 (by omega))).trans (g2 0 (by omega))
    have e195 : ad4 195 = ad3 195 := g4 195 (by omega)
    have hlt : ∀ a, a < 218 → ad4 a < H4.size := fun a ha => (hP4 a _ (zwl_get ha)).lt
    have hw : zLw D tc s ad0 H4.size (zOo H4.size cL) I2 R2 218 ad4 H5 locs4 := by
      refine ⟨hP4.kept (fun k q hk => o5 q.1 ((hP4 k q hk).lt)), hD4, ⟨Nat.le_trans hS4.1 (by omega), fun q h1 h2 => (o5 q (Nat.lt_of_lt_of_le h1 hS4.1)).trans (hS4.2.1 q h1 h2), hS4.2.2⟩, hu4, fun k hk => (g4 k (by omega)).trans (hag3 k hk), by omega, ⟨fun _ => 0, e5⟩, fun a ha q => ?_⟩
      have := hlt a ha
      omega
    have C : zLc p room_1 s m #[Value.ref b] c D tc ad0 b L H4.size xs (zOo H4.size cL) (1 + 600) (1 + 3600) := ⟨⟨hx, hb, hml, hown, hts⟩, E, zOo_fr, ⟨hX, hbl, hL⟩, by rw [rf]; decide, by rw [rl]; decide, by rw [rc]; decide, by rw [rs, zs281]; decide⟩
    refine zl_loop (ec := 1) (es := 1) C (ze_st hflags) hXe hAr hS4.1 (fun q I R n ad H locs la hq h hw => ?_) 600 0 I2 R2 218 ad4 H5 locs4 ls4 (by decide) (by omega) inv hw (by unfold zLl; rw [e0, e195]; exact hl4)
    have hn := (zInv_n h).2
    have hz := zs_le hn
    refine W.widen (k := 601024) (n := 7293034) (by omega) (by omega) ?_
    refine va_forget hw.2.2.1.2.2 ?_
    refine lv_iconst (v := 1) hx hb d62 (by decide) ?_
    exact lw_ret hx hb hr hlocks d63
  rw [zs0] at hstart
  exact hstart
