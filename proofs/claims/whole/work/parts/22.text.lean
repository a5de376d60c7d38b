set_option maxRecDepth 100000 in
theorem dJ0_length_8abf5_0 : decode cJ0_length_8abf5 0 = .ok (.aload_n 0, 1) := by decide +kernel
set_option maxRecDepth 100000 in
theorem dJ0_length_8abf5_1 : decode cJ0_length_8abf5 1 = .ok (.getfield 9, 3) := by decide +kernel
set_option maxRecDepth 100000 in
theorem dJ0_length_8abf5_4 : decode cJ0_length_8abf5 4 = .ok (.arraylength, 1) := by decide +kernel
set_option maxRecDepth 100000 in
theorem dJ0_length_8abf5_5 : decode cJ0_length_8abf5 5 = .ok (.aload_n 0, 1) := by decide +kernel
set_option maxRecDepth 100000 in
theorem dJ0_length_8abf5_6 : decode cJ0_length_8abf5 6 = .ok (.invokevirtual 335, 3) := by decide +kernel
set_option maxRecDepth 100000 in
theorem dJ0_length_8abf5_9 : decode cJ0_length_8abf5 9 = .ok (.ishr, 1) := by decide +kernel
set_option maxRecDepth 100000 in
theorem dJ0_length_8abf5_10 : decode cJ0_length_8abf5 10 = .ok (.ireturn, 1) := by decide +kernel
set_option maxRecDepth 100000 in
theorem dJ0_charAt_5068e_0 : decode cJ0_charAt_5068e 0 = .ok (.aload_n 0, 1) := by decide +kernel
set_option maxRecDepth 100000 in
theorem dJ0_charAt_5068e_1 : decode cJ0_charAt_5068e 1 = .ok (.invokevirtual 492, 3) := by decide +kernel
set_option maxRecDepth 100000 in
theorem dJ0_charAt_5068e_4 : decode cJ0_charAt_5068e 4 = .ok (.ifCond .eq 12, 3) := by decide +kernel
set_option maxRecDepth 100000 in
theorem dJ0_charAt_5068e_7 : decode cJ0_charAt_5068e 7 = .ok (.aload_n 0, 1) := by decide +kernel
set_option maxRecDepth 100000 in
theorem dJ0_charAt_5068e_8 : decode cJ0_charAt_5068e 8 = .ok (.getfield 9, 3) := by decide +kernel
set_option maxRecDepth 100000 in
theorem dJ0_charAt_5068e_11 : decode cJ0_charAt_5068e 11 = .ok (.iload_n 1, 1) := by decide +kernel
set_option maxRecDepth 100000 in
theorem dJ0_charAt_5068e_12 : decode cJ0_charAt_5068e 12 = .ok (.invokestatic 495, 3) := by decide +kernel
set_option maxRecDepth 100000 in
theorem dJ0_charAt_5068e_15 : decode cJ0_charAt_5068e 15 = .ok (.ireturn, 1) := by decide +kernel
set_option maxRecDepth 100000 in
theorem dJ0_charAt_5068e_16 : decode cJ0_charAt_5068e 16 = .ok (.aload_n 0, 1) := by decide +kernel
set_option maxRecDepth 100000 in
theorem dJ0_charAt_5068e_17 : decode cJ0_charAt_5068e 17 = .ok (.getfield 9, 3) := by decide +kernel
set_option maxRecDepth 100000 in
theorem dJ0_charAt_5068e_20 : decode cJ0_charAt_5068e 20 = .ok (.iload_n 1, 1) := by decide +kernel
set_option maxRecDepth 100000 in
theorem dJ0_charAt_5068e_21 : decode cJ0_charAt_5068e 21 = .ok (.invokestatic 498, 3) := by decide +kernel
set_option maxRecDepth 100000 in
theorem dJ0_charAt_5068e_24 : decode cJ0_charAt_5068e 24 = .ok (.ireturn, 1) := by decide +kernel
set_option maxRecDepth 100000 in
theorem dJ0_coder_7d493_0 : decode cJ0_coder_7d493 0 = .ok (.getstatic 38, 3) := by decide +kernel
set_option maxRecDepth 100000 in
theorem dJ0_coder_7d493_3 : decode cJ0_coder_7d493 3 = .ok (.ifCond .eq 10, 3) := by decide +kernel
set_option maxRecDepth 100000 in
theorem dJ0_coder_7d493_6 : decode cJ0_coder_7d493 6 = .ok (.aload_n 0, 1) := by decide +kernel
set_option maxRecDepth 100000 in
theorem dJ0_coder_7d493_7 : decode cJ0_coder_7d493 7 = .ok (.getfield 15, 3) := by decide +kernel
set_option maxRecDepth 100000 in
theorem dJ0_coder_7d493_10 : decode cJ0_coder_7d493 10 = .ok (.goto 4, 3) := by decide +kernel
set_option maxRecDepth 100000 in
theorem dJ0_coder_7d493_13 : decode cJ0_coder_7d493 13 = .ok (.iconst 1, 1) := by decide +kernel
set_option maxRecDepth 100000 in
theorem dJ0_coder_7d493_14 : decode cJ0_coder_7d493 14 = .ok (.ireturn, 1) := by decide +kernel
set_option maxRecDepth 100000 in
theorem dJ0_isLatin1_aae02_0 : decode cJ0_isLatin1_aae02 0 = .ok (.getstatic 38, 3) := by decide +kernel
set_option maxRecDepth 100000 in
theorem dJ0_isLatin1_aae02_3 : decode cJ0_isLatin1_aae02 3 = .ok (.ifCond .eq 14, 3) := by decide +kernel
set_option maxRecDepth 100000 in
theorem dJ0_isLatin1_aae02_6 : decode cJ0_isLatin1_aae02 6 = .ok (.aload_n 0, 1) := by decide +kernel
set_option maxRecDepth 100000 in
theorem dJ0_isLatin1_aae02_7 : decode cJ0_isLatin1_aae02 7 = .ok (.getfield 15, 3) := by decide +kernel
set_option maxRecDepth 100000 in
theorem dJ0_isLatin1_aae02_10 : decode cJ0_isLatin1_aae02 10 = .ok (.ifCond .ne 7, 3) := by decide +kernel
set_option maxRecDepth 100000 in
theorem dJ0_isLatin1_aae02_13 : decode cJ0_isLatin1_aae02 13 = .ok (.iconst 1, 1) := by decide +kernel
set_option maxRecDepth 100000 in
theorem dJ0_isLatin1_aae02_14 : decode cJ0_isLatin1_aae02 14 = .ok (.goto 4, 3) := by decide +kernel
set_option maxRecDepth 100000 in
theorem dJ0_isLatin1_aae02_17 : decode cJ0_isLatin1_aae02 17 = .ok (.iconst 0, 1) := by decide +kernel
set_option maxRecDepth 100000 in
theorem dJ0_isLatin1_aae02_18 : decode cJ0_isLatin1_aae02 18 = .ok (.ireturn, 1) := by decide +kernel
set_option maxRecDepth 100000 in
theorem dJ0_checkIndex_df160_0 : decode cJ0_checkIndex_df160 0 = .ok (.iload_n 0, 1) := by decide +kernel
set_option maxRecDepth 100000 in
theorem dJ0_checkIndex_df160_1 : decode cJ0_checkIndex_df160 1 = .ok (.iload_n 1, 1) := by decide +kernel
set_option maxRecDepth 100000 in
theorem dJ0_checkIndex_df160_2 : decode cJ0_checkIndex_df160 2 = .ok (.getstatic 1053, 3) := by decide +kernel
set_option maxRecDepth 100000 in
theorem dJ0_checkIndex_df160_5 : decode cJ0_checkIndex_df160 5 = .ok (.invokestatic 1059, 3) := by decide +kernel
set_option maxRecDepth 100000 in
theorem dJ0_checkIndex_df160_8 : decode cJ0_checkIndex_df160 8 = .ok (.pop, 1) := by decide +kernel
set_option maxRecDepth 100000 in
theorem dJ0_checkIndex_df160_9 : decode cJ0_checkIndex_df160 9 = .ok (.return_, 1) := by decide +kernel
set_option maxRecDepth 100000 in
theorem dJ1_charAt_3b067_0 : decode cJ1_charAt_3b067 0 = .ok (.iload_n 1, 1) := by decide +kernel
set_option maxRecDepth 100000 in
theorem dJ1_charAt_3b067_1 : decode cJ1_charAt_3b067 1 = .ok (.aload_n 0, 1) := by decide +kernel
set_option maxRecDepth 100000 in
theorem dJ1_charAt_3b067_2 : decode cJ1_charAt_3b067 2 = .ok (.arraylength, 1) := by decide +kernel
set_option maxRecDepth 100000 in
theorem dJ1_charAt_3b067_3 : decode cJ1_charAt_3b067 3 = .ok (.invokestatic 9, 3) := by decide +kernel
set_option maxRecDepth 100000 in
theorem dJ1_charAt_3b067_6 : decode cJ1_charAt_3b067 6 = .ok (.aload_n 0, 1) := by decide +kernel
set_option maxRecDepth 100000 in
theorem dJ1_charAt_3b067_7 : decode cJ1_charAt_3b067 7 = .ok (.iload_n 1, 1) := by decide +kernel
set_option maxRecDepth 100000 in
theorem dJ1_charAt_3b067_8 : decode cJ1_charAt_3b067 8 = .ok (.baload, 1) := by decide +kernel
set_option maxRecDepth 100000 in
theorem dJ1_charAt_3b067_9 : decode cJ1_charAt_3b067 9 = .ok (.sipush 255, 3) := by decide +kernel
set_option maxRecDepth 100000 in
theorem dJ1_charAt_3b067_12 : decode cJ1_charAt_3b067 12 = .ok (.iand, 1) := by decide +kernel
set_option maxRecDepth 100000 in
theorem dJ1_charAt_3b067_13 : decode cJ1_charAt_3b067 13 = .ok (.i2c, 1) := by decide +kernel
set_option maxRecDepth 100000 in
theorem dJ1_charAt_3b067_14 : decode cJ1_charAt_3b067 14 = .ok (.ireturn, 1) := by decide +kernel
set_option maxRecDepth 100000 in
theorem dJ3_checkIndex_8e157_0 : decode cJ3_checkIndex_8e157 0 = .ok (.iload_n 0, 1) := by decide +kernel
set_option maxRecDepth 100000 in
theorem dJ3_checkIndex_8e157_1 : decode cJ3_checkIndex_8e157 1 = .ok (.ifCond .lt 8, 3) := by decide +kernel
set_option maxRecDepth 100000 in
theorem dJ3_checkIndex_8e157_4 : decode cJ3_checkIndex_8e157 4 = .ok (.iload_n 0, 1) := by decide +kernel
set_option maxRecDepth 100000 in
theorem dJ3_checkIndex_8e157_5 : decode cJ3_checkIndex_8e157 5 = .ok (.iload_n 1, 1) := by decide +kernel
set_option maxRecDepth 100000 in
theorem dJ3_checkIndex_8e157_6 : decode cJ3_checkIndex_8e157 6 = .ok (.if_icmp .lt 10, 3) := by decide +kernel
set_option maxRecDepth 100000 in
theorem dJ3_checkIndex_8e157_9 : decode cJ3_checkIndex_8e157 9 = .ok (.aload_n 2, 1) := by decide +kernel
set_option maxRecDepth 100000 in
theorem dJ3_checkIndex_8e157_10 : decode cJ3_checkIndex_8e157 10 = .ok (.iload_n 0, 1) := by decide +kernel
set_option maxRecDepth 100000 in
theorem dJ3_checkIndex_8e157_11 : decode cJ3_checkIndex_8e157 11 = .ok (.iload_n 1, 1) := by decide +kernel
set_option maxRecDepth 100000 in
theorem dJ3_checkIndex_8e157_12 : decode cJ3_checkIndex_8e157 12 = .ok (.invokestatic 95, 3) := by decide +kernel
set_option maxRecDepth 100000 in
theorem dJ3_checkIndex_8e157_15 : decode cJ3_checkIndex_8e157 15 = .ok (.athrow, 1) := by decide +kernel
set_option maxRecDepth 100000 in
theorem dJ3_checkIndex_8e157_16 : decode cJ3_checkIndex_8e157 16 = .ok (.iload_n 0, 1) := by decide +kernel
set_option maxRecDepth 100000 in
theorem dJ3_checkIndex_8e157_17 : decode cJ3_checkIndex_8e157 17 = .ok (.ireturn, 1) := by decide +kernel
set_option maxRecDepth 100000 in
theorem zj_f38 : lw_tbl[616]? = some (.fieldLink RJ0 38 RJ0 "COMPACT_STRINGS" "Z") := by decide +kernel
set_option maxRecDepth 100000 in
theorem zj_f15 : lw_tbl[1965]? = some (.fieldLink RJ0 15 "java/lang/String" "coder" "B") := by decide +kernel
set_option maxRecDepth 100000 in
theorem zj_f9 : lw_tbl[1964]? = some (.fieldLink RJ0 9 "java/lang/String" "value" "[B") := by decide +kernel
set_option maxRecDepth 100000 in
theorem zj_f1053 : lw_tbl[632]? = some (.fieldLink RJ0 1053 RJ3 "SIOOBE_FORMATTER" "Ljava/util/function/BiFunction;") := by decide +kernel
set_option maxRecDepth 100000 in
theorem zj_m335 : lw_tbl[612]? = some (.methodLink RJ0 335 yJ0_coder_7d493) := by decide +kernel
set_option maxRecDepth 100000 in
theorem zj_m492 : lw_tbl[622]? = some (.methodLink RJ0 492 yJ0_isLatin1_aae02) := by decide +kernel
set_option maxRecDepth 100000 in
theorem zj_m495 : lw_tbl[626]? = some (.methodLink RJ0 495 yJ1_charAt_3b067) := by decide +kernel
set_option maxRecDepth 100000 in
theorem zj_m9 : lw_tbl[629]? = some (.methodLink RJ1 9 yJ0_checkIndex_df160) := by decide +kernel
set_option maxRecDepth 100000 in
theorem zj_m1059 : lw_tbl[634]? = some (.methodLink RJ0 1059 yJ3_checkIndex_8e157) := by decide +kernel
set_option maxRecDepth 100000 in
theorem zj_i0 : lw_tbl[134]? = some (.initialized RJ0) := by decide +kernel
set_option maxRecDepth 100000 in
theorem zj_i1 : lw_tbl[135]? = some (.initialized RJ1) := by decide +kernel
set_option maxRecDepth 100000 in
theorem zj_i3 : lw_tbl[136]? = some (.initialized RJ3) := by decide +kernel
set_option maxRecDepth 100000 in
theorem zj_s1 : lw_tbl[627]? = some (.static yJ1_charAt_3b067) := by decide +kernel
set_option maxRecDepth 100000 in
theorem zj_s0 : lw_tbl[630]? = some (.static yJ0_checkIndex_df160) := by decide +kernel
set_option maxRecDepth 100000 in
theorem zj_s3 : lw_tbl[635]? = some (.static yJ3_checkIndex_8e157) := by decide +kernel
set_option maxRecDepth 100000 in
theorem zj_nL : lw_tbl[623]? = some (.instanceMethod yJ0_isLatin1_aae02) := by decide +kernel
set_option maxRecDepth 100000 in
theorem zj_eL : lw_tbl[624]? = some (.selects RJ0 yJ0_isLatin1_aae02 yJ0_isLatin1_aae02) := by decide +kernel
set_option maxRecDepth 100000 in
theorem zj_nC : lw_tbl[613]? = some (.instanceMethod yJ0_coder_7d493) := by decide +kernel
set_option maxRecDepth 100000 in
theorem zj_eC : lw_tbl[614]? = some (.selects RJ0 yJ0_coder_7d493 yJ0_coder_7d493) := by decide +kernel
set_option maxRecDepth 100000 in
theorem zj_nA : lw_tbl[619]? = some (.instanceMethod yJ0_charAt_5068e) := by decide +kernel
set_option maxRecDepth 100000 in
theorem zj_eA : lw_tbl[620]? = some (.selects RJ0 yJ0_charAt_5068e yJ0_charAt_5068e) := by decide +kernel
set_option maxRecDepth 100000 in
theorem zj_nN : lw_tbl[609]? = some (.instanceMethod yJ0_length_8abf5) := by decide +kernel
set_option maxRecDepth 100000 in
theorem zj_eN : lw_tbl[610]? = some (.selects RJ0 yJ0_length_8abf5 yJ0_length_8abf5) := by decide +kernel
set_option maxRecDepth 100000 in
theorem zj_cL : lw_tbl[625]? = some (.code yJ0_isLatin1_aae02 cJ0_isLatin1_aae02 1 (some .boolean)) := rfl
set_option maxRecDepth 100000 in
theorem zj_cC : lw_tbl[615]? = some (.code yJ0_coder_7d493 cJ0_coder_7d493 1 (some .byte)) := rfl
set_option maxRecDepth 100000 in
theorem zj_cA : lw_tbl[621]? = some (.code yJ0_charAt_5068e cJ0_charAt_5068e 2 (some .char)) := rfl
set_option maxRecDepth 100000 in
theorem zj_cN : lw_tbl[611]? = some (.code yJ0_length_8abf5 cJ0_length_8abf5 1 (some .int)) := rfl
set_option maxRecDepth 100000 in
theorem zj_c1 : lw_tbl[628]? = some (.code yJ1_charAt_3b067 cJ1_charAt_3b067 2 (some .char)) := rfl
set_option maxRecDepth 100000 in
theorem zj_c0 : lw_tbl[631]? = some (.code yJ0_checkIndex_df160 cJ0_checkIndex_df160 2 none) := rfl
set_option maxRecDepth 100000 in
theorem zj_c3 : lw_tbl[636]? = some (.code yJ3_checkIndex_8e157 cJ3_checkIndex_8e157 3 (some .int)) := rfl
/-! ===== String's length and charAt, of the constants ===== -/
def zJW (y : MethodName) (bytes : ByteArray) (maxL : Nat) (ret : Option FieldType) : List Cond := Cond.code y bytes maxL ret :: z_ws
theorem zJW_at {y : MethodName} {bytes : ByteArray} {maxL : Nat} {ret : Option FieldType} {w : Cond} {i : Nat} (h : lw_tbl[i]? = some w) (hg : goodWord w = true) : w ∈ zJW y bytes maxL ret := List.mem_cons_of_mem _ (z_ws_at h hg)
theorem zJW_good {big : List Cond} (hbig : ∀ w ∈ z_ws, w ∈ big) {y : MethodName} {bytes : ByteArray} {maxL : Nat} {ret : Option FieldType} {i : Nat} (h : lw_tbl[i]? = some (Cond.code y bytes maxL ret)) : GoodIn big (zJW y bytes maxL ret) := by
  intro w hw
  have hz : w ∈ z_ws := by
    rcases List.mem_cons.mp hw with q | q
    · rw [q]; exact z_ws_at h rfl
    · exact q
  exact ⟨hbig w hz, good_of_word (List.mem_filter.mp hz).2⟩
def zQn (v : Option Value) : Array Value → State → Outcome → State → Prop := fun _ st o t => o = .returned v ∧ t.heap = st.heap
def zN0 : Nat → Prop := fun _ => False
def zrj (f n : Nat) : Room := { frames := f, cells := 0, slots := 0, locals := n }
section ZJ
variable {p : Program} {l : Launch} {e : Env} {R : Room} {s : State} {m : MethodId} {args : Array Value} {below : List Frame} {meth : Method} {c : Code} {H : Heap} {locs : List Loc} {cells slots : Nat} {Q : State → Prop}
theorem zj_after {pc : Nat} {la : Array Slot} {st0 rest : List Value} {v : Option Value} {a : Array Value} (run : va_Run p l e R s m args below meth c H locs cells slots 0 0 (F0 m pc la st0) rest (zQn v a) zN0)
    (k : W p l e R s m args below meth c H locs cells slots Q (F0 m (pc + 3) la (v.toList ++ rest))) : W p l e R s m args below meth c H locs cells slots Q (F0 m pc la st0) := by
  intro T hT Xs
  obtain ⟨w, st₀, t, T', L, h0, X', hL, e1, e2, ⟨hv, hh⟩, stp⟩ := run T hT Xs
  have hLn : L = [] := by
    cases L with
    | nil => rfl
    | cons q _ => exact (hL q List.mem_cons_self).elim
  subst hLn
  rw [List.append_nil] at X'
  cases hv
  obtain ⟨t2, a1, b1⟩ := k T' (by rw [e1, hh, h0]) X'
  exact ⟨t2, stp t2 a1, b1⟩
variable {base : Nat} {D : va_G} {tc : Nat → ClassId} {ad : Nat → Nat}
def zPj (base : Nat) (D : va_G) (tc : Nat → ClassId) (ad : Nat → Nat) (vs : List Value) : Array Value → State → Prop := va_Pc vs (fun U => zEnv base D tc ad U U.heap)
theorem zPj_blind {vs : List Value} : FrameBlind (zPj base D tc ad vs) := fun a U g mk h => ⟨h.1, h.2.same rfl⟩
theorem zPj_at {vs : List Value} (E : zEnv base D tc ad s s.heap) : ∀ U : State, U.heap = s.heap → s.WarmedH U.vm → zPj base D tc ad vs vs.toArray U := fun U hU hW => ⟨rfl, by show zEnv base D tc ad U U.heap; rw [hU]; exact E.to hW (fun _ _ _ => rfl)⟩
set_option maxHeartbeats 4000000 in
theorem zj_coder (l : Launch) (j : Nat) (hj : j < 7) : Met l yJ0_coder_7d493 (zJW yJ0_coder_7d493 cJ0_coder_7d493 1 (some .byte)) (zrj 0 0) (zPj base D tc ad [.ref (ad (1000 + j))]) (zQn (some (.int 0))) 0 0 zN0 := by
  refine Met.ofW (cc := cJ0_coder_7d493) (maxL := 1) (ret := some .byte) (by decide) rfl ?_
  intro p e s m args below meth c s₁ B hml hv
  obtain ⟨rfl, E⟩ := hv
  have hx := B.exec
  have hb := B.bytes
  have hr := B.returns
  have hts := atoms_spec (ws := zJW yJ0_coder_7d493 cJ0_coder_7d493 1 (some .byte)) B.pre
  have hown : s.vm.findClass RJ0 = some m.cls := findClass_of_methodNamed B.named
  have hlocks := B.notSynchronized
  have hS : va_S zN0 s.heap s.heap [] := va_S.rf
  obtain ⟨adV, hV⟩ := E.2.1
  have hV := hV.narrow (B := zN0) (fun q h => h.elim)
  have hZ := E.2.2.2.2.2.2.2.1.narrow (B := zN0) (fun q h => h.elim)
  have hl := lv_entry ([.ref (ad (1000 + j))]) (n := 1) (Nat.le_of_ble_eq_true rfl)
  rw [lg_entry_eq]
  generalize (lg_sl ([.ref (ad (1000 + j))]) ++ List.replicate (1 - (lg_sl ([.ref (ad (1000 + j))])).length) Slot.unset).toArray = ls at hl ⊢
  have hl : lv_has ls 1 [(0, .ref (ad (1000 + j)))] := hl
  refine va_gets (C := RJ0) hx hb hZ hS hown (hts _ (zJW_at zj_f38 rfl)) (fun _ h => h) dJ0_coder_7d493_0 ?_
  refine lv_if_eq (tgt := 13) hx hb dJ0_coder_7d493_3 (by decide) (fun q => absurd q (by decide)) (fun _ => ?_)
  refine lv_aload_n hx hb dJ0_coder_7d493_6 rfl (lv_at hl 0 rfl) ?_
  refine vk_getf hx hb (hV.1 j hj).2.1 hS hown (hts _ (zJW_at zj_f15 rfl)) (fun _ h => h) dJ0_coder_7d493_7 ?_
  refine lv_goto (tgt := 14) hx hb dJ0_coder_7d493_10 (by decide) ?_
  exact W.zret (ty := .byte) hx hb hr (by decide) (fun t ht _ => ⟨rfl, ht⟩) (fun q h => by cases h) dJ0_coder_7d493_14 hlocks
set_option maxHeartbeats 4000000 in
theorem zj_latin (l : Launch) (j : Nat) (hj : j < 7) : Met l yJ0_isLatin1_aae02 (zJW yJ0_isLatin1_aae02 cJ0_isLatin1_aae02 1 (some .boolean)) (zrj 0 0) (zPj base D tc ad [.ref (ad (1000 + j))]) (zQn (some (.int 1))) 0 0 zN0 := by
  refine Met.ofW (cc := cJ0_isLatin1_aae02) (maxL := 1) (ret := some .boolean) (by decide) rfl ?_
  intro p e s m args below meth c s₁ B hml hv
  obtain ⟨rfl, E⟩ := hv
  have hx := B.exec
  have hb := B.bytes
  have hr := B.returns
  have hts := atoms_spec (ws := zJW yJ0_isLatin1_aae02 cJ0_isLatin1_aae02 1 (some .boolean)) B.pre
  have hown : s.vm.findClass RJ0 = some m.cls := findClass_of_methodNamed B.named
  have hlocks := B.notSynchronized
  have hS : va_S zN0 s.heap s.heap [] := va_S.rf
  obtain ⟨adV, hV⟩ := E.2.1
  have hV := hV.narrow (B := zN0) (fun q h => h.elim)
  have hZ := E.2.2.2.2.2.2.2.1.narrow (B := zN0) (fun q h => h.elim)
  have hl := lv_entry ([.ref (ad (1000 + j))]) (n := 1) (Nat.le_of_ble_eq_true rfl)
  rw [lg_entry_eq]
  generalize (lg_sl ([.ref (ad (1000 + j))]) ++ List.replicate (1 - (lg_sl ([.ref (ad (1000 + j))])).length) Slot.unset).toArray = ls at hl ⊢
  have hl : lv_has ls 1 [(0, .ref (ad (1000 + j)))] := hl
  refine va_gets (C := RJ0) hx hb hZ hS hown (hts _ (zJW_at zj_f38 rfl)) (fun _ h => h) dJ0_isLatin1_aae02_0 ?_
  refine lv_if_eq (tgt := 17) hx hb dJ0_isLatin1_aae02_3 (by decide) (fun q => absurd q (by decide)) (fun _ => ?_)
  refine lv_aload_n hx hb dJ0_isLatin1_aae02_6 rfl (lv_at hl 0 rfl) ?_
  refine vk_getf hx hb (hV.1 j hj).2.1 hS hown (hts _ (zJW_at zj_f15 rfl)) (fun _ h => h) dJ0_isLatin1_aae02_7 ?_
  refine lv_if_ne (tgt := 17) hx hb dJ0_isLatin1_aae02_10 (by decide) (fun q => absurd rfl q) (fun _ => ?_)
  refine lv_iconst (v := 1) hx hb dJ0_isLatin1_aae02_13 (by decide) ?_
  refine lv_goto (tgt := 18) hx hb dJ0_isLatin1_aae02_14 (by decide) ?_
  exact W.zret (ty := .boolean) hx hb hr (by decide) (fun t ht _ => ⟨rfl, ht⟩) (fun q h => by cases h) dJ0_isLatin1_aae02_18 hlocks
set_option maxHeartbeats 4000000 in
theorem zj_check3 (l : Launch) (x n : Int32) (v : Value) (hv1 : v.category = 1) (h0 : ¬ x < 0) (h1 : x < n) : Met l yJ3_checkIndex_8e157 (zJW yJ3_checkIndex_8e157 cJ3_checkIndex_8e157 3 (some .int)) (zrj 0 0) (zPj base D tc ad [.int x, .int n, v]) (zQn (some (.int x))) 0 0 zN0 := by
  refine Met.ofW (cc := cJ3_checkIndex_8e157) (maxL := 3) (ret := some .int) (by decide) rfl ?_
  intro p e s m args below meth c s₁ B hml hv
  obtain ⟨rfl, E⟩ := hv
  have hx := B.exec
  have hb := B.bytes
  have hr := B.returns
  have hlocks := B.notSynchronized
  have hlen : (lg_sl ([.int x, .int n, v])).length ≤ 3 := by
    have e1 : lg_sl [Value.int x, .int n, v] = [.val (.int x), .val (.int n), .val v] := by
      unfold lg_sl
      simp [hv1]
      rfl
    rw [e1]
    exact Nat.le_of_ble_eq_true rfl
  have hl := lv_entry ([.int x, .int n, v]) (n := 3) hlen
  rw [lg_entry_eq]
  generalize (lg_sl ([.int x, .int n, v]) ++ List.replicate (3 - (lg_sl ([.int x, .int n, v])).length) Slot.unset).toArray = ls at hl ⊢
  have hl : lv_has ls 3 [(0, .int x), (1, .int n)] := ⟨hl.1, hl.2.1, fun q hq => hl.2.2 q (by
    have e2 : lv_args 0 [Value.int x, .int n, v] = [(0, .int x), (1, .int n), (2, v)] := rfl
    rw [e2]
    rcases List.mem_cons.mp hq with h | h
    · rw [h]; exact List.mem_cons_self
    · rcases List.mem_cons.mp h with h | h
      · rw [h]; exact List.mem_cons_of_mem _ List.mem_cons_self
      · cases h)⟩
  refine lv_iload_n hx hb dJ3_checkIndex_8e157_0 rfl (lv_at hl 0 rfl) ?_
  refine lv_if_lt (tgt := 9) hx hb dJ3_checkIndex_8e157_1 (by decide) (fun q => absurd q h0) (fun _ => ?_)
  refine lv_iload_n hx hb dJ3_checkIndex_8e157_4 rfl (lv_at hl 0 rfl) ?_
  refine lv_iload_n hx hb dJ3_checkIndex_8e157_5 rfl (lv_at hl 1 rfl) ?_
  refine lv_icmp_lt (tgt := 16) hx hb dJ3_checkIndex_8e157_6 (by decide) (fun _ => ?_) (fun q => absurd h1 q)
  refine lv_iload_n hx hb dJ3_checkIndex_8e157_16 rfl (lv_at hl 0 rfl) ?_
  exact W.iret hx hb hr (fun t ht _ => ⟨rfl, ht⟩) (fun q h => by cases h) dJ3_checkIndex_8e157_17 hlocks
set_option maxHeartbeats 4000000 in
theorem zj_check0 (l : Launch) (x n : Int32) (h0 : ¬ x < 0) (h1 : x < n) : Met l yJ0_checkIndex_df160 (zJW yJ0_checkIndex_df160 cJ0_checkIndex_df160 2 none) (zrj 1 22) (zPj base D tc ad [.int x, .int n]) (zQn none) 0 0 zN0 := by
  refine Met.ofW (cc := cJ0_checkIndex_df160) (maxL := 2) (ret := none) (by decide) rfl ?_
  intro p e s m args below meth c s₁ B hml hv
  obtain ⟨rfl, E⟩ := hv
  have hx := B.exec
  have hb := B.bytes
  have hr := B.returns
  have hts := atoms_spec (ws := zJW yJ0_checkIndex_df160 cJ0_checkIndex_df160 2 none) B.pre
  have hown : s.vm.findClass RJ0 = some m.cls := findClass_of_methodNamed B.named
  have hlocks := B.notSynchronized
  have hS : va_S zN0 s.heap s.heap [] := va_S.rf
  have hZq := E.2.2.2.2.2.2.2.2.narrow (B := zN0) (fun q h => h.elim)
  have hl := lv_entry ([.int x, .int n]) (n := 2) (Nat.le_of_ble_eq_true rfl)
  rw [lg_entry_eq]
  generalize (lg_sl ([.int x, .int n]) ++ List.replicate (2 - (lg_sl ([.int x, .int n])).length) Slot.unset).toArray = ls at hl ⊢
  have hl : lv_has ls 2 [(0, .int x), (1, .int n)] := hl
  obtain ⟨v, hZ, hv1⟩ : ∃ v : Value, va_Z RJ3 "SIOOBE_FORMATTER" "Ljava/util/function/BiFunction;" v zN0 s s.heap ∧ v.category = 1 := by
    rcases hZq with h | ⟨t, h⟩
    · exact ⟨_, h, rfl⟩
    · exact ⟨_, h, rfl⟩
  refine lv_iload_n hx hb dJ0_checkIndex_df160_0 rfl (lv_at hl 0 rfl) ?_
  refine lv_iload_n hx hb dJ0_checkIndex_df160_1 rfl (lv_at hl 1 rfl) ?_
  refine va_gets (C := RJ3) hx hb hZ hS hown (hts _ (zJW_at zj_f1053 rfl)) (fun _ h => h) dJ0_checkIndex_df160_2 ?_
  refine zj_after (v := some (.int x)) (va_runS (As := [.int x, .int n, v]) (rest := []) ⟨hx, hb, hml, hown, hts⟩ (zj_check3 l x n v hv1 h0 h1) ⟨callB_of 3 hts (zJW_good (fun w h => List.mem_cons_of_mem _ h) zj_c3) rfl rfl rfl (hts _ (zJW_at zj_i3 rfl)) (hts _ (zJW_at zj_m1059 rfl)) ⟨by decide, by decide, by decide⟩ ⟨Nat.le_of_ble_eq_true rfl, Nat.le_of_ble_eq_true rfl⟩, hts _ (zJW_at zj_s3 rfl)⟩ ⟨zPj_blind, zPj_at E⟩ rfl rfl hl.1 rfl (lv_room (Nat.le_of_ble_eq_true rfl)) dJ0_checkIndex_df160_5 ⟨Nat.zero_le _, Nat.zero_le _⟩) ?_
  refine lv_pop hx hb dJ0_checkIndex_df160_8 rfl ?_
  exact W.vret hx hb hr (fun t ht _ => ⟨rfl, ht⟩) (fun q h => by cases h) dJ0_checkIndex_df160_9 hlocks
theorem zch_ok : ∀ j, j < 7 → ∀ i, i < 5 → i < z_sl.getD j 0 → ((((z_sb.getD j []).getD i 0) &&& (255 : Int32)).toUInt32 % 65536).toInt32 = Int32.ofNat (z_ch (1000 + j) i) := by decide +kernel
theorem zch_n : ∀ j, j < 7 → ∀ i, i < 5 → narrow .char (.int (Int32.ofNat (z_ch (1000 + j) i))) = .int (Int32.ofNat (z_ch (1000 + j) i)) := by decide +kernel
theorem zsl_5 : ∀ j, j < 7 → z_sl.getD j 0 ≤ 5 ∧ z_ln (1000 + j) = z_sl.getD j 0 := by decide +kernel
theorem zlt_of_in {x : Int32} {n : Nat} (h : vp_in x n) (hn : n ≤ 5) : x < Int32.ofNat n := by
  have h1 : ¬ x < 0 := fun q => h (Or.inl q)
  have h2 : x.toNatClampNeg < n := Nat.not_le.mp fun q => h (Or.inr q)
  rw [Int32.lt_iff_toInt_lt]
  have h3 : (0 : Int) ≤ x.toInt := by
    have := Int32.not_lt.mp h1
    simpa using Int32.le_iff_toInt_le.mp this
  have h4 : (Int32.ofNat n).toInt = (n : Int) := by
    have : ∀ k, k ≤ 5 → (Int32.ofNat k).toInt = (k : Int) := by decide +kernel
    exact this n hn
  have h5 : x.toInt = (x.toNatClampNeg : Int) := by
    show x.toInt = ((x.toInt.toNat : Nat) : Int)
    omega
  rw [h4, h5]
  omega
set_option maxHeartbeats 4000000 in
theorem zj_char1 (l : Launch) (j : Nat) (hj : j < 7) (x : Int32) (hin : vp_in x (z_sl.getD j 0)) (t : Nat) : Met l yJ1_charAt_3b067 (zJW yJ1_charAt_3b067 cJ1_charAt_3b067 2 (some .char)) (zrj 2 43) (fun a U => zPj base D tc ad [.ref t, .int x] a U ∧ va_T .byte t (z_sl.getD j 0) (fun i => .int ((z_sb.getD j []).getD i 0)) zN0 U U.heap) (zQn (some (.int (Int32.ofNat (z_ch (1000 + j) (zix x)))))) 0 0 zN0 := by
  refine Met.ofW (cc := cJ1_charAt_3b067) (maxL := 2) (ret := some .char) (by decide) rfl ?_
  intro p e s m args below meth c s₁ B hml hv
  obtain ⟨⟨rfl, E⟩, hT⟩ := hv
  have hx := B.exec
  have hb := B.bytes
  have hr := B.returns
  have hts := atoms_spec (ws := zJW yJ1_charAt_3b067 cJ1_charAt_3b067 2 (some .char)) B.pre
  have hown : s.vm.findClass RJ1 = some m.cls := findClass_of_methodNamed B.named
  have hlocks := B.notSynchronized
  have hS : va_S zN0 s.heap s.heap [] := va_S.rf
  have hl := lv_entry ([.ref t, .int x]) (n := 2) (Nat.le_of_ble_eq_true rfl)
  rw [lg_entry_eq]
  generalize (lg_sl ([.ref t, .int x]) ++ List.replicate (2 - (lg_sl ([.ref t, .int x])).length) Slot.unset).toArray = ls at hl ⊢
  have hl : lv_has ls 2 [(0, .ref t), (1, .int x)] := hl
  have hlt := zlt_of_in hin (zsl_5 j hj).1
  have h0 : ¬ x < 0 := fun q => hin (Or.inl q)
  have hi : zix x < z_sl.getD j 0 := Nat.not_le.mp fun q => hin (Or.inr q)
  have hi5 : zix x < 5 := Nat.lt_of_lt_of_le hi (zsl_5 j hj).1
  refine lv_iload_n hx hb dJ1_charAt_3b067_0 rfl (lv_at hl 1 rfl) ?_
  refine lv_aload_n hx hb dJ1_charAt_3b067_1 rfl (lv_at hl 0 rfl) ?_
  refine va_tlen hx hb hT hS rfl dJ1_charAt_3b067_2 ?_
  refine zj_after (v := none) (va_runS (As := [.int x, .int (Int32.ofNat (z_sl.getD j 0))]) (rest := []) ⟨hx, hb, hml, hown, hts⟩ (zj_check0 l x (Int32.ofNat (z_sl.getD j 0)) h0 hlt) ⟨callB_of 2 hts (zJW_good (fun w h => List.mem_cons_of_mem _ h) zj_c0) rfl rfl rfl (hts _ (zJW_at zj_i0 rfl)) (hts _ (zJW_at zj_m9 rfl)) ⟨by decide, by decide, by decide⟩ ⟨Nat.le_of_ble_eq_true rfl, Nat.le_of_ble_eq_true rfl⟩, hts _ (zJW_at zj_s0 rfl)⟩ ⟨zPj_blind, zPj_at E⟩ rfl rfl hl.1 rfl (lv_room (Nat.le_of_ble_eq_true rfl)) dJ1_charAt_3b067_3 ⟨Nat.zero_le _, Nat.zero_le _⟩) ?_
  refine lv_aload_n hx hb dJ1_charAt_3b067_6 rfl (lv_at hl 0 rfl) ?_
  refine lv_iload_n hx hb dJ1_charAt_3b067_7 rfl (lv_at hl 1 rfl) ?_
  refine va_tb hx hb hT hS hin rfl dJ1_charAt_3b067_8 ?_
  refine lv_sipush (v := 255) hx hb dJ1_charAt_3b067_9 (by decide) ?_
  refine lv_iand hx hb dJ1_charAt_3b067_12 ?_
  refine lv_i2c (v := Int32.ofNat (z_ch (1000 + j) (zix x))) hx hb dJ1_charAt_3b067_13 (zch_ok j hj (zix x) hi5 hi) ?_
  exact W.zret (ty := .char) hx hb hr (zch_n j hj (zix x) hi5) (fun t ht _ => ⟨rfl, ht⟩) (fun q h => by cases h) dJ1_charAt_3b067_14 hlocks
set_option maxHeartbeats 4000000 in
theorem zj_char0 (l : Launch) (j : Nat) (hj : j < 7) (x : Int32) (hin : vp_in x (z_sl.getD j 0)) : Met l yJ0_charAt_5068e (zJW yJ0_charAt_5068e cJ0_charAt_5068e 2 (some .char)) (zrj 3 64) (zPj base D tc ad [.ref (ad (1000 + j)), .int x]) (zQn (some (.int (Int32.ofNat (z_ch (1000 + j) (zix x)))))) 0 0 zN0 := by
  refine Met.ofW (cc := cJ0_charAt_5068e) (maxL := 2) (ret := some .char) (by decide) rfl ?_
  intro p e s m args below meth c s₁ B hml hv
  obtain ⟨rfl, E⟩ := hv
  have hx := B.exec
  have hb := B.bytes
  have hr := B.returns
  have hts := atoms_spec (ws := zJW yJ0_charAt_5068e cJ0_charAt_5068e 2 (some .char)) B.pre
  have hown : s.vm.findClass RJ0 = some m.cls := findClass_of_methodNamed B.named
  have hlocks := B.notSynchronized
  have hS : va_S zN0 s.heap s.heap [] := va_S.rf
  obtain ⟨adV, hV⟩ := E.2.1
  have hV := hV.narrow (B := zN0) (fun q h => h.elim)
  have hl := lv_entry ([.ref (ad (1000 + j)), .int x]) (n := 2) (Nat.le_of_ble_eq_true rfl)
  rw [lg_entry_eq]
  generalize (lg_sl ([.ref (ad (1000 + j)), .int x]) ++ List.replicate (2 - (lg_sl ([.ref (ad (1000 + j)), .int x])).length) Slot.unset).toArray = ls at hl ⊢
  have hl : lv_has ls 2 [(0, .ref (ad (1000 + j))), (1, .int x)] := hl
  have hi : zix x < z_sl.getD j 0 := Nat.not_le.mp fun q => hin (Or.inr q)
  have hi5 : zix x < 5 := Nat.lt_of_lt_of_le hi (zsl_5 j hj).1
  refine lv_aload_n hx hb dJ0_charAt_5068e_0 rfl (lv_at hl 0 rfl) ?_
  refine zj_after (v := some (.int 1)) (va_runV (As := []) (rest := []) ⟨hx, hb, hml, hown, hts⟩ (zj_latin l j hj) ⟨callB_of 0 hts (zJW_good (fun w h => List.mem_cons_of_mem _ h) zj_cL) rfl rfl rfl (hts _ (zJW_at zj_i0 rfl)) (hts _ (zJW_at zj_m492 rfl)) ⟨by decide, by decide, by decide⟩ ⟨Nat.le_of_ble_eq_true rfl, Nat.le_of_ble_eq_true rfl⟩, hts _ (zJW_at zj_nL rfl), hts _ (zJW_at zj_eL rfl)⟩ ⟨zPj_blind, vk_recv hV hj hS, zPj_at E⟩ rfl rfl hl.1 rfl (lv_room (Nat.le_of_ble_eq_true rfl)) dJ0_charAt_5068e_1 ⟨Nat.zero_le _, Nat.zero_le _⟩) ?_
  refine lv_if_eq (tgt := 16) hx hb dJ0_charAt_5068e_4 (by decide) (fun q => absurd q (by decide)) (fun _ => ?_)
  refine lv_aload_n hx hb dJ0_charAt_5068e_7 rfl (lv_at hl 0 rfl) ?_
  refine vk_getf hx hb (hV.1 j hj).2.2.1 hS hown (hts _ (zJW_at zj_f9 rfl)) (fun _ h => h) dJ0_charAt_5068e_8 ?_
  refine lv_iload_n hx hb dJ0_charAt_5068e_11 rfl (lv_at hl 1 rfl) ?_
  refine zj_after (v := some (.int (Int32.ofNat (z_ch (1000 + j) (zix x))))) (va_runS (As := [.ref (adV j), .int x]) (rest := []) ⟨hx, hb, hml, hown, hts⟩ (zj_char1 (base := base) (D := D) (tc := tc) (ad := ad) l j hj x hin (adV j)) ⟨callB_of 2 hts (zJW_good (fun w h => List.mem_cons_of_mem _ h) zj_c1) rfl rfl rfl (hts _ (zJW_at zj_i1 rfl)) (hts _ (zJW_at zj_m495 rfl)) ⟨by decide, by decide, by decide⟩ ⟨Nat.le_of_ble_eq_true rfl, Nat.le_of_ble_eq_true rfl⟩, hts _ (zJW_at zj_s1 rfl)⟩ ⟨fun a U g mk h => ⟨zPj_blind a U g mk h.1, h.2.moved (Vm.Alike.refl U.vm)⟩, fun U hU hW => ⟨zPj_at E U hU hW, by rw [hU]; exact ((hV.1 j hj).2.2.2).moved hW.alike⟩⟩ rfl rfl hl.1 rfl (lv_room (Nat.le_of_ble_eq_true rfl)) dJ0_charAt_5068e_12 ⟨Nat.zero_le _, Nat.zero_le _⟩) ?_
  exact W.zret (ty := .char) hx hb hr (zch_n j hj (zix x) hi5) (fun t ht _ => ⟨rfl, ht⟩) (fun q h => by cases h) dJ0_charAt_5068e_15 hlocks
set_option maxHeartbeats 4000000 in
theorem zj_len (l : Launch) (j : Nat) (hj : j < 7) : Met l yJ0_length_8abf5 (zJW yJ0_length_8abf5 cJ0_length_8abf5 1 (some .int)) (zrj 1 20) (zPj base D tc ad [.ref (ad (1000 + j))]) (zQn (some (.int (Int32.ofNat (z_sl.getD j 0))))) 0 0 zN0 := by
  refine Met.ofW (cc := cJ0_length_8abf5) (maxL := 1) (ret := some .int) (by decide) rfl ?_
  intro p e s m args below meth c s₁ B hml hv
  obtain ⟨rfl, E⟩ := hv
  have hx := B.exec
  have hb := B.bytes
  have hr := B.returns
  have hts := atoms_spec (ws := zJW yJ0_length_8abf5 cJ0_length_8abf5 1 (some .int)) B.pre
  have hown : s.vm.findClass RJ0 = some m.cls := findClass_of_methodNamed B.named
  have hlocks := B.notSynchronized
  have hS : va_S zN0 s.heap s.heap [] := va_S.rf
  obtain ⟨adV, hV⟩ := E.2.1
  have hV := hV.narrow (B := zN0) (fun q h => h.elim)
  have hl := lv_entry ([.ref (ad (1000 + j))]) (n := 1) (Nat.le_of_ble_eq_true rfl)
  rw [lg_entry_eq]
  generalize (lg_sl ([.ref (ad (1000 + j))]) ++ List.replicate (1 - (lg_sl ([.ref (ad (1000 + j))])).length) Slot.unset).toArray = ls at hl ⊢
  have hl : lv_has ls 1 [(0, .ref (ad (1000 + j)))] := hl
  refine lv_aload_n hx hb dJ0_length_8abf5_0 rfl (lv_at hl 0 rfl) ?_
  refine vk_getf hx hb (hV.1 j hj).2.2.1 hS hown (hts _ (zJW_at zj_f9 rfl)) (fun _ h => h) dJ0_length_8abf5_1 ?_
  refine va_tlen hx hb (hV.1 j hj).2.2.2 hS rfl dJ0_length_8abf5_4 ?_
  refine lv_aload_n hx hb dJ0_length_8abf5_5 rfl (lv_at hl 0 rfl) ?_
  refine zj_after (v := some (.int 0)) (va_runV (As := []) (rest := [.int (Int32.ofNat (z_sl.getD j 0))]) ⟨hx, hb, hml, hown, hts⟩ (zj_coder l j hj) ⟨callB_of 0 hts (zJW_good (fun w h => List.mem_cons_of_mem _ h) zj_cC) rfl rfl rfl (hts _ (zJW_at zj_i0 rfl)) (hts _ (zJW_at zj_m335 rfl)) ⟨by decide, by decide, by decide⟩ ⟨Nat.le_of_ble_eq_true rfl, Nat.le_of_ble_eq_true rfl⟩, hts _ (zJW_at zj_nC rfl), hts _ (zJW_at zj_eC rfl)⟩ ⟨zPj_blind, vk_recv hV hj hS, zPj_at E⟩ rfl rfl hl.1 rfl (lv_room (Nat.le_of_ble_eq_true rfl)) dJ0_length_8abf5_6 ⟨Nat.zero_le _, Nat.zero_le _⟩) ?_
  refine lv_ishr hx hb dJ0_length_8abf5_9 ?_
  have e1 : ∀ j, j < 7 → Int32.ofNat (z_sl.getD j 0) >>> ((0 : Int32) &&& 31) = Int32.ofNat (z_sl.getD j 0) := by decide +kernel
  have e2 := e1 j hj
  rw [e2]
  exact W.iret hx hb hr (fun t ht _ => ⟨rfl, ht⟩) (fun q h => by cases h) dJ0_length_8abf5_10 hlocks
end ZJ
section ZJ2
variable {p : Program} {l : Launch} {e : Env} {Rm : Room} {s : State} {mid : MethodId} {args : Array Value} {below : List Frame} {meth : Method} {c : Code} {Q : State → Prop}
variable {base : Nat} {D : va_G} {tc : Nat → ClassId} {A : Nat → Prop} {ad0 : Nat → Nat} {n0 m : Nat}
variable {ls : ZL} {st : List Value} {I : ZI} {R : ZR} {n pc : Nat}
theorem zis_str {n o : Nat} (h : zis n o 25 = true) : ∃ j, j < 7 ∧ o = 1000 + j := by
  unfold zis at h
  rw [Bool.and_eq_true] at h
  have hk := Nat.eq_of_beq_eq_true h.2
  have hlt : o < 1013 := by
    rcases Nat.lt_or_ge o 1013 with q | q
    · exact q
    · rw [zkd_large o q] at hk; cases hk
  obtain ⟨g1, g2⟩ := zkd_25 o hlt hk
  exact ⟨o - 1000, by omega, by omega⟩
theorem zS_env {ad : Nat → Nat} {H : Heap} {locs : List Loc} {la : Array Slot} (E : zEnv base D tc ad0 s s.heap) (hAb : ∀ q, A q → base ≤ q) (S : zSt D tc A s ad0 n0 m ad ls st I R n H locs la) {vs : List Value} : ∀ U : State, U.heap = H → s.WarmedH U.vm → zPj base D tc ad0 vs vs.toArray U := fun U hU hW => ⟨rfl, by show zEnv base D tc ad0 U U.heap; rw [hU]; exact E.to hW (fun a h1 h2 => S.2.2.1.2.1 a h1 (fun q => h2 (hAb a q)))⟩
theorem za_slen (X : zCx p s mid args meth c m) (E : zEnv base D tc ad0 s s.heap) (hAb : ∀ q, A q → base ≤ q) (hb : base ≤ s.heap.size) {i o : Nat} (hd : decode (z_by m) pc = .ok (.invokevirtual i, 3)) (hP : zhP (z_own m) i 15 = true) (hw : zwords st ≤ 8) (hf : 5 ≤ Rm.frames) (hl : 110 ≤ Rm.locals) (hc : n - n0 ≤ Rm.cells) (hs : zs n - zs n0 ≤ Rm.slots) (hi : zis n o 25 = true)
    (k : zGo p l e Rm s mid args below meth c Q D tc A ad0 n0 m (pc + 3) ls (.int (Int32.ofNat (z_ln o)) :: st) I R n) : zGo p l e Rm s mid args below meth c Q D tc A ad0 n0 m pc ls (.ref o :: st) I R n := by
  intro ad H locs la S
  obtain ⟨j, hj, rfl⟩ := zis_str hi
  have had : ad (1000 + j) = ad0 (1000 + j) := S.2.2.2.2.2.2.2.2 _ (Or.inr (by omega))
  obtain ⟨adV, hV⟩ := E.2.1
  have hV := hV.narrow (B := A) (fun q h => hAb q h)
  have hrest : 2 * (F0 mid pc la ((Value.ref (1000 + j) :: st).map (ztr ad))).monitorRoom + ((st.map (ztr ad)).map fun v => v.category).sum ≤ 8 := lv_room (by rw [zwords_tr]; exact hw)
  have hk := k ad H locs la (S.pop.push (zwv_int _ _))
  rw [(zsl_5 j hj).2] at hk
  refine zj_after (v := some (.int (Int32.ofNat (z_sl.getD j 0)))) (va_runV (As := []) (rest := st.map (ztr ad)) ⟨X.1, X.2.1, X.2.2.2.1, X.2.2.2.2.1, X.2.2.2.2.2.1⟩ (zj_len (base := base) (D := D) (tc := tc) (ad := ad0) l j hj) ⟨callB_of 0 X.2.2.2.2.2.1 (zJW_good (fun w h => zW_of h) zj_cN) rfl rfl rfl (X.2.2.2.2.2.1 _ (zW_at zj_i0 rfl)) (X.2.2.2.2.2.1 _ (zhP_spec X.2.2.2.2.2.2.2.2 hP)) ⟨by decide, by decide, by decide⟩ ⟨by show 1 + 1 ≤ _; omega, by show 8 + (1 + 11) + 20 ≤ _; omega⟩, X.2.2.2.2.2.1 _ (zW_at zj_nN rfl), X.2.2.2.2.2.1 _ (zW_at zj_eN rfl)⟩ ⟨zPj_blind, ?_, zS_env E hAb S⟩ rfl rfl S.2.2.2.2.2.2.1.1 ?_ hrest hd ⟨by omega, by omega⟩) hk
  · exact vk_recv (adK := fun j => ad0 (1000 + j)) (i := j) hV hj S.2.2.1
  · show Value.ref (ad (1000 + j)) :: _ = _
    rw [had]
    rfl
theorem za_char (X : zCx p s mid args meth c m) (E : zEnv base D tc ad0 s s.heap) (hAb : ∀ q, A q → base ≤ q) (hb : base ≤ s.heap.size) {i o : Nat} {x : Int32} (hd : decode (z_by m) pc = .ok (.invokevirtual i, 3)) (hP : zhP (z_own m) i 16 = true) (hw : zwords st ≤ 8) (hf : 5 ≤ Rm.frames) (hl : 110 ≤ Rm.locals) (hc : n - n0 ≤ Rm.cells) (hs : zs n - zs n0 ≤ Rm.slots) (hi : zis n o 25 = true) (hin : zin o x = true)
    (k : zGo p l e Rm s mid args below meth c Q D tc A ad0 n0 m (pc + 3) ls (.int (Int32.ofNat (z_ch o (zix x))) :: st) I R n) : zGo p l e Rm s mid args below meth c Q D tc A ad0 n0 m pc ls (.int x :: .ref o :: st) I R n := by
  intro ad H locs la S
  obtain ⟨j, hj, rfl⟩ := zis_str hi
  have had : ad (1000 + j) = ad0 (1000 + j) := S.2.2.2.2.2.2.2.2 _ (Or.inr (by omega))
  obtain ⟨adV, hV⟩ := E.2.1
  have hV := hV.narrow (B := A) (fun q h => hAb q h)
  have hin := zin_spec hin
  rw [(zsl_5 j hj).2] at hin
  have hrest : 2 * (F0 mid pc la ((Value.int x :: Value.ref (1000 + j) :: st).map (ztr ad))).monitorRoom + ((st.map (ztr ad)).map fun v => v.category).sum ≤ 8 := lv_room (by rw [zwords_tr]; exact hw)
  have hk := k ad H locs la (S.pop.pop.push (zwv_int _ _))
  refine zj_after (v := some (.int (Int32.ofNat (z_ch (1000 + j) (zix x))))) (va_runV (As := [.int x]) (rest := st.map (ztr ad)) ⟨X.1, X.2.1, X.2.2.2.1, X.2.2.2.2.1, X.2.2.2.2.2.1⟩ (zj_char0 (base := base) (D := D) (tc := tc) (ad := ad0) l j hj x hin) ⟨callB_of 1 X.2.2.2.2.2.1 (zJW_good (fun w h => zW_of h) zj_cA) rfl rfl rfl (X.2.2.2.2.2.1 _ (zW_at zj_i0 rfl)) (X.2.2.2.2.2.1 _ (zhP_spec X.2.2.2.2.2.2.2.2 hP)) ⟨by decide, by decide, by decide⟩ ⟨by show 3 + 1 ≤ _; omega, by show 8 + (2 + 11) + 64 ≤ _; omega⟩, X.2.2.2.2.2.1 _ (zW_at zj_nA rfl), X.2.2.2.2.2.1 _ (zW_at zj_eA rfl)⟩ ⟨zPj_blind, ?_, zS_env E hAb S⟩ rfl rfl S.2.2.2.2.2.2.1.1 ?_ hrest hd ⟨by omega, by omega⟩) hk
  · exact vk_recv (adK := fun j => ad0 (1000 + j)) (i := j) hV hj S.2.2.1
  · show Value.int x :: Value.ref (ad (1000 + j)) :: _ = _
    rw [had]
    rfl
/-! constants -/
theorem zhK_int {m i : Nat} {w : Int32} (hm : m < 283) (h : zhK (z_own m) i (.int w) = true) : Cond.constant (z_cn (z_own m)) i w ∈ zW m := by
  obtain ⟨q, hq, h1⟩ := List.any_eq_true.mp h
  simp only [Bool.and_eq_true] at h1
  have g := zKL_ok (z_own m) (zy_ok m hm).1 q hq
  have e2 : q.2.1 = .int w := by
    have h2 := h1.2
    unfold zveq at h2
    split at h2
    · rename_i h3 h4; cases h4; rw [h3]; exact congrArg Value.int (of_decide_eq_true h2)
    · rename_i h4; cases h4
    · cases h2
  rw [Nat.eq_of_beq_eq_true h1.1, e2] at g
  exact zW_at (w := .constant (z_cn (z_own m)) i w) g rfl
theorem zhK_long {m i : Nat} {w : Int64} (hm : m < 283) (h : zhK (z_own m) i (.long w) = true) : Cond.constantLong (z_cn (z_own m)) i w ∈ zW m := by
  obtain ⟨q, hq, h1⟩ := List.any_eq_true.mp h
  simp only [Bool.and_eq_true] at h1
  have g := zKL_ok (z_own m) (zy_ok m hm).1 q hq
  have e2 : q.2.1 = .long w := by
    have h2 := h1.2
    unfold zveq at h2
    split at h2
    · rename_i h4; cases h4
    · rename_i h3 h4; cases h4; rw [h3]; exact congrArg Value.long (of_decide_eq_true h2)
    · cases h2
  rw [Nat.eq_of_beq_eq_true h1.1, e2] at g
  exact zW_at (w := .constantLong (z_cn (z_own m)) i w) g rfl
theorem zhS_spec {m i j : Nat} {H : Heap} (hm : m < 283) (E : zEnv base D tc ad0 s H) (h : zhS (z_own m) i j = true) : vk_R (z_cn (z_own m)) i (z_st j) (ad0 (1000 + j)) s := by
  obtain ⟨q, hq, h1⟩ := List.any_eq_true.mp h
  simp only [Bool.and_eq_true] at h1
  have g := E.2.2.1 (z_own m) (zy_ok m hm).1 q hq
  rw [Nat.eq_of_beq_eq_true h1.1, Nat.eq_of_beq_eq_true h1.2] at g
  exact g
theorem zhG_spec {m i j : Nat} (hm : m < 283) (h : zhG (z_own m) i j = true) : j < 3 ∧ Cond.fieldLink (z_cn (z_own m)) i RX3 (z_sn j) "[I" ∈ zW m := by
  obtain ⟨q, hq, h1⟩ := List.any_eq_true.mp h
  simp only [Bool.and_eq_true] at h1
  have g := zGL_ok (z_own m) (zy_ok m hm).1 q hq
  rw [Nat.eq_of_beq_eq_true h1.1, Nat.eq_of_beq_eq_true h1.2] at g
  exact ⟨g.1, zW_at g.2 rfl⟩
theorem zcat1_spec {v : Value} (h : zcat1 v = true) : v.category = 1 := by cases v <;> first | rfl | cases h
theorem zkd_77s : ∀ n, n < 1013 → z_kd n ≠ 77 := by decide +kernel
theorem zkd_77 (n : Nat) : z_kd n ≠ 77 := by
  rcases Nat.lt_or_ge n 1013 with q | q
  · exact zkd_77s n q
  · rw [zkd_large n q]; decide
/-- a void return, whatever lies on the stack -/
theorem zvret {cc : ByteArray} {Qc : Array Value → State → Outcome → State → Prop} {free : Addr → Prop} {H : Heap} {locs : List Loc} {cells slots : Nat} (hexec : p.tables.exec = Jvm.exec) (hb : c.code = cc) (hr : meth.sig.returnType = none)
    (hq : ∀ t : State, t.heap = H → s.WarmedH t.vm → Qc args s (.returned none) t) (hf : ∀ q ∈ locs, free q.base)
    {pc : Nat} {la : Array Slot} {rest : List Value} (hdg : decode cc pc = .ok (.return_, 1)) (hlocks : meth.locks = false) : W p l e Rm s mid args below meth c H locs cells slots (MQ below Qc args s cells slots free) (F0 mid pc la rest) := by
  intro T hT X
  obtain ⟨fs, hret, hrun, hended, hW, hframe⟩ := X.leave (v := none) (fun _ => rfl)
  have hmeth' : T.vm.method? mid = some meth := X.method'
  refine ⟨T.setFrames fs, ?_, .returned none, hrun, hended, hq _ hT hW, locs, ⟨⟨_, rfl⟩, hW, hframe⟩, hf⟩
  jvm_step X.here [X.here.top, hexec, hb, hdg, hmeth', hr]
  (try refine ⟨rfl, ?_⟩); (try refine ⟨rfl, ?_⟩)
  first | (intro acts; rw [hret _ acts rfl rfl rfl]) | rw [hret _ _ rfl rfl rfl]
  exact Steps.refl _
end ZJ2
