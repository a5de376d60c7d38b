/-! ===== the pure interpreter: plain instructions ===== -/
/-- the words that stay true along a run -/
def z_ws : List Cond := lw_tbl.filter goodWord
theorem z_ws_in {w : Cond} (h : w ∈ lw_tbl) (hg : goodWord w = true) : w ∈ z_ws := List.mem_filter.mpr ⟨h, hg⟩
/-- the pure heap: numbers (int fields, elements), references (fields, elements), the next free address -/
abbrev z_H : Type := (Nat → Nat → Int32) × (Nat → Nat → Option Nat) × Nat
abbrev z_L : Type := List (Option Value)
abbrev z_R : Type := Option (Option Value × z_H)
/-- what goes on: pc, locals, stack, heap, cells, slots -/
abbrev z_K : Type := Nat → z_L → List Value → z_H → Nat → Nat → z_R
def z_up {α : Type} (f : Nat → Nat → α) (a i : Nat) (v : α) : Nat → Nat → α := fun b j => if b = a ∧ j = i then v else f b j
def z_len : Instr → Nat
  | .bipush _ => 2
  | .sipush _ => 3
  | .iload _ => 2
  | .lload _ => 2
  | .aload _ => 2
  | .istore _ => 2
  | .lstore _ => 2
  | .astore _ => 2
  | .iinc _ _ => 3
  | .ifCond _ _ => 3
  | .if_icmp _ _ => 3
  | .goto _ => 3
  | _ => 1
def z_const : Instr → Option Value
  | .iconst n => some (.int (Int32.ofInt n))
  | .bipush n => some (.int (Int8.ofInt n).toInt32)
  | .sipush n => some (.int (Int16.ofInt n).toInt32)
  | .lconst n => some (.long (Int64.ofNat (n : Nat)))
  | _ => none
/-- kind (0 int, 1 long, 2 reference) and place -/
def z_load : Instr → Option (Nat × Nat)
  | .iload i => some (0, i)
  | .iload_n i => some (0, i.val)
  | .lload i => some (1, i)
  | .lload_n i => some (1, i.val)
  | .aload i => some (2, i)
  | .aload_n i => some (2, i.val)
  | _ => none
def z_store : Instr → Option (Nat × Nat)
  | .istore i => some (0, i)
  | .istore_n i => some (0, i.val)
  | .lstore i => some (1, i)
  | .lstore_n i => some (1, i.val)
  | .astore i => some (2, i)
  | .astore_n i => some (2, i.val)
  | _ => none
def z_bin : Instr → Option (Int32 → Int32 → Int32)
  | .iadd => some (fun x y => x + y)
  | .isub => some (fun x y => x - y)
  | .imul => some (fun x y => x * y)
  | .iand => some (fun x y => x &&& y)
  | .ior => some (fun x y => x ||| y)
  | .ixor => some (fun x y => x ^^^ y)
  | .ishl => some (fun x y => x <<< (y &&& 31))
  | .ishr => some (fun x y => x >>> (y &&& 31))
  | .iushr => some (fun x y => (x.toUInt32 >>> (y.toUInt32 &&& Int32.toUInt32 31)).toInt32)
  | _ => none
def z_div : Instr → Option (Int32 → Int32 → Int32)
  | .idiv => some (fun x y => x / y)
  | .irem => some (fun x y => x - x / y * y)
  | _ => none
def z_lbin : Instr → Option (Int64 → Int64 → Int64)
  | .ladd => some (fun x y => x + y)
  | .lsub => some (fun x y => x - y)
  | .lmul => some (fun x y => x * y)
  | .land => some (fun x y => x &&& y)
  | .lor => some (fun x y => x ||| y)
  | _ => none
def z_un : Instr → Value → Option Value
  | .ineg, .int x => some (.int (-x))
  | .i2l, .int x => some (.long x.toInt64)
  | .l2i, .long x => some (.int x.toInt32)
  | .i2b, .int x => some (.int x.toInt8.toInt32)
  | _, _ => none
def z_cond : ClassFile.Cond → Int32 → Int32 → Bool
  | .eq, x, y => decide (x = y)
  | .ne, x, y => decide (¬ x = y)
  | .lt, x, y => decide (x < y)
  | .ge, x, y => decide (y ≤ x)
  | .gt, x, y => decide (y < x)
  | .le, x, y => decide (x ≤ y)
section ZPlain
variable {p : Program} {l : Launch} {e : Env} {R : Room} {s : State} {m : MethodId} {args : Array Value} {below : List Frame} {meth : Method} {c : Code} {H : Heap} {locs : List Loc} {cells slots : Nat} {Q : State → Prop}
variable {cc : ByteArray} {pc : Nat} {ls : Array Slot} {rest : List Value}
set_option maxHeartbeats 4000000 in
theorem zs_const (hx : p.tables.exec = Jvm.exec) (hb : c.code = cc) {I : Instr} {v : Value} (hI : z_const I = some v) (hd : decode cc pc = .ok (I, z_len I))
    (k : W p l e R s m args below meth c H locs cells slots Q (F0 m (pc + z_len I) ls (v :: rest))) : W p l e R s m args below meth c H locs cells slots Q (F0 m pc ls rest) := by
  cases I <;> first | (cases hI; done) | skip
  case iconst n => cases hI; exact lv_iconst hx hb hd rfl k
  case bipush n => cases hI; exact lv_bipush hx hb hd rfl k
  case sipush n => cases hI; exact lv_sipush hx hb hd rfl k
  case lconst n => cases hI; exact lv_lconst hx hb hd rfl k
set_option maxHeartbeats 4000000 in
theorem zs_bin (hx : p.tables.exec = Jvm.exec) (hb : c.code = cc) {I : Instr} {f : Int32 → Int32 → Int32} (hI : z_bin I = some f) (hd : decode cc pc = .ok (I, z_len I)) {x y : Int32}
    (k : W p l e R s m args below meth c H locs cells slots Q (F0 m (pc + z_len I) ls (.int (f x y) :: rest))) : W p l e R s m args below meth c H locs cells slots Q (F0 m pc ls (.int y :: .int x :: rest)) := by
  cases I <;> first | (cases hI; done) | skip
  case iadd => cases hI; exact lv_iadd hx hb hd k
  case isub => cases hI; exact lv_isub hx hb hd k
  case imul => cases hI; exact lv_imul hx hb hd k
  case iand => cases hI; exact lv_iand hx hb hd k
  case ior => cases hI; exact lv_ior hx hb hd k
  case ixor => cases hI; exact lv_ixor hx hb hd k
  case ishl => cases hI; exact lv_ishl hx hb hd k
  case ishr => cases hI; exact lv_ishr hx hb hd k
  case iushr => cases hI; exact lv_iushr hx hb hd rfl k
set_option maxHeartbeats 4000000 in
theorem zs_div (hx : p.tables.exec = Jvm.exec) (hb : c.code = cc) {I : Instr} {f : Int32 → Int32 → Int32} (hI : z_div I = some f) (hd : decode cc pc = .ok (I, z_len I)) {x y : Int32} (hy : ¬ y = 0)
    (k : W p l e R s m args below meth c H locs cells slots Q (F0 m (pc + z_len I) ls (.int (f x y) :: rest))) : W p l e R s m args below meth c H locs cells slots Q (F0 m pc ls (.int y :: .int x :: rest)) := by
  cases I <;> first | (cases hI; done) | skip
  case idiv => cases hI; exact lv_idiv hx hb hd hy k
  case irem => cases hI; exact lv_irem hx hb hd hy k
set_option maxHeartbeats 4000000 in
theorem zs_lbin (hx : p.tables.exec = Jvm.exec) (hb : c.code = cc) {I : Instr} {f : Int64 → Int64 → Int64} (hI : z_lbin I = some f) (hd : decode cc pc = .ok (I, z_len I)) {x y : Int64}
    (k : W p l e R s m args below meth c H locs cells slots Q (F0 m (pc + z_len I) ls (.long (f x y) :: rest))) : W p l e R s m args below meth c H locs cells slots Q (F0 m pc ls (.long y :: .long x :: rest)) := by
  cases I <;> first | (cases hI; done) | skip
  case ladd => cases hI; exact lv_ladd hx hb hd k
  case lsub => cases hI; exact lv_lsub hx hb hd k
  case lmul => cases hI; exact lv_lmul hx hb hd k
  case land => cases hI; exact lv_land hx hb hd k
  case lor => cases hI; exact lv_lor hx hb hd k
set_option maxHeartbeats 4000000 in
theorem zs_un (hx : p.tables.exec = Jvm.exec) (hb : c.code = cc) {I : Instr} {v w : Value} (hI : z_un I v = some w) (hd : decode cc pc = .ok (I, z_len I))
    (k : W p l e R s m args below meth c H locs cells slots Q (F0 m (pc + z_len I) ls (w :: rest))) : W p l e R s m args below meth c H locs cells slots Q (F0 m pc ls (v :: rest)) := by
  cases I <;> first | (cases hI; done) | skip
  case ineg => cases v <;> first | (cases hI; done) | (cases hI; exact lv_ineg hx hb hd k)
  case i2l => cases v <;> first | (cases hI; done) | (cases hI; exact lv_i2l hx hb hd rfl k)
  case l2i => cases v <;> first | (cases hI; done) | (cases hI; exact lv_l2i hx hb hd rfl k)
  case i2b => cases v <;> first | (cases hI; done) | (cases hI; exact lv_i2b hx hb hd rfl k)
set_option maxHeartbeats 4000000 in
theorem zs_icmp (hx : p.tables.exec = Jvm.exec) (hb : c.code = cc) {q : ClassFile.Cond} {off : Int} {tgt : Nat} {x y : Int32} (hd : decode cc pc = .ok (.if_icmp q off, 3)) (ht : (pc : Int) + off = (tgt : Int))
    (kt : z_cond q x y = true → W p l e R s m args below meth c H locs cells slots Q (F0 m tgt ls rest)) (kf : z_cond q x y = false → W p l e R s m args below meth c H locs cells slots Q (F0 m (pc + 3) ls rest)) : W p l e R s m args below meth c H locs cells slots Q (F0 m pc ls (.int y :: .int x :: rest)) := by
  cases q
  case eq => exact lv_icmp_eq hx hb hd ht (fun h => kt (decide_eq_true h)) (fun h => kf (decide_eq_false h))
  case ne => exact lv_icmp_ne hx hb hd ht (fun h => kt (decide_eq_true h)) (fun h => kf (decide_eq_false h))
  case lt => exact lv_icmp_lt hx hb hd ht (fun h => kt (decide_eq_true h)) (fun h => kf (decide_eq_false h))
  case ge => exact lv_icmp_ge hx hb hd ht (fun h => kt (decide_eq_true h)) (fun h => kf (decide_eq_false h))
  case gt => exact lv_icmp_gt hx hb hd ht (fun h => kt (decide_eq_true h)) (fun h => kf (decide_eq_false h))
  case le => exact lv_icmp_le hx hb hd ht (fun h => kt (decide_eq_true h)) (fun h => kf (decide_eq_false h))
set_option maxHeartbeats 4000000 in
theorem zs_if (hx : p.tables.exec = Jvm.exec) (hb : c.code = cc) {q : ClassFile.Cond} {off : Int} {tgt : Nat} {x : Int32} (hd : decode cc pc = .ok (.ifCond q off, 3)) (ht : (pc : Int) + off = (tgt : Int))
    (kt : z_cond q x 0 = true → W p l e R s m args below meth c H locs cells slots Q (F0 m tgt ls rest)) (kf : z_cond q x 0 = false → W p l e R s m args below meth c H locs cells slots Q (F0 m (pc + 3) ls rest)) : W p l e R s m args below meth c H locs cells slots Q (F0 m pc ls (.int x :: rest)) := by
  cases q
  case eq => exact lv_if_eq hx hb hd ht (fun h => kt (decide_eq_true h)) (fun h => kf (decide_eq_false h))
  case ne => exact lv_if_ne hx hb hd ht (fun h => kt (decide_eq_true h)) (fun h => kf (decide_eq_false h))
  case lt => exact lv_if_lt hx hb hd ht (fun h => kt (decide_eq_true h)) (fun h => kf (decide_eq_false h))
  case ge => exact lv_if_ge hx hb hd ht (fun h => kt (decide_eq_true h)) (fun h => kf (decide_eq_false h))
  case gt => exact lv_if_gt hx hb hd ht (fun h => kt (decide_eq_true h)) (fun h => kf (decide_eq_false h))
  case le => exact lv_if_le hx hb hd ht (fun h => kt (decide_eq_true h)) (fun h => kf (decide_eq_false h))
end ZPlain
