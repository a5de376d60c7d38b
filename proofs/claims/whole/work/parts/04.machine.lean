/-! ===== the pure machine: cells have names (0, 1, ..), what they hold is a function of a name and a place ===== -/
abbrev ZI : Type := Nat → Nat → Int32
abbrev ZR : Type := Nat → Nat → Option Nat
abbrev ZL : Type := List (Option Value)
abbrev ZO : Type := Option (Option Value × ZI × ZR × Nat)
abbrev ZK : Type := Nat → ZL → List Value → ZI → ZR → Nat → ZO
abbrev ZC : Type := Nat → ZL → ZI → ZR → Nat → ZO
def zix (i : Int32) : Nat := i.toNatClampNeg
def zup (f : ZI) (a k : Nat) (v : Int32) : ZI := fun b j => if b = a then (if j = k then v else f b j) else f b j
def zur (f : ZR) (a k : Nat) (v : Option Nat) : ZR := fun b j => if b = a then (if j = k then v else f b j) else f b j
def zz (f : ZI) (n : Nat) : ZI := fun b j => if b = n then 0 else f b j
def zzr (f : ZR) (n : Nat) : ZR := fun b j => if b = n then none else f b j
def zzm (f : ZI) (n c : Nat) : ZI := fun b j => if n < b ∧ b ≤ n + c then 0 else f b j
def zrm (f : ZR) (n c : Nat) : ZR := fun b j => if b = n then (if j < c then some (n + 1 + j) else none) else f b j
def zcp (f : ZI) (s sp d dp c : Nat) : ZI := fun b j => if b = d then (if dp ≤ j ∧ j < dp + c then f s (sp + (j - dp)) else f b j) else f b j
def zc (b : Bool) (x : ZO) : ZO := bif b then x else none
def zr (o : Option Nat) (k : Nat → ZO) : ZO := match o with
  | some b => k b
  | none => none
def zbI (o : ZO) (k : Int32 → ZI → ZR → Nat → ZO) : ZO := match o with
  | some (some (.int x), I, R, n) => k x I R n
  | _ => none
def zbR (o : ZO) (k : Nat → ZI → ZR → Nat → ZO) : ZO := match o with
  | some (some (.ref x), I, R, n) => k x I R n
  | _ => none
def zbV (o : ZO) (k : ZI → ZR → Nat → ZO) : ZO := match o with
  | some (none, I, R, n) => k I R n
  | _ => none
def zget : ZL → Nat → Option Value
  | [], _ => none
  | x :: _, 0 => x
  | _ :: xs, k + 1 => zget xs k
def zset : ZL → Nat → Option Value → ZL
  | [], _, _ => []
  | _ :: xs, 0, v => v :: xs
  | x :: xs, k + 1, v => x :: zset xs k v
/-- a local that may be written: there is one, and no long begins right ahead of it -/
def zok : ZL → Nat → Bool
  | [], _ => false
  | _ :: _, 0 => true
  | x :: xs, k + 1 => match k, x with
    | 0, some (.long _) => false
    | 0, some (.double _) => false
    | k, _ => zok xs k
def zmask : List Bool → ZL → ZL
  | [], ls => ls
  | _ :: _, [] => []
  | b :: bs, x :: ls => (bif b then x else none) :: zmask bs ls
def zwords : List Value → Nat
  | [] => 0
  | .long _ :: st => zwords st + 2
  | .double _ :: st => zwords st + 2
  | _ :: st => zwords st + 1
def zcat1 : Value → Bool
  | .long _ => false
  | .double _ => false
  | _ => true
def zpad : Nat → ZL
  | 0 => []
  | k + 1 => none :: zpad k
/-- the locals at a method's start -/
def zloc : Nat → List Value → ZL
  | k, [] => zpad k
  | k + 2, .long x :: vs => some (.long x) :: none :: zloc k vs
  | k + 1, v :: vs => some v :: zloc k vs
  | 0, _ :: _ => []
def zpop : Nat → List Value → List Value → (List Value → List Value → ZO) → ZO
  | 0, st, acc, k => k acc st
  | m + 1, v :: st, acc, k => zpop m st (v :: acc) k
  | _ + 1, [], _, _ => none
def zbool (x : Int32) : Bool := decide (x = 0) || decide (x = 1)
def zi (st : List Value) (k : Int32 → List Value → ZO) : ZO := match st with
  | .int x :: st => k x st
  | _ => none
def zii (st : List Value) (k : Int32 → Int32 → List Value → ZO) : ZO := match st with
  | .int y :: .int x :: st => k x y st
  | _ => none
def zll (st : List Value) (k : Int64 → Int64 → List Value → ZO) : ZO := match st with
  | .long y :: .long x :: st => k x y st
  | _ => none
def zil (st : List Value) (k : Int64 → Int32 → List Value → ZO) : ZO := match st with
  | .int y :: .long x :: st => k x y st
  | _ => none
def zl (st : List Value) (k : Int64 → List Value → ZO) : ZO := match st with
  | .long x :: st => k x st
  | _ => none
def za (st : List Value) (k : Nat → List Value → ZO) : ZO := match st with
  | .ref x :: st => k x st
  | _ => none
def zia (st : List Value) (k : Nat → Int32 → List Value → ZO) : ZO := match st with
  | .int i :: .ref a :: st => k a i st
  | _ => none
def zgi (ls : ZL) (a : Nat) (k : Int32 → ZO) : ZO := match zget ls a with
  | some (.int x) => k x
  | _ => none
def zgl (ls : ZL) (a : Nat) (k : Int64 → ZO) : ZO := match zget ls a with
  | some (.long x) => k x
  | _ => none
def zga (ls : ZL) (a : Nat) (k : Nat → ZO) : ZO := match zget ls a with
  | some (.ref x) => k x
  | _ => none
def zci (v : Value) (k : Int32 → ZO) : ZO := match v with
  | .int x => k x
  | _ => none
def zbr (q : ClassFile.Cond) (x y : Int32) (t f : ZO) : ZO := match q with
  | .eq => if x = y then t else f
  | .ne => if x = y then f else t
  | .lt => if x < y then t else f
  | .ge => if x < y then f else t
  | .gt => if y < x then t else f
  | .le => if y < x then f else t
def zsw (x : Int32) (k : Nat → ZO) (d : Nat) : List (Int32 × Nat) → ZO
  | [] => k d
  | (c, t) :: ps => if x = c then k t else zsw x k d ps
/-- is a there, and of this kind -/
def zis (n a k : Nat) : Bool := (Nat.blt a n || Nat.ble 1000 a) && Nat.beq (z_kd a) k
def zin (a : Nat) (i : Int32) : Bool := !(decide (i < 0)) && Nat.blt (zix i) (z_ln a)
def zrcv (y n : Nat) (vs : List Value) : Bool := bif Nat.beq (z_oc y) 50 then true else match vs with
  | .ref o :: _ => zis n o (z_oc y)
  | _ => false
def zmka (n : Nat) (m k : Int32) : Bool := !(decide (m < 0)) && !(decide (k < 0)) && Nat.beq (z_kd n) 22 && Nat.beq (z_ln n) (zix m) && Nat.ble (zix k) 8008 && (List.range (zix m)).all (fun j => Nat.beq (z_kd (n + 1 + j)) 20 && Nat.beq (z_ln (n + 1 + j)) (zix k))
def zcall (nx a b : Nat) (K : ZK) (C : ZC) (ls : ZL) (st : List Value) (I : ZI) (R : ZR) (n : Nat) : ZO := match b with
  | 0 => zpop (z_np a) st [] fun vs st => zc (Nat.ble (zwords st) 8 && Nat.ble (zwords vs) (z_ml a)) (zc (zrcv a n vs) (zbV (C a (zloc (z_ml a) vs) I R n) fun I R n => K nx ls st I R n))
  | 1 => zpop (z_np a) st [] fun vs st => zc (Nat.ble (zwords st) 8 && Nat.ble (zwords vs) (z_ml a)) (zc (zrcv a n vs) (zbI (C a (zloc (z_ml a) vs) I R n) fun x I R n => K nx ls (.int x :: st) I R n))
  | 2 => zpop (z_np a) st [] fun vs st => zc (Nat.ble (zwords st) 8 && Nat.ble (zwords vs) (z_ml a)) (zc (zrcv a n vs) (zbR (C a (zloc (z_ml a) vs) I R n) fun x I R n => K nx ls (.ref x :: st) I R n))
  | 10 => zii st fun x y st => zc (Nat.ble (zwords st) 8) (K nx ls (.int (if x < y then y else x) :: st) I R n)
  | 11 => zii st fun x y st => zc (Nat.ble (zwords st) 8) (K nx ls (.int (if y < x then y else x) :: st) I R n)
  | 12 => zi st fun x st => zc (Nat.ble (zwords st) 8) (K nx ls (.int (if 0 ≤ x then x else 0 - x) :: st) I R n)
  | 13 => za st fun _ st => zc (Nat.ble (zwords st) 8) (K nx ls st I R n)
  | 14 => zii st fun dp c st => za st fun d st => zi st fun sp st => za st fun s st => zc (Nat.ble (zwords st) 8) (zc (zis n s 20 && zis n d 20 && !(Nat.beq s d)) (zc (!(decide (sp < 0)) && !(decide (dp < 0)) && !(decide (c < 0)) && Nat.ble (zix sp + zix c) (z_ln s) && Nat.ble (zix dp + zix c) (z_ln d)) (K nx ls st (zcp I s (zix sp) d (zix dp) (zix c)) R n)))
  | 15 => za st fun s st => zc (Nat.ble (zwords st) 8) (zc (zis n s 25) (K nx ls (.int (Int32.ofNat (z_ln s)) :: st) I R n))
  | 16 => zia st fun s i st => zc (Nat.ble (zwords st) 8) (zc (zis n s 25 && zin s i) (K nx ls (.int (Int32.ofNat (z_ch s (zix i))) :: st) I R n))
  | _ => none
def zdo (i : Instr) (rt nx a b : Nat) (v : Value) (sw : List (Int32 × Nat)) (K : ZK) (C : ZC) (ls : ZL) (st : List Value) (I : ZI) (R : ZR) (n : Nat) : ZO :=
  match i with
  | .iconst _ => K nx ls (v :: st) I R n
  | .bipush _ => K nx ls (v :: st) I R n
  | .sipush _ => K nx ls (v :: st) I R n
  | .lconst _ => K nx ls (v :: st) I R n
  | .ldc _ => K nx ls (v :: st) I R n
  | .ldc_w _ => K nx ls (v :: st) I R n
  | .ldc2_w _ => K nx ls (v :: st) I R n
  | .getstatic _ => K nx ls (v :: st) I R n
  | .iload _ => zgi ls a fun x => K nx ls (.int x :: st) I R n
  | .iload_n _ => zgi ls a fun x => K nx ls (.int x :: st) I R n
  | .lload _ => zgl ls a fun x => K nx ls (.long x :: st) I R n
  | .lload_n _ => zgl ls a fun x => K nx ls (.long x :: st) I R n
  | .aload _ => zga ls a fun x => K nx ls (.ref x :: st) I R n
  | .aload_n _ => zga ls a fun x => K nx ls (.ref x :: st) I R n
  | .istore _ => zi st fun x st => zc (zok ls a) (K nx (zset ls a (some (.int x))) st I R n)
  | .istore_n _ => zi st fun x st => zc (zok ls a) (K nx (zset ls a (some (.int x))) st I R n)
  | .astore _ => za st fun x st => zc (zok ls a) (K nx (zset ls a (some (.ref x))) st I R n)
  | .astore_n _ => za st fun x st => zc (zok ls a) (K nx (zset ls a (some (.ref x))) st I R n)
  | .lstore _ => zl st fun x st => zc (zok ls a && Nat.blt (a + 1) ls.length) (K nx (zset (zset ls a (some (.long x))) (a + 1) none) st I R n)
  | .lstore_n _ => zl st fun x st => zc (zok ls a && Nat.blt (a + 1) ls.length) (K nx (zset (zset ls a (some (.long x))) (a + 1) none) st I R n)
  | .iinc _ _ => zgi ls a fun x => zci v fun d => zc (zok ls a) (K nx (zset ls a (some (.int (x + d)))) st I R n)
  | .iadd => zii st fun x y st => K nx ls (.int (x + y) :: st) I R n
  | .isub => zii st fun x y st => K nx ls (.int (x - y) :: st) I R n
  | .imul => zii st fun x y st => K nx ls (.int (x * y) :: st) I R n
  | .iand => zii st fun x y st => K nx ls (.int (x &&& y) :: st) I R n
  | .ior => zii st fun x y st => K nx ls (.int (x ||| y) :: st) I R n
  | .ixor => zii st fun x y st => K nx ls (.int (x ^^^ y) :: st) I R n
  | .ishl => zii st fun x y st => K nx ls (.int (x <<< (y &&& 31)) :: st) I R n
  | .ishr => zii st fun x y st => K nx ls (.int (x >>> (y &&& 31)) :: st) I R n
  | .iushr => zii st fun x y st => K nx ls (.int ((x.toUInt32 >>> (y.toUInt32 &&& Int32.toUInt32 31)).toInt32) :: st) I R n
  | .idiv => zii st fun x y st => zc (!(decide (y = 0))) (K nx ls (.int (x / y) :: st) I R n)
  | .irem => zii st fun x y st => zc (!(decide (y = 0))) (K nx ls (.int (x - x / y * y) :: st) I R n)
  | .ineg => zi st fun x st => K nx ls (.int (-x) :: st) I R n
  | .i2l => zi st fun x st => K nx ls (.long x.toInt64 :: st) I R n
  | .i2b => zi st fun x st => K nx ls (.int x.toInt8.toInt32 :: st) I R n
  | .l2i => zl st fun x st => K nx ls (.int x.toInt32 :: st) I R n
  | .ladd => zll st fun x y st => K nx ls (.long (x + y) :: st) I R n
  | .lsub => zll st fun x y st => K nx ls (.long (x - y) :: st) I R n
  | .lmul => zll st fun x y st => K nx ls (.long (x * y) :: st) I R n
  | .lrem => zll st fun x y st => zc (!(decide (y = 0))) (K nx ls (.long (x - x / y * y) :: st) I R n)
  | .lushr => zil st fun x y st => K nx ls (.long ((x.toUInt64 >>> (y.toInt64.toUInt64 &&& Int64.toUInt64 63)).toInt64) :: st) I R n
  | .lcmp => zll st fun x y st => K nx ls (.int (lg_cmp x y) :: st) I R n
  | .dup => match st with
    | v :: st => zc (zcat1 v) (K nx ls (v :: v :: st) I R n)
    | _ => none
  | .pop => match st with
    | v :: st => zc (zcat1 v) (K nx ls st I R n)
    | _ => none
  | .dup2 => match st with
    | v :: w :: st => zc (zcat1 v && zcat1 w) (K nx ls (v :: w :: v :: w :: st) I R n)
    | _ => none
  | .goto _ => K a ls st I R n
  | .ifCond q _ => zi st fun x st => zbr q x 0 (K a ls st I R n) (K nx ls st I R n)
  | .if_icmp q _ => zii st fun x y st => zbr q x y (K a ls st I R n) (K nx ls st I R n)
  | .tableswitch _ _ _ _ => zi st fun x st => zsw x (fun t => K t ls st I R n) a sw
  | .lookupswitch _ _ => zi st fun x st => zsw x (fun t => K t ls st I R n) a sw
  | .getfield _ => za st fun o st => zc (zis n o a) (bif Nat.beq (z_ft a b) 2 then zr (R o b) (fun x => K nx ls (.ref x :: st) I R n) else K nx ls (.int (I o b) :: st) I R n)
  | .putfield _ => bif Nat.beq (z_ft a b) 2 then (za st fun x st => za st fun o st => zc (zis n o a) (K nx ls st I (zur R o b (some x)) n)) else (zi st fun x st => za st fun o st => zc (zis n o a) (zc (Nat.beq (z_ft a b) 0 || zbool x) (K nx ls st (zup I o b x) R n)))
  | .iaload => zia st fun o i st => zc ((zis n o 20 || zis n o 24) && zin o i) (K nx ls (.int (I o (zix i)) :: st) I R n)
  | .baload => zia st fun o i st => zc (zis n o 21 && zin o i) (K nx ls (.int (I o (zix i)) :: st) I R n)
  | .aaload => zia st fun o i st => zc ((zis n o 22 || zis n o 23) && zin o i) (zr (R o (zix i)) fun x => K nx ls (.ref x :: st) I R n)
  | .iastore => zi st fun x st => zia st fun o i st => zc (zis n o 20 && zin o i) (K nx ls st (zup I o (zix i) x) R n)
  | .bastore => zi st fun x st => zia st fun o i st => zc (zis n o 21 && zin o i) (K nx ls st (zup I o (zix i) x.toInt8.toInt32) R n)
  | .aastore => za st fun x st => zia st fun o i st => zc (zis n o 23 && zin o i && zis n x 4) (K nx ls st I (zur R o (zix i) (some x)) n)
  | .arraylength => za st fun o st => zc (zis n o 20 || zis n o 21 || zis n o 22 || zis n o 23) (K nx ls (.int (Int32.ofNat (z_ln o)) :: st) I R n)
  | .new _ => zc (Nat.blt a 10 && Nat.beq (z_kd n) a) (K nx ls (.ref n :: st) (zz I n) (zzr R n) (n + 1))
  | .newarray ty => zi st fun x st => zc (Nat.beq (z_kd n) (match ty with | .int => 20 | .byte => 21 | _ => 77) && !(decide (x < 0)) && Nat.beq (z_ln n) (zix x)) (K nx ls (.ref n :: st) (zz I n) R (n + 1))
  | .anewarray _ => zi st fun x st => zc (Nat.beq (z_kd n) 23 && !(decide (x < 0)) && Nat.beq (z_ln n) (zix x)) (K nx ls (.ref n :: st) I (zzr R n) (n + 1))
  | .multianewarray _ d => zii st fun m k st => zc (Nat.beq d 2 && zmka n m k) (K nx ls (.ref n :: st) (zzm I n (zix m)) (zrm R n (zix m)) (n + 1 + zix m))
  | .invokevirtual _ => zcall nx a b K C ls st I R n
  | .invokestatic _ => zcall nx a b K C ls st I R n
  | .invokespecial _ => zcall nx a b K C ls st I R n
  | .ireturn => match rt, st with
    | 1, [.int x] => some (some (.int x), I, R, n)
    | 2, [.int x] => zc (zbool x) (some (some (.int x), I, R, n))
    | _, _ => none
  | .areturn => match rt, st with
    | 3, [.ref x] => some (some (.ref x), I, R, n)
    | _, _ => none
  | .return_ => match rt with
    | 0 => some (none, I, R, n)
    | _ => none
  | _ => none
/-- one instruction of method m -/
def zst (m : Nat) (K : ZK) (C : ZC) : ZK := fun pc ls st I R n => match z_I m pc with
  | some (i, nx, a, b, v, msk, sw) => zdo i (z_rt m) nx a b v sw K C (zmask msk ls) st I R n
  | none => none
/-- so many instructions at most -/
def zev : Nat → Nat → ZK
  | 0 => fun _ _ _ _ _ _ _ => none
  | k + 1 => fun m => zst m (zev k m) (fun y ls I R n => zev k y 0 ls [] I R n)
