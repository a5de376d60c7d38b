/-! ===== each entry of the tables is the instruction that stands there, and its links are the tables' ===== -/
def zveq (v w : Value) : Bool := match v, w with
  | .int x, .int y => decide (x = y)
  | .long x, .long y => decide (x = y)
  | _, _ => false
def zhF (c i a b : Nat) : Bool := (z_FL c).any fun q => Nat.beq q.1 i && Nat.beq q.2.1 a && Nat.beq q.2.2.1 b
def zhM (c i a : Nat) : Bool := (z_ML c).any fun q => Nat.beq q.1 i && Nat.beq q.2.1 a
def zhP (c i k : Nat) : Bool := (z_PL c).any fun q => Nat.beq q.1 i && Nat.beq q.2.1 k
def zhC (c i a : Nat) : Bool := (z_CL c).any fun q => Nat.beq q.1 i && Nat.beq q.2.1 a
def zhK (c i : Nat) (v : Value) : Bool := (z_KL c).any fun q => Nat.beq q.1 i && zveq q.2.1 v
def zhS (c i j : Nat) : Bool := (z_SL c).any fun q => Nat.beq q.1 i && Nat.beq q.2.1 j
def zhG (c i j : Nat) : Bool := (z_GL c).any fun q => Nat.beq q.1 i && Nat.beq q.2.1 j
def zswL (pc : Nat) : List (Int × Int) → List (Int32 × Nat) → Bool
  | [], [] => true
  | (k, o) :: ps, (x, t) :: sw => decide (x.toInt = k) && decide ((pc : Int) + o = (t : Int)) && zswL pc ps sw
  | _, _ => false
def zswT (pc : Nat) (lo : Int) : List Int → List (Int32 × Nat) → Bool
  | [], [] => true
  | o :: os, (x, t) :: sw => decide (x.toInt = lo) && decide ((pc : Int) + o = (t : Int)) && zswT pc (lo + 1) os sw
  | _, _ => false
def zroom (m a : Nat) : Bool := Nat.ble (z_fr a + 1) (z_fr m) && Nat.ble (8 + (z_ml a + 11) + z_lo a) (z_lo m)
def zfit (m pc : Nat) (i : Instr) (a b : Nat) (v : Value) (sw : List (Int32 × Nat)) : Bool := match i with
  | .iconst k => zveq v (.int (Int32.ofInt k))
  | .bipush k => zveq v (.int (Int8.ofInt k).toInt32)
  | .sipush k => zveq v (.int (Int16.ofInt k).toInt32)
  | .lconst k => zveq v (.long (Int64.ofNat k.val))
  | .ldc k => match v with
    | .ref q => Nat.ble 1000 q && zhS (z_own m) k (q - 1000)
    | .int _ => zhK (z_own m) k v
    | _ => false
  | .ldc_w k => match v with
    | .int _ => zhK (z_own m) k v
    | _ => false
  | .ldc2_w k => match v with
    | .long _ => zhK (z_own m) k v
    | _ => false
  | .getstatic k => match v with
    | .ref q => Nat.ble 1010 q && zhG (z_own m) k (q - 1010)
    | _ => false
  | .iload k => Nat.beq k a
  | .lload k => Nat.beq k a
  | .aload k => Nat.beq k a
  | .istore k => Nat.beq k a
  | .lstore k => Nat.beq k a
  | .astore k => Nat.beq k a
  | .iload_n k => Nat.beq k.val a
  | .lload_n k => Nat.beq k.val a
  | .aload_n k => Nat.beq k.val a
  | .istore_n k => Nat.beq k.val a
  | .lstore_n k => Nat.beq k.val a
  | .astore_n k => Nat.beq k.val a
  | .iinc k d => Nat.beq k a && zveq v (.int (Int32.ofInt d))
  | .goto off => decide ((pc : Int) + off = (a : Int))
  | .ifCond _ off => decide ((pc : Int) + off = (a : Int))
  | .if_icmp _ off => decide ((pc : Int) + off = (a : Int))
  | .tableswitch d lo hi offs => decide ((pc : Int) + d = (a : Int)) && decide (hi = lo + (offs.toList.length : Int) - 1) && zswT pc lo offs.toList sw
  | .lookupswitch d ps => decide ((pc : Int) + d = (a : Int)) && (ps.toList.zip (ps.toList.drop 1)).all (fun (a, next) => a.1 < next.1) && zswL pc ps.toList sw
  | .getfield k => zhF (z_own m) k a b
  | .putfield k => zhF (z_own m) k a b && (!((z_T a b).2.2.2) || (z_in m && decide ((z_T a b).1 = z_cn (z_own m))))
  | .new k => Nat.ble 10 a || zhC (z_own m) k a
  | .anewarray k => zhC (z_own m) k 4
  | .multianewarray k _ => zhC (z_own m) k 22
  | .invokevirtual k => (Nat.blt b 3 && zhM (z_own m) k a && !(Nat.beq (z_oc a) 50) && !(z_in a) && zroom m a) || (Nat.beq b 15 && zhP (z_own m) k 15 && Nat.ble 5 (z_fr m) && Nat.ble 110 (z_lo m)) || (Nat.beq b 16 && zhP (z_own m) k 16 && Nat.ble 5 (z_fr m) && Nat.ble 110 (z_lo m))
  | .invokestatic k => (Nat.blt b 3 && zhM (z_own m) k a && Nat.beq (z_oc a) 50 && zroom m a) || ((Nat.beq b 10 || Nat.beq b 11 || Nat.beq b 12) && zhP (z_own m) k b && Nat.ble 1 (z_fr m) && Nat.ble 22 (z_lo m)) || (Nat.beq b 14 && zhP (z_own m) k 14 && Nat.ble 1 (z_fr m) && Nat.ble 60 (z_lo m))
  | .invokespecial k => Nat.beq b 99 || (Nat.beq b 0 && zhM (z_own m) k a && !(Nat.beq (z_oc a) 50) && z_in a && zroom m a) || (Nat.beq b 13 && zhP (z_own m) k 13 && Nat.ble 1 (z_fr m) && Nat.ble 22 (z_lo m))
  | _ => true
def zisw : Instr → Bool
  | .tableswitch _ _ _ _ => true
  | .lookupswitch _ _ => true
  | _ => false
def zlenI : Instr → Nat
  | .bipush _ => 2
  | .ldc _ => 2
  | .iload _ => 2
  | .lload _ => 2
  | .aload _ => 2
  | .istore _ => 2
  | .lstore _ => 2
  | .astore _ => 2
  | .newarray _ => 2
  | .sipush _ => 3
  | .ldc_w _ => 3
  | .ldc2_w _ => 3
  | .iinc _ _ => 3
  | .ifCond _ _ => 3
  | .if_icmp _ _ => 3
  | .goto _ => 3
  | .getfield _ => 3
  | .putfield _ => 3
  | .getstatic _ => 3
  | .new _ => 3
  | .anewarray _ => 3
  | .multianewarray _ _ => 4
  | .invokevirtual _ => 3
  | .invokestatic _ => 3
  | .invokespecial _ => 3
  | _ => 1
def zokE (m pc : Nat) : Bool := match z_I m pc with
  | none => true
  | some (i, nx, a, b, v, _, sw) => decide (decode (z_by m) pc = .ok (i, nx - pc)) && Nat.blt pc nx && (zisw i || Nat.beq nx (pc + zlenI i)) && zfit m pc i a b v sw
set_option maxRecDepth 100000 in
theorem zok_0 : ∀ pc, pc < z_sz 0 → zokE 0 pc = true := by decide +kernel
set_option maxRecDepth 100000 in
theorem zok_1 : ∀ pc, pc < z_sz 1 → zokE 1 pc = true := by decide +kernel
set_option maxRecDepth 100000 in
theorem zok_2 : ∀ pc, pc < z_sz 2 → zokE 2 pc = true := by decide +kernel
set_option maxRecDepth 100000 in
theorem zok_3 : ∀ pc, pc < z_sz 3 → zokE 3 pc = true := by decide +kernel
set_option maxRecDepth 100000 in
theorem zok_4 : ∀ pc, pc < z_sz 4 → zokE 4 pc = true := by decide +kernel
set_option maxRecDepth 100000 in
theorem zok_5 : ∀ pc, pc < z_sz 5 → zokE 5 pc = true := by decide +kernel
set_option maxRecDepth 100000 in
theorem zok_6 : ∀ pc, pc < z_sz 6 → zokE 6 pc = true := by decide +kernel
set_option maxRecDepth 100000 in
theorem zok_7 : ∀ pc, pc < z_sz 7 → zokE 7 pc = true := by decide +kernel
set_option maxRecDepth 100000 in
theorem zok_8 : ∀ pc, pc < z_sz 8 → zokE 8 pc = true := by decide +kernel
set_option maxRecDepth 100000 in
theorem zok_9 : ∀ pc, pc < z_sz 9 → zokE 9 pc = true := by decide +kernel
set_option maxRecDepth 100000 in
theorem zok_10 : ∀ pc, pc < z_sz 10 → zokE 10 pc = true := by decide +kernel
set_option maxRecDepth 100000 in
theorem zok_11 : ∀ pc, pc < z_sz 11 → zokE 11 pc = true := by decide +kernel
set_option maxRecDepth 100000 in
theorem zok_12 : ∀ pc, pc < z_sz 12 → zokE 12 pc = true := by decide +kernel
set_option maxRecDepth 100000 in
theorem zok_13 : ∀ pc, pc < z_sz 13 → zokE 13 pc = true := by decide +kernel
set_option maxRecDepth 100000 in
theorem zok_14 : ∀ pc, pc < z_sz 14 → zokE 14 pc = true := by decide +kernel
set_option maxRecDepth 100000 in
theorem zok_15 : ∀ pc, pc < z_sz 15 → zokE 15 pc = true := by decide +kernel
set_option maxRecDepth 100000 in
theorem zok_16 : ∀ pc, pc < z_sz 16 → zokE 16 pc = true := by decide +kernel
set_option maxRecDepth 100000 in
theorem zok_17 : ∀ pc, pc < z_sz 17 → zokE 17 pc = true := by decide +kernel
set_option maxRecDepth 100000 in
theorem zok_18 : ∀ pc, pc < z_sz 18 → zokE 18 pc = true := by decide +kernel
set_option maxRecDepth 100000 in
theorem zok_19 : ∀ pc, pc < z_sz 19 → zokE 19 pc = true := by decide +kernel
set_option maxRecDepth 100000 in
theorem zok_20 : ∀ pc, pc < z_sz 20 → zokE 20 pc = true := by decide +kernel
set_option maxRecDepth 100000 in
theorem zok_21 : ∀ pc, pc < z_sz 21 → zokE 21 pc = true := by decide +kernel
set_option maxRecDepth 100000 in
theorem zok_22 : ∀ pc, pc < z_sz 22 → zokE 22 pc = true := by decide +kernel
set_option maxRecDepth 100000 in
theorem zok_23 : ∀ pc, pc < z_sz 23 → zokE 23 pc = true := by decide +kernel
set_option maxRecDepth 100000 in
theorem zok_24 : ∀ pc, pc < z_sz 24 → zokE 24 pc = true := by decide +kernel
set_option maxRecDepth 100000 in
theorem zok_25 : ∀ pc, pc < z_sz 25 → zokE 25 pc = true := by decide +kernel
set_option maxRecDepth 100000 in
theorem zok_26 : ∀ pc, pc < z_sz 26 → zokE 26 pc = true := by decide +kernel
set_option maxRecDepth 100000 in
theorem zok_27 : ∀ pc, pc < z_sz 27 → zokE 27 pc = true := by decide +kernel
set_option maxRecDepth 100000 in
theorem zok_28 : ∀ pc, pc < z_sz 28 → zokE 28 pc = true := by decide +kernel
set_option maxRecDepth 100000 in
theorem zok_29 : ∀ pc, pc < z_sz 29 → zokE 29 pc = true := by decide +kernel
set_option maxRecDepth 100000 in
theorem zok_30 : ∀ pc, pc < z_sz 30 → zokE 30 pc = true := by decide +kernel
set_option maxRecDepth 100000 in
theorem zok_31 : ∀ pc, pc < z_sz 31 → zokE 31 pc = true := by decide +kernel
set_option maxRecDepth 100000 in
theorem zok_32 : ∀ pc, pc < z_sz 32 → zokE 32 pc = true := by decide +kernel
set_option maxRecDepth 100000 in
theorem zok_33 : ∀ pc, pc < z_sz 33 → zokE 33 pc = true := by decide +kernel
set_option maxRecDepth 100000 in
theorem zok_34 : ∀ pc, pc < z_sz 34 → zokE 34 pc = true := by decide +kernel
set_option maxRecDepth 100000 in
theorem zok_35 : ∀ pc, pc < z_sz 35 → zokE 35 pc = true := by decide +kernel
set_option maxRecDepth 100000 in
theorem zok_36 : ∀ pc, pc < z_sz 36 → zokE 36 pc = true := by decide +kernel
set_option maxRecDepth 100000 in
theorem zok_37 : ∀ pc, pc < z_sz 37 → zokE 37 pc = true := by decide +kernel
set_option maxRecDepth 100000 in
theorem zok_38 : ∀ pc, pc < z_sz 38 → zokE 38 pc = true := by decide +kernel
set_option maxRecDepth 100000 in
theorem zok_39 : ∀ pc, pc < z_sz 39 → zokE 39 pc = true := by decide +kernel
set_option maxRecDepth 100000 in
theorem zok_40 : ∀ pc, pc < z_sz 40 → zokE 40 pc = true := by decide +kernel
set_option maxRecDepth 100000 in
theorem zok_41 : ∀ pc, pc < z_sz 41 → zokE 41 pc = true := by decide +kernel
set_option maxRecDepth 100000 in
theorem zok_42 : ∀ pc, pc < z_sz 42 → zokE 42 pc = true := by decide +kernel
set_option maxRecDepth 100000 in
theorem zok_43 : ∀ pc, pc < z_sz 43 → zokE 43 pc = true := by decide +kernel
set_option maxRecDepth 100000 in
theorem zok_44 : ∀ pc, pc < z_sz 44 → zokE 44 pc = true := by decide +kernel
set_option maxRecDepth 100000 in
theorem zok_45 : ∀ pc, pc < z_sz 45 → zokE 45 pc = true := by decide +kernel
set_option maxRecDepth 100000 in
theorem zok_46 : ∀ pc, pc < z_sz 46 → zokE 46 pc = true := by decide +kernel
set_option maxRecDepth 100000 in
theorem zok_47 : ∀ pc, pc < z_sz 47 → zokE 47 pc = true := by decide +kernel
set_option maxRecDepth 100000 in
theorem zok_48 : ∀ pc, pc < z_sz 48 → zokE 48 pc = true := by decide +kernel
set_option maxRecDepth 100000 in
theorem zok_49 : ∀ pc, pc < z_sz 49 → zokE 49 pc = true := by decide +kernel
set_option maxRecDepth 100000 in
theorem zok_50 : ∀ pc, pc < z_sz 50 → zokE 50 pc = true := by decide +kernel
set_option maxRecDepth 100000 in
theorem zok_51 : ∀ pc, pc < z_sz 51 → zokE 51 pc = true := by decide +kernel
set_option maxRecDepth 100000 in
theorem zok_52 : ∀ pc, pc < z_sz 52 → zokE 52 pc = true := by decide +kernel
set_option maxRecDepth 100000 in
theorem zok_53 : ∀ pc, pc < z_sz 53 → zokE 53 pc = true := by decide +kernel
set_option maxRecDepth 100000 in
theorem zok_54 : ∀ pc, pc < z_sz 54 → zokE 54 pc = true := by decide +kernel
set_option maxRecDepth 100000 in
theorem zok_55 : ∀ pc, pc < z_sz 55 → zokE 55 pc = true := by decide +kernel
set_option maxRecDepth 100000 in
theorem zok_56 : ∀ pc, pc < z_sz 56 → zokE 56 pc = true := by decide +kernel
set_option maxRecDepth 100000 in
theorem zok_57 : ∀ pc, pc < z_sz 57 → zokE 57 pc = true := by decide +kernel
set_option maxRecDepth 100000 in
theorem zok_58 : ∀ pc, pc < z_sz 58 → zokE 58 pc = true := by decide +kernel
set_option maxRecDepth 100000 in
theorem zok_59 : ∀ pc, pc < z_sz 59 → zokE 59 pc = true := by decide +kernel
set_option maxRecDepth 100000 in
theorem zok_60 : ∀ pc, pc < z_sz 60 → zokE 60 pc = true := by decide +kernel
set_option maxRecDepth 100000 in
theorem zok_61 : ∀ pc, pc < z_sz 61 → zokE 61 pc = true := by decide +kernel
set_option maxRecDepth 100000 in
theorem zok_62 : ∀ pc, pc < z_sz 62 → zokE 62 pc = true := by decide +kernel
set_option maxRecDepth 100000 in
theorem zok_63 : ∀ pc, pc < z_sz 63 → zokE 63 pc = true := by decide +kernel
set_option maxRecDepth 100000 in
theorem zok_64 : ∀ pc, pc < z_sz 64 → zokE 64 pc = true := by decide +kernel
set_option maxRecDepth 100000 in
theorem zok_65 : ∀ pc, pc < z_sz 65 → zokE 65 pc = true := by decide +kernel
set_option maxRecDepth 100000 in
theorem zok_66 : ∀ pc, pc < z_sz 66 → zokE 66 pc = true := by decide +kernel
set_option maxRecDepth 100000 in
theorem zok_67 : ∀ pc, pc < z_sz 67 → zokE 67 pc = true := by decide +kernel
set_option maxRecDepth 100000 in
theorem zok_68 : ∀ pc, pc < z_sz 68 → zokE 68 pc = true := by decide +kernel
set_option maxRecDepth 100000 in
theorem zok_69 : ∀ pc, pc < z_sz 69 → zokE 69 pc = true := by decide +kernel
set_option maxRecDepth 100000 in
theorem zok_70 : ∀ pc, pc < z_sz 70 → zokE 70 pc = true := by decide +kernel
set_option maxRecDepth 100000 in
theorem zok_71 : ∀ pc, pc < z_sz 71 → zokE 71 pc = true := by decide +kernel
set_option maxRecDepth 100000 in
theorem zok_72 : ∀ pc, pc < z_sz 72 → zokE 72 pc = true := by decide +kernel
set_option maxRecDepth 100000 in
theorem zok_73 : ∀ pc, pc < z_sz 73 → zokE 73 pc = true := by decide +kernel
set_option maxRecDepth 100000 in
theorem zok_74 : ∀ pc, pc < z_sz 74 → zokE 74 pc = true := by decide +kernel
set_option maxRecDepth 100000 in
theorem zok_75 : ∀ pc, pc < z_sz 75 → zokE 75 pc = true := by decide +kernel
set_option maxRecDepth 100000 in
theorem zok_76 : ∀ pc, pc < z_sz 76 → zokE 76 pc = true := by decide +kernel
set_option maxRecDepth 100000 in
theorem zok_77 : ∀ pc, pc < z_sz 77 → zokE 77 pc = true := by decide +kernel
set_option maxRecDepth 100000 in
theorem zok_78 : ∀ pc, pc < z_sz 78 → zokE 78 pc = true := by decide +kernel
set_option maxRecDepth 100000 in
theorem zok_79 : ∀ pc, pc < z_sz 79 → zokE 79 pc = true := by decide +kernel
set_option maxRecDepth 100000 in
theorem zok_80 : ∀ pc, pc < z_sz 80 → zokE 80 pc = true := by decide +kernel
set_option maxRecDepth 100000 in
theorem zok_81 : ∀ pc, pc < z_sz 81 → zokE 81 pc = true := by decide +kernel
set_option maxRecDepth 100000 in
theorem zok_82 : ∀ pc, pc < z_sz 82 → zokE 82 pc = true := by decide +kernel
set_option maxRecDepth 100000 in
theorem zok_83 : ∀ pc, pc < z_sz 83 → zokE 83 pc = true := by decide +kernel
set_option maxRecDepth 100000 in
theorem zok_84 : ∀ pc, pc < z_sz 84 → zokE 84 pc = true := by decide +kernel
set_option maxRecDepth 100000 in
theorem zok_85 : ∀ pc, pc < z_sz 85 → zokE 85 pc = true := by decide +kernel
set_option maxRecDepth 100000 in
theorem zok_86 : ∀ pc, pc < z_sz 86 → zokE 86 pc = true := by decide +kernel
set_option maxRecDepth 100000 in
theorem zok_87 : ∀ pc, pc < z_sz 87 → zokE 87 pc = true := by decide +kernel
set_option maxRecDepth 100000 in
theorem zok_88 : ∀ pc, pc < z_sz 88 → zokE 88 pc = true := by decide +kernel
set_option maxRecDepth 100000 in
theorem zok_89 : ∀ pc, pc < z_sz 89 → zokE 89 pc = true := by decide +kernel
set_option maxRecDepth 100000 in
theorem zok_90 : ∀ pc, pc < z_sz 90 → zokE 90 pc = true := by decide +kernel
set_option maxRecDepth 100000 in
theorem zok_91 : ∀ pc, pc < z_sz 91 → zokE 91 pc = true := by decide +kernel
set_option maxRecDepth 100000 in
theorem zok_92 : ∀ pc, pc < z_sz 92 → zokE 92 pc = true := by decide +kernel
set_option maxRecDepth 100000 in
theorem zok_93 : ∀ pc, pc < z_sz 93 → zokE 93 pc = true := by decide +kernel
set_option maxRecDepth 100000 in
theorem zok_94 : ∀ pc, pc < z_sz 94 → zokE 94 pc = true := by decide +kernel
set_option maxRecDepth 100000 in
theorem zok_95 : ∀ pc, pc < z_sz 95 → zokE 95 pc = true := by decide +kernel
set_option maxRecDepth 100000 in
theorem zok_96 : ∀ pc, pc < z_sz 96 → zokE 96 pc = true := by decide +kernel
set_option maxRecDepth 100000 in
theorem zok_97 : ∀ pc, pc < z_sz 97 → zokE 97 pc = true := by decide +kernel
set_option maxRecDepth 100000 in
theorem zok_98 : ∀ pc, pc < z_sz 98 → zokE 98 pc = true := by decide +kernel
set_option maxRecDepth 100000 in
theorem zok_99 : ∀ pc, pc < z_sz 99 → zokE 99 pc = true := by decide +kernel
set_option maxRecDepth 100000 in
theorem zok_100 : ∀ pc, pc < z_sz 100 → zokE 100 pc = true := by decide +kernel
set_option maxRecDepth 100000 in
theorem zok_101 : ∀ pc, pc < z_sz 101 → zokE 101 pc = true := by decide +kernel
set_option maxRecDepth 100000 in
theorem zok_102 : ∀ pc, pc < z_sz 102 → zokE 102 pc = true := by decide +kernel
set_option maxRecDepth 100000 in
theorem zok_103 : ∀ pc, pc < z_sz 103 → zokE 103 pc = true := by decide +kernel
set_option maxRecDepth 100000 in
theorem zok_104 : ∀ pc, pc < z_sz 104 → zokE 104 pc = true := by decide +kernel
set_option maxRecDepth 100000 in
theorem zok_105 : ∀ pc, pc < z_sz 105 → zokE 105 pc = true := by decide +kernel
set_option maxRecDepth 100000 in
theorem zok_106 : ∀ pc, pc < z_sz 106 → zokE 106 pc = true := by decide +kernel
set_option maxRecDepth 100000 in
theorem zok_107 : ∀ pc, pc < z_sz 107 → zokE 107 pc = true := by decide +kernel
set_option maxRecDepth 100000 in
theorem zok_108 : ∀ pc, pc < z_sz 108 → zokE 108 pc = true := by decide +kernel
set_option maxRecDepth 100000 in
theorem zok_109 : ∀ pc, pc < z_sz 109 → zokE 109 pc = true := by decide +kernel
set_option maxRecDepth 100000 in
theorem zok_110 : ∀ pc, pc < z_sz 110 → zokE 110 pc = true := by decide +kernel
set_option maxRecDepth 100000 in
theorem zok_111 : ∀ pc, pc < z_sz 111 → zokE 111 pc = true := by decide +kernel
set_option maxRecDepth 100000 in
theorem zok_112 : ∀ pc, pc < z_sz 112 → zokE 112 pc = true := by decide +kernel
set_option maxRecDepth 100000 in
theorem zok_113 : ∀ pc, pc < z_sz 113 → zokE 113 pc = true := by decide +kernel
set_option maxRecDepth 100000 in
theorem zok_114 : ∀ pc, pc < z_sz 114 → zokE 114 pc = true := by decide +kernel
set_option maxRecDepth 100000 in
theorem zok_115 : ∀ pc, pc < z_sz 115 → zokE 115 pc = true := by decide +kernel
set_option maxRecDepth 100000 in
theorem zok_116 : ∀ pc, pc < z_sz 116 → zokE 116 pc = true := by decide +kernel
set_option maxRecDepth 100000 in
theorem zok_117 : ∀ pc, pc < z_sz 117 → zokE 117 pc = true := by decide +kernel
set_option maxRecDepth 100000 in
theorem zok_118 : ∀ pc, pc < z_sz 118 → zokE 118 pc = true := by decide +kernel
set_option maxRecDepth 100000 in
theorem zok_119 : ∀ pc, pc < z_sz 119 → zokE 119 pc = true := by decide +kernel
set_option maxRecDepth 100000 in
theorem zok_120 : ∀ pc, pc < z_sz 120 → zokE 120 pc = true := by decide +kernel
set_option maxRecDepth 100000 in
theorem zok_121 : ∀ pc, pc < z_sz 121 → zokE 121 pc = true := by decide +kernel
set_option maxRecDepth 100000 in
theorem zok_122 : ∀ pc, pc < z_sz 122 → zokE 122 pc = true := by decide +kernel
set_option maxRecDepth 100000 in
theorem zok_123 : ∀ pc, pc < z_sz 123 → zokE 123 pc = true := by decide +kernel
set_option maxRecDepth 100000 in
theorem zok_124 : ∀ pc, pc < z_sz 124 → zokE 124 pc = true := by decide +kernel
set_option maxRecDepth 100000 in
theorem zok_125 : ∀ pc, pc < z_sz 125 → zokE 125 pc = true := by decide +kernel
set_option maxRecDepth 100000 in
theorem zok_126 : ∀ pc, pc < z_sz 126 → zokE 126 pc = true := by decide +kernel
set_option maxRecDepth 100000 in
theorem zok_127 : ∀ pc, pc < z_sz 127 → zokE 127 pc = true := by decide +kernel
set_option maxRecDepth 100000 in
theorem zok_128 : ∀ pc, pc < z_sz 128 → zokE 128 pc = true := by decide +kernel
set_option maxRecDepth 100000 in
theorem zok_129 : ∀ pc, pc < z_sz 129 → zokE 129 pc = true := by decide +kernel
set_option maxRecDepth 100000 in
theorem zok_130 : ∀ pc, pc < z_sz 130 → zokE 130 pc = true := by decide +kernel
set_option maxRecDepth 100000 in
theorem zok_131 : ∀ pc, pc < z_sz 131 → zokE 131 pc = true := by decide +kernel
set_option maxRecDepth 100000 in
theorem zok_132 : ∀ pc, pc < z_sz 132 → zokE 132 pc = true := by decide +kernel
set_option maxRecDepth 100000 in
theorem zok_133 : ∀ pc, pc < z_sz 133 → zokE 133 pc = true := by decide +kernel
set_option maxRecDepth 100000 in
theorem zok_134 : ∀ pc, pc < z_sz 134 → zokE 134 pc = true := by decide +kernel
set_option maxRecDepth 100000 in
theorem zok_135 : ∀ pc, pc < z_sz 135 → zokE 135 pc = true := by decide +kernel
set_option maxRecDepth 100000 in
theorem zok_136 : ∀ pc, pc < z_sz 136 → zokE 136 pc = true := by decide +kernel
set_option maxRecDepth 100000 in
theorem zok_137 : ∀ pc, pc < z_sz 137 → zokE 137 pc = true := by decide +kernel
set_option maxRecDepth 100000 in
theorem zok_138 : ∀ pc, pc < z_sz 138 → zokE 138 pc = true := by decide +kernel
set_option maxRecDepth 100000 in
theorem zok_139 : ∀ pc, pc < z_sz 139 → zokE 139 pc = true := by decide +kernel
set_option maxRecDepth 100000 in
theorem zok_140 : ∀ pc, pc < z_sz 140 → zokE 140 pc = true := by decide +kernel
set_option maxRecDepth 100000 in
theorem zok_141 : ∀ pc, pc < z_sz 141 → zokE 141 pc = true := by decide +kernel
set_option maxRecDepth 100000 in
theorem zok_142 : ∀ pc, pc < z_sz 142 → zokE 142 pc = true := by decide +kernel
set_option maxRecDepth 100000 in
theorem zok_143 : ∀ pc, pc < z_sz 143 → zokE 143 pc = true := by decide +kernel
set_option maxRecDepth 100000 in
theorem zok_144 : ∀ pc, pc < z_sz 144 → zokE 144 pc = true := by decide +kernel
set_option maxRecDepth 100000 in
theorem zok_145 : ∀ pc, pc < z_sz 145 → zokE 145 pc = true := by decide +kernel
set_option maxRecDepth 100000 in
theorem zok_146 : ∀ pc, pc < z_sz 146 → zokE 146 pc = true := by decide +kernel
set_option maxRecDepth 100000 in
theorem zok_147 : ∀ pc, pc < z_sz 147 → zokE 147 pc = true := by decide +kernel
set_option maxRecDepth 100000 in
theorem zok_148 : ∀ pc, pc < z_sz 148 → zokE 148 pc = true := by decide +kernel
set_option maxRecDepth 100000 in
theorem zok_149 : ∀ pc, pc < z_sz 149 → zokE 149 pc = true := by decide +kernel
set_option maxRecDepth 100000 in
theorem zok_150 : ∀ pc, pc < z_sz 150 → zokE 150 pc = true := by decide +kernel
set_option maxRecDepth 100000 in
theorem zok_151 : ∀ pc, pc < z_sz 151 → zokE 151 pc = true := by decide +kernel
set_option maxRecDepth 100000 in
theorem zok_152 : ∀ pc, pc < z_sz 152 → zokE 152 pc = true := by decide +kernel
set_option maxRecDepth 100000 in
theorem zok_153 : ∀ pc, pc < z_sz 153 → zokE 153 pc = true := by decide +kernel
set_option maxRecDepth 100000 in
theorem zok_154 : ∀ pc, pc < z_sz 154 → zokE 154 pc = true := by decide +kernel
set_option maxRecDepth 100000 in
theorem zok_155 : ∀ pc, pc < z_sz 155 → zokE 155 pc = true := by decide +kernel
set_option maxRecDepth 100000 in
theorem zok_156 : ∀ pc, pc < z_sz 156 → zokE 156 pc = true := by decide +kernel
set_option maxRecDepth 100000 in
theorem zok_157 : ∀ pc, pc < z_sz 157 → zokE 157 pc = true := by decide +kernel
set_option maxRecDepth 100000 in
theorem zok_158 : ∀ pc, pc < z_sz 158 → zokE 158 pc = true := by decide +kernel
set_option maxRecDepth 100000 in
theorem zok_159 : ∀ pc, pc < z_sz 159 → zokE 159 pc = true := by decide +kernel
set_option maxRecDepth 100000 in
theorem zok_160 : ∀ pc, pc < z_sz 160 → zokE 160 pc = true := by decide +kernel
set_option maxRecDepth 100000 in
theorem zok_161 : ∀ pc, pc < z_sz 161 → zokE 161 pc = true := by decide +kernel
set_option maxRecDepth 100000 in
theorem zok_162 : ∀ pc, pc < z_sz 162 → zokE 162 pc = true := by decide +kernel
set_option maxRecDepth 100000 in
theorem zok_163 : ∀ pc, pc < z_sz 163 → zokE 163 pc = true := by decide +kernel
set_option maxRecDepth 100000 in
theorem zok_164 : ∀ pc, pc < z_sz 164 → zokE 164 pc = true := by decide +kernel
set_option maxRecDepth 100000 in
theorem zok_165 : ∀ pc, pc < z_sz 165 → zokE 165 pc = true := by decide +kernel
set_option maxRecDepth 100000 in
theorem zok_166 : ∀ pc, pc < z_sz 166 → zokE 166 pc = true := by decide +kernel
set_option maxRecDepth 100000 in
theorem zok_167 : ∀ pc, pc < z_sz 167 → zokE 167 pc = true := by decide +kernel
set_option maxRecDepth 100000 in
theorem zok_168 : ∀ pc, pc < z_sz 168 → zokE 168 pc = true := by decide +kernel
set_option maxRecDepth 100000 in
theorem zok_169 : ∀ pc, pc < z_sz 169 → zokE 169 pc = true := by decide +kernel
set_option maxRecDepth 100000 in
theorem zok_170 : ∀ pc, pc < z_sz 170 → zokE 170 pc = true := by decide +kernel
set_option maxRecDepth 100000 in
theorem zok_171 : ∀ pc, pc < z_sz 171 → zokE 171 pc = true := by decide +kernel
set_option maxRecDepth 100000 in
theorem zok_172 : ∀ pc, pc < z_sz 172 → zokE 172 pc = true := by decide +kernel
set_option maxRecDepth 100000 in
theorem zok_173 : ∀ pc, pc < z_sz 173 → zokE 173 pc = true := by decide +kernel
set_option maxRecDepth 100000 in
theorem zok_174 : ∀ pc, pc < z_sz 174 → zokE 174 pc = true := by decide +kernel
set_option maxRecDepth 100000 in
theorem zok_175 : ∀ pc, pc < z_sz 175 → zokE 175 pc = true := by decide +kernel
set_option maxRecDepth 100000 in
theorem zok_176 : ∀ pc, pc < z_sz 176 → zokE 176 pc = true := by decide +kernel
set_option maxRecDepth 100000 in
theorem zok_177 : ∀ pc, pc < z_sz 177 → zokE 177 pc = true := by decide +kernel
set_option maxRecDepth 100000 in
theorem zok_178 : ∀ pc, pc < z_sz 178 → zokE 178 pc = true := by decide +kernel
set_option maxRecDepth 100000 in
theorem zok_179 : ∀ pc, pc < z_sz 179 → zokE 179 pc = true := by decide +kernel
set_option maxRecDepth 100000 in
theorem zok_180 : ∀ pc, pc < z_sz 180 → zokE 180 pc = true := by decide +kernel
set_option maxRecDepth 100000 in
theorem zok_181 : ∀ pc, pc < z_sz 181 → zokE 181 pc = true := by decide +kernel
set_option maxRecDepth 100000 in
theorem zok_182 : ∀ pc, pc < z_sz 182 → zokE 182 pc = true := by decide +kernel
set_option maxRecDepth 100000 in
theorem zok_183 : ∀ pc, pc < z_sz 183 → zokE 183 pc = true := by decide +kernel
set_option maxRecDepth 100000 in
theorem zok_184 : ∀ pc, pc < z_sz 184 → zokE 184 pc = true := by decide +kernel
set_option maxRecDepth 100000 in
theorem zok_185 : ∀ pc, pc < z_sz 185 → zokE 185 pc = true := by decide +kernel
set_option maxRecDepth 100000 in
theorem zok_186 : ∀ pc, pc < z_sz 186 → zokE 186 pc = true := by decide +kernel
set_option maxRecDepth 100000 in
theorem zok_187 : ∀ pc, pc < z_sz 187 → zokE 187 pc = true := by decide +kernel
set_option maxRecDepth 100000 in
theorem zok_188 : ∀ pc, pc < z_sz 188 → zokE 188 pc = true := by decide +kernel
set_option maxRecDepth 100000 in
theorem zok_189 : ∀ pc, pc < z_sz 189 → zokE 189 pc = true := by decide +kernel
set_option maxRecDepth 100000 in
theorem zok_190 : ∀ pc, pc < z_sz 190 → zokE 190 pc = true := by decide +kernel
set_option maxRecDepth 100000 in
theorem zok_191 : ∀ pc, pc < z_sz 191 → zokE 191 pc = true := by decide +kernel
set_option maxRecDepth 100000 in
theorem zok_192 : ∀ pc, pc < z_sz 192 → zokE 192 pc = true := by decide +kernel
set_option maxRecDepth 100000 in
theorem zok_193 : ∀ pc, pc < z_sz 193 → zokE 193 pc = true := by decide +kernel
set_option maxRecDepth 100000 in
theorem zok_194 : ∀ pc, pc < z_sz 194 → zokE 194 pc = true := by decide +kernel
set_option maxRecDepth 100000 in
theorem zok_195 : ∀ pc, pc < z_sz 195 → zokE 195 pc = true := by decide +kernel
set_option maxRecDepth 100000 in
theorem zok_196 : ∀ pc, pc < z_sz 196 → zokE 196 pc = true := by decide +kernel
set_option maxRecDepth 100000 in
theorem zok_197 : ∀ pc, pc < z_sz 197 → zokE 197 pc = true := by decide +kernel
set_option maxRecDepth 100000 in
theorem zok_198 : ∀ pc, pc < z_sz 198 → zokE 198 pc = true := by decide +kernel
set_option maxRecDepth 100000 in
theorem zok_199 : ∀ pc, pc < z_sz 199 → zokE 199 pc = true := by decide +kernel
set_option maxRecDepth 100000 in
theorem zok_200 : ∀ pc, pc < z_sz 200 → zokE 200 pc = true := by decide +kernel
set_option maxRecDepth 100000 in
theorem zok_201 : ∀ pc, pc < z_sz 201 → zokE 201 pc = true := by decide +kernel
set_option maxRecDepth 100000 in
theorem zok_202 : ∀ pc, pc < z_sz 202 → zokE 202 pc = true := by decide +kernel
set_option maxRecDepth 100000 in
theorem zok_203 : ∀ pc, pc < z_sz 203 → zokE 203 pc = true := by decide +kernel
set_option maxRecDepth 100000 in
theorem zok_204 : ∀ pc, pc < z_sz 204 → zokE 204 pc = true := by decide +kernel
set_option maxRecDepth 100000 in
theorem zok_205 : ∀ pc, pc < z_sz 205 → zokE 205 pc = true := by decide +kernel
set_option maxRecDepth 100000 in
theorem zok_206 : ∀ pc, pc < z_sz 206 → zokE 206 pc = true := by decide +kernel
set_option maxRecDepth 100000 in
theorem zok_207 : ∀ pc, pc < z_sz 207 → zokE 207 pc = true := by decide +kernel
set_option maxRecDepth 100000 in
theorem zok_208 : ∀ pc, pc < z_sz 208 → zokE 208 pc = true := by decide +kernel
set_option maxRecDepth 100000 in
theorem zok_209 : ∀ pc, pc < z_sz 209 → zokE 209 pc = true := by decide +kernel
set_option maxRecDepth 100000 in
theorem zok_210 : ∀ pc, pc < z_sz 210 → zokE 210 pc = true := by decide +kernel
set_option maxRecDepth 100000 in
theorem zok_211 : ∀ pc, pc < z_sz 211 → zokE 211 pc = true := by decide +kernel
set_option maxRecDepth 100000 in
theorem zok_212 : ∀ pc, pc < z_sz 212 → zokE 212 pc = true := by decide +kernel
set_option maxRecDepth 100000 in
theorem zok_213 : ∀ pc, pc < z_sz 213 → zokE 213 pc = true := by decide +kernel
set_option maxRecDepth 100000 in
theorem zok_214 : ∀ pc, pc < z_sz 214 → zokE 214 pc = true := by decide +kernel
set_option maxRecDepth 100000 in
theorem zok_215 : ∀ pc, pc < z_sz 215 → zokE 215 pc = true := by decide +kernel
set_option maxRecDepth 100000 in
theorem zok_216 : ∀ pc, pc < z_sz 216 → zokE 216 pc = true := by decide +kernel
set_option maxRecDepth 100000 in
theorem zok_217 : ∀ pc, pc < z_sz 217 → zokE 217 pc = true := by decide +kernel
set_option maxRecDepth 100000 in
theorem zok_218 : ∀ pc, pc < z_sz 218 → zokE 218 pc = true := by decide +kernel
set_option maxRecDepth 100000 in
theorem zok_219 : ∀ pc, pc < z_sz 219 → zokE 219 pc = true := by decide +kernel
set_option maxRecDepth 100000 in
theorem zok_220 : ∀ pc, pc < z_sz 220 → zokE 220 pc = true := by decide +kernel
set_option maxRecDepth 100000 in
theorem zok_221 : ∀ pc, pc < z_sz 221 → zokE 221 pc = true := by decide +kernel
set_option maxRecDepth 100000 in
theorem zok_222 : ∀ pc, pc < z_sz 222 → zokE 222 pc = true := by decide +kernel
set_option maxRecDepth 100000 in
theorem zok_223 : ∀ pc, pc < z_sz 223 → zokE 223 pc = true := by decide +kernel
set_option maxRecDepth 100000 in
theorem zok_224 : ∀ pc, pc < z_sz 224 → zokE 224 pc = true := by decide +kernel
set_option maxRecDepth 100000 in
theorem zok_225 : ∀ pc, pc < z_sz 225 → zokE 225 pc = true := by decide +kernel
set_option maxRecDepth 100000 in
theorem zok_226 : ∀ pc, pc < z_sz 226 → zokE 226 pc = true := by decide +kernel
set_option maxRecDepth 100000 in
theorem zok_227 : ∀ pc, pc < z_sz 227 → zokE 227 pc = true := by decide +kernel
set_option maxRecDepth 100000 in
theorem zok_228 : ∀ pc, pc < z_sz 228 → zokE 228 pc = true := by decide +kernel
set_option maxRecDepth 100000 in
theorem zok_229 : ∀ pc, pc < z_sz 229 → zokE 229 pc = true := by decide +kernel
set_option maxRecDepth 100000 in
theorem zok_230 : ∀ pc, pc < z_sz 230 → zokE 230 pc = true := by decide +kernel
set_option maxRecDepth 100000 in
theorem zok_231 : ∀ pc, pc < z_sz 231 → zokE 231 pc = true := by decide +kernel
set_option maxRecDepth 100000 in
theorem zok_232 : ∀ pc, pc < z_sz 232 → zokE 232 pc = true := by decide +kernel
set_option maxRecDepth 100000 in
theorem zok_233 : ∀ pc, pc < z_sz 233 → zokE 233 pc = true := by decide +kernel
set_option maxRecDepth 100000 in
theorem zok_234 : ∀ pc, pc < z_sz 234 → zokE 234 pc = true := by decide +kernel
set_option maxRecDepth 100000 in
theorem zok_235 : ∀ pc, pc < z_sz 235 → zokE 235 pc = true := by decide +kernel
set_option maxRecDepth 100000 in
theorem zok_236 : ∀ pc, pc < z_sz 236 → zokE 236 pc = true := by decide +kernel
set_option maxRecDepth 100000 in
theorem zok_237 : ∀ pc, pc < z_sz 237 → zokE 237 pc = true := by decide +kernel
set_option maxRecDepth 100000 in
theorem zok_238 : ∀ pc, pc < z_sz 238 → zokE 238 pc = true := by decide +kernel
set_option maxRecDepth 100000 in
theorem zok_239 : ∀ pc, pc < z_sz 239 → zokE 239 pc = true := by decide +kernel
set_option maxRecDepth 100000 in
theorem zok_240 : ∀ pc, pc < z_sz 240 → zokE 240 pc = true := by decide +kernel
set_option maxRecDepth 100000 in
theorem zok_241 : ∀ pc, pc < z_sz 241 → zokE 241 pc = true := by decide +kernel
set_option maxRecDepth 100000 in
theorem zok_242 : ∀ pc, pc < z_sz 242 → zokE 242 pc = true := by decide +kernel
set_option maxRecDepth 100000 in
theorem zok_243 : ∀ pc, pc < z_sz 243 → zokE 243 pc = true := by decide +kernel
set_option maxRecDepth 100000 in
theorem zok_244 : ∀ pc, pc < z_sz 244 → zokE 244 pc = true := by decide +kernel
set_option maxRecDepth 100000 in
theorem zok_245 : ∀ pc, pc < z_sz 245 → zokE 245 pc = true := by decide +kernel
set_option maxRecDepth 100000 in
theorem zok_246 : ∀ pc, pc < z_sz 246 → zokE 246 pc = true := by decide +kernel
set_option maxRecDepth 100000 in
theorem zok_247 : ∀ pc, pc < z_sz 247 → zokE 247 pc = true := by decide +kernel
set_option maxRecDepth 100000 in
theorem zok_248 : ∀ pc, pc < z_sz 248 → zokE 248 pc = true := by decide +kernel
set_option maxRecDepth 100000 in
theorem zok_249 : ∀ pc, pc < z_sz 249 → zokE 249 pc = true := by decide +kernel
set_option maxRecDepth 100000 in
theorem zok_250 : ∀ pc, pc < z_sz 250 → zokE 250 pc = true := by decide +kernel
set_option maxRecDepth 100000 in
theorem zok_251 : ∀ pc, pc < z_sz 251 → zokE 251 pc = true := by decide +kernel
set_option maxRecDepth 100000 in
theorem zok_252 : ∀ pc, pc < z_sz 252 → zokE 252 pc = true := by decide +kernel
set_option maxRecDepth 100000 in
theorem zok_253 : ∀ pc, pc < z_sz 253 → zokE 253 pc = true := by decide +kernel
set_option maxRecDepth 100000 in
theorem zok_254 : ∀ pc, pc < z_sz 254 → zokE 254 pc = true := by decide +kernel
set_option maxRecDepth 100000 in
theorem zok_255 : ∀ pc, pc < z_sz 255 → zokE 255 pc = true := by decide +kernel
set_option maxRecDepth 100000 in
theorem zok_256 : ∀ pc, pc < z_sz 256 → zokE 256 pc = true := by decide +kernel
set_option maxRecDepth 100000 in
theorem zok_257 : ∀ pc, pc < z_sz 257 → zokE 257 pc = true := by decide +kernel
set_option maxRecDepth 100000 in
theorem zok_258 : ∀ pc, pc < z_sz 258 → zokE 258 pc = true := by decide +kernel
set_option maxRecDepth 100000 in
theorem zok_259 : ∀ pc, pc < z_sz 259 → zokE 259 pc = true := by decide +kernel
set_option maxRecDepth 100000 in
theorem zok_260 : ∀ pc, pc < z_sz 260 → zokE 260 pc = true := by decide +kernel
set_option maxRecDepth 100000 in
theorem zok_261 : ∀ pc, pc < z_sz 261 → zokE 261 pc = true := by decide +kernel
set_option maxRecDepth 100000 in
theorem zok_262 : ∀ pc, pc < z_sz 262 → zokE 262 pc = true := by decide +kernel
set_option maxRecDepth 100000 in
theorem zok_263 : ∀ pc, pc < z_sz 263 → zokE 263 pc = true := by decide +kernel
set_option maxRecDepth 100000 in
theorem zok_264 : ∀ pc, pc < z_sz 264 → zokE 264 pc = true := by decide +kernel
set_option maxRecDepth 100000 in
theorem zok_265 : ∀ pc, pc < z_sz 265 → zokE 265 pc = true := by decide +kernel
set_option maxRecDepth 100000 in
theorem zok_266 : ∀ pc, pc < z_sz 266 → zokE 266 pc = true := by decide +kernel
set_option maxRecDepth 100000 in
theorem zok_267 : ∀ pc, pc < z_sz 267 → zokE 267 pc = true := by decide +kernel
set_option maxRecDepth 100000 in
theorem zok_268 : ∀ pc, pc < z_sz 268 → zokE 268 pc = true := by decide +kernel
set_option maxRecDepth 100000 in
theorem zok_269 : ∀ pc, pc < z_sz 269 → zokE 269 pc = true := by decide +kernel
set_option maxRecDepth 100000 in
theorem zok_270 : ∀ pc, pc < z_sz 270 → zokE 270 pc = true := by decide +kernel
set_option maxRecDepth 100000 in
theorem zok_271 : ∀ pc, pc < z_sz 271 → zokE 271 pc = true := by decide +kernel
set_option maxRecDepth 100000 in
theorem zok_272 : ∀ pc, pc < z_sz 272 → zokE 272 pc = true := by decide +kernel
set_option maxRecDepth 100000 in
theorem zok_273 : ∀ pc, pc < z_sz 273 → zokE 273 pc = true := by decide +kernel
set_option maxRecDepth 100000 in
theorem zok_274 : ∀ pc, pc < z_sz 274 → zokE 274 pc = true := by decide +kernel
set_option maxRecDepth 100000 in
theorem zok_275 : ∀ pc, pc < z_sz 275 → zokE 275 pc = true := by decide +kernel
set_option maxRecDepth 100000 in
theorem zok_276 : ∀ pc, pc < z_sz 276 → zokE 276 pc = true := by decide +kernel
set_option maxRecDepth 100000 in
theorem zok_277 : ∀ pc, pc < z_sz 277 → zokE 277 pc = true := by decide +kernel
set_option maxRecDepth 100000 in
theorem zok_278 : ∀ pc, pc < z_sz 278 → zokE 278 pc = true := by decide +kernel
set_option maxRecDepth 100000 in
theorem zok_279 : ∀ pc, pc < z_sz 279 → zokE 279 pc = true := by decide +kernel
set_option maxRecDepth 100000 in
theorem zok_280 : ∀ pc, pc < z_sz 280 → zokE 280 pc = true := by decide +kernel
set_option maxRecDepth 100000 in
theorem zok_281 : ∀ pc, pc < z_sz 281 → zokE 281 pc = true := by decide +kernel
set_option maxRecDepth 100000 in
theorem zok_282 : ∀ pc, pc < z_sz 282 → zokE 282 pc = true := by decide +kernel
set_option maxRecDepth 100000 in
theorem zokg_0 : ∀ y ∈ [0, 1, 2, 3, 4, 5, 6, 7, 8, 9, 10, 11, 12, 13, 14, 15, 16, 17, 18, 19], ∀ pc, pc < z_sz y → zokE y pc = true := List.forall_mem_cons.mpr ⟨zok_0, List.forall_mem_cons.mpr ⟨zok_1, List.forall_mem_cons.mpr ⟨zok_2, List.forall_mem_cons.mpr ⟨zok_3, List.forall_mem_cons.mpr ⟨zok_4, List.forall_mem_cons.mpr ⟨zok_5, List.forall_mem_cons.mpr ⟨zok_6, List.forall_mem_cons.mpr ⟨zok_7, List.forall_mem_cons.mpr ⟨zok_8, List.forall_mem_cons.mpr ⟨zok_9, List.forall_mem_cons.mpr ⟨zok_10, List.forall_mem_cons.mpr ⟨zok_11, List.forall_mem_cons.mpr ⟨zok_12, List.forall_mem_cons.mpr ⟨zok_13, List.forall_mem_cons.mpr ⟨zok_14, List.forall_mem_cons.mpr ⟨zok_15, List.forall_mem_cons.mpr ⟨zok_16, List.forall_mem_cons.mpr ⟨zok_17, List.forall_mem_cons.mpr ⟨zok_18, List.forall_mem_cons.mpr ⟨zok_19, fun _ h => absurd h List.not_mem_nil⟩⟩⟩⟩⟩⟩⟩⟩⟩⟩⟩⟩⟩⟩⟩⟩⟩⟩⟩⟩
set_option maxRecDepth 100000 in
theorem zokg_20 : ∀ y ∈ [20, 21, 22, 23, 24, 25, 26, 27, 28, 29, 30, 31, 32, 33, 34, 35, 36, 37, 38, 39], ∀ pc, pc < z_sz y → zokE y pc = true := List.forall_mem_cons.mpr ⟨zok_20, List.forall_mem_cons.mpr ⟨zok_21, List.forall_mem_cons.mpr ⟨zok_22, List.forall_mem_cons.mpr ⟨zok_23, List.forall_mem_cons.mpr ⟨zok_24, List.forall_mem_cons.mpr ⟨zok_25, List.forall_mem_cons.mpr ⟨zok_26, List.forall_mem_cons.mpr ⟨zok_27, List.forall_mem_cons.mpr ⟨zok_28, List.forall_mem_cons.mpr ⟨zok_29, List.forall_mem_cons.mpr ⟨zok_30, List.forall_mem_cons.mpr ⟨zok_31, List.forall_mem_cons.mpr ⟨zok_32, List.forall_mem_cons.mpr ⟨zok_33, List.forall_mem_cons.mpr ⟨zok_34, List.forall_mem_cons.mpr ⟨zok_35, List.forall_mem_cons.mpr ⟨zok_36, List.forall_mem_cons.mpr ⟨zok_37, List.forall_mem_cons.mpr ⟨zok_38, List.forall_mem_cons.mpr ⟨zok_39, fun _ h => absurd h List.not_mem_nil⟩⟩⟩⟩⟩⟩⟩⟩⟩⟩⟩⟩⟩⟩⟩⟩⟩⟩⟩⟩
set_option maxRecDepth 100000 in
theorem zokg_40 : ∀ y ∈ [40, 41, 42, 43, 44, 45, 46, 47, 48, 49, 50, 51, 52, 53, 54, 55, 56, 57, 58, 59], ∀ pc, pc < z_sz y → zokE y pc = true := List.forall_mem_cons.mpr ⟨zok_40, List.forall_mem_cons.mpr ⟨zok_41, List.forall_mem_cons.mpr ⟨zok_42, List.forall_mem_cons.mpr ⟨zok_43, List.forall_mem_cons.mpr ⟨zok_44, List.forall_mem_cons.mpr ⟨zok_45, List.forall_mem_cons.mpr ⟨zok_46, List.forall_mem_cons.mpr ⟨zok_47, List.forall_mem_cons.mpr ⟨zok_48, List.forall_mem_cons.mpr ⟨zok_49, List.forall_mem_cons.mpr ⟨zok_50, List.forall_mem_cons.mpr ⟨zok_51, List.forall_mem_cons.mpr ⟨zok_52, List.forall_mem_cons.mpr ⟨zok_53, List.forall_mem_cons.mpr ⟨zok_54, List.forall_mem_cons.mpr ⟨zok_55, List.forall_mem_cons.mpr ⟨zok_56, List.forall_mem_cons.mpr ⟨zok_57, List.forall_mem_cons.mpr ⟨zok_58, List.forall_mem_cons.mpr ⟨zok_59, fun _ h => absurd h List.not_mem_nil⟩⟩⟩⟩⟩⟩⟩⟩⟩⟩⟩⟩⟩⟩⟩⟩⟩⟩⟩⟩
set_option maxRecDepth 100000 in
theorem zokg_60 : ∀ y ∈ [60, 61, 62, 63, 64, 65, 66, 67, 68, 69, 70, 71, 72, 73, 74, 75, 76, 77, 78, 79], ∀ pc, pc < z_sz y → zokE y pc = true := List.forall_mem_cons.mpr ⟨zok_60, List.forall_mem_cons.mpr ⟨zok_61, List.forall_mem_cons.mpr ⟨zok_62, List.forall_mem_cons.mpr ⟨zok_63, List.forall_mem_cons.mpr ⟨zok_64, List.forall_mem_cons.mpr ⟨zok_65, List.forall_mem_cons.mpr ⟨zok_66, List.forall_mem_cons.mpr ⟨zok_67, List.forall_mem_cons.mpr ⟨zok_68, List.forall_mem_cons.mpr ⟨zok_69, List.forall_mem_cons.mpr ⟨zok_70, List.forall_mem_cons.mpr ⟨zok_71, List.forall_mem_cons.mpr ⟨zok_72, List.forall_mem_cons.mpr ⟨zok_73, List.forall_mem_cons.mpr ⟨zok_74, List.forall_mem_cons.mpr ⟨zok_75, List.forall_mem_cons.mpr ⟨zok_76, List.forall_mem_cons.mpr ⟨zok_77, List.forall_mem_cons.mpr ⟨zok_78, List.forall_mem_cons.mpr ⟨zok_79, fun _ h => absurd h List.not_mem_nil⟩⟩⟩⟩⟩⟩⟩⟩⟩⟩⟩⟩⟩⟩⟩⟩⟩⟩⟩⟩
set_option maxRecDepth 100000 in
theorem zokg_80 : ∀ y ∈ [80, 81, 82, 83, 84, 85, 86, 87, 88, 89, 90, 91, 92, 93, 94, 95, 96, 97, 98, 99], ∀ pc, pc < z_sz y → zokE y pc = true := List.forall_mem_cons.mpr ⟨zok_80, List.forall_mem_cons.mpr ⟨zok_81, List.forall_mem_cons.mpr ⟨zok_82, List.forall_mem_cons.mpr ⟨zok_83, List.forall_mem_cons.mpr ⟨zok_84, List.forall_mem_cons.mpr ⟨zok_85, List.forall_mem_cons.mpr ⟨zok_86, List.forall_mem_cons.mpr ⟨zok_87, List.forall_mem_cons.mpr ⟨zok_88, List.forall_mem_cons.mpr ⟨zok_89, List.forall_mem_cons.mpr ⟨zok_90, List.forall_mem_cons.mpr ⟨zok_91, List.forall_mem_cons.mpr ⟨zok_92, List.forall_mem_cons.mpr ⟨zok_93, List.forall_mem_cons.mpr ⟨zok_94, List.forall_mem_cons.mpr ⟨zok_95, List.forall_mem_cons.mpr ⟨zok_96, List.forall_mem_cons.mpr ⟨zok_97, List.forall_mem_cons.mpr ⟨zok_98, List.forall_mem_cons.mpr ⟨zok_99, fun _ h => absurd h List.not_mem_nil⟩⟩⟩⟩⟩⟩⟩⟩⟩⟩⟩⟩⟩⟩⟩⟩⟩⟩⟩⟩
set_option maxRecDepth 100000 in
theorem zokg_100 : ∀ y ∈ [100, 101, 102, 103, 104, 105, 106, 107, 108, 109, 110, 111, 112, 113, 114, 115, 116, 117, 118, 119], ∀ pc, pc < z_sz y → zokE y pc = true := List.forall_mem_cons.mpr ⟨zok_100, List.forall_mem_cons.mpr ⟨zok_101, List.forall_mem_cons.mpr ⟨zok_102, List.forall_mem_cons.mpr ⟨zok_103, List.forall_mem_cons.mpr ⟨zok_104, List.forall_mem_cons.mpr ⟨zok_105, List.forall_mem_cons.mpr ⟨zok_106, List.forall_mem_cons.mpr ⟨zok_107, List.forall_mem_cons.mpr ⟨zok_108, List.forall_mem_cons.mpr ⟨zok_109, List.forall_mem_cons.mpr ⟨zok_110, List.forall_mem_cons.mpr ⟨zok_111, List.forall_mem_cons.mpr ⟨zok_112, List.forall_mem_cons.mpr ⟨zok_113, List.forall_mem_cons.mpr ⟨zok_114, List.forall_mem_cons.mpr ⟨zok_115, List.forall_mem_cons.mpr ⟨zok_116, List.forall_mem_cons.mpr ⟨zok_117, List.forall_mem_cons.mpr ⟨zok_118, List.forall_mem_cons.mpr ⟨zok_119, fun _ h => absurd h List.not_mem_nil⟩⟩⟩⟩⟩⟩⟩⟩⟩⟩⟩⟩⟩⟩⟩⟩⟩⟩⟩⟩
set_option maxRecDepth 100000 in
theorem zokg_120 : ∀ y ∈ [120, 121, 122, 123, 124, 125, 126, 127, 128, 129, 130, 131, 132, 133, 134, 135, 136, 137, 138, 139], ∀ pc, pc < z_sz y → zokE y pc = true := List.forall_mem_cons.mpr ⟨zok_120, List.forall_mem_cons.mpr ⟨zok_121, List.forall_mem_cons.mpr ⟨zok_122, List.forall_mem_cons.mpr ⟨zok_123, List.forall_mem_cons.mpr ⟨zok_124, List.forall_mem_cons.mpr ⟨zok_125, List.forall_mem_cons.mpr ⟨zok_126, List.forall_mem_cons.mpr ⟨zok_127, List.forall_mem_cons.mpr ⟨zok_128, List.forall_mem_cons.mpr ⟨zok_129, List.forall_mem_cons.mpr ⟨zok_130, List.forall_mem_cons.mpr ⟨zok_131, List.forall_mem_cons.mpr ⟨zok_132, List.forall_mem_cons.mpr ⟨zok_133, List.forall_mem_cons.mpr ⟨zok_134, List.forall_mem_cons.mpr ⟨zok_135, List.forall_mem_cons.mpr ⟨zok_136, List.forall_mem_cons.mpr ⟨zok_137, List.forall_mem_cons.mpr ⟨zok_138, List.forall_mem_cons.mpr ⟨zok_139, fun _ h => absurd h List.not_mem_nil⟩⟩⟩⟩⟩⟩⟩⟩⟩⟩⟩⟩⟩⟩⟩⟩⟩⟩⟩⟩
set_option maxRecDepth 100000 in
theorem zokg_140 : ∀ y ∈ [140, 141, 142, 143, 144, 145, 146, 147, 148, 149, 150, 151, 152, 153, 154, 155, 156, 157, 158, 159], ∀ pc, pc < z_sz y → zokE y pc = true := List.forall_mem_cons.mpr ⟨zok_140, List.forall_mem_cons.mpr ⟨zok_141, List.forall_mem_cons.mpr ⟨zok_142, List.forall_mem_cons.mpr ⟨zok_143, List.forall_mem_cons.mpr ⟨zok_144, List.forall_mem_cons.mpr ⟨zok_145, List.forall_mem_cons.mpr ⟨zok_146, List.forall_mem_cons.mpr ⟨zok_147, List.forall_mem_cons.mpr ⟨zok_148, List.forall_mem_cons.mpr ⟨zok_149, List.forall_mem_cons.mpr ⟨zok_150, List.forall_mem_cons.mpr ⟨zok_151, List.forall_mem_cons.mpr ⟨zok_152, List.forall_mem_cons.mpr ⟨zok_153, List.forall_mem_cons.mpr ⟨zok_154, List.forall_mem_cons.mpr ⟨zok_155, List.forall_mem_cons.mpr ⟨zok_156, List.forall_mem_cons.mpr ⟨zok_157, List.forall_mem_cons.mpr ⟨zok_158, List.forall_mem_cons.mpr ⟨zok_159, fun _ h => absurd h List.not_mem_nil⟩⟩⟩⟩⟩⟩⟩⟩⟩⟩⟩⟩⟩⟩⟩⟩⟩⟩⟩⟩
set_option maxRecDepth 100000 in
theorem zokg_160 : ∀ y ∈ [160, 161, 162, 163, 164, 165, 166, 167, 168, 169, 170, 171, 172, 173, 174, 175, 176, 177, 178, 179], ∀ pc, pc < z_sz y → zokE y pc = true := List.forall_mem_cons.mpr ⟨zok_160, List.forall_mem_cons.mpr ⟨zok_161, List.forall_mem_cons.mpr ⟨zok_162, List.forall_mem_cons.mpr ⟨zok_163, List.forall_mem_cons.mpr ⟨zok_164, List.forall_mem_cons.mpr ⟨zok_165, List.forall_mem_cons.mpr ⟨zok_166, List.forall_mem_cons.mpr ⟨zok_167, List.forall_mem_cons.mpr ⟨zok_168, List.forall_mem_cons.mpr ⟨zok_169, List.forall_mem_cons.mpr ⟨zok_170, List.forall_mem_cons.mpr ⟨zok_171, List.forall_mem_cons.mpr ⟨zok_172, List.forall_mem_cons.mpr ⟨zok_173, List.forall_mem_cons.mpr ⟨zok_174, List.forall_mem_cons.mpr ⟨zok_175, List.forall_mem_cons.mpr ⟨zok_176, List.forall_mem_cons.mpr ⟨zok_177, List.forall_mem_cons.mpr ⟨zok_178, List.forall_mem_cons.mpr ⟨zok_179, fun _ h => absurd h List.not_mem_nil⟩⟩⟩⟩⟩⟩⟩⟩⟩⟩⟩⟩⟩⟩⟩⟩⟩⟩⟩⟩
set_option maxRecDepth 100000 in
theorem zokg_180 : ∀ y ∈ [180, 181, 182, 183, 184, 185, 186, 187, 188, 189, 190, 191, 192, 193, 194, 195, 196, 197, 198, 199], ∀ pc, pc < z_sz y → zokE y pc = true := List.forall_mem_cons.mpr ⟨zok_180, List.forall_mem_cons.mpr ⟨zok_181, List.forall_mem_cons.mpr ⟨zok_182, List.forall_mem_cons.mpr ⟨zok_183, List.forall_mem_cons.mpr ⟨zok_184, List.forall_mem_cons.mpr ⟨zok_185, List.forall_mem_cons.mpr ⟨zok_186, List.forall_mem_cons.mpr ⟨zok_187, List.forall_mem_cons.mpr ⟨zok_188, List.forall_mem_cons.mpr ⟨zok_189, List.forall_mem_cons.mpr ⟨zok_190, List.forall_mem_cons.mpr ⟨zok_191, List.forall_mem_cons.mpr ⟨zok_192, List.forall_mem_cons.mpr ⟨zok_193, List.forall_mem_cons.mpr ⟨zok_194, List.forall_mem_cons.mpr ⟨zok_195, List.forall_mem_cons.mpr ⟨zok_196, List.forall_mem_cons.mpr ⟨zok_197, List.forall_mem_cons.mpr ⟨zok_198, List.forall_mem_cons.mpr ⟨zok_199, fun _ h => absurd h List.not_mem_nil⟩⟩⟩⟩⟩⟩⟩⟩⟩⟩⟩⟩⟩⟩⟩⟩⟩⟩⟩⟩
set_option maxRecDepth 100000 in
theorem zokg_200 : ∀ y ∈ [200, 201, 202, 203, 204, 205, 206, 207, 208, 209, 210, 211, 212, 213, 214, 215, 216, 217, 218, 219], ∀ pc, pc < z_sz y → zokE y pc = true := List.forall_mem_cons.mpr ⟨zok_200, List.forall_mem_cons.mpr ⟨zok_201, List.forall_mem_cons.mpr ⟨zok_202, List.forall_mem_cons.mpr ⟨zok_203, List.forall_mem_cons.mpr ⟨zok_204, List.forall_mem_cons.mpr ⟨zok_205, List.forall_mem_cons.mpr ⟨zok_206, List.forall_mem_cons.mpr ⟨zok_207, List.forall_mem_cons.mpr ⟨zok_208, List.forall_mem_cons.mpr ⟨zok_209, List.forall_mem_cons.mpr ⟨zok_210, List.forall_mem_cons.mpr ⟨zok_211, List.forall_mem_cons.mpr ⟨zok_212, List.forall_mem_cons.mpr ⟨zok_213, List.forall_mem_cons.mpr ⟨zok_214, List.forall_mem_cons.mpr ⟨zok_215, List.forall_mem_cons.mpr ⟨zok_216, List.forall_mem_cons.mpr ⟨zok_217, List.forall_mem_cons.mpr ⟨zok_218, List.forall_mem_cons.mpr ⟨zok_219, fun _ h => absurd h List.not_mem_nil⟩⟩⟩⟩⟩⟩⟩⟩⟩⟩⟩⟩⟩⟩⟩⟩⟩⟩⟩⟩
set_option maxRecDepth 100000 in
theorem zokg_220 : ∀ y ∈ [220, 221, 222, 223, 224, 225, 226, 227, 228, 229, 230, 231, 232, 233, 234, 235, 236, 237, 238, 239], ∀ pc, pc < z_sz y → zokE y pc = true := List.forall_mem_cons.mpr ⟨zok_220, List.forall_mem_cons.mpr ⟨zok_221, List.forall_mem_cons.mpr ⟨zok_222, List.forall_mem_cons.mpr ⟨zok_223, List.forall_mem_cons.mpr ⟨zok_224, List.forall_mem_cons.mpr ⟨zok_225, List.forall_mem_cons.mpr ⟨zok_226, List.forall_mem_cons.mpr ⟨zok_227, List.forall_mem_cons.mpr ⟨zok_228, List.forall_mem_cons.mpr ⟨zok_229, List.forall_mem_cons.mpr ⟨zok_230, List.forall_mem_cons.mpr ⟨zok_231, List.forall_mem_cons.mpr ⟨zok_232, List.forall_mem_cons.mpr ⟨zok_233, List.forall_mem_cons.mpr ⟨zok_234, List.forall_mem_cons.mpr ⟨zok_235, List.forall_mem_cons.mpr ⟨zok_236, List.forall_mem_cons.mpr ⟨zok_237, List.forall_mem_cons.mpr ⟨zok_238, List.forall_mem_cons.mpr ⟨zok_239, fun _ h => absurd h List.not_mem_nil⟩⟩⟩⟩⟩⟩⟩⟩⟩⟩⟩⟩⟩⟩⟩⟩⟩⟩⟩⟩
set_option maxRecDepth 100000 in
theorem zokg_240 : ∀ y ∈ [240, 241, 242, 243, 244, 245, 246, 247, 248, 249, 250, 251, 252, 253, 254, 255, 256, 257, 258, 259], ∀ pc, pc < z_sz y → zokE y pc = true := List.forall_mem_cons.mpr ⟨zok_240, List.forall_mem_cons.mpr ⟨zok_241, List.forall_mem_cons.mpr ⟨zok_242, List.forall_mem_cons.mpr ⟨zok_243, List.forall_mem_cons.mpr ⟨zok_244, List.forall_mem_cons.mpr ⟨zok_245, List.forall_mem_cons.mpr ⟨zok_246, List.forall_mem_cons.mpr ⟨zok_247, List.forall_mem_cons.mpr ⟨zok_248, List.forall_mem_cons.mpr ⟨zok_249, List.forall_mem_cons.mpr ⟨zok_250, List.forall_mem_cons.mpr ⟨zok_251, List.forall_mem_cons.mpr ⟨zok_252, List.forall_mem_cons.mpr ⟨zok_253, List.forall_mem_cons.mpr ⟨zok_254, List.forall_mem_cons.mpr ⟨zok_255, List.forall_mem_cons.mpr ⟨zok_256, List.forall_mem_cons.mpr ⟨zok_257, List.forall_mem_cons.mpr ⟨zok_258, List.forall_mem_cons.mpr ⟨zok_259, fun _ h => absurd h List.not_mem_nil⟩⟩⟩⟩⟩⟩⟩⟩⟩⟩⟩⟩⟩⟩⟩⟩⟩⟩⟩⟩
set_option maxRecDepth 100000 in
theorem zokg_260 : ∀ y ∈ [260, 261, 262, 263, 264, 265, 266, 267, 268, 269, 270, 271, 272, 273, 274, 275, 276, 277, 278, 279], ∀ pc, pc < z_sz y → zokE y pc = true := List.forall_mem_cons.mpr ⟨zok_260, List.forall_mem_cons.mpr ⟨zok_261, List.forall_mem_cons.mpr ⟨zok_262, List.forall_mem_cons.mpr ⟨zok_263, List.forall_mem_cons.mpr ⟨zok_264, List.forall_mem_cons.mpr ⟨zok_265, List.forall_mem_cons.mpr ⟨zok_266, List.forall_mem_cons.mpr ⟨zok_267, List.forall_mem_cons.mpr ⟨zok_268, List.forall_mem_cons.mpr ⟨zok_269, List.forall_mem_cons.mpr ⟨zok_270, List.forall_mem_cons.mpr ⟨zok_271, List.forall_mem_cons.mpr ⟨zok_272, List.forall_mem_cons.mpr ⟨zok_273, List.forall_mem_cons.mpr ⟨zok_274, List.forall_mem_cons.mpr ⟨zok_275, List.forall_mem_cons.mpr ⟨zok_276, List.forall_mem_cons.mpr ⟨zok_277, List.forall_mem_cons.mpr ⟨zok_278, List.forall_mem_cons.mpr ⟨zok_279, fun _ h => absurd h List.not_mem_nil⟩⟩⟩⟩⟩⟩⟩⟩⟩⟩⟩⟩⟩⟩⟩⟩⟩⟩⟩⟩
set_option maxRecDepth 100000 in
theorem zokg_280 : ∀ y ∈ [280, 281, 282], ∀ pc, pc < z_sz y → zokE y pc = true := List.forall_mem_cons.mpr ⟨zok_280, List.forall_mem_cons.mpr ⟨zok_281, List.forall_mem_cons.mpr ⟨zok_282, fun _ h => absurd h List.not_mem_nil⟩⟩⟩
set_option maxRecDepth 100000 in
theorem zok_all : ∀ y ∈ [0, 1, 2, 3, 4, 5, 6, 7, 8, 9, 10, 11, 12, 13, 14, 15, 16, 17, 18, 19] ++ ([20, 21, 22, 23, 24, 25, 26, 27, 28, 29, 30, 31, 32, 33, 34, 35, 36, 37, 38, 39] ++ ([40, 41, 42, 43, 44, 45, 46, 47, 48, 49, 50, 51, 52, 53, 54, 55, 56, 57, 58, 59] ++ ([60, 61, 62, 63, 64, 65, 66, 67, 68, 69, 70, 71, 72, 73, 74, 75, 76, 77, 78, 79] ++ ([80, 81, 82, 83, 84, 85, 86, 87, 88, 89, 90, 91, 92, 93, 94, 95, 96, 97, 98, 99] ++ ([100, 101, 102, 103, 104, 105, 106, 107, 108, 109, 110, 111, 112, 113, 114, 115, 116, 117, 118, 119] ++ ([120, 121, 122, 123, 124, 125, 126, 127, 128, 129, 130, 131, 132, 133, 134, 135, 136, 137, 138, 139] ++ ([140, 141, 142, 143, 144, 145, 146, 147, 148, 149, 150, 151, 152, 153, 154, 155, 156, 157, 158, 159] ++ ([160, 161, 162, 163, 164, 165, 166, 167, 168, 169, 170, 171, 172, 173, 174, 175, 176, 177, 178, 179] ++ ([180, 181, 182, 183, 184, 185, 186, 187, 188, 189, 190, 191, 192, 193, 194, 195, 196, 197, 198, 199] ++ ([200, 201, 202, 203, 204, 205, 206, 207, 208, 209, 210, 211, 212, 213, 214, 215, 216, 217, 218, 219] ++ ([220, 221, 222, 223, 224, 225, 226, 227, 228, 229, 230, 231, 232, 233, 234, 235, 236, 237, 238, 239] ++ ([240, 241, 242, 243, 244, 245, 246, 247, 248, 249, 250, 251, 252, 253, 254, 255, 256, 257, 258, 259] ++ ([260, 261, 262, 263, 264, 265, 266, 267, 268, 269, 270, 271, 272, 273, 274, 275, 276, 277, 278, 279] ++ ([280, 281, 282])))))))))))))), ∀ pc, pc < z_sz y → zokE y pc = true := List.forall_mem_append.mpr ⟨zokg_0, List.forall_mem_append.mpr ⟨zokg_20, List.forall_mem_append.mpr ⟨zokg_40, List.forall_mem_append.mpr ⟨zokg_60, List.forall_mem_append.mpr ⟨zokg_80, List.forall_mem_append.mpr ⟨zokg_100, List.forall_mem_append.mpr ⟨zokg_120, List.forall_mem_append.mpr ⟨zokg_140, List.forall_mem_append.mpr ⟨zokg_160, List.forall_mem_append.mpr ⟨zokg_180, List.forall_mem_append.mpr ⟨zokg_200, List.forall_mem_append.mpr ⟨zokg_220, List.forall_mem_append.mpr ⟨zokg_240, List.forall_mem_append.mpr ⟨zokg_260, zokg_280⟩⟩⟩⟩⟩⟩⟩⟩⟩⟩⟩⟩⟩⟩
set_option maxRecDepth 100000 in
theorem ztab {m pc : Nat} {i : Instr} {nx a b : Nat} {v : Value} {msk : List Bool} {sw : List (Int32 × Nat)} (h : z_I m pc = some (i, nx, a, b, v, msk, sw)) : m < 283 ∧ decode (z_by m) pc = .ok (i, nx - pc) ∧ (zisw i || Nat.beq nx (pc + zlenI i)) = true ∧ zfit m pc i a b v sw = true := by
  have hm : m < 283 := by
    unfold z_I at h
    cases hb : Nat.blt m 283 with
    | true => exact Nat.lt_of_lt_of_le (Nat.le_of_ble_eq_true hb) (Nat.le_refl _)
    | false => rw [hb] at h; cases h
  have hp : pc < z_sz m := by
    unfold z_I at h
    cases hb : Nat.blt m 283 with
    | false => rw [hb] at h; cases h
    | true =>
      cases hc : Nat.blt pc (z_sz m) with
      | true => exact Nat.le_of_ble_eq_true hc
      | false => rw [hb, hc] at h; cases h
  have h1 := zok_all m (by rw [← zcd_rng]; exact List.mem_range.mpr hm) pc hp
  unfold zokE at h1
  rw [h] at h1
  rw [Bool.and_eq_true, Bool.and_eq_true, Bool.and_eq_true, decide_eq_true_eq] at h1
  exact ⟨hm, h1.1.1.1, h1.1.2, h1.2⟩
