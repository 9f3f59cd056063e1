/-- an instruction's row is as the class files have it -/
def rp_tso (pc : Nat) (lo : Int) (offs : List Int) (l : List (Int32 × Nat)) : Bool := match offs, l with
  | [], [] => true
  | o :: offs, q :: l => decide (q.1.toInt = lo) && (decide ((pc : Int) + o = (q.2 : Int)) && rp_tso pc (lo + 1) offs l)
  | _, _ => false
def rp_lso (pc : Nat) (ps : List (Int × Int)) (l : List (Int32 × Nat)) : Bool := match ps, l with
  | [], [] => true
  | o :: ps, q :: l => decide (q.1.toInt = o.1) && (decide ((pc : Int) + o.2 = (q.2 : Int)) && rp_lso pc ps l)
  | _, _ => false
def rp_has4 (a b c d : Nat) : Bool := rp_ft.any fun q => Nat.beq q.1 a && (Nat.beq q.2.1 b && (Nat.beq q.2.2.1 c && Nat.beq q.2.2.2.1 d))
def rp_hasN (a b c : Nat) : Bool := rp_nt.any fun q => Nat.beq q.1 a && (Nat.beq q.2.1 b && Nat.beq q.2.2.1 c)
def rp_hasC (a b c : Nat) (ks : Nat → Bool) : Bool := rp_ct.any fun q => Nat.beq q.1 a && (Nat.beq q.2.1 b && (Nat.beq q.2.2.1 c && ks q.2.2.2.1))
/-- the room of a call, by the tables -/
def rp_rok (j c : Nat) : Bool := Nat.ble ((rp_mt c).2.2.2.2.2.1 + 1) (rp_mt j).2.2.2.2.2.1 && Nat.ble (8 + ((rp_mt c).2.2.1 + 11) + (rp_mt c).2.2.2.2.2.2.1) (rp_mt j).2.2.2.2.2.2.1
def rp_lok (j f w : Nat) : Bool := Nat.ble f (rp_mt j).2.2.2.2.2.1 && Nat.ble w (rp_mt j).2.2.2.2.2.2.1
def rp_putok (j : Nat) (i : rp_In) : Bool := bif i.2.2.2.isEmpty then (!(rp_TT i.1 i.2.1).2.2.2 && (match rp_ty i.1 i.2.1, i.2.2.1 with
    | .int, .null => true
    | .boolean, .int _ => true
    | _, _ => false))
  else ((rp_TT i.1 i.2.1).2.2.2 && (decide ((rp_mt j).1.name = "<init>") && (Nat.beq i.1 (rp_mt j).2.2.2.2.1 && (match rp_ty i.1 i.2.1, i.2.2.1 with
    | .int, .long _ => true
    | .object _, .ref _ => true
    | .array _, .ref _ => true
    | _, _ => false))))
def rp_okE (j : Nat) (e : rp_En) : Bool := match e with
  | (pc, I, n, i) => match I with
    | .iconst k => Nat.beq n 1 && decide (i.2.2.1 = .int (Int32.ofInt k))
    | .bipush k => Nat.beq n 2 && decide (i.2.2.1 = .int (Int8.ofInt k).toInt32)
    | .sipush k => Nat.beq n 3 && decide (i.2.2.1 = .int (Int16.ofInt k).toInt32)
    | .ldc x => Nat.beq n 2 && (match i.2.2.1 with
      | .int v => rp_kti.any fun q => Nat.beq q.1 (rp_mt j).2.2.2.2.1 && (Nat.beq q.2.1 x && decide (q.2.2.1 = v))
      | .ref a => Nat.beq (rp_mt j).2.2.2.2.1 1 && (Nat.ble 1000 a && (Nat.blt a 1012 && decide (rp_si[a - 1000]? = some x)))
      | _ => false)
    | .ldc2_w x => Nat.beq n 3 && (match i.2.2.1 with
      | .long v => rp_ktl.any fun q => Nat.beq q.1 (rp_mt j).2.2.2.2.1 && (Nat.beq q.2.1 x && decide (q.2.2.1 = v))
      | _ => false)
    | .iload_n k => Nat.beq n 1 && Nat.beq i.1 k.val
    | .lload_n k => Nat.beq n 1 && Nat.beq i.1 k.val
    | .aload_n k => Nat.beq n 1 && Nat.beq i.1 k.val
    | .istore_n k => Nat.beq n 1 && Nat.beq i.1 k.val
    | .astore_n k => Nat.beq n 1 && Nat.beq i.1 k.val
    | .iload k => Nat.beq n 2 && Nat.beq i.1 k
    | .aload k => Nat.beq n 2 && Nat.beq i.1 k
    | .istore k => Nat.beq n 2 && Nat.beq i.1 k
    | .iinc k c => Nat.beq n 3 && (Nat.beq i.1 k && decide (i.2.2.1 = .int (Int32.ofInt c)))
    | .iadd => Nat.beq n 1
    | .isub => Nat.beq n 1
    | .imul => Nat.beq n 1
    | .iand => Nat.beq n 1
    | .ior => Nat.beq n 1
    | .ishl => Nat.beq n 1
    | .ishr => Nat.beq n 1
    | .idiv => Nat.beq n 1
    | .irem => Nat.beq n 1
    | .i2l => Nat.beq n 1
    | .l2i => Nat.beq n 1
    | .land => Nat.beq n 1
    | .lor => Nat.beq n 1
    | .lshl => Nat.beq n 1
    | .lushr => Nat.beq n 1
    | .dup => Nat.beq n 1
    | .dup2 => Nat.beq n 1
    | .pop => Nat.beq n 1
    | .ifCond _ off => Nat.beq n 3 && decide ((pc : Int) + off = (i.1 : Int))
    | .if_icmp _ off => Nat.beq n 3 && decide ((pc : Int) + off = (i.1 : Int))
    | .goto off => Nat.beq n 3 && decide ((pc : Int) + off = (i.1 : Int))
    | .tableswitch d lo hi offs => decide ((pc : Int) + d = (i.1 : Int)) && (decide (lo + (offs.size : Int) = hi + 1) && rp_tso pc lo offs.toList i.2.2.2)
    | .lookupswitch d ps => decide ((pc : Int) + d = (i.1 : Int)) && ((ps.toList.zip (ps.toList.drop 1)).all (fun (a, next) => a.1 < next.1) && rp_lso pc ps.toList i.2.2.2)
    | .getfield x => Nat.beq n 3 && rp_has4 (rp_mt j).2.2.2.2.1 x i.1 i.2.1
    | .putfield x => Nat.beq n 3 && (rp_has4 (rp_mt j).2.2.2.2.1 x i.1 i.2.1 && rp_putok j i)
    | .iaload => Nat.beq n 1
    | .baload => Nat.beq n 1
    | .iastore => Nat.beq n 1
    | .bastore => Nat.beq n 1
    | .arraylength => Nat.beq n 1
    | .new x => Nat.beq n 3 && rp_hasN (rp_mt j).2.2.2.2.1 x i.1
    | .newarray _ => Nat.beq n 2
    | .ireturn => Nat.beq n 1
    | .areturn => Nat.beq n 1
    | .return_ => Nat.beq n 1
    | .invokevirtual x => Nat.beq n 3 && (bif Nat.ble 5000 i.1 then rp_hasC (rp_mt j).2.2.2.2.1 x i.1 (Nat.beq 5) && (Nat.ble 5003 i.1 && rp_lok j 2 42)
      else (rp_hasC (rp_mt j).2.2.2.2.1 x i.1 (Nat.beq 0) && (rp_rok j i.1 && Nat.beq i.2.1 ((rp_mq.getD i.1 (0, 0, 0, 0)).2.2.2 + 1))))
    | .invokestatic x => Nat.beq n 3 && (bif Nat.ble 5000 i.1 then rp_hasC (rp_mt j).2.2.2.2.1 x i.1 (Nat.beq 5) && ((Nat.beq i.1 5001 || Nat.beq i.1 5002) && rp_lok j 1 21)
      else (rp_hasC (rp_mt j).2.2.2.2.1 x i.1 (fun k => Nat.beq k 1 || Nat.beq k 2) && (rp_rok j i.1 && Nat.beq i.2.1 (rp_mq.getD i.1 (0, 0, 0, 0)).2.2.2)))
    | .invokespecial x => Nat.beq n 3 && (bif Nat.ble 5000 i.1 then rp_hasC (rp_mt j).2.2.2.2.1 x i.1 (Nat.beq 5) && (Nat.beq i.1 5000 && rp_lok j 1 20)
      else (rp_hasC (rp_mt j).2.2.2.2.1 x i.1 (fun k => Nat.beq k 3 || Nat.beq k 4) && (rp_rok j i.1 && Nat.beq i.2.1 ((rp_mq.getD i.1 (0, 0, 0, 0)).2.2.2 + 1))))
    | _ => false
def rp_decE (j : Nat) (e : rp_En) : Bool := decide (decode (rp_mt j).2.1 e.1 = .ok (e.2.1, e.2.2.1))
def rp_okM (j : Nat) : Bool := (rp_mi j).all fun e => rp_okE j e && rp_decE j e
theorem rp_okg0 : ∀ j ∈ [0, 1, 2, 3, 4, 5, 6, 7], rp_okM j = true := by decide +kernel
theorem rp_okg1 : ∀ j ∈ [8, 9, 10, 11, 12, 13, 14, 15], rp_okM j = true := by decide +kernel
theorem rp_okg2 : ∀ j ∈ [16, 17, 18, 19, 20, 21, 22, 23], rp_okM j = true := by decide +kernel
theorem rp_okg3 : ∀ j ∈ [24, 25, 26, 27, 28, 29, 30, 31], rp_okM j = true := by decide +kernel
theorem rp_okg4 : ∀ j ∈ [32, 33, 34, 35, 36, 37, 38, 39], rp_okM j = true := by decide +kernel
theorem rp_okg5 : ∀ j ∈ [40, 41, 42, 43, 44, 45, 46, 47], rp_okM j = true := by decide +kernel
theorem rp_okg6 : ∀ j ∈ [48, 49, 50, 51, 52, 53, 54, 55], rp_okM j = true := by decide +kernel
theorem rp_okg7 : ∀ j ∈ [56, 57, 58, 59, 60, 61, 62, 63], rp_okM j = true := by decide +kernel
theorem rp_okg8 : ∀ j ∈ [64, 65, 66, 67, 68, 69, 70, 71], rp_okM j = true := by decide +kernel
theorem rp_okg9 : ∀ j ∈ [72, 73, 74, 75, 76, 77, 78, 79], rp_okM j = true := by decide +kernel
theorem rp_okg10 : ∀ j ∈ [80, 81, 82, 83, 84, 85, 86, 87], rp_okM j = true := by decide +kernel
theorem rp_okg11 : ∀ j ∈ [88, 89, 90, 91, 92, 93, 94, 95], rp_okM j = true := by decide +kernel
theorem rp_okg12 : ∀ j ∈ [96, 97, 98, 99, 100, 101, 102, 103], rp_okM j = true := by decide +kernel
theorem rp_okg13 : ∀ j ∈ [104, 105, 106, 107, 108, 109, 110, 111], rp_okM j = true := by decide +kernel
theorem rp_okg14 : ∀ j ∈ [112, 113, 114, 115, 116, 117, 118, 119], rp_okM j = true := by decide +kernel
theorem rp_okg15 : ∀ j ∈ [120, 121, 122, 123, 124, 125, 126, 127], rp_okM j = true := by decide +kernel
theorem rp_okg16 : ∀ j ∈ [128, 129, 130, 131, 132, 133, 134, 135], rp_okM j = true := by decide +kernel
theorem rp_okg17 : ∀ j ∈ [136, 137, 138, 139, 140, 141, 142, 143], rp_okM j = true := by decide +kernel
theorem rp_okg18 : ∀ j ∈ [144, 145, 146, 147, 148, 149, 150, 151], rp_okM j = true := by decide +kernel
theorem rp_okg19 : ∀ j ∈ [152, 153, 154, 155, 156, 157, 158, 159], rp_okM j = true := by decide +kernel
theorem rp_okg20 : ∀ j ∈ [160, 161, 162, 163, 164, 165, 166, 167], rp_okM j = true := by decide +kernel
theorem rp_okg21 : ∀ j ∈ [168, 169, 170, 171, 172, 173, 174, 175], rp_okM j = true := by decide +kernel
theorem rp_okg22 : ∀ j ∈ [176, 177, 178, 179, 180, 181, 182, 183], rp_okM j = true := by decide +kernel
theorem rp_okg23 : ∀ j ∈ [184, 185, 186, 187, 188, 189, 190, 191], rp_okM j = true := by decide +kernel
theorem rp_okg24 : ∀ j ∈ [192, 193, 194, 195, 196, 197, 198, 199], rp_okM j = true := by decide +kernel
theorem rp_okg25 : ∀ j ∈ [200, 201, 202, 203, 204, 205, 206, 207], rp_okM j = true := by decide +kernel
theorem rp_okg26 : ∀ j ∈ [208, 209, 210, 211, 212, 213, 214, 215], rp_okM j = true := by decide +kernel
theorem rp_okg27 : ∀ j ∈ [216, 217, 218, 219, 220, 221, 222, 223], rp_okM j = true := by decide +kernel
theorem rp_okg28 : ∀ j ∈ [224, 225, 226], rp_okM j = true := by decide +kernel
