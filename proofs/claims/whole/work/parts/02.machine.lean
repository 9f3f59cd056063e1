/-! THE SMALL MACHINE: a plain one, in which the classes run: cells by numbers (0 is the script), final fields in the layout, all other ints in one memory -/
abbrev rp_Mm : Type := Nat → Nat → Int32
/-- a cell's shape: an array (of booleans?, its length), or an object (its class's number, its fields: a final one with its value, another stands in the memory) -/
abbrev rp_Sh : Type := (Bool × Nat) ⊕ (Nat × List (Option Value))
abbrev rp_Hp : Type := List rp_Sh × rp_Mm
abbrev rp_Rs : Type := Option Value × rp_Hp
/-- what is known of an instruction beforehand: two numbers, a value, a switch's places -/
abbrev rp_In : Type := Nat × Nat × Value × List (Int32 × Nat)
abbrev rp_En : Type := Nat × Instr × Nat × rp_In
/-- method, cells and slots made so far, place, locals, stack, heap -/
abbrev rp_As : Type := Nat × Nat × Nat × Nat × List Value × List Value × rp_Hp
abbrev rp_U : Value := .retAddr 0
def rp_wr (s : rp_Mm) (a k : Nat) (x : Int32) : rp_Mm := fun b j => if b = a then (if j = k then x else s b j) else s b j
def rp_zr (s : rp_Mm) (a : Nat) : rp_Mm := fun b j => if b = a then 0 else s b j
/-- a method: name, code, locals, what it returns, its class's number, (frames, words, cells, slots) below it -/
abbrev rp_Mt : Type := MethodName × ByteArray × Nat × Option FieldType × Nat × (Nat × Nat × Nat × Nat)
def rp_lk (pc : Nat) : List rp_En → Option (Instr × Nat × rp_In)
  | [] => none
  | e :: r => bif Nat.beq e.1 pc then some e.2 else rp_lk pc r
def rp_sw (x : Int32) (d : Nat) : List (Int32 × Nat) → Nat
  | [] => d
  | q :: r => if x = q.1 then q.2 else rp_sw x d r
def rp_ex : List Value → List Value
  | [] => []
  | v :: vs => match v with
    | .long _ => v :: rp_U :: rp_ex vs
    | .double _ => v :: rp_U :: rp_ex vs
    | _ => v :: rp_ex vs
def rp_en (n : Nat) (vs : List Value) : List Value := rp_ex vs ++ List.replicate (n - (rp_ex vs).length) rp_U
def rp_cat : List Value → Nat
  | [] => 0
  | v :: vs => v.category + rp_cat vs
def rp_long : Option Value → Bool
  | some (.long _) => true
  | some (.double _) => true
  | _ => false
/-- a place may be written by a value of one word: it is there, and it isn't a long's second half -/
def rp_may (ls : List Value) (i : Nat) : Bool := Nat.blt i ls.length && (match i with
  | 0 => true
  | j + 1 => !(rp_long ls[j]?))
/-- how many bits are set, as the JDK reckons it -/
def rp_us (x y : Int32) : Int32 := (x.toUInt32 >>> (y.toUInt32 &&& Int32.toUInt32 31)).toInt32
def rp_b1 (x : Int32) : Int32 := x - (rp_us x 1 &&& 1431655765)
def rp_b2 (x : Int32) : Int32 := (x &&& 858993459) + (rp_us x 2 &&& 858993459)
def rp_b3 (x : Int32) : Int32 := (x + rp_us x 4) &&& 252645135
def rp_b4 (x : Int32) : Int32 := x + rp_us x 8
def rp_b5 (x : Int32) : Int32 := x + rp_us x 16
def rp_bc (x : Int32) : Int32 := rp_b5 (rp_b4 (rp_b3 (rp_b2 (rp_b1 x)))) &&& 63
def rp_ix (i : Int32) (n : Nat) : Bool := decide (0 ≤ i.toInt) && decide (i.toInt < (n : Int))
/-- of a class: for each field none (an int or a boolean that changes), or the value that a final one has at first -/
abbrev rp_Cf : Type := List (Option Value)
section
variable (mt : Nat → rp_Mt) (mi : Nat → List rp_En) (cf : Nat → rp_Cf) (tx : Nat → List Int32) (sc : Option (Nat × (Nat → Int32)))
abbrev rp_St : Type := rp_As ⊕ rp_Rs ⊕ (rp_As × (rp_Rs → Option rp_As))
def rp_cond (c : ClassFile.Cond) (x y : Int32) (a b : Nat) : Nat := match c with
  | .eq => if x = y then a else b
  | .ne => if x = y then b else a
  | .lt => if x < y then a else b
  | .ge => if y ≤ x then a else b
  | .gt => if y < x then a else b
  | .le => if x ≤ y then a else b
/-- numbers, locals, jumps: what no heap is asked for -/
def rp_pure (I : Instr) (n : Nat) (i : rp_In) (pc : Nat) (ls st : List Value) : Option (Nat × List Value × List Value) := match I with
  | .iconst _ => some (pc + n, ls, i.2.2.1 :: st)
  | .bipush _ => some (pc + n, ls, i.2.2.1 :: st)
  | .sipush _ => some (pc + n, ls, i.2.2.1 :: st)
  | .ldc _ => some (pc + n, ls, i.2.2.1 :: st)
  | .ldc2_w _ => some (pc + n, ls, i.2.2.1 :: st)
  | .iload_n _ => match ls[i.1]? with
    | some (.int x) => some (pc + n, ls, .int x :: st)
    | _ => none
  | .iload _ => match ls[i.1]? with
    | some (.int x) => some (pc + n, ls, .int x :: st)
    | _ => none
  | .lload_n _ => match ls[i.1]? with
    | some (.long x) => some (pc + n, ls, .long x :: st)
    | _ => none
  | .aload_n _ => match ls[i.1]? with
    | some (.ref x) => some (pc + n, ls, .ref x :: st)
    | _ => none
  | .aload _ => match ls[i.1]? with
    | some (.ref x) => some (pc + n, ls, .ref x :: st)
    | _ => none
  | .istore_n _ => match st with
    | .int x :: r => bif rp_may ls i.1 then some (pc + n, ls.set i.1 (.int x), r) else none
    | _ => none
  | .istore _ => match st with
    | .int x :: r => bif rp_may ls i.1 then some (pc + n, ls.set i.1 (.int x), r) else none
    | _ => none
  | .astore_n _ => match st with
    | .ref x :: r => bif rp_may ls i.1 then some (pc + n, ls.set i.1 (.ref x), r) else none
    | _ => none
  | .iinc _ _ => match ls[i.1]?, i.2.2.1 with
    | some (.int x), .int k => bif rp_may ls i.1 then some (pc + n, ls.set i.1 (.int (x + k)), st) else none
    | _, _ => none
  | .iadd => match st with
    | .int y :: .int x :: r => some (pc + n, ls, .int (x + y) :: r)
    | _ => none
  | .isub => match st with
    | .int y :: .int x :: r => some (pc + n, ls, .int (x - y) :: r)
    | _ => none
  | .imul => match st with
    | .int y :: .int x :: r => some (pc + n, ls, .int (x * y) :: r)
    | _ => none
  | .iand => match st with
    | .int y :: .int x :: r => some (pc + n, ls, .int (x &&& y) :: r)
    | _ => none
  | .ior => match st with
    | .int y :: .int x :: r => some (pc + n, ls, .int (x ||| y) :: r)
    | _ => none
  | .ishl => match st with
    | .int y :: .int x :: r => some (pc + n, ls, .int (x <<< (y &&& 31)) :: r)
    | _ => none
  | .ishr => match st with
    | .int y :: .int x :: r => some (pc + n, ls, .int (x >>> (y &&& 31)) :: r)
    | _ => none
  | .idiv => match st with
    | .int y :: .int x :: r => if y = 0 then none else some (pc + n, ls, .int (x / y) :: r)
    | _ => none
  | .irem => match st with
    | .int y :: .int x :: r => if y = 0 then none else some (pc + n, ls, .int (x - x / y * y) :: r)
    | _ => none
  | .i2l => match st with
    | .int x :: r => some (pc + n, ls, .long x.toInt64 :: r)
    | _ => none
  | .l2i => match st with
    | .long x :: r => some (pc + n, ls, .int x.toInt32 :: r)
    | _ => none
  | .land => match st with
    | .long y :: .long x :: r => some (pc + n, ls, .long (x &&& y) :: r)
    | _ => none
  | .lor => match st with
    | .long y :: .long x :: r => some (pc + n, ls, .long (x ||| y) :: r)
    | _ => none
  | .lshl => match st with
    | .int y :: .long x :: r => some (pc + n, ls, .long (x <<< (y.toInt64 &&& 63)) :: r)
    | _ => none
  | .lushr => match st with
    | .int y :: .long x :: r => some (pc + n, ls, .long (x.toUInt64 >>> (y.toInt64.toUInt64 &&& Int64.toUInt64 63)).toInt64 :: r)
    | _ => none
  | .dup => match st with
    | v :: r => bif Nat.beq v.category 1 then some (pc + n, ls, v :: v :: r) else none
    | _ => none
  | .dup2 => match st with
    | v :: w :: r => bif Nat.beq v.category 1 && Nat.beq w.category 1 then some (pc + n, ls, v :: w :: v :: w :: r) else none
    | _ => none
  | .pop => match st with
    | v :: r => bif Nat.beq v.category 1 then some (pc + n, ls, r) else none
    | _ => none
  | .ifCond c _ => match st with
    | .int x :: r => some (rp_cond c x 0 i.1 (pc + n), ls, r)
    | _ => none
  | .if_icmp c _ => match st with
    | .int y :: .int x :: r => some (rp_cond c x y i.1 (pc + n), ls, r)
    | _ => none
  | .goto _ => some (i.1, ls, st)
  | .tableswitch _ _ _ _ => match st with
    | .int x :: r => some (rp_sw x i.1 i.2.2.2, ls, r)
    | _ => none
  | .lookupswitch _ _ => match st with
    | .int x :: r => some (rp_sw x i.1 i.2.2.2, ls, r)
    | _ => none
  | _ => none
def rp_field (h : rp_Hp) (a ci k : Nat) : Option Value := match h.1[a]? with
  | some (.inr (c, fs)) => bif Nat.beq c ci then (match fs[k]? with
    | some (some v) => some v
    | some none => some (.int (h.2 a k))
    | none => none) else none
  | _ => none
def rp_fit : Value → Value → Bool
  | .long _, .int _ => true
  | .ref _, .ref _ => true
  | _, _ => false
def rp_zok : Value → Int32 → Bool
  | .int _, x => decide (x &&& 1 = x)
  | _, _ => true
/-- the heap's instructions that make nothing -/
def rp_heap (I : Instr) (i : rp_In) (ini : Bool) (h : rp_Hp) (st : List Value) : Option (rp_Hp × List Value) := match I with
  | .getfield _ => match st with
    | .ref a :: r => match rp_field h a i.1 i.2.1 with
      | some v => some (h, v :: r)
      | none => none
    | _ => none
  | .putfield _ => match st with
    | v :: .ref a :: r => match h.1[a]? with
      | some (.inr (c, fs)) => bif Nat.beq c i.1 then (bif ini then (match fs[i.2.1]? with
        | some (some _) => bif rp_fit i.2.2.1 v then some ((h.1.set a (.inr (c, fs.set i.2.1 (some v))), h.2), r) else none
        | _ => none) else (match fs[i.2.1]? with
        | some none => match v with
          | .int x => bif rp_zok i.2.2.1 x then some ((h.1, rp_wr h.2 a i.2.1 x), r) else none
          | _ => none
        | _ => none)) else none
      | _ => none
    | _ => none
  | .iaload => match st with
    | .int x :: .ref 0 :: r => match sc with
      | some q => bif rp_ix x q.1 then some (h, .int (q.2 x.toNatClampNeg) :: r) else none
      | none => none
    | .int x :: .ref (a + 1) :: r => match h.1[a + 1]? with
      | some (.inl (false, n)) => bif rp_ix x n then some (h, .int (h.2 (a + 1) x.toNatClampNeg) :: r) else none
      | _ => none
    | _ => none
  | .baload => match st with
    | .int x :: .ref (a + 1) :: r => match h.1[a + 1]? with
      | some (.inl (true, n)) => bif rp_ix x n then some (h, .int (h.2 (a + 1) x.toNatClampNeg) :: r) else none
      | _ => none
    | _ => none
  | .iastore => match st with
    | .int v :: .int x :: .ref (a + 1) :: r => match h.1[a + 1]? with
      | some (.inl (false, n)) => bif rp_ix x n then some ((h.1, rp_wr h.2 (a + 1) x.toNatClampNeg v), r) else none
      | _ => none
    | _ => none
  | .bastore => match st with
    | .int v :: .int x :: .ref (a + 1) :: r => match h.1[a + 1]? with
      | some (.inl (true, n)) => bif rp_ix x n && decide (v &&& 1 = v) then some ((h.1, rp_wr h.2 (a + 1) x.toNatClampNeg v), r) else none
      | _ => none
    | _ => none
  | .arraylength => match st with
    | .ref 0 :: r => match sc with
      | some q => some (h, .int (Int32.ofNat q.1) :: r)
      | none => none
    | .ref (a + 1) :: r => match h.1[a + 1]? with
      | some (.inl (_, n)) => some (h, .int (Int32.ofNat n) :: r)
      | _ => none
    | _ => none
  | _ => none
/-- the answer of a method: a boolean is 0 or 1 -/
def rp_ret (ty : Option FieldType) (I : Instr) (st : List Value) : Option (Option Value) := match I with
  | .ireturn => match st with
    | [.int v] => match ty with
      | some .int => some (some (.int v))
      | some .boolean => bif decide (v &&& 1 = v) then some (some (.int v)) else none
      | _ => none
    | _ => none
  | .areturn => match st with
    | [.ref a] => match ty with
      | some (.object _) => some (some (.ref a))
      | _ => none
    | _ => none
  | .return_ => match st with
    | [] => match ty with
      | none => some none
      | _ => none
    | _ => none
  | _ => none
/-- calls that need no frame here: Object's constructor, the greater and the lesser of two, a text's length and its signs -/
def rp_lib (b : Nat) (st : List Value) : Option (List Value) := match b with
  | 5000 => match st with
    | .ref _ :: r => some r
    | _ => none
  | 5001 => match st with
    | .int y :: .int x :: r => some (.int (if x < y then y else x) :: r)
    | _ => none
  | 5002 => match st with
    | .int y :: .int x :: r => some (.int (if y < x then y else x) :: r)
    | _ => none
  | 5003 => match st with
    | .ref a :: r => bif Nat.ble 1000 a && Nat.blt a 1012 then some (.int (Int32.ofNat (tx (a - 1000)).length) :: r) else none
    | _ => none
  | 5005 => match st with
    | .int x :: r => some (.int (rp_bc x) :: r)
    | _ => none
  | 5004 => match st with
    | .int x :: .ref a :: r => bif Nat.ble 1000 a && Nat.blt a 1012 && rp_ix x (tx (a - 1000)).length then some (.int ((tx (a - 1000)).getD x.toNatClampNeg 0) :: r) else none
    | _ => none
  | _ => none
def rp_isCall : Instr → Bool
  | .invokevirtual _ => true
  | .invokestatic _ => true
  | .invokespecial _ => true
  | _ => false
def rp_isRet : Instr → Bool
  | .ireturn => true
  | .areturn => true
  | .return_ => true
  | _ => false
def rp_isHeap : Instr → Bool
  | .getfield _ => true
  | .putfield _ => true
  | .iaload => true
  | .baload => true
  | .iastore => true
  | .bastore => true
  | .arraylength => true
  | _ => false
/-- who is called on: an object of the method's class; a static method is called on none -/
def rp_recv (I : Instr) (h : rp_Hp) (k : Nat) (args : List Value) : Bool := match I with
  | .invokestatic _ => true
  | _ => match args with
    | .ref a :: _ => match h.1[a]? with
      | some (.inr (c, _)) => Nat.beq c k && Nat.blt 0 a
      | _ => false
    | _ => false
/-- a call's room: arguments, words, cells, slots -/
def rp_cg (i : rp_In) (m uc us : Nat) (st : List Value) : Bool := Nat.ble i.2.1 st.length && (Nat.ble (rp_ex (st.take i.2.1).reverse).length (mt i.1).2.2.1 && (Nat.ble (rp_cat (st.drop i.2.1)) 8 && (Nat.ble (uc + (mt i.1).2.2.2.2.2.2.2.1) (mt m).2.2.2.2.2.2.2.1 && Nat.ble (us + (mt i.1).2.2.2.2.2.2.2.2) (mt m).2.2.2.2.2.2.2.2)))
def rp_call (I : Instr) (i : rp_In) (m uc us pc : Nat) (ls st : List Value) (h : rp_Hp) : Option rp_St :=
  bif rp_cg mt i m uc us st && rp_recv I h (mt i.1).2.2.2.2.1 (st.take i.2.1).reverse
  then some (.inr (.inr ((i.1, 0, 0, 0, rp_en (mt i.1).2.2.1 (st.take i.2.1).reverse, [], h), fun r => some (m, uc + (mt i.1).2.2.2.2.2.2.2.1, us + (mt i.1).2.2.2.2.2.2.2.2, pc + 3, ls, r.1.toList ++ st.drop i.2.1, r.2))))
  else none
/-- what is made: an object, an array -/
def rp_make (I : Instr) (n : Nat) (i : rp_In) (m uc us pc : Nat) (ls st : List Value) (h : rp_Hp) : Option rp_St := match I with
  | .new _ => bif Nat.ble (uc + 1) (mt m).2.2.2.2.2.2.2.1 && (Nat.ble (us + (cf i.1).length) (mt m).2.2.2.2.2.2.2.2 && Nat.blt h.1.length 999)
    then some (.inl (m, uc + 1, us + (cf i.1).length, pc + n, ls, .ref h.1.length :: st, (h.1 ++ [.inr (i.1, cf i.1)], rp_zr h.2 h.1.length))) else none
  | .newarray t => match st with
    | .int x :: r => bif rp_ix x 100000 && (Nat.ble (uc + 1) (mt m).2.2.2.2.2.2.2.1 && (Nat.ble (us + x.toNatClampNeg) (mt m).2.2.2.2.2.2.2.2 && Nat.blt h.1.length 999))
      then (match t with
        | .int => some (.inl (m, uc + 1, us + x.toNatClampNeg, pc + n, ls, .ref h.1.length :: r, (h.1 ++ [.inl (false, x.toNatClampNeg)], rp_zr h.2 h.1.length)))
        | .boolean => some (.inl (m, uc + 1, us + x.toNatClampNeg, pc + n, ls, .ref h.1.length :: r, (h.1 ++ [.inl (true, x.toNatClampNeg)], rp_zr h.2 h.1.length)))
        | _ => none) else none
    | _ => none
  | _ => none
def rp_isMake : Instr → Bool
  | .new _ => true
  | .newarray _ => true
  | _ => false
def rp_one (I : Instr) (n : Nat) (i : rp_In) (m uc us pc : Nat) (ls st : List Value) (h : rp_Hp) : Option rp_St :=
  bif rp_isHeap I then (rp_heap sc I i (!i.2.2.2.isEmpty) h st).map fun q => .inl (m, uc, us, pc + n, ls, q.2, q.1)
  else bif rp_isCall I then (bif Nat.ble 5000 i.1 then (bif Nat.ble (rp_cat (st.drop i.2.1)) 8 then (rp_lib tx i.1 st).map fun q => .inl (m, uc, us, pc + n, ls, q, h) else none) else rp_call mt I i m uc us pc ls st h)
  else bif rp_isRet I then (rp_ret (mt m).2.2.2.1 I st).map fun q => .inr (.inl (q, h))
  else bif rp_isMake I then rp_make mt cf I n i m uc us pc ls st h
  else (rp_pure I n i pc ls st).map fun q => .inl (m, uc, us, q.1, q.2.1, q.2.2, h)
def rp_front (s : rp_As) : Option rp_St := match rp_lk s.2.2.2.1 (mi s.1) with
  | none => none
  | some (I, n, i) => rp_one mt cf tx sc I n i s.1 s.2.1 s.2.2.1 s.2.2.2.1 s.2.2.2.2.1 s.2.2.2.2.2.1 s.2.2.2.2.2.2
def rp_F (rec : rp_As → Option rp_Rs) (s : rp_As) : Option rp_Rs := match rp_front mt mi cf tx sc s with
  | none => none
  | some (.inl t) => rec t
  | some (.inr (.inl r)) => some r
  | some (.inr (.inr (c, k))) => match rec c with
    | none => none
    | some r => match k r with
      | none => none
      | some t => rec t
def rp_run : Nat → rp_As → Option rp_Rs
  | 0 => fun _ => none
  | n + 1 => rp_F mt mi cf tx sc (rp_run n)
end
section
variable (mt : Nat → rp_Mt) (mi : Nat → List rp_En) (cf : Nat → rp_Cf) (tx : Nat → List Int32) (sc : Option (Nat × (Nat → Int32)))
theorem rp_F_mono {r1 r2 : rp_As → Option rp_Rs} (h : ∀ s x, r1 s = some x → r2 s = some x) : ∀ s x, rp_F mt mi cf tx sc r1 s = some x → rp_F mt mi cf tx sc r2 s = some x := by
  intro s x hx
  unfold rp_F at hx ⊢
  split at hx
  next => cases hx
  next t heq => exact h _ _ hx
  next r heq => exact hx
  next c k heq =>
    cases hc : r1 c with
    | none => rw [hc] at hx; cases hx
    | some r =>
      rw [hc] at hx
      rw [h _ _ hc]
      dsimp only at hx ⊢
      cases hk : k r with
      | none => rw [hk] at hx; cases hx
      | some t => rw [hk] at hx; exact h _ _ hx
theorem rp_run_succ : ∀ n s x, rp_run mt mi cf tx sc n s = some x → rp_run mt mi cf tx sc (n + 1) s = some x := by
  intro n
  induction n with
  | zero => intro s x h; cases h
  | succ n ih => exact rp_F_mono mt mi cf tx sc ih
theorem rp_run_le {n k : Nat} (h : n ≤ k) : ∀ s x, rp_run mt mi cf tx sc n s = some x → rp_run mt mi cf tx sc k s = some x := by
  induction h with
  | refl => exact fun _ _ h => h
  | step _ ih => exact fun s x h => rp_run_succ mt mi cf tx sc _ s x (ih s x h)
theorem rp_run_det {n k : Nat} {s : rp_As} {x y : rp_Rs} (h1 : rp_run mt mi cf tx sc n s = some x) (h2 : rp_run mt mi cf tx sc k s = some y) : x = y := by
  have a := rp_run_le mt mi cf tx sc (Nat.le_max_left n k) s x h1
  have b := rp_run_le mt mi cf tx sc (Nat.le_max_right n k) s y h2
  rw [a] at b
  exact Option.some.inj b
/-- where a state comes to in the end, if it does -/
noncomputable def rp_Ev (s : rp_As) : Option rp_Rs := Classical.epsilon fun o : Option rp_Rs => (∀ x, o = some x ↔ ∃ n, rp_run mt mi cf tx sc n s = some x)
theorem rp_Ev_iff (s : rp_As) (x : rp_Rs) : rp_Ev mt mi cf tx sc s = some x ↔ ∃ n, rp_run mt mi cf tx sc n s = some x := by
  have h : ∃ o : Option rp_Rs, ∀ x, o = some x ↔ ∃ n, rp_run mt mi cf tx sc n s = some x := by
    by_cases he : ∃ y n, rp_run mt mi cf tx sc n s = some y
    · obtain ⟨y, n, hn⟩ := he
      refine ⟨some y, fun x => ⟨fun h => ⟨n, h ▸ hn⟩, fun ⟨k, hk⟩ => congrArg some (rp_run_det mt mi cf tx sc hn hk)⟩⟩
    · exact ⟨none, fun x => ⟨fun h => (by cases h), fun ⟨k, hk⟩ => absurd ⟨x, k, hk⟩ he⟩⟩
  exact Classical.epsilon_spec h x
theorem rp_Ev_of {s : rp_As} {x : rp_Rs} {n : Nat} (h : rp_run mt mi cf tx sc n s = some x) : rp_Ev mt mi cf tx sc s = some x := (rp_Ev_iff mt mi cf tx sc s x).mpr ⟨n, h⟩
theorem rp_Ev_eq {s : rp_As} {o : Option rp_Rs} (h : ∀ x, (∃ n, rp_run mt mi cf tx sc n s = some x) ↔ o = some x) : rp_Ev mt mi cf tx sc s = o := by
  cases ho : o with
  | none =>
    cases he : rp_Ev mt mi cf tx sc s with
    | none => rfl
    | some x =>
      have := (h x).mp ((rp_Ev_iff mt mi cf tx sc s x).mp he)
      rw [ho] at this
      cases this
  | some x => exact (rp_Ev_iff mt mi cf tx sc s x).mpr ((h x).mpr ho)
theorem rp_Ev_go {s t : rp_As} (h : rp_front mt mi cf tx sc s = some (.inl t)) : rp_Ev mt mi cf tx sc s = rp_Ev mt mi cf tx sc t := by
  refine rp_Ev_eq mt mi cf tx sc fun x => ⟨fun ⟨n, hn⟩ => ?_, fun hx => ?_⟩
  · cases n with
    | zero => cases hn
    | succ n =>
      refine (rp_Ev_iff mt mi cf tx sc t x).mpr ⟨n, ?_⟩
      have hn : rp_F mt mi cf tx sc (rp_run mt mi cf tx sc n) s = some x := hn
      unfold rp_F at hn
      rw [h] at hn
      exact hn
  · obtain ⟨n, hn⟩ := (rp_Ev_iff mt mi cf tx sc t x).mp hx
    refine ⟨n + 1, ?_⟩
    show rp_F mt mi cf tx sc (rp_run mt mi cf tx sc n) s = some x
    unfold rp_F
    rw [h]
    exact hn
theorem rp_Ev_ret {s : rp_As} {r : rp_Rs} (h : rp_front mt mi cf tx sc s = some (.inr (.inl r))) : rp_Ev mt mi cf tx sc s = some r := by
  refine rp_Ev_of mt mi cf tx sc (n := 1) ?_
  show rp_F mt mi cf tx sc _ s = some r
  unfold rp_F
  rw [h]
/-- behind a call -/
def rp_then (o : Option rp_Rs) (k : rp_Rs → Option rp_Rs) : Option rp_Rs := match o with
  | none => none
  | some r => k r
theorem rp_then_some (r : rp_Rs) (k : rp_Rs → Option rp_Rs) : rp_then (some r) k = k r := rfl
theorem rp_Ev_call {s c : rp_As} {k : rp_Rs → rp_As} (h : rp_front mt mi cf tx sc s = some (.inr (.inr (c, fun r => some (k r))))) : rp_Ev mt mi cf tx sc s = rp_then (rp_Ev mt mi cf tx sc c) (fun r => rp_Ev mt mi cf tx sc (k r)) := by
  refine rp_Ev_eq mt mi cf tx sc fun x => ⟨fun ⟨n, hn⟩ => ?_, fun hx => ?_⟩
  · cases n with
    | zero => cases hn
    | succ n =>
      have hn : rp_F mt mi cf tx sc (rp_run mt mi cf tx sc n) s = some x := hn
      unfold rp_F at hn
      rw [h] at hn
      dsimp only at hn
      cases hc : rp_run mt mi cf tx sc n c with
      | none => rw [hc] at hn; cases hn
      | some r =>
        rw [hc] at hn
        rw [rp_Ev_of mt mi cf tx sc hc]
        exact rp_Ev_of mt mi cf tx sc hn
  · cases hc : rp_Ev mt mi cf tx sc c with
    | none => rw [hc] at hx; cases hx
    | some r =>
      rw [hc] at hx
      obtain ⟨n1, h1⟩ := (rp_Ev_iff mt mi cf tx sc c r).mp hc
      obtain ⟨n2, h2⟩ := (rp_Ev_iff mt mi cf tx sc (k r) x).mp hx
      refine ⟨max n1 n2 + 1, ?_⟩
      show rp_F mt mi cf tx sc (rp_run mt mi cf tx sc (max n1 n2)) s = some x
      unfold rp_F
      rw [h]
      dsimp only
      rw [rp_run_le mt mi cf tx sc (Nat.le_max_left n1 n2) _ _ h1]
      exact rp_run_le mt mi cf tx sc (Nat.le_max_right n1 n2) _ _ h2
/-- straight on: k steps -/
def rp_goN : Nat → rp_As → Option rp_As
  | 0, s => some s
  | k + 1, s => match rp_front mt mi cf tx sc s with
    | some (.inl t) => rp_goN k t
    | _ => none
theorem rp_Ev_goN : ∀ (k : Nat) {s t : rp_As}, rp_goN mt mi cf tx sc k s = some t → rp_Ev mt mi cf tx sc s = rp_Ev mt mi cf tx sc t := by
  intro k
  induction k with
  | zero => intro s t h; cases h; rfl
  | succ k ih =>
    intro s t h
    unfold rp_goN at h
    split at h
    next u heq => exact (rp_Ev_go mt mi cf tx sc heq).trans (ih h)
    next => cases h
end
