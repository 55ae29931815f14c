/-! A small machine of numbers: the class's, the law's and the reference's bytecode over a fixed shape of the heap (z_C, a cell's kind) and what the number cells hold (z_M). -/
abbrev z_C : Type := (Nat × List (Nat ⊕ Option Nat)) ⊕ ((Nat × Nat) ⊕ (Nat × List (Option Nat)))
abbrev z_M : Type := Nat → Nat → Int32
abbrev z_V : Type := List (Option Value)
abbrev z_R : Type := Int32 × Int64 × z_M
abbrev z_En : Type := Nat × Instr × Nat × List Nat × Int32 × List Nat
abbrev z_K (ρ : Type) : Type := Option Nat → z_V → List Value → z_M → Option ρ
def z_up (m : z_M) (a k : Nat) (v : Int32) : z_M := fun a' => if a' = a then upd (m a) k v else m a'
def z_g {ρ : Type} (c : Bool) (x : Option ρ) : Option ρ := match c with
  | true => x
  | false => none
def z_b (x : Int32) : Int32 := if x = 0 then 0 else 1
def z_isb (x : Int32) : Bool := decide (x = 0) || decide (x = 1)
def z_okp (sh : List z_C) (a ci k t : Nat) : Bool := match sh[a]? with
  | some (.inl (c, sl)) => Nat.beq c ci && (match sl[k]? with
    | some (.inl t') => Nat.beq t' t
    | _ => false)
  | _ => false
def z_okc (sh : List z_C) (a ci : Nat) : Bool := match sh[a]? with
  | some (.inl (c, _)) => Nat.beq c ci
  | _ => false
def z_ref (sh : List z_C) (a ci k : Nat) : Option Nat := match sh[a]? with
  | some (.inl (c, sl)) => (match Nat.beq c ci with
    | true => (match sl[k]? with
      | some (.inr r) => r
      | _ => none)
    | false => none)
  | _ => none
def z_in (n : Nat) (i : Int32) : Bool := !(decide (i < 0) || Nat.ble n i.toNatClampNeg)
def z_ina (sh : List z_C) (a t : Nat) (i : Int32) : Bool := match sh[a]? with
  | some (.inr (.inl (t', n))) => Nat.beq t' t && z_in n i
  | _ => false
def z_affl : List (Option Nat) → Nat → Nat → Bool
  | [], _, _ => true
  | some x :: r, v, c => Nat.beq x v && z_affl r (v + c) c
  | none :: _, _, _ => false
def z_aff (sh : List z_C) (a c0 c1 n : Nat) : Bool := match sh[a]? with
  | some (.inr (.inr (_, l))) => Nat.beq l.length n && z_affl l (a + c0) c1
  | _ => false
def z_ai (a c0 c1 i : Nat) : Nat := match c1 with
  | 1 => a + c0 + i
  | c => a + c0 + c * i
def z_k2 (o : Option Value) : Option Value := match o with
  | some (.long _) => none
  | some (.double _) => none
  | o => o
def z_st1 : z_V → Nat → Value → z_V
  | [], _, _ => []
  | _ :: r, 0, v => some v :: r
  | o :: r, 1, v => z_k2 o :: z_st1 r 0 v
  | o :: r, i + 2, v => o :: z_st1 r (i + 1) v
def z_st2 : z_V → Nat → Value → z_V
  | [], _, _ => []
  | _ :: [], 0, _ => [none]
  | _ :: _ :: r, 0, v => some v :: none :: r
  | o :: r, 1, v => z_k2 o :: z_st2 r 0 v
  | o :: r, i + 2, v => o :: z_st2 r (i + 1) v
def z_sw {ρ : Type} (x : Int32) (k : Nat → Option ρ) (d : Nat) : List Nat → Option ρ
  | v :: t :: r => if x = nI v then k t else z_sw x k d r
  | _ => k d
def z_lost : Int64 := -9223372036854775808
def z_at : List z_En → Nat → List z_En
  | [], _ => []
  | e :: r, pc => match Nat.beq e.1 pc with
    | true => e :: r
    | false => z_at r pc
def z_hd : List (Nat × List Bool) → Nat → Option (List Bool)
  | [], _ => none
  | e :: r, pc => match Nat.beq e.1 pc with
    | true => some e.2
    | false => z_hd r pc
def z_mask : List Bool → z_V → z_V
  | b :: bs, o :: r => (match b with
    | true => o
    | false => none) :: z_mask bs r
  | _, r => r
def z_pop : Nat → List Value → List Value → Option (List Value × List Value)
  | 0, st, acc => some (acc, st)
  | n + 1, v :: st, acc => z_pop n st (v :: acc)
  | _ + 1, [], _ => none
def z_loc : Nat → List Value → z_V
  | n, [] => List.replicate n none
  | n, .long x :: r => some (.long x) :: none :: z_loc (n - 2) r
  | n, .double x :: r => some (.double x) :: none :: z_loc (n - 2) r
  | n, v :: r => some v :: z_loc (n - 1) r
def z_br {ρ : Type} (c : ClassFile.Cond) (x y : Int32) (t f : Option ρ) : Option ρ := match c with
  | .eq => if x = y then t else f
  | .ne => if x = y then f else t
  | .lt => if x < y then t else f
  | .ge => if y ≤ x then t else f
  | .gt => if y < x then t else f
  | .le => if x ≤ y then t else f
def z_ins {ρ : Type} (sh : List z_C) (L : Nat) (xs : Nat → Int32) (ins : Instr) (lk : List Nat) (cn : Int32) (ls : z_V) (st : List Value) (m : z_M) (k : z_K ρ) : Option ρ :=
  match ins with
  | .aload _ | .aload_n _ => match ls[lk.getD 0 0]? with
    | some (some (.ref a)) => k none ls (.ref a :: st) m
    | _ => none
  | .iload _ | .iload_n _ => match ls[lk.getD 0 0]? with
    | some (some (.int x)) => k none ls (.int x :: st) m
    | _ => none
  | .lload _ | .lload_n _ => match ls[lk.getD 0 0]? with
    | some (some (.long x)) => k none ls (.long x :: st) m
    | _ => none
  | .istore _ | .istore_n _ => match st with
    | .int x :: st => z_g (Nat.blt (lk.getD 0 0) ls.length) (k none (z_st1 ls (lk.getD 0 0) (.int x)) st m)
    | _ => none
  | .astore _ | .astore_n _ => match st with
    | .ref x :: st => z_g (Nat.blt (lk.getD 0 0) ls.length) (k none (z_st1 ls (lk.getD 0 0) (.ref x)) st m)
    | _ => none
  | .lstore _ => match st with
    | .long x :: st => z_g (Nat.blt (lk.getD 0 0 + 1) ls.length) (k none (z_st2 ls (lk.getD 0 0) (.long x)) st m)
    | _ => none
  | .iinc _ _ => match ls[lk.getD 0 0]? with
    | some (some (.int x)) => k none (z_st1 ls (lk.getD 0 0) (.int (x + cn))) st m
    | _ => none
  | .iconst _ | .bipush _ | .sipush _ | .ldc _ | .ldc_w _ => k none ls (.int cn :: st) m
  | .lconst _ => k none ls (.long 0 :: st) m
  | .ldc2_w _ => k none ls (.long z_lost :: st) m
  | .iadd => match st with
    | .int y :: .int x :: st => k none ls (.int (x + y) :: st) m
    | _ => none
  | .isub => match st with
    | .int y :: .int x :: st => k none ls (.int (x - y) :: st) m
    | _ => none
  | .imul => match st with
    | .int y :: .int x :: st => k none ls (.int (x * y) :: st) m
    | _ => none
  | .iand => match st with
    | .int y :: .int x :: st => k none ls (.int (x &&& y) :: st) m
    | _ => none
  | .ior => match st with
    | .int y :: .int x :: st => k none ls (.int (x ||| y) :: st) m
    | _ => none
  | .ixor => match st with
    | .int y :: .int x :: st => k none ls (.int (x ^^^ y) :: st) m
    | _ => none
  | .idiv => match st with
    | .int y :: .int x :: st => z_g (decide (¬ y = 0)) (k none ls (.int (x / y) :: st) m)
    | _ => none
  | .irem => match st with
    | .int y :: .int x :: st => z_g (decide (¬ y = 0)) (k none ls (.int (x - x / y * y) :: st) m)
    | _ => none
  | .ishl => match st with
    | .int y :: .int x :: st => k none ls (.int (x <<< (y &&& 31)) :: st) m
    | _ => none
  | .ishr => match st with
    | .int y :: .int x :: st => k none ls (.int (x >>> (y &&& 31)) :: st) m
    | _ => none
  | .iushr => match st with
    | .int y :: .int x :: st => k none ls (.int ((x.toUInt32 >>> (y.toUInt32 &&& Int32.toUInt32 31)).toInt32) :: st) m
    | _ => none
  | .i2l => match st with
    | .int x :: st => k none ls (.long x.toInt64 :: st) m
    | _ => none
  | .i2b => match st with
    | .int x :: st => k none ls (.int x.toInt8.toInt32 :: st) m
    | _ => none
  | .i2s => match st with
    | .int x :: st => k none ls (.int x.toInt16.toInt32 :: st) m
    | _ => none
  | .ldiv => match st with
    | .long y :: .long x :: st => z_g (decide (¬ y = 0)) (k none ls (.long (x / y) :: st) m)
    | _ => none
  | .lrem => match st with
    | .long y :: .long x :: st => z_g (decide (¬ y = 0)) (k none ls (.long (x - x / y * y) :: st) m)
    | _ => none
  | .lcmp => match st with
    | .long y :: .long x :: st => k none ls (.int (lg_cmp x y) :: st) m
    | _ => none
  | .dup => match st with
    | .int x :: st => k none ls (.int x :: .int x :: st) m
    | .ref x :: st => k none ls (.ref x :: .ref x :: st) m
    | _ => none
  | .dup2 => match st with
    | .int y :: .ref x :: st => k none ls (.int y :: .ref x :: .int y :: .ref x :: st) m
    | _ => none
  | .pop => match st with
    | .int _ :: st => k none ls st m
    | _ => none
  | .goto _ => k (some (lk.getD 0 0)) ls st m
  | .ifCond c _ => match st with
    | .int x :: st => z_br c x 0 (k (some (lk.getD 0 0)) ls st m) (k none ls st m)
    | _ => none
  | .if_icmp c _ => match st with
    | .int y :: .int x :: st => z_br c x y (k (some (lk.getD 0 0)) ls st m) (k none ls st m)
    | _ => none
  | .tableswitch _ _ _ _ | .lookupswitch _ _ => match st with
    | .int x :: st => z_sw x (fun t => k (some t) ls st m) (lk.getD 0 0) lk.tail
    | _ => none
  | .getfield _ => match st with
    | .ref a :: st => (match lk.getD 2 0 with
      | 0 => z_g (z_okp sh a (lk.getD 0 0) (lk.getD 1 0) 0) (k none ls (.int (m a (lk.getD 1 0)) :: st) m)
      | 1 => z_g (z_okp sh a (lk.getD 0 0) (lk.getD 1 0) 1) (k none ls (.int (z_b (m a (lk.getD 1 0))) :: st) m)
      | _ => Option.bind (z_ref sh a (lk.getD 0 0) (lk.getD 1 0)) (fun r => k none ls (.ref r :: st) m))
    | _ => none
  | .putfield _ => match st with
    | .int x :: .ref a :: st => (match lk.getD 2 0 with
      | 0 => z_g (z_okp sh a (lk.getD 0 0) (lk.getD 1 0) 0) (k none ls st (z_up m a (lk.getD 1 0) x))
      | 1 => z_g (z_okp sh a (lk.getD 0 0) (lk.getD 1 0) 1 && z_isb x) (k none ls st (z_up m a (lk.getD 1 0) x))
      | _ => none)
    | _ => none
  | .iaload => match st with
    | .int i :: .ref a :: st => (match lk with
      | [] => z_g (z_ina sh a 0 i) (k none ls (.int (m a i.toNatClampNeg) :: st) m)
      | _ => z_g (Nat.beq a 1000 && z_in L i) (k none ls (.int (xs i.toNatClampNeg) :: st) m))
    | _ => none
  | .arraylength => match st with
    | .ref a :: st => z_g (Nat.beq a 1000) (k none ls (.int (nI L) :: st) m)
    | _ => none
  | .iastore => match st with
    | .int x :: .int i :: .ref a :: st => z_g (z_ina sh a 0 i) (k none ls st (z_up m a i.toNatClampNeg x))
    | _ => none
  | .baload => match st with
    | .int i :: .ref a :: st => z_g (z_ina sh a 1 i) (k none ls (.int (z_b (m a i.toNatClampNeg)) :: st) m)
    | _ => none
  | .bastore => match st with
    | .int x :: .int i :: .ref a :: st => z_g (z_ina sh a 1 i && z_isb x) (k none ls st (z_up m a i.toNatClampNeg x))
    | _ => none
  | .aaload => match st with
    | .int i :: .ref a :: st => z_g (z_aff sh a (lk.getD 0 0) (lk.getD 1 0) (lk.getD 2 0) && z_in (lk.getD 2 0) i) (k none ls (.ref (z_ai a (lk.getD 0 0) (lk.getD 1 0) i.toNatClampNeg) :: st) m)
    | _ => none
  | _ => none
def z_cat (st : List Value) : Nat := (st.map fun v => v.category).sum
def z_rs (rk : Nat) (r : z_R) (st : List Value) : List Value := match rk with
  | 0 => st
  | 2 => .long r.2.1 :: st
  | _ => .int r.1 :: st
def z_copy (sh : List z_C) (a0 a : Nat) (sp dp n : Int32) : Bool := match sh[a0]?, sh[a]? with
  | some (.inr (.inl (0, n0))), some (.inr (.inl (0, n1))) => decide (¬ sp < 0) && decide (¬ dp < 0) && decide (¬ n < 0) && Nat.ble (sp.toNatClampNeg + n.toNatClampNeg) n0 && Nat.ble (dp.toNatClampNeg + n.toNatClampNeg) n1
  | _, _ => false
def z_blk (sh : List z_C) (L : Nat) (xs : Nat → Int32) (code : List z_En) (hd : List (Nat × List Bool)) (rk : Nat) (K : Nat → z_V → List Value → z_M → Option z_R) (C : Nat → List Value → z_M → Option z_R) : Nat → List z_En → z_V → List Value → z_M → Option z_R
  | 0, _, _, _, _ => none
  | _ + 1, [], _, _, _ => none
  | n + 1, e :: cs, ls, st, m =>
    let nx : z_K z_R := fun o ls' st' m' => match o with
      | none => (match z_hd hd (e.1 + e.2.2.1) with
        | some mq => K (e.1 + e.2.2.1) (z_mask mq ls') st' m'
        | none => z_blk sh L xs code hd rk K C n cs ls' st' m')
      | some t => (match z_hd hd t with
        | some mq => K t (z_mask mq ls') st' m'
        | none => z_blk sh L xs code hd rk K C n (z_at code t) ls' st' m')
    match e.2.1 with
    | .ireturn => (match st with
      | [.int v] => (match rk with
        | 1 => some (v, 0, m)
        | 3 => z_g (z_isb v) (some (v, 0, m))
        | _ => none)
      | _ => none)
    | .lreturn => (match st with
      | [.long v] => (match rk with
        | 2 => some (0, v, m)
        | _ => none)
      | _ => none)
    | .return_ => (match st with
      | [] => (match rk with
        | 0 => some (0, 0, m)
        | _ => none)
      | _ => none)
    | .invokevirtual _ => (match z_pop (e.2.2.2.1.getD 1 0) st [] with
      | some (.ref a :: as, rest) => z_g (Nat.ble (z_cat rest) 8 && z_okc sh a (e.2.2.2.1.getD 3 0)) (Option.bind (C (e.2.2.2.1.getD 0 0) (.ref a :: as) m) (fun r => nx none ls (z_rs (e.2.2.2.1.getD 2 0) r rest) r.2.2))
      | _ => none)
    | .invokestatic _ => (match e.2.2.2.1 with
      | [] => (match st with
        | .int n :: .int dp :: .ref a :: .int sp :: .ref a0 :: rest => z_g (Nat.ble (z_cat rest) 8 && z_copy sh a0 a sp dp n) (nx none ls rest (fun q => if q = a then va_cpy (m a0) (m a) sp.toNatClampNeg dp.toNatClampNeg n.toNatClampNeg else m q))
        | _ => none)
      | [_] => (match st with
        | .int y :: .int x :: rest => z_g (Nat.ble (z_cat rest) 8) (nx none ls (.int (if x < y then y else x) :: rest) m)
        | _ => none)
      | lk => (match z_pop (lk.getD 1 0) st [] with
        | some (as, rest) => z_g (Nat.ble (z_cat rest) 8) (Option.bind (C (lk.getD 0 0) as m) (fun r => nx none ls (z_rs (lk.getD 2 0) r rest) r.2.2))
        | _ => none))
    | ins => z_ins sh L xs ins e.2.2.2.1 e.2.2.2.2.1 ls st m nx
/-- a method: name, bytes, locals, type that it returns, code, heads of loops -/
abbrev z_Me : Type := MethodName × ByteArray × Nat × Option FieldType × List z_En × List (Nat × List Bool)
def z_rk (ret : Option FieldType) : Nat := match ret with
  | none => 0
  | some .int => 1
  | some .long => 2
  | some .boolean => 3
  | _ => 9
def z_lp (sh : List z_C) (L : Nat) (xs : Nat → Int32) (C : Nat → List Value → z_M → Option z_R) (me : z_Me) : Nat → Nat → z_V → List Value → z_M → Option z_R
  | 0, _, _, _, _ => none
  | F + 1, pc, ls, st, m => z_blk sh L xs me.2.2.2.2.1 me.2.2.2.2.2 (z_rk me.2.2.2.1) (fun pc ls st m => z_lp sh L xs C me F pc ls st m) C 1000 (z_at me.2.2.2.2.1 pc) ls st m
def z_F : Nat := 200000
def z_go (sh : List z_C) (P : List z_Me) : Nat → Nat → List Value → z_M → Option z_R
  | 0, _, _, _ => none
  | d + 1, j, args, m => match P[j]? with
    | some me => z_g (Nat.ble (z_cat args) me.2.2.1) (z_lp sh 0 (fun _ => 0) (z_go sh P d) me z_F 0 (z_loc me.2.2.1 args) [] m)
    | none => none
