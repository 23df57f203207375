/-! THE ABSTRACT MACHINE: a method run over an abstract heap. A reference .ref k is the k-th cell that the law's run has made; .retAddr j is the j-th array outside (the script, the classes' own constant arrays: read only). x_run is a pure function; x_sound (next part) says that the machine does what it says. -/
abbrev X_C : Type := (FieldType × vp_A) ⊕ (Nat × List Value)
abbrev X_H : Type := Nat × Nat × (Nat → Option X_C)
abbrev X_L : Type := List (Nat × Value)
abbrev X_O : Type := Nat → Option (Nat × (Nat → Int32))
def x_up (f : Nat → Option X_C) (k : Nat) (c : X_C) : Nat → Option X_C := fun j => if j = k then some c else f j
def x_set (w : X_H) (k : Nat) (c : X_C) : X_H := (w.1, w.2.1, x_up w.2.2 k c)
def x_new (w : X_H) (sl : Nat) (c : X_C) : X_H := (w.1 + 1, w.2.1 + sl, x_up w.2.2 w.1 c)
def x_lget : X_L → Nat → Option Value
  | [], _ => none
  | (j, v) :: t, i => if j = i then some v else x_lget t i
def x_st1 (lv : X_L) (i : Nat) (v : Value) : X_L := (i, v) :: lv.filter (fun q => !(q.1 == i) && !(q.1 + 1 == i && q.2.category == 2))
def x_st2 (lv : X_L) (i : Nat) (v : Value) : X_L := (i, v) :: lv.filter (fun q => !(q.1 == i) && (!(q.1 == i + 1) && !(q.1 + 1 == i && q.2.category == 2)))
def x_in (j : Int32) (n : Nat) : Bool := decide (¬ (j < 0 ∨ n ≤ j.toNatClampNeg))
/-- instructions of the stack alone -/
def x_alu (i : Instr) (st : List Value) : Option (List Value) :=
  match i with
  | .iconst n => some (.int (Int32.ofInt n) :: st)
  | .bipush n => some (.int (Int8.ofInt n).toInt32 :: st)
  | .sipush n => some (.int (Int16.ofInt n).toInt32 :: st)
  | .lconst n => some (.long (Int64.ofNat n) :: st)
  | .aconst_null => some (.null :: st)
  | .iadd => (match st with | .int y :: .int x :: t => some (.int (x + y) :: t) | _ => none)
  | .isub => (match st with | .int y :: .int x :: t => some (.int (x - y) :: t) | _ => none)
  | .imul => (match st with | .int y :: .int x :: t => some (.int (x * y) :: t) | _ => none)
  | .iand => (match st with | .int y :: .int x :: t => some (.int (x &&& y) :: t) | _ => none)
  | .ixor => (match st with | .int y :: .int x :: t => some (.int (x ^^^ y) :: t) | _ => none)
  | .ladd => (match st with | .long y :: .long x :: t => some (.long (x + y) :: t) | _ => none)
  | .lsub => (match st with | .long y :: .long x :: t => some (.long (x - y) :: t) | _ => none)
  | .lmul => (match st with | .long y :: .long x :: t => some (.long (x * y) :: t) | _ => none)
  | .land => (match st with | .long y :: .long x :: t => some (.long (x &&& y) :: t) | _ => none)
  | .lor => (match st with | .long y :: .long x :: t => some (.long (x ||| y) :: t) | _ => none)
  | .ldiv => (match st with | .long y :: .long x :: t => if y = 0 then none else some (.long (x / y) :: t) | _ => none)
  | .lcmp => (match st with | .long y :: .long x :: t => some (.int (lg_cmp x y) :: t) | _ => none)
  | .irem => (match st with | .int y :: .int x :: t => if y = 0 then none else some (.int (x - x / y * y) :: t) | _ => none)
  | .lshl => (match st with | .int y :: .long x :: t => some (.long (x <<< (y.toInt64 &&& 63)) :: t) | _ => none)
  | .i2l => (match st with | .int x :: t => some (.long x.toInt64 :: t) | _ => none)
  | .l2i => (match st with | .long x :: t => some (.int x.toInt32 :: t) | _ => none)
  | .pop => (match st with | a :: t => if a.category = 1 then some t else none | _ => none)
  | .dup => (match st with | a :: t => if a.category = 1 then some (a :: a :: t) else none | _ => none)
  | .dup_x1 => (match st with | a :: b :: t => if a.category = 1 ∧ b.category = 1 then some (a :: b :: a :: t) else none | _ => none)
  | .dup2 => (match st with | a :: b :: t => if a.category = 1 ∧ b.category = 1 then some (a :: b :: a :: b :: t) else none | _ => none)
  | _ => none
/-- the locals -/
def x_loc (i : Instr) (lv : X_L) (st : List Value) : Option (X_L × List Value) :=
  match i with
  | .iload_n k => (match x_lget lv k with | some (.int x) => some (lv, .int x :: st) | _ => none)
  | .iload k => (match x_lget lv k with | some (.int x) => some (lv, .int x :: st) | _ => none)
  | .lload_n k => (match x_lget lv k with | some (.long x) => some (lv, .long x :: st) | _ => none)
  | .lload k => (match x_lget lv k with | some (.long x) => some (lv, .long x :: st) | _ => none)
  | .aload_n k => (match x_lget lv k with | some (.ref x) => some (lv, .ref x :: st) | some (.retAddr x) => some (lv, .retAddr x :: st) | some .null => some (lv, .null :: st) | _ => none)
  | .aload k => (match x_lget lv k with | some (.ref x) => some (lv, .ref x :: st) | some (.retAddr x) => some (lv, .retAddr x :: st) | some .null => some (lv, .null :: st) | _ => none)
  | .istore_n k => (match st with | .int x :: t => some (x_st1 lv k (.int x), t) | _ => none)
  | .istore k => (match st with | .int x :: t => some (x_st1 lv k (.int x), t) | _ => none)
  | .lstore_n k => (match st with | .long x :: t => some (x_st2 lv k (.long x), t) | _ => none)
  | .lstore k => (match st with | .long x :: t => some (x_st2 lv k (.long x), t) | _ => none)
  | .astore_n k => (match st with | .ref x :: t => some (x_st1 lv k (.ref x), t) | .retAddr x :: t => some (x_st1 lv k (.retAddr x), t) | .null :: t => some (x_st1 lv k .null, t) | _ => none)
  | .astore k => (match st with | .ref x :: t => some (x_st1 lv k (.ref x), t) | .retAddr x :: t => some (x_st1 lv k (.retAddr x), t) | .null :: t => some (x_st1 lv k .null, t) | _ => none)
  | .iinc k n => (match x_lget lv k with | some (.int x) => some (x_st1 lv k (.int (x + Int32.ofInt n)), st) | _ => none)
  | _ => none
/-- a branch: whether, how far, the stack behind it -/
def x_brc (i : Instr) (st : List Value) : Option (Bool × Int × List Value) :=
  match i with
  | .goto off => some (true, off, st)
  | .ifCond .eq off => (match st with | .int x :: t => some (decide (x = 0), off, t) | _ => none)
  | .ifCond .ne off => (match st with | .int x :: t => some (decide (¬ x = 0), off, t) | _ => none)
  | .ifCond .lt off => (match st with | .int x :: t => some (decide (x < 0), off, t) | _ => none)
  | .ifCond .ge off => (match st with | .int x :: t => some (decide (0 ≤ x), off, t) | _ => none)
  | .ifCond .gt off => (match st with | .int x :: t => some (decide (0 < x), off, t) | _ => none)
  | .ifCond .le off => (match st with | .int x :: t => some (decide (x ≤ 0), off, t) | _ => none)
  | .if_icmp .eq off => (match st with | .int y :: .int x :: t => some (decide (x = y), off, t) | _ => none)
  | .if_icmp .ne off => (match st with | .int y :: .int x :: t => some (decide (¬ x = y), off, t) | _ => none)
  | .if_icmp .lt off => (match st with | .int y :: .int x :: t => some (decide (x < y), off, t) | _ => none)
  | .if_icmp .ge off => (match st with | .int y :: .int x :: t => some (decide (y ≤ x), off, t) | _ => none)
  | .if_icmp .gt off => (match st with | .int y :: .int x :: t => some (decide (y < x), off, t) | _ => none)
  | .if_icmp .le off => (match st with | .int y :: .int x :: t => some (decide (x ≤ y), off, t) | _ => none)
  | .ifnull off => (match st with | .null :: t => some (true, off, t) | .ref _ :: t => some (false, off, t) | _ => none)
  | .ifnonnull off => (match st with | .null :: t => some (false, off, t) | .ref _ :: t => some (true, off, t) | _ => none)
  | _ => none
/-- a switch: how far, the stack behind it -/
def x_swt (i : Instr) (st : List Value) : Option (Int × List Value) :=
  match i with
  | .tableswitch dflt lo hi offs => (match st with | .int x :: t => (if x.toInt < lo ∨ hi < x.toInt then some (dflt, t) else (match offs[(x.toInt - lo).toNat]? with | some off => some (off, t) | none => none)) | _ => none)
  | .lookupswitch dflt ps => (match st with | .int x :: t => some (Op.lookupswitch.offset ps.toList dflt x.toInt, t) | _ => none)
  | _ => none
def x_tgt (pc : Nat) (off : Int) : Nat := ((pc : Int) + off).toNat
def x_fit (ty : FieldType) (v : Value) : Bool :=
  match ty, v with
  | .int, .int _ => true
  | .long, .long _ => true
  | .boolean, .int x => decide (x = 0 ∨ x = 1)
  | .object _, .ref _ => true
  | .object _, .null => true
  | .array _, .ref _ => true
  | .array _, .null => true
  | _, _ => false
/-- the cells -/
def x_heap (o : X_O) (mi : Nat) (i : Instr) (st : List Value) (w : X_H) : Option (List Value × X_H) :=
  match i with
  | .getfield idx => (match x_fld mi idx, st with
    | some (ci, k), .ref a :: t => (match w.2.2 a with
      | some (.inr (cj, fs)) => if cj = ci then (match fs[k]? with | some v => some (v :: t, w) | none => none) else none
      | _ => none)
    | _, _ => none)
  | .putfield idx => (match x_fld mi idx, st with
    | some (ci, k), v :: .ref a :: t => (match w.2.2 a with
      | some (.inr (cj, fs)) => if cj = ci ∧ k < fs.length ∧ x_fit (x_fty ci k) v = true ∧ x_pok mi ci k = true then some (t, x_set w a (.inr (cj, fs.set k v))) else none
      | _ => none)
    | _, _ => none)
  | .iaload => (match st with
    | .int j :: .ref a :: t => (match w.2.2 a with
      | some (.inl (.int, n, .inl f)) => if x_in j n = true then some (.int (f j.toNatClampNeg) :: t, w) else none
      | _ => none)
    | .int j :: .retAddr a :: t => (match o a with
      | some (n, f) => if x_in j n = true then some (.int (f j.toNatClampNeg) :: t, w) else none
      | none => none)
    | _ => none)
  | .laload => (match st with
    | .int j :: .ref a :: t => (match w.2.2 a with
      | some (.inl (.long, n, .inr (.inl f))) => if x_in j n = true then some (.long (f j.toNatClampNeg) :: t, w) else none
      | _ => none)
    | _ => none)
  | .baload => (match st with
    | .int j :: .ref a :: t => (match w.2.2 a with
      | some (.inl (.boolean, n, .inl f)) => if x_in j n = true then some (.int (f j.toNatClampNeg) :: t, w) else none
      | _ => none)
    | _ => none)
  | .aaload => (match st with
    | .int j :: .ref a :: t => (match w.2.2 a with
      | some (.inl (.object C, n, .inr (.inr (.inr (.inr f))))) => if x_in j n = true ∧ x_et (.object C) = true then some (va_rf (f j.toNatClampNeg) :: t, w) else none
      | _ => none)
    | _ => none)
  | .iastore => (match st with
    | .int x :: .int j :: .ref a :: t => (match w.2.2 a with
      | some (.inl (.int, n, .inl f)) => if x_in j n = true then some (t, x_set w a (.inl (.int, n, .inl (upd f j.toNatClampNeg x)))) else none
      | _ => none)
    | _ => none)
  | .lastore => (match st with
    | .long x :: .int j :: .ref a :: t => (match w.2.2 a with
      | some (.inl (.long, n, .inr (.inl f))) => if x_in j n = true then some (t, x_set w a (.inl (.long, n, .inr (.inl (vp_updL f j.toNatClampNeg x))))) else none
      | _ => none)
    | _ => none)
  | .bastore => (match st with
    | .int x :: .int j :: .ref a :: t => (match w.2.2 a with
      | some (.inl (.boolean, n, .inl f)) => if x_in j n = true ∧ (x = 0 ∨ x = 1) then some (t, x_set w a (.inl (.boolean, n, .inl (upd f j.toNatClampNeg x)))) else none
      | _ => none)
    | _ => none)
  | .aastore => (match st with
    | .ref v :: .int j :: .ref a :: t => (match w.2.2 a, w.2.2 v with
      | some (.inl (.object C, n, .inr (.inr (.inr (.inr f))))), some (.inr (cj, _)) => if x_in j n = true ∧ x_cn cj = some C ∧ x_et (.object C) = true then some (t, x_set w a (.inl (.object C, n, .inr (.inr (.inr (.inr (va_up f j.toNatClampNeg (some v)))))))) else none
      | _, _ => none)
    | _ => none)
  | .arraylength => (match st with
    | .ref a :: t => (match w.2.2 a with
      | some (.inl (ty, n, _)) => if x_et ty = true then some (.int (Int32.ofNat n) :: t, w) else none
      | _ => none)
    | .retAddr a :: t => (match o a with
      | some (n, _) => some (.int (Int32.ofNat n) :: t, w)
      | none => none)
    | _ => none)
  | .newarray at_ => (match st with
    | .int n :: t => if ¬ n < 0 ∧ n.toNatClampNeg * 8 ≤ 536870912 then (match at_ with
      | .int => some (.ref w.1 :: t, x_new w n.toNatClampNeg (.inl (.int, n.toNatClampNeg, .inl fun _ => 0)))
      | .long => some (.ref w.1 :: t, x_new w n.toNatClampNeg (.inl (.long, n.toNatClampNeg, .inr (.inl fun _ => 0))))
      | .boolean => some (.ref w.1 :: t, x_new w n.toNatClampNeg (.inl (.boolean, n.toNatClampNeg, .inl fun _ => 0)))
      | _ => none) else none
    | _ => none)
  | .anewarray idx => (match x_cls mi idx, st with
    | some ci, .int n :: t => (match x_cn ci with
      | some C => if ¬ n < 0 ∧ n.toNatClampNeg * 4 ≤ 536870912 ∧ x_et (.object C) = true then some (.ref w.1 :: t, x_new w n.toNatClampNeg (.inl (.object C, n.toNatClampNeg, .inr (.inr (.inr (.inr fun _ => none)))))) else none
      | none => none)
    | _, _ => none)
  | .new idx => (match x_cls mi idx with
    | some ci => some (.ref w.1 :: st, x_new w (x_dfl ci).length (.inr (ci, x_dfl ci)))
    | none => none)
  | .getstatic idx => (match x_sta mi idx with | some j => some (.retAddr j :: st, w) | none => none)
  | .ldc idx => (match x_con mi idx with | some (.int v) => some (.int v :: st, w) | _ => none)
  | .ldc2_w idx => (match x_con mi idx with | some (.long v) => some (.long v :: st, w) | _ => none)
  | _ => none
/-- System.arraycopy of ints and of longs -/
def x_acopy (st : List Value) (w : X_H) : Option (List Value × X_H) :=
  match st with
  | .int n :: .int dp :: .ref a1 :: .int sp :: .ref a0 :: t =>
    if ¬ sp < 0 ∧ ¬ dp < 0 ∧ ¬ n < 0 then (match w.2.2 a0, w.2.2 a1 with
      | some (.inl (.int, n0, .inl f)), some (.inl (.int, n1, .inl g)) =>
        if sp.toNatClampNeg + n.toNatClampNeg ≤ n0 ∧ dp.toNatClampNeg + n.toNatClampNeg ≤ n1 then some (t, x_set w a1 (.inl (.int, n1, .inl (va_cpy f g sp.toNatClampNeg dp.toNatClampNeg n.toNatClampNeg)))) else none
      | some (.inl (.long, n0, .inr (.inl f))), some (.inl (.long, n1, .inr (.inl g))) =>
        if sp.toNatClampNeg + n.toNatClampNeg ≤ n0 ∧ dp.toNatClampNeg + n.toNatClampNeg ≤ n1 then some (t, x_set w a1 (.inl (.long, n1, .inr (.inl (va_cpy f g sp.toNatClampNeg dp.toNatClampNeg n.toNatClampNeg))))) else none
      | _, _ => none) else none
  | _ => none
/-- StepRowsLaw.table: the class's table with its throw caught -/
def x_tab (o : X_O) (st : List Value) (w : X_H) : Option (List Value × X_H) :=
  match st with
  | .ref a :: .int p :: .ref k :: t => (match w.2.2 a, w.2.2 k, o 2 with
    | some (.inl (.long, n, .inr (.inl f))), some (.inr (0, _)), some (nT, fT) => if 1 ≤ n ∧ nT = 10 then (if x_in p 10 = true then some (.int 0 :: t, x_set w a (.inl (.long, n, .inr (.inl (vp_updL f 0 (fT p.toNatClampNeg).toInt64))))) else some (.int 1 :: t, (w.1 + 1, w.2.1 + 6, w.2.2))) else none
    | _, _, _ => none)
  | _ => none
/-- an invocation: by the receiver (0), special (1), static (2); its pool entry -/
def x_inv : Instr → Option (Nat × Nat)
  | .invokevirtual idx => some (0, idx)
  | .invokespecial idx => some (1, idx)
  | .invokestatic idx => some (2, idx)
  | _ => none
def x_kt (kd : Nat) : Nat := if kd ≤ 1 then 0 else if kd ≤ 3 then 1 else if kd = 6 then 1 else 2
/-- a return: what comes back -/
def x_rets (i : Instr) (rt : Option FieldType) (st : List Value) : Option (Option Value) :=
  match i with
  | .ireturn => (match rt, st with
    | some .int, [.int v] => some (some (.int v))
    | some .boolean, [.int v] => if v = 0 ∨ v = 1 then some (some (.int v)) else none
    | _, _ => none)
  | .lreturn => (match rt, st with | some .long, [.long v] => some (some (.long v)) | _, _ => none)
  | .areturn => (match rt, st with
    | some (.object _), [.ref v] => some (some (.ref v))
    | some (.array _), [.ref v] => some (some (.ref v))
    | some (.object _), [.null] => some (some .null)
    | _, _ => none)
  | .return_ => (match rt, st with | none, [] => some none | _, _ => none)
  | _ => none
/-- what a call takes: kind 0, 1: by the receiver's class (1: a nest mate's); 2, 3: a constructor; 4, 5: static. The callee's arguments, the stack below them -/
def x_args (kd y na : Nat) (st : List Value) (w : X_H) : Option (List Value × List Value) :=
  if kd ≤ 1 then (match st.drop na with
    | .ref b :: rest => (match w.2.2 b with
      | some (.inr (cj, _)) => if some cj = x_own y then some (.ref b :: (st.take na).reverse, rest) else none
      | _ => none)
    | _ => none)
  else if kd ≤ 3 then (match st.drop na with
    | .ref b :: rest => some (.ref b :: (st.take na).reverse, rest)
    | _ => none)
  else if na ≤ st.length then some ((st.take na).reverse, st.drop na) else none
/-- a step, and F behind it -/
def x_G (o : X_O) (F : Nat → Nat → Nat → X_L → List Value → X_H → Option (X_H × Option Value)) (d mi pc : Nat) (lv : X_L) (st : List Value) (w : X_H) : Option (X_H × Option Value) :=
  match x_code mi pc with
  | none => none
  | some i =>
    match x_alu i st with
    | some st' => F d mi (pc + x_len i) lv st' w
    | none =>
      match x_loc i lv st with
      | some (lv', st') => F d mi (pc + x_len i) lv' st' w
      | none =>
        match x_heap o mi i st w with
        | some (st', w') => F d mi (pc + x_len i) lv st' w'
        | none =>
          match x_brc i st with
          | some (b, off, t) => if b = true then F d mi (x_tgt pc off) lv t w else F d mi (pc + 3) lv t w
          | none =>
            match x_swt i st with
            | some (off, t) => F d mi (x_tgt pc off) lv t w
            | none =>
              match x_rets i (x_ret mi) st with
              | some r => some (w, r)
              | none =>
                match x_inv i with
                | none => none
                | some (it, idx) =>
                  match x_mth mi idx with
                  | none => none
                  | some (kd, y, na) =>
                    if ¬ x_kt kd = it then none
                    else if kd = 6 then (match st with | .ref _ :: t => if (t.map fun v => v.category).sum ≤ 8 ∧ 1 ≤ d then F d mi (pc + 3) lv t w else none | _ => none)
                    else if kd = 7 then (match x_acopy st w with | some (t, w') => if (t.map fun v => v.category).sum ≤ 8 ∧ 1 ≤ d then F d mi (pc + 3) lv t w' else none | none => none)
                    else if kd = 8 then (match st with | .int y :: .int x :: t => if (t.map fun v => v.category).sum ≤ 8 ∧ 1 ≤ d then F d mi (pc + 3) lv (.int (if y < x then y else x) :: t) w else none | _ => none)
                    else if kd = 9 then (match x_tab o st w with | some (t, w') => if (t.map fun v => v.category).sum ≤ 8 ∧ 12 ≤ d then F d mi (pc + 3) lv t w' else none | none => none)
                    else match d, x_args kd y na st w with
                    | d' + 1, some (as, rest) =>
                      if (rest.map fun v => v.category).sum ≤ 8 ∧ (as.map fun v => v.category).sum ≤ x_mL y then (match F d' y 0 (lv_args 0 as) [] w with
                        | some (w1, r) => F (d' + 1) mi (pc + 3) lv (r.toList ++ rest) w1
                        | none => none) else none
                    | _, _ => none
def x_run (o : X_O) : Nat → Nat → Nat → Nat → X_L → List Value → X_H → Option (X_H × Option Value)
  | 0 => fun _ _ _ _ _ _ => none
  | n + 1 => x_G o (x_run o n)
