/-! the linked program as a function over a shape and a memory of ints (own words): shape: a row of ints (kind, length) or an object (kind of object, fields: an int that stands in the memory, or a value that does not change but by the shape) -/
abbrev fv_Sl : Type := List (Option Value)
abbrev fv_C : Type := (Nat × Nat) ⊕ (Nat × List (Option Value))
abbrev fv_Sh : Type := List fv_C
abbrev fv_M : Type := Nat → Nat → Int32
abbrev fv_R : Type := Option Value × fv_Sh × fv_M
abbrev fv_X : Type := Nat × (Nat → Int32)
abbrev fv_Nx : Type := (Nat × fv_Sl × List Value × (Nat × Nat) × fv_Sh × fv_M) ⊕ (Option Value ⊕ (Nat × List Value × Nat × List Value))
def fv_set (M : fv_M) (c k : Nat) (x : Int32) : fv_M := fun j => if j = c then upd (M c) k x else M j
def fv_new (M : fv_M) (c : Nat) : fv_M := fun j => if j = c then fun _ => 0 else M j
def fv_rows : List (List fv_Row) := [fv_k0, fv_k1, fv_k2, fv_k3, fv_k4, fv_k5, fv_k6, fv_k7, fv_k8, fv_k9, fv_k10, fv_k11, fv_k12, fv_k13, fv_k14, fv_k15, fv_k16, fv_k17, fv_k18, fv_k19, fv_k20, fv_k21, fv_k22, fv_k23, fv_k24, fv_k25, fv_k26, fv_k27, fv_k28, fv_k29, fv_k30, fv_k31, fv_k32, fv_k33, fv_k34, fv_k35, fv_k36, fv_k37, fv_k38, fv_k39, fv_k40, fv_k41, fv_k42, fv_k43, fv_k44, fv_k45, fv_k46, fv_k47, fv_k48, fv_k49, fv_k50, fv_k51, fv_k52, fv_k53, fv_k54, fv_k55, fv_k56, fv_k57, fv_k58, fv_k59, fv_k60, fv_k61, fv_k62, fv_k63, fv_k64, fv_k65, fv_k66, fv_k67, fv_k68, fv_k69, fv_k70, fv_k71, fv_k72, fv_k73, fv_k74, fv_k75, fv_k76, fv_k77, fv_k78, fv_k79, fv_k80, fv_k81, fv_k82, fv_k83, fv_k84, fv_k85, fv_k86, fv_k87, fv_k88, fv_k89, fv_k90, fv_k91, fv_k92, fv_k93, fv_k94, fv_k95, fv_k96, fv_k97, fv_k98, fv_k99, fv_k100, fv_k101, fv_k102, fv_k103, fv_k104, fv_k105, fv_k106, fv_k107, fv_k108, fv_k109, fv_k110, fv_k111, fv_k112, fv_k113, fv_k114, fv_k115, fv_k116, fv_k117, fv_k118, fv_k119, fv_k120, fv_k121, fv_k122, fv_k123, fv_k124, fv_k125, fv_k126, fv_k127, fv_k128, fv_k129, fv_k130, fv_k131, fv_k132, fv_k133, fv_k134, fv_k135, fv_k136, fv_k137, fv_k138, fv_k139, fv_k140, fv_k141, fv_k142, fv_k143, fv_k144, fv_k145, fv_k146, fv_k147, fv_k148, fv_k149, fv_k150, fv_k151, fv_k152, fv_k153, fv_k154, fv_k155, fv_k156, fv_k157, fv_k158, fv_k159, fv_k160, fv_k161, fv_k162, fv_k163, fv_k164, fv_k165, fv_k166, fv_k167, fv_k168]
def fv_lk (y pc : Nat) : Option (Instr × Nat) := ((fv_rows.getD y []).find? (fun r => r.1 == pc)).map (fun r => (r.2.2.2, r.2.2.1))
/-- the script's and the text's own places, which are no cells -/
def fv_SCR : Nat := 1000000
def fv_STR : Nat := 1000001
def fv_TXT : List Nat := [118, 48, 44, 50, 59, 118, 49, 44, 48, 59, 118, 50, 44, 51, 59, 118, 51, 44, 49, 59, 110, 51, 59, 110, 54, 59, 110, 49, 51, 59, 110, 57, 59, 110, 52, 59, 116, 55, 59, 116, 50, 53, 59, 115, 48, 44, 48, 44, 52, 59, 115, 48, 44, 50, 44, 50, 59, 115, 49, 44, 49, 44, 51, 59, 115, 49, 44, 51, 44, 53, 59, 115, 49, 44, 48, 44, 49, 59, 119, 48, 44, 48, 44, 52, 59, 119, 48, 44, 50, 44, 54, 59, 119, 49, 44, 51, 44, 53, 59, 119, 48, 44, 49, 44, 50, 59, 119, 49, 44, 48, 44, 55, 59]
def fv_st1 (ls : fv_Sl) (i : Nat) (v : Value) : Option fv_Sl :=
  if i = ls.length then some (ls ++ [some v]) else
  match ls[i]? with
  | some (some w) => if w.category = 1 then some (ls.set i (some v)) else none
  | _ => none
def fv_c1 (c : Jvm.ClassFile.Cond) (x : Int32) : Bool := match c with
  | .eq => decide (x = 0) | .ne => decide (¬ x = 0) | .lt => decide (x < 0) | .ge => decide (0 ≤ x) | .gt => decide (0 < x) | .le => decide (x ≤ 0)
def fv_c2 (c : Jvm.ClassFile.Cond) (x y : Int32) : Bool := match c with
  | .eq => decide (x = y) | .ne => decide (¬ x = y) | .lt => decide (x < y) | .ge => decide (y ≤ x) | .gt => decide (y < x) | .le => decide (x ≤ y)
def fv_rok (t : Option FieldType) (x : Int32) : Bool := match t with
  | some .int => true | some .boolean => decide (x = 0 ∨ x = 1) | _ => false
def fv_belV (n : Nat) (v : Value) : Bool := match v with
  | .ref r => decide (r < n) || decide (fv_SCR ≤ r) | _ => true
def fv_belO (n : Nat) (v : Option Value) : Bool := match v with
  | some v => fv_belV n v | none => true
def fv_belC (n : Nat) (c : fv_C) : Bool := match c with
  | .inl _ => true | .inr (_, sl) => sl.all (fv_belO n)
def fv_one (o : Option Value) : Bool := match o with
  | some v => v.category == 1 | none => true
def fv_isI (t : FieldType) : Bool := match t with
  | .int => true | _ => false
def fv_isR (t : FieldType) : Bool := match t with
  | .object _ => true | .array _ => true | _ => false
def fv_at (t : ArrayType) : Option Nat := match t with
  | .int => some 0 | .boolean => some 1 | .char => some 2 | _ => none
/-- a new object's fields -/
def fv_sl0 (ci : Nat) : List (Option Value) := (List.range (fv_NF ci)).map (fun k => match fv_Y ci k with | .int => none | _ => some .null)
def fv_tgt (d lo hi : Int) (offs : Array Int) (x : Int32) : Option Nat :=
  if x.toInt < lo ∨ hi < x.toInt then some d.toNat else (offs[(x.toInt - lo).toNat]?).map Int.toNat
def fv_out (i : Int32) (n : Nat) : Prop := i < 0 ∨ n ≤ i.toNatClampNeg
def fv_nx (X : fv_X) (y pc : Nat) (ls : fv_Sl) (st : List Value) (k : Nat × Nat) (sh : fv_Sh) (M : fv_M) : Option fv_Nx :=
  match fv_lk y pc with
  | none => none
  | some (i, np) =>
    match i with
    | .iconst v => some (.inl (np, ls, .int (Int32.ofInt v) :: st, k, sh, M))
    | .ldc2_w v => some (.inl (np, ls, .long (Int64.ofNat v) :: st, k, sh, M))
    | .ldc _ => if y = fv_XI then some (.inl (np, ls, .ref fv_STR :: st, k, sh, M)) else none
    | .iload j => match ls[j]? with
      | some (some (.int x)) => some (.inl (np, ls, .int x :: st, k, sh, M))
      | _ => none
    | .aload j => match ls[j]? with
      | some (some (.ref x)) => some (.inl (np, ls, .ref x :: st, k, sh, M))
      | _ => none
    | .lload j => match ls[j]? with
      | some (some (.long x)) => some (.inl (np, ls, .long x :: st, k, sh, M))
      | _ => none
    | .istore j => match st with
      | .int x :: st => (fv_st1 ls j (.int x)).map (fun ls => .inl (np, ls, st, k, sh, M))
      | _ => none
    | .astore j => match st with
      | .ref x :: st => (fv_st1 ls j (.ref x)).map (fun ls => .inl (np, ls, st, k, sh, M))
      | _ => none
    | .lstore j => match st with
      | .long x :: st => if j = ls.length then some (.inl (np, ls ++ [some (.long x), none], st, k, sh, M)) else none
      | _ => none
    | .iinc j c => match ls[j]? with
      | some (some (.int x)) => some (.inl (np, ls.set j (some (.int (x + Int32.ofInt c))), st, k, sh, M))
      | _ => none
    | .iadd => match st with
      | .int b :: .int a :: st => some (.inl (np, ls, .int (a + b) :: st, k, sh, M))
      | _ => none
    | .isub => match st with
      | .int b :: .int a :: st => some (.inl (np, ls, .int (a - b) :: st, k, sh, M))
      | _ => none
    | .imul => match st with
      | .int b :: .int a :: st => some (.inl (np, ls, .int (a * b) :: st, k, sh, M))
      | _ => none
    | .iand => match st with
      | .int b :: .int a :: st => some (.inl (np, ls, .int (a &&& b) :: st, k, sh, M))
      | _ => none
    | .ior => match st with
      | .int b :: .int a :: st => some (.inl (np, ls, .int (a ||| b) :: st, k, sh, M))
      | _ => none
    | .ixor => match st with
      | .int b :: .int a :: st => some (.inl (np, ls, .int (a ^^^ b) :: st, k, sh, M))
      | _ => none
    | .ishl => match st with
      | .int b :: .int a :: st => some (.inl (np, ls, .int (a <<< (b &&& 31)) :: st, k, sh, M))
      | _ => none
    | .ishr => match st with
      | .int b :: .int a :: st => some (.inl (np, ls, .int (a >>> (b &&& 31)) :: st, k, sh, M))
      | _ => none
    | .iushr => match st with
      | .int b :: .int a :: st => some (.inl (np, ls, .int (a.toUInt32 >>> (b.toUInt32 &&& Int32.toUInt32 31)).toInt32 :: st, k, sh, M))
      | _ => none
    | .idiv => match st with
      | .int b :: .int a :: st => if b = 0 then none else some (.inl (np, ls, .int (a / b) :: st, k, sh, M))
      | _ => none
    | .irem => match st with
      | .int b :: .int a :: st => if b = 0 then none else some (.inl (np, ls, .int (a - a / b * b) :: st, k, sh, M))
      | _ => none
    | .dadd => match st with
      | .int b :: .int a :: st => if (st.map fun v => v.category).sum ≤ 8 then some (.inl (np, ls, .int (if a < b then b else a) :: st, k, sh, M)) else none
      | _ => none
    | .dsub => match st with
      | .int b :: .int a :: st => if (st.map fun v => v.category).sum ≤ 8 then some (.inl (np, ls, .int (if b < a then b else a) :: st, k, sh, M)) else none
      | _ => none
    | .ladd => match st with
      | .long b :: .long a :: st => some (.inl (np, ls, .long (a + b) :: st, k, sh, M))
      | _ => none
    | .lmul => match st with
      | .long b :: .long a :: st => some (.inl (np, ls, .long (a * b) :: st, k, sh, M))
      | _ => none
    | .ldiv => match st with
      | .long b :: .long a :: st => if b = 0 then none else some (.inl (np, ls, .long (a / b) :: st, k, sh, M))
      | _ => none
    | .lrem => match st with
      | .long b :: .long a :: st => if b = 0 then none else some (.inl (np, ls, .long (a - a / b * b) :: st, k, sh, M))
      | _ => none
    | .i2l => match st with
      | .int a :: st => some (.inl (np, ls, .long a.toInt64 :: st, k, sh, M))
      | _ => none
    | .l2i => match st with
      | .long a :: st => some (.inl (np, ls, .int a.toInt32 :: st, k, sh, M))
      | _ => none
    | .i2c => match st with
      | .int a :: st => some (.inl (np, ls, .int (a.toUInt32 % 65536).toInt32 :: st, k, sh, M))
      | _ => none
    | .dup => match st with
      | a :: st => if a.category = 1 then some (.inl (np, ls, a :: a :: st, k, sh, M)) else none
      | _ => none
    | .dup2 => match st with
      | a :: b :: st => if a.category = 1 ∧ b.category = 1 then some (.inl (np, ls, a :: b :: a :: b :: st, k, sh, M)) else none
      | _ => none
    | .pop => match st with
      | a :: st => if a.category = 1 then some (.inl (np, ls, st, k, sh, M)) else none
      | _ => none
    | .goto t => some (.inl (t.toNat, ls, st, k, sh, M))
    | .multianewarray t n => if (ls.take n).all fv_one = true then some (.inl (t, ls.take n, st, k, sh, M)) else none
    | .ifCond c t => match st with
      | .int a :: st => some (.inl (if fv_c1 c a = true then t.toNat else np, ls, st, k, sh, M))
      | _ => none
    | .if_icmp c t => match st with
      | .int b :: .int a :: st => some (.inl (if fv_c2 c a b = true then t.toNat else np, ls, st, k, sh, M))
      | _ => none
    | .ifnull t => match st with
      | .ref _ :: st => some (.inl (np, ls, st, k, sh, M))
      | .null :: st => some (.inl (t.toNat, ls, st, k, sh, M))
      | _ => none
    | .ifnonnull t => match st with
      | .ref _ :: st => some (.inl (t.toNat, ls, st, k, sh, M))
      | .null :: st => some (.inl (np, ls, st, k, sh, M))
      | _ => none
    | .tableswitch d lo hi offs => match st with
      | .int a :: st => (fv_tgt d lo hi offs a).map (fun t => .inl (t, ls, st, k, sh, M))
      | _ => none
    | .getfield q => match st with
      | .ref c :: st => match sh[c]? with
        | some (.inr (ci, sl)) => if ci = q / 100 then match sl[q % 100]? with
          | some none => some (.inl (np, ls, .int (M c (q % 100)) :: st, k, sh, M))
          | some (some v) => some (.inl (np, ls, v :: st, k, sh, M))
          | none => none else none
        | _ => none
      | _ => none
    | .putfield q => match st with
      | v :: .ref c :: st => match sh[c]? with
        | some (.inr (ci, sl)) => if ci = q / 100 then match sl[q % 100]?, v with
          | some none, .int x => if fv_isI (fv_Y (q / 100) (q % 100)) = true then some (.inl (np, ls, st, k, sh, fv_set M c (q % 100) x)) else none
          | some (some _), .ref r => if fv_isR (fv_Y (q / 100) (q % 100)) = true then some (.inl (np, ls, st, k, sh.set c (.inr (ci, sl.set (q % 100) (some (.ref r)))), M)) else none
          | _, _ => none else none
        | _ => none
      | _ => none
    | .iaload => match st with
      | .int j :: .ref c :: st => if y = fv_LAW ∧ c = fv_SCR then (if ¬ (j < 0 ∨ X.1 ≤ j.toNatClampNeg) then some (.inl (np, ls, .int (X.2 j.toNatClampNeg) :: st, k, sh, M)) else none) else match sh[c]? with
        | some (.inl (0, n)) => if j < 0 ∨ n ≤ j.toNatClampNeg then none else some (.inl (np, ls, .int (M c j.toNatClampNeg) :: st, k, sh, M))
        | _ => none
      | _ => none
    | .baload => match st with
      | .int j :: .ref c :: st => match sh[c]? with
        | some (.inl (1, n)) => if j < 0 ∨ n ≤ j.toNatClampNeg then none else some (.inl (np, ls, .int (M c j.toNatClampNeg) :: st, k, sh, M))
        | _ => none
      | _ => none
    | .caload => match st with
      | .int j :: .ref c :: st => match sh[c]? with
        | some (.inl (2, n)) => if j < 0 ∨ n ≤ j.toNatClampNeg then none else some (.inl (np, ls, .int (M c j.toNatClampNeg) :: st, k, sh, M))
        | _ => none
      | _ => none
    | .iastore => match st with
      | .int x :: .int j :: .ref c :: st => match sh[c]? with
        | some (.inl (0, n)) => if j < 0 ∨ n ≤ j.toNatClampNeg then none else some (.inl (np, ls, st, k, sh, fv_set M c j.toNatClampNeg x))
        | _ => none
      | _ => none
    | .bastore => match st with
      | .int x :: .int j :: .ref c :: st => match sh[c]? with
        | some (.inl (1, n)) => if j < 0 ∨ n ≤ j.toNatClampNeg then none else some (.inl (np, ls, st, k, sh, fv_set M c j.toNatClampNeg (vp_nar .boolean x)))
        | _ => none
      | _ => none
    | .castore => match st with
      | .int x :: .int j :: .ref c :: st => match sh[c]? with
        | some (.inl (2, n)) => if j < 0 ∨ n ≤ j.toNatClampNeg then none else some (.inl (np, ls, st, k, sh, fv_set M c j.toNatClampNeg (vp_nar .char x)))
        | _ => none
      | _ => none
    | .aaload => match st with
      | .int j :: .ref c :: st => match sh[c]? with
        | some (.inr (103, sl)) => if j < 0 ∨ sl.length ≤ j.toNatClampNeg then none else match sl[j.toNatClampNeg]? with
          | some (some (.ref r)) => some (.inl (np, ls, .ref r :: st, k, sh, M))
          | some (some .null) => some (.inl (np, ls, .null :: st, k, sh, M))
          | _ => none
        | _ => none
      | _ => none
    | .aastore => match st with
      | .ref v :: .int j :: .ref c :: st => match sh[c]?, sh[v]? with
        | some (.inr (103, sl)), some (.inr (3, _)) => if j < 0 ∨ sl.length ≤ j.toNatClampNeg then none else some (.inl (np, ls, st, k, sh.set c (.inr (103, sl.set j.toNatClampNeg (some (.ref v)))), M))
        | _, _ => none
      | _ => none
    | .arraylength => match st with
      | .ref c :: st => if y = fv_LAW ∧ c = fv_SCR then some (.inl (np, ls, .int (Int32.ofNat X.1) :: st, k, sh, M)) else match sh[c]? with
        | some (.inl (t, n)) => if t < 3 then some (.inl (np, ls, .int (Int32.ofNat n) :: st, k, sh, M)) else none
        | some (.inr (103, sl)) => some (.inl (np, ls, .int (Int32.ofNat sl.length) :: st, k, sh, M))
        | _ => none
      | _ => none
    | .newarray t => match st, fv_at t with
      | .int n :: st, some tc => if ¬ n < 0 ∧ 1 ≤ k.1 ∧ n.toNatClampNeg ≤ k.2 ∧ n.toNatClampNeg ≤ 1000 ∧ sh.length < fv_SCR ∧ ls.all (fv_belO sh.length) = true ∧ st.all (fv_belV sh.length) = true ∧ sh.all (fv_belC sh.length) = true then
          some (.inl (np, ls, .ref sh.length :: st, (k.1 - 1, k.2 - n.toNatClampNeg), sh ++ [.inl (tc, n.toNatClampNeg)], fv_new M sh.length)) else none
      | _, _ => none
    | .anewarray ci => match st with
      | .int n :: st => if ci = 3 ∧ ¬ n < 0 ∧ 1 ≤ k.1 ∧ n.toNatClampNeg ≤ k.2 ∧ n.toNatClampNeg ≤ 1000 ∧ sh.length < fv_SCR ∧ ls.all (fv_belO sh.length) = true ∧ st.all (fv_belV sh.length) = true ∧ sh.all (fv_belC sh.length) = true then
          some (.inl (np, ls, .ref sh.length :: st, (k.1 - 1, k.2 - n.toNatClampNeg), sh ++ [.inr (103, List.replicate n.toNatClampNeg (some .null))], M)) else none
      | _ => none
    | .new ci => if ci < 7 ∧ 1 ≤ k.1 ∧ fv_NF ci ≤ k.2 ∧ sh.length < fv_SCR ∧ ls.all (fv_belO sh.length) = true ∧ st.all (fv_belV sh.length) = true ∧ sh.all (fv_belC sh.length) = true then
          some (.inl (np, ls, .ref sh.length :: st, (k.1 - 1, k.2 - fv_NF ci), sh ++ [.inr (ci, fv_sl0 ci)], fv_new M sh.length)) else none
    | .nop => match st with
      | .ref _ :: st => if (st.map fun v => v.category).sum ≤ 8 then some (.inl (np, ls, st, k, sh, M)) else none
      | _ => none
    | .monitorenter => match st with
      | .ref c :: st => if c = fv_STR ∧ y = fv_XI ∧ (st.map fun v => v.category).sum ≤ 8 then some (.inl (np, ls, .int (Int32.ofNat fv_TXT.length) :: st, k, sh, M)) else none
      | _ => none
    | .monitorexit => match st with
      | .int j :: .ref c :: st => if c = fv_STR ∧ y = fv_XI ∧ (st.map fun v => v.category).sum ≤ 8 ∧ ¬ (j < 0 ∨ fv_TXT.length ≤ j.toNatClampNeg) then some (.inl (np, ls, .int (Int32.ofNat (fv_TXT.getD j.toNatClampNeg 0)) :: st, k, sh, M)) else none
      | _ => none
    | .invokestatic z => if z < fv_LAW ∧ fv_np z ≤ st.length then some (.inr (.inr (z, (st.take (fv_np z)).reverse, np, st.drop (fv_np z)))) else none
    | .ireturn => match st with
      | [.int x] => if fv_rok (fv_rt y) x = true then some (.inr (.inl (some (.int x)))) else none
      | _ => none
    | .return_ => match st with
      | [] => if fv_rt y = none then some (.inr (.inl none)) else none
      | _ => none
    | _ => none
/-- what a call wants: room, arguments of one slot each, little beside it on the stack; where cells are made, no place that isn't there yet -/
def fv_cok (z : Nat) (as : List Value) (ls : fv_Sl) (rest : List Value) (k : Nat × Nat) (sh : fv_Sh) : Prop :=
  fv_mc z ≤ k.1 ∧ fv_ms z ≤ k.2 ∧ as.all (fun v => v.category == 1) = true ∧ (rest.map fun v => v.category).sum ≤ 8 ∧ (fv_mc z = 0 ∨ (ls.all (fv_belO sh.length) = true ∧ rest.all (fv_belV sh.length) = true ∧ sh.length + fv_mc z ≤ fv_SCR))
def fv_cokb (z : Nat) (as : List Value) (ls : fv_Sl) (rest : List Value) (k : Nat × Nat) (sh : fv_Sh) : Bool :=
  decide (fv_mc z ≤ k.1) && (decide (fv_ms z ≤ k.2) && (as.all (fun v => v.category == 1) && (decide ((rest.map fun v => v.category).sum ≤ 8) && (decide (fv_mc z = 0) || (ls.all (fv_belO sh.length) && (rest.all (fv_belV sh.length) && decide (sh.length + fv_mc z ≤ fv_SCR)))))))
theorem fv_cokb_iff {z : Nat} {as : List Value} {ls : fv_Sl} {rest : List Value} {k : Nat × Nat} {sh : fv_Sh} : fv_cokb z as ls rest k sh = true ↔ fv_cok z as ls rest k sh := by
  simp only [fv_cokb, fv_cok, Bool.and_eq_true, Bool.or_eq_true, decide_eq_true_eq]
/-- the object that is called is of the kind that has the method -/
def fv_rcv (z : Nat) (as : List Value) (sh : fv_Sh) : Bool :=
  fv_st z || (match as with
  | .ref c :: _ => (match sh[c]? with
    | some (.inr (ci, _)) => ci == fv_ow z
    | _ => false)
  | _ => false)
def fv_run (X : fv_X) : Nat → Nat → Nat → fv_Sl → List Value → Nat × Nat → fv_Sh → fv_M → Option fv_R
  | 0, _, _, _, _, _, _, _ => none
  | n + 1, y, pc, ls, st, k, sh, M =>
    match fv_nx X y pc ls st k sh M with
    | none => none
    | some (.inl q) => fv_run X n y q.1 q.2.1 q.2.2.1 q.2.2.2.1 q.2.2.2.2.1 q.2.2.2.2.2
    | some (.inr (.inl v)) => some (v, sh, M)
    | some (.inr (.inr q)) =>
      if (fv_cokb q.1 q.2.1 ls q.2.2.2 k sh && fv_rcv q.1 q.2.1 sh) = true then
        match fv_run X n q.1 0 (q.2.1.map some) [] (fv_mc q.1, fv_ms q.1) sh M with
        | none => none
        | some r => fv_run X n y q.2.2.1 ls (r.1.toList ++ q.2.2.2) (k.1 - fv_mc q.1, k.2 - fv_ms q.1) r.2.1 r.2.2
      else none
def fv_Rn (X : fv_X) (y pc : Nat) (ls : fv_Sl) (st : List Value) (k : Nat × Nat) (sh : fv_Sh) (M : fv_M) (r : fv_R) : Prop := ∃ n, fv_run X n y pc ls st k sh M = some r
theorem fv_mono1 {X : fv_X} : ∀ (n y pc : Nat) (ls : fv_Sl) (st : List Value) (k : Nat × Nat) (sh : fv_Sh) (M : fv_M) (r : fv_R), fv_run X n y pc ls st k sh M = some r → fv_run X (n + 1) y pc ls st k sh M = some r := by
  intro n
  induction n with
  | zero => intro y pc ls st k sh M r h; cases h
  | succ n ih =>
    intro y pc ls st k sh M r h
    unfold fv_run at h ⊢
    cases e : fv_nx X y pc ls st k sh M with
    | none => rw [e] at h; cases h
    | some q =>
      rw [e] at h
      cases q with
      | inl q => exact ih _ _ _ _ _ _ _ _ h
      | inr q =>
        cases q with
        | inl v => exact h
        | inr q =>
          dsimp only at h ⊢
          by_cases hc : (fv_cokb q.1 q.2.1 ls q.2.2.2 k sh && fv_rcv q.1 q.2.1 sh) = true
          · rw [if_pos hc] at h ⊢
            cases e2 : fv_run X n q.1 0 (q.2.1.map some) [] (fv_mc q.1, fv_ms q.1) sh M with
            | none => rw [e2] at h; cases h
            | some r2 =>
              rw [e2] at h
              rw [ih _ _ _ _ _ _ _ _ e2]
              exact ih _ _ _ _ _ _ _ _ h
          · rw [if_neg hc] at h; cases h
theorem fv_mono {X : fv_X} {n m y pc : Nat} {ls : fv_Sl} {st : List Value} {k : Nat × Nat} {sh : fv_Sh} {M : fv_M} {r : fv_R} (hnm : n ≤ m) (h : fv_run X n y pc ls st k sh M = some r) : fv_run X m y pc ls st k sh M = some r := by
  induction hnm with
  | refl => exact h
  | step _ ih => exact fv_mono1 _ _ _ _ _ _ _ _ _ ih
/-- one step -/
theorem fv_s {X : fv_X} {y pc : Nat} {ls : fv_Sl} {st : List Value} {k : Nat × Nat} {sh : fv_Sh} {M : fv_M} {r : fv_R} {pc' : Nat} {ls' : fv_Sl} {st' : List Value} {k' : Nat × Nat} {sh' : fv_Sh} {M' : fv_M}
    (h : fv_nx X y pc ls st k sh M = some (.inl (pc', ls', st', k', sh', M'))) (K : fv_Rn X y pc' ls' st' k' sh' M' r) : fv_Rn X y pc ls st k sh M r := by
  obtain ⟨n, e⟩ := K
  refine ⟨n + 1, ?_⟩
  unfold fv_run
  rw [h]
  exact e
/-- a return -/
theorem fv_e {X : fv_X} {y pc : Nat} {ls : fv_Sl} {st : List Value} {k : Nat × Nat} {sh : fv_Sh} {M : fv_M} {v : Option Value} (h : fv_nx X y pc ls st k sh M = some (.inr (.inl v))) : fv_Rn X y pc ls st k sh M (v, sh, M) := by
  refine ⟨1, ?_⟩
  unfold fv_run
  rw [h]
/-- a call -/
theorem fv_call {X : fv_X} {y pc : Nat} {ls : fv_Sl} {st : List Value} {k : Nat × Nat} {sh : fv_Sh} {M : fv_M} {r : fv_R} {z np : Nat} {as rest : List Value} {v : Option Value} {sh' : fv_Sh} {M' : fv_M}
    (h : fv_nx X y pc ls st k sh M = some (.inr (.inr (z, as, np, rest)))) (hc : fv_cokb z as ls rest k sh = true) (hr : fv_rcv z as sh = true) (K1 : fv_Rn X z 0 (as.map some) [] (fv_mc z, fv_ms z) sh M (v, sh', M'))
    (K2 : fv_Rn X y np ls (v.toList ++ rest) (k.1 - fv_mc z, k.2 - fv_ms z) sh' M' r) : fv_Rn X y pc ls st k sh M r := by
  obtain ⟨n1, e1⟩ := K1
  obtain ⟨n2, e2⟩ := K2
  refine ⟨max n1 n2 + 1, ?_⟩
  unfold fv_run
  rw [h]
  dsimp only
  rw [if_pos (by rw [hc, hr]; rfl), fv_mono (Nat.le_max_left n1 n2) e1]
  exact fv_mono (Nat.le_max_right n1 n2) e2
