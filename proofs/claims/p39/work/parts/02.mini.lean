/-! THE MINI MACHINE: cells in a list (the k-th made since the law's entry is the reference 6 + k; 0 is the script, 1 and 2 are texts, 3 and 4 their rows of bytes, 5 what makes messages of a wrong index); a frame is (number of the instruction, locals, operand stack) -/
abbrev mC : Type := (Nat × Nat × ((Nat → Int32) ⊕ ((Nat → Int64) ⊕ (Nat → Option Nat)))) ⊕ (Nat × List Value)
abbrev mH : Type := List mC
abbrev mF : Type := Nat × List (Nat × Value) × List Value
/-- the texts: who names them, where, and their bytes -/
def mi_strs : List (String × Nat × String) := [("AviaryLock$Tokens", 57, "lock spring latch manners dark curtain draw sort party birds slips at in out pram or and not gap people night veil week slipped "), ("AviaryLock$Tokens", 49, ";()<>=+-*/%")]
def mi_byt : List (List Int32) := [[108, 111, 99, 107, 32, 115, 112, 114, 105, 110, 103, 32, 108, 97, 116, 99, 104, 32, 109, 97, 110, 110, 101, 114, 115, 32, 100, 97, 114, 107, 32, 99, 117, 114, 116, 97, 105, 110, 32, 100, 114, 97, 119, 32, 115, 111, 114, 116, 32, 112, 97, 114, 116, 121, 32, 98, 105, 114, 100, 115, 32, 115, 108, 105, 112, 115, 32, 97, 116, 32, 105, 110, 32, 111, 117, 116, 32, 112, 114, 97, 109, 32, 111, 114, 32, 97, 110, 100, 32, 110, 111, 116, 32, 103, 97, 112, 32, 112, 101, 111, 112, 108, 101, 32, 110, 105, 103, 104, 116, 32, 118, 101, 105, 108, 32, 119, 101, 101, 107, 32, 115, 108, 105, 112, 112, 101, 100, 32], [59, 40, 41, 60, 62, 61, 43, 45, 42, 47, 37]]
/-- what makes messages of a wrong index: behind the script's end stands whether it is there -/
def mi_fv (S : Nat × (Nat → Int32)) : Value := if S.2 5000 = 0 then .null else .ref 5
def mi_lg (l : List (Nat × Value)) (i : Nat) : Option Value := (l.find? (fun q => q.1 == i)).map (fun q => q.2)
def mi_s1 (l : List (Nat × Value)) (i : Nat) (v : Value) : List (Nat × Value) := (i, v) :: l.filter (fun q => !(q.1 == i) && !(q.1 + 1 == i && q.2.category == 2))
def mi_s2 (l : List (Nat × Value)) (i : Nat) (v : Value) : List (Nat × Value) := (i, v) :: l.filter (fun q => !(q.1 == i) && (!(q.1 == i + 1) && !(q.1 + 1 == i && q.2.category == 2)))
def mi_c (h : mH) (k : Nat) : Option mC := if 6 ≤ k then h[k - 6]? else none
def mi_w (h : mH) (k : Nat) (c : mC) : mH := h.set (k - 6) c
def mi_ix (i : Int32) (n : Nat) : Bool := decide (0 ≤ i.toInt) && decide (i.toInt < n)
def mi_cond (c : Jvm.ClassFile.Cond) (x y : Int32) : Bool := match c with
  | .eq => decide (x = y)
  | .ne => decide (¬ x = y)
  | .lt => decide (x < y)
  | .ge => decide (y ≤ x)
  | .gt => decide (y < x)
  | .le => decide (x ≤ y)
def mi_ty (q : Nat) : FieldType := (mi_tys0.getD (q / 128) []).getD (q % 128) .int
def mi_fit (ty : FieldType) (v : Value) : Bool := match ty, v with
  | .int, .int _ => true
  | .boolean, .int x => x == 0 || x == 1
  | .long, .long _ => true
  | .object _, .ref _ => true
  | .array _, .ref _ => true
  | _, _ => false
def mi_ii (g : Int32 → Int32 → Option Int32) (f : mF) (h : mH) : Option (mF × mH) := match f.2.2 with
  | .int y :: .int x :: st => match g x y with
    | some r => some ((f.1 + 1, f.2.1, .int r :: st), h)
    | none => none
  | _ => none
def mi_ll (g : Int64 → Int64 → Option Value) (f : mF) (h : mH) : Option (mF × mH) := match f.2.2 with
  | .long y :: .long x :: st => match g x y with
    | some r => some ((f.1 + 1, f.2.1, r :: st), h)
    | none => none
  | _ => none
def mi_i1 (g : Int32 → Value) (f : mF) (h : mH) : Option (mF × mH) := match f.2.2 with
  | .int x :: st => some ((f.1 + 1, f.2.1, g x :: st), h)
  | _ => none
def mi_lshl (f : mF) (h : mH) : Option (mF × mH) := match f.2.2 with
  | .int y :: .long x :: st => some ((f.1 + 1, f.2.1, .long (x <<< (y.toInt64 &&& 63)) :: st), h)
  | _ => none
def mi_push (v : Value) (f : mF) (h : mH) : Option (mF × mH) := some ((f.1 + 1, f.2.1, v :: f.2.2), h)
def mi_iload (i : Nat) (f : mF) (h : mH) : Option (mF × mH) := match mi_lg f.2.1 i with
  | some (.int x) => some ((f.1 + 1, f.2.1, .int x :: f.2.2), h)
  | _ => none
def mi_lload (i : Nat) (f : mF) (h : mH) : Option (mF × mH) := match mi_lg f.2.1 i with
  | some (.long x) => some ((f.1 + 1, f.2.1, .long x :: f.2.2), h)
  | _ => none
def mi_aload (i : Nat) (f : mF) (h : mH) : Option (mF × mH) := match mi_lg f.2.1 i with
  | some (.ref x) => some ((f.1 + 1, f.2.1, .ref x :: f.2.2), h)
  | _ => none
def mi_istore (i : Nat) (f : mF) (h : mH) : Option (mF × mH) := match f.2.2 with
  | .int x :: st => some ((f.1 + 1, mi_s1 f.2.1 i (.int x), st), h)
  | _ => none
def mi_lstore (i : Nat) (f : mF) (h : mH) : Option (mF × mH) := match f.2.2 with
  | .long x :: st => some ((f.1 + 1, mi_s2 f.2.1 i (.long x), st), h)
  | _ => none
def mi_astore (i : Nat) (f : mF) (h : mH) : Option (mF × mH) := match f.2.2 with
  | .ref x :: st => some ((f.1 + 1, mi_s1 f.2.1 i (.ref x), st), h)
  | _ => none
def mi_iinc (i : Nat) (n : Int) (f : mF) (h : mH) : Option (mF × mH) := match mi_lg f.2.1 i with
  | some (.int x) => some ((f.1 + 1, mi_s1 f.2.1 i (.int (x + Int32.ofInt n)), f.2.2), h)
  | _ => none
def mi_if (c : Jvm.ClassFile.Cond) (t : Int) (f : mF) (h : mH) : Option (mF × mH) := match f.2.2 with
  | .int x :: st => some ((if mi_cond c x 0 = true then t.toNat else f.1 + 1, f.2.1, st), h)
  | _ => none
def mi_icmp (c : Jvm.ClassFile.Cond) (t : Int) (f : mF) (h : mH) : Option (mF × mH) := match f.2.2 with
  | .int y :: .int x :: st => some ((if mi_cond c x y = true then t.toNat else f.1 + 1, f.2.1, st), h)
  | _ => none
def mi_goto (t : Int) (f : mF) (h : mH) : Option (mF × mH) := some ((t.toNat, f.2.1, f.2.2), h)
def mi_table (d lo hi : Int) (offs : Array Int) (f : mF) (h : mH) : Option (mF × mH) := match f.2.2 with
  | .int x :: st => if x.toInt < lo ∨ hi < x.toInt then some ((d.toNat, f.2.1, st), h) else match offs[(x.toInt - lo).toNat]? with
    | some t => some ((t.toNat, f.2.1, st), h)
    | none => none
  | _ => none
def mi_dup (f : mF) (h : mH) : Option (mF × mH) := match f.2.2 with
  | v :: st => if v.category = 1 then some ((f.1 + 1, f.2.1, v :: v :: st), h) else none
  | _ => none
def mi_dup2 (f : mF) (h : mH) : Option (mF × mH) := match f.2.2 with
  | v :: w :: st => if v.category = 1 ∧ w.category = 1 then some ((f.1 + 1, f.2.1, v :: w :: v :: w :: st), h) else none
  | _ => none
def mi_pop (f : mF) (h : mH) : Option (mF × mH) := match f.2.2 with
  | v :: st => if v.category = 1 then some ((f.1 + 1, f.2.1, st), h) else none
  | _ => none
def mi_pop2 (f : mF) (h : mH) : Option (mF × mH) := match f.2.2 with
  | v :: st => if v.category = 2 then some ((f.1 + 1, f.2.1, st), h) else none
  | _ => none
def mi_getf (q : Nat) (f : mF) (h : mH) : Option (mF × mH) := match f.2.2 with
  | .ref k :: st => match mi_c h k with
    | some (.inr (ci, fs)) => if ci = q / 128 then match fs[q % 128]? with
        | some v => some ((f.1 + 1, f.2.1, v :: st), h)
        | none => none
      else none
    | _ => none
  | _ => none
/-- a text's row (place 0) and coder (place 1) -/
def mi_txt (j : Nat) (f : mF) (h : mH) : Option (mF × mH) := match f.2.2 with
  | .ref k :: st => if k = 1 ∨ k = 2 then (if j = 0 then some ((f.1 + 1, f.2.1, .ref (k + 2) :: st), h) else if j = 1 then some ((f.1 + 1, f.2.1, .int 0 :: st), h) else none) else none
  | _ => none
def mi_putf (q : Nat) (f : mF) (h : mH) : Option (mF × mH) := match f.2.2 with
  | v :: .ref k :: st => match mi_c h k with
    | some (.inr (ci, fs)) => if ci = q / 128 ∧ q % 128 < fs.length ∧ mi_fit (mi_ty q) v = true then some ((f.1 + 1, f.2.1, st), mi_w h k (.inr (ci, fs.set (q % 128) v))) else none
    | _ => none
  | _ => none
/-- reading an array of ints (the script: the reference 0) -/
def mi_iald (S : Nat × (Nat → Int32)) (f : mF) (h : mH) : Option (mF × mH) := match f.2.2 with
  | .int i :: .ref k :: st => if k = 0 then (if mi_ix i S.1 = true then some ((f.1 + 1, f.2.1, .int (S.2 i.toNatClampNeg) :: st), h) else none) else match mi_c h k with
    | some (.inl (t, n, .inl g)) => if t = 0 ∧ mi_ix i n = true then some ((f.1 + 1, f.2.1, .int (g i.toNatClampNeg) :: st), h) else none
    | _ => none
  | _ => none
def mi_bald (f : mF) (h : mH) : Option (mF × mH) := match f.2.2 with
  | .int i :: .ref k :: st => if k = 3 ∨ k = 4 then (if mi_ix i (mi_byt.getD (k - 3) []).length = true then some ((f.1 + 1, f.2.1, .int ((mi_byt.getD (k - 3) []).getD i.toNatClampNeg 0) :: st), h) else none) else match mi_c h k with
    | some (.inl (t, n, .inl g)) => if (t = 1 ∨ t = 2) ∧ mi_ix i n = true then some ((f.1 + 1, f.2.1, .int (g i.toNatClampNeg) :: st), h) else none
    | _ => none
  | _ => none
def mi_lald (f : mF) (h : mH) : Option (mF × mH) := match f.2.2 with
  | .int i :: .ref k :: st => match mi_c h k with
    | some (.inl (t, n, .inr (.inl g))) => if t = 3 ∧ mi_ix i n = true then some ((f.1 + 1, f.2.1, .long (g i.toNatClampNeg) :: st), h) else none
    | _ => none
  | _ => none
def mi_aald (f : mF) (h : mH) : Option (mF × mH) := match f.2.2 with
  | .int i :: .ref k :: st => match mi_c h k with
    | some (.inl (t, n, .inr (.inr g))) => if t = 4 ∧ mi_ix i n = true then match g i.toNatClampNeg with
        | some r => some ((f.1 + 1, f.2.1, .ref r :: st), h)
        | none => none
      else none
    | _ => none
  | _ => none
def mi_iast (f : mF) (h : mH) : Option (mF × mH) := match f.2.2 with
  | .int x :: .int i :: .ref k :: st => match mi_c h k with
    | some (.inl (t, n, .inl g)) => if t = 0 ∧ mi_ix i n = true then some ((f.1 + 1, f.2.1, st), mi_w h k (.inl (t, n, .inl (upd g i.toNatClampNeg x)))) else none
    | _ => none
  | _ => none
def mi_bast (f : mF) (h : mH) : Option (mF × mH) := match f.2.2 with
  | .int x :: .int i :: .ref k :: st => match mi_c h k with
    | some (.inl (t, n, .inl g)) => if mi_ix i n = true then (if t = 1 then some ((f.1 + 1, f.2.1, st), mi_w h k (.inl (t, n, .inl (upd g i.toNatClampNeg (vp_nar .byte x)))))
        else if t = 2 then some ((f.1 + 1, f.2.1, st), mi_w h k (.inl (t, n, .inl (upd g i.toNatClampNeg (vp_nar .boolean x))))) else none) else none
    | _ => none
  | _ => none
def mi_last (f : mF) (h : mH) : Option (mF × mH) := match f.2.2 with
  | .long x :: .int i :: .ref k :: st => match mi_c h k with
    | some (.inl (t, n, .inr (.inl g))) => if t = 3 ∧ mi_ix i n = true then some ((f.1 + 1, f.2.1, st), mi_w h k (.inl (t, n, .inr (.inl (vp_updL g i.toNatClampNeg x))))) else none
    | _ => none
  | _ => none
/-- the class of Now among 'mcl': the only array of references is one of these -/
def mi_now : Nat := 7
def mi_aast (f : mF) (h : mH) : Option (mF × mH) := match f.2.2 with
  | .ref r :: .int i :: .ref k :: st => match mi_c h k, mi_c h r with
    | some (.inl (t, n, .inr (.inr g))), some (.inr (ci, _)) => if t = 4 ∧ mi_ix i n = true ∧ ci = mi_now then some ((f.1 + 1, f.2.1, st), mi_w h k (.inl (t, n, .inr (.inr (va_up g i.toNatClampNeg (some r)))))) else none
    | _, _ => none
  | _ => none
def mi_alen (S : Nat × (Nat → Int32)) (f : mF) (h : mH) : Option (mF × mH) := match f.2.2 with
  | .ref k :: st => if k = 0 then some ((f.1 + 1, f.2.1, .int (Int32.ofNat S.1) :: st), h) else if k = 3 ∨ k = 4 then some ((f.1 + 1, f.2.1, .int (Int32.ofNat (mi_byt.getD (k - 3) []).length) :: st), h) else match mi_c h k with
    | some (.inl (t, n, _)) => if t < 5 then some ((f.1 + 1, f.2.1, .int (Int32.ofNat n) :: st), h) else none
    | _ => none
  | _ => none
def mi_blank (t : ArrayType) (n : Nat) : Option mC := match t with
  | .int => some (.inl (0, n, .inl (fun _ => 0)))
  | .byte => some (.inl (1, n, .inl (fun _ => 0)))
  | .boolean => some (.inl (2, n, .inl (fun _ => 0)))
  | .long => some (.inl (3, n, .inr (.inl (fun _ => 0))))
  | _ => none
def mi_newa (t : ArrayType) (f : mF) (h : mH) : Option (mF × mH) := match f.2.2 with
  | .int n :: st => if 0 ≤ n.toInt ∧ n.toInt ≤ 10000 then match mi_blank t n.toNatClampNeg with
      | some c => some ((f.1 + 1, f.2.1, .ref (h.length + 6) :: st), h ++ [c])
      | none => none
    else none
  | _ => none
def mi_newq (ci : Nat) (f : mF) (h : mH) : Option (mF × mH) := match f.2.2 with
  | .int n :: st => if 0 ≤ n.toInt ∧ n.toInt ≤ 10000 ∧ ci = mi_now then some ((f.1 + 1, f.2.1, .ref (h.length + 6) :: st), h ++ [.inl (4, n.toNatClampNeg, .inr (.inr (fun _ => none)))]) else none
  | _ => none
def mi_new (ci : Nat) (f : mF) (h : mH) : Option (mF × mH) := match mi_dfl0[ci]? with
  | some fs => some ((f.1 + 1, f.2.1, .ref (h.length + 6) :: f.2.2), h ++ [.inr (ci, fs)])
  | none => none
def mi_obj (f : mF) (h : mH) : Option (mF × mH) := match f.2.2 with
  | .ref _ :: st => if (st.map fun v => v.category).sum ≤ 8 then some ((f.1 + 1, f.2.1, st), h) else none
  | _ => none
def mi_copy (f : mF) (h : mH) : Option (mF × mH) := match f.2.2 with
  | .int n :: .int dp :: .ref k :: .int sp :: .ref k0 :: st => match mi_c h k0, mi_c h k with
    | some (.inl (t0, n0, .inl f0)), some (.inl (t, n1, .inl g)) => if t0 = 0 ∧ t = 0 ∧ 0 ≤ n.toInt ∧ 0 ≤ dp.toInt ∧ 0 ≤ sp.toInt ∧ sp.toInt + n.toInt ≤ n0 ∧ dp.toInt + n.toInt ≤ n1 ∧ (st.map fun v => v.category).sum ≤ 8 then
        some ((f.1 + 1, f.2.1, st), mi_w h k (.inl (t, n1, .inl (va_cpy f0 g sp.toNatClampNeg dp.toNatClampNeg n.toNatClampNeg)))) else none
    | _, _ => none
  | _ => none
/-- Math.max, Math.min -/
def mi_mm (g : Int32 → Int32 → Int32) (f : mF) (h : mH) : Option (mF × mH) := match f.2.2 with
  | .int y :: .int x :: st => if (st.map fun v => v.category).sum ≤ 8 then some ((f.1 + 1, f.2.1, .int (g x y) :: st), h) else none
  | _ => none
/-- one instruction that is no call and no return -/
def mi_step (S : Nat × (Nat → Int32)) (i : Instr) (f : mF) (h : mH) : Option (mF × mH) := match i with
  | .iconst c => mi_push (.int (Int32.ofInt c)) f h
  | .ldc2_w c => mi_push (.long (Int64.ofNat c)) f h
  | .iload k => mi_iload k f h
  | .lload k => mi_lload k f h
  | .aload k => mi_aload k f h
  | .istore k => mi_istore k f h
  | .lstore k => mi_lstore k f h
  | .astore k => mi_astore k f h
  | .iinc k n => mi_iinc k n f h
  | .iadd => mi_ii (fun x y => some (x + y)) f h
  | .isub => mi_ii (fun x y => some (x - y)) f h
  | .imul => mi_ii (fun x y => some (x * y)) f h
  | .iand => mi_ii (fun x y => some (x &&& y)) f h
  | .ior => mi_ii (fun x y => some (x ||| y)) f h
  | .ishl => mi_ii (fun x y => some (x <<< (y &&& 31))) f h
  | .iushr => mi_ii (fun x y => some (x.toUInt32 >>> (y.toUInt32 &&& Int32.toUInt32 31)).toInt32) f h
  | .ishr => mi_ii (fun x y => some (x >>> (y &&& 31))) f h
  | .idiv => mi_ii (fun x y => if y = 0 then none else some (x / y)) f h
  | .irem => mi_ii (fun x y => if y = 0 then none else some (x - x / y * y)) f h
  | .lsub => mi_ll (fun x y => some (.long (x - y))) f h
  | .lmul => mi_ll (fun x y => some (.long (x * y))) f h
  | .lor => mi_ll (fun x y => some (.long (x ||| y))) f h
  | .ldiv => mi_ll (fun x y => if y = 0 then none else some (.long (x / y))) f h
  | .lrem => mi_ll (fun x y => if y = 0 then none else some (.long (x - x / y * y))) f h
  | .lcmp => mi_ll (fun x y => some (.int (lg_cmp x y))) f h
  | .lshl => mi_lshl f h
  | .i2l => mi_i1 (fun x => .long x.toInt64) f h
  | .i2b => mi_i1 (fun x => .int x.toInt8.toInt32) f h
  | .i2c => mi_i1 (fun x => .int (x.toUInt32 % 65536).toInt32) f h
  | .ifCond c t => mi_if c t f h
  | .if_icmp c t => mi_icmp c t f h
  | .goto t => mi_goto t f h
  | .tableswitch d lo hi offs => mi_table d lo hi offs f h
  | .dup => mi_dup f h
  | .dup2 => mi_dup2 f h
  | .pop => mi_pop f h
  | .pop2 => mi_pop2 f h
  | .ldc k => if k = 1 ∨ k = 2 then mi_push (.ref k) f h else none
  | .getstatic j => if j = 0 then mi_push (.int 1) f h else if j = 1 then mi_push (mi_fv S) f h else none
  | .getfield q => if q / 128 = 13 then mi_txt (q % 128) f h else mi_getf q f h
  | .putfield q => mi_putf q f h
  | .iaload => mi_iald S f h
  | .baload => mi_bald f h
  | .laload => mi_lald f h
  | .aaload => mi_aald f h
  | .iastore => mi_iast f h
  | .bastore => mi_bast f h
  | .lastore => mi_last f h
  | .aastore => mi_aast f h
  | .arraylength => mi_alen S f h
  | .newarray t => mi_newa t f h
  | .anewarray ci => mi_newq ci f h
  | .new ci => mi_new ci f h
  | .invokedynamic k => if k = 0 then mi_obj f h else if k = 1 then mi_copy f h else if k = 5 then mi_mm (fun x y => if x < y then y else x) f h else if k = 6 then mi_mm (fun x y => if y < x then y else x) f h else none
  | _ => none
/-- a program: how many instructions a method has, and which; how many arguments (the receiver too); what it answers (0 any int, 1 nothing but 0 and 1, 2 a char); its receiver's class and 1 more; how many locals -/
abbrev mP : Type := Lean.RArray (Nat × Nat × Nat × Nat × Nat × Lean.RArray Instr)
noncomputable def mi_at (P : mP) (m n : Nat) : Instr := bif Nat.blt n (P.get m).1 then (P.get m).2.2.2.2.2.get n else .nop
/-- the receiver's cell: an object of the class rc - 1; a static method has none (rc = 0) -/
def mi_rcv (rc : Nat) (as : List Value) (h : mH) : Bool := match rc with
  | 0 => true
  | ci + 1 => match as with
    | .ref k :: _ => if ci = 13 then decide (k = 1 ∨ k = 2) else match mi_c h k with
      | some (.inr (cj, _)) => cj == ci
      | _ => false
    | _ => false
/-- the arguments off the stack: the first argument first -/
def mi_args (n : Nat) (st : List Value) : Option (List Value × List Value) := if n ≤ st.length then some ((st.take n).reverse, st.drop n) else none
def mi_ent (k : Nat) : List Value → List (Nat × Value)
  | [] => []
  | v :: vs => (k, v) :: mi_ent (k + v.category) vs
def mi_retz (z : Nat) (v : Int32) : Bool := if z = 0 then true else if z = 1 then v == 0 || v == 1 else decide (0 ≤ v.toInt) && decide (v.toInt ≤ 65535)
/-- a run: fuel, how many calls may stand open above this one, the method, its frame, the cells -/
noncomputable def mi_run (P : mP) (S : Nat × (Nat → Int32)) : Nat → Nat → Nat → mF → mH → Option (Option Value × mH)
  | 0, _, _, _, _ => none
  | n + 1, d, m, f, h => match mi_at P m f.1 with
    | .return_ => match f.2.2 with
      | [] => some (none, h)
      | _ => none
    | .ireturn => match f.2.2 with
      | [.int v] => if mi_retz (P.get m).2.2.1 v = true then some (some (.int v), h) else none
      | _ => none
    | .lreturn => match f.2.2 with
      | [.long v] => some (some (.long v), h)
      | _ => none
    | .areturn => match f.2.2 with
      | [.ref v] => some (some (.ref v), h)
      | _ => none
    | .invokevirtual y => match d with
      | 0 => none
      | d' + 1 => match mi_args (P.get y).2.1 f.2.2 with
        | some (as, rest) => if (rest.map fun v => v.category).sum ≤ 8 ∧ (as.map fun v => v.category).sum ≤ (P.get y).2.2.2.2.1 ∧ mi_rcv (P.get y).2.2.2.1 as h = true then match mi_run P S n d' y (0, mi_ent 0 as, []) h with
            | some (r, h') => mi_run P S n (d' + 1) m (f.1 + 1, f.2.1, r.toList ++ rest) h'
            | none => none
          else none
        | none => none
    | i => match mi_step S i f h with
      | some (f', h') => mi_run P S n d m f' h'
      | none => none
