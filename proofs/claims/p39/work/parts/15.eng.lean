/-! THE EXECUTOR: the mini machine over values that are known, or known to lie between two numbers. An int is told by itself and 2^31 more. -/
/-- an int that is known; the i-th of those between bounds; a reference; a long that is known; any int -/
abbrev eV : Type := Nat ⊕ (Nat ⊕ (Nat ⊕ (Nat ⊕ Unit)))
/-- a cell: its kind (0 .. 4 an array of ints, bytes, booleans, longs, references; 100 + c an object of class c; 99 not known), its length, what a place holds that isn't listed, the places listed -/
abbrev eC : Type := Nat × Nat × Option eV × List (Nat × eV)
/-- a frame: the method, the instruction's number, locals, operand stack -/
abbrev eF : Type := Nat × Nat × List (Nat × eV) × List eV
/-- frames, how many cells there are, the cells, the bounds -/
abbrev eS : Type := List eF × Nat × Lean.RArray (Nat × eC) × List (Nat × Nat)
abbrev eTr : Type := Lean.RArray (Nat × eC)
abbrev eEn : Type := List (Nat × Nat)
def eanyv : eV := .inr (.inr (.inr (.inr ())))
def ecst (c : Int) : Nat := ((c + 2147483648) % 4294967296).toNat
def efind : List (Nat × eV) → Nat → Option eV
  | [], _ => none
  | (k, v) :: t, j => bif Nat.beq k j then some v else efind t j
def eput : List (Nat × eV) → Nat → eV → List (Nat × eV)
  | [], j, v => [(j, v)]
  | (k, w) :: t, j, v => bif Nat.beq k j then (k, v) :: t else (k, w) :: eput t j v
def elk (c : eC) (j : Nat) : Option eV := match efind c.2.2.2 j with
  | some v => some v
  | none => c.2.2.1
noncomputable def eget (t : eTr) (k : Nat) : Option eC := bif Nat.beq (t.get k).1 (k + 1) then some (t.get k).2 else none
noncomputable def eset (t : eTr) (k : Nat) (c : eC) : eTr := Lean.RArray.rec (fun _ => .leaf (k + 1, c)) (fun p l r l' r' => (Nat.ble p k).rec (.branch p l' r) (.branch p l r')) t
def ecat : eV → Nat
  | .inr (.inr (.inr (.inl _))) => 2
  | _ => 1
def ecats : List eV → Nat
  | [] => 0
  | v :: t => ecat v + ecats t
def es1 (l : List (Nat × eV)) (i : Nat) (v : eV) : List (Nat × eV) := (i, v) :: l.filter (fun q => !(Nat.beq q.1 i) && !(Nat.beq (q.1 + 1) i && Nat.beq (ecat q.2) 2))
def es2 (l : List (Nat × eV)) (i : Nat) (v : eV) : List (Nat × eV) := (i, v) :: l.filter (fun q => !(Nat.beq q.1 i) && (!(Nat.beq q.1 (i + 1)) && !(Nat.beq (q.1 + 1) i && Nat.beq (ecat q.2) 2)))
/-- is it one number alone? -/
def ecn (en : eEn) : eV → Option Nat
  | .inl c => some c
  | .inr (.inl i) => match en[i]? with
    | some (lo, hi) => bif Nat.beq lo hi then some lo else none
    | none => none
  | _ => none
def enrm (en : eEn) (v : eV) : eV := match ecn en v with
  | some c => .inl c
  | none => v
def eisI : eV → Bool
  | .inl _ => true
  | .inr (.inl _) => true
  | .inr (.inr (.inr (.inr _))) => true
  | _ => false
/-- an operation on two ints -/
def eadd : eV → eV → Option eV
  | .inl a, .inl b => some (.inl ((a + b + 2147483648) % 4294967296))
  | .inl a, v => bif eisI v then some (bif Nat.beq a 2147483648 then v else eanyv) else none
  | v, .inl b => bif eisI v then some (bif Nat.beq b 2147483648 then v else eanyv) else none
  | v, w => bif eisI v && eisI w then some eanyv else none
def esub : eV → eV → Option eV
  | .inl a, .inl b => some (.inl ((a + 6442450944 - b) % 4294967296))
  | v, w => bif eisI v && eisI w then some eanyv else none
/-- two numbers that are not below 0 -/
def enn (g : Nat → Nat → Nat) (v w : eV) : Option eV := match v, w with
  | .inl a, .inl b => some (bif Nat.ble 2147483648 a && (Nat.ble 2147483648 b && Nat.blt (g (a - 2147483648) (b - 2147483648)) 2147483648) then .inl (g (a - 2147483648) (b - 2147483648) + 2147483648) else eanyv)
  | v, w => bif eisI v && eisI w then some eanyv else none
/-- the script's ints: the i-th, below 64, is the (i + 6)-th of the bounds -/
def eand (v w : eV) : Option eV := match v, w with
  | .inr (.inl i), .inl b => some (bif Nat.blt i 6 && Nat.beq b 2147483711 then .inr (.inl (i + 6)) else eanyv)
  | v, w => enn Nat.land v w
def eany2 (v w : eV) : Option eV := bif eisI v && eisI w then some eanyv else none
def edv (g : Nat → Nat → Nat) (v w : eV) : Option eV := match w with
  | .inl b => bif Nat.blt 2147483648 b then (match v with
    | .inl a => some (bif Nat.ble 2147483648 a then .inl (g (a - 2147483648) (b - 2147483648) + 2147483648) else eanyv)
    | v => bif eisI v then some eanyv else none) else none
  | _ => none
def emm (g : Nat → Nat → Nat) (v w : eV) : Option eV := match v, w with
  | .inl a, .inl b => some (.inl (g a b))
  | v, w => bif eisI v && eisI w then some eanyv else none
def ecmp (cd : Jvm.ClassFile.Cond) (a b : Nat) : Bool := match cd with
  | .eq => Nat.beq a b
  | .ne => !Nat.beq a b
  | .lt => Nat.blt a b
  | .ge => Nat.ble b a
  | .gt => Nat.blt b a
  | .le => Nat.ble a b
def eneg (cd : Jvm.ClassFile.Cond) : Jvm.ClassFile.Cond := match cd with
  | .eq => .ne
  | .ne => .eq
  | .lt => .ge
  | .ge => .lt
  | .gt => .le
  | .le => .gt
def eswp (cd : Jvm.ClassFile.Cond) : Jvm.ClassFile.Cond := match cd with
  | .eq => .eq
  | .ne => .ne
  | .lt => .gt
  | .ge => .le
  | .gt => .lt
  | .le => .ge
def eiv (lo hi : Nat) : List (Nat × Nat) := bif Nat.ble lo hi then [(lo, hi)] else []
/-- the bounds of what is so to c -/
def eref (cd : Jvm.ClassFile.Cond) (lo hi c : Nat) : List (Nat × Nat) := match cd with
  | .eq => bif Nat.ble lo c && Nat.ble c hi then [(c, c)] else []
  | .ne => (bif Nat.ble c hi then (bif Nat.blt lo c then [(lo, c - 1)] else []) else [(lo, hi)]) ++ (bif Nat.ble lo c then eiv (c + 1) hi else [(lo, hi)])
  | .lt => bif Nat.ble c hi then (bif Nat.blt lo c then [(lo, c - 1)] else []) else [(lo, hi)]
  | .ge => bif Nat.ble lo c then eiv c hi else [(lo, hi)]
  | .gt => bif Nat.ble lo c then eiv (c + 1) hi else [(lo, hi)]
  | .le => bif Nat.ble c hi then eiv lo c else [(lo, hi)]
def ebrS (cd : Jvm.ClassFile.Cond) (i c : Nat) (en : eEn) : List (Bool × eEn) := match en[i]? with
  | some (lo, hi) => (eref cd lo hi c).map (fun iv => (true, en.set i iv)) ++ (eref (eneg cd) lo hi c).map (fun iv => (false, en.set i iv))
  | none => [(true, en), (false, en)]
def ebr (cd : Jvm.ClassFile.Cond) (v w : eV) (en : eEn) : Option (List (Bool × eEn)) := match v, w with
  | .inl a, .inl b => some [(ecmp cd a b, en)]
  | .inr (.inl i), .inl c => some (ebrS cd i c en)
  | .inl c, .inr (.inl i) => some (ebrS (eswp cd) i c en)
  | .inr (.inl i), .inr (.inl j) => some (bif Nat.beq i j then [(ecmp cd 0 0, en)] else [(true, en), (false, en)])
  | v, w => bif eisI v && eisI w then some [(true, en), (false, en)] else none
/-- an index that lies between near bounds: each of them for itself -/
def esplit (fr : List eF) (n : Nat) (t : eTr) (en : eEn) : eV → Option (List eS)
  | .inr (.inl i) => match en[i]? with
    | some (lo, hi) => bif Nat.ble lo hi && Nat.ble hi (lo + 100) then some ((List.range (hi - lo + 1)).map (fun d => (fr, n, t, en.set i (lo + d, lo + d)))) else none
    | none => none
  | _ => none
def efit (ty : FieldType) (v : eV) : Bool := match ty with
  | .int => eisI v
  | .boolean => (match v with
    | .inl c => Nat.beq c 2147483648 || Nat.beq c 2147483649
    | _ => false)
  | .long => (match v with
    | .inr (.inr (.inr (.inl _))) => true
    | _ => false)
  | .object _ => (match v with
    | .inr (.inr (.inl _)) => true
    | _ => false)
  | .array _ => (match v with
    | .inr (.inr (.inl _)) => true
    | _ => false)
  | _ => false
def eretz (z : Nat) (v : eV) : Bool := bif Nat.beq z 0 then eisI v else bif Nat.beq z 1 then efit .boolean v else false
/-- an array's place for reading or writing: the cell and the place -/
noncomputable def eplace (kd : Nat → Bool) (t : eTr) (k c : Nat) : Option (eC × Nat) := match eget t k with
  | some ce => bif kd ce.1 && (Nat.ble 2147483648 c && Nat.blt (c - 2147483648) ce.2.1) then some (ce, c - 2147483648) else none
  | none => none
def edf : Nat → List Value → List (Nat × eV)
  | _, [] => []
  | j, .int _ :: t => (j, .inl 2147483648) :: edf (j + 1) t
  | j, .long _ :: t => (j, .inr (.inr (.inr (.inl 0)))) :: edf (j + 1) t
  | j, _ :: t => edf (j + 1) t
def eent : Nat → List eV → List (Nat × eV)
  | _, [] => []
  | k, v :: t => (k, v) :: eent (k + ecat v) t
noncomputable def ercv (rc : Nat) (as : List eV) (t : eTr) : Bool := match rc with
  | 0 => true
  | ci + 1 => match as with
    | .inr (.inr (.inl k)) :: _ => bif Nat.beq ci 13 then false else match eget t k with
      | some ce => Nat.beq ce.1 (ci + 100)
      | none => false
    | _ => false
def ecopy (f g : eC) (sp dp : Nat) : Nat → Option (List (Nat × eV)) 
  | 0 => some (g.2.2.2.filter (fun _ => true))
  | n + 1 => match elk f (sp + n), ecopy f g sp dp n with
    | some v, some l => some (eput l (dp + n) v)
    | _, _ => none
noncomputable def eupd (t : eTr) (k : Nat) (ce : eC) (j : Nat) (v : eV) : eTr := eset t k (ce.1, ce.2.1, ce.2.2.1, eput ce.2.2.2 j v)
noncomputable def ex_iconst (P : mP) (L D : Nat) (c : Int) (m pc : Nat) (l : List (Nat × eV)) (st : List eV) (fr : List eF) (n : Nat) (t : eTr) (en : eEn) : Option (List eS) := some [((m, pc + 1, l, .inl (ecst c) :: st) :: fr, n, t, en)]
noncomputable def ex_ldc2_w (P : mP) (L D : Nat) (c : Nat) (m pc : Nat) (l : List (Nat × eV)) (st : List eV) (fr : List eF) (n : Nat) (t : eTr) (en : eEn) : Option (List eS) := some [((m, pc + 1, l, .inr (.inr (.inr (.inl c))) :: st) :: fr, n, t, en)]
noncomputable def ex_iload (P : mP) (L D : Nat) (i : Nat) (m pc : Nat) (l : List (Nat × eV)) (st : List eV) (fr : List eF) (n : Nat) (t : eTr) (en : eEn) : Option (List eS) := match efind l i with
  | some v => bif eisI v then some [((m, pc + 1, l, enrm en v :: st) :: fr, n, t, en)] else none
  | none => none
noncomputable def ex_lload (P : mP) (L D : Nat) (i : Nat) (m pc : Nat) (l : List (Nat × eV)) (st : List eV) (fr : List eF) (n : Nat) (t : eTr) (en : eEn) : Option (List eS) := match efind l i with
  | some (.inr (.inr (.inr (.inl v)))) => some [((m, pc + 1, l, .inr (.inr (.inr (.inl v))) :: st) :: fr, n, t, en)]
  | _ => none
noncomputable def ex_aload (P : mP) (L D : Nat) (i : Nat) (m pc : Nat) (l : List (Nat × eV)) (st : List eV) (fr : List eF) (n : Nat) (t : eTr) (en : eEn) : Option (List eS) := match efind l i with
  | some (.inr (.inr (.inl v))) => some [((m, pc + 1, l, .inr (.inr (.inl v)) :: st) :: fr, n, t, en)]
  | _ => none
noncomputable def ex_istore (P : mP) (L D : Nat) (i : Nat) (m pc : Nat) (l : List (Nat × eV)) (st : List eV) (fr : List eF) (n : Nat) (t : eTr) (en : eEn) : Option (List eS) := match st with
  | v :: st' => bif eisI v then some [((m, pc + 1, es1 l i v, st') :: fr, n, t, en)] else none
  | _ => none
noncomputable def ex_lstore (P : mP) (L D : Nat) (i : Nat) (m pc : Nat) (l : List (Nat × eV)) (st : List eV) (fr : List eF) (n : Nat) (t : eTr) (en : eEn) : Option (List eS) := match st with
  | .inr (.inr (.inr (.inl v))) :: st' => some [((m, pc + 1, es2 l i (.inr (.inr (.inr (.inl v)))), st') :: fr, n, t, en)]
  | _ => none
noncomputable def ex_astore (P : mP) (L D : Nat) (i : Nat) (m pc : Nat) (l : List (Nat × eV)) (st : List eV) (fr : List eF) (n : Nat) (t : eTr) (en : eEn) : Option (List eS) := match st with
  | .inr (.inr (.inl v)) :: st' => some [((m, pc + 1, es1 l i (.inr (.inr (.inl v))), st') :: fr, n, t, en)]
  | _ => none
noncomputable def ex_iinc (P : mP) (L D : Nat) (i : Nat) (c : Int) (m pc : Nat) (l : List (Nat × eV)) (st : List eV) (fr : List eF) (n : Nat) (t : eTr) (en : eEn) : Option (List eS) := match efind l i with
  | some v => match eadd v (.inl (ecst c)) with
    | some w => some [((m, pc + 1, es1 l i w, st) :: fr, n, t, en)]
    | none => none
  | none => none
noncomputable def ex_iadd (P : mP) (L D : Nat) (m pc : Nat) (l : List (Nat × eV)) (st : List eV) (fr : List eF) (n : Nat) (t : eTr) (en : eEn) : Option (List eS) := match st with
  | w :: v :: st' => (eadd v w).map (fun r => [((m, pc + 1, l, r :: st') :: fr, n, t, en)])
  | _ => none
noncomputable def ex_isub (P : mP) (L D : Nat) (m pc : Nat) (l : List (Nat × eV)) (st : List eV) (fr : List eF) (n : Nat) (t : eTr) (en : eEn) : Option (List eS) := match st with
  | w :: v :: st' => (esub v w).map (fun r => [((m, pc + 1, l, r :: st') :: fr, n, t, en)])
  | _ => none
noncomputable def ex_imul (P : mP) (L D : Nat) (m pc : Nat) (l : List (Nat × eV)) (st : List eV) (fr : List eF) (n : Nat) (t : eTr) (en : eEn) : Option (List eS) := match st with
  | w :: v :: st' => (enn Nat.mul v w).map (fun r => [((m, pc + 1, l, r :: st') :: fr, n, t, en)])
  | _ => none
noncomputable def ex_iand (P : mP) (L D : Nat) (m pc : Nat) (l : List (Nat × eV)) (st : List eV) (fr : List eF) (n : Nat) (t : eTr) (en : eEn) : Option (List eS) := match st with
  | w :: v :: st' => (eand v w).map (fun r => [((m, pc + 1, l, r :: st') :: fr, n, t, en)])
  | _ => none
noncomputable def ex_ior (P : mP) (L D : Nat) (m pc : Nat) (l : List (Nat × eV)) (st : List eV) (fr : List eF) (n : Nat) (t : eTr) (en : eEn) : Option (List eS) := match st with
  | w :: v :: st' => (enn Nat.lor v w).map (fun r => [((m, pc + 1, l, r :: st') :: fr, n, t, en)])
  | _ => none
noncomputable def ex_ishl (P : mP) (L D : Nat) (m pc : Nat) (l : List (Nat × eV)) (st : List eV) (fr : List eF) (n : Nat) (t : eTr) (en : eEn) : Option (List eS) := match st with
  | w :: v :: st' => (eany2 v w).map (fun r => [((m, pc + 1, l, r :: st') :: fr, n, t, en)])
  | _ => none
noncomputable def ex_ishr (P : mP) (L D : Nat) (m pc : Nat) (l : List (Nat × eV)) (st : List eV) (fr : List eF) (n : Nat) (t : eTr) (en : eEn) : Option (List eS) := match st with
  | w :: v :: st' => (eany2 v w).map (fun r => [((m, pc + 1, l, r :: st') :: fr, n, t, en)])
  | _ => none
noncomputable def ex_idiv (P : mP) (L D : Nat) (m pc : Nat) (l : List (Nat × eV)) (st : List eV) (fr : List eF) (n : Nat) (t : eTr) (en : eEn) : Option (List eS) := match st with
  | w :: v :: st' => (edv Nat.div v w).map (fun r => [((m, pc + 1, l, r :: st') :: fr, n, t, en)])
  | _ => none
noncomputable def ex_irem (P : mP) (L D : Nat) (m pc : Nat) (l : List (Nat × eV)) (st : List eV) (fr : List eF) (n : Nat) (t : eTr) (en : eEn) : Option (List eS) := match st with
  | w :: v :: st' => (edv Nat.mod v w).map (fun r => [((m, pc + 1, l, r :: st') :: fr, n, t, en)])
  | _ => none
noncomputable def ex_i2b (P : mP) (L D : Nat) (m pc : Nat) (l : List (Nat × eV)) (st : List eV) (fr : List eF) (n : Nat) (t : eTr) (en : eEn) : Option (List eS) := match st with
  | v :: st' => bif eisI v then some [((m, pc + 1, l, eanyv :: st') :: fr, n, t, en)] else none
  | _ => none
noncomputable def ex_lcmp (P : mP) (L D : Nat) (m pc : Nat) (l : List (Nat × eV)) (st : List eV) (fr : List eF) (n : Nat) (t : eTr) (en : eEn) : Option (List eS) := match st with
  | .inr (.inr (.inr (.inl a))) :: .inr (.inr (.inr (.inl b))) :: st' => bif Nat.beq a b then some [((m, pc + 1, l, .inl 2147483648 :: st') :: fr, n, t, en)] else none
  | _ => none
noncomputable def ex_ifCond (P : mP) (L D : Nat) (cd : Jvm.ClassFile.Cond) (tg : Int) (m pc : Nat) (l : List (Nat × eV)) (st : List eV) (fr : List eF) (n : Nat) (t : eTr) (en : eEn) : Option (List eS) := match st with
  | v :: st' => (ebr cd v (.inl 2147483648) en).map (fun bs => bs.map (fun b => ((m, bif b.1 then tg.toNat else pc + 1, l, st') :: fr, n, t, b.2)))
  | _ => none
noncomputable def ex_if_icmp (P : mP) (L D : Nat) (cd : Jvm.ClassFile.Cond) (tg : Int) (m pc : Nat) (l : List (Nat × eV)) (st : List eV) (fr : List eF) (n : Nat) (t : eTr) (en : eEn) : Option (List eS) := match st with
  | w :: v :: st' => (ebr cd v w en).map (fun bs => bs.map (fun b => ((m, bif b.1 then tg.toNat else pc + 1, l, st') :: fr, n, t, b.2)))
  | _ => none
noncomputable def ex_goto (P : mP) (L D : Nat) (tg : Int) (m pc : Nat) (l : List (Nat × eV)) (st : List eV) (fr : List eF) (n : Nat) (t : eTr) (en : eEn) : Option (List eS) := some [((m, tg.toNat, l, st) :: fr, n, t, en)]
noncomputable def ex_tableswitch (P : mP) (L D : Nat) (d : Int) (lo : Int) (hi : Int) (offs : Array Int) (m pc : Nat) (l : List (Nat × eV)) (st : List eV) (fr : List eF) (n : Nat) (t : eTr) (en : eEn) : Option (List eS) := match st with
  | v :: st' => bif decide (0 ≤ lo + 2147483648) && Nat.ble (hi + 2147483649).toNat ((lo + 2147483648).toNat + offs.toList.length) then (match ecn en v with
    | some c => bif Nat.blt c (lo + 2147483648).toNat || Nat.ble (hi + 2147483649).toNat c then some [((m, d.toNat, l, st') :: fr, n, t, en)] else (match offs.toList[c - (lo + 2147483648).toNat]? with
      | some tg => some [((m, tg.toNat, l, st') :: fr, n, t, en)]
      | none => none)
    | none => match v with
      | .inr (.inl i) => match en[i]? with
        | some (a, b) => some ((eref .lt a b (lo + 2147483648).toNat ++ eref .ge a b (hi + 2147483649).toNat).map (fun iv => ((m, d.toNat, l, st') :: fr, n, t, en.set i iv)) ++ ((List.range offs.toList.length).filter (fun k => Nat.ble a ((lo + 2147483648).toNat + k) && Nat.ble ((lo + 2147483648).toNat + k) b)).map (fun k => ((m, pc, l, v :: st') :: fr, n, t, en.set i ((lo + 2147483648).toNat + k, (lo + 2147483648).toNat + k))))
        | none => none
      | _ => none) else none
  | _ => none
noncomputable def ex_dup (P : mP) (L D : Nat) (m pc : Nat) (l : List (Nat × eV)) (st : List eV) (fr : List eF) (n : Nat) (t : eTr) (en : eEn) : Option (List eS) := match st with
  | v :: st' => bif Nat.beq (ecat v) 1 then some [((m, pc + 1, l, v :: v :: st') :: fr, n, t, en)] else none
  | _ => none
noncomputable def ex_dup2 (P : mP) (L D : Nat) (m pc : Nat) (l : List (Nat × eV)) (st : List eV) (fr : List eF) (n : Nat) (t : eTr) (en : eEn) : Option (List eS) := match st with
  | v :: w :: st' => bif Nat.beq (ecat v) 1 && Nat.beq (ecat w) 1 then some [((m, pc + 1, l, v :: w :: v :: w :: st') :: fr, n, t, en)] else none
  | _ => none
noncomputable def ex_pop (P : mP) (L D : Nat) (m pc : Nat) (l : List (Nat × eV)) (st : List eV) (fr : List eF) (n : Nat) (t : eTr) (en : eEn) : Option (List eS) := match st with
  | v :: st' => bif Nat.beq (ecat v) 1 then some [((m, pc + 1, l, st') :: fr, n, t, en)] else none
  | _ => none
noncomputable def ex_getfield (P : mP) (L D : Nat) (q : Nat) (m pc : Nat) (l : List (Nat × eV)) (st : List eV) (fr : List eF) (n : Nat) (t : eTr) (en : eEn) : Option (List eS) := match st with
  | .inr (.inr (.inl k)) :: st' => match eget t k with
    | some ce => bif Nat.beq ce.1 (q / 128 + 100) then (match elk ce (q % 128) with
      | some v => some [((m, pc + 1, l, v :: st') :: fr, n, t, en)]
      | none => none) else none
    | none => none
  | _ => none
noncomputable def ex_putfield (P : mP) (L D : Nat) (q : Nat) (m pc : Nat) (l : List (Nat × eV)) (st : List eV) (fr : List eF) (n : Nat) (t : eTr) (en : eEn) : Option (List eS) := match st with
  | v :: .inr (.inr (.inl k)) :: st' => match eget t k with
    | some ce => bif Nat.beq ce.1 (q / 128 + 100) && (Nat.blt (q % 128) ce.2.1 && efit (mi_ty q) v) then some [((m, pc + 1, l, st') :: fr, n, eupd t k ce (q % 128) v, en)] else none
    | none => none
  | _ => none
noncomputable def ex_iaload (P : mP) (L D : Nat) (m pc : Nat) (l : List (Nat × eV)) (st : List eV) (fr : List eF) (n : Nat) (t : eTr) (en : eEn) : Option (List eS) := match st with
  | iv :: .inr (.inr (.inl k)) :: st' => match ecn en iv with
    | none => esplit ((m, pc, l, st) :: fr) n t en iv
    | some c => bif Nat.beq k 0 then (bif Nat.ble 2147483648 c && (Nat.blt (c - 2147483648) L && Nat.blt (c - 2147483648) 6) then some [((m, pc + 1, l, .inr (.inl (c - 2147483648)) :: st') :: fr, n, t, en)] else none) else (match eplace (fun d => Nat.beq d 0) t k c with
      | some (ce, j) => match elk ce j with
        | some v => some [((m, pc + 1, l, v :: st') :: fr, n, t, en)]
        | none => none
      | none => none)
  | _ => none
noncomputable def ex_baload (P : mP) (L D : Nat) (m pc : Nat) (l : List (Nat × eV)) (st : List eV) (fr : List eF) (n : Nat) (t : eTr) (en : eEn) : Option (List eS) := match st with
  | iv :: .inr (.inr (.inl k)) :: st' => match ecn en iv with
    | none => esplit ((m, pc, l, st) :: fr) n t en iv
    | some c => match eplace (fun d => Nat.beq d 1 || Nat.beq d 2) t k c with
      | some (ce, j) => match elk ce j with
        | some v => some [((m, pc + 1, l, v :: st') :: fr, n, t, en)]
        | none => none
      | none => none
  | _ => none
noncomputable def ex_aaload (P : mP) (L D : Nat) (m pc : Nat) (l : List (Nat × eV)) (st : List eV) (fr : List eF) (n : Nat) (t : eTr) (en : eEn) : Option (List eS) := match st with
  | iv :: .inr (.inr (.inl k)) :: st' => match ecn en iv with
    | none => esplit ((m, pc, l, st) :: fr) n t en iv
    | some c => match eplace (fun d => Nat.beq d 4) t k c with
      | some (ce, j) => match elk ce j with
        | some v => some [((m, pc + 1, l, v :: st') :: fr, n, t, en)]
        | none => none
      | none => none
  | _ => none
noncomputable def ex_iastore (P : mP) (L D : Nat) (m pc : Nat) (l : List (Nat × eV)) (st : List eV) (fr : List eF) (n : Nat) (t : eTr) (en : eEn) : Option (List eS) := match st with
  | v :: iv :: .inr (.inr (.inl k)) :: st' => match ecn en iv with
    | none => esplit ((m, pc, l, st) :: fr) n t en iv
    | some c => match eplace (fun d => Nat.beq d 0) t k c with
      | some (ce, j) => bif eisI v then some [((m, pc + 1, l, st') :: fr, n, eupd t k ce j v, en)] else none
      | none => none
  | _ => none
noncomputable def ex_bastore (P : mP) (L D : Nat) (m pc : Nat) (l : List (Nat × eV)) (st : List eV) (fr : List eF) (n : Nat) (t : eTr) (en : eEn) : Option (List eS) := match st with
  | v :: iv :: .inr (.inr (.inl k)) :: st' => match ecn en iv with
    | none => esplit ((m, pc, l, st) :: fr) n t en iv
    | some c => match eplace (fun d => Nat.beq d 1) t k c with
      | some (ce, j) => bif eisI v then some [((m, pc + 1, l, st') :: fr, n, eupd t k ce j eanyv, en)] else none
      | none => match eplace (fun d => Nat.beq d 2) t k c with
        | some (ce, j) => (match v with
          | .inl x => bif Nat.beq x 2147483648 || Nat.beq x 2147483649 then some [((m, pc + 1, l, st') :: fr, n, eupd t k ce j v, en)] else none
          | _ => none)
        | none => none
  | _ => none
noncomputable def ex_aastore (P : mP) (L D : Nat) (m pc : Nat) (l : List (Nat × eV)) (st : List eV) (fr : List eF) (n : Nat) (t : eTr) (en : eEn) : Option (List eS) := match st with
  | .inr (.inr (.inl r)) :: iv :: .inr (.inr (.inl k)) :: st' => match ecn en iv with
    | none => esplit ((m, pc, l, st) :: fr) n t en iv
    | some c => match eplace (fun d => Nat.beq d 4) t k c, eget t r with
      | some (ce, j), some cr => bif Nat.beq cr.1 (mi_now + 100) then some [((m, pc + 1, l, st') :: fr, n, eupd t k ce j (.inr (.inr (.inl r))), en)] else none
      | _, _ => none
  | _ => none
noncomputable def ex_arraylength (P : mP) (L D : Nat) (m pc : Nat) (l : List (Nat × eV)) (st : List eV) (fr : List eF) (n : Nat) (t : eTr) (en : eEn) : Option (List eS) := match st with
  | .inr (.inr (.inl k)) :: st' => bif Nat.beq k 0 then (bif Nat.ble L 10000 then some [((m, pc + 1, l, .inl (L + 2147483648) :: st') :: fr, n, t, en)] else none) else (match eget t k with
    | some ce => bif Nat.blt ce.1 5 && Nat.ble ce.2.1 10000 then some [((m, pc + 1, l, .inl (ce.2.1 + 2147483648) :: st') :: fr, n, t, en)] else none
    | none => none)
  | _ => none
noncomputable def ex_newarray (P : mP) (L D : Nat) (a : ArrayType) (m pc : Nat) (l : List (Nat × eV)) (st : List eV) (fr : List eF) (n : Nat) (t : eTr) (en : eEn) : Option (List eS) := match st with
  | v :: st' => match ecn en v with
    | some c => bif Nat.ble 2147483648 c && Nat.ble c 2147493648 then (match a with
      | .int => some [((m, pc + 1, l, .inr (.inr (.inl (n + 6))) :: st') :: fr, n + 1, eset t (n + 6) (0, c - 2147483648, some (.inl 2147483648), []), en)]
      | .byte => some [((m, pc + 1, l, .inr (.inr (.inl (n + 6))) :: st') :: fr, n + 1, eset t (n + 6) (1, c - 2147483648, some (.inl 2147483648), []), en)]
      | .boolean => some [((m, pc + 1, l, .inr (.inr (.inl (n + 6))) :: st') :: fr, n + 1, eset t (n + 6) (2, c - 2147483648, some (.inl 2147483648), []), en)]
      | .long => some [((m, pc + 1, l, .inr (.inr (.inl (n + 6))) :: st') :: fr, n + 1, eset t (n + 6) (3, c - 2147483648, some (.inr (.inr (.inr (.inl 0)))), []), en)]
      | _ => none) else none
    | none => none
  | _ => none
noncomputable def ex_anewarray (P : mP) (L D : Nat) (ci : Nat) (m pc : Nat) (l : List (Nat × eV)) (st : List eV) (fr : List eF) (n : Nat) (t : eTr) (en : eEn) : Option (List eS) := match st with
  | v :: st' => match ecn en v with
    | some c => bif Nat.ble 2147483648 c && (Nat.ble c 2147493648 && Nat.beq ci mi_now) then some [((m, pc + 1, l, .inr (.inr (.inl (n + 6))) :: st') :: fr, n + 1, eset t (n + 6) (4, c - 2147483648, none, []), en)] else none
    | none => none
  | _ => none
noncomputable def ex_new (P : mP) (L D : Nat) (ci : Nat) (m pc : Nat) (l : List (Nat × eV)) (st : List eV) (fr : List eF) (n : Nat) (t : eTr) (en : eEn) : Option (List eS) := match mi_dfl0[ci]? with
  | some fs => some [((m, pc + 1, l, .inr (.inr (.inl (n + 6))) :: st) :: fr, n + 1, eset t (n + 6) (ci + 100, fs.length, none, edf 0 fs), en)]
  | none => none
noncomputable def ex_invokedynamic (P : mP) (L D : Nat) (k : Nat) (m pc : Nat) (l : List (Nat × eV)) (st : List eV) (fr : List eF) (n : Nat) (t : eTr) (en : eEn) : Option (List eS) := bif Nat.beq k 0 then (match st with
    | .inr (.inr (.inl _)) :: st' => bif Nat.ble (ecats st') 8 then some [((m, pc + 1, l, st') :: fr, n, t, en)] else none
    | _ => none)
  else bif Nat.beq k 1 then (match st with
    | x :: dp :: .inr (.inr (.inl k1)) :: sp :: .inr (.inr (.inl k0)) :: st' => match ecn en x, ecn en dp, ecn en sp, eget t k0, eget t k1 with
      | some x, some dp, some sp, some c0, some c1 => bif Nat.beq c0.1 0 && (Nat.beq c1.1 0 && (Nat.ble 2147483648 x && (Nat.ble 2147483648 dp && (Nat.ble 2147483648 sp && (Nat.ble (sp + x) (c0.2.1 + 4294967296) && (Nat.ble (dp + x) (c1.2.1 + 4294967296) && Nat.ble (ecats st') 8)))))) then (match ecopy c0 c1 (sp - 2147483648) (dp - 2147483648) (x - 2147483648) with
          | some es => some [((m, pc + 1, l, st') :: fr, n, eset t k1 (c1.1, c1.2.1, c1.2.2.1, es), en)]
          | none => none) else none
      | _, _, _, _, _ => none
    | _ => none)
  else bif Nat.beq k 5 then (match st with
    | w :: v :: st' => bif Nat.ble (ecats st') 8 then (emm (fun a b => bif Nat.blt a b then b else a) v w).map (fun r => [((m, pc + 1, l, r :: st') :: fr, n, t, en)]) else none
    | _ => none)
  else bif Nat.beq k 6 then (match st with
    | w :: v :: st' => bif Nat.ble (ecats st') 8 then (emm (fun a b => bif Nat.blt b a then b else a) v w).map (fun r => [((m, pc + 1, l, r :: st') :: fr, n, t, en)]) else none
    | _ => none)
  else none
noncomputable def ex_invokevirtual (P : mP) (L D : Nat) (y : Nat) (m pc : Nat) (l : List (Nat × eV)) (st : List eV) (fr : List eF) (n : Nat) (t : eTr) (en : eEn) : Option (List eS) := bif Nat.ble (P.get y).2.1 st.length && (Nat.ble (ecats (st.drop (P.get y).2.1)) 8 && (Nat.ble (ecats (st.take (P.get y).2.1)) (P.get y).2.2.2.2.1 && (ercv (P.get y).2.2.2.1 (st.take (P.get y).2.1).reverse t && Nat.blt fr.length D)))
    then some [((y, 0, eent 0 (st.take (P.get y).2.1).reverse, []) :: (m, pc + 1, l, st.drop (P.get y).2.1) :: fr, n, t, en)] else none
noncomputable def ex_return_ (P : mP) (L D : Nat) (m pc : Nat) (l : List (Nat × eV)) (st : List eV) (fr : List eF) (n : Nat) (t : eTr) (en : eEn) : Option (List eS) := match st, fr with
  | [], (m1, pc1, l1, st1) :: fr' => some [((m1, pc1, l1, st1) :: fr', n, t, en)]
  | _, _ => none
noncomputable def ex_ireturn (P : mP) (L D : Nat) (m pc : Nat) (l : List (Nat × eV)) (st : List eV) (fr : List eF) (n : Nat) (t : eTr) (en : eEn) : Option (List eS) := match st, fr with
  | [v], [] => (match v with
    | .inl c => bif Nat.beq c 2147483649 && Nat.ble n 600 then some [] else none
    | _ => none)
  | [v], (m1, pc1, l1, st1) :: fr' => bif eretz (P.get m).2.2.1 v then some [((m1, pc1, l1, v :: st1) :: fr', n, t, en)] else none
  | _, _ => none
noncomputable def ex_lreturn (P : mP) (L D : Nat) (m pc : Nat) (l : List (Nat × eV)) (st : List eV) (fr : List eF) (n : Nat) (t : eTr) (en : eEn) : Option (List eS) := match st, fr with
  | [.inr (.inr (.inr (.inl v)))], (m1, pc1, l1, st1) :: fr' => some [((m1, pc1, l1, .inr (.inr (.inr (.inl v))) :: st1) :: fr', n, t, en)]
  | _, _ => none
noncomputable def ex_areturn (P : mP) (L D : Nat) (m pc : Nat) (l : List (Nat × eV)) (st : List eV) (fr : List eF) (n : Nat) (t : eTr) (en : eEn) : Option (List eS) := match st, fr with
  | [.inr (.inr (.inl v))], (m1, pc1, l1, st1) :: fr' => some [((m1, pc1, l1, .inr (.inr (.inl v)) :: st1) :: fr', n, t, en)]
  | _, _ => none
/-- the step: the program, how many ints the script has, how many frames there may be; none: it can't be told -/
noncomputable def estep (P : mP) (L D : Nat) (s : eS) : Option (List eS) := match s with
  | ([], _, _, _) => none
  | ((m, pc, l, st) :: fr, n, t, en) => match mi_at P m pc with
    | .iconst c => ex_iconst P L D c m pc l st fr n t en
    | .ldc2_w c => ex_ldc2_w P L D c m pc l st fr n t en
    | .iload i => ex_iload P L D i m pc l st fr n t en
    | .lload i => ex_lload P L D i m pc l st fr n t en
    | .aload i => ex_aload P L D i m pc l st fr n t en
    | .istore i => ex_istore P L D i m pc l st fr n t en
    | .lstore i => ex_lstore P L D i m pc l st fr n t en
    | .astore i => ex_astore P L D i m pc l st fr n t en
    | .iinc i c => ex_iinc P L D i c m pc l st fr n t en
    | .iadd => ex_iadd P L D m pc l st fr n t en
    | .isub => ex_isub P L D m pc l st fr n t en
    | .imul => ex_imul P L D m pc l st fr n t en
    | .iand => ex_iand P L D m pc l st fr n t en
    | .ior => ex_ior P L D m pc l st fr n t en
    | .ishl => ex_ishl P L D m pc l st fr n t en
    | .ishr => ex_ishr P L D m pc l st fr n t en
    | .idiv => ex_idiv P L D m pc l st fr n t en
    | .irem => ex_irem P L D m pc l st fr n t en
    | .i2b => ex_i2b P L D m pc l st fr n t en
    | .lcmp => ex_lcmp P L D m pc l st fr n t en
    | .ifCond cd tg => ex_ifCond P L D cd tg m pc l st fr n t en
    | .if_icmp cd tg => ex_if_icmp P L D cd tg m pc l st fr n t en
    | .goto tg => ex_goto P L D tg m pc l st fr n t en
    | .tableswitch d lo hi offs => ex_tableswitch P L D d lo hi offs m pc l st fr n t en
    | .dup => ex_dup P L D m pc l st fr n t en
    | .dup2 => ex_dup2 P L D m pc l st fr n t en
    | .pop => ex_pop P L D m pc l st fr n t en
    | .getfield q => bif Nat.beq (q / 128) 13 then none else ex_getfield P L D q m pc l st fr n t en
    | .putfield q => ex_putfield P L D q m pc l st fr n t en
    | .iaload => ex_iaload P L D m pc l st fr n t en
    | .baload => ex_baload P L D m pc l st fr n t en
    | .aaload => ex_aaload P L D m pc l st fr n t en
    | .iastore => ex_iastore P L D m pc l st fr n t en
    | .bastore => ex_bastore P L D m pc l st fr n t en
    | .aastore => ex_aastore P L D m pc l st fr n t en
    | .arraylength => ex_arraylength P L D m pc l st fr n t en
    | .newarray a => ex_newarray P L D a m pc l st fr n t en
    | .anewarray ci => ex_anewarray P L D ci m pc l st fr n t en
    | .new ci => ex_new P L D ci m pc l st fr n t en
    | .invokedynamic k => ex_invokedynamic P L D k m pc l st fr n t en
    | .invokevirtual y => ex_invokevirtual P L D y m pc l st fr n t en
    | .return_ => ex_return_ P L D m pc l st fr n t en
    | .ireturn => ex_ireturn P L D m pc l st fr n t en
    | .lreturn => ex_lreturn P L D m pc l st fr n t en
    | .areturn => ex_areturn P L D m pc l st fr n t en
    | _ => none
/-- all roads end with 1, or where 'stop' says: the states that are still to be looked at -/
noncomputable def eow (P : mP) (L D : Nat) (stop : eS → Bool) : Nat → List eS → Bool
  | 0, ss => (match ss with
    | [] => true
    | _ :: _ => false)
  | n + 1, ss => (match ss with
    | [] => true
    | s :: r => bif stop s then eow P L D stop n r else (match estep P L D s with
      | some q => eow P L D stop n (q ++ r)
      | none => false))
noncomputable def eok (P : mP) (L D : Nat) (stop : eS → Bool) (n : Nat) (s : eS) : Bool := eow P L D stop n [s]
def emk : Nat → Nat → eTr
  | 0, _ => .leaf (0, 0, 0, none, [])
  | d + 1, b => .branch (b + 2 ^ d) (emk d b) (emk d (b + 2 ^ d))
/-- the start: the script has L ints -/
noncomputable def est0 : eS := ([(0, 0, [(0, .inr (.inr (.inl 0)))], [])], 0, emk 9 0, [(0, 4294967295), (0, 4294967295), (0, 4294967295), (0, 4294967295), (0, 4294967295), (0, 4294967295), (2147483648, 2147483711), (2147483648, 2147483711), (2147483648, 2147483711), (2147483648, 2147483711), (2147483648, 2147483711), (2147483648, 2147483711)])
/-- a road without forks -/
noncomputable def eadv (P : mP) (L D : Nat) : Nat → eS → Option eS
  | 0, s => some s
  | k + 1, s => match estep P L D s with
    | some [s'] => eadv P L D k s'
    | _ => none
