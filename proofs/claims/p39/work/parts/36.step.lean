/-! THE STEP -/
def zop2 (i : Instr) (en : zN) (a b : zL) : Option (zL × zN) := match i with
  | .iadd => some (zi_add en a b)
  | .isub => some (zi_sub en a b)
  | .imul => some (zi_mul en a b)
  | .iand => some (zi_and en a b)
  | .ior => some (zi_or en a b)
  | .ishl => some (zi_shl en a b)
  | .ishr => bif zeqL b (zK 0) then some (a, en) else some (zi_shr en a b)
  | .iushr => some (zai en)
  | .idiv => zi_div en a b
  | .irem => zi_rem en a b
  | _ => none
def zopl (i : Instr) (en : zN) (a b : zL) : Option (zL × zN) := match i with
  | .lsub => some (zl_sub en a b)
  | .lmul => some (zl_mul en a b)
  | .lor => some (zal en)
  | .ldiv => zl_div en a b
  | .lrem => zl_rem en a b
  | _ => none
/-- the numbers that e can be, each for itself: not more than 64 -/
def zfork (en : zN) (e : zL) : Option (List (Int × zN)) := match zub en.1 (zneg e), zub en.1 e with
  | some l, some h => bif zle (Int.add h l) 64 then some ((List.range (Int.add h l).toNat.succ).flatMap (fun d => (zbr false .eq (zac e (Int.sub l (Int.ofNat d))) en).map (fun q => (Int.add (Int.neg l) (Int.ofNat d), q)))) else none
  | _, _ => none
def zmem (l : List (Nat × Nat)) (m pc : Nat) : Bool := l.any (fun q => Nat.beq q.1 m && Nat.beq q.2 pc)
def zfit (en : zN) (ty : FieldType) (v : zV) : Bool := match ty with
  | .int => (match v with
    | .inl _ => true
    | _ => false)
  | .boolean => (match v with
    | .inl e => zin en e 0 1
    | _ => false)
  | .long => (match v with
    | .inr (.inr (.inl _)) => true
    | _ => false)
  | .object _ => (match v with
    | .inr (.inl _) => true
    | _ => false)
  | .array _ => (match v with
    | .inr (.inl _) => true
    | _ => false)
  | _ => false
def zretz (z : Nat) (en : zN) (v : zV) : Bool := bif Nat.beq z 0 then zfit en .int v else bif Nat.beq z 1 then zfit en .boolean v else (match v with
  | .inl e => zin en e 0 65535
  | _ => false)
/-- an index within an array -/
def zidx (en : zN) (e : zL) (n : Nat) : Bool := zpr en.1 en.2.1 2 (zneg e) && zpr en.1 en.2.1 2 (zac e (Int.sub 1 n))
noncomputable def zrcv (rc : Nat) (as : List zV) (t : zT) : Bool := match rc with
  | 0 => true
  | ci + 1 => match as with
    | .inr (.inl k) :: _ => bif Nat.beq ci 13 then Nat.beq k 1 || Nat.beq k 2 else (match zget t k with
      | some c => Nat.beq c.1 (ci + 100)
      | none => false)
    | _ => false
abbrev zCl : Type := Nat → Nat → List zV → zT → zN → Option (List (Option zV × zT × zN))
section ZD
variable (P : mP) (D : Nat) (W : zW) (Ls : Bool) (nf fk : List (Nat × Nat)) (cal : zCl) (m pc : Nat) (l : List (Nat × zV)) (st : List zV) (fr : List zF) (t : zT) (en : zN)
noncomputable def zx_push (v : zV) : Option (List zS) := some [((m, pc + 1, l, v :: st) :: fr, t, en)]
noncomputable def zx_iload (i : Nat) : Option (List zS) := match zlk l i with
  | some (.inl e) => bif zmem fk m pc then (match zfork en e with
      | some q => some (q.map (fun p => ((m, pc + 1, l, .inl (zK p.1) :: st) :: fr, t, p.2)))
      | none => none) else some [((m, pc + 1, l, .inl (znrm en.1 e) :: st) :: fr, t, en)]
  | _ => none
noncomputable def zx_lload (i : Nat) : Option (List zS) := match zlk l i with
  | some (.inr (.inr (.inl e))) => some [((m, pc + 1, l, .inr (.inr (.inl (znrm en.1 e))) :: st) :: fr, t, en)]
  | _ => none
noncomputable def zx_aload (i : Nat) : Option (List zS) := match zlk l i with
  | some (.inr (.inl k)) => some [((m, pc + 1, l, .inr (.inl k) :: st) :: fr, t, en)]
  | _ => none
noncomputable def zx_istore (i : Nat) : Option (List zS) := match st with
  | .inl e :: st' => some [((m, pc + 1, zs1 l i (.inl e), st') :: fr, t, en)]
  | _ => none
noncomputable def zx_lstore (i : Nat) : Option (List zS) := match st with
  | .inr (.inr (.inl e)) :: st' => some [((m, pc + 1, zs2 l i (.inr (.inr (.inl e))), st') :: fr, t, en)]
  | _ => none
noncomputable def zx_astore (i : Nat) : Option (List zS) := match st with
  | .inr (.inl k) :: st' => some [((m, pc + 1, zs1 l i (.inr (.inl k)), st') :: fr, t, en)]
  | _ => none
noncomputable def zx_iinc (i : Nat) (c : Int) : Option (List zS) := match zlk l i with
  | some (.inl e) => bif zle (-2147483648) c && zle c 2147483647 then some [((m, pc + 1, zs1 l i (.inl (zi_add en (znrm en.1 e) (zK c)).1), st) :: fr, t, (zi_add en (znrm en.1 e) (zK c)).2)] else none
  | _ => none
noncomputable def zx_bin (i : Instr) : Option (List zS) := match st with
  | .inl b :: .inl a :: st' => match zop2 i en a b with
    | some q => some [((m, pc + 1, l, .inl q.1 :: st') :: fr, t, q.2)]
    | none => none
  | _ => none
/-- and 255 of what lies in -256 .. 255 -/
noncomputable def zx_and : Option (List zS) := match st with
  | .inl b :: .inl a :: st' => bif zeqL b (zK 255) && zin en a (-256) 255 then some ((zasm en (zneg a)).toList.map (fun q => ((m, pc + 1, l, .inl a :: st') :: fr, t, q)) ++ (zasm en (zac a 1)).toList.map (fun q => ((m, pc + 1, l, .inl (zac a 256) :: st') :: fr, t, q))) else zx_bin m pc l st fr t en .iand
  | _ => none
noncomputable def zx_lbin (i : Instr) : Option (List zS) := match st with
  | .inr (.inr (.inl b)) :: .inr (.inr (.inl a)) :: st' => match zopl i en a b with
    | some q => some [((m, pc + 1, l, .inr (.inr (.inl q.1)) :: st') :: fr, t, q.2)]
    | none => none
  | _ => none
noncomputable def zx_lshl : Option (List zS) := match st with
  | .inl _ :: .inr (.inr (.inl _)) :: st' => some [((m, pc + 1, l, .inr (.inr (.inl (zal en).1)) :: st') :: fr, t, (zal en).2)]
  | _ => none
noncomputable def zx_i2l : Option (List zS) := match st with
  | .inl a :: st' => some [((m, pc + 1, l, .inr (.inr (.inl a)) :: st') :: fr, t, en)]
  | _ => none
noncomputable def zx_nar (lo hi : Int) : Option (List zS) := match st with
  | .inl a :: st' => some [((m, pc + 1, l, .inl (zex en lo hi a).1 :: st') :: fr, t, (zex en lo hi a).2)]
  | _ => none
noncomputable def zx_lcmp : Option (List zS) := match st with
  | .inr (.inr (.inl b)) :: .inr (.inr (.inl a)) :: st' => some ((zbr false .lt (zsub a b) en).map (fun q => ((m, pc + 1, l, .inl (zK (-1)) :: st') :: fr, t, q)) ++ ((zbr false .eq (zsub a b) en).map (fun q => ((m, pc + 1, l, .inl (zK 0) :: st') :: fr, t, q)) ++ (zbr false .gt (zsub a b) en).map (fun q => ((m, pc + 1, l, .inl (zK 1) :: st') :: fr, t, q))))
  | _ => none
noncomputable def zx_br (cd : Jvm.ClassFile.Cond) (tg : Int) (d : zL) (st' : List zV) : Option (List zS) := some ((zbr (zmem nf m pc) cd (znrm en.1 d) en).map (fun q => ((m, tg.toNat, l, st') :: fr, t, q)) ++ (zbr (zmem nf m pc) (eneg cd) (znrm en.1 d) en).map (fun q => ((m, pc + 1, l, st') :: fr, t, q)))
noncomputable def zx_if (cd : Jvm.ClassFile.Cond) (tg : Int) : Option (List zS) := match st with
  | .inl a :: st' => zx_br nf m pc l fr t en cd tg a st'
  | _ => none
noncomputable def zx_icmp (cd : Jvm.ClassFile.Cond) (tg : Int) : Option (List zS) := match st with
  | .inl b :: .inl a :: st' => zx_br nf m pc l fr t en cd tg (zsub a b) st'
  | _ => none
noncomputable def zx_table (d lo hi : Int) (offs : Array Int) : Option (List zS) := match st with
  | .inl a :: st' => match zcst (znrm en.1 a) with
    | some c => bif zle (Int.add c 1) lo || zle (Int.add hi 1) c then some [((m, d.toNat, l, st') :: fr, t, en)] else (match offs[(Int.sub c lo).toNat]? with
      | some tg => some [((m, tg.toNat, l, st') :: fr, t, en)]
      | none => none)
    | none => bif Nat.beq offs.size (Int.add (Int.sub hi lo) 1).toNat && zle lo hi then some ((zbr false .lt (zac a (Int.neg lo)) en).map (fun q => ((m, d.toNat, l, st') :: fr, t, q)) ++ ((zbr false .gt (zac a (Int.neg hi)) en).map (fun q => ((m, d.toNat, l, st') :: fr, t, q)) ++
        (List.range offs.size).flatMap (fun j => match offs[j]? with
          | some tg => (zbr false .eq (zac a (Int.neg (Int.add lo j))) en).map (fun q => ((m, tg.toNat, l, st') :: fr, t, q))
          | none => []))) else none
  | _ => none
noncomputable def zx_dup : Option (List zS) := match st with
  | v :: st' => bif Nat.beq (zcat v) 1 then some [((m, pc + 1, l, v :: v :: st') :: fr, t, en)] else none
  | _ => none
noncomputable def zx_dup2 : Option (List zS) := match st with
  | v :: w :: st' => bif Nat.beq (zcat v) 1 && Nat.beq (zcat w) 1 then some [((m, pc + 1, l, v :: w :: v :: w :: st') :: fr, t, en)] else none
  | _ => none
noncomputable def zx_pop (c : Nat) : Option (List zS) := match st with
  | v :: st' => bif Nat.beq (zcat v) c then some [((m, pc + 1, l, st') :: fr, t, en)] else none
  | _ => none
noncomputable def zx_getf (q : Nat) : Option (List zS) := match st with
  | .inr (.inl k) :: st' => match zget t k with
    | some c => bif Nat.beq c.1 (q / 128 + 100) && Nat.blt (q % 128) c.2.1 then (match zld en c (zK (Int.ofNat (q % 128))) with
      | [] => none
      | a :: b => bif zmem fk m pc then (match a.1, b with
          | .inl e, [] => (match zfork a.2.2 e with
            | some w => some (w.map (fun p => ((m, pc + 1, l, .inl (zK p.1) :: st') :: fr, zset t k a.2.1, p.2)))
            | none => none)
          | _, _ => none) else some ((a :: b).map (fun p => ((m, pc + 1, l, p.1 :: st') :: fr, zset t k p.2.1, p.2.2)))) else none
    | none => none
  | _ => none
/-- a text's row and coder -/
noncomputable def zx_txt (q : Nat) : Option (List zS) := match st with
  | .inr (.inl k) :: st' => bif Nat.beq k 1 || Nat.beq k 2 then (bif Nat.beq (q % 128) 0 then some [((m, pc + 1, l, .inr (.inl (k + 2)) :: st') :: fr, t, en)] else bif Nat.beq (q % 128) 1 then some [((m, pc + 1, l, .inl (zK 0) :: st') :: fr, t, en)] else none) else none
  | _ => none
noncomputable def zx_putf (q : Nat) : Option (List zS) := match st with
  | v :: .inr (.inl k) :: st' => match zget t k with
    | some c => bif Nat.beq c.1 (q / 128 + 100) && (Nat.blt (q % 128) c.2.1 && (zfit en (mi_ty q) v && (zw W k (q % 128) && zpin en v c.2.2.1 (zK (Int.ofNat (q % 128)))))) then some [((m, pc + 1, l, st') :: fr, zset t k (zsto en c (zK (Int.ofNat (q % 128))) v), en)] else none
    | none => none
  | _ => none
noncomputable def zx_ald (kd : Nat → Bool) : Option (List zS) := match st with
  | .inl e :: .inr (.inl k) :: st' => bif Nat.beq k 0 then (bif Ls && (kd 0 && (zpr en.1 en.2.1 2 (zneg e) && zpr en.1 en.2.1 2 (zac (zsub e (zX 0)) 1))) then some [((m, pc + 1, l, .inl (zai en).1 :: st') :: fr, t, (zai en).2)] else none) else (match zget t k with
    | some c => bif kd c.1 && zidx en e c.2.1 then (match zld en c e with
      | [] => none
      | a :: b => some ((a :: b).map (fun p => ((m, pc + 1, l, p.1 :: st') :: fr, zset t k p.2.1, p.2.2)))) else none
    | none => none)
  | _ => none
/-- a row of bytes: a text's, or another -/
noncomputable def zx_bald : Option (List zS) := match st with
  | .inl e :: .inr (.inl k) :: st' => bif Nat.beq k 3 || Nat.beq k 4 then (bif zidx en e (mi_byt.getD (k - 3) []).length then some [((m, pc + 1, l, .inl (zfr en (-128) 127).1 :: st') :: fr, t, (zfr en (-128) 127).2)] else none) else zx_ald false m pc l st fr t en (fun d => Nat.beq d 1 || Nat.beq d 2)
  | _ => none
/-- an array of references -/
noncomputable def zx_aald : Option (List zS) := match st with
  | .inl e :: .inr (.inl k) :: st' => match zget t k with
    | some c => bif Nat.beq c.1 4 && zidx en e c.2.1 then (match zcst e with
      | some j => (match zfnd (zK j) c.2.2.2 with
        | some (.inr (.inl r)) => some [((m, pc + 1, l, .inr (.inl r) :: st') :: fr, t, en)]
        | _ => none)
      | none => (match zfork en e with
        | some w => some (w.map (fun p => ((m, pc, l, .inl (zK p.1) :: .inr (.inl k) :: st') :: fr, t, p.2)))
        | none => none)) else none
    | none => none
  | _ => none
noncomputable def zx_iast : Option (List zS) := match st with
  | .inl v :: .inl e :: .inr (.inl k) :: st' => match zget t k with
    | some c => bif Nat.beq c.1 0 && (zidx en e c.2.1 && (zw W k 0 && zpin en (.inl v) c.2.2.1 e)) then some [((m, pc + 1, l, st') :: fr, zset t k (zsto en c e (.inl v)), en)] else none
    | none => none
  | _ => none
noncomputable def zx_bast : Option (List zS) := match st with
  | .inl v :: .inl e :: .inr (.inl k) :: st' => match zget t k with
    | some c => bif zidx en e c.2.1 && zw W k 0 then (bif Nat.beq c.1 1 then (match c.2.2.1 with
        | .inl (lo, hi) => bif zle lo (-128) && zle 127 hi then some [((m, pc + 1, l, st') :: fr, zset t k (zsto en c e (.inr (.inr (.inr (.inl (-128, 127)))))), en)] else none
        | _ => none)
      else bif Nat.beq c.1 2 && (zin en v 0 1 && zpin en (.inl v) c.2.2.1 e) then some [((m, pc + 1, l, st') :: fr, zset t k (zsto en c e (.inl v)), en)] else none) else none
    | none => none
  | _ => none
noncomputable def zx_last : Option (List zS) := match st with
  | .inr (.inr (.inl v)) :: .inl e :: .inr (.inl k) :: st' => match zget t k with
    | some c => bif Nat.beq c.1 3 && (zidx en e c.2.1 && (zw W k 0 && zpin en (.inr (.inr (.inl v))) c.2.2.1 e)) then some [((m, pc + 1, l, st') :: fr, zset t k (zsto en c e (.inr (.inr (.inl v)))), en)] else none
    | none => none
  | _ => none
noncomputable def zx_alen : Option (List zS) := match st with
  | .inr (.inl k) :: st' => bif Nat.beq k 0 then (bif Ls then some [((m, pc + 1, l, .inl (zX 0) :: st') :: fr, t, en)] else none) else bif Nat.beq k 3 || Nat.beq k 4 then some [((m, pc + 1, l, .inl (zK (mi_byt.getD (k - 3) []).length) :: st') :: fr, t, en)] else (match zget t k with
    | some c => bif Nat.blt c.1 5 && Nat.ble c.2.1 10000 then some [((m, pc + 1, l, .inl (zK c.2.1) :: st') :: fr, t, en)] else none
    | none => none)
  | _ => none
noncomputable def zx_obj : Option (List zS) := match st with
  | .inr (.inl _) :: st' => bif Nat.ble (zcats st') 8 then some [((m, pc + 1, l, st') :: fr, t, en)] else none
  | _ => none
/-- what doesn't depend on the place -/
def zfree (p : zP) : Bool := match p with
  | .inl _ => true
  | .inr 1 => true
  | _ => false
/-- System.arraycopy between rows of ints: whole rows of one length, or parts, where all places of the one are as the other's may be -/
noncomputable def zx_copy : Option (List zS) := match st with
  | .inl x :: .inl dp :: .inr (.inl k1) :: .inl sp :: .inr (.inl k0) :: st' => match zget t k0, zget t k1 with
    | some c0, some c1 => bif Nat.beq c0.1 0 && (Nat.beq c1.1 0 && (znon en x && (znon en dp && (znon en sp && (zpr en.1 en.2.1 1 (zac (zadd sp x) (Int.neg c0.2.1)) && (zpr en.1 en.2.1 1 (zac (zadd dp x) (Int.neg c1.2.1)) && (Nat.ble (zcats st') 8 && (zw W k1 0 && (zpin en (zpat c0.2.2.1) c1.2.2.1 (zK 0) && (zfree c0.2.2.1 && zfree c1.2.2.1)))))))))) then
        (bif zeqL (znrm en.1 x) (zK c0.2.1) && (Nat.beq c0.2.1 c1.2.1 && (zeqL (znrm en.1 sp) (zK 0) && zeqL (znrm en.1 dp) (zK 0))) then some [((m, pc + 1, l, st') :: fr, zset t k1 (c1.1, c1.2.1, c1.2.2.1, c0.2.2.2), en)] else some [((m, pc + 1, l, st') :: fr, zset t k1 (c1.1, c1.2.1, c1.2.2.1, []), en)]) else none
    | _, _ => none
  | _ => none
noncomputable def zx_mm (g : zN → zL → zL → zL × zN) : Option (List zS) := match st with
  | .inl b :: .inl a :: st' => bif Nat.ble (zcats st') 8 then some [((m, pc + 1, l, .inl (g en a b).1 :: st') :: fr, t, (g en a b).2)] else none
  | _ => none
noncomputable def zx_call (y : Nat) : Option (List zS) := bif Nat.ble (P.get y).2.1 st.length && (Nat.ble (zcats (st.drop (P.get y).2.1)) 8 && (Nat.ble (zcats (st.take (P.get y).2.1)) (P.get y).2.2.2.2.1 && (zrcv (P.get y).2.2.2.1 (st.take (P.get y).2.1).reverse t && Nat.blt fr.length D)))
    then (match cal (D - fr.length - 1) y (st.take (P.get y).2.1).reverse t en with
      | some q => some (q.map (fun p => ((m, pc + 1, l, p.1.toList ++ st.drop (P.get y).2.1) :: fr, p.2.1, p.2.2)))
      | none => some [((y, 0, zent 0 (st.take (P.get y).2.1).reverse, []) :: (m, pc + 1, l, st.drop (P.get y).2.1) :: fr, t, en)]) else none
noncomputable def zx_ret (k : Nat) : Option (List zS) := match fr with
  | (m1, pc1, l1, st1) :: fr' => (match k, st with
    | 0, [] => some [((m1, pc1, l1, st1) :: fr', t, en)]
    | 1, [v] => bif zretz (P.get m).2.2.1 en v then some [((m1, pc1, l1, v :: st1) :: fr', t, en)] else none
    | 2, [.inr (.inr (.inl e))] => some [((m1, pc1, l1, .inr (.inr (.inl e)) :: st1) :: fr', t, en)]
    | 3, [.inr (.inl r)] => some [((m1, pc1, l1, .inr (.inl r) :: st1) :: fr', t, en)]
    | _, _ => none)
  | [] => none
noncomputable def zx_long (c : Nat) : Option (List zS) := bif Nat.blt c 9223372036854775808 then some [((m, pc + 1, l, .inr (.inr (.inl (zK c))) :: st) :: fr, t, en)] else bif Nat.blt c 18446744073709551616 then some [((m, pc + 1, l, .inr (.inr (.inl (zK (Int.sub c 18446744073709551616)))) :: st) :: fr, t, en)] else none
end ZD
noncomputable def zstep (P : mP) (D : Nat) (W : zW) (Ls : Bool) (nf fk : List (Nat × Nat)) (cal : zCl) (s : zS) : Option (List zS) := match s with
  | ([], _, _) => none
  | ((m, pc, l, st) :: fr, t, en) => match mi_at P m pc with
    | .iconst c => bif zle (-2147483648) c && zle c 2147483647 then zx_push m pc l st fr t en (.inl (zK c)) else none
    | .ldc2_w c => zx_long m pc l st fr t en c
    | .ldc k => bif Nat.beq k 1 || Nat.beq k 2 then zx_push m pc l st fr t en (.inr (.inl k)) else none
    | .getstatic j => bif Nat.beq j 0 then zx_push m pc l st fr t en (.inl (zK 1)) else none
    | .iload i => zx_iload fk m pc l st fr t en i
    | .lload i => zx_lload m pc l st fr t en i
    | .aload i => zx_aload m pc l st fr t en i
    | .istore i => zx_istore m pc l st fr t en i
    | .lstore i => zx_lstore m pc l st fr t en i
    | .astore i => zx_astore m pc l st fr t en i
    | .iinc i c => zx_iinc m pc l st fr t en i c
    | .iand => zx_and m pc l st fr t en
    | .lshl => zx_lshl m pc l st fr t en
    | .i2l => zx_i2l m pc l st fr t en
    | .i2b => zx_nar m pc l st fr t en (-128) 127
    | .i2c => zx_nar m pc l st fr t en 0 65535
    | .lcmp => zx_lcmp m pc l st fr t en
    | .ifCond cd tg => zx_if nf m pc l st fr t en cd tg
    | .if_icmp cd tg => zx_icmp nf m pc l st fr t en cd tg
    | .goto tg => some [((m, tg.toNat, l, st) :: fr, t, en)]
    | .tableswitch d lo hi offs => zx_table m l st fr t en d lo hi offs
    | .dup => zx_dup m pc l st fr t en
    | .dup2 => zx_dup2 m pc l st fr t en
    | .pop => zx_pop m pc l st fr t en 1
    | .pop2 => zx_pop m pc l st fr t en 2
    | .getfield q => bif Nat.beq (q / 128) 13 then zx_txt m pc l st fr t en q else zx_getf fk m pc l st fr t en q
    | .putfield q => zx_putf W m pc l st fr t en q
    | .iaload => zx_ald Ls m pc l st fr t en (fun d => Nat.beq d 0)
    | .baload => zx_bald m pc l st fr t en
    | .laload => zx_ald false m pc l st fr t en (fun d => Nat.beq d 3)
    | .aaload => zx_aald m pc l st fr t en
    | .iastore => zx_iast W m pc l st fr t en
    | .bastore => zx_bast W m pc l st fr t en
    | .lastore => zx_last W m pc l st fr t en
    | .arraylength => zx_alen Ls m pc l st fr t en
    | .invokedynamic k => bif Nat.beq k 0 then zx_obj m pc l st fr t en else bif Nat.beq k 1 then zx_copy W m pc l st fr t en else bif Nat.beq k 5 then zx_mm m pc l st fr t en zmx else bif Nat.beq k 6 then zx_mm m pc l st fr t en zmn else none
    | .invokevirtual y => zx_call P D cal m pc l st fr t en y
    | .return_ => zx_ret P m st fr t en 0
    | .ireturn => zx_ret P m st fr t en 1
    | .lreturn => zx_ret P m st fr t en 2
    | .areturn => zx_ret P m st fr t en 3
    | i => match zx_bin m pc l st fr t en i with
      | some q => some q
      | none => zx_lbin m pc l st fr t en i
