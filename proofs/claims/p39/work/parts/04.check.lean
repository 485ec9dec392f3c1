/-! what is checked by program of each instruction: i, the mini machine's; ri, the machine's own, of len bytes; rp, where an instruction lies; hint, where its word stands in lw_tbl -/
def mi_has_w (hint : Nat) (w : Cond) : Bool := decide (lw_tbl[hint]? = some w) && goodWord w
def mi_fl (own : String) (idx q hint : Nat) : Bool := match mcl[q / 128]? with
  | some (_, T, N) => decide (q % 128 < N) && mi_has_w hint (.fieldLink own idx (T (q % 128)).1 (T (q % 128)).2.1 (T (q % 128)).2.2.1)
  | none => false
/-- a text's field -/
def mi_fls (own : String) (idx q hint : Nat) : Bool := (decide (q = 1664) && mi_has_w hint (.fieldLink own idx "java/lang/String" "value" "[B")) || (decide (q = 1665) && mi_has_w hint (.fieldLink own idx "java/lang/String" "coder" "B"))
def mi_fin (own : String) (ini : Bool) (q : Nat) : Bool := match mcl[q / 128]? with
  | some (_, T, _) => !(T (q % 128)).2.2.2 || (ini && decide ((T (q % 128)).1 = own))
  | none => false
def mi_tgt (rp : Nat → Nat) (n : Nat) (off t : Int) : Bool := decide ((rp n : Int) + off = (rp t.toNat : Int))
def mi_ok (own : String) (ini : Bool) (nL : Nat) (rp : Nat → Nat) (n hint : Nat) (i ri : Instr) (len : Nat) : Bool := match i with
  | .iconst c => decide (rp (n + 1) = rp n + len) && (match ri with
    | .iconst a => decide (Int32.ofInt a = Int32.ofInt c) && decide (len = 1)
    | .bipush a => decide ((Int8.ofInt a).toInt32 = Int32.ofInt c) && decide (len = 2)
    | .sipush a => decide ((Int16.ofInt a).toInt32 = Int32.ofInt c) && decide (len = 3)
    | .ldc a => mi_has_w hint (.constant own a (Int32.ofInt c)) && decide (len = 2)
    | .ldc_w a => mi_has_w hint (.constant own a (Int32.ofInt c)) && decide (len = 3)
    | _ => false)
  | .ldc2_w c => decide (rp (n + 1) = rp n + len) && (match ri with
    | .lconst a => decide (Int64.ofNat a = Int64.ofNat c) && decide (len = 1)
    | .ldc2_w a => mi_has_w hint (.constantLong own a (Int64.ofNat c)) && decide (len = 3)
    | _ => false)
  | .iload k => decide (rp (n + 1) = rp n + len) && (match ri with
    | .iload_n a => decide (a.val = k) && decide (len = 1)
    | .iload a => decide (a = k) && decide (len = 2)
    | _ => false)
  | .lload k => decide (rp (n + 1) = rp n + len) && (match ri with
    | .lload_n a => decide (a.val = k) && decide (len = 1)
    | .lload a => decide (a = k) && decide (len = 2)
    | _ => false)
  | .aload k => decide (rp (n + 1) = rp n + len) && (match ri with
    | .aload_n a => decide (a.val = k) && decide (len = 1)
    | .aload a => decide (a = k) && decide (len = 2)
    | _ => false)
  | .istore k => decide (rp (n + 1) = rp n + len) && (decide (k < nL) && (match ri with
    | .istore_n a => decide (a.val = k) && decide (len = 1)
    | .istore a => decide (a = k) && decide (len = 2)
    | _ => false))
  | .lstore k => decide (rp (n + 1) = rp n + len) && (decide (k + 1 < nL) && (match ri with
    | .lstore_n a => decide (a.val = k) && decide (len = 1)
    | .lstore a => decide (a = k) && decide (len = 2)
    | _ => false))
  | .astore k => decide (rp (n + 1) = rp n + len) && (decide (k < nL) && (match ri with
    | .astore_n a => decide (a.val = k) && decide (len = 1)
    | .astore a => decide (a = k) && decide (len = 2)
    | _ => false))
  | .iinc k a => decide (rp (n + 1) = rp n + len) && (decide (k < nL) && (decide (ri = .iinc k a) && decide (len = 3)))
  | .ifCond cd t => decide (rp (n + 1) = rp n + len) && (match ri with
    | .ifCond cd' off => decide (cd' = cd) && (mi_tgt rp n off t && decide (len = 3))
    | _ => false)
  | .if_icmp cd t => decide (rp (n + 1) = rp n + len) && (match ri with
    | .if_icmp cd' off => decide (cd' = cd) && (mi_tgt rp n off t && decide (len = 3))
    | _ => false)
  | .goto t => match ri with
    | .goto off => mi_tgt rp n off t && decide (len = 3)
    | _ => false
  | .tableswitch d lo hi offs => match ri with
    | .tableswitch d' lo' hi' offs' => mi_tgt rp n d' d && (decide (lo' = lo) && (decide (hi' = hi) && (decide (offs'.size = offs.size) && (List.range offs.size).all (fun k => mi_tgt rp n (offs'.getD k 0) (offs.getD k 0)))))
    | _ => false
  | .getfield q => decide (rp (n + 1) = rp n + len) && (match ri with
    | .getfield idx => (mi_fl own idx q hint || mi_fls own idx q hint) && decide (len = 3)
    | _ => false)
  | .ldc k => decide (rp (n + 1) = rp n + len) && (match ri with
    | .ldc idx => (match mi_strs[k - 1]? with
      | some q => decide (q.1 = own) && (decide (q.2.1 = idx) && decide (len = 2))
      | none => false)
    | _ => false)
  | .getstatic j => decide (rp (n + 1) = rp n + len) && (match ri with
    | .getstatic idx => (if j = 0 then mi_has_w hint (.fieldLink own idx "java/lang/String" "COMPACT_STRINGS" "Z") else mi_has_w hint (.fieldLink own idx "jdk/internal/util/Preconditions" "SIOOBE_FORMATTER" "Ljava/util/function/BiFunction;")) && decide (len = 3)
    | _ => false)
  | .putfield q => decide (rp (n + 1) = rp n + len) && (match ri with
    | .putfield idx => mi_fl own idx q hint && (mi_fin own ini q && decide (len = 3))
    | _ => false)
  | .newarray t => decide (rp (n + 1) = rp n + len) && (decide (ri = .newarray t) && (mi_has_w hint (.arrayClass (newarray.typeOf t)) && decide (len = 2)))
  | .anewarray _ => decide (rp (n + 1) = rp n + len) && (match ri with
    | .anewarray idx => mi_has_w hint (.classLink own idx "AviaryLock$Now") && decide (len = 3)
    | _ => false)
  | .new ci => decide (rp (n + 1) = rp n + len) && (match ri with
    | .new idx => (match mcl[ci]? with
      | some (C, _, _) => mi_has_w hint (.classLink own idx C) && decide (len = 3)
      | none => false)
    | _ => false)
  | .invokedynamic k => decide (rp (n + 1) = rp n + len) && (match ri with
    | .invokespecial idx => decide (k = 0) && (mi_has_w hint (.methodLink own idx Lib.objectInit) && decide (len = 3))
    | .invokestatic idx => decide (len = 3) && (if k = 1 then mi_has_w hint (.methodLink own idx arraycopyName) else if k = 5 then mi_has_w hint (.methodLink own idx Lib.Math.max.name) else if k = 6 then mi_has_w hint (.methodLink own idx Lib.Math.min.name) else false)
    | _ => false)
  | i => decide (rp (n + 1) = rp n + len) && (decide (ri = i) && decide (len = 1))
/-- an instruction that is no jump: the next lies behind it -/
theorem mi_ok_bin {own : String} {ini : Bool} {nL : Nat} {rp : Nat → Nat} {n hint len : Nat} {i ri : Instr} (h : (decide (rp (n + 1) = rp n + len) && (decide (ri = i) && decide (len = 1))) = true) : rp (n + 1) = rp n + 1 ∧ ri = i ∧ len = 1 := by
  simp only [Bool.and_eq_true, decide_eq_true_eq] at h
  obtain ⟨h1, h2, h3⟩ := h
  subst h3
  exact ⟨h1, h2, rfl⟩
