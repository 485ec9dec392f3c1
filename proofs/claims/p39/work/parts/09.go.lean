/-! calls; a whole run of the mini machine is one of the machine -/
/-- what is known of a method: its class, its name, its bytes, its locals, its answer, its kind (0 static, 1 a receiver's, 2 a constructor), its parameters -/
abbrev mD : Type := Nat → String × MethodName × ByteArray × Nat × Option FieldType × Nat × Nat
def mi_okc (own : String) (rp : Nat → Nat) (n hint : Nat) (y : String × MethodName × ByteArray × Nat × Option FieldType × Nat × Nat) (ri : Instr) (len : Nat) : Bool := decide (rp (n + 1) = rp n + 3) && (decide (len = 3) && (match ri with
  | .invokestatic idx => decide (y.2.2.2.2.2.1 = 0) && mi_has_w hint (.methodLink own idx y.2.1)
  | .invokevirtual idx => decide (y.2.2.2.2.2.1 = 1) && mi_has_w hint (.methodLink own idx y.2.1)
  | .invokespecial idx => decide (y.2.2.2.2.2.1 = 2) && (mi_has_w hint (.methodLink own idx y.2.1) || mi_nest.contains (.methodLinkNest own idx y.2.1 "AviaryLock"))
  | _ => false))
def mi_okr (i : Instr) (ret : Option FieldType) (rz : Nat) : Bool := match i with
  | .return_ => decide (ret = none)
  | .ireturn => decide (ret = some .int) || (((decide (ret = some .boolean) || decide (ret = some .byte)) && decide (rz = 1)) || (decide (ret = some .char) && decide (rz = 2)))
  | .lreturn => decide (ret = some .long)
  | .areturn => (match ret with | some (.object _) => true | _ => false)
  | _ => false
noncomputable def mi_okA (P : mP) (MD : mD) (RP : Nat → Nat → Nat) (NM no n hint : Nat) (ri : Instr) (len : Nat) : Bool := match mi_at P no n with
  | .invokevirtual y => decide (0 < y ∧ y < NM) && mi_okc (MD no).1 (RP no) n hint (MD y) ri len
  | .nop => true
  | .return_ => mi_okr .return_ (MD no).2.2.2.2.1 (P.get no).2.2.1 && (decide (ri = .return_) && decide (len = 1))
  | .ireturn => mi_okr .ireturn (MD no).2.2.2.2.1 (P.get no).2.2.1 && (decide (ri = .ireturn) && decide (len = 1))
  | .lreturn => mi_okr .lreturn (MD no).2.2.2.2.1 (P.get no).2.2.1 && (decide (ri = .lreturn) && decide (len = 1))
  | .areturn => mi_okr .areturn (MD no).2.2.2.2.1 (P.get no).2.2.1 && (decide (ri = .areturn) && decide (len = 1))
  | i => mi_ok (MD no).1 (decide ((MD no).2.2.2.2.2.1 = 2)) (MD no).2.2.2.1 (RP no) n hint i ri len
/-- what is known of a method that is called -/
def mi_cal (P : mP) (MD : mD) (y : Nat) : Prop :=
  Cond.code (MD y).2.1 (MD y).2.2.1 (MD y).2.2.2.1 (MD y).2.2.2.2.1 ∈ mi_tb ∧ Cond.initialized (MD y).2.1.cls ∈ mi_tb ∧ ((MD y).2.2.2.2.2.1 = 0 → Cond.static (MD y).2.1 ∈ mi_tb) ∧ ((MD y).2.2.2.2.2.1 ≠ 0 → Cond.instanceMethod (MD y).2.1 ∈ mi_tb) ∧ ((MD y).2.2.2.2.2.1 = 1 → Cond.selects (MD y).2.1.cls (MD y).2.1 (MD y).2.1 ∈ mi_tb) ∧ ((MD y).2.2.2.2.2.1 = 2 → (MD y).2.1.name = "<init>" ∧ (MD y).2.2.2.2.1 = none) ∧
  (parseMethodDescriptor (MD y).2.1.desc).map (fun d => d.parameters.length) = some (MD y).2.2.2.2.2.2 ∧ ((MD y).2.2.2.2.2.1 = 0 → (P.get y).2.1 = (MD y).2.2.2.2.2.2 ∧ (P.get y).2.2.2.1 = 0) ∧ ((MD y).2.2.2.2.2.1 ≠ 0 → (P.get y).2.1 = (MD y).2.2.2.2.2.2 + 1 ∧ ((∃ ci T N, (P.get y).2.2.2.1 = ci + 1 ∧ mcl[ci]? = some ((MD y).2.1.cls, T, N)) ∨ ((P.get y).2.2.2.1 = 14 ∧ (MD y).2.1.cls = "java/lang/String" ∧ (MD y).2.2.2.2.2.1 = 1))) ∧
  (MD y).2.1.cls ≠ "java/lang/invoke/MethodHandle" ∧ (MD y).2.1.cls ≠ "java/lang/invoke/VarHandle" ∧ plainName (MD y).2.1.cls = true ∧ (MD y).2.2.2.1 ≤ 40 ∧ (P.get y).2.2.2.2.1 = (MD y).2.2.2.1 ∧ (MD y).1 = (MD y).2.1.cls ∧ (MD y).2.2.2.2.2.1 < 3
/-- the program is the machine's -/
def mi_good (P : mP) (MD : mD) (RP : Nat → Nat → Nat) (NM : Nat) : Prop := (∀ no, no < NM → RP no 0 = 0) ∧ (∀ no, no < NM → no ≠ 0 → mi_cal P MD no) ∧ ∀ no n, no < NM → n < (P.get no).1 → ∃ (ri : Instr) (len hint : Nat), decode (MD no).2.2.1 (RP no n) = .ok (ri, len) ∧ mi_okA P MD RP NM no n hint ri len = true
/-- which instruction ends a run, and with what -/
def mi_end (P : mP) (no n : Nat) (r : Option Value) : Prop := n < (P.get no).1 ∧ ((mi_at P no n = .return_ ∧ r = none) ∨ (∃ v : Int32, mi_at P no n = .ireturn ∧ r = some (.int v) ∧ mi_retz (P.get no).2.2.1 v = true) ∨ (∃ v : Int64, mi_at P no n = .lreturn ∧ r = some (.long v)) ∨ (∃ v : Nat, mi_at P no n = .areturn ∧ r = some (.ref v)))
theorem mi_mono1 {S : Nat × (Nat → Int32)} {i : Instr} {f f' : mF} {h h' : mH} (hst : mi_step S i f h = some (f', h')) : h.length ≤ h'.length ∧ mi_sz h ≤ mi_sz h' := by
  cases i <;> simp only [mi_step] at hst <;> try (cases hst; done)
  all_goals (try simp only [mi_push, mi_iload, mi_lload, mi_aload, mi_istore, mi_lstore, mi_astore, mi_iinc, mi_ii, mi_ll, mi_lshl, mi_i1, mi_if, mi_icmp, mi_goto, mi_table, mi_dup, mi_dup2, mi_pop, mi_pop2, mi_getf, mi_txt, mi_putf, mi_iald, mi_bald, mi_lald, mi_aald, mi_iast, mi_bast, mi_last, mi_aast, mi_alen, mi_newa, mi_newq, mi_new, mi_obj, mi_copy, mi_mm] at hst)
  all_goals (repeat' split at hst)
  all_goals first
    | (cases hst; done)
    | (cases hst; exact ⟨Nat.le_refl _, Nat.le_refl _⟩)
    | (cases hst; exact ⟨by simp, by rw [mi_sz_app]; omega⟩)
    | (cases hst; exact ⟨Nat.le_of_eq (mi_w_len _ _ _).symm, Nat.le_of_eq (mi_sz_set (mi_c_of (by assumption)).2 (by simp [mi_csz])).symm⟩)
/-- the cases of a run's first step -/
theorem mi_runC {P : mP} {S : Nat × (Nat → Int32)} {n d no : Nat} {f : mF} {h : mH} {r : Option Value} {h' : mH} (hr : mi_run P S (n + 1) d no f h = some (r, h')) :
    (h' = h ∧ mi_end P no f.1 r ∧ f.2.2 = r.toList) ∨
    (∃ y d' as rest r1 h1, f.1 < (P.get no).1 ∧ mi_at P no f.1 = .invokevirtual y ∧ d = d' + 1 ∧ mi_args (P.get y).2.1 f.2.2 = some (as, rest) ∧ (rest.map fun v => v.category).sum ≤ 8 ∧ (as.map fun v => v.category).sum ≤ (P.get y).2.2.2.2.1 ∧ mi_rcv (P.get y).2.2.2.1 as h = true ∧ mi_run P S n d' y (0, mi_ent 0 as, []) h = some (r1, h1) ∧ mi_run P S n (d' + 1) no (f.1 + 1, f.2.1, r1.toList ++ rest) h1 = some (r, h')) ∨
    (∃ f1 h1, f.1 < (P.get no).1 ∧ mi_step S (mi_at P no f.1) f h = some (f1, h1) ∧ (∀ y, mi_at P no f.1 ≠ .invokevirtual y) ∧ mi_at P no f.1 ≠ .return_ ∧ mi_at P no f.1 ≠ .ireturn ∧ mi_at P no f.1 ≠ .lreturn ∧ mi_at P no f.1 ≠ .areturn ∧ mi_run P S n d no f1 h1 = some (r, h')) := by
  have hlt : mi_at P no f.1 ≠ .nop → f.1 < (P.get no).1 := by
    intro hne
    unfold mi_at at hne
    cases hb : Nat.blt f.1 (P.get no).1 with
    | true => exact Nat.blt_eq.mp hb
    | false => rw [hb] at hne; exact absurd rfl hne
  rw [mi_run] at hr
  generalize hi : mi_at P no f.1 = i at hr hlt
  have hend : ∀ q, mi_end P no f.1 q = (f.1 < (P.get no).1 ∧ ((i = .return_ ∧ q = none) ∨ (∃ v : Int32, i = .ireturn ∧ q = some (.int v) ∧ mi_retz (P.get no).2.2.1 v = true) ∨ (∃ v : Int64, i = .lreturn ∧ q = some (.long v)) ∨ (∃ v : Nat, i = .areturn ∧ q = some (.ref v)))) := by
    intro q
    unfold mi_end
    rw [hi]
  split at hr
  · split at hr
    · rename_i he
      cases hr
      exact Or.inl ⟨rfl, by rw [hend]; exact ⟨hlt (by simp), Or.inl ⟨rfl, rfl⟩⟩, he⟩
    · cases hr
  · split at hr
    · rename_i v he
      split at hr
      · rename_i hz
        cases hr
        exact Or.inl ⟨rfl, by rw [hend]; exact ⟨hlt (by simp), Or.inr (Or.inl ⟨v, rfl, rfl, hz⟩)⟩, he⟩
      · cases hr
    · cases hr
  · split at hr
    · rename_i v he
      cases hr
      exact Or.inl ⟨rfl, by rw [hend]; exact ⟨hlt (by simp), Or.inr (Or.inr (Or.inl ⟨v, rfl, rfl⟩))⟩, he⟩
    · cases hr
  · split at hr
    · rename_i v he
      cases hr
      exact Or.inl ⟨rfl, by rw [hend]; exact ⟨hlt (by simp), Or.inr (Or.inr (Or.inr ⟨v, rfl, rfl⟩))⟩, he⟩
    · cases hr
  · rename_i y
    split at hr
    · cases hr
    · rename_i d'
      split at hr
      · rename_i as rest ha
        split at hr
        · rename_i hc
          split at hr
          · rename_i r1 h1 h2
            exact Or.inr (Or.inl ⟨y, d', as, rest, r1, h1, hlt (by simp), rfl, rfl, ha, hc.1, hc.2.1, hc.2.2, h2, hr⟩)
          · cases hr
        · cases hr
      · cases hr
  · rename_i n1 n2 n3 n4 n5
    split at hr
    · rename_i f1 h1 h2
      exact Or.inr (Or.inr ⟨f1, h1, hlt (fun q => by rw [q] at h2; cases h2), h2, n5, n1, n2, n3, n4, hr⟩)
    · cases hr
theorem mi_monoR {P : mP} {S : Nat × (Nat → Int32)} : ∀ (n d no : Nat) (f : mF) (h : mH) (r : Option Value) (h' : mH), mi_run P S n d no f h = some (r, h') → h.length ≤ h'.length ∧ mi_sz h ≤ mi_sz h' := by
  intro n
  induction n with
  | zero => intro d no f h r h' hr; rw [mi_run] at hr; cases hr
  | succ n ih =>
    intro d no f h r h' hr
    rcases mi_runC hr with ⟨rfl, -, -⟩ | ⟨y, d', as, rest, r1, h1, -, -, -, -, -, -, -, e1, e2⟩ | ⟨f1, h1, -, e1, -, -, -, -, -, e2⟩
    · exact ⟨Nat.le_refl _, Nat.le_refl _⟩
    · have a := ih _ _ _ _ _ _ e1
      have b := ih _ _ _ _ _ _ e2
      omega
    · have a := mi_mono1 e1
      have b := ih _ _ _ _ _ _ e2
      omega
