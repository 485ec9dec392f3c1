/-! one instruction of the mini machine is one of the machine -/
def mi_X (cc : ByteArray) (own : String) (ini : Bool) (nL : Nat) (p : Program) (s : State) (m : MethodId) (args : Array Value) (meth : Method) (c : Code) : Prop :=
  p.tables.exec = Jvm.exec ∧ c.code = cc ∧ c.maxLocals = nL ∧ s.vm.findClass own = some m.cls ∧ (∀ w ∈ mi_tb, w.before args s = true) ∧ (ini = true → meth.name = "<init>")
/-- from this frame of the mini machine over these cells the machine comes to Q -/
def mi_V (p : Program) (l : Launch) (e : Env) (R : Room) (s : State) (m : MethodId) (args : Array Value) (below : List Frame) (meth : Method) (c : Code) (Q : State → Prop) (av : Nat → Nat) (z : Nat) (S : Nat × (Nat → Int32)) (cA dC : Nat → ClassId) (dI : Nat → Nat → Nat) (nL : Nat) (rp : Nat → Nat) (h : mH) (f : mF) (cells slots : Nat) : Prop :=
  ∀ (ls : Array Slot) (H : Heap) (locs : List Loc), s.heap.size + cells = z + h.length → mi_R av z S cA dC dI h s H → va_S (fun q => z ≤ q) s.heap H locs → lv_has ls nL (mi_ul (mi_ad av z) f.2.1) → W p l e R s m args below meth c H locs cells slots Q (F0 m (rp f.1) ls (f.2.2.map (mi_up (mi_ad av z))))
section MIW
variable {p : Program} {l : Launch} {e : Env} {R : Room} {s : State} {m : MethodId} {args : Array Value} {below : List Frame} {meth : Method} {c : Code} {cells slots : Nat} {Q : State → Prop}
variable {av : Nat → Nat} {z : Nat} {S : Nat × (Nat → Int32)} {cA dC : Nat → ClassId} {dI : Nat → Nat → Nat}
variable {cc : ByteArray} {own : String} {ini : Bool} {nL : Nat} {rp : Nat → Nat} {hint len : Nat} {ri : Instr} {h h' : mH} {f f' : mF}
theorem mi_q_ii {g : Int32 → Int32 → Option Int32} (hst : mi_ii g f h = some (f', h')) (hn : rp (f.1 + 1) = rp f.1 + 1)
    (row : ∀ (H : Heap) (locs : List Loc) (ls : Array Slot) (rest : List Value) (x y r : Int32), g x y = some r → W p l e R s m args below meth c H locs cells slots Q (F0 m (rp f.1 + 1) ls (.int r :: rest)) → W p l e R s m args below meth c H locs cells slots Q (F0 m (rp f.1) ls (.int y :: .int x :: rest)))
    (k : mi_V p l e R s m args below meth c Q av z S cA dC dI nL rp h' f' cells slots) : mi_V p l e R s m args below meth c Q av z S cA dC dI nL rp h f cells slots := by
  intro ls H locs hz hR hS hl
  obtain ⟨pc, l0, st⟩ := f
  unfold mi_ii at hst
  split at hst
  · rename_i y x st' he
    simp only at he hn row
    subst he
    split at hst
    · rename_i r hr
      cases hst
      refine row H locs ls _ x y r hr ?_
      have := k ls H locs hz hR hS hl
      rw [hn] at this
      exact this
    · cases hst
  · cases hst
theorem mi_q_ll {g : Int64 → Int64 → Option Value} (hst : mi_ll g f h = some (f', h')) (hn : rp (f.1 + 1) = rp f.1 + 1) (hup : ∀ x y r, g x y = some r → ∀ ad, mi_up ad r = r)
    (row : ∀ (H : Heap) (locs : List Loc) (ls : Array Slot) (rest : List Value) (x y : Int64) (r : Value), g x y = some r → W p l e R s m args below meth c H locs cells slots Q (F0 m (rp f.1 + 1) ls (r :: rest)) → W p l e R s m args below meth c H locs cells slots Q (F0 m (rp f.1) ls (.long y :: .long x :: rest)))
    (k : mi_V p l e R s m args below meth c Q av z S cA dC dI nL rp h' f' cells slots) : mi_V p l e R s m args below meth c Q av z S cA dC dI nL rp h f cells slots := by
  intro ls H locs hz hR hS hl
  obtain ⟨pc, l0, st⟩ := f
  unfold mi_ll at hst
  split at hst
  · rename_i y x st' he
    simp only at he hn row
    subst he
    split at hst
    · rename_i r hr
      cases hst
      refine row H locs ls _ x y r hr ?_
      have := k ls H locs hz hR hS hl
      rw [hn] at this
      simp only [List.map_cons, hup x y r hr] at this
      exact this
    · cases hst
  · cases hst
theorem mi_q_i1 {g : Int32 → Value} (hst : mi_i1 g f h = some (f', h')) (hn : rp (f.1 + 1) = rp f.1 + 1) (hup : ∀ x ad, mi_up ad (g x) = g x)
    (row : ∀ (H : Heap) (locs : List Loc) (ls : Array Slot) (rest : List Value) (x : Int32), W p l e R s m args below meth c H locs cells slots Q (F0 m (rp f.1 + 1) ls (g x :: rest)) → W p l e R s m args below meth c H locs cells slots Q (F0 m (rp f.1) ls (.int x :: rest)))
    (k : mi_V p l e R s m args below meth c Q av z S cA dC dI nL rp h' f' cells slots) : mi_V p l e R s m args below meth c Q av z S cA dC dI nL rp h f cells slots := by
  intro ls H locs hz hR hS hl
  obtain ⟨pc, l0, st⟩ := f
  unfold mi_i1 at hst
  split at hst
  · rename_i x st' he
    simp only at he hn row
    subst he
    cases hst
    refine row H locs ls _ x ?_
    have := k ls H locs hz hR hS hl
    rw [hn] at this
    simp only [List.map_cons, hup] at this
    exact this
  · cases hst
theorem mi_q_push {v : Value} {len : Nat} (hst : mi_push v f h = some (f', h')) (hn : rp (f.1 + 1) = rp f.1 + len) (hup : ∀ ad, mi_up ad v = v)
    (row : ∀ (H : Heap) (locs : List Loc) (ls : Array Slot) (rest : List Value), W p l e R s m args below meth c H locs cells slots Q (F0 m (rp f.1 + len) ls (v :: rest)) → W p l e R s m args below meth c H locs cells slots Q (F0 m (rp f.1) ls rest))
    (k : mi_V p l e R s m args below meth c Q av z S cA dC dI nL rp h' f' cells slots) : mi_V p l e R s m args below meth c Q av z S cA dC dI nL rp h f cells slots := by
  intro ls H locs hz hR hS hl
  cases hst
  refine row H locs ls _ ?_
  have := k ls H locs hz hR hS hl
  simp only [hn, List.map_cons, hup] at this
  exact this
theorem mi_q_iload {i len : Nat} (hst : mi_iload i f h = some (f', h')) (hn : rp (f.1 + 1) = rp f.1 + len)
    (row : ∀ (H : Heap) (locs : List Loc) (ls : Array Slot) (rest : List Value) (x : Int32), ls[i]? = some (.val (.int x)) → W p l e R s m args below meth c H locs cells slots Q (F0 m (rp f.1 + len) ls (.int x :: rest)) → W p l e R s m args below meth c H locs cells slots Q (F0 m (rp f.1) ls rest))
    (k : mi_V p l e R s m args below meth c Q av z S cA dC dI nL rp h' f' cells slots) : mi_V p l e R s m args below meth c Q av z S cA dC dI nL rp h f cells slots := by
  intro ls H locs hz hR hS hl
  unfold mi_iload at hst
  split at hst
  · rename_i x he
    cases hst
    refine row H locs ls _ x (mi_has hl he) ?_
    have := k ls H locs hz hR hS hl
    simp only [hn] at this
    exact this
  · cases hst
theorem mi_q_lload {i len : Nat} (hst : mi_lload i f h = some (f', h')) (hn : rp (f.1 + 1) = rp f.1 + len)
    (row : ∀ (H : Heap) (locs : List Loc) (ls : Array Slot) (rest : List Value) (x : Int64), ls[i]? = some (.val (.long x)) → W p l e R s m args below meth c H locs cells slots Q (F0 m (rp f.1 + len) ls (.long x :: rest)) → W p l e R s m args below meth c H locs cells slots Q (F0 m (rp f.1) ls rest))
    (k : mi_V p l e R s m args below meth c Q av z S cA dC dI nL rp h' f' cells slots) : mi_V p l e R s m args below meth c Q av z S cA dC dI nL rp h f cells slots := by
  intro ls H locs hz hR hS hl
  unfold mi_lload at hst
  split at hst
  · rename_i x he
    cases hst
    refine row H locs ls _ x (mi_has hl he) ?_
    have := k ls H locs hz hR hS hl
    simp only [hn] at this
    exact this
  · cases hst
theorem mi_q_aload {i len : Nat} (hst : mi_aload i f h = some (f', h')) (hn : rp (f.1 + 1) = rp f.1 + len)
    (row : ∀ (H : Heap) (locs : List Loc) (ls : Array Slot) (rest : List Value) (x : Nat), ls[i]? = some (.val (.ref x)) → W p l e R s m args below meth c H locs cells slots Q (F0 m (rp f.1 + len) ls (.ref x :: rest)) → W p l e R s m args below meth c H locs cells slots Q (F0 m (rp f.1) ls rest))
    (k : mi_V p l e R s m args below meth c Q av z S cA dC dI nL rp h' f' cells slots) : mi_V p l e R s m args below meth c Q av z S cA dC dI nL rp h f cells slots := by
  intro ls H locs hz hR hS hl
  unfold mi_aload at hst
  split at hst
  · rename_i x he
    cases hst
    refine row H locs ls _ (mi_ad av z x) (mi_has hl he) ?_
    have := k ls H locs hz hR hS hl
    simp only [hn] at this
    exact this
  · cases hst
theorem mi_q_istore {i len : Nat} (hst : mi_istore i f h = some (f', h')) (hn : rp (f.1 + 1) = rp f.1 + len)
    (row : ∀ (H : Heap) (locs : List Loc) (ls : Array Slot) (rest : List Value) (x : Int32) (lv lv' : List (Nat × Value)), lv_has ls nL lv → (i, Value.int x) :: lv.filter (fun q => !(q.1 == i) && !(q.1 + 1 == i && q.2.category == 2)) = lv' → (∀ ls' : Array Slot, lv_has ls' nL lv' → W p l e R s m args below meth c H locs cells slots Q (F0 m (rp f.1 + len) ls' rest)) → W p l e R s m args below meth c H locs cells slots Q (F0 m (rp f.1) ls (.int x :: rest)))
    (k : mi_V p l e R s m args below meth c Q av z S cA dC dI nL rp h' f' cells slots) : mi_V p l e R s m args below meth c Q av z S cA dC dI nL rp h f cells slots := by
  intro ls H locs hz hR hS hl
  obtain ⟨pc, l0, st⟩ := f
  unfold mi_istore at hst
  split at hst
  · rename_i x st' he
    simp only at he hn row hl
    subst he
    cases hst
    refine row H locs ls _ x _ _ hl (mi_ul_s1 (mi_ad av z) l0 i (.int x)) fun ls' hl' => ?_
    have := k ls' H locs hz hR hS hl'
    simp only [hn] at this
    exact this
  · cases hst
theorem mi_q_lstore {i len : Nat} (hst : mi_lstore i f h = some (f', h')) (hn : rp (f.1 + 1) = rp f.1 + len)
    (row : ∀ (H : Heap) (locs : List Loc) (ls : Array Slot) (rest : List Value) (x : Int64) (lv lv' : List (Nat × Value)), lv_has ls nL lv → (i, Value.long x) :: lv.filter (fun q => !(q.1 == i) && (!(q.1 == i + 1) && !(q.1 + 1 == i && q.2.category == 2))) = lv' → (∀ ls' : Array Slot, lv_has ls' nL lv' → W p l e R s m args below meth c H locs cells slots Q (F0 m (rp f.1 + len) ls' rest)) → W p l e R s m args below meth c H locs cells slots Q (F0 m (rp f.1) ls (.long x :: rest)))
    (k : mi_V p l e R s m args below meth c Q av z S cA dC dI nL rp h' f' cells slots) : mi_V p l e R s m args below meth c Q av z S cA dC dI nL rp h f cells slots := by
  intro ls H locs hz hR hS hl
  obtain ⟨pc, l0, st⟩ := f
  unfold mi_lstore at hst
  split at hst
  · rename_i x st' he
    simp only at he hn row hl
    subst he
    cases hst
    refine row H locs ls _ x _ _ hl (mi_ul_s2 (mi_ad av z) l0 i (.long x)) fun ls' hl' => ?_
    have := k ls' H locs hz hR hS hl'
    simp only [hn] at this
    exact this
  · cases hst
theorem mi_q_astore {i len : Nat} (hst : mi_astore i f h = some (f', h')) (hn : rp (f.1 + 1) = rp f.1 + len)
    (row : ∀ (H : Heap) (locs : List Loc) (ls : Array Slot) (rest : List Value) (x : Nat) (lv lv' : List (Nat × Value)), lv_has ls nL lv → (i, Value.ref x) :: lv.filter (fun q => !(q.1 == i) && !(q.1 + 1 == i && q.2.category == 2)) = lv' → (∀ ls' : Array Slot, lv_has ls' nL lv' → W p l e R s m args below meth c H locs cells slots Q (F0 m (rp f.1 + len) ls' rest)) → W p l e R s m args below meth c H locs cells slots Q (F0 m (rp f.1) ls (.ref x :: rest)))
    (k : mi_V p l e R s m args below meth c Q av z S cA dC dI nL rp h' f' cells slots) : mi_V p l e R s m args below meth c Q av z S cA dC dI nL rp h f cells slots := by
  intro ls H locs hz hR hS hl
  obtain ⟨pc, l0, st⟩ := f
  unfold mi_astore at hst
  split at hst
  · rename_i x st' he
    simp only at he hn row hl
    subst he
    cases hst
    refine row H locs ls _ (mi_ad av z x) _ _ hl (mi_ul_s1 (mi_ad av z) l0 i (.ref x)) fun ls' hl' => ?_
    have := k ls' H locs hz hR hS hl'
    simp only [hn] at this
    exact this
  · cases hst
theorem mi_q_iinc {i : Nat} {a : Int} (hx : p.tables.exec = Jvm.exec) (hb : c.code = cc) (hst : mi_iinc i a f h = some (f', h')) (hn : rp (f.1 + 1) = rp f.1 + 3) (hi : i < nL) (hdg : decode cc (rp f.1) = .ok (.iinc i a, 3))
    (k : mi_V p l e R s m args below meth c Q av z S cA dC dI nL rp h' f' cells slots) : mi_V p l e R s m args below meth c Q av z S cA dC dI nL rp h f cells slots := by
  intro ls H locs hz hR hS hl
  unfold mi_iinc at hst
  split at hst
  · rename_i x he
    cases hst
    obtain ⟨j, hj⟩ := List.getElem?_of_mem (mi_ul_mem (ad := mi_ad av z) (mi_lg_mem he))
    refine lv_iinc hx hb hdg hl (k := j) hj rfl hi (mi_ul_s1 (mi_ad av z) f.2.1 i (.int (x + Int32.ofInt a))) fun ls' hl' => ?_
    have := k ls' H locs hz hR hS hl'
    simp only [hn] at this
    exact this
  · cases hst
theorem mi_q_if {cd : Jvm.ClassFile.Cond} {off t : Int} (hx : p.tables.exec = Jvm.exec) (hb : c.code = cc) (hst : mi_if cd t f h = some (f', h')) (hn : rp (f.1 + 1) = rp f.1 + 3) (ht : ((rp f.1 : Nat) : Int) + off = ((rp t.toNat : Nat) : Int)) (hdg : decode cc (rp f.1) = .ok (.ifCond cd off, 3))
    (k : mi_V p l e R s m args below meth c Q av z S cA dC dI nL rp h' f' cells slots) : mi_V p l e R s m args below meth c Q av z S cA dC dI nL rp h f cells slots := by
  intro ls H locs hz hR hS hl
  obtain ⟨pc, l0, st⟩ := f
  unfold mi_if at hst
  split at hst
  · rename_i x st' he
    simp only at he hn hl hdg ht hst
    subst he
    obtain ⟨pc', l', s'⟩ := f'
    simp only [Option.some.injEq, Prod.mk.injEq] at hst
    obtain ⟨⟨h1, h2, h3⟩, h4⟩ := hst
    subst h2; subst h3; subst h4
    have kt : mi_cond cd x 0 = true → W p l e R s m args below meth c H locs cells slots Q (F0 m (rp t.toNat) ls (st'.map (mi_up (mi_ad av z)))) := fun hc => by
      have := k ls H locs hz hR hS hl
      rw [if_pos hc] at h1
      rw [← h1] at this
      exact this
    have kf : ¬ mi_cond cd x 0 = true → W p l e R s m args below meth c H locs cells slots Q (F0 m (rp pc + 3) ls (st'.map (mi_up (mi_ad av z)))) := fun hc => by
      have := k ls H locs hz hR hS hl
      rw [if_neg hc] at h1
      rw [← h1] at this
      simp only [hn] at this
      exact this
    simp only [List.map_cons, mi_up]
    cases cd
    · exact lv_if_eq hx hb hdg ht (fun q => kt (by simpa [mi_cond] using q)) (fun q => kf (by simpa [mi_cond] using q))
    · exact lv_if_ne hx hb hdg ht (fun q => kt (by simpa [mi_cond] using q)) (fun q => kf (by simpa [mi_cond] using q))
    · exact lv_if_lt hx hb hdg ht (fun q => kt (decide_eq_true q)) (fun q => kf (fun w => q (of_decide_eq_true w)))
    · exact lv_if_ge hx hb hdg ht (fun q => kt (decide_eq_true q)) (fun q => kf (fun w => q (of_decide_eq_true w)))
    · exact lv_if_gt hx hb hdg ht (fun q => kt (decide_eq_true q)) (fun q => kf (fun w => q (of_decide_eq_true w)))
    · exact lv_if_le hx hb hdg ht (fun q => kt (decide_eq_true q)) (fun q => kf (fun w => q (of_decide_eq_true w)))
  · cases hst
theorem mi_q_icmp {cd : Jvm.ClassFile.Cond} {off t : Int} (hx : p.tables.exec = Jvm.exec) (hb : c.code = cc) (hst : mi_icmp cd t f h = some (f', h')) (hn : rp (f.1 + 1) = rp f.1 + 3) (ht : ((rp f.1 : Nat) : Int) + off = ((rp t.toNat : Nat) : Int)) (hdg : decode cc (rp f.1) = .ok (.if_icmp cd off, 3))
    (k : mi_V p l e R s m args below meth c Q av z S cA dC dI nL rp h' f' cells slots) : mi_V p l e R s m args below meth c Q av z S cA dC dI nL rp h f cells slots := by
  intro ls H locs hz hR hS hl
  obtain ⟨pc, l0, st⟩ := f
  unfold mi_icmp at hst
  split at hst
  · rename_i y x st' he
    simp only at he hn hl hdg ht hst
    subst he
    obtain ⟨pc', l', s'⟩ := f'
    simp only [Option.some.injEq, Prod.mk.injEq] at hst
    obtain ⟨⟨h1, h2, h3⟩, h4⟩ := hst
    subst h2; subst h3; subst h4
    have kt : mi_cond cd x y = true → W p l e R s m args below meth c H locs cells slots Q (F0 m (rp t.toNat) ls (st'.map (mi_up (mi_ad av z)))) := fun hc => by
      have := k ls H locs hz hR hS hl
      rw [if_pos hc] at h1
      rw [← h1] at this
      exact this
    have kf : ¬ mi_cond cd x y = true → W p l e R s m args below meth c H locs cells slots Q (F0 m (rp pc + 3) ls (st'.map (mi_up (mi_ad av z)))) := fun hc => by
      have := k ls H locs hz hR hS hl
      rw [if_neg hc] at h1
      rw [← h1] at this
      simp only [hn] at this
      exact this
    simp only [List.map_cons, mi_up]
    cases cd
    · exact lv_icmp_eq hx hb hdg ht (fun q => kt (decide_eq_true q)) (fun q => kf (fun w => q (of_decide_eq_true w)))
    · exact lv_icmp_ne hx hb hdg ht (fun q => kt (decide_eq_true q)) (fun q => kf (fun w => (of_decide_eq_true w) q))
    · exact lv_icmp_lt hx hb hdg ht (fun q => kt (decide_eq_true q)) (fun q => kf (fun w => q (of_decide_eq_true w)))
    · exact lv_icmp_ge hx hb hdg ht (fun q => kt (decide_eq_true q)) (fun q => kf (fun w => q (of_decide_eq_true w)))
    · exact lv_icmp_gt hx hb hdg ht (fun q => kt (decide_eq_true q)) (fun q => kf (fun w => q (of_decide_eq_true w)))
    · exact lv_icmp_le hx hb hdg ht (fun q => kt (decide_eq_true q)) (fun q => kf (fun w => q (of_decide_eq_true w)))
  · cases hst
theorem mi_q_goto {off t : Int} (hx : p.tables.exec = Jvm.exec) (hb : c.code = cc) (hst : mi_goto t f h = some (f', h')) (ht : ((rp f.1 : Nat) : Int) + off = ((rp t.toNat : Nat) : Int)) (hdg : decode cc (rp f.1) = .ok (.goto off, 3))
    (k : mi_V p l e R s m args below meth c Q av z S cA dC dI nL rp h' f' cells slots) : mi_V p l e R s m args below meth c Q av z S cA dC dI nL rp h f cells slots := by
  intro ls H locs hz hR hS hl
  cases hst
  exact lv_goto hx hb hdg ht (k ls H locs hz hR hS hl)
theorem mi_q_table {d lo hi d' : Int} {offs offs' : Array Int} (hx : p.tables.exec = Jvm.exec) (hb : c.code = cc) (hst : mi_table d lo hi offs f h = some (f', h')) (ht : mi_tgt rp f.1 d' d = true) (hsz : offs'.size = offs.size) (hall : (List.range offs.size).all (fun k => mi_tgt rp f.1 (offs'.getD k 0) (offs.getD k 0)) = true) (hdg : decode cc (rp f.1) = .ok (.tableswitch d' lo hi offs', len))
    (k : mi_V p l e R s m args below meth c Q av z S cA dC dI nL rp h' f' cells slots) : mi_V p l e R s m args below meth c Q av z S cA dC dI nL rp h f cells slots := by
  intro ls H locs hz hR hS hl
  obtain ⟨pc, l0, st⟩ := f
  unfold mi_table at hst
  split at hst
  · rename_i x st' he
    simp only at he hl hdg ht hst hall
    subst he
    simp only [List.map_cons, mi_up]
    split at hst
    · rename_i ho
      cases hst
      exact lv_tableOut hx hb hdg ho (of_decide_eq_true ht) (k ls H locs hz hR hS hl)
    · rename_i ho
      have h1 : ¬ x.toInt < lo := fun q => ho (Or.inl q)
      have h2 : ¬ hi < x.toInt := fun q => ho (Or.inr q)
      split at hst
      · rename_i t hoff
        cases hst
        have hlt : (x.toInt - lo).toNat < offs.size := (Array.getElem?_eq_some_iff.mp hoff).1
        have h3 := List.all_eq_true.mp hall _ (List.mem_range.mpr hlt)
        have e1 : offs.getD (x.toInt - lo).toNat 0 = t := by simp [Array.getD_eq_getD_getElem?, hoff]
        rw [e1] at h3
        have hlt' : (x.toInt - lo).toNat < offs'.size := by omega
        refine lv_tableIn hx hb hdg h1 h2 (off := offs'.getD (x.toInt - lo).toNat 0) ?_ (of_decide_eq_true h3) (k ls H locs hz hR hS hl)
        simp [Array.getD_eq_getD_getElem?, hlt']
      · cases hst
  · cases hst
theorem mi_q_dup (hx : p.tables.exec = Jvm.exec) (hb : c.code = cc) (hst : mi_dup f h = some (f', h')) (hn : rp (f.1 + 1) = rp f.1 + 1) (hdg : decode cc (rp f.1) = .ok (.dup, 1)) (k : mi_V p l e R s m args below meth c Q av z S cA dC dI nL rp h' f' cells slots) : mi_V p l e R s m args below meth c Q av z S cA dC dI nL rp h f cells slots := by
  intro ls H locs hz hR hS hl
  obtain ⟨pc, l0, st⟩ := f
  unfold mi_dup at hst
  split at hst
  · rename_i v st' he
    simp only at he hl hdg hst hn
    subst he
    split at hst
    · rename_i hc
      cases hst
      have := k ls H locs hz hR hS hl
      simp only [hn, List.map_cons] at this
      simp only [List.map_cons]
      exact lv_dup hx hb hdg (by rw [mi_up_cat]; exact hc) this
    · cases hst
  · cases hst
theorem mi_q_dup2 (hx : p.tables.exec = Jvm.exec) (hb : c.code = cc) (hst : mi_dup2 f h = some (f', h')) (hn : rp (f.1 + 1) = rp f.1 + 1) (hdg : decode cc (rp f.1) = .ok (.dup2, 1)) (k : mi_V p l e R s m args below meth c Q av z S cA dC dI nL rp h' f' cells slots) : mi_V p l e R s m args below meth c Q av z S cA dC dI nL rp h f cells slots := by
  intro ls H locs hz hR hS hl
  obtain ⟨pc, l0, st⟩ := f
  unfold mi_dup2 at hst
  split at hst
  · rename_i v w st' he
    simp only at he hl hdg hst hn
    subst he
    split at hst
    · rename_i hc
      cases hst
      have := k ls H locs hz hR hS hl
      simp only [hn, List.map_cons] at this
      simp only [List.map_cons]
      exact lv_dup2_11 hx hb hdg (by rw [mi_up_cat]; exact hc.1) (by rw [mi_up_cat]; exact hc.2) this
    · cases hst
  · cases hst
theorem mi_q_pop (hx : p.tables.exec = Jvm.exec) (hb : c.code = cc) (hst : mi_pop f h = some (f', h')) (hn : rp (f.1 + 1) = rp f.1 + 1) (hdg : decode cc (rp f.1) = .ok (.pop, 1)) (k : mi_V p l e R s m args below meth c Q av z S cA dC dI nL rp h' f' cells slots) : mi_V p l e R s m args below meth c Q av z S cA dC dI nL rp h f cells slots := by
  intro ls H locs hz hR hS hl
  obtain ⟨pc, l0, st⟩ := f
  unfold mi_pop at hst
  split at hst
  · rename_i v st' he
    simp only at he hl hdg hst hn
    subst he
    split at hst
    · rename_i hc
      cases hst
      have := k ls H locs hz hR hS hl
      simp only [hn] at this
      simp only [List.map_cons]
      exact lv_pop hx hb hdg (by rw [mi_up_cat]; exact hc) this
    · cases hst
  · cases hst
theorem mi_q_pop2 (hx : p.tables.exec = Jvm.exec) (hb : c.code = cc) (hst : mi_pop2 f h = some (f', h')) (hn : rp (f.1 + 1) = rp f.1 + 1) (hdg : decode cc (rp f.1) = .ok (.pop2, 1)) (k : mi_V p l e R s m args below meth c Q av z S cA dC dI nL rp h' f' cells slots) : mi_V p l e R s m args below meth c Q av z S cA dC dI nL rp h f cells slots := by
  intro ls H locs hz hR hS hl
  obtain ⟨pc, l0, st⟩ := f
  unfold mi_pop2 at hst
  split at hst
  · rename_i v st' he
    simp only at he hl hdg hst hn
    subst he
    split at hst
    · rename_i hc
      cases hst
      have := k ls H locs hz hR hS hl
      simp only [hn] at this
      simp only [List.map_cons]
      exact lv_pop2_2 hx hb hdg (by rw [mi_up_cat]; exact hc) this
    · cases hst
  · cases hst
theorem mi_q_lshl (hx : p.tables.exec = Jvm.exec) (hb : c.code = cc) (hst : mi_lshl f h = some (f', h')) (hn : rp (f.1 + 1) = rp f.1 + 1) (hdg : decode cc (rp f.1) = .ok (.lshl, 1)) (k : mi_V p l e R s m args below meth c Q av z S cA dC dI nL rp h' f' cells slots) : mi_V p l e R s m args below meth c Q av z S cA dC dI nL rp h f cells slots := by
  intro ls H locs hz hR hS hl
  obtain ⟨pc, l0, st⟩ := f
  unfold mi_lshl at hst
  split at hst
  · rename_i y x st' he
    simp only at he hl hdg hst hn
    subst he
    cases hst
    have := k ls H locs hz hR hS hl
    simp only [hn] at this
    exact lv_lshl hx hb hdg rfl this
  · cases hst
end MIW
