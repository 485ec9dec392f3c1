/-! a run of the mini machine is a run of the machine -/
def mi_Qc (av : Nat → Nat) (z : Nat) (S : Nat × (Nat → Int32)) (cA dC : Nat → ClassId) (dI : Nat → Nat → Nat) (r : Option Value) (h : mH) : Array Value → State → Outcome → State → Prop := fun _ st oc t => (oc = .returned (r.map (mi_up (mi_ad av z))) ∧ mi_R av z S cA dC dI h t t.heap) ∧ va_F (fun q => z ≤ q) st t
def mi_Pc (av : Nat → Nat) (z : Nat) (S : Nat × (Nat → Int32)) (cA dC : Nat → ClassId) (dI : Nat → Nat → Nat) (as : List Value) (h : mH) : Array Value → State → Prop := va_Pc (as.map (mi_up (mi_ad av z))) (fun U => U.heap.size = z + h.length ∧ mi_R av z S cA dC dI h U U.heap ∧ mi_K av cA dC dI U)
def mi_GO (P : mP) (MD : mD) (RP : Nat → Nat → Nat) (NM : Nat) (l : Launch) (av : Nat → Nat) (z : Nat) (S : Nat × (Nat → Int32)) (cA dC : Nat → ClassId) (dI : Nat → Nat → Nat) (n : Nat) : Prop := ∀ (d no : Nat) (f : mF) (h : mH) (r : Option Value) (h' : mH), no < NM → mi_run P S n d no f h = some (r, h') → ∀ (p : Program) (e : Env) (R : Room) (s : State) (m : MethodId) (args : Array Value) (below : List Frame) (meth : Method) (c : Code) (cells slots MC MS : Nat) (Q : State → Prop),
  mi_X (MD no).2.2.1 (MD no).1 (decide ((MD no).2.2.2.2.2.1 = 2)) (MD no).2.2.2.1 p s m args meth c → mi_K av cA dC dI s → z ≤ s.heap.size → d + 1 ≤ R.frames → 64 * (d + 1) ≤ R.locals → cells + h'.length ≤ MC + h.length → slots + mi_sz h' ≤ MS + mi_sz h → MC ≤ R.cells → MS ≤ R.slots →
  (∀ (n' : Nat) (ls : Array Slot) (H : Heap) (locs : List Loc), mi_end P no n' r → mi_R av z S cA dC dI h' s H → va_S (fun q => z ≤ q) s.heap H locs → W p l e R s m args below meth c H locs MC MS Q (F0 m (RP no n') ls ((r.map (mi_up (mi_ad av z))).toList))) →
  mi_V p l e R s m args below meth c Q av z S cA dC dI (MD no).2.2.2.1 (RP no) h f cells slots
theorem mi_ent_eq (ad : Nat → Nat) : ∀ (k : Nat) (as : List Value), lv_args k (as.map (mi_up ad)) = mi_ul ad (mi_ent k as)
  | _, [] => rfl
  | k, v :: vs => by
    simp only [List.map_cons, lv_args, mi_ent, mi_ul, List.map_cons, mi_up_cat]
    congr 1
    have h := mi_ent_eq ad (k + v.category) vs
    rw [show (if v.category = 2 then k + 2 else k + 1) = k + v.category by
      rcases lv_cat v with q | q <;> simp [q]]
    exact h
theorem mi_sl_len (ad : Nat → Nat) (as : List Value) : (lg_sl (as.map (mi_up ad))).length = (as.map fun v => v.category).sum := by
  induction as with
  | nil => rfl
  | cons v vs ih =>
    simp only [lg_sl, List.map_cons, List.flatMap_cons, List.length_append, List.sum_cons] at ih ⊢
    rw [ih, mi_up_cat]
    rcases lv_cat v with q | q <;> simp [q]
theorem mi_char {v : Int32} (h1 : 0 ≤ v.toInt) (h2 : v.toInt ≤ 65535) : narrow .char (.int v) = .int v := by
  have h3 : (v.toUInt32 % 65536).toInt32 = v := by
    have e1 : v.toUInt32.toNat = v.toInt.toNat := by
      have := Int32.toNat_toUInt32_of_le (x := v) (by rw [Int32.le_iff_toInt_le]; exact h1)
      rw [this]
      rfl
    have e2 : v.toUInt32 % 65536 = v.toUInt32 := by
      apply UInt32.toNat_inj.mp
      rw [UInt32.toNat_mod, e1]
      show v.toInt.toNat % 65536 = v.toInt.toNat
      omega
    rw [e2]
    exact Int32.toInt32_toUInt32 v
  show Value.int (v.toUInt32 % 65536).toInt32 = .int v
  rw [h3]
section MIG
variable {P : mP} {MD : mD} {RP : Nat → Nat → Nat} {NM : Nat} {l : Launch} {av : Nat → Nat} {z : Nat} {S : Nat × (Nat → Int32)} {cA dC : Nat → ClassId} {dI : Nat → Nat → Nat}
set_option maxHeartbeats 1000000 in
theorem mi_met (hG : mi_good P MD RP NM) {n d y : Nat} (ih : mi_GO P MD RP NM l av z S cA dC dI n) (hy : y < NM) (hy0 : y ≠ 0) {as : List Value} {h h1 : mH} {r : Option Value} (hr : mi_run P S n d y (0, mi_ent 0 as, []) h = some (r, h1)) (hsum : (as.map fun v => v.category).sum ≤ (P.get y).2.2.2.2.1) :
    Met l (MD y).2.1 (Cond.code (MD y).2.1 (MD y).2.2.1 (MD y).2.2.2.1 (MD y).2.2.2.2.1 :: mi_tb) ({ frames := d + 1, cells := h1.length - h.length, slots := mi_sz h1 - mi_sz h, locals := 64 * (d + 1) }) (mi_Pc av z S cA dC dI as h) (mi_Qc av z S cA dC dI r h1) (h1.length - h.length) (mi_sz h1 - mi_sz h) (fun q => z ≤ q) := by
  obtain ⟨g1, g2, g3, g4, g5, g6, g7, g8, g9, g10, g11, g12, g13, g14, g15, g16⟩ := hG.2.1 y hy hy0
  have hmono := mi_monoR _ _ _ _ _ _ _ hr
  refine Met.ofW (cc := (MD y).2.2.1) (maxL := (MD y).2.2.2.1) (ret := (MD y).2.2.2.2.1) g12 rfl ?_
  intro p e s m args below meth c s₁ B hml hv
  obtain ⟨rfl, hsz, hR, hK⟩ := hv
  have hts : ∀ w ∈ mi_tb, w.before _ s = true := fun w hw => atoms_spec (ws := Cond.code (MD y).2.1 (MD y).2.2.1 (MD y).2.2.2.1 (MD y).2.2.2.2.1 :: mi_tb) B.pre w (List.mem_cons_of_mem _ hw)
  have hown : s.vm.findClass (MD y).1 = some m.cls := g15 ▸ findClass_of_methodNamed B.named
  have hlocks := B.notSynchronized
  have hnm : meth.name = (MD y).2.1.name := (name_of_methodNamed B.named B.method).1
  have X : mi_X (MD y).2.2.1 (MD y).1 (decide ((MD y).2.2.2.2.2.1 = 2)) (MD y).2.2.2.1 p s m (as.map (mi_up (mi_ad av z))).toArray meth c := ⟨B.exec, B.bytes, hml, hown, hts, fun q => by rw [hnm]; exact (g6 (of_decide_eq_true q)).1⟩
  rw [lg_entry_eq]
  have hl := lv_entry (as.map (mi_up (mi_ad av z))) (n := (MD y).2.2.2.1) (by rw [mi_sl_len, ← g14]; exact hsum)
  rw [mi_ent_eq] at hl
  have hret : ∀ (n' : Nat) (ls : Array Slot) (H : Heap) (locs : List Loc), mi_end P y n' r → mi_R av z S cA dC dI h1 s H → va_S (fun q => z ≤ q) s.heap H locs → W p l e ({ frames := d + 1, cells := h1.length - h.length, slots := mi_sz h1 - mi_sz h, locals := 64 * (d + 1) } : Room) s m (as.map (mi_up (mi_ad av z))).toArray below meth c H locs (h1.length - h.length) (mi_sz h1 - mi_sz h) (MQ below (mi_Qc av z S cA dC dI r h1) (as.map (mi_up (mi_ad av z))).toArray s (h1.length - h.length) (mi_sz h1 - mi_sz h) (fun q => z ≤ q)) (F0 m (RP y n') ls ((r.map (mi_up (mi_ad av z))).toList)) := by
    intro n' ls H locs hend hR' hS
    obtain ⟨hlt, hcase⟩ := hend
    obtain ⟨ri, len, hint, hdec, hokA⟩ := hG.2.2 y n' hy hlt
    have hq : ∀ t : State, t.heap = H → s.WarmedH t.vm → mi_Qc av z S cA dC dI r h1 (as.map (mi_up (mi_ad av z))).toArray s (.returned (r.map (mi_up (mi_ad av z)))) t := by
      intro t ht hW
      refine ⟨⟨rfl, ?_⟩, hS.F ht⟩
      rw [ht]
      exact hR'.moved hW.alike
    unfold mi_okA at hokA
    rcases hcase with ⟨hi, rfl⟩ | ⟨v, hi, rfl, hz⟩ | ⟨v, hi, rfl⟩ | ⟨v, hi, rfl⟩
    · rw [hi] at hokA
      simp only [mi_okr, Bool.and_eq_true, decide_eq_true_eq] at hokA
      obtain ⟨hret, rfl, rfl⟩ := hokA
      exact W.vret B.exec B.bytes (B.returns.trans hret) hq hS.2.2 hdec hlocks
    · rw [hi] at hokA
      simp only [mi_okr, Bool.and_eq_true, Bool.or_eq_true, decide_eq_true_eq] at hokA
      obtain ⟨hret, rfl, rfl⟩ := hokA
      rcases hret with hret | ⟨hret, hrz⟩ | ⟨hret, hrz⟩
      · exact W.zret B.exec B.bytes (B.returns.trans hret) rfl hq hS.2.2 hdec hlocks
      · rw [hrz] at hz
        simp only [mi_retz, if_true, show ¬ (1 : Nat) = 0 from by decide, if_false, Bool.or_eq_true, beq_iff_eq] at hz
        rcases hret with hret | hret
        · have hn : narrow .boolean (.int v) = .int v := by rcases hz with rfl | rfl <;> decide
          exact W.zret B.exec B.bytes (B.returns.trans hret) hn hq hS.2.2 hdec hlocks
        · have hn : narrow .byte (.int v) = .int v := by rcases hz with rfl | rfl <;> decide
          exact W.zret B.exec B.bytes (B.returns.trans hret) hn hq hS.2.2 hdec hlocks
      · rw [hrz] at hz
        simp only [mi_retz, show ¬ (2 : Nat) = 0 from by decide, show ¬ (2 : Nat) = 1 from by decide, if_false, Bool.and_eq_true, decide_eq_true_eq] at hz
        exact W.zret B.exec B.bytes (B.returns.trans hret) (mi_char hz.1 hz.2) hq hS.2.2 hdec hlocks
    · rw [hi] at hokA
      simp only [mi_okr, Bool.and_eq_true, decide_eq_true_eq] at hokA
      obtain ⟨hret, rfl, rfl⟩ := hokA
      exact W.lret B.exec B.bytes (B.returns.trans hret) hq hS.2.2 hdec hlocks
    · rw [hi] at hokA
      simp only [mi_okr, Bool.and_eq_true, decide_eq_true_eq] at hokA
      obtain ⟨hret, rfl, rfl⟩ := hokA
      split at hret
      · rename_i nm hnm2
        exact W.aret B.exec B.bytes (B.returns.trans hnm2) (Or.inl ⟨nm, rfl⟩) (Or.inr ⟨_, rfl⟩) hq hS.2.2 hdec hlocks
      · cases hret
  have key := ih d y (0, mi_ent 0 as, []) h r h1 hy hr p e ({ frames := d + 1, cells := h1.length - h.length, slots := mi_sz h1 - mi_sz h, locals := 64 * (d + 1) }) s m (as.map (mi_up (mi_ad av z))).toArray below meth c 0 0 (h1.length - h.length) (mi_sz h1 - mi_sz h) (MQ below (mi_Qc av z S cA dC dI r h1) (as.map (mi_up (mi_ad av z))).toArray s (h1.length - h.length) (mi_sz h1 - mi_sz h) (fun q => z ≤ q)) X hK (by omega) (Nat.le_refl _) (Nat.le_refl _) (by omega) (by omega) (Nat.le_refl _) (Nat.le_refl _) hret _ s.heap [] (by omega) hR va_S.rf hl
  rw [show RP y 0 = 0 from hG.1 y hy] at key
  exact key
theorem mi_cont {p : Program} {e : Env} {R : Room} {s : State} {m : MethodId} {args : Array Value} {below : List Frame} {meth : Method} {c : Code} {cells slots mc ms pc nL : Nat} {rp : Nat → Nat} {Q : State → Prop} {H : Heap} {locs : List Loc} {ls : Array Slot} {st0 rest : List Value} {l0 : List (Nat × Value)} {a : Array Value} {r1 : Option Value} {h1 : mH}
    (hr : va_Run p l e R s m args below meth c H locs cells slots mc ms (F0 m (rp pc) ls st0) (rest.map (mi_up (mi_ad av z))) (mi_Qc av z S cA dC dI r1 h1 a) (fun q => z ≤ q)) (hz : s.heap.size + (cells + mc) = z + h1.length) (hS : va_S (fun q => z ≤ q) s.heap H locs) (hn : rp (pc + 1) = rp pc + 3) (hl : lv_has ls nL (mi_ul (mi_ad av z) l0))
    (k : mi_V p l e R s m args below meth c Q av z S cA dC dI nL rp h1 (pc + 1, l0, r1.toList ++ rest) (cells + mc) (slots + ms)) : W p l e R s m args below meth c H locs cells slots Q (F0 m (rp pc) ls st0) := by
  intro T hT X
  obtain ⟨v, st₀, t, T', L, h0, X', hL, e1, e2, ⟨⟨hv, hR1⟩, hz1, hk⟩, st⟩ := hr T hT X
  have hv : v = r1.map (mi_up (mi_ad av z)) := by cases hv; rfl
  subst hv
  rw [h0] at hz1 hk
  have hR' : mi_R av z S cA dC dI h1 s T'.heap := by
    rw [e1]
    exact hR1.moved (by rw [← e2]; exact X'.warmed.alike.symm)
  have hS' : va_S (fun q => z ≤ q) s.heap T'.heap (locs ++ L) := by
    refine ⟨Nat.le_trans hS.1 (by rw [e1]; exact hz1), fun q g1 g2 => ?_, fun q hq => ?_⟩
    · rw [e1, hk q (Nat.lt_of_lt_of_le g1 hS.1) g2]
      exact hS.2.1 q g1 g2
    · rcases List.mem_append.mp hq with g | g
      · exact hS.2.2 q g
      · exact hL q g
  have := k ls T'.heap (locs ++ L) hz hR' hS' hl
  simp only [hn] at this
  rw [show (r1.toList ++ rest).map (mi_up (mi_ad av z)) = (r1.map (mi_up (mi_ad av z))).toList ++ rest.map (mi_up (mi_ad av z)) by cases r1 <;> simp] at this
  obtain ⟨t2, a1, b1⟩ := this T' rfl X'
  exact ⟨t2, st t2 a1, b1⟩
theorem mi_GoodIn {w : Cond} (hw : w ∈ mi_tb) : GoodIn mi_tb (w :: mi_tb) := by
  intro x hx
  have : x ∈ mi_tb := by
    rcases List.mem_cons.mp hx with rfl | q
    · exact hw
    · exact q
  exact ⟨this, good_of_word (List.mem_filter.mp this).2⟩
theorem mi_blind (as : List Value) (h : mH) : FrameBlind (mi_Pc av z S cA dC dI as h) := by
  intro a U g mk hp
  obtain ⟨h1, h2, h3, h4⟩ := hp
  exact ⟨h1, h2, h3.moved (U := U.calling g mk a) (Vm.Alike.refl U.vm), mi_K.same (s := U) (U := U.calling g mk a) rfl h4⟩
set_option maxHeartbeats 1000000 in
theorem mi_go (hG : mi_good P MD RP NM) : ∀ n, mi_GO P MD RP NM l av z S cA dC dI n := by
  intro n
  induction n with
  | zero => intro d no f h r h' hno hr; rw [mi_run] at hr; cases hr
  | succ n ih =>
    intro d no f h r h' hno hr p e R s m args below meth c cells slots MC MS Q X K hzs hfr hlo hc1 hc2 hMC hMS hret
    rcases mi_runC hr with ⟨rfl, hend, hst⟩ | ⟨y, d', as, rest, r1, h1, hlt, hi, rfl, ha, hs8, hsum, hrc, e1, e2⟩ | ⟨f1, h1, hlt, e1, n1, n2, n3, n4, n5, e2⟩
    · intro ls H locs hz hR hS hl
      refine W.widen (k := MC) (n := MS) (by omega) (by omega) ?_
      have := hret f.1 ls H locs hend hR hS
      rw [hst, show r.toList.map (mi_up (mi_ad av z)) = (r.map (mi_up (mi_ad av z))).toList by cases r <;> rfl]
      exact this
    · obtain ⟨ri, len, hint, hdec, hokA⟩ := hG.2.2 no f.1 hno hlt
      unfold mi_okA at hokA
      rw [hi] at hokA
      simp only [Bool.and_eq_true, decide_eq_true_eq, mi_okc] at hokA
      obtain ⟨⟨hy0, hy⟩, hn, rfl, hrk⟩ := hokA
      obtain ⟨g1, g2, g3, g4, g5, g6, g7, g8, g9, g10, g11, g12, g13, g14, g15, g16⟩ := hG.2.1 y hy (by omega)
      have m1 := mi_monoR _ _ _ _ _ _ _ e1
      have m2 := mi_monoR _ _ _ _ _ _ _ e2
      have hM := mi_met (l := l) hG ih hy (by omega) e1 hsum
      intro ls H locs hz hR hS hl
      have hkont := ih (d' + 1) no _ h1 r h' hno e2 p e R s m args below meth c (cells + (h1.length - h.length)) (slots + (mi_sz h1 - mi_sz h)) MC MS Q X K hzs hfr hlo (by omega) (by omega) hMC hMS hret
      obtain ⟨hx, hb, hml, hown, hts, hini⟩ := X
      have hsz : ∀ T : State, T.heap = H → Stand p l e R s m args below meth c T locs cells slots → H.size = z + h.length := by
        intro T hT XT
        have q1 := XT.heapSize
        rw [hT] at q1
        have q2 := mi_lo hR (Nat.le_trans hzs hS.1)
        omega
      intro T hT XT
      have hHs := hsz T hT XT
      have hPc : ∀ U : State, U.heap = H → s.WarmedH U.vm → mi_Pc av z S cA dC dI as h (as.map (mi_up (mi_ad av z))).toArray U := fun U hU hW => ⟨rfl, by rw [hU]; exact hHs, by rw [hU]; exact hR.moved hW.alike, K.moved hW⟩
      unfold mi_args at ha
      split at ha
      · rename_i hna
        cases ha
        have hstk : f.2.2.map (mi_up (mi_ad av z)) = ((f.2.2.take (P.get y).2.1).reverse.map (mi_up (mi_ad av z))).reverse ++ (f.2.2.drop (P.get y).2.1).map (mi_up (mi_ad av z)) := by
          rw [List.map_reverse, List.reverse_reverse, ← List.map_append, List.take_append_drop]
        have hlen : (f.2.2.take (P.get y).2.1).reverse.length = (P.get y).2.1 := by simp; omega
        have hroom : (d' + 1) + 1 ≤ R.frames ∧ 8 + ((MD y).2.2.2.1 + 11) + 64 * (d' + 1) ≤ R.locals := by omega
        have hW8 : 2 * (F0 m (RP no f.1) ls (f.2.2.map (mi_up (mi_ad av z)))).monitorRoom + (((f.2.2.drop (P.get y).2.1).map (mi_up (mi_ad av z))).map fun v => v.category).sum ≤ 8 := by
          rw [mi_catsum]
          show 2 * 0 + _ ≤ 8
          omega
        have hcap : cells + (h1.length - h.length) ≤ R.cells ∧ slots + (mi_sz h1 - mi_sz h) ≤ R.slots := by omega
        have hz1 : s.heap.size + (cells + (h1.length - h.length)) = z + h1.length := by omega
        generalize hasq : (f.2.2.take (P.get y).2.1).reverse = as at hM hPc hstk hlen hrc
        split at hrk
        · rename_i idx
          simp only [Bool.and_eq_true, decide_eq_true_eq, mi_has_w] at hrk
          obtain ⟨hk0, hw⟩ := hrk
          have cw := callB_of (R := R) (ws := Cond.code (MD y).2.1 (MD y).2.2.1 (MD y).2.2.2.1 (MD y).2.2.2.2.1 :: mi_tb) (ws' := mi_tb) (rm := { frames := d' + 1, cells := h1.length - h.length, slots := mi_sz h1 - mi_sz h, locals := 64 * (d' + 1) }) (mc := h1.length - h.length) (ms := mi_sz h1 - mi_sz h) (MD y).2.2.2.2.2.2 hts (mi_GoodIn g1) rfl rfl rfl (hts _ g2) (hts _ (mi_tbw hw.1 hw.2)) ⟨g10, g11, g7⟩ hroom
          exact mi_cont (rp := RP no) (va_runS (As := as.map (mi_up (mi_ad av z))) (rest := (f.2.2.drop (P.get y).2.1).map (mi_up (mi_ad av z))) ⟨hx, hb, hml, hown, hts⟩ hM ⟨cw, hts _ (g3 hk0)⟩ ⟨mi_blind _ _, hPc⟩ rfl (by rw [List.length_map, hlen]; exact (g8 hk0).1) hl.1 hstk hW8 hdec hcap) hz1 hS hn hl hkont T hT XT
        · rename_i idx
          simp only [Bool.and_eq_true, decide_eq_true_eq, mi_has_w] at hrk
          obtain ⟨hk0, hw⟩ := hrk
          obtain ⟨g9a, g9x⟩ := g9 (by omega)
          have cw := callB_of (R := R) (ws := Cond.code (MD y).2.1 (MD y).2.2.1 (MD y).2.2.2.1 (MD y).2.2.2.2.1 :: mi_tb) (ws' := mi_tb) (rm := { frames := d' + 1, cells := h1.length - h.length, slots := mi_sz h1 - mi_sz h, locals := 64 * (d' + 1) }) (mc := h1.length - h.length) (ms := mi_sz h1 - mi_sz h) (MD y).2.2.2.2.2.2 hts (mi_GoodIn g1) rfl rfl rfl (hts _ g2) (hts _ (mi_tbw hw.1 hw.2)) ⟨g10, g11, g7⟩ hroom
          rcases g9x with ⟨ci, T', N', g9b, g9c⟩ | ⟨g9b, g9c, -⟩
          · have hci : ci < 13 := by
              have := (List.getElem?_eq_some_iff.mp g9c).1
              rw [mi_mcl_len] at this
              exact this
            rw [g9b] at hrc
            unfold mi_rcv at hrc
            simp only at hrc
            split at hrc
            · rename_i rr as'
              rw [if_neg (by omega)] at hrc
              split at hrc
              · rename_i cj fj hcj
                simp only [beq_iff_eq] at hrc
                subst hrc
                obtain ⟨h3, hcell⟩ := mi_c_of hcj
                have he := mi_ws_get (ad := mi_ad av z) (cA := cA) (z := z) hcell
                have hrecv := va_recv K.1 hR.2.1 g9c he
                simp only [List.map_cons, mi_up, List.reverse_cons, List.append_assoc, List.singleton_append, mi_ad_ge h3] at hstk hPc
                refine mi_cont (rp := RP no) (va_runV (As := as'.map (mi_up (mi_ad av z))) (rest := (f.2.2.drop (P.get y).2.1).map (mi_up (mi_ad av z))) ⟨hx, hb, hml, hown, hts⟩ hM ⟨cw, hts _ (g4 (by omega)), hts _ (g5 hk0)⟩ ⟨mi_blind _ _, hrecv, hPc⟩ rfl ?_ hl.1 hstk hW8 hdec hcap) hz1 hS hn hl hkont T hT XT
                rw [List.length_map]
                simp only [List.length_cons] at hlen
                omega
              · cases hrc
            · cases hrc
          · rw [g9b] at hrc
            unfold mi_rcv at hrc
            simp only at hrc
            split at hrc
            · rename_i rr as'
              rw [if_pos trivial] at hrc
              have hrr := of_decide_eq_true hrc
              have hE := mi_E_back hR.2.2.2 hS hzs
              have hrecv : ∃ cell : Cell, H[av rr]? = some cell ∧ cell.vm.isStatics = false ∧ s.vm.findClass (MD y).2.1.cls = some cell.cls := by
                rw [g9c]
                rcases hrr with rfl | rfl
                · exact vk_recv hE.1 (i := 0) (by decide) hS
                · exact vk_recv hE.1 (i := 1) (by decide) hS
              simp only [List.map_cons, mi_up, List.reverse_cons, List.append_assoc, List.singleton_append, mi_ad_lt (show rr < 6 by rcases hrr with e | e <;> (rw [e]; decide))] at hstk hPc
              refine mi_cont (rp := RP no) (va_runV (As := as'.map (mi_up (mi_ad av z))) (rest := (f.2.2.drop (P.get y).2.1).map (mi_up (mi_ad av z))) ⟨hx, hb, hml, hown, hts⟩ hM ⟨cw, hts _ (g4 (by omega)), hts _ (g5 hk0)⟩ ⟨mi_blind _ _, hrecv, hPc⟩ rfl ?_ hl.1 hstk hW8 hdec hcap) hz1 hS hn hl hkont T hT XT
              rw [List.length_map]
              simp only [List.length_cons] at hlen
              omega
            · cases hrc
        · rename_i idx
          simp only [Bool.and_eq_true, Bool.or_eq_true, decide_eq_true_eq, mi_has_w] at hrk
          obtain ⟨hk0, hw⟩ := hrk
          obtain ⟨g9a, g9x⟩ := g9 (by omega)
          obtain ⟨ci, T', N', g9b, g9c⟩ : ∃ ci T N, (P.get y).2.2.2.1 = ci + 1 ∧ mcl[ci]? = some ((MD y).2.1.cls, T, N) := by
            rcases g9x with q | ⟨-, -, q⟩
            · exact q
            · omega
          rw [g9b] at hrc
          unfold mi_rcv at hrc
          simp only at hrc
          split at hrc
          · rename_i rr as'
            have hlen' : (as'.map (mi_up (mi_ad av z))).length = (MD y).2.2.2.2.2.2 := by
              rw [List.length_map]
              simp only [List.length_cons] at hlen
              omega
            simp only [List.map_cons, mi_up, List.reverse_cons, List.append_assoc, List.singleton_append] at hstk hPc
            have hret0 := (g6 hk0).2
            rcases hw with hw | hw
            · have cw := callB_of (R := R) (ws := Cond.code (MD y).2.1 (MD y).2.2.1 (MD y).2.2.2.1 (MD y).2.2.2.2.1 :: mi_tb) (ws' := mi_tb) (rm := { frames := d' + 1, cells := h1.length - h.length, slots := mi_sz h1 - mi_sz h, locals := 64 * (d' + 1) }) (mc := h1.length - h.length) (ms := mi_sz h1 - mi_sz h) (MD y).2.2.2.2.2.2 hts (mi_GoodIn g1) rfl rfl rfl (hts _ g2) (hts _ (mi_tbw hw.1 hw.2)) ⟨g10, g11, g7⟩ hroom
              rw [hret0] at cw hM
              exact mi_cont (rp := RP no) (va_runI (As := as'.map (mi_up (mi_ad av z))) (rest := (f.2.2.drop (P.get y).2.1).map (mi_up (mi_ad av z))) ⟨hx, hb, hml, hown, hts⟩ hM ⟨cw, (g6 hk0).1, hts _ (g4 (by omega))⟩ ⟨mi_blind _ _, hPc⟩ rfl hlen' hl.1 hstk hW8 hdec hcap) hz1 hS hn hl hkont T hT XT
            · have hnw := K.2.1 _ (List.contains_iff_mem.mp hw)
              have cw := va_cnB (R := R) (ws := Cond.code (MD y).2.1 (MD y).2.2.1 (MD y).2.2.2.1 (MD y).2.2.2.2.1 :: mi_tb) (ws' := mi_tb) (rm := { frames := d' + 1, cells := h1.length - h.length, slots := mi_sz h1 - mi_sz h, locals := 64 * (d' + 1) }) (mc := h1.length - h.length) (ms := mi_sz h1 - mi_sz h) (MD y).2.2.2.2.2.2 hts (mi_GoodIn g1) rfl rfl rfl hnw (hts _ g2) ⟨g10, g11, g7⟩ hroom
              rw [hret0] at cw hM
              exact mi_cont (rp := RP no) (va_runIN (As := as'.map (mi_up (mi_ad av z))) (rest := (f.2.2.drop (P.get y).2.1).map (mi_up (mi_ad av z))) ⟨hx, hb, hml, hown, hts⟩ hM ⟨cw, (g6 hk0).1, hts _ (g4 (by omega))⟩ ⟨mi_blind _ _, hPc⟩ rfl hlen' hl.1 hstk hW8 hdec hcap) hz1 hS hn hl hkont T hT XT
          · cases hrc
        · cases hrk
      · cases ha
    · obtain ⟨ri, len, hint, hdec, hokA⟩ := hG.2.2 no f.1 hno hlt
      have m2 := mi_monoR _ _ _ _ _ _ _ e2
      have m1 := mi_mono1 e1
      have hok : mi_ok (MD no).1 (decide ((MD no).2.2.2.2.2.1 = 2)) (MD no).2.2.2.1 (RP no) f.1 hint (mi_at P no f.1) ri len = true := by
        unfold mi_okA at hokA
        split at hokA
        · rename_i y hi; exact absurd hi (n1 y)
        · rename_i hi; rw [hi] at e1; cases e1
        · rename_i hi; exact absurd hi n2
        · rename_i hi; exact absurd hi n3
        · rename_i hi; exact absurd hi n4
        · rename_i hi; exact absurd hi n5
        · exact hokA
      exact mi_one X K hzs (by omega) (by omega) e1 hok hdec (by omega) (by omega) (fun cells' slots' q1 q2 => ih d no f1 h1 r h' hno e2 p e R s m args below meth c cells' slots' MC MS Q X K hzs hfr hlo (by omega) (by omega) hMC hMS hret)
end MIG
