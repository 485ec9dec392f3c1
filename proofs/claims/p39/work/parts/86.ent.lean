/-! what the law's entry says of the texts and of the formatter -/
def ez_tm (i : Nat) : Term := .string "AviaryLock$Tokens" (if i = 0 then 57 else 49)
def ez_av (b : Nat) (adK adV : Nat → Nat) (f : Nat) : Nat → Nat
  | 0 => b
  | 1 => adK 0
  | 2 => adK 1
  | 3 => adV 0
  | 4 => adV 1
  | _ => f
def ez_fl : List Cond := flatC (Jvm.Cond.and given_1 narrow_1)
theorem ez_el : (List.range 2).all (fun i => (List.range ((mi_byt.map List.length).getD i 0)).all (fun j => ez_fl.contains (Cond.eq (.elem (.field (ez_tm i) "java/lang/String" "value" "[B") (.int (Int32.ofNat j))) (.int ((mi_byt.getD i []).getD j 0))))) = true := by decide +kernel
theorem ez_le : (List.range 2).all (fun i => ez_fl.contains (Cond.eq (.length (.field (ez_tm i) "java/lang/String" "value" "[B")) (.int (Int32.ofNat ((mi_byt.map List.length).getD i 0)))) && (ez_fl.contains (Cond.arrayOf (.field (ez_tm i) "java/lang/String" "value" "[B") .byte) && (ez_fl.contains (Cond.eq (.field (ez_tm i) "java/lang/String" "coder" "B") (.int 0)) && ez_fl.contains (Cond.exactly (ez_tm i) "java/lang/String")))) = true := by decide +kernel
theorem ez_ne : (ez_fl.contains (Cond.not (Cond.eq (ez_tm 0) (ez_tm 1))) && (ez_fl.contains (Cond.eq (.static "java/lang/String" "COMPACT_STRINGS" "Z") (.int 1)) && ez_fl.contains (Cond.isRef (.static "jdk/internal/util/Preconditions" "SIOOBE_FORMATTER" "Ljava/util/function/BiFunction;")))) = true := by decide +kernel
theorem ez_tb : (tables_1.contains (Cond.laysStatic "java/lang/String" "COMPACT_STRINGS" "Z") && (tables_1.contains (Cond.laysStatic "jdk/internal/util/Preconditions" "SIOOBE_FORMATTER" "Ljava/util/function/BiFunction;") && (tables_1.contains (Cond.initialized "java/lang/String") && (tables_1.contains (Cond.initialized "jdk/internal/util/Preconditions") && mi_strs.all (fun q => tables_1.contains (Cond.stringRef q.1 q.2.1 q.2.2)))))) = true := by decide +kernel
theorem ez_ent {s : State} {b L : Nat} {xs : Nat → Int32} (hL : L ≤ 3072) (hts : ∀ w ∈ lw_tbl, w.before #[Value.ref b] s = true) (hX : va_X b L xs s s.heap) (hgv : (Jvm.Cond.and given_1 narrow_1).before #[Value.ref b] s = true) : ∃ (av : Nat → Nat) (ys : Nat → Int32), av 0 = b ∧ va_X b L ys s s.heap ∧ mi_E av s.heap.size (L, ys) s s.heap ∧ ∀ k q, mi_strs[k]? = some q → vk_R q.1 q.2.1 q.2.2 (av (k + 1)) s := by
  have hs : ∀ w, ez_fl.contains w = true → w.before #[Value.ref b] s = true := fun w hw => flat_of_before _ hgv w (List.contains_iff_mem.mp hw)
  have ht : ∀ w, tables_1.contains w = true → w.before #[Value.ref b] s = true := fun w hw => hts w (List.mem_append_right _ (List.contains_iff_mem.mp hw))
  have hA : ∀ a : Nat, a < s.heap.size → ¬ s.heap.size ≤ a := fun a h => by omega
  have k1 := ez_ne
  have k2 := ez_tb
  simp only [Bool.and_eq_true] at k1 k2
  have k3 : ∀ i, i < 2 → _ := fun i hi => List.all_eq_true.mp ez_le i (List.mem_range.mpr hi)
  simp only [Bool.and_eq_true] at k3
  have k4 : ∀ i, i < 2 → ∀ j, j < (mi_byt.map List.length).getD i 0 → _ := fun i hi j hj => List.all_eq_true.mp (List.all_eq_true.mp ez_el i (List.mem_range.mpr hi)) j (List.mem_range.mpr hj)
  have h2 : ∀ i, i < 2 → (mi_byt.map List.length).getD i 0 < 2 ^ 31 := by decide +kernel
  have n01 := hs _ k1.1
  obtain ⟨adK, adV, hS, hK⟩ := vk_Sof (args := #[Value.ref b]) (s := s) (N := 2) (tm := ez_tm) (len := mi_byt.map List.length) (byt := mi_byt) (A := fun q => s.heap.size ≤ q) h2 (fun i hi => hs _ (k3 i hi).2.2.2) (fun i hi => hs _ (k3 i hi).2.2.1) (fun i hi => hs _ (k3 i hi).2.1) (fun i hi => hs _ (k3 i hi).1) (fun i hi j hj => hs _ (k4 i hi j hj)) (fun i j hi hj hne => by
    match i, j, hi, hj, hne with
    | 0, 0, _, _, hne => exact absurd rfl hne
    | 0, 1, _, _, _ => exact Or.inl n01
    | 1, 0, _, _, _ => exact Or.inr n01
    | 1, 1, _, _, hne => exact absurd rfl hne
    | i + 2, _, hi, _, _ => omega
    | 0, j + 2, _, hj, _ => omega
    | 1, j + 2, _, hj, _ => omega) hA
  have hC : va_Z "java/lang/String" "COMPACT_STRINGS" "Z" (.int 1) (fun q => s.heap.size ≤ q) s s.heap := va_Zof (args := #[Value.ref b]) (ht _ k2.1) (ht _ k2.2.2.1) (va_eqt (hs _ k1.2.1)) hA
  have hF := va_Zqof (args := #[Value.ref b]) (A := fun q => s.heap.size ≤ q) (ht _ k2.2.1) (ht _ k2.2.2.2.1) (hs _ k1.2.2) hA
  have hV : ∀ f : Nat, vk_S 2 (mi_byt.map List.length) mi_byt (fun i => ez_av b adK adV f (i + 1)) (fun i => ez_av b adK adV f (i + 3)) (fun q => s.heap.size ≤ q) s s.heap := by
    intro f
    refine ⟨fun i hi => ?_, fun i j hi hj e => ?_⟩
    · match i, hi with
      | 0, _ => exact hS.1 0 (by decide)
      | 1, _ => exact hS.1 1 (by decide)
      | i + 2, hi => omega
    · match i, j, hi, hj, e with
      | 0, 0, _, _, _ => rfl
      | 0, 1, _, _, e => exact hS.2 0 1 (by decide) (by decide) e
      | 1, 0, _, _, e => exact hS.2 1 0 (by decide) (by decide) e
      | 1, 1, _, _, _ => rfl
      | i + 2, _, hi, _, _ => omega
      | 0, j + 2, _, hj, _ => omega
      | 1, j + 2, _, hj, _ => omega
  have hR : ∀ (f k : Nat) q, mi_strs[k]? = some q → vk_R q.1 q.2.1 q.2.2 (ez_av b adK adV f (k + 1)) s := by
    intro f k q hq
    have h1 := ht _ (List.all_eq_true.mp k2.2.2.2.2 q (List.mem_of_getElem? hq))
    match k, hq with
    | 0, hq => cases hq; exact vk_R.of h1 (hK 0 (by decide))
    | 1, hq => cases hq; exact vk_R.of h1 (hK 1 (by decide))
    | k + 2, hq => simp [mi_strs] at hq
  have hY : ∀ v : Int32, va_X b L (fun j => if j = 5000 then v else xs j) s s.heap := by
    intro v
    obtain ⟨scr, a1, a2, a3, a4, a5⟩ := hX
    refine ⟨scr, a1, a2, a3, a4, fun j hj => ?_⟩
    have e : (if j = 5000 then v else xs j) = xs j := if_neg (by omega)
    show scr.slots[j]? = some (Value.int (if j = 5000 then v else xs j))
    rw [e]
    exact a5 j hj
  rcases hF with hF | ⟨t, hF⟩
  · refine ⟨ez_av b adK adV 0, _, rfl, hY 0, ⟨hV 0, hC, ?_⟩, hR 0⟩
    have e : mi_up (mi_ad (ez_av b adK adV 0) s.heap.size) (mi_fv (L, fun j => if j = 5000 then 0 else xs j)) = .null := by simp [mi_fv, mi_up]
    rw [e]
    exact hF
  · refine ⟨ez_av b adK adV t, _, rfl, hY 1, ⟨hV t, hC, ?_⟩, hR t⟩
    have e : mi_up (mi_ad (ez_av b adK adV t) s.heap.size) (mi_fv (L, fun j => if j = 5000 then 1 else xs j)) = .ref t := by simp [mi_fv, mi_up, mi_ad, ez_av]
    rw [e]
    exact hF
