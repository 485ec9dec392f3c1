/-! OPERATIONS on forms: the answer's form, and what is known then -/
def zfr (en : zN) (lo hi : Int) : zL × zN := (zX en.1.length, (en.1 ++ [(lo, hi)], en.2))
def zin (en : zN) (e : zL) (lo hi : Int) : Bool := zpr en.1 en.2.1 1 (zac e (Int.neg hi)) && zpr en.1 en.2.1 1 (zac (zneg e) lo)
def zex (en : zN) (lo hi : Int) (e : zL) : zL × zN := bif zin en e lo hi then (e, en) else zfr en lo hi
/-- any int, any long -/
def zai (en : zN) : zL × zN := zfr en (-2147483648) 2147483647
def zal (en : zN) : zL × zN := zfr en (-9223372036854775808) 9223372036854775807
def zRs (r : List Int) (q : zL × zN) (z : Int) : Prop := ∃ s, zEn q.2 (r ++ s) ∧ zE (r ++ s) q.1 z
/-- the factors that w divides, and the others -/
def zdv (w : Int) : List (Nat × Int) → List (Nat × Int)
  | [] => []
  | (k, v) :: t => bif zeq (Int.emod v w) 0 then (k, Int.ediv v w) :: zdv w t else zdv w t
def znd (w : Int) : List (Nat × Int) → List (Nat × Int)
  | [] => []
  | (k, v) :: t => bif zeq (Int.emod v w) 0 then znd w t else (k, v) :: znd w t
def zquo (w : Int) (a : zL) : zL := (Int.ediv a.1 w, zdv w a.2)
def zrem (w : Int) (a : zL) : zL := (Int.emod a.1 w, znd w a.2)
def zcst (a : zL) : Option Int := match a.2 with
  | [] => some a.1
  | _ => none
def zi_add (en : zN) (a b : zL) : zL × zN := zex en (-2147483648) 2147483647 (zadd a b)
def zi_sub (en : zN) (a b : zL) : zL × zN := zex en (-2147483648) 2147483647 (zsub a b)
def zi_mul (en : zN) (a b : zL) : zL × zN := match zcst b, zcst a with
  | some c, _ => zex en (-2147483648) 2147483647 (zscl c a)
  | none, some c => zex en (-2147483648) 2147483647 (zscl c b)
  | none, none => zai en
def zi_and (en : zN) (a b : zL) : zL × zN := match zcst b with
  | some c => bif zle 0 c then (bif zeq c 15 && zin en (zrem 16 a) 0 15 then (zrem 16 a, en) else zfr en 0 c) else zai en
  | none => zai en
def zi_or (en : zN) (a b : zL) : zL × zN := match zcst b with
  | some c => bif zle 0 c && (zle c 15 && (zeqL (zrem 16 a) (zK 0))) then (zac a c, en) else zai en
  | none => zai en
def zi_shl (en : zN) (a b : zL) : zL × zN := match zcst b with
  | some c => bif zeq c 4 then (bif zin en (zscl 16 a) (-2147483648) 2147483647 then (zscl 16 a, en) else (zscl 16 (zfr en (-134217728) 134217727).1, (zfr en (-134217728) 134217727).2)) else zai en
  | none => zai en
def zi_shr (en : zN) (a b : zL) : zL × zN := match zcst b with
  | some c => bif zeq c 4 && zin en (zrem 16 a) 0 15 then (zquo 16 a, en) else zai en
  | none => zai en
/-- is it above 0, or not 0 -/
def zpos (en : zN) (b : zL) : Bool := zpr en.1 en.2.1 1 (zac (zneg b) 1)
def zmin (en : zN) (b : zL) : Bool := zpr en.1 en.2.1 1 (zac b 1)
def znon (en : zN) (b : zL) : Bool := zpr en.1 en.2.1 1 (zneg b)
def zubd (en : zN) (a : zL) : Int := match zub en.1 a with
  | some u => u
  | none => 9223372036854775807
def zi_div (en : zN) (a b : zL) : Option (zL × zN) := bif zpos en b then (match zcst a, zcst b with
    | some x, some y => some (bif zle 0 x then (zK (Int.ediv x y), en) else zai en)
    | _, _ => some (bif znon en a then zfr en 0 2147483647 else zai en))
  else bif zmin en b then some (zai en) else none
def zi_rem (en : zN) (a b : zL) : Option (zL × zN) := bif zpos en b then some (bif znon en a then zfr en 0 (Int.sub (zubd en b) 1) else zfr en (Int.sub 1 (zubd en b)) (Int.sub (zubd en b) 1))
  else bif zmin en b then some (zai en) else none
def zl_sub (en : zN) (a b : zL) : zL × zN := zex en (-9223372036854775808) 9223372036854775807 (zsub a b)
def zl_mul (en : zN) (a b : zL) : zL × zN := match zcst b, zcst a with
  | some c, _ => zex en (-9223372036854775808) 9223372036854775807 (zscl c a)
  | none, some c => zex en (-9223372036854775808) 9223372036854775807 (zscl c b)
  | none, none => zal en
def zl_div (en : zN) (a b : zL) : Option (zL × zN) := bif zpos en b || zmin en b then some (zal en) else none
def zl_rem (en : zN) (a b : zL) : Option (zL × zN) := bif zpos en b then (bif znon en a then some (zX en.1.length, (en.1 ++ [(0, zubd en b)], en.2.1 ++ [zac (zsub (zX en.1.length) b) 1], en.2.2)) else some (zal en))
  else bif zmin en b then some (zal en) else none
/-- the greater, the lesser -/
def zmx (en : zN) (a b : zL) : zL × zN := bif zpr en.1 en.2.1 1 (zsub a b) then (b, en) else bif zpr en.1 en.2.1 1 (zsub b a) then (a, en) else
  (match zub en.1 (zneg a), zub en.1 (zneg b), zub en.1 a, zub en.1 b with
  | some l, some m, some h, some k => zfr en (bif zle l m then Int.neg l else Int.neg m) (bif zle h k then k else h)
  | _, _, _, _ => zai en)
def zmn (en : zN) (a b : zL) : zL × zN := bif zpr en.1 en.2.1 1 (zsub a b) then (a, en) else bif zpr en.1 en.2.1 1 (zsub b a) then (b, en) else
  (match zub en.1 (zneg a), zub en.1 (zneg b), zub en.1 a, zub en.1 b with
  | some l, some m, some h, some k => zfr en (bif zle l m then Int.neg m else Int.neg l) (bif zle h k then h else k)
  | _, _, _, _ => zai en)
section ZO
variable {en : zN} {r : List Int} {a b e : zL} {X Y z : Int} {lo hi : Int} {x y : Int32} {u w : Int64}
theorem zfr_ok (hE : zEn en r) (h1 : lo ≤ z) (h2 : z ≤ hi) : zRs r (zfr en lo hi) z := ⟨[z], ⟨zB_app hE.1 h1 h2, zFa_mono _ hE.2.1, zPd_mono _ hE.2.2⟩, zX_app hE.1⟩
theorem zid_ok (hE : zEn en r) (h : zE r e z) : zRs r (e, en) z := ⟨[], by rw [List.append_nil]; exact hE, by rw [List.append_nil]; exact h⟩
theorem zin_ok (hE : zEn en r) (h : zin en e lo hi = true) (hX : zE r e X) : lo ≤ X ∧ X ≤ hi := by
  simp only [zin, Bool.and_eq_true] at h
  have h1 := zEn_pr hE h.1 (zE_ac hX)
  have h2 := zEn_pr hE h.2 (zE_ac (zE_neg hX))
  have : Int.neg hi = - hi := rfl
  rw [this] at h1
  omega
theorem zex_ok (hE : zEn en r) (hX : zE r e X) (h1 : lo ≤ z) (h2 : z ≤ hi) (h : lo ≤ X → X ≤ hi → z = X) : zRs r (zex en lo hi e) z := by
  unfold zex
  rw [cond_eq_ite]
  split
  · rename_i q
    obtain ⟨q1, q2⟩ := zin_ok hE q hX
    rw [h q1 q2]
    exact zid_ok hE hX
  · exact zfr_ok hE h1 h2
theorem zI_b (x : Int32) : -2147483648 ≤ x.toInt ∧ x.toInt ≤ 2147483647 := by
  have h1 := Int32.le_toInt x
  have h2 := Int32.toInt_lt x
  omega
theorem zJ_b (u : Int64) : -9223372036854775808 ≤ u.toInt ∧ u.toInt ≤ 9223372036854775807 := by
  have h1 := Int64.le_toInt u
  have h2 := Int64.toInt_lt u
  omega
theorem zai_ok (hE : zEn en r) (x : Int32) : zRs r (zai en) x.toInt := zfr_ok hE (zI_b x).1 (zI_b x).2
theorem zal_ok (hE : zEn en r) (u : Int64) : zRs r (zal en) u.toInt := zfr_ok hE (zJ_b u).1 (zJ_b u).2
theorem zbm32 {X : Int} (h1 : -2147483648 ≤ X) (h2 : X ≤ 2147483647) : X.bmod (2 ^ 32) = X := by
  rw [Int.bmod_def]
  split <;> omega
theorem zbm64 {X : Int} (h1 : -9223372036854775808 ≤ X) (h2 : X ≤ 9223372036854775807) : X.bmod (2 ^ 64) = X := by
  rw [Int.bmod_def]
  split <;> omega
theorem zcst_ok {c : Int} (h : zcst a = some c) (hX : zE r a X) : X = c := by
  unfold zcst at h
  split at h
  · rename_i q
    obtain ⟨y, h1, rfl⟩ := hX
    rw [q] at h1
    cases h1
    have := Option.some.inj h
    omega
  · cases h
theorem zi_add_ok (hE : zEn en r) (ha : zE r a x.toInt) (hb : zE r b y.toInt) : zRs r (zi_add en a b) (x + y).toInt :=
  zex_ok hE (zE_add ha hb) (zI_b _).1 (zI_b _).2 (fun h1 h2 => by rw [Int32.toInt_add]; exact zbm32 h1 h2)
theorem zi_sub_ok (hE : zEn en r) (ha : zE r a x.toInt) (hb : zE r b y.toInt) : zRs r (zi_sub en a b) (x - y).toInt :=
  zex_ok hE (zE_sub ha hb) (zI_b _).1 (zI_b _).2 (fun h1 h2 => by rw [Int32.toInt_sub]; exact zbm32 h1 h2)
theorem zi_mul_ok (hE : zEn en r) (ha : zE r a x.toInt) (hb : zE r b y.toInt) : zRs r (zi_mul en a b) (x * y).toInt := by
  unfold zi_mul
  split
  · rename_i c hc
    have := zcst_ok hc hb
    exact zex_ok hE (zE_scl c ha) (zI_b _).1 (zI_b _).2 (fun h1 h2 => by rw [Int32.toInt_mul, this, Int.mul_comm]; exact zbm32 h1 h2)
  · rename_i c _ hc
    have := zcst_ok (by assumption) ha
    exact zex_ok hE (zE_scl c hb) (zI_b _).1 (zI_b _).2 (fun h1 h2 => by rw [Int32.toInt_mul, this]; exact zbm32 h1 h2)
  · exact zai_ok hE _
theorem zl_sub_ok (hE : zEn en r) (ha : zE r a u.toInt) (hb : zE r b w.toInt) : zRs r (zl_sub en a b) (u - w).toInt :=
  zex_ok hE (zE_sub ha hb) (zJ_b _).1 (zJ_b _).2 (fun h1 h2 => by rw [Int64.toInt_sub]; exact zbm64 h1 h2)
theorem zl_mul_ok (hE : zEn en r) (ha : zE r a u.toInt) (hb : zE r b w.toInt) : zRs r (zl_mul en a b) (u * w).toInt := by
  unfold zl_mul
  split
  · rename_i c hc
    have := zcst_ok hc hb
    exact zex_ok hE (zE_scl c ha) (zJ_b _).1 (zJ_b _).2 (fun h1 h2 => by rw [Int64.toInt_mul, this, Int.mul_comm]; exact zbm64 h1 h2)
  · rename_i c _ hc
    have := zcst_ok (by assumption) ha
    exact zex_ok hE (zE_scl c hb) (zJ_b _).1 (zJ_b _).2 (fun h1 h2 => by rw [Int64.toInt_mul, this]; exact zbm64 h1 h2)
  · exact zal_ok hE _
/-- an int by its bits -/
theorem zI_nat (x : Int32) : x.toInt = if x.toBitVec.toNat < 2147483648 then (x.toBitVec.toNat : Int) else (x.toBitVec.toNat : Int) - 4294967296 := by
  have h : x.toInt = x.toBitVec.toInt := rfl
  rw [h, BitVec.toInt_eq_toNat_cond]
  have := x.toBitVec.isLt
  split <;> split <;> omega
theorem zI_ofNat {c : Int} (h : y.toInt = c) (h0 : 0 ≤ c) : y.toBitVec.toNat = c.toNat := by
  have h1 := zI_nat y
  have := y.toBitVec.isLt
  split at h1 <;> omega
theorem zand_b {c : Int} (hy : y.toInt = c) (h0 : 0 ≤ c) : 0 ≤ (x &&& y).toInt ∧ (x &&& y).toInt ≤ c := by
  have h1 := zI_nat (x &&& y)
  rw [Int32.toBitVec_and, BitVec.toNat_and, zI_ofNat hy h0] at h1
  have h2 := Nat.and_le_right (n := x.toBitVec.toNat) (m := c.toNat)
  have h3 := (zI_b y).2
  split at h1 <;> omega
theorem zand15 (hy : y.toInt = 15) : (x &&& y).toInt = x.toInt % 16 := by
  have h1 := zI_nat (x &&& y)
  have e15 : (15 : Int).toNat = 2 ^ 4 - 1 := rfl
  rw [Int32.toBitVec_and, BitVec.toNat_and, zI_ofNat hy (by decide), e15, Nat.and_two_pow_sub_one_eq_mod] at h1
  have h2 := zI_nat x
  have h3 : x.toBitVec.toNat % 2 ^ 4 < 16 := Nat.mod_lt _ (by decide)
  split at h1 <;> split at h2 <;> omega
theorem zand255 (hy : y.toInt = 255) : (x &&& y).toInt = x.toInt % 256 := by
  have h1 := zI_nat (x &&& y)
  have e15 : (255 : Int).toNat = 2 ^ 8 - 1 := rfl
  rw [Int32.toBitVec_and, BitVec.toNat_and, zI_ofNat hy (by decide), e15, Nat.and_two_pow_sub_one_eq_mod] at h1
  have h2 := zI_nat x
  have h3 : x.toBitVec.toNat % 2 ^ 8 < 256 := Nat.mod_lt _ (by decide)
  split at h1 <;> split at h2 <;> omega
theorem zev_split {d : Int} : ∀ {t : List (Nat × Int)} {v : Int}, zev r t = some v → ∃ p q, zev r (zdv d t) = some p ∧ zev r (znd d t) = some q ∧ v = d * p + q
  | [], v, h => ⟨0, 0, rfl, rfl, by cases h; omega⟩
  | (k, c) :: t, v, h => by
    obtain ⟨x, y, h1, h2, rfl⟩ := zev_cons.mp h
    obtain ⟨p, q, h3, h4, rfl⟩ := zev_split (d := d) h2
    simp only [zdv, znd, cond_eq_ite]
    have ed : Int.ediv c d = c / d := rfl
    have em : Int.emod c d = c % d := rfl
    split
    · rename_i h0
      have h0 := zeq_iff.mp h0
      rw [em] at h0
      refine ⟨c / d * x + p, q, zev_cons.mpr ⟨x, p, h1, h3, by rw [ed]⟩, h4, ?_⟩
      have h5 : c = d * (c / d) := by have := Int.mul_ediv_add_emod c d; omega
      rw [Int.mul_add, ← Int.mul_assoc, ← h5]
      omega
    · exact ⟨p, c * x + q, h3, zev_cons.mpr ⟨x, q, h1, h4, rfl⟩, by omega⟩
theorem zsplit {d : Int} (ha : zE r a X) : ∃ p q, zE r (zquo d a) p ∧ zE r (zrem d a) q ∧ X = d * p + q := by
  obtain ⟨v, h1, rfl⟩ := ha
  obtain ⟨p, q, h2, h3, rfl⟩ := zev_split (d := d) h1
  have ed : Int.ediv a.1 d = a.1 / d := rfl
  have em : Int.emod a.1 d = a.1 % d := rfl
  refine ⟨a.1 / d + p, a.1 % d + q, ⟨p, h2, by simp only [zquo, ed]⟩, ⟨q, h3, by simp only [zrem, em]⟩, ?_⟩
  have h5 := Int.mul_ediv_add_emod a.1 d
  rw [Int.mul_add]
  omega
theorem zi_and_ok (hE : zEn en r) (ha : zE r a x.toInt) (hb : zE r b y.toInt) : zRs r (zi_and en a b) (x &&& y).toInt := by
  unfold zi_and
  split
  · rename_i c hc
    have hy := zcst_ok hc hb
    rw [cond_eq_ite]
    split
    · rename_i h0
      have h0 := zle_iff.mp h0
      rw [cond_eq_ite]
      split
      · rename_i h1
        rw [Bool.and_eq_true] at h1
        have h15 := zeq_iff.mp h1.1
        subst h15
        obtain ⟨p, q, -, h2, h3⟩ := zsplit (d := 16) ha
        have h4 := zin_ok hE h1.2 h2
        rw [zand15 hy]
        have : x.toInt % 16 = q := by omega
        rw [this]
        exact zid_ok hE h2
      · exact zfr_ok hE (zand_b hy h0).1 (zand_b hy h0).2
    · exact zai_ok hE _
  · exact zai_ok hE _
theorem zor_ok {c : Int} (hy : y.toInt = c) (h0 : 0 ≤ c) (h1 : c ≤ 15) (hx : x.toInt % 16 = 0) : (x ||| y).toInt = x.toInt + c := by
  have h2 := zI_nat (x ||| y)
  have h3 := zI_nat x
  have h4 : x.toBitVec.toNat % 16 = 0 := by split at h3 <;> omega
  have h5 : x.toBitVec.toNat = 2 ^ 4 * (x.toBitVec.toNat / 16) := by omega
  rw [Int32.toBitVec_or, BitVec.toNat_or, zI_ofNat hy h0] at h2
  have h6 := Nat.two_pow_add_eq_or_of_lt (i := 4) (b := c.toNat) (by omega) (x.toBitVec.toNat / 16)
  rw [← h5] at h6
  rw [← h6] at h2
  have := x.toBitVec.isLt
  split at h2 <;> split at h3 <;> omega
theorem zi_or_ok (hE : zEn en r) (ha : zE r a x.toInt) (hb : zE r b y.toInt) : zRs r (zi_or en a b) (x ||| y).toInt := by
  unfold zi_or
  split
  · rename_i c hc
    have hy := zcst_ok hc hb
    rw [cond_eq_ite]
    split
    · rename_i h0
      simp only [Bool.and_eq_true] at h0
      have e0 := zeqL_eq h0.2.2
      obtain ⟨p, q, -, h2, h3⟩ := zsplit (d := 16) ha
      rw [e0] at h2
      have hq := zE_fun h2 (zE_K (r := r) (c := 0))
      rw [zor_ok hy (zle_iff.mp h0.1) (zle_iff.mp h0.2.1) (by omega)]
      exact zid_ok hE (zE_ac ha)
    · exact zai_ok hE _
  · exact zai_ok hE _
theorem z431 (hy : y.toInt = 4) : y = 4 := Int32.toInt_inj.mp (by rw [hy]; rfl)
theorem zshl_n : (x <<< ((4 : Int32) &&& 31)).toBitVec.toNat = x.toBitVec.toNat * 16 % 4294967296 := by
  rw [Int32.toBitVec_shiftLeft]
  show (x.toBitVec <<< (4 : Nat)).toNat = _
  rw [BitVec.toNat_shiftLeft, Nat.shiftLeft_eq]
theorem zi_shl_ok (hE : zEn en r) (ha : zE r a x.toInt) (hb : zE r b y.toInt) : zRs r (zi_shl en a b) (x <<< (y &&& 31)).toInt := by
  unfold zi_shl
  split
  · rename_i c hc
    have hy := zcst_ok hc hb
    rw [cond_eq_ite]
    split
    · rename_i h4
      have h4 := zeq_iff.mp h4
      subst h4
      have := z431 hy
      subst this
      have h1 := zI_nat (x <<< ((4 : Int32) &&& 31))
      rw [zshl_n] at h1
      have h2 := zI_nat x
      rw [cond_eq_ite]
      split
      · rename_i q
        have h3 := zin_ok hE q (zE_scl 16 ha)
        have : (x <<< ((4 : Int32) &&& 31)).toInt = 16 * x.toInt := by split at h1 <;> split at h2 <;> omega
        rw [this]
        exact zid_ok hE (zE_scl 16 ha)
      · obtain ⟨o, ho1, ho2, ho3⟩ : ∃ o : Int, -134217728 ≤ o ∧ o ≤ 134217727 ∧ (x <<< ((4 : Int32) &&& 31)).toInt = 16 * o := by
          refine ⟨(x <<< ((4 : Int32) &&& 31)).toInt / 16, ?_, ?_, ?_⟩ <;> split at h1 <;> omega
        obtain ⟨s, q1, q2⟩ := zfr_ok hE ho1 ho2
        rw [ho3]
        exact ⟨s, q1, zE_scl 16 q2⟩
    · exact zai_ok hE _
  · exact zai_ok hE _
theorem zi_shr_ok (hE : zEn en r) (ha : zE r a x.toInt) (hb : zE r b y.toInt) : zRs r (zi_shr en a b) (x >>> (y &&& 31)).toInt := by
  unfold zi_shr
  split
  · rename_i c hc
    have hy := zcst_ok hc hb
    rw [cond_eq_ite]
    split
    · rename_i h0
      rw [Bool.and_eq_true] at h0
      have h4 := zeq_iff.mp h0.1
      subst h4
      have := z431 hy
      subst this
      obtain ⟨p, q, h1, h2, h3⟩ := zsplit (d := 16) ha
      have h5 := zin_ok hE h0.2 h2
      have : (x >>> ((4 : Int32) &&& 31)).toInt = x.toInt / 16 := by
        show (x >>> ((4 : Int32) &&& 31)).toBitVec.toInt = _
        rw [Int32.toBitVec_shiftRight]
        show (x.toBitVec.sshiftRight 4).toInt = _
        rw [BitVec.toInt_sshiftRight, Int.shiftRight_eq_div_pow]
        rfl
      rw [this, show x.toInt / 16 = p by omega]
      exact zid_ok hE h1
    · exact zai_ok hE _
  · exact zai_ok hE _
theorem zpos_ok (hE : zEn en r) (h : zpos en b = true) (hb : zE r b Y) : 1 ≤ Y := by
  have := zEn_pr hE h (zE_ac (zE_neg hb))
  omega
theorem zmin_ok (hE : zEn en r) (h : zmin en b = true) (hb : zE r b Y) : Y ≤ -1 := by
  have := zEn_pr hE h (zE_ac hb)
  omega
theorem znon_ok (hE : zEn en r) (h : znon en b = true) (hb : zE r b Y) : 0 ≤ Y := by
  have := zEn_pr hE h (zE_neg hb)
  omega
theorem zubd_ok (hE : zEn en r) (hb : zE r b Y) (h : Y ≤ 9223372036854775807) : Y ≤ zubd en b := by
  unfold zubd
  split
  · rename_i u hu
    exact zub_le hE.1 hu hb
  · exact h
theorem ztd_b {A B : Int} (hB : 1 ≤ B) (h1 : -2147483648 ≤ A) (h2 : A ≤ 2147483647) : -2147483648 ≤ A.tdiv B ∧ A.tdiv B ≤ 2147483647 := by
  have h := Int.natAbs_tdiv_le_natAbs A B
  rcases (by omega : A < 0 ∨ 0 ≤ A) with hn | hp
  · have h3 := Int.tdiv_nonneg (a := -A) (b := B) (by omega) (by omega)
    rw [Int.neg_tdiv] at h3
    omega
  · have h3 := Int.tdiv_nonneg (a := A) (b := B) (by omega) (by omega)
    omega
theorem zdiv_i (h : 1 ≤ y.toInt) : (x / y).toInt = x.toInt.tdiv y.toInt := by
  rw [Int32.toInt_div]
  exact zbm32 (ztd_b h (zI_b x).1 (zI_b x).2).1 (ztd_b h (zI_b x).1 (zI_b x).2).2
theorem zrem_i (h : 1 ≤ y.toInt) : (x - x / y * y).toInt = x.toInt.tmod y.toInt := by
  have e : x.toInt.tdiv y.toInt * y.toInt = x.toInt - x.toInt.tmod y.toInt := by
    have := Int.tdiv_mul_add_tmod x.toInt y.toInt
    omega
  have hm : -2147483648 ≤ x.toInt.tmod y.toInt ∧ x.toInt.tmod y.toInt ≤ 2147483647 := by
    have h1 := Int.natAbs_tmod x.toInt y.toInt
    have h2 := (zI_b x)
    have h3 : x.toInt.natAbs % y.toInt.natAbs ≤ x.toInt.natAbs := Nat.mod_le _ _
    have h4 : x.toInt.natAbs % y.toInt.natAbs < y.toInt.natAbs := Nat.mod_lt _ (by omega)
    have h5 := zI_b y
    omega
  rw [Int32.toInt_sub, Int32.toInt_mul, zdiv_i h, e]
  rw [Int.sub_bmod_bmod]
  rw [show x.toInt - (x.toInt - x.toInt.tmod y.toInt) = x.toInt.tmod y.toInt by omega]
  exact zbm32 hm.1 hm.2
theorem zi_div_ok {q : zL × zN} (hE : zEn en r) (ha : zE r a x.toInt) (hb : zE r b y.toInt) (h : zi_div en a b = some q) : y ≠ 0 ∧ zRs r q (x / y).toInt := by
  unfold zi_div at h
  rw [cond_eq_ite] at h
  split at h
  · rename_i hp
    have hy := zpos_ok hE hp hb
    refine ⟨fun e => by rw [e] at hy; exact absurd hy (by decide), ?_⟩
    split at h
    · rename_i cx cy hcx hcy
      have h := Option.some.inj h
      rw [← h, cond_eq_ite]
      split
      · rename_i h0
        have h0 := zle_iff.mp h0
        have e1 := zcst_ok hcx ha
        have e2 := zcst_ok hcy hb
        have : (x / y).toInt = Int.ediv cx cy := by
          rw [zdiv_i hy, e1, e2]
          exact Int.tdiv_eq_ediv_of_nonneg h0
        rw [this]
        exact zid_ok hE zE_K
      · exact zai_ok hE _
    · have h := Option.some.inj h
      rw [← h, cond_eq_ite]
      split
      · rename_i h0
        have h0 := znon_ok hE h0 ha
        refine zfr_ok hE ?_ (zI_b _).2
        rw [zdiv_i hy]
        exact Int.tdiv_nonneg h0 (by omega)
      · exact zai_ok hE _
  · rw [cond_eq_ite] at h
    split at h
    · rename_i hm
      have hy := zmin_ok hE hm hb
      refine ⟨fun e => by rw [e] at hy; exact absurd hy (by decide), ?_⟩
      have h := Option.some.inj h
      rw [← h]
      exact zai_ok hE _
    · cases h
theorem zi_rem_ok {q : zL × zN} (hE : zEn en r) (ha : zE r a x.toInt) (hb : zE r b y.toInt) (h : zi_rem en a b = some q) : y ≠ 0 ∧ zRs r q (x - x / y * y).toInt := by
  unfold zi_rem at h
  rw [cond_eq_ite] at h
  split at h
  · rename_i hp
    have hy := zpos_ok hE hp hb
    refine ⟨fun e => by rw [e] at hy; exact absurd hy (by decide), ?_⟩
    have hu := zubd_ok hE hb (by have := zI_b y; omega)
    have hl : (x.toInt.tmod y.toInt).natAbs < y.toInt.natAbs := by
      rw [Int.natAbs_tmod]
      exact Nat.mod_lt _ (by omega)
    have e1 : Int.sub (zubd en b) 1 = zubd en b - 1 := rfl
    have e2 : Int.sub 1 (zubd en b) = 1 - zubd en b := rfl
    have h := Option.some.inj h
    rw [← h, cond_eq_ite, zrem_i hy]
    split
    · rename_i h0
      have h0 := znon_ok hE h0 ha
      have := Int.tmod_nonneg y.toInt h0
      exact zfr_ok hE this (by rw [e1]; omega)
    · exact zfr_ok hE (by rw [e2]; omega) (by rw [e1]; omega)
  · rw [cond_eq_ite] at h
    split at h
    · rename_i hm
      have hy := zmin_ok hE hm hb
      refine ⟨fun e => by rw [e] at hy; exact absurd hy (by decide), ?_⟩
      have h := Option.some.inj h
      rw [← h]
      exact zai_ok hE _
    · cases h
theorem zl_div_ok {q : zL × zN} (hE : zEn en r) (hb : zE r b w.toInt) (h : zl_div en a b = some q) : w ≠ 0 ∧ zRs r q (u / w).toInt := by
  unfold zl_div at h
  rw [cond_eq_ite] at h
  split at h
  · rename_i hp
    refine ⟨fun e => ?_, ?_⟩
    · rw [Bool.or_eq_true] at hp
      rcases hp with hp | hp
      · have hy := zpos_ok hE hp hb; rw [e] at hy; exact absurd hy (by decide)
      · have hy := zmin_ok hE hp hb; rw [e] at hy; exact absurd hy (by decide)
    · have h := Option.some.inj h
      rw [← h]
      exact zal_ok hE _
  · cases h
theorem zrem_l (h : 1 ≤ w.toInt) (h0 : 0 ≤ u.toInt) : 0 ≤ (u - u / w * w).toInt ∧ (u - u / w * w).toInt < w.toInt := by
  have hu := zJ_b u
  have hw := zJ_b w
  have h1 := Int.natAbs_tdiv_le_natAbs u.toInt w.toInt
  have hd : (u / w).toInt = u.toInt.tdiv w.toInt := by
    rw [Int64.toInt_div]
    have := Int.tdiv_nonneg h0 (show 0 ≤ w.toInt by omega)
    exact zbm64 (by omega) (by omega)
  have e : u.toInt.tdiv w.toInt * w.toInt = u.toInt - u.toInt.tmod w.toInt := by
    have := Int.tdiv_mul_add_tmod u.toInt w.toInt
    omega
  have h2 := Int.tmod_nonneg w.toInt h0
  have h3 := Int.tmod_lt_of_pos u.toInt (show 0 < w.toInt by omega)
  have : (u - u / w * w).toInt = u.toInt.tmod w.toInt := by
    rw [Int64.toInt_sub, Int64.toInt_mul, hd, e, Int.sub_bmod_bmod]
    rw [show u.toInt - (u.toInt - u.toInt.tmod w.toInt) = u.toInt.tmod w.toInt by omega]
    exact zbm64 (by omega) (by omega)
  rw [this]
  exact ⟨h2, h3⟩
theorem zl_rem_ok {q : zL × zN} (hE : zEn en r) (ha : zE r a u.toInt) (hb : zE r b w.toInt) (h : zl_rem en a b = some q) : w ≠ 0 ∧ zRs r q (u - u / w * w).toInt := by
  unfold zl_rem at h
  rw [cond_eq_ite] at h
  split at h
  · rename_i hp
    have hy := zpos_ok hE hp hb
    refine ⟨fun e => by rw [e] at hy; exact absurd hy (by decide), ?_⟩
    rw [cond_eq_ite] at h
    split at h
    · rename_i h0
      have h0 := znon_ok hE h0 ha
      have h := Option.some.inj h
      obtain ⟨h1, h2⟩ := zrem_l hy h0
      have hub := zubd_ok hE hb (zJ_b w).2
      rw [← h]
      refine ⟨[(u - u / w * w).toInt], ⟨zB_app hE.1 h1 (by omega), ?_, zPd_mono _ hE.2.2⟩, zX_app hE.1⟩
      intro f hf
      rcases List.mem_append.mp hf with g | g
      · exact zFa_mono _ hE.2.1 f g
      · rw [List.mem_singleton.mp g]
        exact ⟨_, zE_ac (zE_sub (zX_app hE.1) (zE_mono _ hb)), by omega⟩
    · have h := Option.some.inj h
      rw [← h]
      exact zal_ok hE _
  · rw [cond_eq_ite] at h
    split at h
    · rename_i hm
      have hy := zmin_ok hE hm hb
      refine ⟨fun e => by rw [e] at hy; exact absurd hy (by decide), ?_⟩
      have h := Option.some.inj h
      rw [← h]
      exact zal_ok hE _
    · cases h
theorem zmx_ok (hE : zEn en r) (ha : zE r a x.toInt) (hb : zE r b y.toInt) : zRs r (zmx en a b) (if x < y then y else x).toInt := by
  have hz : x.toInt ≤ (if x < y then y else x).toInt ∧ y.toInt ≤ (if x < y then y else x).toInt ∧ ((if x < y then y else x).toInt = x.toInt ∨ (if x < y then y else x).toInt = y.toInt) := by
    split <;> rename_i g <;> rw [Int32.lt_iff_toInt_lt] at g <;> omega
  have hzb := zI_b (if x < y then y else x)
  generalize (if x < y then y else x).toInt = z at hz hzb
  obtain ⟨z1, z2, z3⟩ := hz
  unfold zmx
  rw [cond_eq_ite]
  split
  · rename_i h
    have := zEn_pr hE h (zE_sub ha hb)
    rw [show z = y.toInt by omega]
    exact zid_ok hE hb
  · rw [cond_eq_ite]
    split
    · rename_i h
      have := zEn_pr hE h (zE_sub hb ha)
      rw [show z = x.toInt by omega]
      exact zid_ok hE ha
    · split
      · rename_i l m h k hl hm hh hk
        have q1 := zub_le hE.1 hl (zE_neg ha)
        have q2 := zub_le hE.1 hm (zE_neg hb)
        have q3 := zub_le hE.1 hh ha
        have q4 := zub_le hE.1 hk hb
        have el : Int.neg l = -l := rfl
        have em : Int.neg m = -m := rfl
        refine zfr_ok hE ?_ ?_
        · rw [cond_eq_ite, el, em]; split <;> rename_i g <;> rw [zle_iff] at g <;> omega
        · rw [cond_eq_ite]; split <;> rename_i g <;> rw [zle_iff] at g <;> omega
      · exact zfr_ok hE hzb.1 hzb.2
theorem zmn_ok (hE : zEn en r) (ha : zE r a x.toInt) (hb : zE r b y.toInt) : zRs r (zmn en a b) (if y < x then y else x).toInt := by
  have hz : (if y < x then y else x).toInt ≤ x.toInt ∧ (if y < x then y else x).toInt ≤ y.toInt ∧ ((if y < x then y else x).toInt = x.toInt ∨ (if y < x then y else x).toInt = y.toInt) := by
    split <;> rename_i g <;> rw [Int32.lt_iff_toInt_lt] at g <;> omega
  have hzb := zI_b (if y < x then y else x)
  generalize (if y < x then y else x).toInt = z at hz hzb
  obtain ⟨z1, z2, z3⟩ := hz
  unfold zmn
  rw [cond_eq_ite]
  split
  · rename_i h
    have := zEn_pr hE h (zE_sub ha hb)
    rw [show z = x.toInt by omega]
    exact zid_ok hE ha
  · rw [cond_eq_ite]
    split
    · rename_i h
      have := zEn_pr hE h (zE_sub hb ha)
      rw [show z = y.toInt by omega]
      exact zid_ok hE hb
    · split
      · rename_i l m h k hl hm hh hk
        have q1 := zub_le hE.1 hl (zE_neg ha)
        have q2 := zub_le hE.1 hm (zE_neg hb)
        have q3 := zub_le hE.1 hh ha
        have q4 := zub_le hE.1 hk hb
        have el : Int.neg l = -l := rfl
        have em : Int.neg m = -m := rfl
        refine zfr_ok hE ?_ ?_
        · rw [cond_eq_ite, el, em]; split <;> rename_i g <;> rw [zle_iff] at g <;> omega
        · rw [cond_eq_ite]; split <;> rename_i g <;> rw [zle_iff] at g <;> omega
      · exact zfr_ok hE hzb.1 hzb.2
end ZO
