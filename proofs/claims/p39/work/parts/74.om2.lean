/-! WHAT IS SO WHILE A HOUSE IS READ: the house in use as it was; of the other, what is read so far, or a fault -/
def zRI (h : mH) : Prop := 560 * zI h 469 35 ≤ zI h 469 36 ∧ zI h 469 36 ≤ 560 * zI h 469 35 + 9 * zI h 481 (zI h 469 35) ∧ 0 ≤ zI h 481 (zI h 469 35) ∧ zI h 481 (zI h 469 35) ≤ 60 ∧
  ∀ s : Int, 0 ≤ s → s < zI h 479 (zI h 469 35) → ∃ (n : Nat) (H : Int), zI h 487 (4 * zI h 469 35 + s) = zI h 486 (4 * zI h 469 35 + s) + n ∧ zhg (zI h 490) (zI h 486 (4 * zI h 469 35 + s)) n H ∧ 560 * zI h 469 35 ≤ zI h 486 (4 * zI h 469 35 + s) ∧ zI h 487 (4 * zI h 469 35 + s) ≤ zI h 469 36
def zOm2 (h : mH) : Prop := zOm h ∧ (zI h 469 35 = 0 ∨ zI h 469 35 = 1) ∧ zI h 469 34 = 1 - zI h 469 35 ∧ zI h 479 (zI h 469 34) ≤ 4 ∧ (1 ≤ zI h 469 4 ∨ zRI h)
noncomputable def zOm2w (W : zW) : Bool := zOmw W && (!(zw W 469 4) && (!(zw W 469 35) && (!(zw W 469 36) && (zjs W 481).isEmpty)))
theorem zOm2_st {W : zW} (hw : zOm2w W = true) : ∀ h h', zOm2 h → zsm W h h' → zOm2 h' := by
  rintro h h' ⟨hO, hb, hk, h4, hr⟩ hs
  unfold zOm2w at hw
  simp only [Bool.and_eq_true, List.isEmpty_iff, Bool.not_eq_true'] at hw
  obtain ⟨w0, w1, w2, w3, w4⟩ := hw
  have hO' := zOm_st w0 h h' hO hs
  unfold zOmw at w0
  simp only [Bool.and_eq_true, List.isEmpty_iff, Bool.not_eq_true'] at w0
  obtain ⟨x1, x2, x3, x4, x5⟩ := w0
  have ho := hO.1
  have e1 : zI h' 490 = zI h 490 := funext (zI_sm hs x1)
  have e2 : zI h' 486 = zI h 486 := funext (zI_sm hs x2)
  have e3 : zI h' 487 = zI h 487 := funext (zI_sm hs x3)
  have e4 : zI h' 479 = zI h 479 := funext (zI_sm hs x4)
  have e5 : zI h' 469 34 = zI h 469 34 := zI_smf (j := 34) hs ho x5
  have e6 : zI h' 469 4 = zI h 469 4 := zI_smf (j := 4) hs ho w1
  have e7 : zI h' 469 35 = zI h 469 35 := zI_smf (j := 35) hs ho w2
  have e8 : zI h' 469 36 = zI h 469 36 := zI_smf (j := 36) hs ho w3
  have e9 : zI h' 481 = zI h 481 := funext (zI_sm hs w4)
  refine ⟨hO', by rw [e7]; exact hb, by rw [e5, e7]; exact hk, by rw [e4, e5]; exact h4, ?_⟩
  unfold zRI at hr ⊢
  rw [e1, e2, e3, e4, e6, e7, e8, e9]
  exact hr
theorem zOm2_up {S : Nat × (Nat → Int32)} {ct : zCt} (hw : zOm2w ct.2.2.2.2.2.2.1 = true) (h : zCtr mi_P S zTt ct) : zCtr mi_P S zOm2 ct := zCtr_up (zOm2_st hw) h
/-- a contract whose own writes are fewer than those of what it calls -/
theorem zCtr_of2 {P : mP} {S : Nat × (Nat → Int32)} {Om : mH → Prop} {ct : zCt} {ps : List (zPo × List (Nat ⊕ (Nat × zL)))} {cuts : List zCu} {cts : List zCt} {nf fk : List (Nat × Nat)} {fuel : Nat} {Wd : zW} (hWd : zwle Wd ct.2.2.2.2.2.2.1 = true) (hOm : ∀ h h', Om h → zsm Wd h h' → Om h') (hps : ct.2.2.2.2.2.2.2.2 = ps.map (fun p => p.1)) (hc : ∀ c ∈ cts, zCtr P S Om c) (hw : zwin ct.2.2.2.2.2.2.1 ct.2.2.2.2.2.1 = true)
    (h0 : zst0 P Wd nf fk (fun d y as t en => zcal ct.2.2.2.2.2.2.1 d y as t en cts) ct ps cuts fuel = true)
    (hk : cuts.all (zck P ct.2.1 Wd false nf fk (fun d y as t en => zcal ct.2.2.2.2.2.2.1 d y as t en cts) ct.2.2.2.1.length ct.2.2.2.1 ct.2.2.2.2.2.1 ps cuts fuel) = true) : zCtr P S Om ct := by
  refine ⟨hw, fun D hD r as h hO hB hF hA hH => mi_T_d hD ?_⟩
  have hJ : ∀ h1 h2, (zsm ct.2.2.2.2.2.2.1 h h1 ∧ Om h1) → zsm Wd h1 h2 → (zsm ct.2.2.2.2.2.2.1 h h2 ∧ Om h2) := fun h1 h2 q z => ⟨zsm_tr q.1 z (zwle_ok hWd), hOm _ _ q.2 z⟩
  have hcal := zcal_ok (P := P) (S := S) (W := ct.2.2.2.2.2.2.1) (J := fun h' => zsm ct.2.2.2.2.2.2.1 h h' ∧ Om h') (fun h1 q => q.2) (fun h1 h2 q z o => ⟨zsm_tr q.1 z (fun _ _ z => z), o⟩) hc
  have hLs : zLs false S r := fun q => by cases q
  have hJs : ∀ h1, (zsm ct.2.2.2.2.2.2.1 h h1 ∧ Om h1) → zsm ct.2.2.2.2.2.2.1 h h1 ∧ Om h1 := fun h1 q => q
  have hcut := zcuts_ok (W := Wd) (D := ct.2.1) (r0 := r) hJs (bd := ct.2.2.2.1) (pre := ct.2.2.2.2.2.1) (ps := ps) (cuts := cuts) (fuel := fuel) (nf := nf) (fk := fk) hLs hJ hcal (by
    intro F hF
    have := List.all_eq_true.mp hk F hF
    rw [hB.1] at this
    exact this)
  rw [hps]
  unfold zst0 at h0
  split at h0
  · rename_i vs en hm
    obtain ⟨s, hE, hS⟩ := zmta_ok hm ⟨hB, hF, fun q hq => by cases hq⟩ hA
    have hstop : ∀ x, (zstp? ct.2.2.2.1.length cuts none x || zfin P ct.2.2.2.1.length ct.2.2.2.1 ct.2.2.2.2.2.1 ps x) = true → zG P S ct.2.1 (fun h' => zsm ct.2.2.2.2.2.2.1 h h' ∧ Om h') r (fun x h' => zQo ct.2.2.2.1 ct.2.2.2.2.2.2.1 ct.2.2.2.2.2.1 (ps.map (fun p => p.1)) r h x h' ∧ Om h') x := by
      intro x hx r2 fs2 h2 hR2
      rw [Bool.or_eq_true, hB.1] at hx
      rcases hx with hx | hx
      · obtain ⟨F', hF', hm⟩ := List.any_eq_true.mp hx
        rw [Bool.and_eq_true] at hm
        obtain ⟨r1', hR', -⟩ := zmtc_ok hm.2 hR2
        have hck := List.all_eq_true.mp hk F' hF'
        unfold zck at hck
        rw [Bool.and_eq_true] at hck
        have hmu : ∃ y, zE (r ++ r1') F'.2.2 y := by
          have h1 := hck.1
          rw [Bool.and_eq_true] at h1
          obtain ⟨u, hu⟩ := Option.isSome_iff_exists.mp h1.1
          obtain ⟨y, hy, -⟩ := zub_ok hR'.2.2.1.1 hu
          exact ⟨y, hy⟩
        obtain ⟨y, hy⟩ := hmu
        exact hcut (y.toNat + 1) F' hF' r1' fs2 h2 y hR' hy (by omega)
      · exact zfin_ok hJs hx hR2
    have := zrun_ok hLs hJ hcal hstop fuel _ h0 _ (List.mem_singleton_self _) s [(ct.1, (0, mi_ent 0 as, []))] h ⟨⟨_, _, [], rfl, zent_ok 0 hS, rfl, rfl⟩, zHp_mono s hH, hE, zsm_rf, hO⟩
    exact this
  · cases h0
/-- a fault is what it leaves -/
theorem zOm2_F {S : Nat × (Nat → Int32)} {ct : zCt} (hw : zOmw ct.2.2.2.2.2.2.1 = true) (h35 : zw ct.2.2.2.2.2.2.1 469 35 = false) (hp : ct.2.2.2.2.2.2.2.2.all (fun po => zpwb po.2.2.1 469 (zK 4) 1 4) = true) (h : zCtr mi_P S zTt ct) : zCtr mi_P S zOm2 ct := by
  refine ⟨h.1, fun D hD r as hh hO hB hF hA hH => mi_T_mono (h.2 D hD r as hh trivial hB hF hA hH) ?_⟩
  rintro x h' ⟨q, -⟩
  refine ⟨q, ?_⟩
  obtain ⟨hO, hb, hk, h4, hr⟩ := hO
  obtain ⟨hs, -, po, hpo, s, -, -, pw, -⟩ := q
  have z4 := zPw_cb pw (List.all_eq_true.mp hp po hpo) zE_K
  have hO' := zOm_st hw hh h' hO hs
  have ho := hO.1
  unfold zOmw at hw
  simp only [Bool.and_eq_true, List.isEmpty_iff, Bool.not_eq_true'] at hw
  have e4 : zI h' 479 = zI hh 479 := funext (zI_sm hs hw.2.2.2.1)
  have e5 : zI h' 469 34 = zI hh 469 34 := zI_smf (j := 34) hs ho hw.2.2.2.2
  have e7 : zI h' 469 35 = zI hh 469 35 := zI_smf (j := 35) hs ho h35
  exact ⟨hO', by rw [e7]; exact hb, by rw [e5, e7]; exact hk, by rw [e4, e5]; exact h4, Or.inl z4.1⟩
