/-! drought -/
section DROUGHT6
variable {S : ss_S} {u s : Nat} {k c : Nat} {C : Nat → Nat × Nat} {L : Nat → Nat × Nat × Nat × Nat} {M M0 M1 M2 : mm_M}
def d_ans (k : Nat) (C : Nat → Nat × Nat) (L : Nat → Nat × Nat × Nat × Nat) (S : ss_S) (u : Nat) (w : Int32) : Int32 := if w = -1 then nI (dlh (dr_HB k C L S u) u (pp_cn u 10) 0).1 else nI (pth (dr_HB k C L S u) u (pp_cn u 10) 0 w.toInt.toNat)
theorem d_cls (ho : ss_Ok S) (hH : ss_RH S M) (hl : lwH k c C L M) (hs : s < 1024) (h5 : S.1 5 = nI s) (hus : pp_sub u s) (hu : u < 1024) (hm : pp_cn u 10 ≤ 6) {w : Int32} (hw : w = -1 ∨ ∃ j, j < pp_cn u 10 ∧ w = nI j) : ∃ M1, (mm_bd (f_Load_begin M) fun _ M_5 => mm_bd (f_Service_orderForDrought (nI u) M_5) fun _ M_7 => if w = (-1) then if mm_in 0 (mm_al 91) = true then some (M_7.2.1 91 (0 : Int32).toNatClampNeg, M_7) else none else mm_bd (f_Service_droughtStayAt w M_7) fun r_8 M_9 => some (r_8, M_9)) = some (d_ans k C L S u w, M1) ∧ ss_RH S M1 ∧ ss_h M M1 := by
  obtain ⟨Ld, Ma, a1, a2, a3, a4⟩ := sh_begin ho hH hs h5
  have hda : dwf M Ma := dwf_m a3 (by decide) (by decide)
  obtain ⟨Mb, b1, b2, b3⟩ := sh_dorder ho (hda.RH hH) (hl.dwf hda) a2 a4 hus hu hm
  have hd := hda.tr b3
  refine ⟨Mb, ?_, hd.RH hH, hd.h⟩
  rw [a1, pp_bd, b1, pp_bd]
  unfold d_ans
  have i0 : mm_in 0 1024 = true := rfl
  by_cases h1 : w = -1
  · have e : Mb.2.1 91 (0 : Int32).toNatClampNeg = nI (DD k C L S u 0).1 := (b2 0 (Nat.le_refl _) (pp_subI (fun i hi => by rw [Nat.zero_testBit] at hi; cases hi))).1
    rw [if_pos h1, if_pos h1, show mm_al 91 = 1024 from rfl, i0, if_pos rfl, e]
    unfold DD
    rw [show pp_cn 0 10 = 0 from by decide, Nat.sub_zero]
  · obtain ⟨j, hj, rfl⟩ := hw.resolve_left h1
    rw [if_neg h1, if_neg h1, sh_dat hu hj b2, pp_bd, nI_toInt (by omega)]
    rfl
theorem d_ref (ho : ss_Ok S) (hR : ss_RR S M) (hl : lwR k c C L M) (hu : u < 1024) (hm : pp_cn u 10 ≤ 6) {w : Int32} (hw : w = -1 ∨ ∃ j, j < pp_cn u 10 ∧ w = nI j) : ∃ M1, (mm_bd (f_R_laysWho (nI u) M) fun _ M_10 => mm_bd (f_R_orders (M_10.1 97 57) M_10) fun r_11 M_12 => lp_R_drought_61 w r_11 (fun (v4 : Int32) (v5 : Int32) (M_17 : mm_M) => mm_bd (f_R_ordersBy (M_17.1 97 57) v4 r_11 M_17) fun _ M_19 => if w = (-1) then some (v5, M_19) else if mm_in w (mm_al 132) = true then if mm_in (M_19.2.1 132 w.toNatClampNeg) (mm_al 128) = true then some (M_19.2.1 128 (M_19.2.1 132 w.toNatClampNeg).toNatClampNeg, M_19) else none else none) mm_fu 0 1000000000 0 M_12) = some (d_ans k C L S u w, M1) ∧ ss_RR S M1 ∧ ss_r M M1 := by
  obtain ⟨Ma, a1, a2, a3, a4, a5⟩ := sr_who hu M
  have hfa : ss_r M Ma := ⟨fun o ho => ⟨by funext q; exact a5 o q (by omega), a3 o (by omega), by rw [a4]⟩, fun o _ _ => a3 o (by omega)⟩
  have hRa : ss_RR S Ma := ⟨fun q hq => by
    rw [a5 _ _ (by have : ∀ q, q < 11 → ¬ ((ss_ro q).1 = 97 ∧ (ss_ro q).2 = 57) := by decide
                   exact this q hq)]
    exact hR.1 q hq, fun a ha j hj => by
    rw [a3 _ (by have : ∀ a, a < 14 → ss_ra a ≠ 128 := by decide
                 exact this a ha)]
    exact hR.2 a ha j hj⟩
  have hla : lwR k c C L Ma := ⟨hl.1, hl.2.1, by rw [a5 _ _ (by omega)]; exact hl.2.2.1, fun i hi => by rw [a3 115 (by decide)]; exact hl.2.2.2.1 i hi, fun i hi => by rw [a3 116 (by decide), a3 117 (by decide), a3 118 (by decide), a3 119 (by decide)]; exact hl.2.2.2.2 i hi⟩
  rw [a1, pp_bd, a2.1, sr_orders (by omega), pp_bd]
  obtain ⟨Mb, b1, b2⟩ := sr_dloop (k := k) (C := C) (L := L) (v2 := w) (K := fun (v4 : Int32) (v5 : Int32) (M_17 : mm_M) => mm_bd (f_R_ordersBy (M_17.1 97 57) v4 (nI (pp_fc (pp_cn u 10))) M_17) fun _ M_19 => if w = (-1) then some (v5, M_19) else if mm_in w (mm_al 132) = true then if mm_in (M_19.2.1 132 w.toNatClampNeg) (mm_al 128) = true then some (M_19.2.1 128 (M_19.2.1 132 w.toNatClampNeg).toNatClampNeg, M_19) else none else none) ho hRa hla hm a2
  obtain ⟨l1, l2, l3, l4, l5⟩ := dlh_all (H := dr_HB k C L S u) (u := u) (pp_cn u 10) 0 u (fun x hx => by rw [Nat.zero_testBit]; simp) rfl
  have hwb := b2.wo a2
  obtain ⟨Mc, c1, c2, c3⟩ := sr_ordersBy (M := Mb) hm l1
  have hwc := c2.d.wo hwb
  rw [b1]
  refine ⟨Mc, ?_, (b2.tr c2.d).RR hRa, hfa.tr (b2.tr c2.d).r⟩
  rw [hwb.1, c1, pp_bd]
  unfold d_ans
  by_cases h1 : w = -1
  · rw [if_pos h1, if_pos h1]
  · obtain ⟨j, hj, rfl⟩ := hw.resolve_left h1
    obtain ⟨p, p1, p2, p3, p4⟩ := sr_at hm hwc l1 hj (c3 j hj)
    rw [if_neg h1, if_neg h1, show mm_al 132 = 6 from rfl, show mm_al 128 = 10 from rfl, pp_in (by omega) (by decide), if_pos rfl, nI_clamp (by omega), p2, pp_in p1 (by decide), if_pos rfl, nI_clamp (by omega), p3, l5 j hj, nI_toInt (by omega)]
    rfl
end DROUGHT6
theorem p_drought : ok_drought (ss_I lwQ) := by
  intro a1 a2 M ⟨S, hI⟩
  have ho := hI.1
  have hH := hI.2.1
  obtain ⟨s, hs, h5⟩ := ho.n 5 (by decide)
  have hs : (s : Int) ≤ 1023 := hs
  have hs4 : s < 1024 := by omega
  obtain ⟨k, c, C, L, hl, hlR⟩ := lw_both hI
  have e27 : M.1 27 0 = nI s := (hH.1 5 (by decide)).trans h5
  have e12 : ∀ M1, ss_RR S M1 → M1.1 97 12 = nI s := fun M1 hR => (hR.1 5 (by decide)).trans h5
  have im1 : (-1 : Int32).toInt = -1 := rfl
  by_cases hA : ∃ t : Nat, 0 < t ∧ a1 = nI t ∧ pp_sub t s
  · obtain ⟨u, hu0, rfl, hsub⟩ := hA
    have hu : u < 1024 := Nat.lt_of_le_of_lt (pp_sub_le hsub) hs4
    have hle := pp_cn10 u hu
    have hare : f_H_areStays (nI u) 6 M = some (decide (pp_cn u 12 ≤ 6), M) := sh_are hs4 e27 hu0 hsub (n := 6) (by decide)
    have hpos : 1 ≤ pp_cn u 12 := by
      obtain ⟨x, hx⟩ : ∃ x, u.testBit x = true := Nat.exists_testBit_of_ne_zero (by omega)
      have hx10 : x < 10 := pp_tb_lt (n := 10) hu hx
      have := pp_cn_in (u := u) (show x < 12 by omega) hx
      omega
    have hpred : nI (pp_cn u 12) - 1 = nI (pp_cn u 12 - 1) := by
      obtain ⟨z, hz⟩ : ∃ z, pp_cn u 12 = z + 1 := ⟨pp_cn u 12 - 1, by omega⟩
      rw [hz, nI_pred, Nat.add_sub_cancel]
    by_cases hc : pp_cn u 12 ≤ 6
    · have hm : pp_cn u 10 ≤ 6 := by rw [← cn_12 hu]; exact hc
      by_cases hw : a2 = -1 ∨ ∃ j, j < pp_cn u 10 ∧ a2 = nI j
      · refine ss_sameL (r := d_ans k C L S u a2) hI ?_ (fun M1 hR1 hmm => ?_)
        · obtain ⟨M1, d1, d2, d3⟩ := d_cls (w := a2) ho hH hl hs4 h5 hsub hu hm hw
          refine ⟨M1, ?_, d2, d3⟩
          unfold f_H_drought
          rw [hare, pp_bd, decide_eq_true hc, if_pos rfl, pp_jn]
          by_cases h1 : a2 = -1
          · rw [if_pos h1]
            exact d1
          · obtain ⟨j, hj, e⟩ := hw.resolve_left h1
            rw [if_neg h1, sh_bitCount hu, pp_bd, sh_isBelow, pp_bd, show decide (0 ≤ a2.toInt ∧ a2.toInt < (nI (pp_cn u 12)).toInt) = true from by
              rw [e, nI_toInt (by omega), nI_toInt (by omega), cn_12 hu]
              exact decide_eq_true (by omega), if_pos rfl]
            exact d1
        · obtain ⟨M2, d1, d2, d3⟩ := d_ref (w := a2) ho hR1 (hlR M1 hR1 hmm) hu hm hw
          refine ⟨M2, ?_, d2, d3⟩
          unfold f_R_drought
          rw [sr_are hs4 (e12 M1 hR1) hu0 hsub, pp_bd, if_pos rfl, sr_bits (by omega), pp_bd, if_pos (show nI (pp_cn u 12) ≤ 6 from nI_le (b := 6) hc (by decide)), sr_bits (by omega), pp_bd, sr_in, pp_bd, hpred, im1, show decide (-1 ≤ a2.toInt ∧ a2.toInt ≤ (nI (pp_cn u 12 - 1)).toInt) = true from by
            rw [nI_toInt (by omega)]
            rcases hw with e | ⟨j, hj, e⟩
            · rw [e, im1]; exact decide_eq_true (by omega)
            · rw [← cn_12 hu] at hj
              rw [e, nI_toInt (by omega)]; exact decide_eq_true (by omega), if_pos rfl]
          exact d1
      · have h1 : ¬ a2 = -1 := fun e => hw (Or.inl e)
        have hn : ¬ (0 ≤ a2.toInt ∧ a2.toInt < (pp_cn u 12 : Int)) := fun z => by
          obtain ⟨j, hj, e⟩ := ii_nat (v := a2) (n := pp_cn u 12) z.1 z.2 (by omega)
          exact hw (Or.inr ⟨j, by rw [← cn_12 hu]; exact hj, e⟩)
        refine ss_same (r := -2) hI ⟨M, ?_, hH, ss_h.rf⟩ (fun M1 hR1 => ⟨M1, ?_, hR1, ss_r.rf⟩)
        · unfold f_H_drought
          rw [hare, pp_bd, decide_eq_true hc, if_pos rfl, pp_jn, if_neg h1, sh_bitCount hu, pp_bd, sh_isBelow, pp_bd, nI_toInt (by omega), decide_eq_false hn, if_neg (by decide)]
        · unfold f_R_drought
          rw [sr_are hs4 (e12 M1 hR1) hu0 hsub, pp_bd, if_pos rfl, sr_bits (by omega), pp_bd, if_pos (show nI (pp_cn u 12) ≤ 6 from nI_le (b := 6) hc (by decide)), sr_bits (by omega), pp_bd, sr_in, pp_bd, hpred, im1, nI_toInt (by omega), decide_eq_false (fun z => by
            have h2 : ¬ a2.toInt = -1 := fun e => h1 (by rw [ii_eq, e, im1])
            omega), if_neg (by decide)]
    · refine ss_same (r := -3) hI ⟨M, ?_, hH, ss_h.rf⟩ (fun M1 hR1 => ⟨M1, ?_, hR1, ss_r.rf⟩)
      · unfold f_H_drought
        rw [hare, pp_bd, decide_eq_false hc, if_neg (by decide)]
      · unfold f_R_drought
        rw [sr_are hs4 (e12 M1 hR1) hu0 hsub, pp_bd, if_pos rfl, sr_bits (by omega), pp_bd, if_neg (show ¬ nI (pp_cn u 12) ≤ 6 from nI_ge (a := 6) (by omega) (by omega))]
  · refine ss_same (r := -3) hI ⟨M, ?_, hH, ss_h.rf⟩ (fun M1 hR1 => ⟨M1, ?_, hR1, ss_r.rf⟩)
    · unfold f_H_drought
      rw [sh_are_no hs4 e27 hA, pp_bd, if_neg (by decide)]
    · unfold f_R_drought
      rw [sr_are_no hs4 (e12 M1 hR1) hA, pp_bd, if_neg (by decide)]
