/-! day -/
section DAYOP
variable {S : ss_S} {M : mm_M} {d : Nat} {D : Nat → Nat}
def ss_row (S : ss_S) (d : Nat) (D : Nat → Nat) : ss_S := (S.1, fun a j => if a = 1 ∧ j / 72 = d then nI (D (j % 72)) else S.2 a j)
theorem ss_RH.row (hH : ss_RH S M) (hd : d < 12) (hD : ∀ j, j < 72 → M.2.1 18 j = nI (D j)) : ss_RH (ss_row S d D) (mm_cp M 18 (6 + d) 0 0 72) := by
  refine ⟨fun k hk => hH.1 k hk, fun a ha j hj => ?_⟩
  show (if (ss_ha a j).1 = 6 + d then va_cpy (M.2.1 18) (M.2.1 (6 + d)) 0 0 72 (ss_ha a j).2 else M.2.1 (ss_ha a j).1 (ss_ha a j).2) = if a = 1 ∧ j / 72 = d then nI (D (j % 72)) else S.2 a j
  by_cases h1 : a = 1
  · subst h1
    have hj2 : j < 864 := hj
    have e1 : (ss_ha 1 j).1 = 6 + j / 72 := rfl
    have e2 : (ss_ha 1 j).2 = j % 72 := rfl
    by_cases h2 : j / 72 = d
    · rw [if_pos (by omega), if_pos ⟨rfl, h2⟩, e2, pk_cpy_in (Nat.zero_le _) (by omega), show 0 + (j % 72 - 0) = j % 72 by omega, hD _ (by omega)]
    · rw [if_neg (by omega), if_neg (fun q => h2 q.2)]
      exact hH.2 1 ha j hj
  · have e1 : (ss_ha a j).1 = ss_ao a := by unfold ss_ha; rw [if_neg h1]
    have := ss_ao_far a ha h1
    rw [if_neg (by omega), if_neg (fun q => h1 q.1)]
    exact hH.2 a ha j hj
theorem ss_RR.row (hR : ss_RR S M) (hd : d < 12) (hD : ∀ j, j < 72 → M.2.1 100 j = nI (D j)) : ss_RR (ss_row S d D) (mm_setR M 99 (fun j => if 72 * d ≤ j ∧ j < 72 * d + 72 then M.2.1 100 (j - 72 * d) else M.2.1 99 j)) := by
  refine ⟨fun k hk => hR.1 k hk, fun a ha j hj => ?_⟩
  show (if ss_ra a = 99 then (if 72 * d ≤ j ∧ j < 72 * d + 72 then M.2.1 100 (j - 72 * d) else M.2.1 99 j) else M.2.1 (ss_ra a) j) = ss_rv a (if a = 1 ∧ j / 72 = d then nI (D (j % 72)) else S.2 a j)
  by_cases h1 : a = 1
  · subst h1
    have hj2 : j < 864 := hj
    rw [if_pos (show ss_ra 1 = 99 from rfl)]
    by_cases h2 : j / 72 = d
    · rw [if_pos (by omega), if_pos ⟨rfl, h2⟩, hD _ (by omega), show j - 72 * d = j % 72 by omega]
      rfl
    · rw [if_neg (by omega), if_neg (fun q => h2 q.2)]
      exact hR.2 1 ha j hj
  · rw [if_neg (show ¬ ss_ra a = 99 from fun q => h1 (ss_ra_inj a ha 1 (by decide) q)), if_neg (fun q => h1 q.1)]
    exact hR.2 a ha j hj
theorem ss_Ok.row (ho : ss_Ok S) (hD : ∀ j, D j ≤ 99) : ss_Ok (ss_row S d D) := by
  refine ⟨ho.1, fun a ha j hj => ?_⟩
  show ss_lo a ≤ (if a = 1 ∧ j / 72 = d then nI (D (j % 72)) else S.2 a j).toInt ∧ (if a = 1 ∧ j / 72 = d then nI (D (j % 72)) else S.2 a j).toInt ≤ ss_hi a
  by_cases h : a = 1 ∧ j / 72 = d
  · have := hD (j % 72)
    rw [if_pos h, nI_toInt (by omega), h.1]
    show (0 : Int) ≤ _ ∧ _ ≤ (99 : Int)
    omega
  · rw [if_neg h]
    exact ho.2 a ha j hj
theorem ft_neg {w q : Nat} (hw : w ≤ 9) (hq : q ≤ 300) : (ft w q).toInt = -((1000 * w + q : Nat) : Int) := by
  unfold ft
  rw [show -nI (1000 * w + q) = 0 - nI (1000 * w + q) from by rw [Int32.zero_sub], ii_sub (by rw [nI_toInt (by omega), i_0]; omega) (by rw [nI_toInt (by omega), i_0]; omega), nI_toInt (by omega), i_0]
  omega
theorem sh_fill_18 (M : mm_M) : f_Arrays_fill_18 0 M = some ((), mm_setR M 18 (fun j => if 0 ≤ j ∧ j < 0 + 72 then 0 else M.2.1 18 j)) := by
  unfold f_Arrays_fill_18
  refine pp_fill (lp := fun m v M => lp_Arrays_fill_18_5 0 72 _ m v M) (k := fun M_4 => some ((), M_4)) M 18 0 72 (by decide) (fun j => 0) (fun i hi m M' e => ?_) (fun m M' => ?_)
  · show lp_Arrays_fill_18_5 _ _ _ (m + 1) (nI i) M' = lp_Arrays_fill_18_5 _ _ _ m (nI (i + 1)) _
    rw [lp_Arrays_fill_18_5, show mm_al 18 = 72 from rfl]
    simp (disch := omega) only [pp_bd, pp_let, pp_jn, zl0, zl1, zl2, zl3, zl4, zl5, zl6, zl7, zl8, zl9, zl10, zl11, zl12, zl14, zl20, zl23, zl24, zl48, zl60, zl72, zl96, zl99, zl100, zl120, zl160, zl180, zl200, zl255, zl720, zl999, zl1023, zl1024, zl4095, zl9999, zl65536, nI_add, pp_mulN, zm1, zm2, zm3, nI_leI, nI_ltI, nI_eq, pp_in, nI_clamp, ↓reduceIte, show ¬ 72 ≤ i from by omega, Nat.zero_add]
  · show lp_Arrays_fill_18_5 _ _ _ (m + 1) (nI 72) M' = _
    rw [lp_Arrays_fill_18_5, if_pos (by decide)]
theorem sr_zero (v1 : Int32) (k : mm_M → Option (Int32 × mm_M)) (M : mm_M) : lp_R_day_42 v1 k mm_fu 0 M = k (mm_setR M 100 (fun j => if 0 ≤ j ∧ j < 0 + 72 then 0 else M.2.1 100 j)) := by
  refine pp_fill (lp := fun m v M => lp_R_day_42 v1 k m v M) (k := k) M 100 0 72 (by decide) (fun j => 0) (fun i hi m M' e => ?_) (fun m M' => ?_)
  · show lp_R_day_42 _ _ (m + 1) (nI i) M' = lp_R_day_42 _ _ m (nI (i + 1)) _
    rw [lp_R_day_42, show mm_al 100 = 72 from rfl]
    simp (disch := omega) only [pp_bd, pp_let, pp_jn, zl0, zl1, zl2, zl3, zl4, zl5, zl6, zl7, zl8, zl9, zl10, zl11, zl12, zl14, zl20, zl23, zl24, zl48, zl60, zl72, zl96, zl99, zl100, zl120, zl160, zl180, zl200, zl255, zl720, zl999, zl1023, zl1024, zl4095, zl9999, zl65536, nI_add, pp_mulN, zm1, zm2, zm3, nI_leI, nI_ltI, nI_eq, pp_in, nI_clamp, ↓reduceIte, show ¬ 72 ≤ i from by omega, Nat.zero_add]
  · show lp_R_day_42 _ _ (m + 1) (nI 72) M' = _
    rw [lp_R_day_42, if_pos (by decide)]
theorem ss_r.r {M M1 : mm_M} (h : ss_r M M1) {o : Nat} {f : Nat → Int32} (ho : 97 ≤ o ∧ o < 140 ∧ (o < 115 ∨ 119 < o)) : ss_r M (mm_setR M1 o f) := ⟨h.1.r ⟨ho.1, ho.2.1⟩, fun i a b => by rw [ss_setr_ne (by omega)]; exact h.2 i a b⟩
theorem mm_cpok_d : ∀ d, d < 12 → mm_cpok 18 (6 + d) 0 0 72 = true := by decide
end DAYOP
section DAYOP2
variable {Q : Int32 → (Nat → Nat → Int32) → Prop}
theorem p_day : ok_day (ss_I Q) := by
  intro a1 a2 M ⟨S, hI⟩
  have ho := hI.1
  have hH := hI.2.1
  obtain ⟨L, hL, h0⟩ := ho.n 0 (by decide)
  have hL : (L : Int) ≤ 200 := hL
  obtain ⟨t, ht, h1⟩ := ho.n 1 (by decide)
  have ht : (t : Int) ≤ 4095 := ht
  have eH : M.1 1 1 = nI L := (hH.1 0 (by decide)).trans h0
  have i1 : (1 : Int32).toInt = 1 := rfl
  have i12 : (12 : Int32).toInt = 12 := rfl
  have i11 : (11 : Int32).toInt = 11 := rfl
  have i120 : (120 : Int32).toInt = 120 := rfl
  by_cases hv : 0 ≤ a1.toInt ∧ a1.toInt < 12
  · by_cases hw : 1 ≤ a2.toInt ∧ a2.toInt ≤ 120
    · obtain ⟨d, hd, rfl⟩ := ii_nat (n := 12) hv.1 hv.2 (by decide)
      obtain ⟨n, hn, rfl⟩ := ii_nat (v := a2) (n := 121) (by omega) (by omega) (by decide)
      rw [nI_toInt (by omega)] at hw
      by_cases hnl : n ≤ L
      · -- the text is read
        have hn2 : n ≤ 200 := by omega
        obtain ⟨Ma, s1, s2, s3⟩ := sh_stp (M := mm_setI (mm_setI (mm_setI M 3 1 (nI n)) 3 2 (-1)) 3 4 0) (p := 0) ho hn2 (by omega) ((((tf.rf (M := M)).s.s).s).RH hH) rfl (show (-1 : Int32) + 1 = nI 0 by decide)
        have sf : dfr M Ma := (((((tf.rf (M := M)).s.s).s).tr s3).d)
        have fH : f_H_day (nI d) (nI n) M = mm_bd (mm_bd (lp_Days_readParts_18 (fun (M_12 : mm_M) => some (M_12.1 3 4, M_12)) (fun (v2 : Int32) (M_13 : mm_M) => some (v2 + 1, M_13)) (fun (M_14 : mm_M) => some (M_14.1 3 4, M_14)) (fun (M_15 : mm_M) => some (M_15.1 3 4, M_15)) mm_fu 0 (mm_setR Ma 18 (fun j => if 0 ≤ j ∧ j < 0 + 72 then 0 else Ma.2.1 18 j))) fun r_1 M_2 => if r_1 ≤ 0 then some (r_1, M_2) else mm_let (mm_cp M_2 18 (6 + d) 0 0 72) fun M_3 => mm_let (mm_setI M_3 4 3 ((M_3.1 4 3) ||| (nI (2 ^ d)))) fun M_4 => some (r_1, M_4)) fun r_5 M_6 => some (r_5, mm_setI M_6 1 1 0) := by
          unfold f_H_day f_Tape_size f_Tape_clear f_Days_tell f_Days_readParts f_TextReader_open
          rw [sh_isBelow, pp_bd, i12, nI_toInt (show d < 2 ^ 31 by omega), decide_eq_true (by omega), if_pos rfl, if_neg (show ¬ nI n < 1 from nI_nlt (b := 1) (by omega) (by omega)), if_neg (show ¬ (120 : Int32) < nI n from nI_nlt (a := 120) (by omega) (by decide)), pp_bd, eH, if_pos (nI_le hnl (by omega)), sh_min, pp_bd, pp_mnN (by omega) (by omega), show min n L = n by omega, pp_let, pp_let, pp_let, s1, pp_bd, pp_bd, sh_fill_18, pp_bd, pp_in hd (by decide), nI_clamp (by omega), mm_cpok_d d hd, pp_one d hd]
          rfl
        have fR : ∀ M1, ss_RR S M1 → ∃ Mb, tx_R S n 0 Mb ∧ rfr M1 Mb ∧ (∀ j, j < 72 → Mb.2.1 100 j = nI 0) ∧ f_R_day (nI d) (nI n) M1 = mm_bd (f_R_readsPart 0 Mb) fun b_10 M_11 => lp_R_day_70 (nI d) (fun (v3 : Int32) (v4 : Bool) (M_19 : mm_M) => mm_let (mm_setI M_19 97 1 0) fun M_20 => if v4 = true then lp_R_day_135 (nI d) v3 (fun (M_23 : mm_M) => mm_let (mm_setI M_23 97 6 ((M_23.1 97 6) ||| (nI (2 ^ d)))) fun M_24 => some (v3 + 1, M_24)) mm_fu 0 M_20 else some (M_20.1 97 4, M_20)) mm_fu 0 b_10 M_11 := fun M1 hR1 => by
          have hR2 : rx M1 (mm_setI (mm_setI M1 97 2 0) 97 3 (nI n)) := (rx.rf.s (by decide)).s (by decide)
          refine ⟨mm_setR (mm_setI (mm_setI M1 97 2 0) 97 3 (nI n)) 100 (fun j => if 0 ≤ j ∧ j < 0 + 72 then 0 else M1.2.1 100 j), tx_R.w ⟨hR2.RR hR1, rfl, rfl⟩, hR2.d.w, fun j hj => ?_, ?_⟩
          · rw [pp_sro, if_pos (by omega)]; rfl
          · unfold f_R_day
            rw [sr_in, pp_bd, i_0, i11, nI_toInt (show d < 2 ^ 31 by omega), decide_eq_true (by omega), if_pos rfl, sr_in, pp_bd, i1, i120, nI_toInt (show n < 2 ^ 31 by omega), decide_eq_true (by omega), if_pos rfl, show M1.1 97 1 = nI L from (hR1.1 0 (by decide)).trans h0, if_pos (nI_le hnl (by omega)), pp_let, pp_let, pp_one d hd]
            rw [sr_zero]
            rfl
        have cH := sh_days ho hn2 (k32 := fun (M_12 : mm_M) => some (M_12.1 3 4, M_12)) (k50 := fun (v2 : Int32) (M_13 : mm_M) => some (v2 + 1, M_13)) (k66 := fun (M_14 : mm_M) => some (M_14.1 3 4, M_14)) (k80 := fun (M_15 : mm_M) => some (M_15.1 3 4, M_15)) 14 0 0 (mm_setR Ma 18 (fun j => if 0 ≤ j ∧ j < 0 + 72 then 0 else Ma.2.1 18 j)) (fun _ => 0) rfl (Nat.zero_le _) (fun _ => Nat.zero_le _) (fun j hj => by rw [pp_sro, if_pos (by omega)]; rfl) s2.w 4985
        rw [show (4985 : Nat) + 14 + 1 = mm_fu from rfl, show nI 0 = (0 : Int32) from rfl] at cH
        rcases cH with ⟨w, q, Mc, c1, c2, c3, c4, c5, c6⟩ | ⟨c, D1, Mc, c1, c2, c3, c4, c5, c6⟩
        · have hfr : dfr M Mc := (sf.w).tr c6
          have hneg : ft w q ≤ 0 := by
            rw [ii_le, ft_neg (by omega) (by omega), i_0]
            omega
          refine ss_go (S' := ss_s S 0 0) (r := ft w q) hI (ho.s 0 (by decide)) rfl ⟨mm_setI Mc 1 1 0, ?_, (hfr.RH hH).s 0 (by decide) rfl 0, hfr.h.s (by decide)⟩ (fun M1 hR1 => ?_)
          · rw [fH]
            rcases c4 with c4 | c4 <;> rw [c4, pp_bd, c5, if_pos hneg, pp_bd]
          · obtain ⟨Mb, b1, b2, b3, b4⟩ := fR M1 hR1
            have cR := sr_days ho hn2 (v1 := nI d) (K := fun (v3 : Int32) (v4 : Bool) (M_19 : mm_M) => mm_let (mm_setI M_19 97 1 0) fun M_20 => if v4 = true then lp_R_day_135 (nI d) v3 (fun (M_23 : mm_M) => mm_let (mm_setI M_23 97 6 ((M_23.1 97 6) ||| (nI (2 ^ d)))) fun M_24 => some (v3 + 1, M_24)) mm_fu 0 M_20 else some (M_20.1 97 4, M_20)) 14 0 0 Mb (fun _ => 0) rfl (Nat.zero_le _) (fun _ => Nat.zero_le _) b3 b1 4985
            rw [show (4985 : Nat) + 14 + 1 = mm_fu from rfl, show nI 0 = (0 : Int32) from rfl] at cR
            rcases cR with ⟨w2, q2, c', Me, r1, r4, r5, r6⟩ | ⟨c', D2, Me, r1, r4, r5, r6⟩
            · rw [c1] at r1
              cases r1
              refine ⟨mm_setI Me 97 1 0, ?_, ((b2.tr r6).RR hR1).s 0 (by decide) rfl 0, (b2.tr r6).r.s (by decide)⟩
              rw [b4, r4, pp_let, if_neg (by decide)]
              rw [← r5]
              rfl
            · rw [c1] at r1
              cases r1
        · have hfr : dfr M Mc := (sf.w).tr c6
          have hH2 := hfr.RH hH
          have o1 : t ||| 2 ^ d < 2 ^ 12 := Nat.or_lt_two_pow (by omega) (Nat.pow_lt_pow_right (by decide) hd)
          have hpos : ¬ nI c + 1 ≤ 0 := by
            rw [nI_1]
            exact nI_nle (by omega) (by omega)
          refine ss_go (S' := ss_s (ss_s (ss_row S d D1) 1 (nI (t ||| 2 ^ d))) 0 0) (r := nI c + 1) hI (((ho.row c3).s 1 (by rw [nI_toInt (by omega)]; show (0 : Int) ≤ _ ∧ _ ≤ (4095 : Int); omega)).s 0 (by decide)) rfl ⟨mm_setI (mm_setI (mm_cp Mc 18 (6 + d) 0 0 72) 4 3 (nI (t ||| 2 ^ d))) 1 1 0, ?_, ((hH2.row hd c5).s 1 (by decide) rfl _).s 0 (by decide) rfl 0, ((hfr.h.r (by omega)).s (by decide)).s (by decide)⟩ (fun M1 hR1 => ?_)
          · rw [fH, c4, pp_bd, if_neg hpos, pp_let, show (mm_cp Mc 18 (6 + d) 0 0 72).1 4 3 = nI t from (hH2.1 1 (by decide)).trans h1, pp_orN, pp_let, pp_bd]
          · obtain ⟨Mb, b1, b2, b3, b4⟩ := fR M1 hR1
            have cR := sr_days ho hn2 (v1 := nI d) (K := fun (v3 : Int32) (v4 : Bool) (M_19 : mm_M) => mm_let (mm_setI M_19 97 1 0) fun M_20 => if v4 = true then lp_R_day_135 (nI d) v3 (fun (M_23 : mm_M) => mm_let (mm_setI M_23 97 6 ((M_23.1 97 6) ||| (nI (2 ^ d)))) fun M_24 => some (v3 + 1, M_24)) mm_fu 0 M_20 else some (M_20.1 97 4, M_20)) 14 0 0 Mb (fun _ => 0) rfl (Nat.zero_le _) (fun _ => Nat.zero_le _) b3 b1 4985
            rw [show (4985 : Nat) + 14 + 1 = mm_fu from rfl, show nI 0 = (0 : Int32) from rfl] at cR
            rcases cR with ⟨w2, q2, c', Me, r1, r4, r5, r6⟩ | ⟨c', D2, Me, r1, r4, r5, r6⟩
            · rw [c1] at r1
              cases r1
            · rw [c1] at r1
              cases r1
              have hR2 := (b2.tr r6).RR hR1
              have hL : lp_R_day_135 (nI d) (nI c) (fun (M_23 : mm_M) => mm_let (mm_setI M_23 97 6 ((M_23.1 97 6) ||| (nI (2 ^ d)))) fun M_24 => some (nI c + 1, M_24)) mm_fu (nI 0) (mm_setI Me 97 1 0) = _ := pp_fill (lp := fun m v M => lp_R_day_135 (nI d) (nI c) (fun (M_23 : mm_M) => mm_let (mm_setI M_23 97 6 ((M_23.1 97 6) ||| (nI (2 ^ d)))) fun M_24 => some (nI c + 1, M_24)) m v M) (k := fun (M_23 : mm_M) => mm_let (mm_setI M_23 97 6 ((M_23.1 97 6) ||| (nI (2 ^ d)))) fun M_24 => some (nI c + 1, M_24)) (mm_setI Me 97 1 0) 99 (72 * d) 72 (by decide) (fun j => Me.2.1 100 (j - 72 * d)) (fun i hi m M' e => by
                show lp_R_day_135 _ _ _ (m + 1) (nI i) M' = lp_R_day_135 _ _ _ m (nI (i + 1)) _
                have e1 : M'.2.1 100 i = Me.2.1 100 i := by rw [e]; rfl
                rw [lp_R_day_135, show mm_al 100 = 72 from rfl, show mm_al 99 = 864 from rfl, if_neg (show ¬ (72 : Int32) ≤ nI i from nI_ge (b := 72) hi (by decide)), pp_in hi (by decide), if_pos rfl, show (72 : Int32) = nI 72 from rfl, pp_mulN, nI_add, pp_in (by omega) (by decide), if_pos rfl, nI_clamp (by omega), nI_clamp (by omega), e1, nI_1, pp_let, pp_let, show 72 * d + i - 72 * d = i by omega]) (fun m M' => by
                show lp_R_day_135 _ _ _ (m + 1) (nI 72) M' = _
                rw [lp_R_day_135, if_pos (by decide)])
              refine ⟨mm_setI (mm_setR (mm_setI Me 97 1 0) 99 (fun j => if 72 * d ≤ j ∧ j < 72 * d + 72 then Me.2.1 100 (j - 72 * d) else Me.2.1 99 j)) 97 6 (nI (t ||| 2 ^ d)), ?_, ?_, (((b2.tr r6).r.s (by decide)).r (by decide)).s (by decide)⟩
              · rw [b4, r4, pp_let, if_pos rfl]
                refine hL.trans ?_
                rw [pp_let, pp_sr1, show (mm_setI Me 97 1 0).1 97 6 = nI t from (hR2.1 1 (by decide)).trans h1, pp_orN]
                rfl
              · have := ((hR2.row hd r5).s 0 (by decide) rfl 0).s 1 (by decide) rfl (nI (t ||| 2 ^ d))
                have e1 : ss_s (ss_s (ss_row S d D1) 0 0) 1 (nI (t ||| 2 ^ d)) = ss_s (ss_s (ss_row S d D1) 1 (nI (t ||| 2 ^ d))) 0 0 := by
                  refine Prod.ext ?_ rfl
                  funext i
                  show (if i = 1 then _ else if i = 0 then _ else _) = if i = 0 then _ else if i = 1 then _ else _
                  by_cases a : i = 1
                  · subst a; rfl
                  · rw [if_neg a, if_neg a]
                rw [e1] at this
                exact this
      · refine ss_same (r := -1) hI ⟨M, ?_, hH, ss_h.rf⟩ (fun M1 hR1 => ⟨M1, ?_, hR1, ss_r.rf⟩)
        · unfold f_H_day f_Tape_size
          rw [sh_isBelow, pp_bd, i12, nI_toInt (show d < 2 ^ 31 by omega), decide_eq_true (by omega), if_pos rfl, if_neg (show ¬ nI n < 1 from nI_nlt (b := 1) (by omega) (by omega)), if_neg (show ¬ (120 : Int32) < nI n from nI_nlt (a := 120) (by omega) (by decide)), pp_bd, eH, if_neg (nI_ge (by omega) (by omega))]
        · unfold f_R_day
          rw [sr_in, pp_bd, i_0, i11, nI_toInt (show d < 2 ^ 31 by omega), decide_eq_true (by omega), if_pos rfl, sr_in, pp_bd, i1, i120, nI_toInt (show n < 2 ^ 31 by omega), decide_eq_true (by omega), if_pos rfl, show M1.1 97 1 = nI L from (hR1.1 0 (by decide)).trans h0, if_neg (nI_ge (by omega) (by omega))]
    · refine ss_same (r := -1) hI ⟨M, ?_, hH, ss_h.rf⟩ (fun M1 hR1 => ⟨M1, ?_, hR1, ss_r.rf⟩)
      · unfold f_H_day
        rw [sh_isBelow, pp_bd, i12, decide_eq_true hv, if_pos rfl]
        by_cases ha : a2 < 1
        · rw [if_pos ha]
        · rw [if_neg ha, if_pos]
          rw [ii_lt] at ha ⊢
          rw [i1] at ha
          rw [i120]
          omega
      · unfold f_R_day
        rw [sr_in, pp_bd, i_0, i11, decide_eq_true (by omega), if_pos rfl, sr_in, pp_bd, i1, i120, decide_eq_false hw, if_neg (by decide)]
  · refine ss_same (r := -1) hI ⟨M, ?_, hH, ss_h.rf⟩ (fun M1 hR1 => ⟨M1, ?_, hR1, ss_r.rf⟩)
    · unfold f_H_day
      rw [sh_isBelow, pp_bd, i12, decide_eq_false hv, if_neg (by decide)]
    · unfold f_R_day
      rw [sr_in, pp_bd, i_0, i11, decide_eq_false (by omega), if_neg (by decide)]
end DAYOP2
