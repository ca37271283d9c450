/-! meter -/
theorem sh_readMeter {S : ss_S} {M : mm_M} (ho : ss_Ok S) (hH : ss_RH S M) {t n l : Nat} (h1 : S.1 1 = nI t) (ht : t < 4096) (hn : n ≤ 3) (h0 : S.1 0 = nI l) (hl : l ≤ 200) (h48 : 48 ≤ l) : ∃ M1, f_Days_readMeter_1 (nI n) M = some ((), M1) ∧ mt_R t n 0 (mt_m S) (fun _ => 0) (mt_all S t n) M1 ∧ mt_f M M1 := by
  unfold f_Days_readMeter_1
  rw [show (0 : Int32) = nI 0 from rfl]
  rw [pp_fill (lp := fun m v M => lp_Days_readMeter_1_2 (nI n) _ m v M) (k := fun (M_5 : mm_M) => mm_let (mm_setI M_5 4 7 (nI 0)) fun M_6 => mm_let (mm_setI M_6 4 8 (M_6.1 4 3)) fun M_7 => mm_bd (f_Days_fillRow mm_rd (nI 0) (nI 0) (nI n) M_7) fun u_8 M_9 => some ((), M_9)) M 19 0 24 (by decide) (fun j => nI (mt_m S j)) (fun i hi m M' e => ?_) (fun m M' => ?_)]
  · rw [pp_let, pp_let]
    generalize hM2 : mm_setI (mm_setI (mm_setR M 19 (fun j => if 0 ≤ j ∧ j < 0 + 24 then nI (mt_m S j) else M.2.1 19 j)) 4 7 (nI 0)) 4 8 _ = M2
    have f2 : mt_f M M2 := by
      rw [← hM2]
      exact ((mt_f.rf.r (by omega) _).s (Or.inl rfl) _).s (Or.inr rfl) _
    have hR2 : mt_R t n (n - n) (mt_m S) (fun _ => 0) mt_a0 M2 := by
      refine ⟨?_, ?_, fun q => absurd rfl q, fun i hi => by omega, fun h hh => ?_⟩
      · rw [← hM2]; rfl
      · rw [← hM2]
        show M.1 4 3 = nI (4095 &&& t)
        rw [show M.1 4 3 = nI t from (hH.1 1 (by decide)).trans h1, Nat.and_comm, show 4095 = 2 ^ 12 - 1 from rfl, Nat.and_two_pow_sub_one_of_lt_two_pow (by omega)]
      · rw [← hM2]
        show (mm_setR M 19 _).2.1 19 h = _
        rw [pp_sro, if_pos (by omega)]
    have hpow : 12 ^ n ≤ 1728 := Nat.pow_le_pow_right (n := 12) (by decide) hn
    obtain ⟨M3, g1, g2, g3⟩ := sh_fillRow ho hn ht h1 n mm_rd 0 (mt_m S) (fun _ => 0) mt_a0 M2 (Nat.le_refl _) (by show n < 60; omega) (by omega) (by show 0 + 12 ^ n ≤ 2000; omega) (fun i hi => by omega) (fun h hh => (mt_m_e ho hh).2) (f2.RH hH) hR2
    rw [Nat.sub_self] at g1 g2
    refine ⟨M3, ?_, g2, f2.tr g3⟩
    rw [g1]
    rfl
  · show lp_Days_readMeter_1_2 _ _ (m + 1) (nI i) M' = lp_Days_readMeter_1_2 _ _ m (nI (i + 1)) _
    have hH' : ss_RH S M' := by rw [e]; exact (mt_f.rf.r (by omega) _).RH hH
    rw [lp_Days_readMeter_1_2, if_neg (show ¬ (24 : Int32) ≤ nI i from nI_ge hi (by decide)), show (2 : Int32) * nI i = nI (2 * i) from by rw [show (2 : Int32) = nI 2 from rfl, pp_mulN], sh_pairAt hH' hl h0 (by omega), pp_bd, mm_al_19, pp_in hi (by decide), if_pos rfl, nI_clamp (by omega), (mt_m_e ho hi).1, pp_let, nI_1, pp_let, Nat.zero_add]
  · show lp_Days_readMeter_1_2 _ _ (m + 1) (nI 24) M' = _
    rw [lp_Days_readMeter_1_2, if_pos (by decide)]
theorem sr_metered {S : ss_S} {M : mm_M} (ho : ss_Ok S) (hR : ss_RR S M) (v w : Int32) (k : mm_M → Option (Int32 × mm_M)) : lp_R_meter_47 v w k mm_fu 0 M = k (mm_setR M 133 (fun j => if 0 ≤ j ∧ j < 0 + 24 then nI (mt_m S j) else M.2.1 133 j)) := by
  refine pp_fill (lp := fun m x M => lp_R_meter_47 v w k m x M) (k := k) M 133 0 24 (by decide) (fun j => nI (mt_m S j)) (fun i hi m M' e => ?_) (fun m M' => ?_)
  · show lp_R_meter_47 _ _ _ (m + 1) (nI i) M' = lp_R_meter_47 _ _ _ m (nI (i + 1)) _
    have hR' : ss_RR S M' := by rw [e]; exact (rm_f.rf.r0 (by omega) _).RR hR
    have e0 : ∀ j, j < 200 → M'.2.1 98 j &&& 255 = S.2 0 j := fun j hj => by
      rw [show M'.2.1 98 j = (S.2 0 j).toInt8.toInt32 from hR'.2 0 (by decide) j hj]
      exact pp_byte ho hj
    rw [lp_R_meter_47, if_neg (show ¬ (24 : Int32) ≤ nI i from nI_ge hi (by decide)), show (2 : Int32) * nI i = nI (2 * i) from by rw [show (2 : Int32) = nI 2 from rfl, pp_mulN], nI_1, show mm_bl 98 = 200 from rfl, pp_in (by omega) (by decide), if_pos rfl, pp_in (by omega) (by decide), if_pos rfl, mm_al_133, pp_in hi (by decide), if_pos rfl, nI_clamp (by omega), nI_clamp (by omega), nI_clamp (by omega), e0 _ (by omega), e0 _ (by omega), Nat.zero_add, ← (mt_m_e ho hi).1, pp_let, nI_1, pp_let]
    rfl
  · show lp_R_meter_47 _ _ _ (m + 1) (nI 24) M' = _
    rw [lp_R_meter_47, if_pos (by decide)]
section METER
variable {Q : Int32 → (Nat → Nat → Int32) → Prop}
theorem i_m1 : (-1 : Int32).toInt = -1 := rfl
theorem i_48 : (48 : Int32).toInt = 48 := rfl
theorem p_meter : ok_meter (ss_I Q) := by
  intro v w M hI
  obtain ⟨S, hI⟩ := hI
  obtain ⟨ho, hH, hR, -⟩ := id hI
  obtain ⟨t, ht, h1⟩ := ho.n 1 (by decide)
  have ht : (t : Int) ≤ 4095 := ht
  obtain ⟨l, hl, h0⟩ := ho.n 0 (by decide)
  have hl : (l : Int) ≤ 200 := hl
  have eH : M.1 1 1 = nI l := (hH.1 0 (by decide)).trans h0
  by_cases hv : 1 ≤ v.toInt ∧ v.toInt ≤ 3
  · obtain ⟨n, hn, rfl⟩ := ii_nat (v := v) (n := 4) (by omega) (by omega) (by decide)
    rw [nI_toInt (by omega)] at hv
    have hv1 : ¬ nI n < 1 := nI_nlt (b := 1) (by omega) (by omega)
    have hv3 : ¬ (3 : Int32) < nI n := nI_nlt (a := 3) (by omega) (by decide)
    by_cases hw : w = -1 ∨ w = 3 ∨ (0 ≤ w.toInt ∧ w.toInt < (nI n).toInt)
    · have cls : ∀ X : Bool → mm_M → Option (Int32 × mm_M), (if w = -1 then X true M else if w = 3 then X true M else mm_bd (f_H_isBelow w (nI n) M) fun b_9 M_10 => if b_9 = true then X true M_10 else X false M_10) = X true M := fun X => by
        by_cases w1 : w = -1
        · rw [if_pos w1]
        · rw [if_neg w1]
          by_cases w3 : w = 3
          · rw [if_pos w3]
          · rw [if_neg w3, sh_isBelow, pp_bd, decide_eq_true ((hw.resolve_left w1).resolve_left w3), if_pos rfl]
      have hwr : ∀ M' : mm_M, f_R_in w (-1) 3 M' = some (true, M') := fun M' => by
        rw [sr_in, i_m1, i_3, decide_eq_true]
        rcases hw with rfl | rfl | hw
        · decide
        · decide
        · rw [nI_toInt (by omega)] at hw
          omega
      have hwn : w ≠ 3 → ¬ nI n ≤ w := fun w3 q => by
        rw [ii_le, nI_toInt (by omega)] at q
        rcases hw with rfl | rfl | hw
        · rw [i_m1] at q; omega
        · exact w3 rfl
        · rw [nI_toInt (by omega)] at hw
          omega
      by_cases h48 : 48 ≤ l
      · have g48 : (48 : Int32) ≤ nI l := nI_le (a := 48) h48 (by omega)
        obtain ⟨M1, g1, g2, g3⟩ := sh_readMeter ho hH h1 (by omega) (show n ≤ 3 by omega) h0 (by omega) h48
        have hpow : 12 ^ n ≤ 1728 := Nat.pow_le_pow_right (n := 12) (by decide) (show n ≤ 3 by omega)
        have hmany : (mt_all S t n).1 ≤ 1728 := by
          have : (mt_all S t n).1 ≤ 0 + 12 ^ n := mt_F_le t (mt_D S) n n 0 (mt_m S) (fun _ => 0) mt_a0
          omega
        have hsub : (mt_all S t n).1 = 0 ∨ pp_sub (mt_all S t n).2.1 t := mt_F_sub t (mt_D S) n n 0 (mt_m S) (fun _ => 0) mt_a0 (Nat.le_refl _) (fun i hi => by omega) (Or.inl rfl)
        refine ss_go (S' := ss_s S 0 0) (r := mt_an (mt_all S t n) w) hI (ho.s 0 (by decide)) rfl ⟨mm_setI M1 1 1 0, ?_, (g3.RH hH).s 0 (by decide) rfl 0, g3.h.s (by decide)⟩ (fun M2 hR2 => ?_)
        · unfold f_H_meter f_Tape_size f_Tape_clear
          rw [pp_jn, pp_jn]
          refine (cls (fun s0 M_1 => if nI n < 1 then some ((-3), M_1) else if 3 < nI n then some ((-3), M_1) else if s0 = true then mm_bd (some (M_1.1 1 1, M_1)) fun r_2 M_3 => if 48 ≤ r_2 then mm_bd (f_Days_readMeter_1 (nI n) M_3) fun u_4 M_5 => mm_bd (mm_let (mm_setI M_5 1 1 0) fun M_1 => some ((), M_1)) fun u_6 M_7 => if w = (-1) then some (M_7.1 4 7, M_7) else if M_7.1 4 7 = 0 then some ((-2), M_7) else if w = 3 then some (M_7.1 4 8, M_7) else if mm_in w (mm_al 21) = true then some (M_7.2.1 21 w.toNatClampNeg, M_7) else none else some ((-3), M_3) else some ((-3), M_1))).trans ?_
          rw [if_neg hv1, if_neg hv3, if_pos rfl, pp_bd, eH, if_pos g48, g1, pp_bd, pp_let, pp_bd]
          have e7 : (mm_setI M1 1 1 0).1 4 7 = nI (mt_all S t n).1 := g2.1
          have e8 : (mm_setI M1 1 1 0).1 4 8 = nI ((mt_all S t n).2.1 &&& t) := g2.2.1
          rw [e7, e8]
          unfold mt_an
          by_cases w1 : w = -1
          · rw [if_pos w1, if_pos w1]
          · rw [if_neg w1, if_neg w1]
            by_cases hz : (mt_all S t n).1 = 0
            · rw [hz, if_pos (show nI 0 = 0 from rfl), if_pos rfl]
            · rw [if_neg (show ¬ nI (mt_all S t n).1 = 0 from nI_ne0 (by omega) (by omega)), if_neg hz]
              by_cases w3 : w = 3
              · rw [if_pos w3, if_pos w3, show (mt_all S t n).2.1 &&& t = (mt_all S t n).2.1 from hsub.resolve_left hz]
              · have hw2 := (hw.resolve_left w1).resolve_left w3
                rw [nI_toInt (by omega)] at hw2
                obtain ⟨x, hx, rfl⟩ := ii_nat (v := w) (n := n) hw2.1 hw2.2 (by omega)
                rw [if_neg w3, if_neg w3, mm_al_21, pp_in (by omega) (by decide), if_pos rfl, nI_clamp (by omega), nI_toInt (by omega)]
                show some (M1.2.1 21 x, _) = _
                rw [g2.2.2.1 hz x hx]
                rfl
        · have hR3 := hR2.s 0 (by decide) rfl 0
          have hR4 : ss_RR (ss_s S 0 0) (mm_setR (mm_setI M2 97 1 0) 133 (fun j => if 0 ≤ j ∧ j < 0 + 24 then nI (mt_m S j) else (mm_setI M2 97 1 0).2.1 133 j)) := (rm_f.rf.r0 (by omega) _).RR hR3
          have hm4 : ∀ h, h < 24 → mt_m S h ≤ 65535 ∧ (mm_setR (mm_setI M2 97 1 0) 133 (fun j => if 0 ≤ j ∧ j < 0 + 24 then nI (mt_m S j) else (mm_setI M2 97 1 0).2.1 133 j)).2.1 133 h = nI (mt_m S h) := fun h hh => ⟨(mt_m_e ho hh).2, by rw [pp_sro, if_pos (by omega)]⟩
          have hwy : ∀ (J : Int32 → mm_M → Option (Int32 × mm_M)) (M' : mm_M), (if nI n = 1 then J 12 M' else if nI n = 2 then J 144 M' else J 1728 M') = J (nI (12 ^ n)) M' := fun J M' => by
            have : n = 1 ∨ n = 2 ∨ n = 3 := by omega
            rcases this with rfl | rfl | rfl
            · rw [if_pos (by decide)]; rfl
            · rw [if_neg (by decide), if_pos (by decide)]; rfl
            · rw [if_neg (by decide), if_neg (by decide)]; rfl
          have hcd := sr_codes (ho.s 0 (v := 0) (by decide)) hR4 h1 (show t < 4096 by omega) (show n ≤ 3 by omega) (by omega) hpow hm4 mt_a0 rfl w (fun (v4 : Int32) (v5 : Int32) (M_23 : mm_M) => if w = (-1) then some (v4, M_23) else if v4 = 0 then some ((-2), M_23) else if w = 3 then some (v5, M_23) else if mm_in w (mm_al 135) = true then some (M_23.2.1 135 w.toNatClampNeg, M_23) else none)
          obtain ⟨M5, c1, c2, c3⟩ := hcd
          have hD : mt_D (ss_s S 0 0) = mt_D S := rfl
          rw [hD] at c1 c3
          obtain ⟨s1, s2, s3⟩ := mt_same (t := t) (D := mt_D S) (m := mt_m S) (show n ≤ 3 by omega) (by omega) (12 ^ n) (Nat.le_refl _)
          rw [← mt_FG] at s1 s2 s3
          have s1 : (nf (mt_st t (mt_D S) n (mt_m S)) (12 ^ n) mt_a0).1 = (mt_all S t n).1 := s1
          have s2 : (nf (mt_st t (mt_D S) n (mt_m S)) (12 ^ n) mt_a0).2.1 = (mt_all S t n).2.1 := s2
          have s3 : ∀ j, j < n → (nf (mt_st t (mt_D S) n (mt_m S)) (12 ^ n) mt_a0).2.2 j = (mt_all S t n).2.2 j := s3
          refine ⟨M5, ?_, c2.RR hR4, ((ss_r.rf.s (by decide)).tr ((rm_f.rf.r0 (by omega) _).r)).tr c2.r⟩
          unfold f_R_meter
          rw [sr_in, pp_bd, i_1, i_3, nI_toInt (by omega), decide_eq_true hv, if_pos rfl, hwr, pp_bd, if_pos rfl, pp_jn]
          have e97 : M2.1 97 1 = nI l := (hR2.1 0 (by decide)).trans h0
          have body : (lp_R_meter_47 (nI n) w (fun (M_9 : mm_M) => mm_jn (fun (s0 : Int32) (M_10 : mm_M) => lp_R_meter_131 (nI n) w s0 (fun (v4 : Int32) (v5 : Int32) (M_23 : mm_M) => if w = (-1) then some (v4, M_23) else if v4 = 0 then some ((-2), M_23) else if w = 3 then some (v5, M_23) else if mm_in w (mm_al 135) = true then some (M_23.2.1 135 w.toNatClampNeg, M_23) else none) mm_fu 0 4095 0 M_10) fun j119 => if nI n = 1 then j119 12 M_9 else if nI n = 2 then j119 144 M_9 else j119 1728 M_9) mm_fu 0 (mm_setI M2 97 1 0)) = some (mt_an (mt_all S t n) w, M5) := by
            rw [sr_metered (S := ss_s S 0 0) (ho.s 0 (v := 0) (by decide)) hR3, pp_jn]
            refine (hwy (fun s0 M_10 => lp_R_meter_131 (nI n) w s0 (fun (v4 : Int32) (v5 : Int32) (M_23 : mm_M) => if w = (-1) then some (v4, M_23) else if v4 = 0 then some ((-2), M_23) else if w = 3 then some (v5, M_23) else if mm_in w (mm_al 135) = true then some (M_23.2.1 135 w.toNatClampNeg, M_23) else none) mm_fu 0 4095 0 M_10) _).trans ?_
            refine Eq.trans c1 ?_
            rw [s1, s2]
            unfold mt_an
            by_cases w1 : w = -1
            · rw [if_pos w1, if_pos w1]
            · rw [if_neg w1, if_neg w1]
              by_cases hz : (mt_all S t n).1 = 0
              · rw [hz, if_pos (show nI 0 = 0 from rfl), if_pos rfl]
              · rw [if_neg (show ¬ nI (mt_all S t n).1 = 0 from nI_ne0 (by omega) (by omega)), if_neg hz]
                by_cases w3 : w = 3
                · rw [if_pos w3, if_pos w3]
                · have hw2 := (hw.resolve_left w1).resolve_left w3
                  rw [nI_toInt (by omega)] at hw2
                  obtain ⟨x, hx, rfl⟩ := ii_nat (v := w) (n := n) hw2.1 hw2.2 (by omega)
                  rw [if_neg w3, if_neg w3, mm_al_135, pp_in (by omega) (by decide), if_pos rfl, nI_clamp (by omega), nI_toInt (by omega), c3 (by rw [s1]; exact hz) x hx, s3 x hx]
                  rfl
          by_cases w3 : w = 3
          · rw [if_pos w3]
            show (if 48 ≤ M2.1 97 1 then mm_let _ _ else _) = _
            rw [e97, if_pos g48, pp_let]
            exact body
          · rw [if_neg w3, if_neg (hwn w3)]
            show (if 48 ≤ M2.1 97 1 then mm_let _ _ else _) = _
            rw [e97, if_pos g48, pp_let]
            exact body
      · have g48 : ¬ (48 : Int32) ≤ nI l := nI_ge (b := 48) (by omega) (by decide)
        refine ss_same (r := -3) hI ⟨M, ?_, hH, ss_h.rf⟩ (fun M2 hR2 => ⟨M2, ?_, hR2, ss_r.rf⟩)
        · unfold f_H_meter f_Tape_size f_Tape_clear
          rw [pp_jn, pp_jn]
          refine (cls (fun s0 M_1 => if nI n < 1 then some ((-3), M_1) else if 3 < nI n then some ((-3), M_1) else if s0 = true then mm_bd (some (M_1.1 1 1, M_1)) fun r_2 M_3 => if 48 ≤ r_2 then mm_bd (f_Days_readMeter_1 (nI n) M_3) fun u_4 M_5 => mm_bd (mm_let (mm_setI M_5 1 1 0) fun M_1 => some ((), M_1)) fun u_6 M_7 => if w = (-1) then some (M_7.1 4 7, M_7) else if M_7.1 4 7 = 0 then some ((-2), M_7) else if w = 3 then some (M_7.1 4 8, M_7) else if mm_in w (mm_al 21) = true then some (M_7.2.1 21 w.toNatClampNeg, M_7) else none else some ((-3), M_3) else some ((-3), M_1))).trans ?_
          rw [if_neg hv1, if_neg hv3, if_pos rfl, pp_bd, eH, if_neg g48]
        · have e97 : M2.1 97 1 = nI l := (hR2.1 0 (by decide)).trans h0
          unfold f_R_meter
          rw [sr_in, pp_bd, i_1, i_3, nI_toInt (by omega), decide_eq_true hv, if_pos rfl, hwr, pp_bd, if_pos rfl, pp_jn]
          by_cases w3 : w = 3
          · rw [if_pos w3]
            show (if 48 ≤ M2.1 97 1 then mm_let _ _ else _) = _
            rw [e97, if_neg g48]
          · rw [if_neg w3, if_neg (hwn w3)]
            show (if 48 ≤ M2.1 97 1 then mm_let _ _ else _) = _
            rw [e97, if_neg g48]
    · have w1 : ¬ w = -1 := fun q => hw (Or.inl q)
      have w3 : ¬ w = 3 := fun q => hw (Or.inr (Or.inl q))
      have wb : ¬ (0 ≤ w.toInt ∧ w.toInt < (nI n).toInt) := fun q => hw (Or.inr (Or.inr q))
      refine ss_same (r := -3) hI ⟨M, ?_, hH, ss_h.rf⟩ (fun M2 hR2 => ⟨M2, ?_, hR2, ss_r.rf⟩)
      · unfold f_H_meter
        rw [pp_jn, pp_jn, if_neg w1, if_neg w3, sh_isBelow, pp_bd, decide_eq_false wb, if_neg (show ¬ false = true by decide)]
        show (if nI n < 1 then _ else if 3 < nI n then _ else if false = true then _ else some (-3, M)) = _
        rw [if_neg hv1, if_neg hv3, if_neg (by decide)]
      · rw [nI_toInt (by omega)] at wb
        unfold f_R_meter
        rw [sr_in, pp_bd, i_1, i_3, nI_toInt (by omega), decide_eq_true hv, if_pos rfl, sr_in, pp_bd, i_m1, i_3]
        by_cases hwi : -1 ≤ w.toInt ∧ w.toInt ≤ 3
        · rw [decide_eq_true hwi, if_pos rfl, pp_jn, if_neg w3, if_pos]
          rw [ii_le, nI_toInt (by omega)]
          have : w.toInt ≠ -1 := fun q => w1 ((ii_eq _ _).mpr (by rw [q]; rfl))
          omega
        · rw [decide_eq_false hwi, if_neg (by decide)]
  · have hvc : v < 1 ∨ (¬ v < 1 ∧ 3 < v) := by
      rw [ii_lt, ii_lt, i_1, i_3]
      omega
    refine ss_same (r := -3) hI ⟨M, ?_, hH, ss_h.rf⟩ (fun M2 hR2 => ⟨M2, ?_, hR2, ss_r.rf⟩)
    · have hX : ∀ (s0 : Bool) (M_1 : mm_M) (B : Option (Int32 × mm_M)), (if v < 1 then some ((-3 : Int32), M_1) else if 3 < v then some ((-3), M_1) else B) = some (-3, M_1) := fun s0 M_1 B => by
        rcases hvc with q | ⟨q1, q2⟩
        · rw [if_pos q]
        · rw [if_neg q1, if_pos q2]
      unfold f_H_meter
      rw [pp_jn, pp_jn]
      by_cases w1 : w = -1
      · rw [if_pos w1]; exact hX true M _
      · rw [if_neg w1]
        by_cases w3 : w = 3
        · rw [if_pos w3]; exact hX true M _
        · rw [if_neg w3, sh_isBelow, pp_bd]
          by_cases wb : 0 ≤ w.toInt ∧ w.toInt < v.toInt
          · rw [decide_eq_true wb, if_pos rfl]; exact hX true M _
          · rw [decide_eq_false wb, if_neg (by decide)]; exact hX false M _
    · unfold f_R_meter
      rw [sr_in, pp_bd, i_1, i_3, decide_eq_false hv, if_neg (by decide)]
end METER
