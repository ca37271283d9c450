/-! check -/
theorem pp_b255 : ∀ n, n < 256 → (nI n).toInt8.toInt32 &&& 255 = nI n := by decide +kernel
theorem pp_byte {S : ss_S} (ho : ss_Ok S) {j : Nat} (hj : j < 200) : (S.2 0 j).toInt8.toInt32 &&& 255 = S.2 0 j := by
  obtain ⟨n, hn, e⟩ := ho.m 0 (by decide) rfl hj
  have hn : (n : Int) ≤ 255 := hn
  rw [e]
  exact pp_b255 n (by omega)
theorem sh_byteAt {S : ss_S} {M : mm_M} (hH : ss_RH S M) {n p : Nat} (hn : n ≤ 200) (h0 : S.1 0 = nI n) (hp : p < n) : f_Tape_byteAt (nI p) M = some (S.2 0 p, M) := by
  unfold f_Tape_byteAt
  rw [show M.1 1 1 = nI n from (hH.1 0 (by decide)).trans h0, sh_isBelow, pp_bd, nI_toInt (by omega), nI_toInt (by omega), decide_eq_true (by omega), if_pos rfl, show mm_al 2 = 200 from rfl, pp_in (by omega) (by decide), if_pos rfl, nI_clamp (by omega)]
  rw [show M.2.1 2 p = S.2 0 p from hH.2 0 (by decide) p (by show p < 200; omega)]
def pp_pair (S : ss_S) (p : Nat) : Int32 := (S.2 0 p <<< (8 &&& 31)) ||| S.2 0 (p + 1)
theorem sh_pairAt {S : ss_S} {M : mm_M} (hH : ss_RH S M) {n p : Nat} (hn : n ≤ 200) (h0 : S.1 0 = nI n) (hp : p + 1 < n) : f_Tape_pairAt (nI p) M = some (pp_pair S p, M) := by
  unfold f_Tape_pairAt
  rw [sh_byteAt hH hn h0 (by omega), pp_bd, nI_1, sh_byteAt hH hn h0 hp, pp_bd]
  rfl
def pp_num (S : ss_S) (p : Nat) : Int32 := (pp_pair S p <<< (16 &&& 31)) ||| pp_pair S (p + 2)
theorem sh_numberAt {S : ss_S} {M : mm_M} (hH : ss_RH S M) {n p : Nat} (hn : n ≤ 200) (h0 : S.1 0 = nI n) (hp : p + 3 < n) : f_Tape_numberAt (nI p) M = some (pp_num S p, M) := by
  unfold f_Tape_numberAt
  rw [sh_pairAt hH hn h0 (by omega), pp_bd, show nI p + 2 = nI (p + 2) from nI_add p 2, sh_pairAt hH hn h0 (by omega), pp_bd]
  rfl
theorem pp_shl (a b c d : Int32) : ((((((0 : Int32) <<< ((8 : Int32) &&& 31)) ||| a) <<< (8 &&& 31) ||| b) <<< (8 &&& 31) ||| c) <<< (8 &&& 31)) ||| d = (((a <<< (8 &&& 31)) ||| b) <<< (16 &&& 31)) ||| ((c <<< (8 &&& 31)) ||| d) := by
  apply Int32.toBitVec_inj.mp
  simp only [Int32.toBitVec_or, Int32.toBitVec_shiftLeft]
  rw [show ((8 &&& 31 : Int32).toBitVec.smod 32) = 8#32 from by decide, show ((16 &&& 31 : Int32).toBitVec.smod 32) = 16#32 from by decide]
  simp only [BitVec.shiftLeft_eq', show (8#32).toNat = 8 from rfl, show (16#32).toNat = 16 from rfl]
  rw [show (0 : Int32).toBitVec = 0#32 from rfl]
  simp only [BitVec.zero_shiftLeft, BitVec.zero_or, BitVec.shiftLeft_or_distrib, ← BitVec.shiftLeft_add, BitVec.or_assoc]
theorem sr_tapeNumber {S : ss_S} {M : mm_M} (ho : ss_Ok S) (hR : ss_RR S M) {h : Nat} (hh : 4 * h + 3 < 200) : f_R_tapeNumber (nI h) M = some (pp_num S (4 * h), M) := by
  have e0 : ∀ j, j < 200 → M.2.1 98 j &&& 255 = S.2 0 j := fun j hj => by
    rw [show M.2.1 98 j = (S.2 0 j).toInt8.toInt32 from hR.2 0 (by decide) j hj]
    exact pp_byte ho hj
  have s1 : ∀ k v n i, i < 4 → lp_R_tapeNumber_6 (nI h) k (n + 1) v (nI (4 * h + i)) M = lp_R_tapeNumber_6 (nI h) k n ((v <<< (8 &&& 31)) ||| S.2 0 (4 * h + i)) (nI (4 * h + (i + 1))) M := fun k v n i hi => by
    rw [lp_R_tapeNumber_6, show (4 : Int32) * nI h + 4 = nI (4 * h + 4) from by rw [show (4 : Int32) = nI 4 from rfl, pp_mulN, nI_add], if_neg (nI_ge (by omega) (by omega)), show mm_bl 98 = 200 from rfl, pp_in (by omega) (by decide), if_pos rfl, nI_clamp (by omega), e0 _ (by omega), pp_let, nI_1, pp_let]
    rfl
  unfold f_R_tapeNumber
  obtain ⟨n, hn⟩ := pp_fu5
  rw [hn, pp_let, show (4 : Int32) * nI h = nI (4 * h + 0) from by rw [show (4 : Int32) = nI 4 from rfl, pp_mulN]; rfl, s1 _ _ _ 0 (by decide), s1 _ _ _ 1 (by decide), s1 _ _ _ 2 (by decide), s1 _ _ _ 3 (by decide), lp_R_tapeNumber_6, show (4 : Int32) * nI h + 4 = nI (4 * h + 4) from by rw [show (4 : Int32) = nI 4 from rfl, pp_mulN, nI_add], if_pos (nI_le (Nat.le_refl _) (by omega)), pp_shl]
  rfl
/-- the first hour, from h on, whose number is another -/
def pp_ck (S : ss_S) (o : Nat) : Nat → Nat → Int32
  | 0, _ => -1
  | n + 1, h => if pp_num S (4 * h) = S.2 1 (o + h) then pp_ck S o n (h + 1) else nI h
section CHECK
variable {Q : Int32 → (Nat → Nat → Int32) → Prop}
theorem p_check : ok_check (ss_I Q) := by
  intro d v w M hI
  obtain ⟨S, hI⟩ := hI
  obtain ⟨ho, hH, hR, -⟩ := id hI
  obtain ⟨t, ht, h1⟩ := ho.n 1 (by decide)
  have ht : (t : Int) ≤ 4095 := ht
  obtain ⟨n, hn, h0⟩ := ho.n 0 (by decide)
  have hn : (n : Int) ≤ 200 := hn
  by_cases hd : pp_has t d = true
  · by_cases hv : 0 ≤ v.toInt ∧ v.toInt < 3
    · by_cases hw : 0 ≤ w.toInt ∧ w.toInt ≤ 24
      · obtain ⟨d, hd12, rfl, -⟩ := pp_has_of hd
        obtain ⟨k, hk, rfl⟩ := ii_nat (n := 3) hv.1 hv.2 (by decide)
        obtain ⟨c, hc, rfl⟩ := ii_nat (n := 25) hw.1 (by omega) (by decide)
        have ew : (4 : Int32) * nI c ≤ nI n ↔ 4 * c ≤ n := by
          rw [show (4 : Int32) = nI 4 from rfl, pp_mulN, nI_leI (by omega) (by omega)]
        have er : nI c ≤ nI n / 4 ↔ 4 * c ≤ n := by
          rw [show (4 : Int32) = nI 4 from rfl, pk_div (by omega) (by decide) (by decide), nI_leI (by omega) (by omega)]
          omega
        have eH : M.1 1 1 = nI n := (hH.1 0 (by decide)).trans h0
        by_cases hcn : 4 * c ≤ n
        · have kH : ∀ (M : mm_M), ss_RH S M → ∀ (q h m : Nat), h + q = c → lp_H_check_50 (nI d) (nI k) (nI c) (fun (v4 : Int32) (M_15 : mm_M) => mm_bd (f_Tape_clear M_15) fun u_16 M_17 => some (v4, M_17)) (m + q + 1 + 1) (-1) (nI h) M = some (pp_ck S (72 * d + 24 * k) q h, mm_setI M 1 1 0) := by
            intro M hH q
            induction q with
            | zero =>
              intro h m hh
              have : h = c := by omega
              subst this
              rw [lp_H_check_50, if_pos (nI_le (Nat.le_refl _) (by omega))]
              rfl
            | succ q ih =>
              intro h m hh
              have e1 : M.2.1 (6 + d) (k * 24 + h) = S.2 1 (72 * d + 24 * k + h) := by
                rw [sh_day hH hd12 (by omega), show 72 * d + (k * 24 + h) = 72 * d + 24 * k + h by omega]
              rw [show m + (q + 1) + 1 + 1 = (m + q + 1 + 1) + 1 from rfl, lp_H_check_50, if_neg (nI_ge (by omega) (by omega)), if_pos rfl, show (4 : Int32) * nI h = nI (4 * h) from by rw [show (4 : Int32) = nI 4 from rfl, pp_mulN], sh_numberAt hH (by omega) h0 (by omega), pp_bd]
              unfold f_Days_rowOf
              rw [pp_in hd12 (by decide), if_pos rfl, pp_bd, nI_clamp (by omega), mm_al_day d hd12, show nI k * 24 + nI h = nI (k * 24 + h) from by rw [show (24 : Int32) = nI 24 from rfl, pp_mulN, nI_add], pp_in (by omega) (by decide), if_pos rfl, nI_clamp (by omega), e1, pp_jn, pp_ck]
              by_cases hc : pp_num S (4 * h) = S.2 1 (72 * d + 24 * k + h)
              · rw [if_pos hc, if_pos hc]
                show mm_let (nI h + 1) _ = _
                rw [nI_1, pp_let]
                exact ih (h + 1) m (by omega)
              · rw [if_neg hc, if_neg hc]
                show mm_let (nI h + 1) _ = _
                rw [nI_1, pp_let, lp_H_check_50]
                by_cases hl : nI c ≤ nI (h + 1)
                · rw [if_pos hl]; rfl
                · rw [if_neg hl, if_neg (fun e => by
                    have := (ii_eq _ _).mp e
                    rw [nI_toInt (by omega), show (-1 : Int32).toInt = -1 from rfl] at this
                    omega)]
                  rfl
          have kR : ∀ (M : mm_M), ss_RR (ss_s S 0 0) M → ∀ (q h m : Nat), h + q = c → lp_R_check_46 (nI d) (nI k) (nI c) (fun (v4 : Int32) (M_11 : mm_M) => some (v4, M_11)) (fun (M_12 : mm_M) => some ((-1), M_12)) (m + q + 1) (nI h) M = some (pp_ck S (72 * d + 24 * k) q h, M) := by
            intro M hR q
            induction q with
            | zero =>
              intro h m hh
              have : h = c := by omega
              subst this
              rw [lp_R_check_46, if_pos (nI_le (Nat.le_refl _) (by omega))]
              rfl
            | succ q ih =>
              intro h m hh
              have e1 : M.2.1 99 (72 * d + 24 * k + h) = S.2 1 (72 * d + 24 * k + h) := hR.2 1 (by decide) _ (by show _ < 864; omega)
              rw [show m + (q + 1) + 1 = (m + q + 1) + 1 from rfl, lp_R_check_46, if_neg (nI_ge (by omega) (by omega)), sr_tapeNumber (ho.s 0 (by decide)) hR (by omega), pp_bd, mm_al_99, show (72 : Int32) * nI d + 24 * nI k + nI h = nI (72 * d + 24 * k + h) from by rw [show (24 : Int32) = nI 24 from rfl, show (72 : Int32) = nI 72 from rfl, pp_mulN, pp_mulN, nI_add, nI_add], pp_in (by omega) (by decide), if_pos rfl, nI_clamp (by omega), e1, pp_ck]
              by_cases hc : pp_num S (4 * h) = S.2 1 (72 * d + 24 * k + h)
              · rw [if_pos hc, if_pos (show pp_num (ss_s S 0 0) (4 * h) = _ from hc), nI_1, pp_let]
                exact ih (h + 1) m (by omega)
              · rw [if_neg hc, if_neg (show ¬ pp_num (ss_s S 0 0) (4 * h) = _ from hc)]
          refine ss_go (S' := ss_s S 0 0) (r := pp_ck S (72 * d + 24 * k) c 0) hI (ho.s 0 (by decide)) rfl ⟨mm_setI M 1 1 0, ?_, hH.s 0 (by decide) rfl 0, ss_h.rf.s (by decide)⟩ (fun M1 hR1 => ⟨mm_setI M1 97 1 0, ?_, hR1.s 0 (by decide) rfl 0, ss_r.rf.s (by decide)⟩)
          · unfold f_H_check f_Tape_size
            rw [sh_isTold hH (show t < 4096 by omega) h1, pp_bd, hd, if_pos rfl, sh_isBelow, pp_bd, i_3, decide_eq_true hv, if_pos rfl, sh_isUpTo, pp_bd, i_24, decide_eq_true hw, if_pos rfl, pp_bd, eH, if_pos (ew.mpr hcn)]
            have := kH M hH c 0 (4998 - c) (by omega)
            rw [show 4998 - c + c + 1 + 1 = mm_fu from by show _ = 5000; omega] at this
            exact this
          · unfold f_R_check
            rw [sr_isDay hR1 (show t < 4096 by omega) h1, pp_bd, hd, if_pos rfl, sr_isKind, pp_bd, decide_eq_true hv, if_pos rfl, sr_in, pp_bd, i_0, i_24, decide_eq_true hw, if_pos rfl, show M1.1 97 1 = nI n from (hR1.1 0 (by decide)).trans h0, if_pos (er.mpr hcn), pp_let]
            have := kR (mm_setI M1 97 1 0) (hR1.s 0 (by decide) rfl 0) c 0 (4999 - c) (by omega)
            rw [show 4999 - c + c + 1 = mm_fu from by show _ = 5000; omega] at this
            exact this
        · refine ss_same (r := -2) hI ⟨M, ?_, hH, ss_h.rf⟩ (fun M1 hR1 => ⟨M1, ?_, hR1, ss_r.rf⟩)
          · unfold f_H_check f_Tape_size
            rw [sh_isTold hH (show t < 4096 by omega) h1, pp_bd, hd, if_pos rfl, sh_isBelow, pp_bd, i_3, decide_eq_true hv, if_pos rfl, sh_isUpTo, pp_bd, i_24, decide_eq_true hw, if_pos rfl, pp_bd, eH, if_neg (fun q => hcn (ew.mp q))]
          · unfold f_R_check
            rw [sr_isDay hR1 (show t < 4096 by omega) h1, pp_bd, hd, if_pos rfl, sr_isKind, pp_bd, decide_eq_true hv, if_pos rfl, sr_in, pp_bd, i_0, i_24, decide_eq_true hw, if_pos rfl, show M1.1 97 1 = nI n from (hR1.1 0 (by decide)).trans h0, if_neg (fun q => hcn (er.mp q))]
      · refine ss_same (r := -2) hI ⟨M, ?_, hH, ss_h.rf⟩ (fun M1 hR1 => ⟨M1, ?_, hR1, ss_r.rf⟩)
        · unfold f_H_check
          rw [sh_isTold hH (show t < 4096 by omega) h1, pp_bd, hd, if_pos rfl, sh_isBelow, pp_bd, i_3, decide_eq_true hv, if_pos rfl, sh_isUpTo, pp_bd, i_24, decide_eq_false hw, if_neg (by decide)]
        · unfold f_R_check
          rw [sr_isDay hR1 (show t < 4096 by omega) h1, pp_bd, hd, if_pos rfl, sr_isKind, pp_bd, decide_eq_true hv, if_pos rfl, sr_in, pp_bd, i_0, i_24, decide_eq_false hw, if_neg (by decide)]
    · refine ss_same (r := -2) hI ⟨M, ?_, hH, ss_h.rf⟩ (fun M1 hR1 => ⟨M1, ?_, hR1, ss_r.rf⟩)
      · unfold f_H_check
        rw [sh_isTold hH (show t < 4096 by omega) h1, pp_bd, hd, if_pos rfl, sh_isBelow, pp_bd, i_3, decide_eq_false hv, if_neg (by decide)]
      · unfold f_R_check
        rw [sr_isDay hR1 (show t < 4096 by omega) h1, pp_bd, hd, if_pos rfl, sr_isKind, pp_bd, decide_eq_false hv, if_neg (by decide)]
  · have hd : pp_has t d = false := by
      cases hq : pp_has t d
      · rfl
      · exact absurd hq hd
    refine ss_same (r := -2) hI ⟨M, ?_, hH, ss_h.rf⟩ (fun M1 hR1 => ⟨M1, ?_, hR1, ss_r.rf⟩)
    · unfold f_H_check
      rw [sh_isTold hH (show t < 4096 by omega) h1, pp_bd, hd, if_neg (by decide)]
    · unfold f_R_check
      rw [sr_isDay hR1 (show t < 4096 by omega) h1, pp_bd, hd, if_neg (by decide)]
end CHECK
