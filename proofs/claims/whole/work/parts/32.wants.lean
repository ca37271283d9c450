/-! wants, can -/
theorem pp_cn10 : ∀ t, t < 1024 → pp_cn t 12 ≤ 10 := by decide +kernel
theorem sh_isPart {t s : Nat} (ht : t < 2 ^ 31) (hs : s < 2 ^ 31) (M : mm_M) : f_H_isPart (nI t) (nI s) M = some (decide (pp_sub t s), M) := by
  unfold f_H_isPart
  by_cases h : pp_sub t s
  · rw [if_pos ((pp_part ht hs).mpr h), decide_eq_true h]
  · rw [if_neg (fun q => h ((pp_part ht hs).mp q)), decide_eq_false h]
theorem sh_are_no {s : Nat} {M : mm_M} {v n : Int32} (hs : s < 1024) (h5 : M.1 27 0 = nI s) (h : ¬ ∃ t : Nat, 0 < t ∧ v = nI t ∧ pp_sub t s) : f_H_areStays v n M = some (false, M) := by
  unfold f_H_areStays
  by_cases hv : v ≤ 0
  · rw [if_pos hv]
  · rw [if_neg hv]
    have hv2 : 0 < v.toInt := by
      rw [ii_le, i_0] at hv
      omega
    obtain ⟨t, ht, rfl⟩ := nI_of (x := v) (by rw [ii_lt, i_0]; omega)
    rw [nI_toInt ht] at hv2
    rw [h5, sh_isPart ht (by omega), pp_bd, decide_eq_false (fun q => h ⟨t, by omega, rfl, q⟩), if_neg (by decide)]
theorem sr_are_no {s : Nat} {M : mm_M} {v : Int32} (hs : s < 1024) (h5 : M.1 97 12 = nI s) (h : ¬ ∃ t : Nat, 0 < t ∧ v = nI t ∧ pp_sub t s) : f_R_areStays v M = some (false, M) := by
  unfold f_R_areStays
  by_cases hv : v ≤ 0
  · rw [if_pos hv]
  · rw [if_neg hv]
    have hv2 : 0 < v.toInt := by
      rw [ii_le, i_0] at hv
      omega
    obtain ⟨t, ht, rfl⟩ := nI_of (x := v) (by rw [ii_lt, i_0]; omega)
    rw [nI_toInt ht] at hv2
    rw [h5, if_neg (fun q => h ⟨t, by omega, rfl, (pp_part ht (by omega)).mp q⟩)]
theorem sh_are {s t n : Nat} {M : mm_M} (hs : s < 1024) (h5 : M.1 27 0 = nI s) (h0 : 0 < t) (ht : pp_sub t s) (hn : n < 2 ^ 31) : f_H_areStays (nI t) (nI n) M = some (decide (pp_cn t 12 ≤ n), M) := by
  have hle := pp_sub_le ht
  have hb := pp_cn10 t (by omega)
  unfold f_H_areStays
  rw [h5, sh_isPart (by omega) (by omega), pp_bd, decide_eq_true ht, if_pos rfl, sh_bitCount (by omega), pp_bd, if_neg (nI_nle h0 (by omega))]
  by_cases hc : pp_cn t 12 ≤ n
  · rw [if_neg (nI_nlt hc hn), decide_eq_true hc]
  · rw [if_pos (nI_lt (by omega) (by omega)), decide_eq_false hc]
theorem sr_are {s t : Nat} {M : mm_M} (hs : s < 1024) (h5 : M.1 97 12 = nI s) (h0 : 0 < t) (ht : pp_sub t s) : f_R_areStays (nI t) M = some (true, M) := by
  have hle := pp_sub_le ht
  unfold f_R_areStays
  rw [h5, if_neg (nI_nle h0 (by omega)), if_pos ((pp_part (by omega) (by omega)).mpr ht)]
theorem pp_sub_rf (s : Nat) : pp_sub s s := Nat.and_self s
section WANTS
variable {Q : Int32 → (Nat → Nat → Int32) → Prop}
theorem p_wants : ok_wants (ss_I Q) := by
  intro v w M hI
  obtain ⟨S, hI⟩ := hI
  obtain ⟨ho, hH, hR, -⟩ := id hI
  obtain ⟨s, hs, h5⟩ := ho.n 5 (by decide)
  have hs : (s : Int) ≤ 1023 := hs
  by_cases hv : 0 ≤ v.toInt ∧ v.toInt < 3
  · by_cases hw : 0 ≤ w.toInt ∧ w.toInt < 24
    · obtain ⟨k, hk, rfl⟩ := ii_nat (n := 3) hv.1 hv.2 (by decide)
      obtain ⟨h, hh, rfl⟩ := ii_nat (n := 24) hw.1 hw.2 (by decide)
      obtain ⟨L, M1, g1, g2, g3, g4⟩ := sh_begin ho hH (show s < 1024 by omega) h5
      obtain ⟨M2, k1, k2, k3⟩ := sh_turnTo g2 (t := s) (by omega) ld_F0 (ld_of_F ho g4 (pp_sub_rf s))
      have hm := g3.tr k3
      have hH2 := hH.lo hm (by omega)
      have e1 : M1.1 27 0 = nI s := ((hH.lo g3 (by omega)).1 5 (by decide)).trans h5
      refine ss_same (r := pp_all S s k h) hI ⟨M2, ?_, hH2, hm.h (by omega) (by omega)⟩ (fun M3 hR3 => ⟨M3, ?_, hR3, ss_r.rf⟩)
      · unfold f_H_wants
        rw [sh_isBelow, pp_bd, i_3, decide_eq_true hv, if_pos rfl, sh_isBelow, pp_bd, i_24, decide_eq_true hw, if_pos rfl, g1, pp_bd, e1, k1, pp_bd, mm_al_69]
        simp (disch := omega) only [pp_bd, pp_let, pp_jn, zl0, zl1, zl2, zl3, zl4, zl5, zl6, zl7, zl8, zl9, zl10, zl11, zl12, zl14, zl20, zl23, zl24, zl48, zl60, zl72, zl96, zl99, zl100, zl120, zl160, zl180, zl200, zl255, zl720, zl999, zl1023, zl1024, zl4095, zl9999, zl65536, nI_add, pp_mulN, zm1, zm2, zm3, nI_leI, nI_ltI, nI_eq, pp_in, nI_clamp, ↓reduceIte, ld_sum k2 g4 (pp_sub_rf s) hk hh]
      · unfold f_R_wants
        rw [sr_isKind, pp_bd, decide_eq_true hv, if_pos rfl, sr_isHour, pp_bd, decide_eq_true hw, if_pos rfl, show M3.1 97 12 = nI s from (hR3.1 5 (by decide)).trans h5, sr_wantAll ho hR3 (by omega) hk hh, pp_bd]
    · refine ss_same (r := -1) hI ⟨M, ?_, hH, ss_h.rf⟩ (fun M1 hR1 => ⟨M1, ?_, hR1, ss_r.rf⟩)
      · unfold f_H_wants
        rw [sh_isBelow, pp_bd, i_3, decide_eq_true hv, if_pos rfl, sh_isBelow, pp_bd, i_24, decide_eq_false hw, if_neg (by decide)]
      · unfold f_R_wants
        rw [sr_isKind, pp_bd, decide_eq_true hv, if_pos rfl, sr_isHour, pp_bd, decide_eq_false hw, if_neg (by decide)]
  · refine ss_same (r := -1) hI ⟨M, ?_, hH, ss_h.rf⟩ (fun M1 hR1 => ⟨M1, ?_, hR1, ss_r.rf⟩)
    · unfold f_H_wants
      rw [sh_isBelow, pp_bd, i_3, decide_eq_false hv, if_neg (by decide)]
    · unfold f_R_wants
      rw [sr_isKind, pp_bd, decide_eq_false hv, if_neg (by decide)]
theorem i_2 : (2 : Int32).toInt = 2 := rfl
def pp_canR (q : Option (Nat × Int32)) (w : Nat) : Int32 := if w = 0 then (if q.isNone then nI 1 else nI 0) else match q with
  | none => pp_m2
  | some x => if w = 1 then nI x.1 else x.2
theorem p_can : ok_can (ss_I Q) := by
  intro v w M hI
  obtain ⟨S, hI⟩ := hI
  obtain ⟨ho, hH, hR, -⟩ := id hI
  obtain ⟨s, hs, h5⟩ := ho.n 5 (by decide)
  have hs : (s : Int) ≤ 1023 := hs
  have eH : M.1 27 0 = nI s := (hH.1 5 (by decide)).trans h5
  by_cases hv : ∃ t : Nat, 0 < t ∧ v = nI t ∧ pp_sub t s
  · obtain ⟨t, h0, rfl, hsub⟩ := hv
    have hts := pp_sub_le hsub
    have hcn := pp_cn10 t (by omega)
    have a1 : ∀ M' : mm_M, M'.1 27 0 = nI s → f_H_areStays (nI t) 10 M' = some (true, M') := fun M' h => by
      have := sh_are (n := 10) (show s < 1024 by omega) h h0 hsub (by decide)
      rw [decide_eq_true hcn] at this
      exact this
    have hwr : ∀ M' : mm_M, f_R_in w 0 2 M' = some (decide (0 ≤ w.toInt ∧ w.toInt < 3), M') := fun M' => by
      rw [sr_in, i_0, i_2]
      congr 3
      exact propext (by omega)
    by_cases hw : 0 ≤ w.toInt ∧ w.toInt < 3
    · obtain ⟨x, hx, rfl⟩ := ii_nat (n := 3) hw.1 hw.2 (by decide)
      obtain ⟨L, M1, g1, g2, g3, g4⟩ := sh_begin ho hH (show s < 1024 by omega) h5
      obtain ⟨M2, k1, k2, k3⟩ := sh_turnTo g2 (t := t) (by omega) ld_F0 (ld_of_F ho g4 hsub)
      have hm := g3.tr k3
      have hH2 := hH.lo hm (by omega)
      have f1 : f_Load_fits M2 = some ((pp_fit S t true).isNone, ld_end M2 (pp_fit S t true)) := by
        unfold f_Load_fits
        have := sh_fits hH2 k2 g4 hsub true
        rw [if_pos rfl] at this
        rw [show (0 : Int32) = nI 0 from rfl, this]
        rfl
      have hm2 := hm.tr (ld_end_m M2 (pp_fit S t true))
      refine ss_same (r := pp_canR (pp_fit S t true) x) hI ⟨ld_end M2 (pp_fit S t true), ?_, hH.lo hm2 (by omega), hm2.h (by omega) (by omega)⟩ (fun M3 hR3 => ?_)
      · unfold f_H_can
        rw [a1 M eH, pp_bd, if_pos rfl, sh_isBelow, pp_bd, i_3, decide_eq_true hw, if_pos rfl, g1, pp_bd, k1, pp_bd, f1, pp_bd]
        have hx3 : x = 0 ∨ x = 1 ∨ x = 2 := by omega
        rcases hx3 with rfl | rfl | rfl
        · rw [if_pos (by decide)]
          cases pp_fit S t true <;> rfl
        · rw [if_neg (show ¬ nI 1 = (0 : Int32) by decide), if_pos (show nI 1 = (1 : Int32) by decide)]
          cases pp_fit S t true <;> rfl
        · rw [if_neg (show ¬ nI 2 = (0 : Int32) by decide), if_neg (show ¬ nI 2 = (1 : Int32) by decide)]
          cases pp_fit S t true <;> rfl
      · have e12 : M3.1 97 12 = nI s := (hR3.1 5 (by decide)).trans h5
        obtain ⟨M4, c1, c2, c3⟩ := sr_canBe ho hR3 (s := t) (by omega) true
        refine ⟨M4, ?_, c2.RR hR3, c2.r⟩
        unfold f_R_can
        rw [sr_are (by omega) e12 h0 hsub, pp_bd, if_pos rfl, hwr, pp_bd, decide_eq_true hw, if_pos rfl, c1, pp_bd]
        have hx3 : x = 0 ∨ x = 1 ∨ x = 2 := by omega
        rcases hx3 with rfl | rfl | rfl
        · rw [if_pos (by decide)]
          cases pp_fit S t true <;> rfl
        · rw [if_neg (show ¬ nI 1 = (0 : Int32) by decide), if_pos (show nI 1 = (1 : Int32) by decide)]
          cases hq : pp_fit S t true with
          | none => rfl
          | some q => rw [(c3 q hq).1]; rfl
        · rw [if_neg (show ¬ nI 2 = (0 : Int32) by decide), if_neg (show ¬ nI 2 = (1 : Int32) by decide)]
          cases hq : pp_fit S t true with
          | none => rfl
          | some q => rw [(c3 q hq).2]; rfl
    · refine ss_same (r := -3) hI ⟨M, ?_, hH, ss_h.rf⟩ (fun M1 hR1 => ⟨M1, ?_, hR1, ss_r.rf⟩)
      · unfold f_H_can
        rw [a1 M eH, pp_bd, if_pos rfl, sh_isBelow, pp_bd, i_3, decide_eq_false hw, if_neg (by decide)]
      · have e12 : M1.1 97 12 = nI s := (hR1.1 5 (by decide)).trans h5
        unfold f_R_can
        rw [sr_are (by omega) e12 h0 hsub, pp_bd, if_pos rfl, hwr, pp_bd, decide_eq_false hw, if_neg (by decide)]
  · refine ss_same (r := -3) hI ⟨M, ?_, hH, ss_h.rf⟩ (fun M1 hR1 => ⟨M1, ?_, hR1, ss_r.rf⟩)
    · unfold f_H_can
      rw [sh_are_no (by omega) eH hv, pp_bd, if_neg (by decide)]
    · have e12 : M1.1 97 12 = nI s := (hR1.1 5 (by decide)).trans h5
      unfold f_R_can
      rw [sr_are_no (by omega) e12 hv, pp_bd, if_neg (by decide)]
end WANTS
