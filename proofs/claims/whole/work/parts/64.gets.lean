/-! gets, served -/
theorem lw_both {S : ss_S} {M : mm_M} (hI : ss_Ok S ∧ ss_RH S M ∧ ss_RR S M ∧ lwQ (S.1 10) (ss_lw M)) : ∃ k c C L, lwH k c C L M ∧ ∀ M1, ss_RR S M1 → ss_m 0 97 M M1 → lwR k c C L M1 := by
  obtain ⟨ho, hH, hR, k, c, C, L, q1, q2, q3, q4, q5⟩ := hI
  refine ⟨k, c, C, L, ⟨q2, q3, (hH.1 10 (by decide)).trans q1, fun i hi => ?_, fun i hi => ?_⟩, fun M1 hR1 hm => ⟨q2, q3, (hR1.1 10 (by decide)).trans q1, fun i hi => ?_, fun i hi => ?_⟩⟩
  · have := q4 i hi
    rw [lw_at (by decide), lw_at (by decide), lw_at (by decide)] at this
    exact ⟨this.1, this.2.1⟩
  · have := q5 i hi
    rw [lw_at (by decide), lw_at (by decide), lw_at (by decide), lw_at (by decide), lw_at (by decide), lw_at (by decide), lw_at (by decide), lw_at (by decide)] at this
    exact ⟨this.1, this.2.2⟩
  · have := q4 i hi
    rw [lw_at (by decide), lw_at (by decide), lw_at (by decide)] at this
    rw [(hm 115 (by decide)).2.1]
    exact this.2.2
  · have := q5 i hi
    rw [lw_at (by decide), lw_at (by decide), lw_at (by decide), lw_at (by decide), lw_at (by decide), lw_at (by decide), lw_at (by decide), lw_at (by decide)] at this
    rw [(hm 116 (by decide)).2.1, (hm 117 (by decide)).2.1, (hm 118 (by decide)).2.1, (hm 119 (by decide)).2.1]
    exact ⟨this.2.1, this.2.2⟩
/-- nothing is changed that is held; the reference's side may look at the law -/
theorem ss_sameL {α : Type} {fH fR : mm_M → Option (α × mm_M)} {M : mm_M} {S : ss_S} {r : α} (hI : ss_Ok S ∧ ss_RH S M ∧ ss_RR S M ∧ lwQ (S.1 10) (ss_lw M))
    (hH : ∃ M1, fH M = some (r, M1) ∧ ss_RH S M1 ∧ ss_h M M1) (hR : ∀ M1, ss_RR S M1 → ss_m 0 97 M M1 → ∃ M2, fR M1 = some (r, M2) ∧ ss_RR S M2 ∧ ss_r M1 M2) :
    ∃ (r : α) (M1 M2 : mm_M), fH M = some (r, M1) ∧ fR M1 = some (r, M2) ∧ ss_I lwQ M2 := by
  obtain ⟨M1, a1, a2, a3⟩ := hH
  obtain ⟨M2, b1, b2, b3⟩ := hR M1 (hI.2.2.1.m a3.1) a3.1
  exact ⟨r, M1, M2, a1, b1, S, hI.1, a2.m b3.1, b2, by rw [ss_lw_r b3, ss_lw_h a3]; exact hI.2.2.2⟩
theorem p_gets : ok_gets (ss_I lwQ) := by
  intro a1 a2 a3 M ⟨S, hI⟩
  have ho := hI.1
  have hH := hI.2.1
  obtain ⟨s, hs, h5⟩ := ho.n 5 (by decide)
  have hs : (s : Int) ≤ 1023 := hs
  obtain ⟨k, c, C, L, hl, hlR⟩ := lw_both hI
  by_cases hb : pp_has s a1 = true
  · obtain ⟨b, hb12, rfl, hbt⟩ := pp_has_of hb
    have hb10 : b < 10 := pp_tb_lt (n := 10) (by omega) hbt
    by_cases hv : 0 ≤ a2.toInt ∧ a2.toInt < 3
    · by_cases hw : 0 ≤ a3.toInt ∧ a3.toInt < 24
      · obtain ⟨kd, hkd, rfl⟩ := ii_nat (v := a2) (n := 3) hv.1 hv.2 (by decide)
        obtain ⟨h, hh, rfl⟩ := ii_nat (v := a3) (n := 24) hw.1 hw.2 (by decide)
        obtain ⟨Ma, s1, s2, s3, s4, s5⟩ := sh_serveAll (t := (b, kd, h)) ho (by omega) h5 hH hl ⟨hh, hkd, hb10⟩
        have hd := gd_d (k := k) (C := C) (L := L) (S := S) (t := (b, kd, h)) (s := s) hkd hb10 hbt 24 0 (X0 S) (Or.inr ⟨Nat.zero_le _, by show h < 0 + 24; omega⟩)
        refine ss_sameL (r := (gd k C L S (b, kd, h) s 24 0 (X0 S)).2.2.2.2.2.2.1) hI ⟨Ma, ?_, s3, s5⟩ (fun M1 hR1 hm => ?_)
        · unfold f_H_gets
          rw [sh_has hH (by omega) h5, pp_bd, hb, if_pos rfl, sh_isBelow, pp_bd, i_3, decide_eq_true hv, if_pos rfl, sh_isBelow, pp_bd, i_24, decide_eq_true hw, if_pos rfl, s1, pp_bd, pp_in hb10 (by decide), if_pos rfl, nI_clamp (by omega), mm_al_given b hb10, show nI kd * 24 + nI h = nI (24 * kd + h) from by rw [show (24 : Int32) = nI 24 from rfl, pp_mulN, nI_add, Nat.mul_comm], pp_in (by omega) (by decide), if_pos rfl, nI_clamp (by omega), s2.2.2.2 hd]
        · obtain ⟨Mb, r1, r2, r3⟩ := sr_serves (t := (b, kd, h)) ho (by omega) h5 hR1 (hlR M1 hR1 hm) ⟨hh, hkd, hb10⟩
          refine ⟨Mb, ?_, r3.RR hR1, r3.rr⟩
          unfold f_R_gets
          rw [sr_isStay hR1 (by omega) h5, pp_bd, hb, if_pos rfl, sr_isKind, pp_bd, decide_eq_true hv, if_pos rfl, sr_isHour, pp_bd, decide_eq_true hw, if_pos rfl, r1, pp_bd, show (72 : Int32) * nI b + 24 * nI kd + nI h = nI (72 * b + 24 * kd + h) from by rw [show (24 : Int32) = nI 24 from rfl, show (72 : Int32) = nI 72 from rfl, pp_mulN, pp_mulN, nI_add, nI_add], show mm_al 126 = 720 from rfl, pp_in (by omega) (by decide), if_pos rfl, nI_clamp (by omega), r2.2.2.2.2 hd]
      · refine ss_same (r := -1) hI ⟨M, ?_, hH, ss_h.rf⟩ (fun M1 hR1 => ⟨M1, ?_, hR1, ss_r.rf⟩)
        · unfold f_H_gets
          rw [sh_has hH (by omega) h5, pp_bd, hb, if_pos rfl, sh_isBelow, pp_bd, i_3, decide_eq_true hv, if_pos rfl, sh_isBelow, pp_bd, i_24, decide_eq_false hw, if_neg (by decide)]
        · unfold f_R_gets
          rw [sr_isStay hR1 (by omega) h5, pp_bd, hb, if_pos rfl, sr_isKind, pp_bd, decide_eq_true hv, if_pos rfl, sr_isHour, pp_bd, decide_eq_false hw, if_neg (by decide)]
    · refine ss_same (r := -1) hI ⟨M, ?_, hH, ss_h.rf⟩ (fun M1 hR1 => ⟨M1, ?_, hR1, ss_r.rf⟩)
      · unfold f_H_gets
        rw [sh_has hH (by omega) h5, pp_bd, hb, if_pos rfl, sh_isBelow, pp_bd, i_3, decide_eq_false hv, if_neg (by decide)]
      · unfold f_R_gets
        rw [sr_isStay hR1 (by omega) h5, pp_bd, hb, if_pos rfl, sr_isKind, pp_bd, decide_eq_false hv, if_neg (by decide)]
  · have hb : pp_has s a1 = false := by
      cases hq : pp_has s a1
      · rfl
      · exact absurd hq hb
    refine ss_same (r := -1) hI ⟨M, ?_, hH, ss_h.rf⟩ (fun M1 hR1 => ⟨M1, ?_, hR1, ss_r.rf⟩)
    · unfold f_H_gets
      rw [sh_has hH (by omega) h5, pp_bd, hb, if_neg (by decide)]
    · unfold f_R_gets
      rw [sr_isStay hR1 (by omega) h5, pp_bd, hb, if_neg (by decide)]
theorem sh_missed {f : Nat → Int32} {M : mm_M} (h : ∀ b, b < 10 → M.2.1 85 b = f b) : f_Service_missedOfAll M = some (ssum f 10, M) := by
  unfold f_Service_missedOfAll
  refine pp_for (lp := fun m (a : Int32 × Int32) => lp_Service_missedOfAll_4 (fun (v1 : Int32) (M_3 : mm_M) => some (v1, M_3)) m a.1 a.2 M) (fun i => (ssum f i, nI i)) 10 (by decide) (fun i hi m => ?_) (fun m => ?_)
  · show lp_Service_missedOfAll_4 _ (m + 1) (ssum f i) (nI i) M = lp_Service_missedOfAll_4 _ m (ssum f (i + 1)) (nI (i + 1)) M
    rw [lp_Service_missedOfAll_4, if_neg (show ¬ (10 : Int32) ≤ nI i from nI_ge (b := 10) hi (by decide)), show mm_al 85 = 10 from rfl, pp_in hi (by decide), if_pos rfl, nI_clamp (by omega), h i hi, nI_1, pp_let, pp_let, ssum]
  · show lp_Service_missedOfAll_4 _ (m + 1) (ssum f 10) (nI 10) M = _
    rw [lp_Service_missedOfAll_4, if_pos (by decide)]
theorem p_served : ok_served (ss_I lwQ) := by
  intro a1 M ⟨S, hI⟩
  have ho := hI.1
  have hH := hI.2.1
  obtain ⟨s, hs, h5⟩ := ho.n 5 (by decide)
  have hs : (s : Int) ≤ 1023 := hs
  obtain ⟨k, c, C, L, hl, hlR⟩ := lw_both hI
  have ht : ((0, 0, 0) : Nat × Nat × Nat).2.2 < 24 ∧ ((0, 0, 0) : Nat × Nat × Nat).2.1 < 3 ∧ ((0, 0, 0) : Nat × Nat × Nat).1 < 10 := by decide
  obtain ⟨Ma, s1, s2, s3, s4, s5⟩ := sh_serveAll (t := (0, 0, 0)) ho (by omega) h5 hH hl ht
  have hok : sv_ok (gd k C L S (0, 0, 0) s 24 0 (X0 S)) := gd_ok 24 0 (X0 S) rfl
  generalize hX : gd k C L S (0, 0, 0) s 24 0 (X0 S) = X at s2 hok
  have fR : ∀ M1, ss_RR S M1 → ss_m 0 97 M M1 → ∃ Mb, f_R_serves M1 = some ((), Mb) ∧ vR0 (0, 0, 0) X Mb ∧ vg M1 Mb := fun M1 hR1 hm => by
    have := sr_serves (t := (0, 0, 0)) ho (by omega) h5 hR1 (hlR M1 hR1 hm) ht
    rw [hX] at this
    exact this
  by_cases hv : 0 ≤ a1.toInt ∧ a1.toInt < 3
  · have hn : pp_has s (a1 - 10) = false := by
      cases hq : pp_has s (a1 - 10)
      · rfl
      · obtain ⟨b, hb, e, _⟩ := pp_has_of hq
        have := (ii_eq _ _).mp e
        rw [ii_sub (by rw [i_10]; omega) (by rw [i_10]; omega), nI_toInt (by omega), i_10] at this
        omega
    have hv2 : (0 : Int32).toInt ≤ a1.toInt ∧ a1.toInt ≤ (2 : Int32).toInt := by
      rw [i_0, show (2 : Int32).toInt = 2 from rfl]
      omega
    obtain ⟨q, hq, rfl⟩ := ii_nat (v := a1) (n := 3) hv.1 hv.2 (by decide)
    refine ss_sameL (r := if q = 0 then X.2.2.2.2.1 else if q = 1 then X.2.2.2.1 else X.2.2.2.2.2.1) hI ⟨Ma, ?_, s3, s5⟩ (fun M1 hR1 hm => ?_)
    · unfold f_H_served
      rw [sh_has hH (by omega) h5, pp_bd, sh_isBelow, pp_bd, i_3, decide_eq_true hv, pp_jn, if_pos rfl, hn]
      dsimp only
      rw [s1, pp_bd, if_neg (by decide)]
      rcases (show q = 0 ∨ q = 1 ∨ q = 2 by omega) with rfl | rfl | rfl
      · rw [if_pos (by decide), if_pos rfl, s2.2.2.1]
      · rw [if_neg (by decide), if_pos (by decide), if_neg (by decide), if_pos rfl, s2.2.1]
      · rw [if_neg (by decide), if_neg (by decide), if_neg (by decide), if_neg (by decide), sh_missed s2.1, pp_bd, ← hok]
    · obtain ⟨Mb, r1, r2, r3⟩ := fR M1 hR1 hm
      refine ⟨Mb, ?_, r3.RR hR1, r3.rr⟩
      unfold f_R_served
      rw [sr_in, pp_bd, decide_eq_true hv2, pp_jn, if_pos rfl]
      dsimp only
      rw [r1, pp_bd]
      rcases (show q = 0 ∨ q = 1 ∨ q = 2 by omega) with rfl | rfl | rfl
      · rw [if_pos (by decide), if_pos rfl, r2.2.2.1]
      · rw [if_neg (by decide), if_pos (by decide), if_neg (by decide), if_pos rfl, r2.2.1]
      · rw [if_neg (by decide), if_neg (by decide), if_pos (by decide), if_neg (by decide), if_neg (by decide), r2.2.2.2.1]
  · have hv2 : ¬ ((0 : Int32).toInt ≤ a1.toInt ∧ a1.toInt ≤ (2 : Int32).toInt) := by
      rw [i_0, show (2 : Int32).toInt = 2 from rfl]
      omega
    by_cases hb : pp_has s (a1 - 10) = true
    · obtain ⟨b, hb12, e, hbt⟩ := pp_has_of hb
      have hb10 : b < 10 := pp_tb_lt (n := 10) (by omega) hbt
      have n0 : ¬ a1 = 0 := fun q => hv (by rw [q]; decide)
      have n1 : ¬ a1 = 1 := fun q => hv (by rw [q]; decide)
      have n2 : ¬ a1 = 2 := fun q => hv (by rw [q]; decide)
      refine ss_sameL (r := X.2.2.1 b) hI ⟨Ma, ?_, s3, s5⟩ (fun M1 hR1 hm => ?_)
      · unfold f_H_served
        rw [sh_has hH (by omega) h5, pp_bd, sh_isBelow, pp_bd, i_3, decide_eq_false hv, pp_jn, if_neg (by decide), hb, if_pos rfl]
        dsimp only
        rw [s1, pp_bd, if_pos rfl, e, show mm_al 85 = 10 from rfl, pp_in hb10 (by decide), if_pos rfl, nI_clamp (by omega), s2.1 b hb10]
      · obtain ⟨Mb, r1, r2, r3⟩ := fR M1 hR1 hm
        refine ⟨Mb, ?_, r3.RR hR1, r3.rr⟩
        unfold f_R_served
        rw [sr_in, pp_bd, decide_eq_false hv2, pp_jn, if_neg (by decide), sr_isStay hR1 (by omega) h5, pp_bd, hb, if_pos rfl]
        dsimp only
        rw [r1, pp_bd, if_neg n0, if_neg n1, if_neg n2, e, show mm_al 127 = 10 from rfl, pp_in hb10 (by decide), if_pos rfl, nI_clamp (by omega), r2.1 b hb10]
    · have hb : pp_has s (a1 - 10) = false := by
        cases hq : pp_has s (a1 - 10)
        · rfl
        · exact absurd hq hb
      refine ss_same (r := -1) hI ⟨M, ?_, hH, ss_h.rf⟩ (fun M1 hR1 => ⟨M1, ?_, hR1, ss_r.rf⟩)
      · unfold f_H_served
        rw [sh_has hH (by omega) h5, pp_bd, sh_isBelow, pp_bd, i_3, decide_eq_false hv, pp_jn, if_neg (by decide), hb, if_neg (by decide)]
      · unfold f_R_served
        rw [sr_in, pp_bd, decide_eq_false hv2, pp_jn, if_neg (by decide), sr_isStay hR1 (by omega) h5, pp_bd, hb, if_neg (by decide)]
