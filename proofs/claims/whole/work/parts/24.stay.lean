/-! dayIs, stay, count -/
/-- who is in a room: from stay i on, n of them -/
def pp_ho (S : ss_S) (s : Nat) (v : Int32) : Nat → Nat → Int32
  | 0, _ => -1
  | n + 1, i => if s.testBit i = true ∧ S.2 6 i = v then nI i else pp_ho S s v n (i + 1)
theorem sh_holder {S : ss_S} {M : mm_M} (hH : ss_RH S M) {s : Nat} (hs : s < 1024) (h5 : S.1 5 = nI s) (v : Int32) : f_Register_holderOf_27 v M = some (pp_ho S s v 10 0, M) := by
  have key : ∀ (n i : Nat), i ≤ 10 → 10 - i < n → lp_Register_holderOf_27_2 v (fun (v2 : Int32) (M_5 : mm_M) => some (v2, M_5)) (fun (M_6 : mm_M) => some ((-1), M_6)) n (nI i) M = some (pp_ho S s v (10 - i) i, M) := by
    intro n
    induction n with
    | zero => intro i h1 h2; omega
    | succ n ih =>
      intro i h1 h2
      rw [lp_Register_holderOf_27_2]
      by_cases hi : i = 10
      · subst hi
        rw [if_pos (show (10 : Int32) ≤ nI 10 from nI_le (Nat.le_refl 10) (by decide))]
        rfl
      · have hi : i < 10 := by omega
        have e10 : 10 - i = (10 - (i + 1)) + 1 := by omega
        have hm : M.2.1 28 i = S.2 6 i := hH.2 6 (by decide) i hi
        rw [if_neg (show ¬ (10 : Int32) ≤ nI i from nI_ge hi (by decide)), sh_has hH hs h5, pp_bd, pp_jn, pp_has_k (by omega), e10, pp_ho]
        simp only [pp_let, nI_1, ih (i + 1) (by omega) (by omega), show mm_al 28 = 10 from rfl, pp_in hi (by decide), if_pos, nI_clamp (show i < 2 ^ 31 by omega), hm]
        cases ht : s.testBit i with
        | false => simp
        | true =>
          by_cases hv : S.2 6 i = v
          · simp [hv]
          · simp [hv]
  unfold f_Register_holderOf_27
  exact key mm_fu 0 (by decide) (by decide)
theorem sr_holder {S : ss_S} {M : mm_M} (hR : ss_RR S M) {s : Nat} (hs : s < 1024) (h5 : S.1 5 = nI s) (v : Int32) : f_R_stayIn v M = some (pp_ho S s v 10 0, M) := by
  have key : ∀ (n i : Nat), i ≤ 10 → 10 - i < n → lp_R_stayIn_2 v (fun (v2 : Int32) (M_5 : mm_M) => some (v2, M_5)) (fun (M_6 : mm_M) => some ((-1), M_6)) n (nI i) M = some (pp_ho S s v (10 - i) i, M) := by
    intro n
    induction n with
    | zero => intro i h1 h2; omega
    | succ n ih =>
      intro i h1 h2
      rw [lp_R_stayIn_2]
      by_cases hi : i = 10
      · subst hi
        rw [if_pos (show (10 : Int32) ≤ nI 10 from nI_le (Nat.le_refl 10) (by decide))]
        rfl
      · have hi : i < 10 := by omega
        have e10 : 10 - i = (10 - (i + 1)) + 1 := by omega
        have hm : M.2.1 105 i = S.2 6 i := hR.2 6 (by decide) i hi
        rw [if_neg (show ¬ (10 : Int32) ≤ nI i from nI_ge hi (by decide)), sr_isStay hR hs h5, pp_bd, pp_jn, pp_has_k (by omega), e10, pp_ho]
        simp only [pp_let, nI_1, ih (i + 1) (by omega) (by omega), show mm_al 105 = 10 from rfl, pp_in hi (by decide), if_pos, nI_clamp (show i < 2 ^ 31 by omega), hm]
        cases ht : s.testBit i with
        | false => simp
        | true =>
          by_cases hv : S.2 6 i = v
          · simp [hv]
          · simp [hv]
  unfold f_R_stayIn
  exact key mm_fu 0 (by decide) (by decide)
theorem sr_isRoom (v : Int32) (M : mm_M) : f_R_isRoom v M = some (decide (0 ≤ v.toInt ∧ v.toInt < (M.1 97 9).toInt), M) := by
  have h := sh_isBelow v (M.1 97 9) M
  unfold f_H_isBelow at h
  exact h
theorem i_9 : (9 : Int32).toInt = 9 := rfl
section STAY
variable {Q : Int32 → (Nat → Nat → Int32) → Prop}
theorem pp_or_lt {s k : Nat} (hs : s < 1024) (hk : k < 10) : s ||| 2 ^ k < 1024 := Nat.or_lt_two_pow (n := 10) hs (Nat.pow_lt_pow_right (by decide) hk)
theorem p_stay : ok_stay (ss_I Q) := by
  intro v w d u M hI
  obtain ⟨S, hI⟩ := hI
  obtain ⟨ho, hH, hR, -⟩ := id hI
  obtain ⟨s, hs, h5⟩ := ho.n 5 (by decide)
  have hs : (s : Int) ≤ 1023 := hs
  obtain ⟨t, ht, h1⟩ := ho.n 1 (by decide)
  have ht : (t : Int) ≤ 4095 := ht
  obtain ⟨n, hn, h2⟩ := ho.n 2 (by decide)
  have hn : (n : Int) ≤ 10 := hn
  have eH2 : M.1 22 1 = nI n := (hH.1 2 (by decide)).trans h2
  have eH5 : M.1 27 0 = nI s := (hH.1 5 (by decide)).trans h5
  have hv2 : (0 ≤ v.toInt ∧ v.toInt ≤ 9) ↔ (0 ≤ v.toInt ∧ v.toInt < 10) := by omega
  by_cases hv : 0 ≤ v.toInt ∧ v.toInt < 10
  · by_cases hw : 0 ≤ w.toInt ∧ w.toInt < (nI n).toInt
    · by_cases hd : pp_has t d = true
      · by_cases hu : 0 ≤ u.toInt ∧ u.toInt ≤ 999
        · by_cases hc : pp_ho S s w 10 0 = -1 ∨ pp_ho S s w 10 0 = v
          · obtain ⟨k, hk, rfl⟩ := ii_nat (n := 10) hv.1 (by omega) (by decide)
            obtain ⟨j, hj, rfl, -⟩ := pp_has_of hd
            rw [nI_toInt (by omega)] at hw
            have hdj : (nI j).toInt = j := nI_toInt (by omega)
            refine ss_go (S' := ss_s (ss_a (ss_a (ss_a (ss_a S 6 k w) 7 k (nI j)) 8 k u) 9 k 0) 5 (nI (s ||| 2 ^ k))) (r := true) hI (((((ho.a 6 k (v := w) (by show (0 : Int) ≤ _ ∧ _ ≤ (9 : Int); omega)).a 7 k (v := nI j) (by show (0 : Int) ≤ _ ∧ _ ≤ (11 : Int); omega)).a 8 k (v := u) (by show (0 : Int) ≤ _ ∧ _ ≤ (999 : Int); omega)).a 9 k (v := 0) (by decide)).s 5 ?_) rfl
              ⟨mm_setA (mm_setA (mm_setA (mm_setA (mm_setI M 27 0 (nI (s ||| 2 ^ k))) 28 k w) 29 k (nI j)) 30 k u) 31 k 0, ?_, ((((hH.s 5 (by decide) rfl (nI (s ||| 2 ^ k))).a 6 (by decide) hk rfl w).a 7 (by decide) hk rfl (nI j)).a 8 (by decide) hk rfl u).a 9 (by decide) hk rfl 0, ((((ss_h.rf.s (by decide)).a (by decide)).a (by decide)).a (by decide)).a (by decide)⟩
              (fun M1 hR1 => ⟨mm_setI (mm_setA (mm_setA (mm_setA (mm_setA M1 105 k w) 106 k (nI j)) 107 k u) 108 k 0) 97 12 (nI (s ||| 2 ^ k)), ?_, ((((hR1.a 6 (by decide) rfl rfl).a 7 (by decide) rfl rfl).a 8 (by decide) rfl rfl).a 9 (by decide) rfl rfl).s 5 (by decide) rfl _, ((((ss_r.rf.a (by decide)).a (by decide)).a (by decide)).a (by decide)).s (by decide)⟩)
            · have := pp_or_lt (s := s) (by omega) hk
              rw [nI_toInt (by omega)]
              show (0 : Int) ≤ _ ∧ _ ≤ (1023 : Int)
              omega
            · have hw' : 0 ≤ w.toInt ∧ w.toInt < (nI n).toInt := by rw [nI_toInt (by omega)]; exact hw
              simp only [f_H_stay, sh_isBelow, i_10, pp_bd, decide_eq_true hv, if_pos, eH2, decide_eq_true hw', sh_isTold hH (show t < 4096 by omega) h1, hd, sh_isUpTo, i_999, decide_eq_true hu, sh_holder hH (show s < 1024 by omega) h5, pp_jn]
              have hg : f_Register_write_27 (nI k) w (nI j) u M = some ((), mm_setA (mm_setA (mm_setA (mm_setA (mm_setI M 27 0 (nI (s ||| 2 ^ k))) 28 k w) 29 k (nI j)) 30 k u) 31 k 0) := by
                simp only [f_Register_write_27, eH5, pp_one k (by omega), pp_orN, pp_let, show mm_al 28 = 10 from rfl, show mm_al 29 = 10 from rfl, show mm_al 30 = 10 from rfl, show mm_al 31 = 10 from rfl, pp_in hk (by decide), if_pos, nI_clamp (show k < 2 ^ 31 by omega)]
              rw [hg, pp_bd]
              rcases hc with hc | hc
              · rw [if_pos hc]
              · by_cases hm : pp_ho S s w 10 0 = -1
                · rw [if_pos hm]
                · rw [if_neg hm, if_pos hc]
            · have e12 : M1.1 97 12 = nI s := (hR1.1 5 (by decide)).trans h5
              have e9 : M1.1 97 9 = nI n := (hR1.1 2 (by decide)).trans h2
              have hw' : 0 ≤ w.toInt ∧ w.toInt < (nI n).toInt := by rw [nI_toInt (by omega)]; exact hw
              have e12' : (mm_setA (mm_setA (mm_setA (mm_setA M1 105 k w) 106 k (nI j)) 107 k u) 108 k 0).1 97 12 = nI s := e12
              simp only [f_R_stay, sr_in, i_0, i_9, pp_bd, decide_eq_true (hv2.mpr hv), if_pos, sr_isRoom, e9, decide_eq_true hw', sr_isDay hR1 (show t < 4096 by omega) h1, hd, i_999, decide_eq_true hu, sr_holder hR1 (show s < 1024 by omega) h5, pp_jn, pp_let, show mm_al 105 = 10 from rfl, show mm_al 106 = 10 from rfl, show mm_al 107 = 10 from rfl, show mm_al 108 = 10 from rfl, pp_in hk (by decide), nI_clamp (show k < 2 ^ 31 by omega), e12', pp_one k (show k < 12 by omega), pp_orN]
              rcases hc with hc | hc
              · rw [if_pos hc]
              · by_cases hm : pp_ho S s w 10 0 = -1
                · rw [if_pos hm]
                · rw [if_neg hm, if_pos hc]
          · have hc1 : ¬ pp_ho S s w 10 0 = -1 := fun q => hc (Or.inl q)
            have hc2 : ¬ pp_ho S s w 10 0 = v := fun q => hc (Or.inr q)
            refine ss_same (r := false) hI ⟨M, ?_, hH, ss_h.rf⟩ (fun M1 hR1 => ⟨M1, ?_, hR1, ss_r.rf⟩)
            · simp only [f_H_stay, sh_isBelow, i_10, pp_bd, decide_eq_true hv, if_pos, eH2, decide_eq_true hw, sh_isTold hH (show t < 4096 by omega) h1, hd, sh_isUpTo, i_999, decide_eq_true hu, sh_holder hH (show s < 1024 by omega) h5, pp_jn, if_neg hc1, if_neg hc2]
            · have e9 : M1.1 97 9 = nI n := (hR1.1 2 (by decide)).trans h2
              simp only [f_R_stay, sr_in, i_0, i_9, pp_bd, decide_eq_true (hv2.mpr hv), if_pos, sr_isRoom, e9, decide_eq_true hw, sr_isDay hR1 (show t < 4096 by omega) h1, hd, i_999, decide_eq_true hu, sr_holder hR1 (show s < 1024 by omega) h5, pp_jn, if_neg hc1, if_neg hc2]
        · refine ss_same (r := false) hI ⟨M, ?_, hH, ss_h.rf⟩ (fun M1 hR1 => ⟨M1, ?_, hR1, ss_r.rf⟩)
          · simp [f_H_stay, sh_isBelow, i_10, pp_bd, decide_eq_true hv, eH2, decide_eq_true hw, sh_isTold hH (show t < 4096 by omega) h1, hd, sh_isUpTo, i_999, decide_eq_false hu]
          · have e9 : M1.1 97 9 = nI n := (hR1.1 2 (by decide)).trans h2
            simp [f_R_stay, sr_in, i_0, i_9, pp_bd, decide_eq_true (hv2.mpr hv), sr_isRoom, e9, decide_eq_true hw, sr_isDay hR1 (show t < 4096 by omega) h1, hd, i_999, decide_eq_false hu]
      · have hd : pp_has t d = false := by simpa using hd
        refine ss_same (r := false) hI ⟨M, ?_, hH, ss_h.rf⟩ (fun M1 hR1 => ⟨M1, ?_, hR1, ss_r.rf⟩)
        · simp [f_H_stay, sh_isBelow, i_10, pp_bd, decide_eq_true hv, eH2, decide_eq_true hw, sh_isTold hH (show t < 4096 by omega) h1, hd]
        · have e9 : M1.1 97 9 = nI n := (hR1.1 2 (by decide)).trans h2
          simp [f_R_stay, sr_in, i_0, i_9, pp_bd, decide_eq_true (hv2.mpr hv), sr_isRoom, e9, decide_eq_true hw, sr_isDay hR1 (show t < 4096 by omega) h1, hd]
    · refine ss_same (r := false) hI ⟨M, ?_, hH, ss_h.rf⟩ (fun M1 hR1 => ⟨M1, ?_, hR1, ss_r.rf⟩)
      · simp [f_H_stay, sh_isBelow, i_10, pp_bd, decide_eq_true hv, eH2, decide_eq_false hw]
        exact fun a b => absurd ⟨a, b⟩ hw
      · have e9 : M1.1 97 9 = nI n := (hR1.1 2 (by decide)).trans h2
        simp [f_R_stay, sr_in, i_0, i_9, pp_bd, decide_eq_true (hv2.mpr hv), sr_isRoom, e9, decide_eq_false hw]
        exact fun a b => absurd ⟨a, b⟩ hw
  · refine ss_same (r := false) hI ⟨M, ?_, hH, ss_h.rf⟩ (fun M1 hR1 => ⟨M1, ?_, hR1, ss_r.rf⟩)
    · simp [f_H_stay, sh_isBelow, i_10, pp_bd, decide_eq_false hv]
    · simp [f_R_stay, sr_in, i_0, i_9, pp_bd, decide_eq_false (fun q => hv (hv2.mp q))]
/-- rows of days -/
theorem mm_al_day : ∀ d, d < 12 → mm_al (6 + d) = 72 := by decide +kernel
theorem mm_al_want : ∀ d, d < 10 → mm_al (58 + d) = 72 := by decide +kernel
theorem mm_al_given : ∀ d, d < 10 → mm_al (75 + d) = 72 := by decide +kernel
/-- what a day has, as the class holds it -/
theorem sh_day {S : ss_S} {M : mm_M} (hH : ss_RH S M) {d j : Nat} (hd : d < 12) (hj : j < 72) : M.2.1 (6 + d) j = S.2 1 (72 * d + j) := by
  have h := hH.2 1 (by decide) (72 * d + j) (by show _ < 864; omega)
  rw [show ss_ha 1 (72 * d + j) = (6 + (72 * d + j) / 72, (72 * d + j) % 72) from rfl, show (72 * d + j) / 72 = d by omega, show (72 * d + j) % 72 = j by omega] at h
  exact h
theorem p_dayIs : ok_dayIs (ss_I Q) := by
  intro v w u M hI
  obtain ⟨S, hI⟩ := hI
  obtain ⟨ho, hH, hR, -⟩ := id hI
  obtain ⟨t, ht, h1⟩ := ho.n 1 (by decide)
  have ht : (t : Int) ≤ 4095 := ht
  by_cases hd : pp_has t v = true
  · by_cases hw : 0 ≤ w.toInt ∧ w.toInt < 3
    · by_cases hu : 0 ≤ u.toInt ∧ u.toInt < 24
      · obtain ⟨d, hd12, rfl, -⟩ := pp_has_of hd
        obtain ⟨k, hk, rfl⟩ := ii_nat (n := 3) hw.1 (by omega) (by decide)
        obtain ⟨h, hh, rfl⟩ := ii_nat (n := 24) hu.1 (by omega) (by decide)
        refine ss_same (r := S.2 1 (72 * d + (k * 24 + h))) hI ⟨M, ?_, hH, ss_h.rf⟩ (fun M1 hR1 => ⟨M1, ?_, hR1, ss_r.rf⟩)
        · have e1 : nI k * 24 + nI h = nI (k * 24 + h) := by
            rw [show (24 : Int32) = nI 24 from rfl, pk_mul, nI_add]
          simp only [f_H_dayIs, sh_isTold hH (show t < 4096 by omega) h1, hd, pp_bd, if_pos, sh_isBelow, i_3, i_24, decide_eq_true hw, decide_eq_true hu, f_Days_rowOf, pp_in hd12 (by decide), nI_clamp (show d < 2 ^ 31 by omega), mm_al_day d hd12, e1, pp_in (show k * 24 + h < 72 by omega) (by decide), nI_clamp (show k * 24 + h < 2 ^ 31 by omega), sh_day hH hd12 (show k * 24 + h < 72 by omega)]
        · have e1 : 72 * nI d + 24 * nI k + nI h = nI (72 * d + (k * 24 + h)) := by
            rw [show (24 : Int32) = nI 24 from rfl, show (72 : Int32) = nI 72 from rfl, pk_mul, pk_mul, nI_add, nI_add]
            congr 1
            omega
          have e2 : M1.2.1 99 (72 * d + (k * 24 + h)) = S.2 1 (72 * d + (k * 24 + h)) := hR1.2 1 (by decide) _ (by show _ < 864; omega)
          simp only [f_R_dayIs, sr_isDay hR1 (show t < 4096 by omega) h1, hd, pp_bd, if_pos, sr_isKind, sr_isHour, decide_eq_true hw, decide_eq_true hu, e1, show mm_al 99 = 864 from rfl, pp_in (show 72 * d + (k * 24 + h) < 864 by omega) (by decide), nI_clamp (show 72 * d + (k * 24 + h) < 2 ^ 31 by omega), e2]
      · refine ss_same (r := -1) hI ⟨M, ?_, hH, ss_h.rf⟩ (fun M1 hR1 => ⟨M1, ?_, hR1, ss_r.rf⟩)
        · simp [f_H_dayIs, sh_isTold hH (show t < 4096 by omega) h1, hd, pp_bd, sh_isBelow, i_3, i_24, decide_eq_true hw, decide_eq_false hu]
        · simp [f_R_dayIs, sr_isDay hR1 (show t < 4096 by omega) h1, hd, pp_bd, sr_isKind, sr_isHour, decide_eq_true hw, decide_eq_false hu]
    · refine ss_same (r := -1) hI ⟨M, ?_, hH, ss_h.rf⟩ (fun M1 hR1 => ⟨M1, ?_, hR1, ss_r.rf⟩)
      · simp [f_H_dayIs, sh_isTold hH (show t < 4096 by omega) h1, hd, pp_bd, sh_isBelow, i_3, decide_eq_false hw]
      · simp [f_R_dayIs, sr_isDay hR1 (show t < 4096 by omega) h1, hd, pp_bd, sr_isKind, decide_eq_false hw]
  · have hd : pp_has t v = false := by simpa using hd
    refine ss_same (r := -1) hI ⟨M, ?_, hH, ss_h.rf⟩ (fun M1 hR1 => ⟨M1, ?_, hR1, ss_r.rf⟩)
    · simp [f_H_dayIs, sh_isTold hH (show t < 4096 by omega) h1, hd, pp_bd]
    · simp [f_R_dayIs, sr_isDay hR1 (show t < 4096 by omega) h1, hd, pp_bd]
end STAY
