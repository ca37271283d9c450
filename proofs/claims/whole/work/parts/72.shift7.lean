/-! shifting -/
section SHIFTP
variable {Q : Int32 → (Nat → Nat → Int32) → Prop}
theorem p_shifting : ok_shifting (ss_I Q) := by
  intro a1 a2 a3 M ⟨S, hI⟩
  have ho := hI.1
  have hH := hI.2.1
  obtain ⟨s, hs, h5⟩ := ho.n 5 (by decide)
  have hs : (s : Int) ≤ 1023 := hs
  have hs4 : s < 1024 := by omega
  have e27 : M.1 27 0 = nI s := (hH.1 5 (by decide)).trans h5
  have e12 : ∀ M1, ss_RR S M1 → M1.1 97 12 = nI s := fun M1 hR => (hR.1 5 (by decide)).trans h5
  have i1 : (1 : Int32).toInt = 1 := rfl
  have i2 : (2 : Int32).toInt = 2 := rfl
  by_cases hA : ∃ t : Nat, 0 < t ∧ a1 = nI t ∧ pp_sub t s
  · obtain ⟨u, hu0, rfl, hsub⟩ := hA
    have hu : u < 1024 := Nat.lt_of_le_of_lt (pp_sub_le hsub) hs4
    have hle := pp_cn10 u hu
    have hare : f_H_areStays (nI u) 5 M = some (decide (pp_cn u 12 ≤ 5), M) := sh_are hs4 e27 hu0 hsub (n := 5) (by decide)
    by_cases hc : pp_cn u 12 ≤ 5
    · by_cases hk : 1 ≤ a2.toInt ∧ a2.toInt ≤ 2
      · obtain ⟨k, hk3, rfl⟩ := ii_nat (v := a2) (n := 3) (by omega) (by omega) (by decide)
        rw [nI_toInt (by omega)] at hk
        have hus : ∀ x, u.testBit x = true → s.testBit x = true := fun x hx => pp_sub_tb hsub hx
        have hcn : pp_cn u 10 ≤ 5 := Nat.le_trans (pp_cn_up u (b := 10) 2) hc
        by_cases hw : a3 = 10 ∨ a3 = 11 ∨ ∃ b, b < 10 ∧ a3 = nI b ∧ u.testBit b = true
        · obtain ⟨r, S', c1, c2, c3, c4⟩ := z_core (k := k) (w := a3) ho hs4 h5 hu hu0 hus (by omega) hcn hw
          refine ss_go (S' := S') (r := r) hI c1 c2 ?_ (fun M1 hR1 => ?_)
          · obtain ⟨M1, d1, d2, d3⟩ := c3 M hH
            refine ⟨M1, ?_, d2, d3⟩
            unfold f_H_shifting
            rw [hare, pp_bd, decide_eq_true hc, if_pos rfl, if_neg (show ¬ nI k < 1 from nI_nlt (b := 1) (by omega) (by omega)), if_neg (show ¬ (2 : Int32) < nI k from nI_nlt (a := 2) (by omega) (by decide)), pp_jn]
            by_cases h10 : a3 = 10
            · rw [if_pos h10]; exact d1
            · rw [if_neg h10]
              by_cases h11 : a3 = 11
              · rw [if_pos h11]; exact d1
              · rw [if_neg h11]
                rcases hw with e | e | ⟨b, hb, e, hm⟩
                · exact absurd e h10
                · exact absurd e h11
                · have hin : pp_has u a3 = true := by rw [e, pp_has_k (by omega)]; exact hm
                  rw [sh_isIn (by omega), pp_bd, hin, if_pos rfl]
                  exact d1
          · obtain ⟨M2, d1, d2, d3⟩ := c4 M1 hR1
            refine ⟨M2, ?_, d2, d3⟩
            unfold f_R_shifting
            rw [sr_are hs4 (e12 M1 hR1) hu0 hsub, pp_bd, if_pos rfl, sr_bits (by omega), pp_bd, if_neg (show ¬ (5 : Int32) < nI (pp_cn u 12) from nI_nlt (a := 5) hc (by decide)), sr_in, pp_bd, i1, i2, nI_toInt (by omega), decide_eq_true (by omega), if_pos rfl, pp_jn]
            by_cases h10 : a3 = 10
            · rw [if_pos h10]; exact d1
            · rw [if_neg h10]
              by_cases h11 : a3 = 11
              · rw [if_pos h11]; exact d1
              · rw [if_neg h11]
                rcases hw with e | e | ⟨b, hb, e, hm⟩
                · exact absurd e h10
                · exact absurd e h11
                · rw [sr_in, pp_bd, i_0, i_9, e, nI_toInt (by omega), decide_eq_true (by omega), if_pos rfl, sr_has (by omega) (by omega), pp_bd, hm, if_pos rfl, ← e]
                  exact d1
        · have h10 : ¬ a3 = 10 := fun e => hw (Or.inl e)
          have h11 : ¬ a3 = 11 := fun e => hw (Or.inr (Or.inl e))
          have hin : pp_has u a3 = false := by
            cases hq : pp_has u a3
            · rfl
            · obtain ⟨b, hb, e, hm⟩ := pp_has_of hq
              have hb10 : b < 10 := pp_tb_lt (n := 10) hu hm
              exact absurd (Or.inr (Or.inr ⟨b, hb10, e, hm⟩)) hw
          refine ss_same (r := -1) hI ⟨M, ?_, hH, ss_h.rf⟩ (fun M1 hR1 => ⟨M1, ?_, hR1, ss_r.rf⟩)
          · unfold f_H_shifting
            rw [hare, pp_bd, decide_eq_true hc, if_pos rfl, if_neg (show ¬ nI k < 1 from nI_nlt (b := 1) (by omega) (by omega)), if_neg (show ¬ (2 : Int32) < nI k from nI_nlt (a := 2) (by omega) (by decide)), pp_jn, if_neg h10, if_neg h11, sh_isIn (by omega), pp_bd, hin, if_neg (by decide)]
          · unfold f_R_shifting
            rw [sr_are hs4 (e12 M1 hR1) hu0 hsub, pp_bd, if_pos rfl, sr_bits (by omega), pp_bd, if_neg (show ¬ (5 : Int32) < nI (pp_cn u 12) from nI_nlt (a := 5) hc (by decide)), sr_in, pp_bd, i1, i2, nI_toInt (by omega), decide_eq_true (by omega), if_pos rfl, pp_jn, if_neg h10, if_neg h11, sr_in, pp_bd, i_0, i_9]
            by_cases h9 : 0 ≤ a3.toInt ∧ a3.toInt ≤ 9
            · obtain ⟨b, hb, e⟩ := ii_nat (v := a3) (n := 10) h9.1 (by omega) (by decide)
              have hm : u.testBit b = false := by
                cases hq : u.testBit b
                · rfl
                · exact absurd (Or.inr (Or.inr ⟨b, hb, e, hq⟩)) hw
              rw [decide_eq_true h9, if_pos rfl, e, sr_has (by omega) (by omega), pp_bd, hm, if_neg (by decide)]
            · rw [decide_eq_false h9, if_neg (by decide)]
      · refine ss_same (r := -1) hI ⟨M, ?_, hH, ss_h.rf⟩ (fun M1 hR1 => ⟨M1, ?_, hR1, ss_r.rf⟩)
        · unfold f_H_shifting
          rw [hare, pp_bd, decide_eq_true hc, if_pos rfl]
          by_cases ha : a2 < 1
          · rw [if_pos ha]
          · rw [if_neg ha, if_pos]
            rw [ii_lt] at ha ⊢
            rw [i1] at ha
            rw [i2]
            omega
        · unfold f_R_shifting
          rw [sr_are hs4 (e12 M1 hR1) hu0 hsub, pp_bd, if_pos rfl, sr_bits (by omega), pp_bd, if_neg (show ¬ (5 : Int32) < nI (pp_cn u 12) from nI_nlt (a := 5) hc (by decide)), sr_in, pp_bd, i1, i2, decide_eq_false hk, if_neg (by decide)]
    · refine ss_same (r := -1) hI ⟨M, ?_, hH, ss_h.rf⟩ (fun M1 hR1 => ⟨M1, ?_, hR1, ss_r.rf⟩)
      · unfold f_H_shifting
        rw [hare, pp_bd, decide_eq_false hc, if_neg (by decide)]
      · unfold f_R_shifting
        rw [sr_are hs4 (e12 M1 hR1) hu0 hsub, pp_bd, if_pos rfl, sr_bits (by omega), pp_bd, if_pos (show (5 : Int32) < nI (pp_cn u 12) from nI_lt (a := 5) (by omega) (by omega))]
  · refine ss_same (r := -1) hI ⟨M, ?_, hH, ss_h.rf⟩ (fun M1 hR1 => ⟨M1, ?_, hR1, ss_r.rf⟩)
    · unfold f_H_shifting
      rw [sh_are_no hs4 e27 hA, pp_bd, if_neg (by decide)]
    · unfold f_R_shifting
      rw [sr_are_no hs4 (e12 M1 hR1) hA, pp_bd, if_neg (by decide)]
end SHIFTP
