/-! law: the call -/
theorem rg2.m {M M1 : mm_M} (h : rg2 M M1) : ss_m 97 140 M M1 := fun o ho => ⟨by funext q; exact h.2.2 o q (by omega), h.2.1 o (by omega), by rw [h.1]⟩
theorem lf2.m {M M1 : mm_M} (h : lf2 M M1) : ss_m 0 97 M M1 := fun o ho => ⟨h.2.2 o (by omega) (by omega), h.2.1 o (by omega), by rw [h.1]⟩
theorem lf2.h {M M1 : mm_M} (h : lf2 M M1) : ss_h M M1 := ⟨h.m, fun o _ _ => h.2.1 o (by omega)⟩
theorem rg2.r {M M1 : mm_M} (h : rg2 M M1) : ss_r M M1 := ⟨h.m, fun o _ _ => h.2.1 o (by omega)⟩
theorem fr.m {M M1 : mm_M} {lo hi : Nat} (h : fr lo hi M M1) (hl : 97 ≤ lo) (hh : hi < 140) : ss_m 97 140 M M1 := fun o ho => ⟨by rw [h.1], h.2.2 o (by omega), by rw [h.2.1]⟩
theorem ss_ra_115 : ∀ a, a < 14 → ss_ra a < 115 ∨ 119 < ss_ra a := by decide
theorem fr.RR {S : ss_S} {M M1 : mm_M} {lo hi : Nat} (h : fr lo hi M M1) (hl : 115 ≤ lo) (hh : hi ≤ 119) (hR : ss_RR S M) : ss_RR S M1 := ⟨fun k hk => by rw [h.1]; exact hR.1 k hk, fun a ha j hj => by
  have := ss_ra_115 a ha
  rw [h.2.2 _ (by omega)]; exact hR.2 a ha j hj⟩
theorem lw_at {M : mm_M} {o : Nat} (h : (38 ≤ o ∧ o ≤ 43) ∨ (115 ≤ o ∧ o ≤ 119)) : ss_lw M o = M.2.1 o := by
  unfold ss_lw
  rw [if_pos h]
theorem p_law : ok_law (ss_I lwQ) := by
  intro a1 M ⟨S, hI⟩
  have ho := hI.1
  have hH := hI.2.1
  obtain ⟨T, hT, h0⟩ := ho.n 0 (by decide)
  have hT : (T : Int) ≤ 200 := hT
  have eH : M.1 1 1 = nI T := (hH.1 0 (by decide)).trans h0
  have i1 : (1 : Int32).toInt = 1 := rfl
  have i160 : (160 : Int32).toInt = 160 := rfl
  by_cases hw : 1 ≤ a1.toInt ∧ a1.toInt ≤ 160
  · obtain ⟨n, hn, rfl⟩ := ii_nat (v := a1) (n := 161) (by omega) (by omega) (by decide)
    rw [nI_toInt (by omega)] at hw
    by_cases hnl : n ≤ T
    · have hn6 : n ≤ 160 := by omega
      have hn2 : n ≤ 200 := by omega
      obtain ⟨Ma, s1, s2, s3⟩ := sh_stp (M := mm_setI (mm_setI (mm_setI M 3 1 (nI n)) 3 2 (-1)) 3 4 0) (p := 0) ho hn2 (by omega) ((((tf.rf (M := M)).s.s).s).RH hH) rfl (show (-1 : Int32) + 1 = nI 0 by decide)
      have sf : lf2 M (mm_setI (mm_setI Ma 46 2 0) 46 7 0) := (((((tf.rf (M := M)).s.s).s).tr s3).l).l2.tr ⟨rfl, fun _ _ => rfl, fun o a b => by
        funext q
        show (if o = 46 ∧ q = 7 then _ else if o = 46 ∧ q = 2 then _ else Ma.1 o q) = _
        rw [if_neg (fun e => b e.1), if_neg (fun e => b e.1)]⟩
      have fH : f_H_law (nI n) M = mm_bd (lp_LawReader_read_17 (fun (M_12 : mm_M) => some (M_12.1 3 4, M_12)) (fun (v2 : Int32) (M_13 : mm_M) => some (v2 + 1, M_13)) (fun (M_14 : mm_M) => some (M_14.1 3 4, M_14)) (fun (M_15 : mm_M) => some (M_15.1 3 4, M_15)) mm_fu 0 (mm_setI (mm_setI Ma 46 2 0) 46 7 0)) fun r_3 M_4 => if r_3 ≤ 0 then some (r_3, mm_setI M_4 1 1 0) else mm_bd (f_Law_copyFrom_37_46 M_4) fun _ M_9 => some (r_3, mm_setI M_9 1 1 0) := by
        unfold f_H_law f_Tape_size f_Tape_clear f_LawReader_read f_TextReader_open f_Law_clear_46
        rw [if_neg (show ¬ nI n < 1 from nI_nlt (b := 1) (by omega) (by omega)), if_neg (show ¬ (160 : Int32) < nI n from nI_nlt (a := 160) (by omega) (by decide)), pp_bd, eH, if_pos (nI_le hnl (by omega)), sh_min, pp_bd, pp_mnN (by omega) (by omega), show min n T = n by omega, pp_let, pp_let, pp_let, s1, pp_bd, pp_bd, pp_let, pp_let, pp_bd]
        rfl
      have hb : lh S n 0 (fun _ => (0, 0)) 0 (mm_setI (mm_setI Ma 46 2 0) 46 7 0) := ⟨⟨sf.RH hH, s2.2⟩, rfl, fun i hi => by omega⟩
      have hb2 : lc (fun _ => (0, 0, 0, 0)) 0 (mm_setI (mm_setI Ma 46 2 0) 46 7 0) := ⟨rfl, fun i hi => by omega⟩
      have cH := sf_laws ho hn6 (k31 := fun (M_12 : mm_M) => some (M_12.1 3 4, M_12)) (k49 := fun (v2 : Int32) (M_13 : mm_M) => some (v2 + 1, M_13)) (k65 := fun (M_14 : mm_M) => some (M_14.1 3 4, M_14)) (k79 := fun (M_15 : mm_M) => some (M_15.1 3 4, M_15)) (K := fun (v2 : Bool) (M_15 : mm_M) => mm_let (mm_setI M_15 97 1 0) fun M_16 => if v2 = true then mm_let (mm_setI M_16 97 26 (M_16.1 97 25)) fun M_17 => lp_R_law_110 (fun (M_20 : mm_M) => lp_R_law_138 (fun (M_26 : mm_M) => some (M_26.1 97 25, M_26)) mm_fu 0 M_20) mm_fu 0 M_17 else some (M_16.1 97 4, M_16)) 12 0 0 _ 0 _ _ rfl (Nat.zero_le _) (Nat.zero_le _) hb hb2 (fun i hi => by omega) 4987
      rw [show (4987 : Nat) + 12 + 1 = mm_fu from rfl, show nI 0 = (0 : Int32) from rfl] at cH
      have fR : ∀ M1, ss_RR S M1 → ∃ Mb, lr0 S n 0 (fun _ => (0, 0)) 0 Mb ∧ lk (fun _ => (0, 0, 0, 0)) 0 Mb ∧ rg2 M1 Mb ∧ f_R_law (nI n) M1 = mm_bd (f_R_readsClause Mb) fun b_7 M_8 => lp_R_law_46 (fun (v2 : Bool) (M_15 : mm_M) => mm_let (mm_setI M_15 97 1 0) fun M_16 => if v2 = true then mm_let (mm_setI M_16 97 26 (M_16.1 97 25)) fun M_17 => lp_R_law_110 (fun (M_20 : mm_M) => lp_R_law_138 (fun (M_26 : mm_M) => some (M_26.1 97 25, M_26)) mm_fu 0 M_20) mm_fu 0 M_17 else some (M_16.1 97 4, M_16)) mm_fu b_7 M_8 := fun M1 hR1 => by
        have hf : rg2 M1 (mm_setI (mm_setI (mm_setI (mm_setI M1 97 2 0) 97 3 (nI n)) 97 23 0) 97 25 0) := (((rg2.rf.s (by decide)).s (by decide)).s (by decide)).s (by decide)
        refine ⟨_, ⟨⟨hf.RR hR1, rfl, rfl⟩, rfl, fun i hi => by omega⟩, ⟨rfl, fun i hi => by omega⟩, hf, ?_⟩
        unfold f_R_law
        rw [sr_in, pp_bd, i1, i160, nI_toInt (show n < 2 ^ 31 by omega), decide_eq_true (by omega), if_pos rfl, show M1.1 97 1 = nI T from (hR1.1 0 (by decide)).trans h0, if_pos (nI_le hnl (by omega)), pp_let, pp_let, pp_let, pp_let]
      rcases cH with ⟨w, q, Mc, c1, c2, c3, c4, c5, c6⟩ | ⟨k1, C1, cc, L1, p1, Mc, c1, c2, c3, c4, c5, c6, c7, c8⟩
      · have hneg : ft w q ≤ 0 := by
          rw [ii_le, ft_neg (by omega) (by omega), i_0]
          omega
        have hfr := sf.tr c5
        refine ss_go (S' := ss_s S 0 0) (r := ft w q) hI (ho.s 0 (by decide)) rfl ⟨mm_setI Mc 1 1 0, ?_, (hfr.RH hH).s 0 (by decide) rfl 0, hfr.h.s (by decide)⟩ (fun M1 hR1 => ?_)
        · rw [fH]
          rcases c1 with c1 | c1 <;> rw [c1, pp_bd, c2, if_pos hneg]
        · obtain ⟨Mb, b1, b2, b3, b4⟩ := fR M1 hR1
          obtain ⟨Me, r1, r2, r3⟩ := c6 Mb 4987 b1 b2
          rw [show (4987 : Nat) + 12 + 1 = mm_fu from rfl] at r1
          refine ⟨mm_setI Me 97 1 0, ?_, ((b3.tr r3).RR hR1).s 0 (by decide) rfl 0, (b3.tr r3).r.s (by decide)⟩
          rw [b4, r1, pp_let, if_neg (by decide), ← r2]
          rfl
      · have hfr := sf.tr c7
        have hpos : ¬ nI k1 + 1 ≤ 0 := by
          rw [nI_1]
          exact nI_nle (by omega) (by omega)
        obtain ⟨Md, d1, d2, d3, d4, d5⟩ := sh_copyLaw Mc
        have hRH : ss_RH (ss_s (ss_s S 10 (nI (k1 + 1))) 0 0) (mm_setI Md 1 1 0) := by
          have := d4 S (hfr.RH hH)
          rw [c5.1] at this
          exact this.s 0 (by decide) rfl 0
        have hm : ss_m 0 97 M (mm_setI Md 1 1 0) := (hfr.m.tr (d5.wd (by decide) (by decide))).s (by decide)
        have hRR1 : ss_RR S (mm_setI Md 1 1 0) := hI.2.2.1.m hm
        obtain ⟨Mb, b1, b2, b3, b4⟩ := fR _ hRR1
        obtain ⟨Me, r1, r2, r3, r4⟩ := c8 Mb 4987 b1 b2
        rw [show (4987 : Nat) + 12 + 1 = mm_fu from rfl] at r1
        have hRe := (b3.tr r4).RR hRR1
        obtain ⟨Mf, u1, u2, u3⟩ := sr_lawCodes (M := mm_setI (mm_setI Me 97 1 0) 97 26 (nI (k1 + 1))) (c := cc) (by omega) r2.2.1 (fun (M_20 : mm_M) => lp_R_law_138 (fun (M_26 : mm_M) => some (M_26.1 97 25, M_26)) mm_fu 0 M_20)
        have e25 : Mf.1 97 25 = nI (k1 + 1) := by rw [u2.1]; exact r3.1
        obtain ⟨Mg, v1, v2, v3⟩ := sr_clauses (M := Mf) (k := k1 + 1) (by omega) e25 (fun (M_26 : mm_M) => some (M_26.1 97 25, M_26))
        have e25' : Mg.1 97 25 = nI (k1 + 1) := by rw [v2.1]; exact e25
        have hmR : ss_m 97 140 (mm_setI Md 1 1 0) Mg := (((((b3.tr r4).m.s (by decide)).s (by decide)).tr (u2.m (by decide) (by decide))).tr (v2.m (by decide) (by decide)))
        have hlo : ∀ x, x < 97 → Mg.2.1 x = Md.2.1 x := fun x hx => (hmR x (Or.inl hx)).2.1
        have hRR2 : ss_RR (ss_s (ss_s S 10 (nI (k1 + 1))) 0 0) Mg := by
          have := ((hRe.s 0 (by decide) rfl 0).s 10 (by decide) rfl (nI (k1 + 1)))
          have e1 : ss_s (ss_s S 0 0) 10 (nI (k1 + 1)) = ss_s (ss_s S 10 (nI (k1 + 1))) 0 0 := by
            refine Prod.ext ?_ rfl
            funext i
            show (if i = 10 then _ else if i = 0 then _ else _) = if i = 0 then _ else if i = 10 then _ else _
            by_cases a : i = 10
            · subst a; rfl
            · rw [if_neg a, if_neg a]
          rw [e1] at this
          exact v2.RR (by decide) (by decide) (u2.RR (by decide) (by decide) this)
        refine ⟨nI k1 + 1, mm_setI Md 1 1 0, Mg, ?_, ?_, ss_s (ss_s S 10 (nI (k1 + 1))) 0 0, ?_, hRH.m hmR, hRR2, ?_⟩
        · rw [fH, c1, pp_bd, if_neg hpos, d1, pp_bd]
        · rw [b4, r1, pp_let, if_pos rfl, show (mm_setI Me 97 1 0).1 97 25 = nI (k1 + 1) from r3.1, pp_let, u1, v1, e25', nI_1]
        · refine (ho.s 10 ?_).s 0 (by decide)
          rw [nI_toInt (by omega)]
          show (0 : Int) ≤ _ ∧ _ ≤ (12 : Int)
          omega
        · refine ⟨k1 + 1, cc, C1, L1, rfl, by omega, c4, fun i hi => ?_, fun i hi => ?_⟩
          · rw [lw_at (by decide), lw_at (by decide), lw_at (by decide), hlo 38 (by decide), hlo 39 (by decide), v2.2.2 115 (by decide), (d2 i (by omega)).1, (d2 i (by omega)).2, u3 i hi]
            exact ⟨(c3.2.2 i hi).1, (c3.2.2 i hi).2, r2.2.2 i hi⟩
          · have hc5 := c5.2 i hi
            have hr3 := r3.2 i hi
            have hv3 := v3 i hi
            have hd3 := d3 i (by omega)
            refine ⟨?_, ?_, c6 i hi⟩
            · rw [lw_at (by decide), lw_at (by decide), lw_at (by decide), lw_at (by decide), hlo 40 (by decide), hlo 41 (by decide), hlo 42 (by decide), hlo 43 (by decide), hd3.1, hd3.2.1, hd3.2.2.1, hd3.2.2.2]
              exact hc5
            · rw [lw_at (by decide), lw_at (by decide), lw_at (by decide), lw_at (by decide), hv3.1, hv3.2.1, hv3.2.2.1, hv3.2.2.2, u2.2.2 111 (by decide), u2.2.2 112 (by decide), u2.2.2 113 (by decide), u2.2.2 114 (by decide)]
              exact hr3
    · refine ss_same (r := -1) hI ⟨M, ?_, hH, ss_h.rf⟩ (fun M1 hR1 => ⟨M1, ?_, hR1, ss_r.rf⟩)
      · unfold f_H_law f_Tape_size
        rw [if_neg (show ¬ nI n < 1 from nI_nlt (b := 1) (by omega) (by omega)), if_neg (show ¬ (160 : Int32) < nI n from nI_nlt (a := 160) (by omega) (by decide)), pp_bd, eH, if_neg (nI_ge (by omega) (by omega))]
      · unfold f_R_law
        rw [sr_in, pp_bd, i1, i160, nI_toInt (show n < 2 ^ 31 by omega), decide_eq_true (by omega), if_pos rfl, show M1.1 97 1 = nI T from (hR1.1 0 (by decide)).trans h0, if_neg (nI_ge (by omega) (by omega))]
  · refine ss_same (r := -1) hI ⟨M, ?_, hH, ss_h.rf⟩ (fun M1 hR1 => ⟨M1, ?_, hR1, ss_r.rf⟩)
    · unfold f_H_law
      by_cases ha : a1 < 1
      · rw [if_pos ha]
      · rw [if_neg ha, if_pos]
        rw [ii_lt] at ha ⊢
        rw [i1] at ha
        rw [i160]
        omega
    · unfold f_R_law
      rw [sr_in, pp_bd, i1, i160, decide_eq_false hw, if_neg (by decide)]
