/-! drought: the reference -/
section DROUGHT3
variable {S : ss_S} {u : Nat} {k c : Nat} {C : Nat → Nat × Nat} {L : Nat → Nat × Nat × Nat × Nat} {M M0 M1 M2 : mm_M}
def dg (M M1 : mm_M) : Prop := M1.2.2 = M.2.2 ∧ (∀ o, (o < 120 ∨ 127 < o) → o ≠ 132 → M1.2.1 o = M.2.1 o) ∧ ∀ o q, ¬ (o = 97 ∧ 46 ≤ q ∧ q ≤ 49) → M1.1 o q = M.1 o q
theorem dg.rf : dg M M := ⟨rfl, fun _ _ _ => rfl, fun _ _ _ => rfl⟩
theorem dg.tr (h : dg M M1) (h2 : dg M1 M2) : dg M M2 := ⟨h2.1.trans h.1, fun o a b => (h2.2.1 o a b).trans (h.2.1 o a b), fun o q a => (h2.2.2 o q a).trans (h.2.2 o q a)⟩
theorem vg.d (h : vg M M1) : dg M M1 := ⟨h.1, fun o a _ => h.2.1 o a, h.2.2⟩
theorem fr.d (h : fr 132 132 M M1) : dg M M1 := ⟨h.2.1, fun o _ b => h.2.2 o (by omega), fun o q _ => by rw [h.1]⟩
theorem ss_ra_132 : ∀ a, a < 14 → ss_ra a ≠ 132 := by decide
theorem dg.RR (h : dg M M1) (hR : ss_RR S M) : ss_RR S M1 := ⟨fun k hk => by rw [h.2.2 _ _ (ss_ro_v k hk)]; exact hR.1 k hk, fun a ha j hj => by rw [h.2.1 _ (ss_ra_v a ha) (ss_ra_132 a ha)]; exact hR.2 a ha j hj⟩
theorem lwR.dg (h : lwR k c C L M) (hf : dg M M1) : lwR k c C L M1 := ⟨h.1, h.2.1, by rw [hf.2.2 _ _ (by omega)]; exact h.2.2.1, fun i hi => by rw [hf.2.1 115 (by omega) (by decide)]; exact h.2.2.2.1 i hi, fun i hi => by rw [hf.2.1 116 (by omega) (by decide), hf.2.1 117 (by omega) (by decide), hf.2.1 118 (by omega) (by decide), hf.2.1 119 (by omega) (by decide)]; exact h.2.2.2.2 i hi⟩
theorem dg.wo (h : dg M M1) (hw : wo u 10 M) : wo u 10 M1 := ⟨by rw [h.2.2 _ _ (by omega)]; exact hw.1, fun x hx hm => by rw [h.2.1 128 (by decide) (by decide)]; exact hw.2 x hx hm⟩
theorem dg.r (h : dg M M1) : ss_r M M1 := ⟨fun o ho => ⟨by funext q; exact h.2.2 o q (by omega), h.2.1 o (by omega) (by omega), by rw [h.1]⟩, fun o _ _ => h.2.1 o (by omega) (by omega)⟩
/-- who is at a place -/
theorem oi_u {l j : Nat} (hm : pp_cn u 10 ≤ 6) (hl : l < pp_fc (pp_cn u 10)) (hj : j < pp_cn u 10) : nf2 u (oi (pp_cn u 10) (2 ^ pp_cn u 10 - 1) l j) = oi (pp_cn u 10) u l j :=
  oi_w (w := u) (pp_cn u 10) u (2 ^ pp_cn u 10 - 1) l (fun x hx => by
    cases hfx : u.testBit x with
    | false => rfl
    | true =>
      have := pp_cn_in (u := u) hx hfx
      rw [Nat.testBit_two_pow_sub_one, decide_eq_true (by omega)]
      rfl) rfl hl j hj
theorem sr_at {l j : Nat} (hm : pp_cn u 10 ≤ 6) (hw : wo u 10 M) (hl : l < pp_fc (pp_cn u 10)) (hj : j < pp_cn u 10) (h132 : M.2.1 132 j = nI (oi (pp_cn u 10) (2 ^ pp_cn u 10 - 1) l j)) : ∃ q, q < 10 ∧ M.2.1 132 j = nI q ∧ M.2.1 128 q = nI (oi (pp_cn u 10) u l j) ∧ oi (pp_cn u 10) u l j < 10 := by
  obtain ⟨o1, o2⟩ := oi_in (pp_cn u 10) (2 ^ pp_cn u 10 - 1) l j hj (cn_ones _ hm) hl
  have o3 : oi (pp_cn u 10) (2 ^ pp_cn u 10 - 1) l j < pp_cn u 10 := by
    rw [Nat.testBit_two_pow_sub_one, decide_eq_true_eq] at o1
    exact o1
  obtain ⟨p1, p2, p3⟩ := nf2_in (f := u) (v := oi (pp_cn u 10) (2 ^ pp_cn u 10 - 1) l j) (by omega)
  have h8 := hw.2 _ p1 p2
  rw [p3] at h8
  rw [oi_u hm hl hj] at h8 p1
  exact ⟨_, o2, h132, h8, p1⟩
theorem sr_harmBy (ho : ss_Ok S) (hR : ss_RR S M) (hlw : lwR k c C L M) (hm : pp_cn u 10 ≤ 6) (hw : wo u 10 M) {l : Nat} (hl : l < pp_fc (pp_cn u 10)) : ∃ M1, f_R_harmBy (nI l) (nI (pp_fc (pp_cn u 10))) M = some (nI (cst (dr_HB k C L S u) (pp_cn u 10) 0 u l), M1) ∧ dg M M1 := by
  obtain ⟨Ma, a1, a2, a3⟩ := sr_ordersBy (M := M) hm hl
  unfold f_R_harmBy
  rw [hw.1, a1, pp_bd, a2.1, hw.1, pp_let]
  generalize hMb : mm_setI Ma 97 46 (nI (pp_cn u 10)) = Mb
  have hb0 : dg M Mb := by
    refine a2.d.tr ?_
    rw [← hMb]
    exact (vg.rf.s (by decide)).d
  have hwb := hb0.wo hw
  have b46 : Mb.1 97 46 = nI (pp_cn u 10) := by rw [← hMb]; rfl
  have b132 : ∀ j, j < pp_cn u 10 → Mb.2.1 132 j = nI (oi (pp_cn u 10) (2 ^ pp_cn u 10 - 1) l j) := fun j hj => by rw [← hMb]; exact a3 j hj
  have k1 : ∀ (K : mm_M → Option (Int32 × mm_M)) q i M', i + q = pp_cn u 10 → fr 122 122 Mb M' → (∀ j, j < i → M'.2.1 122 j = nI (oi (pp_cn u 10) u l j)) → ∀ g, ∃ M1, lp_R_harmBy_20 K (g + q + 1) (nI i) M' = K M1 ∧ fr 122 122 Mb M1 ∧ ∀ j, j < pp_cn u 10 → M1.2.1 122 j = nI (oi (pp_cn u 10) u l j) := by
    intro K q
    induction q with
    | zero =>
      intro i M' hi hf h1 g
      refine ⟨M', ?_, hf, fun j hj => h1 j (by omega)⟩
      rw [show g + 0 + 1 = g + 1 from rfl, lp_R_harmBy_20, hf.1, hwb.1, if_pos (nI_le (by omega) (by omega))]
    | succ q ih =>
      intro i M' hi hf h1 g
      obtain ⟨p, p1, p2, p3, p4⟩ := sr_at hm hwb hl (show i < pp_cn u 10 by omega) (b132 i (by omega))
      have e132 : M'.2.1 132 i = nI p := by rw [hf.2.2 132 (by decide)]; exact p2
      have e128 : M'.2.1 128 p = nI (oi (pp_cn u 10) u l i) := by rw [hf.2.2 128 (by decide)]; exact p3
      rw [show g + (q + 1) + 1 = (g + q + 1) + 1 from rfl, lp_R_harmBy_20, show M'.1 97 57 = nI (pp_cn u 10) from by rw [hf.1]; exact hwb.1, if_neg (nI_ge (by omega) (by omega)), show mm_al 132 = 6 from rfl, show mm_al 128 = 10 from rfl, show mm_al 122 = 10 from rfl, pp_in (by omega) (by decide), if_pos rfl, nI_clamp (by omega), e132, pp_in p1 (by decide), if_pos rfl, nI_clamp (by omega), e128, pp_in (by omega) (by decide), if_pos rfl, pp_let, nI_1, pp_let]
      refine ih (i + 1) _ (by omega) (hf.a (by decide)) (fun j hj => ?_) g
      rw [pp_sa]
      by_cases e : j = i
      · rw [if_pos ⟨rfl, e⟩, e]
      · rw [if_neg (fun z => e z.2)]; exact h1 j (by omega)
  obtain ⟨Mc, c1, c2, c3⟩ := k1 (fun (M_6 : mm_M) => mm_bd (f_R_startsDay M_6) fun _ M_8 => lp_R_harmBy_57 (fun (M_12 : mm_M) => some (M_12.1 97 47, M_12)) mm_fu 0 M_8) (pp_cn u 10) 0 Mb (by omega) fr.rf (fun j hj => by omega) (4999 - pp_cn u 10)
  rw [show 4999 - pp_cn u 10 + pp_cn u 10 + 1 = mm_fu from by show _ = 5000; omega] at c1
  have hc0 := hb0.tr ((c2.v (by decide) (by decide)).d)
  have c46 : Mc.1 97 46 = nI (pp_cn u 10) := by rw [c2.1]; exact b46
  obtain ⟨Md, d1, d2, d3, d4, d5⟩ := sr_starts (t := (0, 0, 0)) Mc (hc0.RR hR)
  rw [show lp_R_harmBy_20 _ mm_fu 0 Mb = _ from c1, d1, pp_bd]
  have hd0 := hc0.tr d3.d
  have key : ∀ q h X' M', h + q = 24 → vg Md M' → (∀ i, M'.2.1 122 i = Md.2.1 122 i) → M'.1 97 46 = Md.1 97 46 → vR0 (0, 0, 0) X' M' → ∀ g, ∃ M1, lp_R_harmBy_57 (fun (M_12 : mm_M) => some (M_12.1 97 47, M_12)) (g + q + 1) (nI h) M' = some ((gdO k C L S (0, 0, 0) (fun j => oi (pp_cn u 10) u l j) (pp_cn u 10) q h X').2.2.2.2.1, M1) ∧ vg Md M1 := by
    intro q
    induction q with
    | zero =>
      intro h X' M' hq hv _ _ hX' g
      have : h = 24 := by omega
      subst this
      refine ⟨M', ?_, hv⟩
      rw [show g + 0 + 1 = g + 1 from rfl, lp_R_harmBy_57, if_pos (by decide), hX'.2.2.1]
      rfl
    | succ q ih =>
      intro h X' M' hq hv e1 e2 hX' g
      have hdd := hd0.tr hv.d
      obtain ⟨Mf, f1, f2, f3, f4, f5⟩ := sr_hourS (t := (0, 0, 0)) (h := h) (O := (pp_cn u 10, fun j => oi (pp_cn u 10) u l j)) ho (hdd.RR hR) (hlw.dg hdd) (by omega) (by show pp_cn u 10 ≤ 10; omega) (fun i hi => (oi_in (pp_cn u 10) u l i hi rfl hl).2) ((e2.trans d5).trans c46) (fun i hi => ((e1 i).trans (d4 i)).trans (c3 i hi)) hX' (by decide)
      rw [show g + (q + 1) + 1 = (g + q + 1) + 1 from rfl, lp_R_harmBy_57, if_neg (show ¬ (24 : Int32) ≤ nI h from nI_ge (b := 24) (by omega) (by decide)), f1, pp_bd, nI_1, pp_let]
      exact ih (h + 1) _ Mf (by omega) (hv.tr f3) (fun i => (f4 i).trans (e1 i)) (f5.trans e2) f2 g
  obtain ⟨Mf, f1, f2⟩ := key 24 0 (X0 S) Md rfl vg.rf (fun _ => rfl) rfl d2 4975
  refine ⟨Mf, ?_, hd0.tr f2.d⟩
  rw [← dr_all (k := k) (C := C) (L := L) (tt := (0, 0, 0)) (O := fun j => oi (pp_cn u 10) u l j) ho rfl hl (fun j _ => rfl)]
  exact f1
/-- all codes: the first that is least -/
theorem sr_dloop (ho : ss_Ok S) (hR : ss_RR S M0) (hlw : lwR k c C L M0) (hm : pp_cn u 10 ≤ 6) (hw : wo u 10 M0) {v2 : Int32} {K : Int32 → Int32 → mm_M → Option (Int32 × mm_M)} : ∃ M1, lp_R_drought_61 v2 (nI (pp_fc (pp_cn u 10))) K mm_fu 0 1000000000 0 M0 = K (nI (Lc (dr_HB k C L S u) u (pp_cn u 10) 0 u)) (nI (dlh (dr_HB k C L S u) u (pp_cn u 10) 0).1) M1 ∧ dg M0 M1 := by
  obtain ⟨a1, a2, a3, a4, _⟩ := dlh_all (H := dr_HB k C L S u) (u := u) (pp_cn u 10) 0 u (fun x hx => by rw [Nat.zero_testBit]; simp) rfl
  have hb : ∀ l, cst (dr_HB k C L S u) (pp_cn u 10) 0 u l ≤ 705672 * 6 := fun l => Nat.le_trans (cst_le (m := 705672) (fun t b => dr_HB_le ho t b) _ _ _ _) (Nat.mul_le_mul_left _ hm)
  have hfc : ∀ n, n ≤ 6 → pp_fc n ≤ 720 := by decide
  have h720 := hfc _ hm
  generalize Lc (dr_HB k C L S u) u (pp_cn u 10) 0 u = lc at a1 a2 a4 ⊢
  generalize (dlh (dr_HB k C L S u) u (pp_cn u 10) 0).1 = lo at a2 a3 a4 ⊢
  have key : ∀ q e M best least, e + q = pp_fc (pp_cn u 10) → dg M0 M → least ≤ 1000000000 → (e ≤ lc → lo < least) → (lc < e → least = lo ∧ best = lc) → ∀ g, ∃ M1, lp_R_drought_61 v2 (nI (pp_fc (pp_cn u 10))) K (g + q + 1) (nI best) (nI least) (nI e) M = K (nI lc) (nI lo) M1 ∧ dg M0 M1 := by
    intro q
    induction q with
    | zero =>
      intro e M best least he hd _ _ h2 g
      obtain ⟨e1, e2⟩ := h2 (by omega)
      refine ⟨M, ?_, hd⟩
      rw [show g + 0 + 1 = g + 1 from rfl, lp_R_drought_61, if_pos (nI_le (by omega) (by omega)), e1, e2]
    | succ q ih =>
      intro e M best least he hd hle h1 h2 g
      obtain ⟨Ma, b1, b2⟩ := sr_harmBy (l := e) ho (hd.RR hR) (hlw.dg hd) hm (hd.wo hw) (by omega)
      have hbe := hb e
      rw [show g + (q + 1) + 1 = (g + q + 1) + 1 from rfl, lp_R_drought_61, if_neg (nI_ge (by omega) (by omega)), b1, pp_bd, pp_jn]
      have ha3 := a3 e (by omega)
      by_cases hl : cst (dr_HB k C L S u) (pp_cn u 10) 0 u e < least
      · rw [if_pos (nI_lt hl (by omega))]
        dsimp only
        rw [nI_1, pp_let]
        refine ih (e + 1) Ma e (cst (dr_HB k C L S u) (pp_cn u 10) 0 u e) (by omega) (hd.tr b2) (by omega) (fun z => a4 e (by omega)) (fun z => ?_) g
        by_cases ee : e = lc
        · exact ⟨by rw [ee]; exact a2, ee⟩
        · have := (h2 (by omega)).1
          omega
      · rw [if_neg (nI_nlt (by omega) (by omega))]
        dsimp only
        rw [nI_1, pp_let]
        refine ih (e + 1) Ma best least (by omega) (hd.tr b2) hle (fun z => h1 (by omega)) (fun z => ?_) g
        by_cases ee : e = lc
        · have := h1 (by omega)
          rw [ee, a2] at hl
          exact absurd this hl
        · exact h2 (by omega)
  have := key (pp_fc (pp_cn u 10)) 0 M0 0 1000000000 (by omega) dg.rf (Nat.le_refl _) (fun _ => by have := a3 0 (by omega); have := hb 0; omega) (fun z => by omega) (4999 - pp_fc (pp_cn u 10))
  rw [show 4999 - pp_fc (pp_cn u 10) + pp_fc (pp_cn u 10) + 1 = mm_fu from by show _ = 5000; omega] at this
  exact this
end DROUGHT3
