/-! drought: the class, one stay behind a set -/
section DROUGHT4
variable {S : ss_S} {u s : Nat} {k c : Nat} {C : Nat → Nat × Nat} {L : Nat → Nat × Nat × Nat × Nat} {Ld : ld_L} {M M0 M1 M2 : mm_M}
def dwf (M M1 : mm_M) : Prop := (∀ o, (o < 56 ∨ 97 ≤ o) → M1.2.2 o = M.2.2 o) ∧ (∀ o, (o < 44 ∨ 45 < o) → (o < 56 ∨ 97 ≤ o) → M1.2.1 o = M.2.1 o) ∧ ∀ o q, ¬ (o = 37 ∧ (q = 10 ∨ q = 11)) → (o < 56 ∨ 97 ≤ o) → M1.1 o q = M.1 o q
theorem dwf.rf : dwf M M := ⟨fun _ _ => rfl, fun _ _ _ => rfl, fun _ _ _ _ => rfl⟩
theorem dwf.tr (h : dwf M M1) (h2 : dwf M1 M2) : dwf M M2 := ⟨fun o a => (h2.1 o a).trans (h.1 o a), fun o a b => (h2.2.1 o a b).trans (h.2.1 o a b), fun o q a b => (h2.2.2 o q a b).trans (h.2.2 o q a b)⟩
theorem af.d (h : af M M1) : dwf M M1 := ⟨fun o _ => by rw [h.1], fun o a _ => h.2.1 o (by omega) (by omega), fun o q a _ => h.2.2 o q a⟩
theorem dwf_m {lo hi : Nat} (h : ss_m lo hi M M1) (hl : 56 ≤ lo) (hh : hi ≤ 97) : dwf M M1 := ⟨fun o b => (h o (by omega)).2.2, fun o _ b => (h o (by omega)).2.1, fun o q _ b => by rw [(h o (by omega)).1]⟩
theorem ss_so_56 : ∀ k, k < 11 → (ss_so k).1 < 56 := by decide
theorem dwf.RH (h : dwf M M1) (hH : ss_RH S M) : ss_RH S M1 := ⟨fun k hk => by rw [h.2.2 _ _ (ss_so_37 k hk) (Or.inl (ss_so_56 k hk))]; exact hH.1 k hk, fun a ha j hj => by
  have := ss_ha_38 ha hj
  rw [h.2.1 _ (by omega) (by omega)]; exact hH.2 a ha j hj⟩
theorem lwH.dwf (h : lwH k c C L M) (hf : dwf M M1) : lwH k c C L M1 := ⟨h.1, h.2.1, by rw [hf.2.2 _ _ (by omega) (by decide)]; exact h.2.2.1, fun i hi => by rw [hf.2.1 38 (by decide) (by decide), hf.2.1 39 (by decide) (by decide)]; exact h.2.2.2.1 i hi, fun i hi => by rw [hf.2.1 40 (by decide) (by decide), hf.2.1 41 (by decide) (by decide), hf.2.1 42 (by decide) (by decide), hf.2.1 43 (by decide) (by decide)]; exact h.2.2.2.2 i hi⟩
theorem dwf.h (h : dwf M M1) : ss_h M M1 := ⟨fun o ho => ⟨by funext q; exact h.2.2 o q (by omega) (by omega), h.2.1 o (by omega) (by omega), h.1 o (by omega)⟩, fun o _ _ => h.2.1 o (by omega) (by omega)⟩
theorem dr_mx {a b : Nat} (ha : a < 2 ^ 30) (hb : b < 2 ^ 30) : pp_mx 0 (nI a - nI b) = nI (a - b) := by
  unfold pp_mx
  by_cases h : b ≤ a
  · rw [pp_subN h, if_pos (show (0 : Int32) ≤ nI (a - b) from nI_le (a := 0) (Nat.zero_le _) (by omega))]
  · rw [show a - b = 0 by omega, if_neg]
    · rfl
    · rw [ii_le, i_0, ii_sub (by rw [nI_toInt (by omega), nI_toInt (by omega)]; omega) (by rw [nI_toInt (by omega), nI_toInt (by omega)]; omega), nI_toInt (by omega), nI_toInt (by omega)]
      omega
theorem dr_mxm {a b e d : Nat} (ha : a < 2 ^ 30) (hb : b < 2 ^ 30) (he : e < 2 ^ 30) (hd : d < 2 ^ 30) : pp_mx 0 (pp_mn (nI a - nI b) (nI e - nI d)) = nI (min (a - b) (e - d)) := by
  have h1 : (nI a - nI b).toInt = (a : Int) - b := by rw [ii_sub (by rw [nI_toInt (by omega), nI_toInt (by omega)]; omega) (by rw [nI_toInt (by omega), nI_toInt (by omega)]; omega), nI_toInt (by omega), nI_toInt (by omega)]
  have h2 : (nI e - nI d).toInt = (e : Int) - d := by rw [ii_sub (by rw [nI_toInt (by omega), nI_toInt (by omega)]; omega) (by rw [nI_toInt (by omega), nI_toInt (by omega)]; omega), nI_toInt (by omega), nI_toInt (by omega)]
  unfold pp_mn
  by_cases h : nI e - nI d ≤ nI a - nI b
  · rw [if_pos h, dr_mx he hd]
    rw [ii_le, h1, h2] at h
    congr 1
    omega
  · rw [if_neg h, dr_mx ha hb]
    rw [ii_le, h1, h2] at h
    congr 1
    omega
theorem sh_thr (ho : ss_Ok S) (hH : ss_RH S M) {t : Nat} (h : ld_I Ld t M) (hL : ld_of S s Ld) (hsub : pp_sub t s) {hr : Nat} (hh : hr < 24) : f_Load_throughPipes (nI hr) M = some (nI (dr_tp S t hr), M) := by
  have st : ∀ (K : Int32 → mm_M → Option (Int32 × mm_M)) n v i, i < 4 → lp_Load_throughPipes_4 (nI hr) K (n + 1) (nI v) (nI i) M = lp_Load_throughPipes_4 (nI hr) K n (nI (v + min (dr_pi S i) (pp_rN S t i hr))) (nI (i + 1)) M := fun K n v i hi => by
    obtain ⟨p1, p2⟩ := dr_pi_e ho hi
    obtain ⟨r1, r2⟩ := pp_rain_e ho t i hr
    have e1 : M.2.1 26 i = nI (dr_pi S i) := (hH.2 5 (by decide) i hi).trans p1
    have e2 : M.2.1 70 (i * 24 + hr) = nI (pp_rN S t i hr) := (ld_rain h hL hsub hi hh).trans r1
    rw [lp_Load_throughPipes_4, if_neg (show ¬ (4 : Int32) ≤ nI i from nI_ge (b := 4) hi (by decide)), mm_al_26, mm_al_70, pp_in hi (by decide), if_pos rfl, show nI i * 24 + nI hr = nI (i * 24 + hr) from by rw [show (24 : Int32) = nI 24 from rfl, pp_mulN, nI_add], pp_in (by omega) (by decide), if_pos rfl, nI_clamp (by omega), nI_clamp (by omega), e1, e2, sh_min, pp_bd, pp_mnN (by omega) (by omega), nI_add, pp_let, nI_1, pp_let]
  unfold f_Load_throughPipes
  obtain ⟨n, hn⟩ := pp_fu5
  rw [hn, show (0 : Int32) = nI 0 from rfl, st _ _ _ 0 (by decide), st _ _ _ 1 (by decide), st _ _ _ 2 (by decide), st _ _ _ 3 (by decide), lp_Load_throughPipes_4, if_pos (by decide), Nat.zero_add]
  rfl
/-- the tops of rain -/
def dT (S : ss_S) (u : Nat) (M : mm_M) : Prop := ∀ h, h < 24 → M.2.1 90 h = nI (dr_tq S u h)
theorem sh_tops (ho : ss_Ok S) (hH : ss_RH S M) (h : ld_I Ld 0 M) (hL : ld_of S s Ld) (hus : pp_sub u s) (hu : u < 1024) : ∃ M1, f_Service_readRainTops (nI u) M = some ((), M1) ∧ ld_I Ld u M1 ∧ dT S u M1 ∧ ss_m 56 91 M M1 := by
  obtain ⟨Ma, a1, a2, a3⟩ := sh_turnTo h hu ld_F0 (ld_of_F ho hL hus)
  unfold f_Service_readRainTops
  have hHa := hH.lo a3 (by decide)
  obtain ⟨w1, w2⟩ := dr_wa_e ho
  obtain ⟨c1, c2⟩ := dr_co_e ho
  obtain ⟨m1, m2⟩ := dr_mo_e ho (show 0 < 3 by decide)
  rw [a1, pp_bd, show Ma.1 22 5 = nI (dr_wa S) from (hHa.1 3 (by decide)).trans w1, pp_let]
  have key : ∀ q hr M', hr + q = 24 → ss_m 90 91 Ma M' → (∀ i, i < hr → M'.2.1 90 i = nI (dr_tq S u i)) → ∀ g, ∃ M1, lp_Service_readRainTops_18 (fun (M_15 : mm_M) => some ((), M_15)) (g + q + 1) (nI (dr_lv S u hr)) (nI hr) M' = some ((), M1) ∧ ss_m 90 91 Ma M1 ∧ dT S u M1 := by
    intro q
    induction q with
    | zero =>
      intro hr M' hq hm h1 g
      have : hr = 24 := by omega
      subst this
      refine ⟨M', ?_, hm, h1⟩
      rw [show g + 0 + 1 = g + 1 from rfl, lp_Service_readRainTops_18, if_pos (by decide)]
    | succ q ih =>
      intro hr M' hq hm h1 g
      have hH' := hHa.lo hm (by decide)
      have hlv := dr_lv_le (u := u) ho hr
      have hin : dr_in S u hr ≤ 9999 := by unfold dr_in; omega
      have e4 : M'.1 22 6 = nI (dr_co S) := (hH'.1 4 (by decide)).trans c1
      have e3 : M'.2.1 24 (0 : Int32).toNatClampNeg = nI (dr_mo S 0) := (hH'.2 3 (by decide) 0 (by decide)).trans m1
      have em : pp_mn 9999 (nI (dr_lv S u hr) + nI (dr_co S)) = nI (dr_in S u hr) := by
        rw [nI_add]
        exact pp_mnN (a := 9999) (by decide) (by omega)
      have i0 : mm_in 0 3 = true := rfl
      rw [show g + (q + 1) + 1 = (g + q + 1) + 1 from rfl, lp_Service_readRainTops_18, if_neg (show ¬ (24 : Int32) ≤ nI hr from nI_ge (b := 24) (by omega) (by decide))]
      unfold f_House_afterInflow
      rw [e4, sh_min, pp_bd, pp_bd, em, mm_al_24, i0, if_pos rfl, e3, sh_min, pp_bd, pp_mnN (by omega) (by omega), show mm_al 90 = 24 from rfl, pp_in (by omega) (by decide), if_pos rfl, nI_clamp (by omega), pp_let, if_pos rfl]
      have hm2 : ss_m 90 91 Ma (mm_setA M' 90 hr (nI (min (dr_mo S 0) (dr_in S u hr)))) := hm.a (by omega)
      have li2 : ld_I Ld u (mm_setA M' 90 hr (nI (min (dr_mo S 0) (dr_in S u hr)))) := ld_I_fr a2 (fun o h1 h2 => ⟨(hm2 o (by omega)).1, (hm2 o (by omega)).2.1⟩)
      have e90 : (mm_setA M' 90 hr (nI (min (dr_mo S 0) (dr_in S u hr)))).2.1 90 hr = nI (min (dr_mo S 0) (dr_in S u hr)) := by rw [pp_sa, if_pos ⟨rfl, rfl⟩]
      have htp : dr_tp S u hr ≤ 4000 := by
        unfold dr_tp
        have := (dr_pi_e ho (show 0 < 4 by decide)).2
        have := (dr_pi_e ho (show 1 < 4 by decide)).2
        have := (dr_pi_e ho (show 2 < 4 by decide)).2
        have := (dr_pi_e ho (show 3 < 4 by decide)).2
        omega
      rw [sh_thr ho (hHa.lo hm2 (by decide)) li2 hL hus (by omega), pp_bd, e90, sh_min, pp_bd, pp_mnN (by omega) (by omega), pp_subN (by omega), pp_let, nI_1, pp_let]
      exact ih (hr + 1) _ (by omega) hm2 (fun i hi => by
        rw [pp_sa]
        by_cases e : i = hr
        · rw [if_pos ⟨rfl, e⟩, e]; rfl
        · rw [if_neg (fun z => e z.2)]; exact h1 i (by omega)) g
  obtain ⟨Mb, b1, b2, b3⟩ := key 24 0 Ma rfl ss_m.rf (fun i hi => by omega) 4975
  exact ⟨Mb, b1, ld_I_fr a2 (fun o h1 h2 => ⟨(b2 o (by omega)).1, (b2 o (by omega)).2.1⟩), b3, (a3.wd (by decide) (by decide)).tr (b2.wd (by decide) (by decide))⟩
theorem sh_rleft (ho : ss_Ok S) (hH : ss_RH S M) {t : Nat} (h : ld_I Ld t M) (hL : ld_of S s Ld) (hsub : pp_sub t s) (hT : dT S u M) {f hr : Nat} (hf : f < 4) (hh : hr < 24) : f_Service_rainLeft (nI f) (nI hr) M = some (pp_mn (nI (dr_tq S u hr) - nI (dr_tp S t hr)) (nI (dr_pi S f) - nI (pp_rN S t f hr)), M) := by
  obtain ⟨p1, p2⟩ := dr_pi_e ho hf
  obtain ⟨r1, r2⟩ := pp_rain_e ho t f hr
  have e1 : M.2.1 26 f = nI (dr_pi S f) := (hH.2 5 (by decide) f hf).trans p1
  have e2 : M.2.1 70 (f * 24 + hr) = nI (pp_rN S t f hr) := (ld_rain h hL hsub hf hh).trans r1
  unfold f_Service_rainLeft
  rw [show mm_al 90 = 24 from rfl, pp_in hh (by decide), if_pos rfl, sh_thr ho hH h hL hsub hh, pp_bd, mm_al_26, mm_al_70, pp_in hf (by decide), if_pos rfl, show nI f * 24 + nI hr = nI (f * 24 + hr) from by rw [show (24 : Int32) = nI 24 from rfl, pp_mulN, nI_add], pp_in (by omega) (by decide), if_pos rfl, nI_clamp (by omega), nI_clamp (by omega), nI_clamp (by omega), e1, e2, hT hr hh, sh_min, pp_bd]
theorem nsum72 {f : Nat → Nat → Nat} : nsum (fun i => f (i % 24) (i / 24)) 72 = nsum (fun h => f h 0 + f h 1 + f h 2) 24 := by
  have e1 : nsum (fun i => f (i % 24) (i / 24)) 24 = nsum (fun h => f h 0) 24 := nsum_ext 24 (fun i hi => by rw [show i % 24 = i by omega, show i / 24 = 0 by omega])
  have e2 : nsum (fun i => f ((24 + i) % 24) ((24 + i) / 24)) 24 = nsum (fun h => f h 1) 24 := nsum_ext 24 (fun i hi => by rw [show (24 + i) % 24 = i by omega, show (24 + i) / 24 = 1 by omega])
  have e3 : nsum (fun i => f ((24 + (24 + i)) % 24) ((24 + (24 + i)) / 24)) 24 = nsum (fun h => f h 2) 24 := nsum_ext 24 (fun i hi => by rw [show (24 + (24 + i)) % 24 = i by omega, show (24 + (24 + i)) / 24 = 2 by omega])
  rw [show (72 : Nat) = 24 + (24 + 24) from rfl, nsum_add 24 (24 + 24), nsum_add 24 24, nsum_2 (f := fun h => f h 0 + f h 1) (g := fun h => f h 2), nsum_2 (f := fun h => f h 0) (g := fun h => f h 1), Nat.add_assoc, e1, e2, e3]
theorem sh_hb (ho : ss_Ok S) (hH : ss_RH S M) (hl : lwH k c C L M) {t : Nat} (h : ld_I Ld t M) (hL : ld_of S s Ld) (hsub : pp_sub t s) (hT : dT S u M) {b : Nat} (hb : b < 10) (hbs : s.testBit b = true) : ∃ M1, f_Service_harmBehind (nI b) M = some (nI (dr_HB k C L S u t b), M1) ∧ af M M1 := by
  obtain ⟨f1, f2⟩ := fln_e ho hb
  obtain ⟨l1, l2⟩ := hL b hb hbs
  have eF : M.2.1 68 b = nI (fln S b) := ((h.1.2.1 b hb).trans l1).trans f1
  have key : ∀ q i M', i + q = 72 → af M M' → ∀ g, ∃ M1, lp_Service_harmBehind_4 (nI b) (fun (v2 : Int32) (M_14 : mm_M) => some (v2, M_14)) (g + q + 1) (nI (nsum (fun i => dr_h1 k C L S u t b (i % 24) (i / 24)) i)) (nI i) M' = some (nI (nsum (fun i => dr_h1 k C L S u t b (i % 24) (i / 24)) 72), M1) ∧ af M M1 := by
    intro q
    induction q with
    | zero =>
      intro i M' hi hf g
      have : i = 72 := by omega
      subst this
      refine ⟨M', ?_, hf⟩
      rw [show g + 0 + 1 = g + 1 from rfl, lp_Service_harmBehind_4, if_pos (by decide)]
    | succ q ih =>
      intro i M' hi hf g
      have hk : i / 24 < 3 := by omega
      have hh : i % 24 < 24 := by omega
      have hi2 : 24 * (i / 24) + i % 24 = i := by omega
      obtain ⟨w1, w2⟩ := pp_w_e ho hb hk (i % 24)
      have eW : ∀ M'', af M M'' → M''.2.1 (58 + b) i = nI (pp_w S b (i / 24) (i % 24)) := fun M'' hf'' => by
        rw [hf''.2.1 _ (by omega) (by omega), h.1.1 b hb i (by omega), ← w1, ← l2 (i / 24) (i % 24) hk hh, hi2]
      have hns : nsum (fun i => dr_h1 k C L S u t b (i % 24) (i / 24)) (i + 1) = nsum (fun i => dr_h1 k C L S u t b (i % 24) (i / 24)) i + dr_h1 k C L S u t b (i % 24) (i / 24) := rfl
      have cont : ∀ left : Int32, pp_mx 0 left = nI (if i / 24 = 0 then min (dr_tq S u (i % 24) - dr_tp S t (i % 24)) (dr_pi S (fln S b) - pp_rN S t (fln S b) (i % 24)) else dr_mo S (i / 24) - pp_aN S t (i / 24) (i % 24)) → (if i / 24 = 0 then min (dr_tq S u (i % 24) - dr_tp S t (i % 24)) (dr_pi S (fln S b) - pp_rN S t (fln S b) (i % 24)) else dr_mo S (i / 24) - pp_aN S t (i / 24) (i % 24)) < 2 ^ 30 →
          ∃ M1, (mm_bd (f_Math_max 0 left M') fun r_5 M_6 => mm_bd (f_Math_min (nI (pp_w S b (i / 24) (i % 24))) r_5 M_6) fun r_7 M_8 => mm_bd (f_Service_harmOf (nI b) (nI i) (nI (pp_w S b (i / 24) (i % 24)) - r_7) M_8) fun r_9 M_10 => mm_let (nI (nsum (fun i => dr_h1 k C L S u t b (i % 24) (i / 24)) i) + r_9) fun v2_11 => mm_let (nI i + 1) fun v3_3 => lp_Service_harmBehind_4 (nI b) (fun (v2 : Int32) (M_14 : mm_M) => some (v2, M_14)) (g + q + 1) v2_11 v3_3 M_10) = some (nI (nsum (fun i => dr_h1 k C L S u t b (i % 24) (i / 24)) 72), M1) ∧ af M M1 := fun left hx hlt => by
        have eg : min (pp_w S b (i / 24) (i % 24)) (if i / 24 = 0 then min (dr_tq S u (i % 24) - dr_tp S t (i % 24)) (dr_pi S (fln S b) - pp_rN S t (fln S b) (i % 24)) else dr_mo S (i / 24) - pp_aN S t (i / 24) (i % 24)) = dr_gv S u t b (i % 24) (i / 24) := by
          unfold dr_gv
          by_cases e : i / 24 = 0
          · rw [if_pos e, if_pos e, e]
          · rw [if_neg e, if_neg e]
        have hg : dr_gv S u t b (i % 24) (i / 24) ≤ pp_w S b (i / 24) (i % 24) := by rw [← eg]; omega
        rw [sh_max, pp_bd, hx, sh_min, pp_bd, pp_mnN (by omega) (Nat.lt_trans hlt (by decide)), eg, pp_subN hg]
        obtain ⟨Mh, g1, g2⟩ := sh_harm (kd := i / 24) (h := i % 24) (w := nI (pp_w S b (i / 24) (i % 24))) ho (hf.RH hH) (hl.f hf) hb hh hk (by rw [hi2]; exact eW M' hf) (nI (pp_w S b (i / 24) (i % 24) - dr_gv S u t b (i % 24) (i / 24)))
        rw [hi2, dr_hN_e b (i % 24) (i / 24) _ (by omega) rfl] at g1
        rw [g1, pp_bd, nI_add, pp_let, nI_1, pp_let]
        exact ih (i + 1) Mh (by omega) (hf.tr g2) g
      rw [show g + (q + 1) + 1 = (g + q + 1) + 1 from rfl, lp_Service_harmBehind_4, if_neg (show ¬ (72 : Int32) ≤ nI i from nI_ge (b := 72) (by omega) (by decide)), pp_in hb (by decide), if_pos rfl, nI_clamp (show b < 2 ^ 31 by omega), mm_al_want b hb, pp_in (by omega) (by decide), if_pos rfl, nI_clamp (show i < 2 ^ 31 by omega), eW M' hf, pp_let, pp_jn]
      by_cases hw0 : pp_w S b (i / 24) (i % 24) = 0
      · rw [if_pos (show nI (pp_w S b (i / 24) (i % 24)) ≤ 0 from by rw [hw0]; decide)]
        dsimp only
        rw [nI_1, pp_let]
        have hz : dr_h1 k C L S u t b (i % 24) (i / 24) = 0 := by
          unfold dr_h1
          rw [hw0, Nat.zero_sub]
          rfl
        have := ih (i + 1) M' (by omega) hf g
        rw [hns, hz, Nat.add_zero] at this
        exact this
      · rw [if_neg (show ¬ nI (pp_w S b (i / 24) (i % 24)) ≤ 0 from nI_nle (by omega) (by omega)), pp_jn]
        by_cases h24 : 24 ≤ i
        · obtain ⟨m1, m2⟩ := dr_mo_e ho hk
          obtain ⟨a1, a2⟩ := pp_all_e ho hk t (i % 24)
          have e24 : M'.2.1 24 (i / 24) = nI (dr_mo S (i / 24)) := ((hf.RH hH).2 3 (by decide) (i / 24) hk).trans m1
          have e69 : M'.2.1 69 i = nI (pp_aN S t (i / 24) (i % 24)) := by
            rw [hf.2.1 69 (by decide) (by decide), ← a1, ← ld_sum h hL hsub hk hh, show i / 24 * 24 + i % 24 = i by omega]
          rw [if_pos (show (24 : Int32) ≤ nI i from nI_le (a := 24) h24 (by omega)), show nI i / 24 = nI (i / 24) from pk_div (by omega) (by decide) (by decide), mm_al_24, pp_in hk (by decide), if_pos rfl, mm_al_69, pp_in (by omega) (by decide), if_pos rfl, nI_clamp (by omega), e24, e69]
          have h0 : ¬ i / 24 = 0 := by omega
          exact cont _ (by rw [if_neg h0]; exact dr_mx (by omega) (by omega)) (by rw [if_neg h0]; omega)
        · have h0 : i / 24 = 0 := by omega
          have himod : i % 24 = i := by omega
          have e68 : M'.2.1 68 b = nI (fln S b) := by rw [hf.2.1 68 (by decide) (by decide)]; exact eF
          have li' : ld_I Ld t M' := ld_I_fr h (fun o h1 h2 => ⟨by funext q; exact hf.2.2 o q (by omega), hf.2.1 o (by omega) (by omega)⟩)
          have hT' : dT S u M' := fun hr hhr => by rw [hf.2.1 90 (by decide) (by decide)]; exact hT hr hhr
          have hrl := sh_rleft (u := u) (f := fln S b) (hr := i % 24) ho (hf.RH hH) li' hL hsub hT' f2 hh
          rw [himod] at hrl
          rw [if_neg (show ¬ (24 : Int32) ≤ nI i from nI_ge (b := 24) (by omega) (by decide)), mm_al_68, pp_in hb (by decide), if_pos rfl, e68, hrl, pp_bd]
          have p2 := (dr_pi_e ho f2).2
          have r2 := (pp_rain_e ho t (fln S b) i).2
          have q2 : dr_tq S u i ≤ 999 := by
            unfold dr_tq
            have := (dr_mo_e ho (show 0 < 3 by decide)).2
            omega
          have t2 : dr_tp S t i ≤ 4000 := by
            unfold dr_tp
            have := (dr_pi_e ho (show 0 < 4 by decide)).2
            have := (dr_pi_e ho (show 1 < 4 by decide)).2
            have := (dr_pi_e ho (show 2 < 4 by decide)).2
            have := (dr_pi_e ho (show 3 < 4 by decide)).2
            omega
          exact cont _ (by rw [if_pos h0, himod]; exact dr_mxm (by omega) (by omega) (by omega) (by omega)) (by rw [if_pos h0, himod]; omega)
  unfold f_Service_harmBehind
  obtain ⟨M1, a1, a2⟩ := key 72 0 M rfl af.rf 4927
  refine ⟨M1, ?_, a2⟩
  unfold dr_HB dr_h3
  rw [if_pos hb, ← nsum72 (f := fun h kd => dr_h1 k C L S u t b h kd)]
  exact a1
end DROUGHT4
