/-! drought: the class, by sets -/
section DROUGHT5
variable {S : ss_S} {u s : Nat} {k c : Nat} {C : Nat → Nat × Nat} {L : Nat → Nat × Nat × Nat × Nat} {Ld : ld_L} {M M0 M1 M2 : mm_M}
def nxf (t : Nat) (M M1 : mm_M) : Prop := M1.2.2 = M.2.2 ∧ (∀ o, o ≠ 44 → o ≠ 45 → o ≠ 91 → o ≠ 92 → M1.2.1 o = M.2.1 o) ∧ (∀ i, i ≠ t → M1.2.1 91 i = M.2.1 91 i ∧ M1.2.1 92 i = M.2.1 92 i) ∧ ∀ o q, ¬ (o = 37 ∧ (q = 10 ∨ q = 11)) → M1.1 o q = M.1 o q
theorem nxf.rf {t : Nat} : nxf t M M := ⟨rfl, fun _ _ _ _ _ => rfl, fun _ _ => ⟨rfl, rfl⟩, fun _ _ _ => rfl⟩
theorem nxf.tr {t : Nat} (h : nxf t M M1) (h2 : nxf t M1 M2) : nxf t M M2 := ⟨h2.1.trans h.1, fun o a b e d => (h2.2.1 o a b e d).trans (h.2.1 o a b e d), fun i hi => ⟨(h2.2.2.1 i hi).1.trans (h.2.2.1 i hi).1, (h2.2.2.1 i hi).2.trans (h.2.2.1 i hi).2⟩, fun o q a => (h2.2.2.2 o q a).trans (h.2.2.2 o q a)⟩
theorem af.n {t : Nat} (h : af M M1) : nxf t M M1 := ⟨h.1, fun o a b _ _ => h.2.1 o a b, fun i _ => ⟨by rw [h.2.1 91 (by decide) (by decide)], by rw [h.2.1 92 (by decide) (by decide)]⟩, h.2.2⟩
theorem nxf.d {t : Nat} (h : nxf t M M1) : dwf M M1 := ⟨fun o _ => by rw [h.1], fun o a b => h.2.1 o (by omega) (by omega) (by omega) (by omega), fun o q a _ => h.2.2.2 o q a⟩
theorem nxf.ld {t t' : Nat} (h : nxf t' M M1) (hl : ld_I Ld t M) : ld_I Ld t M1 := ld_I_fr hl (fun o h1 h2 => ⟨by funext q; exact h.2.2.2 o q (by omega), h.2.1 o (by omega) (by omega) (by omega) (by omega)⟩)
theorem nxf.T {t : Nat} (h : nxf t M M1) (hT : dT S u M) : dT S u M1 := fun hr hhr => by rw [h.2.1 90 (by decide) (by decide) (by decide) (by decide)]; exact hT hr hhr
def nxs (t : Nat) (q : Option (Nat × Nat)) (fnd : Bool) (M : mm_M) : Prop := match q with
  | none => fnd = false
  | some p => fnd = true ∧ M.2.1 91 t = nI p.1 ∧ M.2.1 92 t = nI p.2
theorem mb_n {e : Nat → Bool} {f : Nat → Nat} {b : Nat} (hc : e b = true) (h : mb e f b = none) : mb e f (b + 1) = some (f b, b) := by rw [mb, if_pos hc, h]
theorem mb_l {e : Nat → Bool} {f : Nat → Nat} {b : Nat} {p : Nat × Nat} (hc : e b = true) (h : mb e f b = some p) (hl : f b < p.1) : mb e f (b + 1) = some (f b, b) := by
  rw [mb, if_pos hc, h]
  exact if_pos hl
theorem mb_g {e : Nat → Bool} {f : Nat → Nat} {b : Nat} {p : Nat × Nat} (hc : e b = true) (h : mb e f b = some p) (hl : ¬ f b < p.1) : mb e f (b + 1) = some p := by
  rw [mb, if_pos hc, h]
  exact if_neg hl
theorem sh_next (ho : ss_Ok S) (hH : ss_RH S M) (hl : lwH k c C L M) {t r n : Nat} (hld : ld_I Ld t M) (hL : ld_of S s Ld) (hsub : pp_sub t s) (hus : pp_sub u s) (hT : dT S u M) (ht : t < 1024) (hr : r < 1024) (hrel : rel u t r) (htab : ∀ b, b < 10 → r.testBit b = true → M.2.1 91 (t ||| 2 ^ b) = nI (dlh (dr_HB k C L S u) u n (t ||| 2 ^ b)).1 ∧ (dlh (dr_HB k C L S u) u n (t ||| 2 ^ b)).1 ≤ 705672 * 6) (hn : pp_cn r 10 = n + 1) :
    ∃ M1, f_Service_chooseNext (nI t) (nI r) M = some ((), M1) ∧ nxf t M M1 ∧ M1.2.1 91 t = nI (dlh (dr_HB k C L S u) u (n + 1) t).1 ∧ M1.2.1 92 t = nI (dlh (dr_HB k C L S u) u (n + 1) t).2 := by
  have hlt : ∀ b, b < 10 → t ||| 2 ^ b < 1024 := fun b hb => Nat.or_lt_two_pow (n := 10) ht (Nat.pow_lt_pow_right (by decide) hb)
  have hne : ∀ b, b < 10 → r.testBit b = true → t ||| 2 ^ b ≠ t := fun b hb hrb e => by
    have h1 := hrel b hb
    rw [hrb] at h1
    simp only [Bool.true_eq, Bool.and_eq_true, Bool.not_eq_true'] at h1
    have h2 := tb_or (t := t) (b := b) b
    rw [e, h1.2, decide_eq_true rfl] at h2
    cases h2
  have key : ∀ q b fnd M', b + q = 10 → nxf t M M' → nxs t (mb (fun b => u.testBit b && !(t.testBit b)) (fun b => dr_HB k C L S u t b + (dlh (dr_HB k C L S u) u n (t ||| 2 ^ b)).1) b) fnd M' → ∀ g, ∃ M1 fnd', lp_Service_chooseNext_5 (nI t) (nI r) (fun (M_11 : mm_M) => some ((), M_11)) (g + q + 1) fnd (nI b) M' = some ((), M1) ∧ nxf t M M1 ∧ nxs t (mb (fun b => u.testBit b && !(t.testBit b)) (fun b => dr_HB k C L S u t b + (dlh (dr_HB k C L S u) u n (t ||| 2 ^ b)).1) 10) fnd' M1 := by
    intro q
    induction q with
    | zero =>
      intro b fnd M' hb hf hs g
      have : b = 10 := by omega
      subst this
      refine ⟨M', fnd, ?_, hf, hs⟩
      rw [show g + 0 + 1 = g + 1 from rfl, lp_Service_chooseNext_5, if_pos (by decide)]
    | succ q ih =>
      intro b fnd M' hb hf hs g
      have hb10 : b < 10 := by omega
      rw [show g + (q + 1) + 1 = (g + q + 1) + 1 from rfl, lp_Service_chooseNext_5, if_neg (show ¬ (10 : Int32) ≤ nI b from nI_ge (b := 10) hb10 (by decide)), sh_isIn (by omega), pp_has_k (by omega), pp_bd, pp_jn]
      have hcb : (u.testBit b && !(t.testBit b)) = r.testBit b := (hrel b hb10).symm
      cases hrb : r.testBit b with
      | false =>
        rw [if_neg (by decide)]
        dsimp only
        rw [nI_1, pp_let]
        refine ih (b + 1) fnd M' (by omega) hf ?_ g
        rw [mb, hcb, hrb, if_neg (by decide)]
        exact hs
      | true =>
        have hub : u.testBit b = true := by
          rw [hrb] at hcb
          simp only [Bool.and_eq_true] at hcb
          exact hcb.1
        obtain ⟨Ma, a1, a2⟩ := sh_hb (k := k) (C := C) (L := L) (u := u) (t := t) ho (hf.d.RH hH) (hl.dwf hf.d) (hf.ld hld) hL hsub (hf.T hT) hb10 (pp_sub_tb hus hub)
        have hfa : nxf t M Ma := hf.tr a2.n
        obtain ⟨t1, t2⟩ := htab b hb10 hrb
        have e91 : Ma.2.1 91 (t ||| 2 ^ b) = nI (dlh (dr_HB k C L S u) u n (t ||| 2 ^ b)).1 := by rw [(hfa.2.2.1 _ (hne b hb10 hrb)).1]; exact t1
        have hHB := dr_HB_le (k := k) (C := C) (L := L) (u := u) ho t b
        have hlt' := hlt b hb10
        rw [if_pos rfl, a1, pp_bd, pp_one b (by omega), pp_orN, show mm_al 91 = 1024 from rfl, show mm_al 92 = 1024 from rfl, pp_in hlt' (by decide), if_pos rfl, nI_clamp (by omega), e91, nI_add, pp_let, pp_jn]
        generalize hv : dr_HB k C L S u t b + (dlh (dr_HB k C L S u) u n (t ||| 2 ^ b)).1 = v
        have put : ∃ M1 fnd', lp_Service_chooseNext_5 (nI t) (nI r) (fun (M_11 : mm_M) => some ((), M_11)) (g + q + 1) true (nI (b + 1)) (mm_setA (mm_setA Ma 91 t (nI v)) 92 t (nI b)) = some ((), M1) ∧ nxf t M M1 ∧ nxs t (mb (fun b => u.testBit b && !(t.testBit b)) (fun b => dr_HB k C L S u t b + (dlh (dr_HB k C L S u) u n (t ||| 2 ^ b)).1) 10) fnd' M1 ∨ ¬ (mb (fun b => u.testBit b && !(t.testBit b)) (fun b => dr_HB k C L S u t b + (dlh (dr_HB k C L S u) u n (t ||| 2 ^ b)).1) (b + 1) = some (v, b)) := by
          by_cases hm : mb (fun b => u.testBit b && !(t.testBit b)) (fun b => dr_HB k C L S u t b + (dlh (dr_HB k C L S u) u n (t ||| 2 ^ b)).1) (b + 1) = some (v, b)
          · obtain ⟨M1, fnd', z1, z2, z3⟩ := ih (b + 1) true (mm_setA (mm_setA Ma 91 t (nI v)) 92 t (nI b)) (by omega) (hfa.tr ⟨rfl, fun o _ _ h1 h2 => by rw [ss_seta_ne h2, ss_seta_ne h1], fun i hi => ⟨by rw [pp_sa, if_neg (fun z => absurd z.1 (by decide)), pp_sa, if_neg (fun z => hi z.2)], by rw [pp_sa, if_neg (fun z => hi z.2), pp_sa, if_neg (fun z => absurd z.1 (by decide))]⟩, fun _ _ _ => rfl⟩) (by
              rw [hm]
              exact ⟨rfl, by rw [pp_sa, if_neg (fun z => absurd z.1 (by decide)), pp_sa, if_pos ⟨rfl, rfl⟩], by rw [pp_sa, if_pos ⟨rfl, rfl⟩]⟩) g
            exact ⟨M1, fnd', Or.inl ⟨z1, z2, z3⟩⟩
          · exact ⟨Ma, true, Or.inr hm⟩
        have hcb' : (fun b => u.testBit b && !(t.testBit b)) b = true := hcb.trans hrb
        cases hq : mb (fun b => u.testBit b && !(t.testBit b)) (fun b => dr_HB k C L S u t b + (dlh (dr_HB k C L S u) u n (t ||| 2 ^ b)).1) b with
        | none =>
          have hstep := mb_n hcb' hq
          rw [hv] at hstep
          rw [hq] at hs
          have hs : fnd = false := hs
          obtain ⟨M1, fnd', z⟩ := put
          have z := z.resolve_right (fun y => y hstep)
          rw [hs, if_neg (by decide)]
          dsimp only
          rw [pp_in ht (by decide), if_pos rfl, nI_clamp (by omega), pp_let, if_pos rfl, pp_let, nI_1, pp_let]
          exact ⟨M1, fnd', z⟩
        | some p =>
          rw [hq] at hs
          obtain ⟨s1, s2, s3⟩ : fnd = true ∧ M'.2.1 91 t = nI p.1 ∧ M'.2.1 92 t = nI p.2 := hs
          have p91 : Ma.2.1 91 t = nI p.1 := by rw [a2.2.1 91 (by decide) (by decide)]; exact s2
          have p92 : Ma.2.1 92 t = nI p.2 := by rw [a2.2.1 92 (by decide) (by decide)]; exact s3
          obtain ⟨m1, m2, m3, m4, m5⟩ := mb_some b p hq
          have hpb : p.1 < 2 ^ 31 := by
            have hrp : r.testBit p.2 = true := by rw [hrel p.2 (by omega)]; exact m2
            have := (htab p.2 (by omega) hrp).2
            have := dr_HB_le (k := k) (C := C) (L := L) (u := u) ho t p.2
            rw [m3]
            omega
          rw [s1, if_pos rfl, pp_in ht (by decide), if_pos rfl, nI_clamp (show t < 2 ^ 31 by omega), p91]
          by_cases hlp : v < p.1
          · have hstep := mb_l hcb' hq (by rw [hv]; exact hlp)
            rw [hv] at hstep
            obtain ⟨M1, fnd', z⟩ := put
            have z := z.resolve_right (fun y => y hstep)
            rw [if_neg (nI_ge (by omega) (by omega))]
            dsimp only
            rw [if_pos rfl, pp_let, if_pos rfl, pp_let, nI_1, pp_let]
            exact ⟨M1, fnd', z⟩
          · have hstep := mb_g hcb' hq (by rw [hv]; exact hlp)
            rw [if_pos (nI_le (by omega) (by omega))]
            dsimp only
            rw [nI_1, pp_let]
            exact ih (b + 1) true Ma (by omega) hfa (by rw [hstep]; exact ⟨rfl, p91, p92⟩) g
  obtain ⟨M1, fnd', a1, a2, a3⟩ := key 10 0 false M rfl nxf.rf rfl 4989
  refine ⟨M1, a1, a2, ?_⟩
  rw [dlh]
  cases hq : mb (fun b => u.testBit b && !(t.testBit b)) (fun b => dr_HB k C L S u t b + (dlh (dr_HB k C L S u) u n (t ||| 2 ^ b)).1) 10 with
  | none =>
    obtain ⟨n1, n2, n3⟩ := nf2_in (f := r) (v := 0) (by omega)
    have := mb_none 10 hq _ n1
    rw [← hrel _ n1] at this
    exact absurd n2 this
  | some p =>
    rw [hq] at a3
    rw [Option.getD_some]
    exact a3.2
/-- the table -/
def DD (k : Nat) (C : Nat → Nat × Nat) (L : Nat → Nat × Nat × Nat × Nat) (S : ss_S) (u t : Nat) : Nat × Nat := dlh (dr_HB k C L S u) u (pp_cn u 10 - pp_cn t 10) t
theorem df_rel {t : Nat} (h : pp_sub t u) {r : Nat} (hr : ∀ x, x < 10 → r.testBit x = (u.testBit x && !(t.testBit x))) : pp_cn r 10 + pp_cn t 10 = pp_cn u 10 := by
  have : ∀ n, n ≤ 10 → pp_cn r n + pp_cn t n = pp_cn u n := by
    intro n
    induction n with
    | zero => intro _; rfl
    | succ n ih =>
      intro hn
      have := ih (by omega)
      rw [pp_cn_s, pp_cn_s, pp_cn_s, hr n (by omega)]
      cases ht : t.testBit n with
      | true => rw [pp_sub_tb h ht]; simp; omega
      | false =>
        cases hu : u.testBit n with
        | true => simp; omega
        | false => simp; omega
  exact this 10 (Nat.le_refl _)
theorem dlh_le (ho : ss_Ok S) {t r n : Nat} (hrel : rel u t r) (hr : pp_cn r 10 = n) (hn : n ≤ 6) : (dlh (dr_HB k C L S u) u n t).1 ≤ 705672 * 6 := by
  obtain ⟨a1, a2, _⟩ := dlh_all (H := dr_HB k C L S u) n t r hrel hr
  rw [← a2]
  exact Nat.le_trans (cst_le (m := 705672) (fun t b => dr_HB_le ho t b) _ _ _ _) (Nat.mul_le_mul_left _ hn)
def tab (k : Nat) (C : Nat → Nat × Nat) (L : Nat → Nat × Nat × Nat × Nat) (S : ss_S) (u j : Nat) (M : mm_M) : Prop := ∀ t, j ≤ t → pp_sub t u → M.2.1 91 t = nI (DD k C L S u t).1 ∧ (t ≠ u → M.2.1 92 t = nI (DD k C L S u t).2)
theorem sub_in {t b : Nat} (h : pp_sub t u) (hb : u.testBit b = true) : pp_sub (t ||| 2 ^ b) u := pp_subI (fun i hi => by
  rw [tb_or] at hi
  simp only [Bool.or_eq_true, decide_eq_true_eq] at hi
  rcases hi with z | z
  · exact pp_sub_tb h z
  · rw [← z]; exact hb)
theorem lt_in {t b : Nat} (h : t.testBit b = false) : t < t ||| 2 ^ b := by
  have h1 : t ≤ t ||| 2 ^ b := Nat.left_le_or
  have h2 : t ≠ t ||| 2 ^ b := fun e => by
    have h3 := tb_or (t := t) (b := b) b
    rw [← e, h, decide_eq_true rfl] at h3
    cases h3
  omega
theorem sh_dorder (ho : ss_Ok S) (hH : ss_RH S M) (hl : lwH k c C L M) (h : ld_I Ld 0 M) (hL : ld_of S s Ld) (hus : pp_sub u s) (hu : u < 1024) (hm : pp_cn u 10 ≤ 6) : ∃ M1, f_Service_orderForDrought (nI u) M = some ((), M1) ∧ tab k C L S u 0 M1 ∧ dwf M M1 := by
  obtain ⟨Ma, a1, a2, a3, a4⟩ := sh_tops ho hH h hL hus hu
  have key : ∀ j M' t', j ≤ u → dwf M M' → ld_I Ld t' M' → pp_sub t' u → dT S u M' → tab k C L S u j M' → ∀ g, ∃ M1, lp_Service_orderForDrought_16 (nI u) (fun (M_13 : mm_M) => some ((), M_13)) (g + j + 1) (nI j - 1) M' = some ((), M1) ∧ tab k C L S u 0 M1 ∧ dwf M M1 := by
    intro j
    induction j with
    | zero =>
      intro M' t' _ hd _ _ _ htb g
      refine ⟨M', ?_, htb, hd⟩
      rw [show g + 0 + 1 = g + 1 from rfl, lp_Service_orderForDrought_16, if_pos (by decide)]
    | succ j ih =>
      intro M' t' hj hd hld hts hT htb g
      have hdec : nI j + (-1) = nI j - 1 := by rw [Int32.sub_eq_add_neg]
      rw [show g + (j + 1) + 1 = (g + j + 1) + 1 from rfl, nI_pred, lp_Service_orderForDrought_16, if_neg (nI_pos (by omega)), sh_isPart (by omega) (by omega), pp_bd, pp_jn]
      by_cases hsub : pp_sub j u
      · rw [decide_eq_true hsub, if_pos rfl]
        obtain ⟨Mx, x1, x2, x3⟩ := sh_turnTo hld (t := j) (by omega) (ld_of_F ho hL (pp_sub_tr hts hus)) (ld_of_F ho hL (pp_sub_tr hsub hus))
        obtain ⟨r, r1, r2, r3⟩ := pp_not (s := u) (u := j) hu
        have hcn := df_rel hsub r3
        have hlt := pp_cn_lt hu hsub (by omega)
        rw [cn_12 hu, cn_12 (show j < 1024 by omega)] at hlt
        have hdx := hd.tr (dwf_m x3 (by decide) (by decide))
        have hTx : dT S u Mx := fun hr hhr => by rw [(x3 90 (by decide)).2.1]; exact hT hr hhr
        have hrb : ∀ b, b < 10 → r.testBit b = true → u.testBit b = true ∧ j.testBit b = false := fun b hb h => by
          rw [r3 b hb] at h
          simp only [Bool.and_eq_true, Bool.not_eq_true'] at h
          exact h
        obtain ⟨n, hn⟩ : ∃ n, pp_cn r 10 = n + 1 := ⟨pp_cn r 10 - 1, by omega⟩
        obtain ⟨My, y1, y2, y3, y4⟩ := sh_next (u := u) (n := n) (r := r) ho (hdx.RH hH) (hl.dwf hdx) x2 hL (pp_sub_tr hsub hus) hus hTx (by omega) r2 r3 (fun b hb hb2 => by
          obtain ⟨u1, u2⟩ := hrb b hb hb2
          have e := (htb (j ||| 2 ^ b) (lt_in u2) (sub_in hsub u1)).1
          have hcb := cn_or u2 10
          rw [if_pos hb] at hcb
          unfold DD at e
          rw [show pp_cn u 10 - pp_cn (j ||| 2 ^ b) 10 = n by omega] at e
          refine ⟨by rw [(x3 91 (by decide)).2.1]; exact e, ?_⟩
          obtain ⟨d1, d2⟩ := cn_del10 hb hb2
          exact dlh_le ho (rel_s r3 hb) (by omega) (by omega)) hn
        rw [x1, pp_bd, r1, y1, pp_bd]
        dsimp only
        rw [hdec, pp_let]
        refine ih My j (by omega) (hdx.tr y2.d) (y2.ld x2) hsub (y2.T hTx) (fun t ht1 ht2 => ?_) g
        by_cases e : t = j
        · subst e
          unfold DD
          rw [show pp_cn u 10 - pp_cn t 10 = n + 1 by omega]
          exact ⟨y3, fun _ => y4⟩
        · obtain ⟨q1, q2⟩ := htb t (by omega) ht2
          rw [(y2.2.2.1 t e).1, (y2.2.2.1 t e).2, (x3 91 (by decide)).2.1, (x3 92 (by decide)).2.1]
          exact ⟨q1, q2⟩
      · rw [decide_eq_false hsub, if_neg (by decide)]
        dsimp only
        rw [hdec, pp_let]
        refine ih M' t' (by omega) hd hld hts hT (fun t ht1 ht2 => ?_) g
        by_cases e : t = j
        · rw [e] at ht2; exact absurd ht2 hsub
        · exact htb t (by omega) ht2
  unfold f_Service_orderForDrought
  rw [a1, pp_bd, show mm_al 91 = 1024 from rfl, pp_in hu (by decide), if_pos rfl, nI_clamp (by omega), pp_let, pp_let]
  have hd : dwf M (mm_setA Ma 91 u 0) := dwf_m (lo := 56) (hi := 97) ((a4.wd (by decide) (by decide)).a (by decide)) (by decide) (by decide)
  have li : ld_I Ld u (mm_setA Ma 91 u 0) := ld_I_fr a2 (fun o h1 h2 => ⟨rfl, ss_seta_ne (by omega)⟩)
  have hT : dT S u (mm_setA Ma 91 u 0) := fun hr hhr => by rw [ss_seta_ne (by decide)]; exact a3 hr hhr
  have := key u (mm_setA Ma 91 u 0) u (Nat.le_refl _) hd li (pp_sub_rf u) hT (fun t ht1 ht2 => by
    have e : t = u := by have := pp_sub_le ht2; omega
    subst e
    refine ⟨?_, fun z => absurd rfl z⟩
    unfold DD
    rw [pp_sa, if_pos ⟨rfl, rfl⟩, Nat.sub_self]
    rfl) (4999 - u)
  rw [show 4999 - u + u + 1 = mm_fu from by show _ = 5000; omega] at this
  exact this
theorem sh_dat (hu : u < 1024) {w : Nat} (hw : w < pp_cn u 10) (htb : tab k C L S u 0 M) : f_Service_droughtStayAt (nI w) M = some (nI (pth (dr_HB k C L S u) u (pp_cn u 10) 0 w), M) := by
  have hc10 := pp_cn_le u 10
  have key : ∀ q i t, i + q = w → pp_sub t u → pp_cn t 10 = i → ∀ g, lp_Service_droughtStayAt_4 (nI w) (fun (v2 : Int32) (M_3 : mm_M) => if mm_in v2 (mm_al 92) = true then some (M_3.2.1 92 v2.toNatClampNeg, M_3) else none) (g + q + 1) (nI t) (nI i) M = some (nI (pth (dr_HB k C L S u) u (pp_cn u 10 - i) t q), M) := by
    intro q
    induction q with
    | zero =>
      intro i t hi hsub hc g
      have hle := pp_sub_le hsub
      have hne : t ≠ u := fun e => by rw [e] at hc; omega
      obtain ⟨n, hn⟩ : ∃ n, pp_cn u 10 - i = n + 1 := ⟨pp_cn u 10 - i - 1, by omega⟩
      have e := (htb t (Nat.zero_le _) hsub).2 hne
      unfold DD at e
      rw [hc, hn] at e
      rw [show g + 0 + 1 = g + 1 from rfl, lp_Service_droughtStayAt_4, if_pos (nI_le (by omega) (by omega)), show mm_al 92 = 1024 from rfl, pp_in (by omega) (by decide), if_pos rfl, nI_clamp (by omega), e, hn]
      rfl
    | succ q ih =>
      intro i t hi hsub hc g
      have hle := pp_sub_le hsub
      have hne : t ≠ u := fun e => by rw [e] at hc; omega
      obtain ⟨n, hn⟩ : ∃ n, pp_cn u 10 - i = n + 1 := ⟨pp_cn u 10 - i - 1, by omega⟩
      have e := (htb t (Nat.zero_le _) hsub).2 hne
      unfold DD at e
      rw [hc, hn] at e
      obtain ⟨r, r1, r2, r3⟩ := pp_not (s := u) (u := t) hu
      have hcn := df_rel hsub r3
      obtain ⟨s1, s2, _⟩ := dlh_spec (H := dr_HB k C L S u) (n := n) r3 (by omega)
      have hp : pth (dr_HB k C L S u) u (n + 1) t (q + 1) = pth (dr_HB k C L S u) u n (t ||| 2 ^ (dlh (dr_HB k C L S u) u (n + 1) t).2) q := rfl
      rw [show g + (q + 1) + 1 = (g + q + 1) + 1 from rfl, lp_Service_droughtStayAt_4, if_neg (nI_ge (by omega) (by omega)), show mm_al 92 = 1024 from rfl, pp_in (by omega) (by decide), if_pos rfl, nI_clamp (by omega), e, pp_one _ (by omega), pp_orN, pp_let, nI_1, pp_let, hn, hp]
      generalize (dlh (dr_HB k C L S u) u (n + 1) t).2 = b at s1 s2
      rw [r3 b s1] at s2
      simp only [Bool.and_eq_true, Bool.not_eq_true'] at s2
      have hcb := cn_or s2.2 10
      rw [if_pos s1] at hcb
      have := ih (i + 1) (t ||| 2 ^ b) (by omega) (sub_in hsub s2.1) (by omega) g
      rw [show pp_cn u 10 - (i + 1) = n by omega] at this
      exact this
  unfold f_Service_droughtStayAt
  have := key w 0 0 (by omega) (pp_subI (fun i hi => by rw [Nat.zero_testBit] at hi; cases hi)) (by decide) (4999 - w)
  rw [show 4999 - w + w + 1 = mm_fu from by show _ = 5000; omega, Nat.sub_zero] at this
  exact this
end DROUGHT5
