/-! fair: the sums over all sets -/
def pp_cc (n a : Nat) : Int64 := lN (pp_fc a) * lN (pp_fc (n - 1 - a))
def pp_fG (S : ss_S) (t b n x : Nat) : Int64 := if pp_sub x t then pp_cc n (pp_cn (pp_delN x b) 12) * lN (pp_cs S x 3) else 0
def pp_fH (S : ss_S) (t b n x : Nat) : Int64 := if pp_sub x t then (if x.testBit b = true then pp_cc n (pp_cn (pp_delN x b) 12) * lN (pp_cs S x 3) else -(pp_cc n (pp_cn (pp_delN x b) 12) * lN (pp_cs S x 3))) else 0
def pp_fN (S : ss_S) (t b n x : Nat) : Nat := if pp_sub x t ∧ x.testBit b = false then pp_fc (pp_cn x 12) * pp_fc (n - 1 - pp_cn x 12) * (pp_cs S (x ||| 2 ^ b) 3 - pp_cs S x 3) else 0
def pp_fZ (S : ss_S) (t b n : Nat) : Nat → Nat
  | 0 => 0
  | m + 1 => pp_fZ S t b n m + pp_fN S t b n m
theorem pp_cn_del {t b x : Nat} (ht : t < 1024) (hb : b < 10) (hbt : t.testBit b = true) (hx : pp_sub x t) : pp_cn (pp_delN x b) 12 < pp_cn t 12 := by
  have hxt := pp_sub_le hx
  have hle := pp_delN_le x b
  refine pp_cn_strict (pp_subI (fun i hi => ?_)) (i := b) (by omega) ?_ hbt
  · have hi12 : i < 12 := pp_tb_lt (n := 12) (show pp_delN x b < 2 ^ 12 by omega) hi
    rw [pp_delN_tb (by omega) hi12] at hi
    refine pp_sub_tb hx ?_
    cases hq : x.testBit i
    · rw [hq] at hi; cases hi
    · rfl
  · rw [pp_delN_tb (by omega) (by omega)]
    simp
theorem pp_del_no {x b : Nat} (hx : x < 1024) (hb : b < 10) (h : x.testBit b = false) : pp_delN x b = x := by
  refine Nat.eq_of_testBit_eq (fun i => ?_)
  rcases Nat.lt_or_ge i 12 with q | q
  · rw [pp_delN_tb (by omega) q]
    by_cases e : i = b
    · rw [e, h]; rfl
    · simp [e]
  · have h1 : ∀ y, y < 2 ^ 12 → y.testBit i = false := fun y hy => Nat.testBit_lt_two_pow (Nat.lt_of_lt_of_le hy (Nat.pow_le_pow_right (by decide) q))
    rw [h1 _ (by have := pp_delN_le x b; omega), h1 _ (by omega)]
theorem pp_del_or {x b : Nat} (hx : x < 1024) (hb : b < 10) (h : x.testBit b = false) : pp_delN (x ||| 2 ^ b) b = x := by
  have hlt := pp_or_lt hx hb
  refine Nat.eq_of_testBit_eq (fun i => ?_)
  rcases Nat.lt_or_ge i 12 with q | q
  · rw [pp_delN_tb (by omega) q, Nat.testBit_or, Nat.testBit_two_pow]
    by_cases e : i = b
    · rw [e, h]; simp
    · have : ¬ b = i := fun q => e q.symm
      simp [e, this]
  · have h1 : ∀ y, y < 2 ^ 12 → y.testBit i = false := fun y hy => Nat.testBit_lt_two_pow (Nat.lt_of_lt_of_le hy (Nat.pow_le_pow_right (by decide) q))
    rw [h1 _ (by have := pp_delN_le (x ||| 2 ^ b) b; omega), h1 _ (by omega)]
theorem pp_sub_or {x t b : Nat} (hbt : t.testBit b = true) : pp_sub (x ||| 2 ^ b) t ↔ pp_sub x t := by
  constructor
  · intro h
    refine pp_subI (fun i hi => pp_sub_tb h ?_)
    rw [Nat.testBit_or, hi, Bool.true_or]
  · intro h
    refine pp_subI (fun i hi => ?_)
    rw [Nat.testBit_or, Nat.testBit_two_pow] at hi
    by_cases e : b = i
    · rw [← e]; exact hbt
    · simp [e] at hi
      exact pp_sub_tb h hi
theorem pp_fHR {S : ss_S} {t b n : Nat} (ht : t < 1024) (hb : b < 10) (hbt : t.testBit b = true) : pp_ls (pp_fH S t b n) 1024 = lN (pp_fZ S t b n 1024) := by
  have e1 : pp_ls (pp_fH S t b n) 1024 = pp_ls (fun x => (if x.testBit b = true then pp_fG S t b n x else 0) + (if x.testBit b = true then 0 else pp_fH S t b n x)) 1024 := pp_ls_ext (fun x hx => by
    by_cases h : x.testBit b = true
    · rw [if_pos h, if_pos h, Int64.add_zero]
      unfold pp_fH pp_fG
      by_cases h2 : pp_sub x t
      · rw [if_pos h2, if_pos h2, if_pos h]
      · rw [if_neg h2, if_neg h2]
    · rw [if_neg h, if_neg h, Int64.zero_add])
  rw [e1, pp_ls_add, show 1024 = 2 ^ 10 from rfl, pp_ls_pair 10 b _ hb, ← pp_ls_add]
  have e2 : ∀ m, m ≤ 1024 → pp_ls (fun x => (if x.testBit b = true then 0 else pp_fG S t b n (x ||| 2 ^ b)) + (if x.testBit b = true then 0 else pp_fH S t b n x)) m = lN (pp_fZ S t b n m) := by
    intro m
    induction m with
    | zero => intro _; rfl
    | succ m ih =>
      intro hm
      rw [pp_ls, pp_fZ, ih (by omega), ← lN_add]
      congr 1
      unfold pp_fN pp_fG pp_fH
      cases h : m.testBit b with
      | true => simp; rfl
      | false =>
        rw [if_neg (show ¬ false = true by decide), if_neg (show ¬ false = true by decide), pp_del_or (by omega) hb h, pp_del_no (by omega) hb h]
        by_cases h2 : pp_sub m t
        · rw [if_pos ((pp_sub_or hbt).mpr h2), if_pos h2, if_neg (show ¬ false = true by decide), if_pos ⟨h2, rfl⟩]
          have hmono : pp_cs S m 3 ≤ pp_cs S (m ||| 2 ^ b) 3 := pp_cs_mono (pp_subI (fun i hi => by rw [Nat.testBit_or, hi, Bool.true_or])) 3
          unfold pp_cc
          rw [lN_mul, lN_mul, lN_mul, ← Int64.sub_eq_add_neg, lN_sub (Nat.mul_le_mul_left _ hmono), ← Nat.mul_sub]
        · rw [if_neg (fun q => h2 ((pp_sub_or hbt).mp q)), if_neg h2, if_neg (fun q => h2 q.1)]
          rfl
  exact e2 1024 (Nat.le_refl _)
theorem pp_fZ_le {S : ss_S} (ho : ss_Ok S) {t b n : Nat} (ht : t < 1024) (hb : b < 10) (hbt : t.testBit b = true) (hn : n = pp_cn t 12) (hn8 : n ≤ 8) (m : Nat) (hm : m ≤ 1024) : pp_fZ S t b n m ≤ 5040 * 5040 * 2967030 * m := by
  induction m with
  | zero => exact Nat.le_refl _
  | succ m ih =>
    have h1 := ih (by omega)
    rw [pp_fZ]
    have h2 : pp_fN S t b n m ≤ 5040 * 5040 * 2967030 := by
      unfold pp_fN
      split
      · rename_i h
        have hc := pp_cn_del ht hb hbt h.1
        rw [pp_del_no (by omega) hb h.2] at hc
        have a1 := pp_fc2 n hn8 (pp_cn m 12) (by omega)
        have a2 := pp_cs_le ho (m ||| 2 ^ b) 3 (Nat.le_refl _)
        exact Nat.mul_le_mul a1 (by omega)
      · omega
    omega
theorem sr_fair {S : ss_S} {M : mm_M} (ho : ss_Ok S) (hR : ss_RR S M) {t b n : Nat} (ht : t < 1024) (hb : b < 10) (hbt : t.testBit b = true) (hn : n = pp_cn t 12) (hn8 : n ≤ 8) (w : Int32) (k : Int64 → mm_M → Option (Int64 × mm_M)) : lp_R_fair_60 (nI t) (nI b) w (nI n) k mm_fu 0 0 M = k (lN (pp_fZ S t b n 1024)) M := by
  refine pp_for (lp := fun m (a : Int64 × Int32 × mm_M) => lp_R_fair_60 (nI t) (nI b) w (nI n) k m a.1 a.2.1 a.2.2) (fun i => (lN (pp_fZ S t b n i), nI i, M)) 1024 (by decide) (fun i hi m => ?_) (fun m => ?_)
  · show lp_R_fair_60 _ _ _ _ _ (m + 1) (lN (pp_fZ S t b n i)) (nI i) M = lp_R_fair_60 _ _ _ _ _ m (lN (pp_fZ S t b n (i + 1))) (nI (i + 1)) M
    rw [lp_R_fair_60, if_neg (show ¬ (1024 : Int32) ≤ nI i from nI_ge hi (by decide)), pp_jn, pp_fZ]
    have hpt := pp_part (t := i) (s := t) (by omega) (by omega)
    have h10 := pp_cn10 i hi
    by_cases hc : pp_sub i t
    · rw [if_pos (hpt.mpr hc), sr_has (by omega) (by omega), pp_bd]
      cases h : i.testBit b with
      | true =>
        rw [if_pos rfl]
        have : pp_fN S t b n i = 0 := by unfold pp_fN; rw [if_neg (fun q => by rw [h] at q; cases q.2)]
        rw [this, Nat.add_zero]
        show mm_let (nI i + 1) _ = _
        rw [nI_1, pp_let]
      | false =>
        have hcn := pp_cn_del ht hb hbt hc
        rw [pp_del_no hi hb h] at hcn
        have f1 := pp_fc_le (pp_cn i 12) (by omega)
        have f2 := pp_fc_le (n - 1 - pp_cn i 12) (by omega)
        have hlt := pp_or_lt hi hb
        have c1 := pp_cs_le ho (i ||| 2 ^ b) 3 (Nat.le_refl _)
        have hmono : pp_cs S i 3 ≤ pp_cs S (i ||| 2 ^ b) 3 := pp_cs_mono (pp_subI (fun j hj => by rw [Nat.testBit_or, hj, Bool.true_or])) 3
        have : pp_fN S t b n i = pp_fc (pp_cn i 12) * pp_fc (n - 1 - pp_cn i 12) * (pp_cs S (i ||| 2 ^ b) 3 - pp_cs S i 3) := by unfold pp_fN; rw [if_pos ⟨hc, h⟩]
        rw [if_neg (by decide), sr_bits (by omega), pp_bd, sr_orders (by omega), pp_bd, sr_bits (by omega), pp_bd, show nI n - 1 = nI (n - 1) from pp_subN (b := 1) (by omega), pp_subN (by omega), sr_orders (by omega), pp_bd, pp_let, pp_one b (by omega), pp_orN, sr_plantCost ho hR (by omega), pp_bd, sr_plantCost ho hR (by omega), pp_bd, pp_subN hmono, nI_l (by omega), nI_l (by omega), nI_l (by omega), lN_mul, lN_mul, lN_add, pp_let, this]
        show mm_let (nI i + 1) _ = _
        rw [nI_1, pp_let]
    · rw [if_neg (fun q => hc (hpt.mp q))]
      have : pp_fN S t b n i = 0 := by unfold pp_fN; rw [if_neg (fun q => hc q.1)]
      rw [this, Nat.add_zero]
      show mm_let (nI i + 1) _ = _
      rw [nI_1, pp_let]
  · show lp_R_fair_60 _ _ _ _ _ (m + 1) _ _ _ = _
    rw [lp_R_fair_60, if_pos (show (1024 : Int32) ≤ nI 1024 by decide)]
theorem sh_shareOut {S : ss_S} {M : mm_M} {L : ld_L} {s t b n : Nat} (ho : ss_Ok S) (hs : s < 1024) (hH : ss_RH S M) (h : ld_W s L M) (hL : ld_of S s L) (hts : pp_sub t s) (hb : b < 10) (hbt : t.testBit b = true) (hn : n = pp_cn t 12) (hn8 : n ≤ 8) : ∃ M1, f_Chooser_shareOut (nI t) (nI b) M = some ((), M1) ∧ ss_m 56 73 M M1 ∧ M1.2.2 71 6 = lN (pp_fZ S t b n 1024 / Nat.gcd (pp_fZ S t b n 1024) (pp_fc n)) ∧ M1.2.2 71 7 = lN (pp_fc n / Nat.gcd (pp_fZ S t b n 1024) (pp_fc n)) := by
  have ht : t < 1024 := by have := pp_sub_le hts; omega
  have hz := pp_fZ_le ho ht hb hbt hn hn8 1024 (Nat.le_refl _)
  have hfc := pp_fc_le n hn8
  unfold f_Chooser_shareOut
  rw [sh_bitCount ht, pp_bd, pp_let, ← hn]
  refine pp_ex (lp := fun m (a : Int64 × Int32 × mm_M) => lp_Chooser_shareOut_11 (nI t) (nI b) (nI n) _ m a.1 a.2.1 a.2.2) (fun i a => a.1 = pp_ls (pp_fH S t b n) i ∧ a.2.1 = nI i ∧ ld_W s L a.2.2 ∧ ss_m 56 71 M a.2.2) (fun r => ∃ M1, r = some ((), M1) ∧ ss_m 56 73 M M1 ∧ M1.2.2 71 6 = lN (pp_fZ S t b n 1024 / Nat.gcd (pp_fZ S t b n 1024) (pp_fc n)) ∧ M1.2.2 71 7 = lN (pp_fc n / Nat.gcd (pp_fZ S t b n 1024) (pp_fc n))) 1024 (by decide) (fun i a hi ha => Or.inl ?_) (fun a ha m => ?_) (a := (0, nI 0, M)) ⟨rfl, rfl, h, ss_m.rf⟩
  · obtain ⟨v, x, M'⟩ := a
    obtain ⟨rfl, rfl, h1, h2⟩ := ha
    have hH' := hH.lo h2 (by omega)
    show ∃ a' : Int64 × Int32 × mm_M, _ ∧ ∀ m, lp_Chooser_shareOut_11 _ _ _ _ (m + 1) (pp_ls (pp_fH S t b n) i) (nI i) M' = lp_Chooser_shareOut_11 _ _ _ _ m a'.1 a'.2.1 a'.2.2
    by_cases hc : pp_sub i t
    · obtain ⟨M1, g1, g2, g3⟩ := sh_plantCostOf ho hs hH' h1 hL (pp_sub_tr hc hts)
      have hcn := pp_cn_del ht hb hbt hc
      have hdl := pp_delN_le i b
      refine ⟨(pp_ls (pp_fH S t b n) (i + 1), nI (i + 1), M1), ⟨rfl, rfl, g2, h2.tr g3⟩, fun m => ?_⟩
      rw [lp_Chooser_shareOut_11, if_neg (show ¬ (1024 : Int32) ≤ nI i from nI_ge hi (by decide)), sh_isPart (by omega) (by omega), pp_bd, pp_jn, decide_eq_true hc, if_pos rfl, pp_del (by omega) (by omega), sh_bitCount (by omega), pp_bd, sh_factorial (by omega), pp_bd, show nI n - 1 = nI (n - 1) from pp_subN (b := 1) (by omega), pp_subN (by omega), sh_factorial (by omega), pp_bd, pp_let, g1, pp_bd, pp_let, sh_isIn (by omega), pp_has_k (by omega), pp_bd, pp_jn, pp_ls]
      have hf : pp_fH S t b n i = if i.testBit b = true then pp_cc n (pp_cn (pp_delN i b) 12) * lN (pp_cs S i 3) else -(pp_cc n (pp_cn (pp_delN i b) 12) * lN (pp_cs S i 3)) := by unfold pp_fH; rw [if_pos hc]
      rw [hf]
      cases i.testBit b with
      | true =>
        rw [if_pos rfl, if_pos rfl]
        show mm_let (pp_ls (pp_fH S t b n) i + _) (fun v4_21 => mm_let (nI i + 1) _) = _
        rw [pp_let, nI_1, pp_let]
        rfl
      | false =>
        rw [if_neg (show ¬ false = true by decide), if_neg (show ¬ false = true by decide)]
        show mm_let (pp_ls (pp_fH S t b n) i + _) (fun v4_21 => mm_let (nI i + 1) _) = _
        rw [pp_let, nI_1, pp_let]
        rfl
    · refine ⟨(pp_ls (pp_fH S t b n) (i + 1), nI (i + 1), M'), ⟨rfl, rfl, h1, h2⟩, fun m => ?_⟩
      have hf : pp_fH S t b n i = 0 := by unfold pp_fH; rw [if_neg hc]
      rw [lp_Chooser_shareOut_11, if_neg (show ¬ (1024 : Int32) ≤ nI i from nI_ge hi (by decide)), sh_isPart (by omega) (by omega), pp_bd, pp_jn, decide_eq_false hc, if_neg (by decide), pp_ls, hf, Int64.add_zero]
      show mm_let (nI i + 1) _ = _
      rw [nI_1, pp_let]
  · obtain ⟨v, x, M'⟩ := a
    obtain ⟨rfl, rfl, h1, h2⟩ := ha
    obtain ⟨M2, r1, r2, r3, r4, r5, r6⟩ := sh_reduce (a := pp_fZ S t b n 1024) (b := pp_fc n) (by omega) (by omega) hfc.2 M'
    refine ⟨M2, ?_, fun o ho => ⟨?_, ?_, ?_⟩, r2, r3⟩
    · show lp_Chooser_shareOut_11 _ _ _ _ (m + 1) _ (nI 1024) M' = _
      rw [lp_Chooser_shareOut_11, if_pos (by decide), sh_factorial hn8, pp_bd, pp_fHR ht hb hbt, r1, pp_bd]
    · rw [r4]; exact (h2 o (by omega)).1
    · rw [r5]; exact (h2 o (by omega)).2.1
    · rw [r6 o (by omega)]; exact (h2 o (by omega)).2.2
section FAIR
variable {Q : Int32 → (Nat → Nat → Int32) → Prop}
theorem p_fair : ok_fair (ss_I Q) := by
  intro v u w M hI
  obtain ⟨S, hI⟩ := hI
  obtain ⟨ho, hH, hR, -⟩ := id hI
  obtain ⟨s, hs, h5⟩ := ho.n 5 (by decide)
  have hs : (s : Int) ≤ 1023 := hs
  have eH : M.1 27 0 = nI s := (hH.1 5 (by decide)).trans h5
  by_cases hv : ∃ t : Nat, 0 < t ∧ v = nI t ∧ pp_sub t s
  · obtain ⟨t, h0, rfl, hsub⟩ := hv
    have hts := pp_sub_le hsub
    have hcn := pp_cn10 t (by omega)
    have a1 : ∀ M' : mm_M, M'.1 27 0 = nI s → f_H_areStays (nI t) 8 M' = some (decide (pp_cn t 12 ≤ 8), M') := fun M' h => sh_are (n := 8) (show s < 1024 by omega) h h0 hsub (by decide)
    have a2 : ∀ M' : mm_M, ss_RR S M' → f_R_areStays (nI t) M' = some (true, M') := fun M' h => sr_are (by omega) ((h.1 5 (by decide)).trans h5) h0 hsub
    by_cases h8 : pp_cn t 12 ≤ 8
    · have n8 : ¬ (8 : Int32) < nI (pp_cn t 12) := nI_nlt (b := pp_cn t 12) (a := 8) h8 (by decide)
      by_cases hu : pp_has t u = true
      · obtain ⟨b, hb12, rfl, hbt⟩ := pp_has_of hu
        have hb : b < 10 := pp_tb_lt (n := 10) (show t < 2 ^ 10 by omega) hbt
        have hur : ∀ M' : mm_M, f_R_in (nI b) 0 9 M' = some (true, M') := fun M' => by
          rw [sr_in, i_0, i_9, nI_toInt (by omega), decide_eq_true (by omega)]
        have hwr : ∀ M' : mm_M, f_R_in w 0 1 M' = some (decide (0 ≤ w.toInt ∧ w.toInt < 2), M') := fun M' => by
          rw [sr_in, i_0, i_1]
          congr 3
          exact propext (by omega)
        by_cases hw : 0 ≤ w.toInt ∧ w.toInt < 2
        · obtain ⟨x, hx, rfl⟩ := ii_nat (n := 2) hw.1 hw.2 (by decide)
          obtain ⟨L, M1, g1, g2, g3, g4⟩ := sh_begin ho hH (show s < 1024 by omega) h5
          have hH1 := hH.lo g3 (by omega)
          obtain ⟨M2, k1, k2, k3, k4⟩ := sh_shareOut ho (show s < 1024 by omega) hH1 ⟨0, Nat.zero_and s, g2⟩ g4 hsub hb hbt rfl h8
          have hm := (g3.wd (lo2 := 56) (hi2 := 73) (by omega) (by omega)).tr k2
          have hz := pp_fZ_le ho (show t < 1024 by omega) hb hbt rfl h8 1024 (Nat.le_refl _)
          have hfc := pp_fc_le (pp_cn t 12) h8
          have hg0 : 0 < Nat.gcd (pp_fZ S t b (pp_cn t 12) 1024) (pp_fc (pp_cn t 12)) := Nat.gcd_pos_of_pos_right _ hfc.2
          have hgb : Nat.gcd (pp_fZ S t b (pp_cn t 12) 1024) (pp_fc (pp_cn t 12)) ≤ pp_fc (pp_cn t 12) := Nat.gcd_le_right _ hfc.2
          have hgz : ¬ lN (Nat.gcd (pp_fZ S t b (pp_cn t 12) 1024) (pp_fc (pp_cn t 12))) = 0 := fun q => by
            have := (kk_eq (b := 0) (by omega) (by decide)).mp q
            omega
          refine ss_same (r := if x = 0 then lN (pp_fZ S t b (pp_cn t 12) 1024 / Nat.gcd (pp_fZ S t b (pp_cn t 12) 1024) (pp_fc (pp_cn t 12))) else lN (pp_fc (pp_cn t 12) / Nat.gcd (pp_fZ S t b (pp_cn t 12) 1024) (pp_fc (pp_cn t 12)))) hI ⟨M2, ?_, hH.lo hm (by omega), hm.h (by omega) (by omega)⟩ (fun M3 hR3 => ⟨M3, ?_, hR3, ss_r.rf⟩)
          · unfold f_H_fair
            rw [a1 M eH, pp_bd, decide_eq_true h8, if_pos rfl, sh_isIn (by omega), pp_bd, hu, if_pos rfl, sh_isBelow, pp_bd, i_2, decide_eq_true hw, if_pos rfl, g1, pp_bd, k1, pp_bd, k3, k4]
            have hx2 : x = 0 ∨ x = 1 := by omega
            rcases hx2 with rfl | rfl
            · rw [if_pos (by decide), if_pos rfl]
            · rw [if_neg (by decide), if_neg (by decide)]
          · unfold f_R_fair
            rw [a2 M3 hR3, pp_bd, if_pos rfl, sr_bits (by omega), pp_bd, if_neg n8, hur, pp_bd, if_pos rfl, sr_has (by omega) (by omega), pp_bd, hbt, if_pos rfl, hwr, pp_bd, decide_eq_true hw, if_pos rfl, sr_bits (by omega), pp_bd, pp_let, sr_fair ho hR3 (by omega) hb hbt rfl h8, sr_orders h8, pp_bd, pp_let, nI_l (by omega), sr_gcd (by omega) (by omega), pp_bd, if_neg hgz, if_neg hgz, kk_div (by omega) (by omega) hg0, kk_div (by omega) (by omega) hg0]
            have hx2 : x = 0 ∨ x = 1 := by omega
            rcases hx2 with rfl | rfl
            · rw [if_pos (by decide), if_pos rfl]
            · rw [if_neg (by decide), if_neg (by decide)]
        · refine ss_same (r := (-1 : Int64)) hI ⟨M, ?_, hH, ss_h.rf⟩ (fun M1 hR1 => ⟨M1, ?_, hR1, ss_r.rf⟩)
          · unfold f_H_fair
            rw [a1 M eH, pp_bd, decide_eq_true h8, if_pos rfl, sh_isIn (by omega), pp_bd, hu, if_pos rfl, sh_isBelow, pp_bd, i_2, decide_eq_false hw, if_neg (by decide)]
          · unfold f_R_fair
            rw [a2 M1 hR1, pp_bd, if_pos rfl, sr_bits (by omega), pp_bd, if_neg n8, hur, pp_bd, if_pos rfl, sr_has (by omega) (by omega), pp_bd, hbt, if_pos rfl, hwr, pp_bd, decide_eq_false hw, if_neg (by decide)]
      · have hu : pp_has t u = false := by
          cases hq : pp_has t u
          · rfl
          · exact absurd hq hu
        refine ss_same (r := (-1 : Int64)) hI ⟨M, ?_, hH, ss_h.rf⟩ (fun M1 hR1 => ⟨M1, ?_, hR1, ss_r.rf⟩)
        · unfold f_H_fair
          rw [a1 M eH, pp_bd, decide_eq_true h8, if_pos rfl, sh_isIn (by omega), pp_bd, hu, if_neg (by decide)]
        · unfold f_R_fair
          rw [a2 M1 hR1, pp_bd, if_pos rfl, sr_bits (by omega), pp_bd, if_neg n8, sr_in, pp_bd, i_0, i_9]
          by_cases hu9 : 0 ≤ u.toInt ∧ u.toInt ≤ 9
          · obtain ⟨b, hb, rfl⟩ := ii_nat (n := 10) hu9.1 (by omega) (by decide)
            rw [pp_has_k (by omega)] at hu
            rw [decide_eq_true hu9, if_pos rfl, sr_has (by omega) (by omega), pp_bd, hu, if_neg (by decide)]
          · rw [decide_eq_false hu9, if_neg (by decide)]
    · refine ss_same (r := (-1 : Int64)) hI ⟨M, ?_, hH, ss_h.rf⟩ (fun M1 hR1 => ⟨M1, ?_, hR1, ss_r.rf⟩)
      · unfold f_H_fair
        rw [a1 M eH, pp_bd, decide_eq_false h8, if_neg (by decide)]
      · unfold f_R_fair
        rw [a2 M1 hR1, pp_bd, if_pos rfl, sr_bits (by omega), pp_bd, if_pos (show (8 : Int32) < nI (pp_cn t 12) from nI_lt (a := 8) (by omega) (by omega))]
  · refine ss_same (r := (-1 : Int64)) hI ⟨M, ?_, hH, ss_h.rf⟩ (fun M1 hR1 => ⟨M1, ?_, hR1, ss_r.rf⟩)
    · unfold f_H_fair
      rw [sh_are_no (by omega) eH hv, pp_bd, if_neg (by decide)]
    · have e12 : M1.1 97 12 = nI s := (hR1.1 5 (by decide)).trans h5
      unfold f_R_fair
      rw [sr_are_no (by omega) e12 hv, pp_bd, if_neg (by decide)]
end FAIR
