/-! draw -/
section DRAW
variable {S : ss_S} {k c : Nat} {C : Nat → Nat × Nat} {L : Nat → Nat × Nat × Nat × Nat} {M M1 M2 : mm_M}
theorem ss_goL {α : Type} {fH fR : mm_M → Option (α × mm_M)} {M : mm_M} {S S' : ss_S} {r : α} (hI : ss_Ok S ∧ ss_RH S M ∧ ss_RR S M ∧ lwQ (S.1 10) (ss_lw M)) (hok : ss_Ok S') (h10 : S'.1 10 = S.1 10)
    (hH : ∃ M1, fH M = some (r, M1) ∧ ss_RH S' M1 ∧ ss_h M M1) (hR : ∀ M1, ss_RR S M1 → ss_m 0 97 M M1 → ∃ M2, fR M1 = some (r, M2) ∧ ss_RR S' M2 ∧ ss_r M1 M2) :
    ∃ (r : α) (M1 M2 : mm_M), fH M = some (r, M1) ∧ fR M1 = some (r, M2) ∧ ss_I lwQ M2 := by
  obtain ⟨M1, a1, a2, a3⟩ := hH
  obtain ⟨M2, b1, b2, b3⟩ := hR M1 (hI.2.2.1.m a3.1) a3.1
  exact ⟨r, M1, M2, a1, b1, S', hok, a2.m b3.1, b2, by rw [h10, ss_lw_r b3, ss_lw_h a3]; exact hI.2.2.2⟩
theorem lwH.h (h : lwH k c C L M) (hm : ss_h M M1) (h7 : M1.1 37 7 = M.1 37 7) : lwH k c C L M1 := ⟨h.1, h.2.1, by rw [h7]; exact h.2.2.1, fun i hi => by rw [hm.2 38 (by decide) (by decide), hm.2 39 (by decide) (by decide)]; exact h.2.2.2.1 i hi, fun i hi => by rw [hm.2 40 (by decide) (by decide), hm.2 41 (by decide) (by decide), hm.2 42 (by decide) (by decide), hm.2 43 (by decide) (by decide)]; exact h.2.2.2.2 i hi⟩
theorem lwR.r (h : lwR k c C L M) (hm : ss_r M M1) (h7 : M1.1 97 26 = M.1 97 26) : lwR k c C L M1 := ⟨h.1, h.2.1, by rw [h7]; exact h.2.2.1, fun i hi => by rw [hm.2 115 (by decide) (by decide)]; exact h.2.2.2.1 i hi, fun i hi => by rw [hm.2 116 (by decide) (by decide), hm.2 117 (by decide) (by decide), hm.2 118 (by decide) (by decide), hm.2 119 (by decide) (by decide)]; exact h.2.2.2.2 i hi⟩
def dwx (S : ss_S) : Nat := (25173 * (S.1 6).toInt.toNat + 13849) % 65536
def dw (S : ss_S) : ss_S := if (S.1 5).toInt.toNat.testBit (dwx S % 10) = true ∧ (S.1 1).toInt.toNat.testBit (dwx S / 10 % 12) = true then ss_a (ss_s S 6 (nI (dwx S))) 7 (dwx S % 10) (nI (dwx S / 10 % 12)) else ss_s S 6 (nI (dwx S))
def dwN : Nat → ss_S → ss_S
  | 0, S => S
  | n + 1, S => dwN n (dw S)
theorem dw_1 (S : ss_S) {i : Nat} (h : i ≠ 6) : (dw S).1 i = S.1 i := by
  have : ∀ v, (ss_s S 6 v).1 i = S.1 i := fun v => if_neg h
  unfold dw
  split
  · exact this _
  · exact this _
theorem dwN_1 {i : Nat} (h : i ≠ 6) : ∀ n S, (dwN n S).1 i = S.1 i := by
  intro n
  induction n with
  | zero => intro S; rfl
  | succ n ih => intro S; rw [dwN, ih, dw_1 S h]
theorem dw_ok (ho : ss_Ok S) : ss_Ok (dw S) := by
  have hx : dwx S < 65536 := Nat.mod_lt _ (by decide)
  have h1 : ss_Ok (ss_s S 6 (nI (dwx S))) := ho.s 6 (by rw [nI_toInt (by omega)]; show (0 : Int) ≤ _ ∧ _ ≤ (65535 : Int); omega)
  unfold dw
  split
  · refine h1.a 7 _ ?_
    rw [nI_toInt (by omega)]
    show (0 : Int) ≤ _ ∧ _ ≤ (11 : Int)
    omega
  · exact h1
theorem dwN_ok : ∀ n S, ss_Ok S → ss_Ok (dwN n S) := by
  intro n
  induction n with
  | zero => intro S h; exact h
  | succ n ih => intro S h; exact ih _ (dw_ok h)
/-- the numbers that both reckon with -/
theorem dw_num (ho : ss_Ok S) : ∃ x s t : Nat, x ≤ 65535 ∧ s < 1024 ∧ t < 4096 ∧ S.1 6 = nI x ∧ S.1 5 = nI s ∧ S.1 1 = nI t ∧ dwx S = (25173 * x + 13849) % 65536 ∧ (S.1 5).toInt.toNat = s ∧ (S.1 1).toInt.toNat = t := by
  obtain ⟨x, hx, ex⟩ := ho.n 6 (by decide)
  obtain ⟨s, hs, es⟩ := ho.n 5 (by decide)
  obtain ⟨t, ht, et⟩ := ho.n 1 (by decide)
  have hx : (x : Int) ≤ 65535 := hx
  have hs : (s : Int) ≤ 1023 := hs
  have ht : (t : Int) ≤ 4095 := ht
  refine ⟨x, s, t, by omega, by omega, by omega, ex, es, et, ?_, ?_, ?_⟩
  · unfold dwx
    rw [ex, nI_toInt (by omega)]
    rfl
  · rw [es, nI_toInt (by omega)]; rfl
  · rw [et, nI_toInt (by omega)]; rfl
theorem dw_rem {x : Nat} (hx : x ≤ 65535) : mm_rem ((25173 : Int32) * nI x + 13849) 65536 = nI ((25173 * x + 13849) % 65536) := by
  rw [show (25173 : Int32) = nI 25173 from rfl, show (13849 : Int32) = nI 13849 from rfl, show (65536 : Int32) = nI 65536 from rfl, pp_mulN, nI_add, pp_rem (by omega) (by decide) (by decide)]
theorem sh_drawOne (ho : ss_Ok S) (hH : ss_RH S M) : ∃ M1, f_H_drawOne M = some ((), M1) ∧ ss_RH (dw S) M1 ∧ ss_h M M1 := by
  obtain ⟨x, s, t, hx, hs, ht, e6, e5, e1, q1, q2, q3⟩ := dw_num ho
  have hX : dwx S < 65536 := Nat.mod_lt _ (by decide)
  unfold f_H_drawOne
  rw [show M.1 27 5 = nI x from (hH.1 6 (by decide)).trans e6, dw_rem hx, ← q1, pp_let, show (mm_setI M 27 5 (nI (dwx S))).1 27 5 = nI (dwx S) from rfl, show (10 : Int32) = nI 10 from rfl, show (12 : Int32) = nI 12 from rfl, pp_rem (by omega) (by decide) (by decide), pp_let, pk_div (by omega) (by decide) (by decide), pp_rem (by omega) (by decide) (by decide), pp_let]
  have hH1 : ss_RH (ss_s S 6 (nI (dwx S))) (mm_setI M 27 5 (nI (dwx S))) := hH.s 6 (by decide) rfl _
  have f1 : ss_h M (mm_setI M 27 5 (nI (dwx S))) := ss_h.rf.s (by decide)
  rw [sh_has hH1 hs (show (ss_s S 6 (nI (dwx S))).1 5 = nI s from e5), pp_has_k (by omega), pp_bd]
  unfold dw
  rw [q2, q3]
  by_cases c1 : s.testBit (dwx S % 10) = true
  · rw [if_pos c1, sh_isTold hH1 ht (show (ss_s S 6 (nI (dwx S))).1 1 = nI t from e1), pp_has_k (by omega), pp_bd]
    by_cases c2 : t.testBit (dwx S / 10 % 12) = true
    · rw [if_pos c2, if_pos (show s.testBit (dwx S % 10) = true ∧ t.testBit (dwx S / 10 % 12) = true from ⟨c1, c2⟩), mm_al_29, pp_in (by omega) (by decide), if_pos rfl, nI_clamp (by omega), pp_let]
      exact ⟨_, rfl, hH1.a 7 (by decide) (show dwx S % 10 < 10 by omega) rfl _, f1.a (by decide)⟩
    · rw [if_neg c2, if_neg (fun q => c2 q.2)]
      exact ⟨_, rfl, hH1, f1⟩
  · rw [if_neg c1, if_neg (fun q => c1 q.1)]
    exact ⟨_, rfl, hH1, f1⟩
theorem sr_drawOne (ho : ss_Ok S) (hR : ss_RR S M) {v : Int32} {i m : Nat} (hv : ¬ v ≤ nI i) (K : mm_M → Option (Int32 × mm_M)) : ∃ M1, lp_R_draw_14 v K (m + 1) (nI i) M = lp_R_draw_14 v K m (nI (i + 1)) M1 ∧ ss_RR (dw S) M1 ∧ ss_r M M1 := by
  obtain ⟨x, s, t, hx, hs, ht, e6, e5, e1, q1, q2, q3⟩ := dw_num ho
  have hX : dwx S < 65536 := Nat.mod_lt _ (by decide)
  rw [lp_R_draw_14, if_neg hv, show M.1 97 13 = nI x from (hR.1 6 (by decide)).trans e6, dw_rem hx, ← q1, pp_let, show (mm_setI M 97 13 (nI (dwx S))).1 97 13 = nI (dwx S) from rfl, show (10 : Int32) = nI 10 from rfl, show (12 : Int32) = nI 12 from rfl, pp_rem (by omega) (by decide) (by decide), pp_let, pk_div (by omega) (by decide) (by decide), pp_rem (by omega) (by decide) (by decide), pp_let]
  have hR1 : ss_RR (ss_s S 6 (nI (dwx S))) (mm_setI M 97 13 (nI (dwx S))) := hR.s 6 (by decide) rfl _
  have f1 : ss_r M (mm_setI M 97 13 (nI (dwx S))) := ss_r.rf.s (by decide)
  rw [sr_isStay hR1 hs (show (ss_s S 6 (nI (dwx S))).1 5 = nI s from e5), pp_has_k (by omega), pp_bd, pp_jn]
  unfold dw
  rw [q2, q3]
  by_cases c1 : s.testBit (dwx S % 10) = true
  · rw [if_pos c1, sr_isDay hR1 ht (show (ss_s S 6 (nI (dwx S))).1 1 = nI t from e1), pp_has_k (by omega), pp_bd]
    by_cases c2 : t.testBit (dwx S / 10 % 12) = true
    · rw [if_pos c2, if_pos (show s.testBit (dwx S % 10) = true ∧ t.testBit (dwx S / 10 % 12) = true from ⟨c1, c2⟩), mm_al_106, pp_in (by omega) (by decide), if_pos rfl, nI_clamp (by omega), pp_let]
      dsimp only
      rw [nI_1, pp_let]
      exact ⟨_, rfl, hR1.a 7 (by decide) rfl rfl, f1.a (by decide)⟩
    · rw [if_neg c2, if_neg (fun q => c2 q.2)]
      dsimp only
      rw [nI_1, pp_let]
      exact ⟨_, rfl, hR1, f1⟩
  · rw [if_neg c1, if_neg (fun q => c1 q.1)]
    dsimp only
    rw [nI_1, pp_let]
    exact ⟨_, rfl, hR1, f1⟩
theorem p_draw : ok_draw (ss_I lwQ) := by
  intro a1 M ⟨S, hI⟩
  have ho := hI.1
  have hH := hI.2.1
  obtain ⟨k, c, C, L, hl, hlR⟩ := lw_both hI
  have i1 : (1 : Int32).toInt = 1 := rfl
  by_cases hw : 1 ≤ a1.toInt ∧ a1.toInt ≤ 20
  · obtain ⟨n, hn, rfl⟩ := ii_nat (v := a1) (n := 21) (by omega) (by omega) (by decide)
    rw [nI_toInt (by omega)] at hw
    have ho' := dwN_ok n S ho
    obtain ⟨s, hs, h5⟩ := ho'.n 5 (by decide)
    have hs : (s : Int) ≤ 1023 := hs
    have ht : ((0, 0, 0) : Nat × Nat × Nat).2.2 < 24 ∧ ((0, 0, 0) : Nat × Nat × Nat).2.1 < 3 ∧ ((0, 0, 0) : Nat × Nat × Nat).1 < 10 := by decide
    have kH : ∀ q i S' M', i + q = n → ss_Ok S' → ss_RH S' M' → ss_h M M' → ∀ m, ∃ M1, lp_H_draw_15 (nI n) (fun (M_4 : mm_M) => mm_bd (f_Service_serveAll M_4) fun _ M_6 => some (M_6.1 73 6, M_6)) (m + q + 1) (nI i) M' = (mm_bd (f_Service_serveAll M1) fun _ M_6 => some (M_6.1 73 6, M_6)) ∧ ss_RH (dwN q S') M1 ∧ ss_h M M1 := by
      intro q
      induction q with
      | zero =>
        intro i S' M' hi _ hH' hf m
        have : i = n := by omega
        subst this
        refine ⟨M', ?_, hH', hf⟩
        rw [show m + 0 + 1 = m + 1 from rfl, lp_H_draw_15, if_pos (nI_le (Nat.le_refl _) (by omega))]
      | succ q ih =>
        intro i S' M' hi ho1 hH' hf m
        obtain ⟨Ma, a1, a2, a3⟩ := sh_drawOne ho1 hH'
        rw [show m + (q + 1) + 1 = (m + q + 1) + 1 from rfl, lp_H_draw_15, if_neg (nI_ge (by omega) (by omega)), a1, pp_bd, nI_1, pp_let]
        exact ih (i + 1) _ Ma (by omega) (dw_ok ho1) a2 (hf.tr a3) m
    have kR : ∀ q i S' M0 M', i + q = n → ss_Ok S' → ss_RR S' M' → ss_r M0 M' → ∀ m, ∃ M1, lp_R_draw_14 (nI n) (fun (M_13 : mm_M) => mm_bd (f_R_serves M_13) fun _ M_15 => some (M_15.1 97 47, M_15)) (m + q + 1) (nI i) M' = (mm_bd (f_R_serves M1) fun _ M_15 => some (M_15.1 97 47, M_15)) ∧ ss_RR (dwN q S') M1 ∧ ss_r M0 M1 := by
      intro q
      induction q with
      | zero =>
        intro i S' M0 M' hi _ hR' hf m
        have : i = n := by omega
        subst this
        refine ⟨M', ?_, hR', hf⟩
        rw [show m + 0 + 1 = m + 1 from rfl, lp_R_draw_14, if_pos (nI_le (Nat.le_refl _) (by omega))]
      | succ q ih =>
        intro i S' M0 M' hi ho1 hR' hf m
        obtain ⟨Ma, a1, a2, a3⟩ := sr_drawOne (v := nI n) (i := i) (m := m + q + 1) ho1 hR' (nI_ge (by omega) (by omega)) (fun (M_13 : mm_M) => mm_bd (f_R_serves M_13) fun _ M_15 => some (M_15.1 97 47, M_15))
        rw [show m + (q + 1) + 1 = (m + q + 1) + 1 from rfl, a1]
        exact ih (i + 1) _ M0 Ma (by omega) (dw_ok ho1) a2 (hf.tr a3) m
    obtain ⟨Mb, b1, b2, b3⟩ := kH n 0 S M (by omega) ho hH ss_h.rf (4999 - n)
    rw [show 4999 - n + n + 1 = mm_fu from by show _ = 5000; omega] at b1
    have e7 : Mb.1 37 7 = M.1 37 7 := by rw [show Mb.1 37 7 = (dwN n S).1 10 from b2.1 10 (by decide), dwN_1 (by decide), show M.1 37 7 = S.1 10 from hH.1 10 (by decide)]
    obtain ⟨Mc, s1, s2, s3, s4, s5⟩ := sh_serveAll (t := (0, 0, 0)) ho' (by omega) h5 b2 (hl.h b3 e7) ht
    refine ss_goL (S' := dwN n S) (r := (gd k C L (dwN n S) (0, 0, 0) s 24 0 (X0 (dwN n S))).2.2.2.2.1) hI ho' (dwN_1 (by decide) n S) ⟨Mc, ?_, s3, b3.tr s5⟩ (fun M1 hR1 hm => ?_)
    · unfold f_H_draw
      rw [if_neg (show ¬ nI n < 1 from nI_nlt (b := 1) (by omega) (by omega)), if_pos (show nI n ≤ 20 from nI_le (b := 20) (by omega) (by decide))]
      refine b1.trans ?_
      rw [s1, pp_bd, s2.2.2.1]
    · obtain ⟨Md, d1, d2, d3⟩ := kR n 0 S M1 M1 (by omega) ho hR1 ss_r.rf (4999 - n)
      rw [show 4999 - n + n + 1 = mm_fu from by show _ = 5000; omega] at d1
      have e26 : Md.1 97 26 = M1.1 97 26 := by rw [show Md.1 97 26 = (dwN n S).1 10 from d2.1 10 (by decide), dwN_1 (by decide), show M1.1 97 26 = S.1 10 from hR1.1 10 (by decide)]
      obtain ⟨Me, r1, r2, r3⟩ := sr_serves (t := (0, 0, 0)) ho' (by omega) h5 d2 ((hlR M1 hR1 hm).r d3 e26) ht
      refine ⟨Me, ?_, r3.RR d2, d3.tr r3.rr⟩
      unfold f_R_draw
      rw [sr_in, pp_bd, i1, i_20, nI_toInt (by omega), decide_eq_true (by omega), if_pos rfl]
      refine d1.trans ?_
      rw [r1, pp_bd, r2.2.2.1]
  · refine ss_same (r := -1) hI ⟨M, ?_, hH, ss_h.rf⟩ (fun M1 hR1 => ⟨M1, ?_, hR1, ss_r.rf⟩)
    · unfold f_H_draw
      by_cases ha : a1 < 1
      · rw [if_pos ha]
      · rw [if_neg ha, if_neg]
        rw [ii_lt, i1] at ha
        rw [ii_le, i_20]
        omega
    · unfold f_R_draw
      rw [sr_in, pp_bd, i1, i_20, decide_eq_false hw, if_neg (by decide)]
end DRAW
