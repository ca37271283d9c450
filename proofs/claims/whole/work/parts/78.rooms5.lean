/-! rooms: the reference's search -/
section ROOMS5
variable {S : ss_S} {u s f : Nat} {M M0 : mm_M}
def rq6 (S : ss_S) (u : Nat) (M : mm_M) : Prop := (∀ k, k < 11 → M.1 (ss_ro k).1 (ss_ro k).2 = S.1 k) ∧ ∀ a, a < 14 → ∀ j, j < ss_len a → ¬ (a = 6 ∧ u.testBit j = true) → M.2.1 (ss_ra a) j = ss_rv a (S.2 a j)
def oR (S : ss_S) (M : mm_M) : Prop := ∀ x, x < 10 → M.2.1 130 x = S.2 6 x
theorem rq6_of {R : Nat → Int32} (h : ss_RR (rT S R) M) (hR : ∀ x, ¬ u.testBit x = true → R x = S.2 6 x) : rq6 S u M := ⟨h.1, fun a ha j hj hn => by
  rw [h.2 a ha j hj]
  by_cases e : a = 6
  · subst e
    rw [rT_6, hR j (fun z => hn ⟨rfl, z⟩)]
  · rw [rT_n e]⟩
theorem rok_S (ho : ss_Ok S) : rok (S.2 6) := fun x hx => ⟨pp_rm S x, (pp_rm_e ho hx).2, (pp_rm_e ho hx).1⟩
theorem oi_in : ∀ r g l j, j < r → pp_cn g 10 = r → l < pp_fc r → g.testBit (oi r g l j) = true ∧ oi r g l j < 10 := by
  intro r
  induction r with
  | zero => intro g l j hj; omega
  | succ r ih =>
    intro g l j hj hg hl
    have hp := fc_pos r
    have hv : l / pp_fc r < r + 1 := Nat.div_lt_of_lt_mul (by rw [Nat.mul_comm]; rw [pp_fc] at hl; exact hl)
    obtain ⟨n1, n2, n3⟩ := nf2_in (f := g) (v := l / pp_fc r) (by omega)
    cases j with
    | zero => exact ⟨n2, n1⟩
    | succ j =>
      obtain ⟨d1, d2⟩ := cn_del10 n1 n2
      obtain ⟨a1, a2⟩ := ih (pp_delN g (nf2 g (l / pp_fc r))) (l % pp_fc r) j (by omega) (by omega) (Nat.mod_lt _ hp)
      refine ⟨?_, a2⟩
      have : (pp_delN g (nf2 g (l / pp_fc r))).testBit (oi r (pp_delN g (nf2 g (l / pp_fc r))) (l % pp_fc r) j) = true := a1
      rw [pp_delN_tb (by omega) (by omega)] at this
      simp only [Bool.and_eq_true] at this
      exact this.1
theorem cn_ones : ∀ m, m ≤ 6 → pp_cn (2 ^ m - 1) 10 = m := by decide
/-- one code's rooms are written down -/
theorem sr_rset (ho : ss_Ok S) (hu : u < 1024) (hm : pp_cn u 10 ≤ 6) (hf : pp_cn f 10 = pp_cn u 10) (hR : rq6 S u M) (hro : ro f M) (hw : wo u 10 M) {l : Nat} (hl : l < pp_fc (pp_cn u 10)) (h132 : ∀ j, j < pp_cn u 10 → M.2.1 132 j = nI (oi (pp_cn u 10) (2 ^ pp_cn u 10 - 1) l j)) {v1 v2 : Int32} {K : mm_M → Option (Int32 × mm_M)} : ∃ M1 R', lp_R_firstRooms_27 v1 v2 K mm_fu 0 M = K M1 ∧ rmA u 10 0 S f l = rT S R' ∧ (∀ x, ¬ u.testBit x = true → R' x = S.2 6 x) ∧ rok R' ∧ ss_RR (rT S R') M1 ∧ fr 105 105 M M1 := by
  obtain ⟨R', r1, r2, r3, r4⟩ := rmA_oi (S := S) (u := u) (w := f) 10 0 (S.2 6) f (2 ^ pp_cn u 10 - 1) l rfl (fun x hx => by
    cases hfx : f.testBit x with
    | false => rfl
    | true =>
      have := pp_cn_in (u := f) hx hfx
      rw [Nat.testBit_two_pow_sub_one, decide_eq_true (by omega)]
      rfl) (by rw [hf]; rfl) (by rw [hf]; exact hl) (rok_S ho)
  rw [rT_id] at r1
  have r3 : ∀ x, x < 10 → u.testBit x = true → R' x = nI (nf2 f (oi (pp_cn u 10) (2 ^ pp_cn u 10 - 1) l (pp_cn u x))) := fun x hx hmx => by
    have := r3 x (Nat.zero_le _) hx hmx
    rw [hf, show pp_cn u 0 = 0 from rfl, Nat.sub_zero] at this
    exact this
  have key : ∀ q i M', i + q = pp_cn u 10 → fr 105 105 M M' → (∀ x, x < 10 → u.testBit x = true → pp_cn u x < i → M'.2.1 105 x = R' x) → (∀ x, x < 10 → ¬ u.testBit x = true → M'.2.1 105 x = S.2 6 x) → ∀ g, ∃ M1, lp_R_firstRooms_27 v1 v2 K (g + q + 1) (nI i) M' = K M1 ∧ fr 105 105 M M1 ∧ (∀ x, x < 10 → u.testBit x = true → M1.2.1 105 x = R' x) ∧ (∀ x, x < 10 → ¬ u.testBit x = true → M1.2.1 105 x = S.2 6 x) := by
    intro q
    induction q with
    | zero =>
      intro i M' hi hfr h1 h2 g
      have : i = pp_cn u 10 := by omega
      subst this
      refine ⟨M', ?_, hfr, fun x hx hmx => h1 x hx hmx (pp_cn_in hx hmx), h2⟩
      rw [show g + 0 + 1 = g + 1 from rfl, lp_R_firstRooms_27, hfr.1, hw.1, if_pos (nI_le (Nat.le_refl _) (by omega))]
    | succ q ih =>
      intro i M' hi hfr h1 h2 g
      obtain ⟨n1, n2, n3⟩ := nf2_in (f := u) (v := i) (by omega)
      obtain ⟨o1, o2⟩ := oi_in (pp_cn u 10) (2 ^ pp_cn u 10 - 1) l i (by omega) (cn_ones _ hm) hl
      have o3 : oi (pp_cn u 10) (2 ^ pp_cn u 10 - 1) l i < pp_cn u 10 := by
        rw [Nat.testBit_two_pow_sub_one, decide_eq_true_eq] at o1
        exact o1
      obtain ⟨p1, p2, p3⟩ := nf2_in (f := f) (v := oi (pp_cn u 10) (2 ^ pp_cn u 10 - 1) l i) (by omega)
      have e128 : M'.2.1 128 i = nI (nf2 u i) := by
        rw [hfr.2.2 128 (by decide)]
        have := hw.2 _ n1 n2
        rw [n3] at this
        exact this
      have e132 : M'.2.1 132 i = nI (oi (pp_cn u 10) (2 ^ pp_cn u 10 - 1) l i) := by rw [hfr.2.2 132 (by decide)]; exact h132 i (by omega)
      have e129 : M'.2.1 129 (oi (pp_cn u 10) (2 ^ pp_cn u 10 - 1) l i) = R' (nf2 u i) := by
        rw [hfr.2.2 129 (by decide), r3 _ n1 n2, n3]
        have := hro _ p1 p2
        rw [p3] at this
        exact this
      rw [show g + (q + 1) + 1 = (g + q + 1) + 1 from rfl, lp_R_firstRooms_27, show M'.1 97 57 = nI (pp_cn u 10) from by rw [hfr.1]; exact hw.1, if_neg (nI_ge (by omega) (by omega)), show mm_al 128 = 10 from rfl, show mm_al 132 = 6 from rfl, show mm_al 129 = 6 from rfl, mm_al_105, pp_in (by omega) (by decide), if_pos rfl, pp_in (by omega) (by decide), if_pos rfl, nI_clamp (by omega), e132, pp_in (by omega) (by decide), if_pos rfl, e128, pp_in n1 (by decide), if_pos rfl, nI_clamp (by omega), nI_clamp (by omega), e129, pp_let, nI_1, pp_let]
      refine ih (i + 1) _ (by omega) (hfr.a (by decide)) (fun x hx hmx hlt => ?_) (fun x hx hmx => ?_) g
      · rw [pp_sa]
        by_cases e : x = nf2 u i
        · rw [if_pos ⟨rfl, e⟩, e]
        · rw [if_neg (fun z => e z.2)]
          refine h1 x hx hmx ?_
          rcases Nat.lt_or_ge (pp_cn u x) i with z | z
          · exact z
          · exact absurd (nf2_e hx hmx (show pp_cn u x = i by omega)).symm e
      · rw [pp_sa, if_neg (fun z => hmx (by rw [z.2]; exact n2))]
        exact h2 x hx hmx
  obtain ⟨M1, a1, a2, a3, a4⟩ := key (pp_cn u 10) 0 M (by omega) fr.rf (fun x _ _ h => by omega) (fun x hx hmx => (hR.2 6 (by decide) x hx (fun z => hmx z.2)).trans rfl) (4999 - pp_cn u 10)
  rw [show 4999 - pp_cn u 10 + pp_cn u 10 + 1 = mm_fu from by show _ = 5000; omega] at a1
  refine ⟨M1, R', a1, r1, fun x hx => r2 x (Or.inr hx), r4, ⟨fun q hq => by rw [a2.1]; exact hR.1 q hq, fun a ha j hj => ?_⟩, a2⟩
  by_cases e : a = 6
  · subst e
    have hj10 : j < 10 := hj
    show M1.2.1 105 j = (rT S R').2 6 j
    rw [rT_6]
    by_cases hq : u.testBit j = true
    · exact a3 j hj10 hq
    · rw [a4 j hj10 hq, r2 j (Or.inr hq)]
  · have hne : ss_ra a ≠ 105 := fun z => e (ss_ra_inj a ha 6 (by decide) z)
    rw [a2.2.2 _ (by omega), hR.2 a ha j hj (fun z => e z.1), rT_n e]
/-- the first code that fits -/
theorem sr_first (ho : ss_Ok S) (hs : s < 1024) (h5 : S.1 5 = nI s) (hu : u < 1024) (hm : pp_cn u 10 ≤ 6) (hf : pp_cn f 10 = pp_cn u 10) (hR : rq6 S u M) (hO : oR S M) (hro : ro f M) (hw : wo u 10 M) (hr0 : ss_r M0 M) :
    (cf (fun l => fz s (rmA u 10 0 S f l)) (pp_fc (pp_cn u 10)) 0 = none ∧ ∃ M1, f_R_firstRooms M = some (-1, M1) ∧ rq6 S u M1 ∧ oR S M1 ∧ ss_r M0 M1) ∨
    (∃ l R' M1, l < 5000 ∧ cf (fun l => fz s (rmA u 10 0 S f l)) (pp_fc (pp_cn u 10)) 0 = some (rT S R') ∧ f_R_firstRooms M = some (nI l, M1) ∧ rok R' ∧ (∀ x, ¬ u.testBit x = true → R' x = S.2 6 x) ∧ ss_RR (rT S R') M1 ∧ oR S M1 ∧ ss_r M0 M1) := by
  have hfc : ∀ n, n ≤ 6 → pp_fc n ≤ 720 := by decide
  have h720 := hfc _ hm
  have key : ∀ q c M, c + q = pp_fc (pp_cn u 10) → rq6 S u M → oR S M → ro f M → wo u 10 M → ss_r M0 M → ∀ g,
      (cf (fun l => fz s (rmA u 10 0 S f l)) q c = none ∧ ∃ M1, lp_R_firstRooms_10 (nI (pp_fc (pp_cn u 10))) (fun (v2 : Int32) (M_11 : mm_M) => some (v2, M_11)) (fun (M_12 : mm_M) => some ((-1), M_12)) (g + q + 1) (nI c) M = some (-1, M1) ∧ rq6 S u M1 ∧ oR S M1 ∧ ss_r M0 M1) ∨
      (∃ l R' M1, l < 5000 ∧ cf (fun l => fz s (rmA u 10 0 S f l)) q c = some (rT S R') ∧ lp_R_firstRooms_10 (nI (pp_fc (pp_cn u 10))) (fun (v2 : Int32) (M_11 : mm_M) => some (v2, M_11)) (fun (M_12 : mm_M) => some ((-1), M_12)) (g + q + 1) (nI c) M = some (nI l, M1) ∧ rok R' ∧ (∀ x, ¬ u.testBit x = true → R' x = S.2 6 x) ∧ ss_RR (rT S R') M1 ∧ oR S M1 ∧ ss_r M0 M1) := by
    intro q
    induction q with
    | zero =>
      intro c M hc hR hO hro hw hr0 g
      refine Or.inl ⟨rfl, M, ?_, hR, hO, hr0⟩
      rw [show g + 0 + 1 = g + 1 from rfl, lp_R_firstRooms_10, if_pos (nI_le (by omega) (by omega))]
    | succ q ih =>
      intro c M hc hR hO hro hw hr0 g
      obtain ⟨Ma, a1, a2, a3⟩ := sr_ordersBy (M := M) hm (show c < pp_fc (pp_cn u 10) by omega)
      have hRa : rq6 S u Ma := ⟨fun k hk => by rw [a2.1]; exact hR.1 k hk, fun a ha j hj hn => by
        have : ∀ a, a < 14 → ss_ra a ≠ 132 := by decide
        rw [a2.2.2 _ (by have := this a ha; omega)]; exact hR.2 a ha j hj hn⟩
      have hOa : oR S Ma := fun x hx => by rw [a2.2.2 130 (by decide)]; exact hO x hx
      have hroa : ro f Ma := fun x hx h => by rw [a2.2.2 129 (by decide)]; exact hro x hx h
      have hwa : wo u 10 Ma := ⟨by rw [a2.1]; exact hw.1, fun x hx h => by rw [a2.2.2 128 (by decide)]; exact hw.2 x hx h⟩
      have hra : ss_r M0 Ma := hr0.tr ⟨a2.m (by decide) (by decide), fun o _ _ => a2.2.2 o (by omega)⟩
      obtain ⟨Mb, R', b1, b2, b3, b4, b5, b6⟩ := sr_rset (v1 := nI (pp_fc (pp_cn u 10))) (v2 := nI c) (K := fun (M_7 : mm_M) => mm_bd (f_R_canBe (M_7.1 97 12) true M_7) fun b_8 M_9 => if b_8 = true then some (nI c, M_9) else mm_let (nI c + 1) fun v2_10 => lp_R_firstRooms_10 (nI (pp_fc (pp_cn u 10))) (fun (v2 : Int32) (M_11 : mm_M) => some (v2, M_11)) (fun (M_12 : mm_M) => some ((-1), M_12)) (g + q + 1) v2_10 M_9) ho hu hm hf hRa hroa hwa (show c < pp_fc (pp_cn u 10) by omega) a3
      have hrb : ss_r M0 Mb := hra.tr ⟨b6.m (by decide) (by decide), fun o _ _ => b6.2.2 o (by omega)⟩
      obtain ⟨Mc, c1, c2, _⟩ := sr_canBe (rT_ok ho b4) b5 (show s < 2 ^ 31 by omega) true
      have hRRc := c2.RR b5
      have hOc : oR S Mc := fun x hx => by rw [c2.2, b6.2.2 130 (by decide)]; exact hOa x hx
      rw [show g + (q + 1) + 1 = (g + q + 1) + 1 from rfl, lp_R_firstRooms_10, if_neg (nI_ge (by omega) (by omega)), hw.1, a1, pp_bd, b1, show Mb.1 97 12 = nI s from (b5.1 5 (by decide)).trans h5, c1, pp_bd, cf, b2]
      unfold fz
      by_cases hfit : (pp_fit (rT S R') s true).isNone = true
      · rw [if_pos hfit, if_pos hfit, Option.some_or]
        exact Or.inr ⟨c, R', Mc, by omega, rfl, rfl, b4, b3, hRRc, hOc, hrb.tr c2.r⟩
      · rw [if_neg hfit, if_neg hfit, Option.none_or, nI_1, pp_let]
        refine ih (c + 1) Mc (by omega) (rq6_of hRRc b3) hOc (fun x hx h => ?_) ⟨?_, fun x hx h => ?_⟩ (hrb.tr c2.r) g
        · rw [c2.2, b6.2.2 129 (by decide)]; exact hroa x hx h
        · rw [c2.1 _ _ (by omega), b6.1]; exact hwa.1
        · rw [c2.2, b6.2.2 128 (by decide)]; exact hwa.2 x hx h
  unfold f_R_firstRooms
  rw [hw.1, sr_orders (by omega), pp_bd]
  have := key (pp_fc (pp_cn u 10)) 0 M (by omega) hR hO hro hw hr0 (4999 - pp_fc (pp_cn u 10))
  rw [show 4999 - pp_fc (pp_cn u 10) + pp_fc (pp_cn u 10) + 1 = mm_fu from by show _ = 5000; omega] at this
  exact this
theorem sr_rsave {v3 : Int32} {K : mm_M → Option (Int32 × mm_M)} (M : mm_M) : lp_R_rooms_85 v3 K mm_fu 0 M = K (mm_setR M 130 (fun j => if 0 ≤ j ∧ j < 0 + 10 then M.2.1 105 j else M.2.1 130 j)) := by
  refine pp_fill (lp := fun m v M => lp_R_rooms_85 v3 K m v M) (k := K) M 130 0 10 (by decide) (fun j => M.2.1 105 j) (fun i hi m M' e => ?_) (fun m M' => ?_)
  · show lp_R_rooms_85 v3 K (m + 1) (nI i) M' = lp_R_rooms_85 v3 K m (nI (i + 1)) _
    have e1 : M'.2.1 105 i = M.2.1 105 i := by rw [e]; rfl
    rw [lp_R_rooms_85, if_neg (show ¬ (10 : Int32) ≤ nI i from nI_ge (b := 10) hi (by decide)), mm_al_105, show mm_al 130 = 10 from rfl, pp_in hi (by decide), if_pos rfl, if_pos rfl, nI_clamp (by omega), e1, nI_1, pp_let, pp_let, Nat.zero_add]
  · show lp_R_rooms_85 v3 K (m + 1) (nI 10) M' = _
    rw [lp_R_rooms_85, if_pos (by decide)]
theorem sr_rback {v3 v4 v5 : Int32} {K : mm_M → Option (Int32 × mm_M)} (M : mm_M) (h : ¬ (v3 = 10 ∧ ¬ v4 = -1)) : lp_R_rooms_160 v3 v4 v5 K mm_fu 0 M = K (mm_setR M 105 (fun j => if 0 ≤ j ∧ j < 0 + 10 then M.2.1 130 j else M.2.1 105 j)) := by
  refine pp_fill (lp := fun m v M => lp_R_rooms_160 v3 v4 v5 K m v M) (k := K) M 105 0 10 (by decide) (fun j => M.2.1 130 j) (fun i hi m M' e => ?_) (fun m M' => ?_)
  · show lp_R_rooms_160 v3 v4 v5 K (m + 1) (nI i) M' = lp_R_rooms_160 v3 v4 v5 K m (nI (i + 1)) _
    have e1 : M'.2.1 130 i = M.2.1 130 i := by rw [e]; rfl
    rw [lp_R_rooms_160, if_neg (show ¬ (10 : Int32) ≤ nI i from nI_ge (b := 10) hi (by decide)), pp_jn]
    dsimp only
    rw [mm_al_105, show mm_al 130 = 10 from rfl, pp_in hi (by decide), if_pos rfl, if_pos rfl, nI_clamp (by omega), e1, nI_1, pp_let, pp_let, Nat.zero_add]
    by_cases h3 : v3 = 10
    · rw [if_pos h3]
      by_cases h5 : v4 = -1
      · rw [if_pos h5]
      · exact absurd ⟨h3, h5⟩ h
    · rw [if_neg h3]
  · show lp_R_rooms_160 v3 v4 v5 K (m + 1) (nI 10) M' = _
    rw [lp_R_rooms_160, if_pos (by decide)]
theorem sr_rstay {v3 v4 v5 : Int32} {K : mm_M → Option (Int32 × mm_M)} (M : mm_M) (h : v3 = 10 ∧ ¬ v4 = -1) : lp_R_rooms_160 v3 v4 v5 K mm_fu 0 M = K M := by
  rw [show mm_fu = 4999 + 1 from rfl, lp_R_rooms_160, if_neg (by decide), pp_jn, if_pos h.1, if_neg h.2]
theorem r_back {M' : mm_M} (hr : rq6 S u M') (hO : oR S M') : ss_RR S (mm_setR M' 105 (fun j => if 0 ≤ j ∧ j < 0 + 10 then M'.2.1 130 j else M'.2.1 105 j)) := ⟨hr.1, fun a ha j hj => by
    by_cases e : a = 6
    · subst e
      show (mm_setR M' 105 _).2.1 105 j = _
      have hj10 : j < 10 := hj
      rw [pp_sro, if_pos (by omega), hO j hj10]
      rfl
    · rw [pp_srn (show ss_ra a ≠ 105 from fun z => e (ss_ra_inj a ha 6 (by decide) z))]
      exact hr.2 a ha j hj (fun z => e z.1)⟩
end ROOMS5
