/-! meter: the reference; both -/
theorem mm_al_133 : mm_al 133 = 24 := rfl
theorem mm_al_134 : mm_al 134 = 3 := rfl
theorem mm_al_135 : mm_al 135 = 3 := rfl
def rm_f (M M1 : mm_M) : Prop := M1.1 = M.1 ∧ (∀ o, o < 133 ∨ 135 < o → M1.2.1 o = M.2.1 o) ∧ M1.2.2 = M.2.2
theorem rm_f.rf {M : mm_M} : rm_f M M := ⟨rfl, fun _ _ => rfl, rfl⟩
theorem rm_f.tr {M M1 M2 : mm_M} (h : rm_f M M1) (h2 : rm_f M1 M2) : rm_f M M2 := ⟨h2.1.trans h.1, fun o ho => (h2.2.1 o ho).trans (h.2.1 o ho), h2.2.2.trans h.2.2⟩
theorem rm_f.a {M M1 : mm_M} (h : rm_f M M1) {o k : Nat} (ho : 133 ≤ o ∧ o ≤ 135) (v : Int32) : rm_f M (mm_setA M1 o k v) := ⟨h.1, fun i hi => by rw [ss_seta_ne (by omega)]; exact h.2.1 i hi, h.2.2⟩
theorem rm_f.r0 {M M1 : mm_M} (h : rm_f M M1) {o : Nat} (ho : 133 ≤ o ∧ o ≤ 135) (f : Nat → Int32) : rm_f M (mm_setR M1 o f) := ⟨h.1, fun i hi => by rw [ss_setr_ne (by omega)]; exact h.2.1 i hi, h.2.2⟩
theorem ss_ra_133 : ∀ a, a < 14 → ss_ra a < 133 ∨ 135 < ss_ra a := by decide
theorem rm_f.RR {S : ss_S} {M M1 : mm_M} (h : rm_f M M1) (hR : ss_RR S M) : ss_RR S M1 := ⟨fun k hk => by rw [h.1]; exact hR.1 k hk, fun a ha j hj => by rw [h.2.1 _ (ss_ra_133 a ha)]; exact hR.2 a ha j hj⟩
theorem rm_f.r {M M1 : mm_M} (h : rm_f M M1) : ss_r M M1 := ⟨fun o ho => ⟨by rw [h.1], h.2.1 o (by omega), by rw [h.2.2]⟩, fun o _ _ => h.2.1 o (by omega)⟩
def mt_ss (D : Nat → Nat → Nat) (x : Nat → Nat) (h : Nat) : Nat → Nat
  | 0 => 0
  | n + 1 => mt_ss D x h n + D (x n) h
theorem sr_comes {S : ss_S} {M : mm_M} (ho : ss_Ok S) (hR : ss_RR S M) {n : Nat} (hn : n ≤ 3) {x m : Nat → Nat} (hx : ∀ i, i < n → x i < 12 ∧ M.2.1 134 i = nI (x i)) (hm : ∀ h, h < 24 → m h ≤ 65535 ∧ M.2.1 133 h = nI (m h)) : f_R_comesToMeter (nI n) M = some (mt_ab (fun h => decide (mt_ss (mt_D S) x h n = m h)) 24, M) := by
  have hb : ∀ h i, h < 24 → i ≤ n → mt_ss (mt_D S) x h i ≤ 99 * i := by
    intro h i hh
    induction i with
    | zero => intro _; exact Nat.le_refl _
    | succ i ih =>
      intro hi
      have h1 := ih (by omega)
      have h2 := (mt_D_e ho (hx i (by omega)).1 hh).2
      rw [mt_ss]
      omega
  have inner : ∀ h, h < 24 → ∀ k, lp_R_comesToMeter_13 (nI n) (nI h) k mm_fu 0 0 M = k (nI (mt_ss (mt_D S) x h n)) M := fun h hh k => by
    refine pp_for (lp := fun q (a : Int32 × Int32 × mm_M) => lp_R_comesToMeter_13 (nI n) (nI h) k q a.1 a.2.1 a.2.2) (fun i => (nI (mt_ss (mt_D S) x h i), nI i, M)) n (by omega) (fun i hi q => ?_) (fun q => ?_)
    · show lp_R_comesToMeter_13 _ _ _ (q + 1) (nI (mt_ss (mt_D S) x h i)) (nI i) M = lp_R_comesToMeter_13 _ _ _ q (nI (mt_ss (mt_D S) x h (i + 1))) (nI (i + 1)) M
      obtain ⟨h1, h2⟩ := hx i hi
      have e : M.2.1 99 (72 * x i + h) = nI (mt_D S (x i) h) := (hR.2 1 (by decide) (72 * x i + h) (by show _ < 864; omega)).trans (mt_D_e ho h1 hh).1
      rw [lp_R_comesToMeter_13, if_neg (nI_ge hi (by omega)), mm_al_134, pp_in (by omega) (by decide), if_pos rfl, nI_clamp (by omega), h2, mm_al_99, show (72 : Int32) * nI (x i) + nI h = nI (72 * x i + h) from by rw [show (72 : Int32) = nI 72 from rfl, pp_mulN, nI_add], pp_in (by omega) (by decide), if_pos rfl, nI_clamp (by omega), e, nI_add, pp_let, nI_1, pp_let]
      rfl
    · show lp_R_comesToMeter_13 _ _ _ (q + 1) _ (nI n) M = _
      rw [lp_R_comesToMeter_13, if_pos (nI_le (Nat.le_refl _) (by omega))]
  unfold f_R_comesToMeter
  refine (pp_allq (lp := fun q v M => lp_R_comesToMeter_2 (nI n) _ _ q v M) M 24 (by decide) (fun h => decide (mt_ss (mt_D S) x h n = m h)) (some (true, M)) (some (false, M)) (fun i hi q => ?_) (fun q => ?_)).trans ?_
  · show lp_R_comesToMeter_2 _ _ _ (q + 1) _ _ = if _ then lp_R_comesToMeter_2 _ _ _ q _ _ else _
    obtain ⟨h1, h2⟩ := hm i hi
    have h3 := hb i n hi (Nat.le_refl _)
    rw [lp_R_comesToMeter_2, if_neg (show ¬ (24 : Int32) ≤ nI i from nI_ge hi (by decide)), inner i hi, mm_al_133, pp_in hi (by decide), if_pos rfl, nI_clamp (by omega), h2, nI_1, pp_let]
    by_cases hc : mt_ss (mt_D S) x i n = m i
    · rw [if_pos (by rw [hc]), if_pos (decide_eq_true hc)]
    · rw [if_neg (fun e => hc ((nI_eq (by omega) (by omega)).mp e)), if_neg (by simp [hc])]
  · show lp_R_comesToMeter_2 _ _ _ (q + 1) _ _ = _
    rw [lp_R_comesToMeter_2, if_pos (show (24 : Int32) ≤ nI 24 by decide)]
  · split
    · rename_i hc
      rw [hc]
    · rename_i hc
      rw [Bool.not_eq_true] at hc
      rw [hc]
/-- digits of a code, the highest first -/
def mt_y (n c j : Nat) : Nat := c / 12 ^ (n - 1 - j) % 12
def mt_vb (t : Nat) (D : Nat → Nat → Nat) (n : Nat) (m : Nat → Nat) (c : Nat) : Bool := (mt_ab (fun j => t.testBit (mt_y n c j)) n && mt_ab (fun j => decide (n ≤ j + 1 ∨ mt_y n c j ≤ mt_y n c (j + 1))) n) && mt_ab (fun h => decide (mt_ss D (mt_y n c) h n = m h)) 24
theorem mt_y_lt (n c j : Nat) : mt_y n c j < 12 := Nat.mod_lt _ (by decide)
theorem sr_isRow {S : ss_S} {M : mm_M} (ho : ss_Ok S) (hR : ss_RR S M) {t n c : Nat} (h1 : S.1 1 = nI t) (ht : t < 4096) (hn : n ≤ 3) (hn1 : 1 ≤ n) (hc : c < 2000) {m : Nat → Nat} (hm : ∀ h, h < 24 → m h ≤ 65535 ∧ M.2.1 133 h = nI (m h)) : ∃ M1, f_R_isMeterRow (nI n) (nI c) M = some (mt_vb t (mt_D S) n m c, M1) ∧ rm_f M M1 ∧ M1.2.1 133 = M.2.1 133 ∧ M1.2.1 135 = M.2.1 135 ∧ ∀ j, j < n → mt_vb t (mt_D S) n m c = true → M1.2.1 134 j = nI (mt_y n c j) := by
  unfold f_R_isMeterRow
  rw [pp_let]
  have hdiv : ∀ q, c / 12 ^ q / 12 = c / 12 ^ (q + 1) := fun q => by rw [Nat.div_div_eq_div_mul, Nat.pow_succ]
  have hle : ∀ q, c / 12 ^ q ≤ c := fun q => Nat.div_le_self _ _
  refine pp_ex (lp := fun q (a : Int32 × Int32 × mm_M) => lp_R_isMeterRow_7 (nI n) _ _ q a.1 a.2.1 a.2.2) (fun q a => a.1 = nI (c / 12 ^ q) ∧ a.2.1 = nI (n - q) - 1 ∧ rm_f M a.2.2 ∧ a.2.2.2.1 133 = M.2.1 133 ∧ a.2.2.2.1 135 = M.2.1 135 ∧ ∀ j, n - q ≤ j → j < n → a.2.2.2.1 134 j = nI (mt_y n c j) ∧ t.testBit (mt_y n c j) = true ∧ (n ≤ j + 1 ∨ mt_y n c j ≤ mt_y n c (j + 1))) (fun r => ∃ M1, r = some (mt_vb t (mt_D S) n m c, M1) ∧ rm_f M M1 ∧ M1.2.1 133 = M.2.1 133 ∧ M1.2.1 135 = M.2.1 135 ∧ ∀ j, j < n → mt_vb t (mt_D S) n m c = true → M1.2.1 134 j = nI (mt_y n c j)) n (by omega) (fun q a hq ha => ?_) (fun a ha k => ?_) (a := (nI c, nI n - 1, M)) ⟨by rw [Nat.pow_zero, Nat.div_one], rfl, rm_f.rf, rfl, rfl, fun j hj hj2 => by omega⟩
  · obtain ⟨v, w, M'⟩ := a
    obtain ⟨rfl, rfl, f1, f2, f3, f4⟩ := ha
    have ew : nI (n - q) - 1 = nI (n - q - 1) := pp_subN (b := 1) (by omega)
    have hlq := hle q
    have ey : mt_y n c (n - q - 1) = c / 12 ^ q % 12 := by
      unfold mt_y
      rw [show n - 1 - (n - q - 1) = q by omega]
    have hyl := mt_y_lt n c (n - q - 1)
    have erem : mm_rem (nI (c / 12 ^ q)) 12 = nI (mt_y n c (n - q - 1)) := by
      rw [ey]
      exact pp_rem (d := 12) (by omega) (by decide) (by decide)
    have ediv : nI (c / 12 ^ q) / 12 = nI (c / 12 ^ (q + 1)) := by
      rw [← hdiv]
      exact pk_div (d := 12) (by omega) (by decide) (by decide)
    generalize hM2 : mm_setA M' 134 (n - q - 1) (nI (mt_y n c (n - q - 1))) = M2
    have m2 : rm_f M M2 := by rw [← hM2]; exact f1.a (by omega) _
    have eI : M2.2.1 134 (n - q - 1) = nI (mt_y n c (n - q - 1)) := by rw [← hM2, pp_sa, if_pos ⟨rfl, rfl⟩]
    have e133 : M2.2.1 133 = M.2.1 133 := by rw [← hM2, ss_seta_ne (by omega)]; exact f2
    have e135 : M2.2.1 135 = M.2.1 135 := by rw [← hM2, ss_seta_ne (by omega)]; exact f3
    have hday := sr_isDay (m2.RR hR) ht h1 (nI (mt_y n c (n - q - 1)))
    rw [pp_has_k hyl] at hday
    have hbase : ∀ k kA kB, lp_R_isMeterRow_7 (nI n) kA kB (k + 1) (nI (c / 12 ^ q)) (nI (n - q) - 1) M' = if t.testBit (mt_y n c (n - q - 1)) = true then (if n - 1 ≤ n - q - 1 then lp_R_isMeterRow_7 (nI n) kA kB k (nI (c / 12 ^ (q + 1))) (nI (n - q - 1) + (-1)) M2 else if mt_y n c (n - q - 1) ≤ mt_y n c (n - q) then lp_R_isMeterRow_7 (nI n) kA kB k (nI (c / 12 ^ (q + 1))) (nI (n - q - 1) + (-1)) M2 else kA M2) else kA M2 := fun k kA kB => by
      rw [lp_R_isMeterRow_7, ew, if_neg (nI_pos (by omega)), mm_al_134, pp_in (by omega) (by decide), if_pos rfl, nI_clamp (by omega), erem, hM2, pp_let, ediv, pp_let, if_pos rfl, eI, hday, pp_bd]
      by_cases ht1 : t.testBit (mt_y n c (n - q - 1)) = true
      · rw [if_pos ht1, if_pos ht1, pp_jn, show nI n - 1 = nI (n - 1) from pp_subN (b := 1) (by omega)]
        by_cases hl : n - 1 ≤ n - q - 1
        · rw [if_pos (nI_le hl (by omega)), if_pos hl]
          rfl
        · have e5 : M2.2.1 134 (n - q) = nI (mt_y n c (n - q)) := by
            rw [← hM2, pp_sa, if_neg (by omega)]
            exact (f4 (n - q) (Nat.le_refl _) (by omega)).1
          have hy2 := mt_y_lt n c (n - q)
          rw [if_neg (nI_ge (by omega) (by omega)), if_neg hl, if_pos rfl, nI_1, show n - q - 1 + 1 = n - q by omega, pp_in (by omega) (by decide), if_pos rfl, nI_clamp (by omega), e5, eI]
          by_cases hs : mt_y n c (n - q - 1) ≤ mt_y n c (n - q)
          · rw [if_pos (nI_le hs (by omega)), if_pos hs]
            rfl
          · rw [if_neg (nI_ge (by omega) (by omega)), if_neg hs]
      · rw [if_neg ht1, if_neg ht1]
    have enext : nI (n - q - 1) + (-1) = nI (n - (q + 1)) - 1 := by
      rw [show n - (q + 1) = n - q - 1 by omega, Int32.sub_eq_add_neg]
    have hbad : ∀ (hx : ¬ (t.testBit (mt_y n c (n - q - 1)) = true ∧ (n - 1 ≤ n - q - 1 ∨ mt_y n c (n - q - 1) ≤ mt_y n c (n - q)))), mt_vb t (mt_D S) n m c = false := fun hx => by
      cases hv : mt_vb t (mt_D S) n m c
      · rfl
      · exfalso
        unfold mt_vb at hv
        rw [Bool.and_eq_true, Bool.and_eq_true, mt_ab_iff, mt_ab_iff] at hv
        have a1 := hv.1.1 (n - q - 1) (by omega)
        have a2 := of_decide_eq_true (hv.1.2 (n - q - 1) (by omega))
        rw [show n - q - 1 + 1 = n - q by omega] at a2
        exact hx ⟨a1, a2.elim (fun q => Or.inl (by omega)) Or.inr⟩
    by_cases hg : t.testBit (mt_y n c (n - q - 1)) = true ∧ (n - 1 ≤ n - q - 1 ∨ mt_y n c (n - q - 1) ≤ mt_y n c (n - q))
    · refine Or.inl ⟨(nI (c / 12 ^ (q + 1)), nI (n - (q + 1)) - 1, M2), ⟨rfl, rfl, m2, e133, e135, fun j hj hj2 => ?_⟩, fun k => ?_⟩
      · by_cases e : j = n - q - 1
        · rw [e]
          refine ⟨eI, hg.1, hg.2.elim (fun q => Or.inl (by omega)) (fun q2 => Or.inr ?_)⟩
          rw [show n - q - 1 + 1 = n - q by omega]
          exact q2
        · obtain ⟨b1, b2, b3⟩ := f4 j (by omega) hj2
          refine ⟨?_, b2, b3⟩
          show M2.2.1 134 j = _
          rw [← hM2, pp_sa, if_neg (fun q => e q.2)]
          exact b1
      · show lp_R_isMeterRow_7 _ _ _ (k + 1) (nI (c / 12 ^ q)) (nI (n - q) - 1) M' = _
        rw [hbase k, if_pos hg.1, enext]
        by_cases hl : n - 1 ≤ n - q - 1
        · rw [if_pos hl]
        · rw [if_neg hl, if_pos (hg.2.resolve_left hl)]
    · refine Or.inr (fun k => ?_)
      have hv := hbad hg
      refine ⟨M2, ?_, m2, e133, e135, fun j _ q => by rw [hv] at q; cases q⟩
      show lp_R_isMeterRow_7 _ _ _ (k + 1) (nI (c / 12 ^ q)) (nI (n - q) - 1) M' = _
      rw [hbase k, hv]
      by_cases ht1 : t.testBit (mt_y n c (n - q - 1)) = true
      · rw [if_pos ht1, if_neg (fun q => hg ⟨ht1, Or.inl q⟩), if_neg (fun q => hg ⟨ht1, Or.inr q⟩)]
      · rw [if_neg ht1]
  · obtain ⟨v, w, M'⟩ := a
    obtain ⟨rfl, rfl, f1, f2, f3, f4⟩ := ha
    have f4' : ∀ j, j < n → M'.2.1 134 j = nI (mt_y n c j) ∧ t.testBit (mt_y n c j) = true ∧ (n ≤ j + 1 ∨ mt_y n c j ≤ mt_y n c (j + 1)) := fun j hj => f4 j (by omega) hj
    refine ⟨M', ?_, f1, f2, f3, fun j hj _ => (f4' j hj).1⟩
    show lp_R_isMeterRow_7 _ _ _ (k + 1) _ (nI (n - n) - 1) M' = _
    rw [lp_R_isMeterRow_7, Nat.sub_self, if_pos (by decide), sr_comes ho (f1.RR hR) hn (x := mt_y n c) (m := m) (fun i hi => ⟨mt_y_lt n c i, (f4' i hi).1⟩) (fun h hh => ⟨(hm h hh).1, by rw [show M'.2.1 133 = M.2.1 133 from f2]; exact (hm h hh).2⟩), pp_bd]
    have a1 : mt_ab (fun j => t.testBit (mt_y n c j)) n = true := mt_ab_iff.mpr (fun j hj => (f4' j hj).2.1)
    have a2 : mt_ab (fun j => decide (n ≤ j + 1 ∨ mt_y n c j ≤ mt_y n c (j + 1))) n = true := mt_ab_iff.mpr (fun j hj => decide_eq_true (f4' j hj).2.2)
    unfold mt_vb
    rw [a1, a2, Bool.and_self, Bool.true_and]
/-- both ways to read a code are one -/
theorem mt_vy {t : Nat} {D : Nat → Nat → Nat} {n c : Nat} {m row : Nat → Nat} (hn : n ≤ 3) (hn1 : 1 ≤ n) (hc : c < 12 ^ n) : mt_vb t D n m c = mt_v t D n 0 m c ∧ ∀ j, j < n → mt_e n n row c j = mt_y n c j := by
  have h3 : n = 1 ∨ n = 2 ∨ n = 3 := by omega
  rcases h3 with rfl | rfl | rfl
  · have hc : c < 12 := hc
    have y0 : mt_y 1 c 0 = c := by
      show c / 12 ^ 0 % 12 = c
      rw [Nat.pow_zero, Nat.div_one, Nat.mod_eq_of_lt hc]
    refine ⟨?_, fun j hj => ?_⟩
    · rw [Bool.eq_iff_iff]
      unfold mt_vb
      rw [mt_v, mt_v]
      simp only [Bool.and_eq_true, mt_ab_iff, decide_eq_true_eq, mt_in_iff, mt_z_iff, Nat.pow_zero, Nat.div_one]
      constructor
      · rintro ⟨⟨a1, a2⟩, a3⟩
        have b1 := a1 0 (by decide)
        rw [y0] at b1
        have a3' : ∀ h, h < 24 → D c h = m h := fun h hh => by
          have := a3 h hh
          rw [mt_ss, mt_ss, y0] at this
          omega
        exact ⟨⟨Nat.zero_le _, b1, fun h hh => Nat.le_of_eq (a3' h hh)⟩, fun h hh => by rw [a3' h hh]; exact Nat.sub_self _⟩
      · rintro ⟨⟨-, b1, b2⟩, b3⟩
        refine ⟨⟨fun j hj => ?_, fun j hj => Or.inl (by omega)⟩, fun h hh => ?_⟩
        · have : j = 0 := by omega
          rw [this, y0]; exact b1
        · rw [mt_ss, mt_ss, y0]
          have := b2 h hh
          have := b3 h hh
          omega
    · have : j = 0 := by omega
      subst this
      rw [y0, mt_e, mt_e]
      show (if 0 = 1 - (0 + 1) then c / 12 ^ 0 else row 0) = c
      rw [if_pos rfl, Nat.pow_zero, Nat.div_one]
  · have hc : c < 144 := hc
    have y0 : mt_y 2 c 0 = c / 12 := by
      show c / 12 ^ 1 % 12 = c / 12
      rw [Nat.pow_one]; omega
    have y1 : mt_y 2 c 1 = c % 12 := by
      show c / 12 ^ 0 % 12 = c % 12
      rw [Nat.pow_zero, Nat.div_one]
    refine ⟨?_, fun j hj => ?_⟩
    · rw [Bool.eq_iff_iff]
      unfold mt_vb
      rw [mt_v, mt_v, mt_v]
      simp only [Bool.and_eq_true, mt_ab_iff, decide_eq_true_eq, mt_in_iff, mt_z_iff, Nat.pow_zero, Nat.div_one, Nat.pow_one]
      constructor
      · rintro ⟨⟨a1, a2⟩, a3⟩
        have b0 := a1 0 (by decide)
        have b1 := a1 1 (by decide)
        rw [y0] at b0
        rw [y1] at b1
        have s0 := (a2 0 (by decide)).resolve_left (by omega)
        rw [y0, y1] at s0
        have a3' : ∀ h, h < 24 → D (c / 12) h + D (c % 12) h = m h := fun h hh => by
          have := a3 h hh
          rw [mt_ss, mt_ss, mt_ss, y0, y1] at this
          omega
        exact ⟨⟨Nat.zero_le _, b0, fun h hh => by have := a3' h hh; omega⟩, ⟨s0, b1, fun h hh => by have := a3' h hh; omega⟩, fun h hh => by have := a3' h hh; omega⟩
      · rintro ⟨⟨-, b0, b2⟩, ⟨s0, b1, b3⟩, b4⟩
        refine ⟨⟨fun j hj => ?_, fun j hj => ?_⟩, fun h hh => ?_⟩
        · have : j = 0 ∨ j = 1 := by omega
          rcases this with rfl | rfl
          · rw [y0]; exact b0
          · rw [y1]; exact b1
        · have : j = 0 ∨ j = 1 := by omega
          rcases this with rfl | rfl
          · rw [y0, y1]; exact Or.inr s0
          · exact Or.inl (by omega)
        · rw [mt_ss, mt_ss, mt_ss, y0, y1]
          have := b2 h hh
          have := b3 h hh
          have := b4 h hh
          omega
    · have : j = 0 ∨ j = 1 := by omega
      rcases this with rfl | rfl
      · rw [y0, mt_e, mt_e, mt_e]
        show (if 0 = 1 then _ else if 0 = 0 then c / 12 ^ 1 else row 0) = c / 12
        rw [if_neg (by decide), if_pos rfl, Nat.pow_one]
      · rw [y1, mt_e, mt_e, mt_e]
        show (if 1 = 1 then c % 12 ^ 1 / 12 ^ 0 else _) = c % 12
        rw [if_pos rfl, Nat.pow_one, Nat.pow_zero, Nat.div_one]
  · have hc : c < 1728 := hc
    have y0 : mt_y 3 c 0 = c / 144 := by
      show c / 144 % 12 = c / 144
      omega
    have y1 : mt_y 3 c 1 = c % 144 / 12 := by
      show c / 12 % 12 = c % 144 / 12
      omega
    have y2 : mt_y 3 c 2 = c % 144 % 12 := by
      show c / 12 ^ 0 % 12 = c % 144 % 12
      rw [Nat.pow_zero, Nat.div_one]
      omega
    have p2 : 12 ^ 2 = 144 := rfl
    refine ⟨?_, fun j hj => ?_⟩
    · rw [Bool.eq_iff_iff]
      unfold mt_vb
      rw [mt_v, mt_v, mt_v, mt_v]
      simp only [Bool.and_eq_true, mt_ab_iff, decide_eq_true_eq, mt_in_iff, mt_z_iff, Nat.pow_zero, Nat.div_one, Nat.pow_one, p2]
      constructor
      · rintro ⟨⟨a1, a2⟩, a3⟩
        have b0 := a1 0 (by decide)
        have b1 := a1 1 (by decide)
        have b2 := a1 2 (by decide)
        rw [y0] at b0
        rw [y1] at b1
        rw [y2] at b2
        have s0 := (a2 0 (by decide)).resolve_left (by omega)
        have s1 := (a2 1 (by decide)).resolve_left (by omega)
        rw [y0, y1] at s0
        rw [y1, y2] at s1
        have a3' : ∀ h, h < 24 → D (c / 144) h + D (c % 144 / 12) h + D (c % 144 % 12) h = m h := fun h hh => by
          have := a3 h hh
          rw [mt_ss, mt_ss, mt_ss, mt_ss, y0, y1, y2] at this
          omega
        exact ⟨⟨Nat.zero_le _, b0, fun h hh => by have := a3' h hh; omega⟩, ⟨s0, b1, fun h hh => by have := a3' h hh; omega⟩, ⟨s1, b2, fun h hh => by have := a3' h hh; omega⟩, fun h hh => by have := a3' h hh; omega⟩
      · rintro ⟨⟨-, b0, r0⟩, ⟨s0, b1, r1⟩, ⟨s1, b2, r2⟩, r3⟩
        refine ⟨⟨fun j hj => ?_, fun j hj => ?_⟩, fun h hh => ?_⟩
        · have : j = 0 ∨ j = 1 ∨ j = 2 := by omega
          rcases this with rfl | rfl | rfl
          · rw [y0]; exact b0
          · rw [y1]; exact b1
          · rw [y2]; exact b2
        · have : j = 0 ∨ j = 1 ∨ j = 2 := by omega
          rcases this with rfl | rfl | rfl
          · rw [y0, y1]; exact Or.inr s0
          · rw [y1, y2]; exact Or.inr s1
          · exact Or.inl (by omega)
        · rw [mt_ss, mt_ss, mt_ss, mt_ss, y0, y1, y2]
          have := r0 h hh
          have := r1 h hh
          have := r2 h hh
          have := r3 h hh
          omega
    · have : j = 0 ∨ j = 1 ∨ j = 2 := by omega
      rcases this with rfl | rfl | rfl
      · rw [y0, mt_e, mt_e, mt_e, mt_e]
        show (if 0 = 2 then _ else if 0 = 1 then _ else if 0 = 0 then c / 144 else row 0) = c / 144
        rw [if_neg (by decide), if_neg (by decide), if_pos rfl]
      · rw [y1, mt_e, mt_e, mt_e, mt_e]
        show (if 1 = 2 then _ else if 1 = 1 then c % 144 / 12 else _) = c % 144 / 12
        rw [if_neg (by decide), if_pos rfl]
      · rw [y2, mt_e, mt_e, mt_e, mt_e]
        show (if 2 = 2 then c % 144 % 12 / 12 ^ 0 else _) = c % 144 % 12
        rw [if_pos rfl, Nat.pow_zero, Nat.div_one]
