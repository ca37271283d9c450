/-! a day's parts -/
section DAYPARTS
variable {S : ss_S} {n p : Nat} {M M1 M2 : mm_M}
def tx_kd (c : Nat) : Nat := if c = 114 then 0 else if c = 119 then 1 else 2
def tx_pb (S : ss_S) (n p : Nat) : (Nat × Nat) ⊕ (Nat × Nat × Nat × Nat) :=
  match tx_hr S n 0 99 40 p with
  | .inl e => .inl e
  | .inr (a, q) => match tx_hr S n 0 23 45 q with
    | .inl e => .inl e
    | .inr (f, q2) => match tx_hr S n (f + 1) 24 41 q2 with
      | .inl e => .inl e
      | .inr (t, q3) => .inr (a, f, t, q3)
theorem tx_pb_1 {e : Nat × Nat} (h : tx_hr S n 0 99 40 p = .inl e) : tx_pb S n p = .inl e := by simp only [tx_pb, h]
theorem tx_pb_2 {e : Nat × Nat} {a q : Nat} (h : tx_hr S n 0 99 40 p = .inr (a, q)) (h2 : tx_hr S n 0 23 45 q = .inl e) : tx_pb S n p = .inl e := by simp only [tx_pb, h, h2]
theorem tx_pb_3 {e : Nat × Nat} {a q f q2 : Nat} (h : tx_hr S n 0 99 40 p = .inr (a, q)) (h2 : tx_hr S n 0 23 45 q = .inr (f, q2)) (h3 : tx_hr S n (f + 1) 24 41 q2 = .inl e) : tx_pb S n p = .inl e := by simp only [tx_pb, h, h2, h3]
theorem tx_pb_4 {a q f q2 t q3 : Nat} (h : tx_hr S n 0 99 40 p = .inr (a, q)) (h2 : tx_hr S n 0 23 45 q = .inr (f, q2)) (h3 : tx_hr S n (f + 1) 24 41 q2 = .inr (t, q3)) : tx_pb S n p = .inr (a, f, t, q3) := by simp only [tx_pb, h, h2, h3]
def tx_part (S : ss_S) (n k p : Nat) : (Nat × Nat) ⊕ (Nat × Nat × Nat × Nat × Nat) :=
  if tx_g S n p = 114 ∨ tx_g S n p = 119 ∨ tx_g S n p = 108 then
    if 14 ≤ k then .inl (4, p) else
    match tx_pb S n (p + 1) with
    | .inl e => .inl e
    | .inr (a, f, t, q) => .inr (tx_kd (tx_g S n p), a, f, t, q)
  else .inl (1, p)
def tx_add (D : Nat → Nat) (b f t a j : Nat) : Nat := if b + f ≤ j ∧ j < b + t then min 99 (D j + a) else D j
theorem tx_add_le {D : Nat → Nat} (h : ∀ j, D j ≤ 99) (b f t a j : Nat) : tx_add D b f t a j ≤ 99 := by
  unfold tx_add
  split
  · omega
  · exact h j
/-- what a class's part may change, and the reference's -/
def dfr (M M1 : mm_M) : Prop := M1.2.2 = M.2.2 ∧ (∀ o, o ≠ 18 → M1.2.1 o = M.2.1 o) ∧ ∀ o, o ≠ 3 → M1.1 o = M.1 o
def rfr (M M1 : mm_M) : Prop := M1.2.2 = M.2.2 ∧ (∀ o, o ≠ 100 → M1.2.1 o = M.2.1 o) ∧ ∀ o q, ¬ (o = 97 ∧ 2 ≤ q ∧ q ≤ 5) → M1.1 o q = M.1 o q
theorem dfr.tr (h : dfr M M1) (h2 : dfr M1 M2) : dfr M M2 := ⟨h2.1.trans h.1, fun o ho => (h2.2.1 o ho).trans (h.2.1 o ho), fun o ho => (h2.2.2 o ho).trans (h.2.2 o ho)⟩
theorem rfr.tr (h : rfr M M1) (h2 : rfr M1 M2) : rfr M M2 := ⟨h2.1.trans h.1, fun o ho => (h2.2.1 o ho).trans (h.2.1 o ho), fun o q ho => (h2.2.2 o q ho).trans (h.2.2 o q ho)⟩
theorem tf.d (h : tf M M1) : dfr M M1 := ⟨by rw [h.1], fun o _ => by rw [h.1], h.2⟩
theorem rx.d (h : rx M M1) : rfr M M1 := ⟨by rw [h.1], fun o _ => by rw [h.1], h.2⟩
theorem dfr.w {f : Nat → Int32} (h : dfr M M1) : dfr M (mm_setR M1 18 f) := ⟨h.1, fun o ho => (ss_setr_ne ho).trans (h.2.1 o ho), h.2.2⟩
theorem rfr.w {f : Nat → Int32} (h : rfr M M1) : rfr M (mm_setR M1 100 f) := ⟨h.1, fun o ho => (ss_setr_ne ho).trans (h.2.1 o ho), h.2.2⟩
theorem ss_ao_18 : ∀ a, a < 14 → ss_ao a ≠ 18 := by decide
theorem ss_ra_100 : ∀ a, a < 14 → ss_ra a ≠ 100 := by decide
theorem ss_ha_18 {a j : Nat} (ha : a < 14) (hj : j < ss_len a) : (ss_ha a j).1 ≠ 18 := by
  unfold ss_ha
  by_cases h1 : a = 1
  · subst h1
    have hj : j < 864 := hj
    rw [if_pos rfl]
    show 6 + j / 72 ≠ 18
    omega
  · rw [if_neg h1]
    exact ss_ao_18 a ha
theorem dfr.RH (h : dfr M M1) (hH : ss_RH S M) : ss_RH S M1 := ⟨fun k hk => by rw [h.2.2 _ (ss_so_3 k hk)]; exact hH.1 k hk, fun a ha j hj => by rw [h.2.1 _ (ss_ha_18 ha hj)]; exact hH.2 a ha j hj⟩
theorem rfr.RR (h : rfr M M1) (hR : ss_RR S M) : ss_RR S M1 := ⟨fun k hk => by rw [h.2.2 _ _ (ss_ro_x k hk)]; exact hR.1 k hk, fun a ha j hj => by rw [h.2.1 _ (ss_ra_100 a ha)]; exact hR.2 a ha j hj⟩
theorem dfr.h (h : dfr M M1) : ss_h M M1 := ⟨fun o ho => ⟨h.2.2 o (by omega), h.2.1 o (by omega), by rw [h.1]⟩, fun o _ _ => h.2.1 o (by omega)⟩
theorem rfr.r (h : rfr M M1) : ss_r M M1 := ⟨fun o ho => ⟨by funext q; exact h.2.2 o q (by omega), h.2.1 o (by omega), by rw [h.1]⟩, fun o _ _ => h.2.1 o (by omega)⟩
theorem tx_H.w {f : Nat → Int32} (h : tx_H S n p M) : tx_H S n p (mm_setR M 18 f) := ⟨(dfr.w (tf.rf.d)).RH h.1, h.2⟩
theorem tx_R.w {f : Nat → Int32} (h : tx_R S n p M) : tx_R S n p (mm_setR M 100 f) := ⟨(rfr.w (rx.rf.d)).RR h.1, h.2⟩
theorem tx_mn {D : Nat → Nat} (hD : ∀ j, D j ≤ 99) {a j : Nat} (ha : a ≤ 99) : pp_mn 99 (nI (D j) + nI a) = nI (min 99 (D j + a)) := by
  have := hD j
  rw [nI_add, show (99 : Int32) = nI 99 from rfl, pp_mnN (by omega) (by omega)]
theorem sh_row (M : mm_M) {D : Nat → Nat} (hD2 : ∀ j, D j ≤ 99) (hD : ∀ j, j < 72 → M.2.1 18 j = nI (D j)) {kd a f t : Nat} (hk : kd < 3) (ha : a ≤ 99) (hf : f ≤ t) (ht : t ≤ 24) (k : mm_M → Option (Bool × mm_M)) : lp_Days_readPart_144 (nI kd) (nI a) (nI t) k mm_fu (nI kd * 24 + nI f) M = k (mm_setR M 18 (fun j => if 24 * kd + f ≤ j ∧ j < 24 * kd + t then nI (min 99 (D j + a)) else M.2.1 18 j)) := by
  rw [show (24 : Int32) = nI 24 from rfl, pp_mulN, nI_add, show kd * 24 + f = 24 * kd + f by omega]
  have e0 : mm_setR M 18 (fun j => if 24 * kd + f ≤ j ∧ j < 24 * kd + f then nI (min 99 (D j + a)) else M.2.1 18 j) = M := pp_sr_if (fun q => if_neg (by omega))
  have := pp_forj (lp := fun m (x : Int32 × mm_M) => lp_Days_readPart_144 (nI kd) (nI a) (nI t) k m x.1 x.2) (fun i => (nI i, mm_setR M 18 (fun j => if 24 * kd + f ≤ j ∧ j < i then nI (min 99 (D j + a)) else M.2.1 18 j))) (24 * kd + f) (24 * kd + t) (by omega) (by omega) (fun i hi1 hi2 m => by
    show lp_Days_readPart_144 (nI kd) (nI a) (nI t) k (m + 1) (nI i) _ = lp_Days_readPart_144 (nI kd) (nI a) (nI t) k m (nI (i + 1)) _
    rw [lp_Days_readPart_144, show (24 : Int32) = nI 24 from rfl, pp_mulN, nI_add, if_neg (nI_ge (by omega) (by omega)), show mm_al 18 = 72 from rfl, pp_in (by omega) (by decide), if_pos rfl, nI_clamp (by omega)]
    dsimp only
    rw [pp_sro, if_neg (by omega), hD i (by omega), sh_min, pp_bd, if_pos rfl, tx_mn hD2 ha, nI_1, pp_let, pp_let, pp_sasr]
    congr 2
    funext j
    by_cases h1 : j = i
    · rw [if_pos h1, if_pos (by omega), h1]
    · rw [if_neg h1]
      by_cases h2 : 24 * kd + f ≤ j ∧ j < i
      · rw [if_pos h2, if_pos (by omega)]
      · rw [if_neg h2, if_neg (by omega)]) (r := k (mm_setR M 18 (fun j => if 24 * kd + f ≤ j ∧ j < 24 * kd + t then nI (min 99 (D j + a)) else M.2.1 18 j))) (fun m => by
    show lp_Days_readPart_144 (nI kd) (nI a) (nI t) k (m + 1) (nI (24 * kd + t)) _ = _
    rw [lp_Days_readPart_144, show (24 : Int32) = nI 24 from rfl, pp_mulN, nI_add, if_pos (nI_le (by omega) (by omega))])
  have t2 : lp_Days_readPart_144 (nI kd) (nI a) (nI t) k mm_fu (nI (24 * kd + f)) (mm_setR M 18 (fun j => if 24 * kd + f ≤ j ∧ j < 24 * kd + f then nI (min 99 (D j + a)) else M.2.1 18 j)) = _ := this
  rw [e0] at t2
  exact t2
theorem sr_row (M : mm_M) {D : Nat → Nat} (hD2 : ∀ j, D j ≤ 99) (hD : ∀ j, j < 72 → M.2.1 100 j = nI (D j)) {kd a f t : Nat} (hk : kd < 3) (ha : a ≤ 99) (hf : f ≤ t) (ht : t ≤ 24) (h5 : M.1 97 5 = nI t) (k : mm_M → Option (Bool × mm_M)) : lp_R_readsPart_151 (nI kd) (nI a) k mm_fu (nI f) M = k (mm_setR M 100 (fun j => if 24 * kd + f ≤ j ∧ j < 24 * kd + t then nI (min 99 (D j + a)) else M.2.1 100 j)) := by
  have e0 : mm_setR M 100 (fun j => if 24 * kd + f ≤ j ∧ j < 24 * kd + f then nI (min 99 (D j + a)) else M.2.1 100 j) = M := pp_sr_if (fun q => if_neg (by omega))
  have := pp_forj (lp := fun m (x : Int32 × mm_M) => lp_R_readsPart_151 (nI kd) (nI a) k m x.1 x.2) (fun i => (nI i, mm_setR M 100 (fun j => if 24 * kd + f ≤ j ∧ j < 24 * kd + i then nI (min 99 (D j + a)) else M.2.1 100 j))) f t hf (by omega) (fun i hi1 hi2 m => by
    show lp_R_readsPart_151 (nI kd) (nI a) k (m + 1) (nI i) _ = lp_R_readsPart_151 (nI kd) (nI a) k m (nI (i + 1)) _
    rw [lp_R_readsPart_151, pp_sr1, h5, show (24 : Int32) = nI 24 from rfl, pp_mulN, nI_add, if_neg (nI_ge (by omega) (by omega)), show mm_al 100 = 72 from rfl, pp_in (by omega) (by decide), if_pos rfl, nI_clamp (by omega)]
    dsimp only
    rw [pp_sro, if_neg (by omega), hD _ (by omega), sr_min, pp_bd, if_pos rfl, tx_mn hD2 ha, nI_1, pp_let, pp_let, pp_sasr]
    congr 2
    funext j
    by_cases h1 : j = 24 * kd + i
    · rw [if_pos h1, if_pos (by omega), h1]
    · rw [if_neg h1]
      by_cases h2 : 24 * kd + f ≤ j ∧ j < 24 * kd + i
      · rw [if_pos h2, if_pos (by omega)]
      · rw [if_neg h2, if_neg (by omega)]) (r := k (mm_setR M 100 (fun j => if 24 * kd + f ≤ j ∧ j < 24 * kd + t then nI (min 99 (D j + a)) else M.2.1 100 j))) (fun m => by
    show lp_R_readsPart_151 (nI kd) (nI a) k (m + 1) (nI t) _ = _
    rw [lp_R_readsPart_151, pp_sr1, h5, if_pos (nI_le (by omega) (by omega))])
  have t2 : lp_R_readsPart_151 (nI kd) (nI a) k mm_fu (nI f) (mm_setR M 100 (fun j => if 24 * kd + f ≤ j ∧ j < 24 * kd + f then nI (min 99 (D j + a)) else M.2.1 100 j)) = _ := this
  rw [e0] at t2
  exact t2
theorem tx_kd_lt (c : Nat) : tx_kd c < 3 := by
  unfold tx_kd
  split
  · decide
  · split <;> decide
theorem tx_ix3 (c : Nat) : pp_ix [114, 119, 108] c 0 = if c = 114 ∨ c = 119 ∨ c = 108 then nI (tx_kd c) else -1 := by
  unfold tx_kd
  rw [pp_ix, pp_ix, pp_ix, pp_ix]
  by_cases h1 : c = 114
  · rw [if_pos h1, if_pos (Or.inl h1), if_pos h1]
  · rw [if_neg h1, if_neg h1]
    by_cases h2 : c = 119
    · rw [if_pos h2, if_pos (Or.inr (Or.inl h2)), if_pos h2]
    · rw [if_neg h2, if_neg h2]
      by_cases h3 : c = 108
      · rw [if_pos h3, if_pos (Or.inr (Or.inr h3))]
      · rw [if_neg h3, if_neg (fun q => by rcases q with q | q | q <;> contradiction)]
theorem sh_part (ho : ss_Ok S) (hn : n ≤ 200) (hp : p ≤ n) {k : Nat} (hk : k ≤ 14) {D : Nat → Nat} (hD2 : ∀ j, D j ≤ 99) (hD : ∀ j, j < 72 → M.2.1 18 j = nI (D j)) (h : tx_H S n p M) :
    (∃ w q M1, tx_part S n k p = .inl (w, q) ∧ w ≤ 4 ∧ q ≤ n ∧ f_Days_readPart (nI k) M = some (false, M1) ∧ M1.1 3 4 = ft w q ∧ dfr M M1) ∨
    (∃ kd a f t q M1, tx_part S n k p = .inr (kd, a, f, t, q) ∧ k < 14 ∧ q ≤ n ∧ f_Days_readPart (nI k) M = some (true, M1) ∧ tx_H S n q M1 ∧ (∀ j, j < 72 → M1.2.1 18 j = nI (tx_add D (24 * kd) f t a j)) ∧ dfr M M1) := by
  unfold tx_part f_Days_readPart
  rw [sh_among_140 ho hn h, pp_bd, tx_ix3]
  by_cases hc : tx_g S n p = 114 ∨ tx_g S n p = 119 ∨ tx_g S n p = 108
  · have hkd := tx_kd_lt (tx_g S n p)
    have hpn : p < n := tx_g_in (c := tx_g S n p) rfl (fun q => by rw [q] at hc; omega)
    rw [if_pos hc, if_pos hc, if_neg (tx_ne (by omega))]
    generalize tx_kd (tx_g S n p) = kd at hkd
    by_cases h14 : 14 ≤ k
    · obtain ⟨M1, g1, g2, g3⟩ := sh_fail h 4
      rw [if_pos h14, if_neg (show ¬ nI k < 14 from nI_nlt (b := 14) h14 (by omega)), show f_TextReader_failHere 4 M = _ from g1, pp_bd]
      exact Or.inl ⟨_, _, _, rfl, by decide, hp, rfl, g2, g3.d⟩
    · obtain ⟨M1, g1, g2, g3⟩ := sh_step1 ho hn (show p < 300 by omega) h
      rw [if_neg h14, if_pos (show nI k < 14 from nI_lt (b := 14) (by omega) (by decide)), g1, pp_bd]
      rcases sh_two ho hn (show p + 1 ≤ n by omega) (c := 40) (by decide) g2 (fun r_5 M_8 => mm_bd (f_Days_readHour 0 23 M_8) fun r_9 M_10 => if r_9 = (-1) then some (false, M_10) else mm_bd (f_TextReader_take 45 M_10) fun b_11 M_12 => if b_11 = true then mm_bd (f_Days_readHour (r_9 + 1) 24 M_12) fun r_13 M_14 => if r_13 = (-1) then some (false, M_14) else mm_bd (f_TextReader_take 41 M_14) fun b_15 M_16 => if b_15 = true then mm_let ((nI kd * 24) + r_9) fun v6_17 => lp_Days_readPart_144 (nI kd) r_5 r_13 (fun (M_22 : mm_M) => some (true, M_22)) mm_fu v6_17 M_16 else some (false, M_16) else some (false, M_12)) with ⟨w, q, M2, e1, e2, e3, e4, e5, e6⟩ | ⟨a, q, M2, e1, e2, e3, e4, e5, e6⟩
      · rw [tx_pb_1 e1]
        exact Or.inl ⟨w, q, M2, rfl, e2, e3, e4, e5, (g3.tr e6).d⟩
      · rcases sh_hr ho hn e3 (lo := 0) (hi := 23) (c := 45) (by decide) (by decide) (by decide) e5 (fun r_9 M_12 => mm_bd (f_Days_readHour (r_9 + 1) 24 M_12) fun r_13 M_14 => if r_13 = (-1) then some (false, M_14) else mm_bd (f_TextReader_take 41 M_14) fun b_15 M_16 => if b_15 = true then mm_let ((nI kd * 24) + r_9) fun v6_17 => lp_Days_readPart_144 (nI kd) (nI a) r_13 (fun (M_22 : mm_M) => some (true, M_22)) mm_fu v6_17 M_16 else some (false, M_16)) with ⟨w, q2, M3, d1, d2, d3, d4, d5, d6⟩ | ⟨f, q2, M3, d1, d2, d2', d3, d4, d5, d6⟩
        · rw [tx_pb_2 e1 d1]
          exact Or.inl ⟨w, q2, M3, rfl, d2, d3, e4.trans d4, d5, ((g3.tr e6).tr d6).d⟩
        · rcases sh_hr ho hn d3 (lo := f + 1) (hi := 24) (c := 41) (by omega) (by decide) (by decide) d5 (fun r_13 M_16 => mm_let ((nI kd * 24) + nI f) fun v6_17 => lp_Days_readPart_144 (nI kd) (nI a) r_13 (fun (M_22 : mm_M) => some (true, M_22)) mm_fu v6_17 M_16) with ⟨w, q3, M4, c1, c2, c3, c4, c5, c6⟩ | ⟨t, q3, M4, c1, c2, c2', c3, c4, c5, c6⟩
          · rw [tx_pb_3 e1 d1 c1]
            refine Or.inl ⟨w, q3, M4, rfl, c2, c3, e4.trans (d4.trans ?_), c5, (((g3.tr e6).tr d6).tr c6).d⟩
            rw [nI_1]
            exact c4
          · have hf4 := ((g3.tr e6).tr d6).tr c6
            have hD4 : ∀ j, j < 72 → M4.2.1 18 j = nI (D j) := fun j hj => by rw [hf4.1]; exact hD j hj
            rw [tx_pb_4 e1 d1 c1]
            refine Or.inr ⟨kd, a, f, t, q3, mm_setR M4 18 (fun j => if 24 * kd + f ≤ j ∧ j < 24 * kd + t then nI (min 99 (D j + a)) else M4.2.1 18 j), rfl, by omega, c3, e4.trans (d4.trans ?_), c5.w, ?_, hf4.d.w⟩
            · rw [nI_1]
              refine c4.trans ?_
              rw [pp_let, sh_row M4 hD2 hD4 hkd e2 (by omega) c2']
            · intro j hj
              rw [pp_sro]
              unfold tx_add
              split
              · rfl
              · exact hD4 j hj
  · obtain ⟨M1, g1, g2, g3⟩ := sh_fail h 1
    rw [if_neg hc, if_neg hc, if_pos rfl, show f_TextReader_failHere 1 M = _ from g1, pp_bd]
    exact Or.inl ⟨_, _, _, rfl, by decide, hp, rfl, g2, g3.d⟩
end DAYPARTS
