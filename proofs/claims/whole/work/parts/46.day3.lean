/-! a day's parts, the reference; both to the end -/
section DAYREF
variable {S : ss_S} {n p : Nat} {M M1 M2 : mm_M}
theorem sr_partb (ho : ss_Ok S) (hn : n ≤ 200) (hp : p ≤ n) {kd : Nat} (hkd : kd < 3) {D : Nat → Nat} (hD2 : ∀ j, D j ≤ 99) (hD : ∀ j, j < 72 → M.2.1 100 j = nI (D j)) (h : tx_R S n p M) {s0 : Int32} (hs : s0 = nI kd) :
    ∃ E, E = (mm_bd (f_R_readsTwo M) fun b_6 M_7 => if b_6 = true then mm_let (M_7.1 97 5) fun v4_8 => mm_bd (f_R_takes 40 M_7) fun b_9 M_10 => if b_9 = true then mm_bd (f_R_readsHour 0 23 M_10) fun b_11 M_12 => if b_11 = true then mm_let (M_12.1 97 5) fun v5_13 => mm_bd (f_R_takes 45 M_12) fun b_14 M_15 => if b_14 = true then mm_bd (f_R_readsHour (v5_13 + 1) 24 M_15) fun b_16 M_17 => if b_16 = true then lp_R_readsPart_151 s0 v4_8 (fun (M_22 : mm_M) => mm_bd (f_R_takes 41 M_22) fun b_23 M_24 => some (b_23, M_24)) mm_fu v5_13 M_17 else some (false, M_17) else some (false, M_15) else some (false, M_12) else some (false, M_10) else some (false, M_7)) ∧
    ((∃ w q M1, tx_pb S n p = .inl (w, q) ∧ E = some (false, M1) ∧ M1.1 97 4 = ft w q ∧ rfr M M1) ∨
    (∃ a f t q M1, tx_pb S n p = .inr (a, f, t, q) ∧ q ≤ n ∧ E = some (true, M1) ∧ tx_R S n q M1 ∧ (∀ j, j < 72 → M1.2.1 100 j = nI (tx_add D (24 * kd) f t a j)) ∧ rfr M M1)) := by
  subst hs
  refine ⟨_, rfl, ?_⟩
  generalize hE : (mm_bd (f_R_readsTwo M) _) = E
  rcases sr_two ho hn hp (c := 40) (by decide) (by decide) h (fun v4_8 M_10 => mm_bd (f_R_readsHour 0 23 M_10) fun b_11 M_12 => if b_11 = true then mm_let (M_12.1 97 5) fun v5_13 => mm_bd (f_R_takes 45 M_12) fun b_14 M_15 => if b_14 = true then mm_bd (f_R_readsHour (v5_13 + 1) 24 M_15) fun b_16 M_17 => if b_16 = true then lp_R_readsPart_151 (nI kd) v4_8 (fun (M_22 : mm_M) => mm_bd (f_R_takes 41 M_22) fun b_23 M_24 => some (b_23, M_24)) mm_fu v5_13 M_17 else some (false, M_17) else some (false, M_15) else some (false, M_12)) with ⟨w, q, M2, e1, e4, e5, e6⟩ | ⟨a, q, M2, e1, e2, e3, e4, e5, e6⟩
  · rw [tx_pb_1 e1]
    exact Or.inl ⟨w, q, M2, rfl, hE.symm.trans e4, e5, e6.d⟩
  · rcases sr_hr ho hn e3 (lo := 0) (hi := 23) (c := 45) (by decide) (by decide) (by decide) (by decide) e5 (fun v5_13 M_15 => mm_bd (f_R_readsHour (v5_13 + 1) 24 M_15) fun b_16 M_17 => if b_16 = true then lp_R_readsPart_151 (nI kd) (nI a) (fun (M_22 : mm_M) => mm_bd (f_R_takes 41 M_22) fun b_23 M_24 => some (b_23, M_24)) mm_fu v5_13 M_17 else some (false, M_17)) with ⟨w, q2, M3, d1, d4, d5, d6⟩ | ⟨f, q2, M3, d1, d2, d2', d3, d4, d5, d6⟩
    · rw [tx_pb_2 e1 d1]
      exact Or.inl ⟨w, q2, M3, rfl, hE.symm.trans (e4.trans d4), d5, (e6.tr d6).d⟩
    · obtain ⟨M4, c1, c2⟩ := sr_hour ho hn d3 (lo := f + 1) (hi := 24) (by omega) (by decide) d5
      obtain ⟨n1, n2⟩ := tx_n2 (S := S) d3
      have hx : tx_hr S n (f + 1) 24 41 q2 = if tx_d (tx_g S n q2) = true then if f + 1 ≤ (tx_n S n 2 0 q2).1 ∧ (tx_n S n 2 0 q2).1 ≤ 24 then if tx_g S n (tx_n S n 2 0 q2).2 = 41 then .inr ((tx_n S n 2 0 q2).1, (tx_n S n 2 0 q2).2 + 1) else .inl (1, (tx_n S n 2 0 q2).2) else .inl (3, q2) else .inl (1, q2) := rfl
      have hf4 := (e6.tr d6).tr c1
      have hD4 : ∀ j, j < 72 → M4.2.1 100 j = nI (D j) := fun j hj => by rw [hf4.1]; exact hD j hj
      have e4' : E = _ := hE.symm.trans (e4.trans d4)
      rw [nI_1] at e4'
      rw [e4']
      by_cases hd : tx_d (tx_g S n q2) = true
      · rw [if_pos hd] at c2 hx
        generalize tx_n S n 2 0 q2 = e at c2 n1 n2 hx
        by_cases hr : f + 1 ≤ e.1 ∧ e.1 ≤ 24
        · rw [if_pos hr] at c2 hx
          by_cases h3 : tx_d (tx_g S n e.2) = true
          · rw [if_pos h3] at c2
            rw [if_neg (fun q => by rw [q] at h3; exact absurd h3 (by decide))] at hx
            rw [tx_pb_3 e1 d1 hx, show f_R_readsHour (nI (f + 1)) 24 M3 = _ from c2.1, pp_bd, if_neg (by decide)]
            exact Or.inl ⟨_, _, _, rfl, rfl, c2.2, hf4.d⟩
          · rw [if_neg h3] at c2
            rw [show f_R_readsHour (nI (f + 1)) 24 M3 = _ from c2.1, pp_bd, if_pos rfl, sr_row M4 hD2 hD4 hkd e2 (show f ≤ e.1 by omega) hr.2 c2.2.2]
            obtain ⟨t1, t2⟩ := sr_takes ho hn (show e.2 < 300 by omega) (c := 41) (by decide) (c2.2.1.w (f := fun j => if 24 * kd + f ≤ j ∧ j < 24 * kd + e.1 then nI (min 99 (D j + a)) else M4.2.1 100 j))
            by_cases hq : tx_g S n e.2 = 41
            · rw [if_pos hq] at hx
              rw [tx_pb_4 e1 d1 hx, show f_R_takes 41 _ = _ from t1 hq, pp_bd]
              refine Or.inr ⟨_, _, _, _, _, rfl, tx_g_in hq (by decide), rfl, c2.2.1.w.to, ?_, (hf4.d.w).tr (rx.rf.s (by decide)).d⟩
              intro j hj
              rw [pp_si2, pp_sro]
              unfold tx_add
              split
              · rfl
              · exact hD4 j hj
            · rw [if_neg hq] at hx
              rw [tx_pb_3 e1 d1 hx, show f_R_takes 41 _ = _ from t2 hq, pp_bd]
              exact Or.inl ⟨_, _, _, rfl, rfl, rfl, (hf4.d.w).tr (rx.rf.s (by decide)).d⟩
        · rw [if_neg hr] at c2 hx
          rw [tx_pb_3 e1 d1 hx, show f_R_readsHour (nI (f + 1)) 24 M3 = _ from c2.1, pp_bd, if_neg (by decide)]
          exact Or.inl ⟨_, _, _, rfl, rfl, c2.2, hf4.d⟩
      · rw [if_neg hd] at c2 hx
        rw [tx_pb_3 e1 d1 hx, show f_R_readsHour (nI (f + 1)) 24 M3 = _ from c2.1, pp_bd, if_neg (by decide)]
        exact Or.inl ⟨_, _, _, rfl, rfl, c2.2, hf4.d⟩
theorem sr_part (ho : ss_Ok S) (hn : n ≤ 200) (hp : p ≤ n) {k : Nat} (hk : k ≤ 14) {D : Nat → Nat} (hD2 : ∀ j, D j ≤ 99) (hD : ∀ j, j < 72 → M.2.1 100 j = nI (D j)) (h : tx_R S n p M) :
    (∃ w q M1, tx_part S n k p = .inl (w, q) ∧ f_R_readsPart (nI k) M = some (false, M1) ∧ M1.1 97 4 = ft w q ∧ rfr M M1) ∨
    (∃ kd a f t q M1, tx_part S n k p = .inr (kd, a, f, t, q) ∧ k < 14 ∧ q ≤ n ∧ f_R_readsPart (nI k) M = some (true, M1) ∧ tx_R S n q M1 ∧ (∀ j, j < 72 → M1.2.1 100 j = nI (tx_add D (24 * kd) f t a j)) ∧ rfr M M1) := by
  have w1 : ∀ q M', f_R_wrongAt 1 (nI q) M' = _ := fun q M' => sr_wrong 1 q M'
  have w4 : ∀ q M', f_R_wrongAt 4 (nI q) M' = _ := fun q M' => sr_wrong 4 q M'
  unfold tx_part f_R_readsPart
  rw [sr_here ho hn (by omega) h, pp_bd, pp_jn]
  dsimp only
  by_cases hc : tx_g S n p = 114 ∨ tx_g S n p = 119 ∨ tx_g S n p = 108
  · have hpn : p < n := tx_g_in (c := tx_g S n p) rfl (fun q => by rw [q] at hc; omega)
    rw [if_pos hc]
    by_cases h14 : 14 ≤ k
    · have hk14 : nI k = 14 := by rw [show k = 14 by omega]; rfl
      rw [if_pos h14, hk14, if_pos rfl, h.2.2, w4, pp_bd]
      have hj : ∀ (X W : Option (Bool × mm_M)), (if tx_I (tx_g S n p) = 114 then X else if tx_I (tx_g S n p) = 119 then X else if tx_I (tx_g S n p) = 108 then X else W) = X := fun X W => by
        rcases hc with hc | hc | hc <;> rw [hc] <;> rfl
      rw [hj]
      exact Or.inl ⟨_, _, _, rfl, rfl, rfl, (rx.rf.s (by decide)).d⟩
    · have hk14 : ¬ nI k = 14 := fun e => by
        rw [show (14 : Int32) = nI 14 from rfl, nI_eq (by omega) (by decide)] at e
        omega
      rw [if_neg h14, if_neg hk14, h.2.2, nI_1, pp_let, pp_jn]
      dsimp only
      have go : ∀ (kd : Nat) (s0 : Int32), kd < 3 → s0 = nI kd → tx_kd (tx_g S n p) = kd → _ := fun kd s0 h1 h2 h3 => sr_partb (M := mm_setI M 97 2 (nI (p + 1))) ho hn (show p + 1 ≤ n by omega) h1 hD2 hD h.to h2
      have fin : ∀ (kd : Nat) (E : Option (Bool × mm_M)), tx_kd (tx_g S n p) = kd → ((∃ w q M1, tx_pb S n (p + 1) = .inl (w, q) ∧ E = some (false, M1) ∧ M1.1 97 4 = ft w q ∧ rfr (mm_setI M 97 2 (nI (p + 1))) M1) ∨
          (∃ a f t q M1, tx_pb S n (p + 1) = .inr (a, f, t, q) ∧ q ≤ n ∧ E = some (true, M1) ∧ tx_R S n q M1 ∧ (∀ j, j < 72 → M1.2.1 100 j = nI (tx_add D (24 * kd) f t a j)) ∧ rfr (mm_setI M 97 2 (nI (p + 1))) M1)) →
          ((∃ w q M1, (match tx_pb S n (p + 1) with | .inl e => .inl e | .inr (a, f, t, q) => .inr (tx_kd (tx_g S n p), a, f, t, q) : (Nat × Nat) ⊕ (Nat × Nat × Nat × Nat × Nat)) = .inl (w, q) ∧ E = some (false, M1) ∧ M1.1 97 4 = ft w q ∧ rfr M M1) ∨
          (∃ kd a f t q M1, (match tx_pb S n (p + 1) with | .inl e => .inl e | .inr (a, f, t, q) => .inr (tx_kd (tx_g S n p), a, f, t, q) : (Nat × Nat) ⊕ (Nat × Nat × Nat × Nat × Nat)) = .inr (kd, a, f, t, q) ∧ k < 14 ∧ q ≤ n ∧ E = some (true, M1) ∧ tx_R S n q M1 ∧ (∀ j, j < 72 → M1.2.1 100 j = nI (tx_add D (24 * kd) f t a j)) ∧ rfr M M1)) := fun kd E hkd hE => by
        have hr0 : rfr M (mm_setI M 97 2 (nI (p + 1))) := (rx.rf.s (by decide)).d
        rcases hE with ⟨w, q, M1, a1, a2, a3, a4⟩ | ⟨a, f, t, q, M1, a1, a2, a3, a4, a5, a6⟩
        · exact Or.inl ⟨w, q, M1, by rw [a1], a2, a3, hr0.tr a4⟩
        · exact Or.inr ⟨kd, a, f, t, q, M1, by rw [a1, hkd], by omega, a2, a3, a4, a5, hr0.tr a6⟩
      rcases hc with hc | hc | hc
      · have k0 : tx_kd (tx_g S n p) = 0 := by rw [hc]; rfl
        obtain ⟨E, hE, hb⟩ := go 0 0 (by decide) rfl k0
        have := fin 0 E k0 hb
        have z : tx_I (tx_g S n p) = 114 := by rw [hc]; rfl
        rw [z, if_pos rfl, if_pos rfl, ← hE]
        exact this
      · have k0 : tx_kd (tx_g S n p) = 1 := by rw [hc]; rfl
        obtain ⟨E, hE, hb⟩ := go 1 1 (by decide) rfl k0
        have := fin 1 E k0 hb
        have z : tx_I (tx_g S n p) = 119 := by rw [hc]; rfl
        rw [z, if_neg (by decide), if_pos rfl, if_neg (by decide), if_pos rfl, ← hE]
        exact this
      · have k0 : tx_kd (tx_g S n p) = 2 := by rw [hc]; rfl
        obtain ⟨E, hE, hb⟩ := go 2 2 (by decide) rfl k0
        have := fin 2 E k0 hb
        have z : tx_I (tx_g S n p) = 108 := by rw [hc]; rfl
        rw [z, if_neg (by decide), if_neg (by decide), if_pos rfl, if_neg (by decide), if_neg (by decide), ← hE]
        exact this
  · have hl := tx_g_lt ho hn p
    have z : ∀ x, x < 256 → tx_g S n p ≠ x → ¬ tx_I (tx_g S n p) = nI x := fun x hx q e => q ((tx_I_eq hl hx).mp e)
    rw [if_neg hc, if_neg (show ¬ tx_I (tx_g S n p) = 114 from z 114 (by decide) (fun q => hc (Or.inl q))), if_neg (show ¬ tx_I (tx_g S n p) = 119 from z 119 (by decide) (fun q => hc (Or.inr (Or.inl q)))), if_neg (show ¬ tx_I (tx_g S n p) = 108 from z 108 (by decide) (fun q => hc (Or.inr (Or.inr q)))), h.2.2, w1, pp_bd]
    exact Or.inl ⟨_, _, _, rfl, rfl, rfl, (rx.rf.s (by decide)).d⟩
/-- all the parts -/
def tx_days (S : ss_S) (n : Nat) : Nat → Nat → Nat → (Nat → Nat) → (Nat × Nat) ⊕ (Nat × (Nat → Nat))
  | 0, _, _, _ => .inl (0, 0)
  | F + 1, k, p, D => match tx_part S n k p with
    | .inl e => .inl e
    | .inr (kd, a, f, t, q) => if n ≤ q then .inr (k + 1, tx_add D (24 * kd) f t a) else if tx_g S n q = 59 then tx_days S n F (k + 1) (q + 1) (tx_add D (24 * kd) f t a) else .inl (1, q)
theorem sh_days (ho : ss_Ok S) (hn : n ≤ 200) {k32 k66 k80 : mm_M → Option (Int32 × mm_M)} {k50 : Int32 → mm_M → Option (Int32 × mm_M)} : ∀ F k p M D, k + F = 14 → p ≤ n → (∀ j, D j ≤ 99) → (∀ j, j < 72 → M.2.1 18 j = nI (D j)) → tx_H S n p M → ∀ m,
    (∃ w q M1, tx_days S n (F + 1) k p D = .inl (w, q) ∧ w ≤ 4 ∧ q ≤ n ∧ (lp_Days_readParts_18 k32 k50 k66 k80 (m + F + 1) (nI k) M = k32 M1 ∨ lp_Days_readParts_18 k32 k50 k66 k80 (m + F + 1) (nI k) M = k66 M1) ∧ M1.1 3 4 = ft w q ∧ dfr M M1) ∨
    (∃ c D1 M1, tx_days S n (F + 1) k p D = .inr (c + 1, D1) ∧ c < 14 ∧ (∀ j, D1 j ≤ 99) ∧ lp_Days_readParts_18 k32 k50 k66 k80 (m + F + 1) (nI k) M = k50 (nI c) M1 ∧ (∀ j, j < 72 → M1.2.1 18 j = nI (D1 j)) ∧ dfr M M1) := by
  intro F
  induction F with
  | zero =>
    intro k p M D hk hp hD2 hD h m
    rw [show m + 0 + 1 = m + 1 from rfl, lp_Days_readParts_18, if_neg (show ¬ (14 : Int32) < nI k from nI_nlt (a := 14) (by omega) (by decide)), tx_days]
    rcases sh_part ho hn hp (show k ≤ 14 by omega) hD2 hD h with ⟨w, q, M1, e1, e2, e3, e4, e5, e6⟩ | ⟨kd, a, f, t, q, M1, e1, e2, _⟩
    · rw [e1, e4, pp_bd, if_neg (by decide)]
      exact Or.inl ⟨w, q, M1, rfl, e2, e3, Or.inl rfl, e5, e6⟩
    · omega
  | succ F ih =>
    intro k p M D hk hp hD2 hD h m
    rw [show m + (F + 1) + 1 = (m + F + 1) + 1 from rfl, lp_Days_readParts_18, if_neg (show ¬ (14 : Int32) < nI k from nI_nlt (a := 14) (by omega) (by decide)), tx_days]
    rcases sh_part ho hn hp (show k ≤ 14 by omega) hD2 hD h with ⟨w, q, M1, e1, e2, e3, e4, e5, e6⟩ | ⟨kd, a, f, t, q, M1, e1, e2, e3, e4, e5, e6, e7⟩
    · rw [e1, e4, pp_bd, if_neg (by decide)]
      exact Or.inl ⟨w, q, M1, rfl, e2, e3, Or.inl rfl, e5, e6⟩
    · simp only [e1]
      rw [e4, pp_bd, if_pos rfl, sh_atEnd ho hn e5, pp_bd]
      by_cases hq : n ≤ q
      · rw [decide_eq_true hq, if_pos rfl, if_pos hq]
        exact Or.inr ⟨k, _, M1, rfl, e2, tx_add_le hD2 _ _ _ _, rfl, e6, e7⟩
      · rw [decide_eq_false hq, if_neg hq, if_neg (show ¬ false = true by decide)]
        obtain ⟨t1, t2⟩ := sh_take ho hn (show q < 300 by omega) (c := 59) (by decide) e5
        by_cases hs : tx_g S n q = 59
        · obtain ⟨M2, u1, u2, u3⟩ := t1 hs
          rw [if_pos hs, show f_TextReader_take 59 M1 = _ from u1, pp_bd, if_pos rfl, nI_1, pp_let]
          rcases ih (k + 1) (q + 1) M2 _ (by omega) (by omega) (tx_add_le hD2 (24 * kd) f t a) (fun j hj => by rw [u3.1]; exact e6 j hj) u2 m with ⟨w, q2, M3, a1, a2, a3, a4, a5, a6⟩ | ⟨c, D1, M3, a1, a2, a3, a4, a5, a6⟩
          · exact Or.inl ⟨w, q2, M3, a1, a2, a3, a4, a5, (e7.tr u3.d).tr a6⟩
          · exact Or.inr ⟨c, D1, M3, a1, a2, a3, a4, a5, (e7.tr u3.d).tr a6⟩
        · obtain ⟨M2, u1, u2, u3⟩ := t2 hs
          rw [if_neg hs, show f_TextReader_take 59 M1 = _ from u1, pp_bd, if_neg (by decide)]
          exact Or.inl ⟨1, q, M2, rfl, by decide, e3, Or.inr rfl, u2, e7.tr u3.d⟩
theorem sr_days (ho : ss_Ok S) (hn : n ≤ 200) {v1 : Int32} {K : Int32 → Bool → mm_M → Option (Int32 × mm_M)} : ∀ F k p M D, k + F = 14 → p ≤ n → (∀ j, D j ≤ 99) → (∀ j, j < 72 → M.2.1 100 j = nI (D j)) → tx_R S n p M → ∀ m,
    (∃ w q c M1, tx_days S n (F + 1) k p D = .inl (w, q) ∧ (mm_bd (f_R_readsPart (nI k) M) fun b M' => lp_R_day_70 v1 K (m + F + 1) (nI k) b M') = K c false M1 ∧ M1.1 97 4 = ft w q ∧ rfr M M1) ∨
    (∃ c D1 M1, tx_days S n (F + 1) k p D = .inr (c + 1, D1) ∧ (mm_bd (f_R_readsPart (nI k) M) fun b M' => lp_R_day_70 v1 K (m + F + 1) (nI k) b M') = K (nI c) true M1 ∧ (∀ j, j < 72 → M1.2.1 100 j = nI (D1 j)) ∧ rfr M M1) := by
  intro F
  induction F with
  | zero =>
    intro k p M D hk hp hD2 hD h m
    rw [tx_days]
    rcases sr_part ho hn hp (show k ≤ 14 by omega) hD2 hD h with ⟨w, q, M1, e1, e4, e5, e6⟩ | ⟨kd, a, f, t, q, M1, e1, e2, _⟩
    · rw [e1, e4, pp_bd, show m + 0 + 1 = m + 1 from rfl, lp_R_day_70, if_neg (by decide)]
      exact Or.inl ⟨w, q, _, M1, rfl, rfl, e5, e6⟩
    · omega
  | succ F ih =>
    intro k p M D hk hp hD2 hD h m
    rw [tx_days, show m + (F + 1) + 1 = (m + F + 1) + 1 from rfl]
    rcases sr_part ho hn hp (show k ≤ 14 by omega) hD2 hD h with ⟨w, q, M1, e1, e4, e5, e6⟩ | ⟨kd, a, f, t, q, M1, e1, e2, e3, e4, e5, e6, e7⟩
    · rw [e1, e4, pp_bd, lp_R_day_70, if_neg (by decide)]
      exact Or.inl ⟨w, q, _, M1, rfl, rfl, e5, e6⟩
    · simp only [e1]
      rw [e4, pp_bd, lp_R_day_70, if_pos rfl, e5.2.1, e5.2.2]
      by_cases hq : n ≤ q
      · rw [if_pos (nI_le hq (by omega)), if_pos hq]
        exact Or.inr ⟨k, _, M1, rfl, rfl, e6, e7⟩
      · rw [if_neg (nI_ge (by omega) (by omega)), if_neg hq, nI_1, pp_let]
        obtain ⟨t1, t2⟩ := sr_takes ho hn (show q < 300 by omega) (c := 59) (by decide) e5
        by_cases hs : tx_g S n q = 59
        · rw [if_pos hs, show f_R_takes 59 M1 = _ from t1 hs, pp_bd, pp_jn, pp_jn, if_pos rfl]
          have hb : ∀ (b : Bool) (X : mm_M), (if b = true then lp_R_day_70 v1 K (m + F + 1) (nI (k + 1)) true X else lp_R_day_70 v1 K (m + F + 1) (nI (k + 1)) false X) = lp_R_day_70 v1 K (m + F + 1) (nI (k + 1)) b X := fun b X => by cases b <;> rfl
          simp only [hb]
          rcases ih (k + 1) (q + 1) (mm_setI M1 97 2 (nI (q + 1))) _ (by omega) (by omega) (tx_add_le hD2 (24 * kd) f t a) (fun j hj => e6 j hj) e5.to m with ⟨w, q2, c, M3, a1, a4, a5, a6⟩ | ⟨c, D1, M3, a1, a4, a5, a6⟩
          · exact Or.inl ⟨w, q2, c, M3, a1, a4, a5, (e7.tr (rx.rf.s (by decide)).d).tr a6⟩
          · exact Or.inr ⟨c, D1, M3, a1, a4, a5, (e7.tr (rx.rf.s (by decide)).d).tr a6⟩
        · rw [if_neg hs, show f_R_takes 59 M1 = _ from t2 hs, pp_bd, pp_jn, pp_jn]
          dsimp only
          rw [if_neg (by decide), lp_R_day_70, if_neg (by decide)]
          exact Or.inl ⟨1, q, _, _, rfl, rfl, rfl, e7.tr (rx.rf.s (by decide)).d⟩
end DAYREF
