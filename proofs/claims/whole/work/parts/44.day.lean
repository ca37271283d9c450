/-! the reference's text; a day's parts, of both -/
section DAYTEXT
variable {S : ss_S} {n p : Nat} {M M1 M2 : mm_M}
def rx (M M1 : mm_M) : Prop := M1.2 = M.2 ∧ ∀ o q, ¬ (o = 97 ∧ 2 ≤ q ∧ q ≤ 5) → M1.1 o q = M.1 o q
theorem rx.rf : rx M M := ⟨rfl, fun _ _ _ => rfl⟩
theorem rx.tr (h : rx M M1) (h2 : rx M1 M2) : rx M M2 := ⟨h2.1.trans h.1, fun o q ho => (h2.2 o q ho).trans (h.2 o q ho)⟩
theorem rx.s (h : rx M M1) {k : Nat} {v : Int32} (hk : 2 ≤ k ∧ k ≤ 5) : rx M (mm_setI M1 97 k v) := ⟨h.1, fun o q ho => by
  rw [← h.2 o q ho]
  show (if o = 97 ∧ q = k then v else M1.1 o q) = _
  rw [if_neg (fun e => ho ⟨e.1, by omega, by omega⟩)]⟩
theorem ss_ro_x : ∀ k, k < 11 → ¬ ((ss_ro k).1 = 97 ∧ 2 ≤ (ss_ro k).2 ∧ (ss_ro k).2 ≤ 5) := by decide
theorem rx.RR (h : rx M M1) (hR : ss_RR S M) : ss_RR S M1 := ⟨fun k hk => by rw [h.2 _ _ (ss_ro_x k hk)]; exact hR.1 k hk, fun a ha j hj => by rw [h.1]; exact hR.2 a ha j hj⟩
theorem rx.r (h : rx M M1) : ss_r M M1 := ⟨fun o ho => ⟨by funext q; exact h.2 o q (by omega), by rw [h.1], by rw [h.1]⟩, fun o _ _ => by rw [h.1]⟩
def tx_R (S : ss_S) (n p : Nat) (M : mm_M) : Prop := ss_RR S M ∧ M.1 97 3 = nI n ∧ M.1 97 2 = nI p
theorem tx_Ig {c : Nat} (h : c ≤ 255) : tx_I c = nI c := if_neg (by omega)
theorem sr_here (ho : ss_Ok S) (hn : n ≤ 200) (hp : p ≤ 300) (h : tx_R S n p M) : f_R_here M = some (tx_I (tx_g S n p), M) := by
  unfold f_R_here
  rw [h.2.1, h.2.2]
  by_cases hc : n ≤ p
  · rw [if_pos (nI_le hc (by omega)), tx_g_no hc]; rfl
  · have hg := tx_g_e ho hn (show p < n by omega)
    have e3 : M.2.1 98 p &&& 255 = nI (tx_g S n p) := by
      rw [show M.2.1 98 p = (S.2 0 p).toInt8.toInt32 from h.1.2 0 (by decide) p (show p < 200 by omega), pp_byte ho (by omega)]
      exact hg.1
    rw [if_neg (nI_ge (by omega) (by omega)), show mm_bl 98 = 200 from rfl, pp_in (by omega) (by decide), if_pos rfl, nI_clamp (by omega), e3, tx_Ig hg.2]
theorem sr_isDigit (ho : ss_Ok S) (hn : n ≤ 200) (hp : p ≤ 300) (h : tx_R S n p M) : f_R_isDigit M = some (tx_d (tx_g S n p), M) := by
  have hl := tx_lo (tx_g_lt ho hn p)
  unfold f_R_isDigit
  rw [sr_here ho hn hp h, pp_bd, sr_here ho hn hp h, pp_bd]
  unfold tx_d
  by_cases h1 : tx_I (tx_g S n p) < 48
  · rw [if_pos h1, decide_eq_false]
    intro q
    exact hl.1.mp h1 ⟨q.1, by omega⟩
  · rw [if_neg h1]
    have h1' : 48 ≤ tx_g S n p ∧ tx_g S n p ≠ 256 := Classical.byContradiction (fun q => h1 (hl.1.mpr q))
    by_cases h2 : (57 : Int32) < tx_I (tx_g S n p)
    · have := hl.2.mp h2
      rw [if_pos h2, decide_eq_false (by omega)]
    · have h2' : ¬ (57 < tx_g S n p ∧ tx_g S n p ≠ 256) := fun q => h2 (hl.2.mpr q)
      rw [if_neg h2, decide_eq_true (by omega)]
theorem sr_wrong (w p : Nat) (M : mm_M) : f_R_wrongAt (nI w) (nI p) M = some (false, mm_setI M 97 4 (ft w p)) := by
  unfold f_R_wrongAt
  rw [pp_let, ft_e]
theorem sr_takes (ho : ss_Ok S) {c : Nat} (hn : n ≤ 200) (hp : p < 300) (hc : c < 256) (h : tx_R S n p M) : (tx_g S n p = c → f_R_takes (nI c) M = some (true, mm_setI M 97 2 (nI (p + 1)))) ∧ (tx_g S n p ≠ c → f_R_takes (nI c) M = some (false, mm_setI M 97 4 (ft 1 p))) := by
  have hi := tx_I_eq (tx_g_lt ho hn p) hc
  unfold f_R_takes
  rw [sr_here ho hn (by omega) h, pp_bd, h.2.2]
  constructor
  · intro q
    rw [if_pos (hi.mpr q), nI_1, pp_let]
  · intro q
    rw [if_neg (fun e => q (hi.mp e)), show f_R_wrongAt 1 (nI p) M = _ from sr_wrong 1 p M, pp_bd]
theorem tx_R.to {q : Nat} (h : tx_R S n p M) : tx_R S n q (mm_setI M 97 2 (nI q)) := ⟨(rx.rf.s (by decide)).RR h.1, h.2.1, rfl⟩
theorem tx_R.v {v : Int32} (h : tx_R S n p M) : tx_R S n p (mm_setI M 97 5 v) := ⟨(rx.rf.s (by decide)).RR h.1, h.2.1, h.2.2⟩
theorem tx_R.f {v : Int32} (h : tx_R S n p M) : tx_R S n p (mm_setI M 97 4 v) := ⟨(rx.rf.s (by decide)).RR h.1, h.2.1, h.2.2⟩
theorem sr_two_lp (ho : ss_Ok S) (hn : n ≤ 200) (hp : p ≤ n) {kA kB : mm_M → Option (Bool × mm_M)} : ∀ q i v M', i + q = 2 → tx_R S n (p + i) M' → M'.1 97 5 = nI v → rx M M' → ∀ m, ∃ M1, tx_R S n (tx_n S n q v (p + i)).2 M1 ∧ M1.1 97 5 = nI (tx_n S n q v (p + i)).1 ∧ rx M M1 ∧ lp_R_readsTwo_10 (nI p) kA kB (m + q + 1) M' = if tx_d (tx_g S n (tx_n S n q v (p + i)).2) = true then kA M1 else kB M1 := by
  intro q
  induction q with
  | zero =>
    intro i v M' hi h' hv hf m
    have : i = 2 := by omega
    subst this
    refine ⟨M', h', hv, hf, ?_⟩
    rw [lp_R_readsTwo_10, sr_isDigit ho hn (by omega) h', pp_bd, tx_n, h'.2.2, if_pos (show nI (p + 2) = nI p + 2 from (nI_add p 2).symm)]
  | succ q ih =>
    intro i v M' hi h' hv hf m
    rw [show m + (q + 1) + 1 = (m + q + 1) + 1 from rfl, lp_R_readsTwo_10, sr_isDigit ho hn (by omega) h', pp_bd, tx_n]
    by_cases hc : tx_d (tx_g S n (p + i)) = true
    · rw [if_pos hc, if_pos hc, h'.2.2, if_neg (fun e => by
        rw [show nI p + 2 = nI (p + 2) from nI_add p 2, nI_eq (by omega) (by omega)] at e
        omega), sr_here ho hn (by omega) h', pp_bd, hv, tx_Id hc, tx_val (tx_d_e hc).1, pp_let]
      rw [show (mm_setI M' 97 5 (nI (10 * v + (tx_g S n (p + i) - 48)))).1 97 2 = nI (p + i) from h'.2.2, nI_1, pp_let]
      have hpn := tx_d_in hc
      exact ih (i + 1) _ _ (by omega) (h'.v.to) rfl ((hf.s (by decide)).s (by decide)) m
    · rw [if_neg hc, if_neg hc]
      exact ⟨M', h', hv, hf, by rw [if_neg hc]⟩
theorem sr_hr_lp (ho : ss_Ok S) (hn : n ≤ 200) (hp : p ≤ n) {v1 v2 : Int32} {k : mm_M → Option (Bool × mm_M)} : ∀ q i v M', i + q = 2 → tx_R S n (p + i) M' → M'.1 97 5 = nI v → rx M M' → ∀ m, ∃ M1, tx_R S n (tx_n S n q v (p + i)).2 M1 ∧ M1.1 97 5 = nI (tx_n S n q v (p + i)).1 ∧ rx M M1 ∧ lp_R_readsHour_10 v1 v2 (nI p) k (m + q + 1) M' = k M1 := by
  intro q
  induction q with
  | zero =>
    intro i v M' hi h' hv hf m
    have : i = 2 := by omega
    subst this
    refine ⟨M', h', hv, hf, ?_⟩
    rw [lp_R_readsHour_10, sr_isDigit ho hn (by omega) h', pp_bd, h'.2.2, show nI p + 2 = nI (p + 2) from nI_add p 2, if_pos (nI_le (Nat.le_refl _) (by omega)), ite_self]
  | succ q ih =>
    intro i v M' hi h' hv hf m
    rw [show m + (q + 1) + 1 = (m + q + 1) + 1 from rfl, lp_R_readsHour_10, sr_isDigit ho hn (by omega) h', pp_bd, tx_n]
    by_cases hc : tx_d (tx_g S n (p + i)) = true
    · rw [if_pos hc, if_pos hc, h'.2.2, show nI p + 2 = nI (p + 2) from nI_add p 2, if_neg (nI_ge (by omega) (by omega)), sr_here ho hn (by omega) h', pp_bd, hv, tx_Id hc, tx_val (tx_d_e hc).1, pp_let]
      rw [show (mm_setI M' 97 5 (nI (10 * v + (tx_g S n (p + i) - 48)))).1 97 2 = nI (p + i) from h'.2.2, nI_1, pp_let]
      have hpn := tx_d_in hc
      exact ih (i + 1) _ _ (by omega) (h'.v.to) rfl ((hf.s (by decide)).s (by decide)) m
    · rw [if_neg hc, if_neg hc]
      exact ⟨M', h', hv, hf, rfl⟩
/-- a number of one or two digits, then a sign -/
def tx_hr (S : ss_S) (n lo hi c p : Nat) : (Nat × Nat) ⊕ (Nat × Nat) :=
  if tx_d (tx_g S n p) = true then
    if lo ≤ (tx_n S n 2 0 p).1 ∧ (tx_n S n 2 0 p).1 ≤ hi then
      if tx_g S n (tx_n S n 2 0 p).2 = c then .inr ((tx_n S n 2 0 p).1, (tx_n S n 2 0 p).2 + 1) else .inl (1, (tx_n S n 2 0 p).2)
    else .inl (3, p)
  else .inl (1, p)
theorem tx_ne {k : Nat} (h : k < 2 ^ 31) : ¬ nI k = -1 := fun e => by
  have := (ii_eq _ _).mp e
  rw [nI_toInt h, show (-1 : Int32).toInt = -1 from rfl] at this
  omega
theorem tx_n2 (hp : p ≤ n) : (tx_n S n 2 0 p).1 < 100 ∧ (tx_n S n 2 0 p).2 ≤ n := by
  obtain ⟨a, b, c, d⟩ := tx_n_le S n 2 0 p
  exact ⟨by omega, c hp⟩
theorem tx_n_mv (h : tx_d (tx_g S n p) = true) : p < (tx_n S n 2 0 p).2 := by
  rw [tx_n, if_pos h]
  exact (tx_n_le S n 1 _ (p + 1)).1
theorem tx_n_st (h : ¬ tx_d (tx_g S n p) = true) : tx_n S n 2 0 p = (0, p) := by rw [tx_n, if_neg h]
theorem sh_hr (ho : ss_Ok S) (hn : n ≤ 200) (hp : p ≤ n) {lo hi c : Nat} (hl : lo < 100) (hi2 : hi < 100) (hc : c < 256) (h : tx_H S n p M) (K : Int32 → mm_M → Option (Bool × mm_M)) :
    (∃ w q M1, tx_hr S n lo hi c p = .inl (w, q) ∧ w ≤ 4 ∧ q ≤ n ∧ (mm_bd (f_Days_readHour (nI lo) (nI hi) M) fun r_9 M_10 => if r_9 = (-1) then some (false, M_10) else mm_bd (f_TextReader_take (nI c) M_10) fun b_11 M_12 => if b_11 = true then K r_9 M_12 else some (false, M_12)) = some (false, M1) ∧ M1.1 3 4 = ft w q ∧ tf M M1) ∨
    (∃ v q M1, tx_hr S n lo hi c p = .inr (v, q) ∧ lo ≤ v ∧ v ≤ hi ∧ q ≤ n ∧ (mm_bd (f_Days_readHour (nI lo) (nI hi) M) fun r_9 M_10 => if r_9 = (-1) then some (false, M_10) else mm_bd (f_TextReader_take (nI c) M_10) fun b_11 M_12 => if b_11 = true then K r_9 M_12 else some (false, M_12)) = K (nI v) M1 ∧ tx_H S n q M1 ∧ tf M M1) := by
  unfold tx_hr f_Days_readHour
  by_cases hd : tx_d (tx_g S n p) = true
  · obtain ⟨M1, g1, g2, g3⟩ := sh_num ho hn (k := 2) (by decide) hp h hd
    have g1' : f_TextReader_number 2 M = some (nI (tx_n S n 2 0 p).1, M1) := g1
    obtain ⟨n1, n2⟩ := tx_n2 (S := S) hp
    rw [if_pos hd, pp_let, g1', pp_bd, if_neg (tx_ne (by omega)), pp_jn]
    generalize tx_n S n 2 0 p = e at g2 n1 n2
    by_cases hr : lo ≤ e.1 ∧ e.1 ≤ hi
    · rw [if_pos hr, if_neg (nI_nlt hr.1 (by omega)), if_pos (nI_le hr.2 (by omega)), pp_bd, if_neg (tx_ne (by omega))]
      obtain ⟨t1, t2⟩ := sh_take ho hn (show e.2 < 300 by omega) hc g2
      by_cases hq : tx_g S n e.2 = c
      · obtain ⟨M2, u1, u2, u3⟩ := t1 hq
        rw [if_pos hq, u1, pp_bd, if_pos rfl]
        exact Or.inr ⟨_, _, M2, rfl, hr.1, hr.2, tx_g_in hq (by omega), rfl, u2, g3.tr u3⟩
      · obtain ⟨M2, u1, u2, u3⟩ := t2 hq
        rw [if_neg hq, u1, pp_bd, if_neg (by decide)]
        exact Or.inl ⟨_, _, M2, rfl, by decide, n2, rfl, u2, g3.tr u3⟩
    · have hj : ∀ (X Y : Option (Int32 × mm_M)), (if nI e.1 < nI lo then X else if nI e.1 ≤ nI hi then Y else X) = X := fun X Y => by
        by_cases h1 : e.1 < lo
        · rw [if_pos (nI_lt h1 (by omega))]
        · rw [if_neg (nI_nlt (by omega) (by omega)), if_neg (nI_ge (by omega) (by omega))]
      rw [if_neg hr, hj]
      dsimp only
      unfold f_TextReader_failAt
      rw [pp_let, pp_bd, pp_bd, if_pos rfl, h.2.2.1, show (-1000 : Int32) * 3 - nI p = ft 3 p from ft_e 3 p]
      exact Or.inl ⟨_, _, _, rfl, by decide, hp, rfl, rfl, g3.s⟩
  · obtain ⟨M1, g1, g2, g3⟩ := sh_num_no ho hn 2 h (Bool.not_eq_true _ ▸ hd)
    rw [if_neg hd, pp_let, g1, pp_bd, if_pos rfl, pp_bd, if_pos rfl]
    exact Or.inl ⟨_, _, _, rfl, by decide, hp, rfl, g2, g3⟩
theorem sh_two (ho : ss_Ok S) (hn : n ≤ 200) (hp : p ≤ n) {c : Nat} (hc : c < 256) (h : tx_H S n p M) (K : Int32 → mm_M → Option (Bool × mm_M)) :
    (∃ w q M1, tx_hr S n 0 99 c p = .inl (w, q) ∧ w ≤ 4 ∧ q ≤ n ∧ (mm_bd (f_TextReader_number 2 M) fun r_9 M_10 => if r_9 = (-1) then some (false, M_10) else mm_bd (f_TextReader_take (nI c) M_10) fun b_11 M_12 => if b_11 = true then K r_9 M_12 else some (false, M_12)) = some (false, M1) ∧ M1.1 3 4 = ft w q ∧ tf M M1) ∨
    (∃ v q M1, tx_hr S n 0 99 c p = .inr (v, q) ∧ v ≤ 99 ∧ q ≤ n ∧ (mm_bd (f_TextReader_number 2 M) fun r_9 M_10 => if r_9 = (-1) then some (false, M_10) else mm_bd (f_TextReader_take (nI c) M_10) fun b_11 M_12 => if b_11 = true then K r_9 M_12 else some (false, M_12)) = K (nI v) M1 ∧ tx_H S n q M1 ∧ tf M M1) := by
  unfold tx_hr
  by_cases hd : tx_d (tx_g S n p) = true
  · obtain ⟨M1, g1, g2, g3⟩ := sh_num ho hn (k := 2) (by decide) hp h hd
    have g1' : f_TextReader_number 2 M = some (nI (tx_n S n 2 0 p).1, M1) := g1
    obtain ⟨n1, n2⟩ := tx_n2 (S := S) hp
    rw [if_pos hd, g1', pp_bd, if_neg (tx_ne (by omega))]
    generalize tx_n S n 2 0 p = e at g2 n1 n2
    rw [if_pos (show 0 ≤ e.1 ∧ e.1 ≤ 99 by omega)]
    obtain ⟨t1, t2⟩ := sh_take ho hn (show e.2 < 300 by omega) hc g2
    by_cases hq : tx_g S n e.2 = c
    · obtain ⟨M2, u1, u2, u3⟩ := t1 hq
      rw [if_pos hq, u1, pp_bd, if_pos rfl]
      exact Or.inr ⟨_, _, M2, rfl, by omega, tx_g_in hq (by omega), rfl, u2, g3.tr u3⟩
    · obtain ⟨M2, u1, u2, u3⟩ := t2 hq
      rw [if_neg hq, u1, pp_bd, if_neg (by decide)]
      exact Or.inl ⟨_, _, M2, rfl, by decide, n2, rfl, u2, g3.tr u3⟩
  · obtain ⟨M1, g1, g2, g3⟩ := sh_num_no ho hn 2 h (Bool.not_eq_true _ ▸ hd)
    rw [if_neg hd, g1, pp_bd, if_pos rfl]
    exact Or.inl ⟨_, _, _, rfl, by decide, hp, rfl, g2, g3⟩
/-- the reference: a number and a sign -/
theorem sr_two (ho : ss_Ok S) (hn : n ≤ 200) (hp : p ≤ n) {c : Nat} (hc : c < 256) (hcd : tx_d c = false) (h : tx_R S n p M) (K : Int32 → mm_M → Option (Bool × mm_M)) :
    (∃ w q M1, tx_hr S n 0 99 c p = .inl (w, q) ∧ (mm_bd (f_R_readsTwo M) fun b_6 M_7 => if b_6 = true then mm_let (M_7.1 97 5) fun v4_8 => mm_bd (f_R_takes (nI c) M_7) fun b_9 M_10 => if b_9 = true then K v4_8 M_10 else some (false, M_10) else some (false, M_7)) = some (false, M1) ∧ M1.1 97 4 = ft w q ∧ rx M M1) ∨
    (∃ v q M1, tx_hr S n 0 99 c p = .inr (v, q) ∧ v ≤ 99 ∧ q ≤ n ∧ (mm_bd (f_R_readsTwo M) fun b_6 M_7 => if b_6 = true then mm_let (M_7.1 97 5) fun v4_8 => mm_bd (f_R_takes (nI c) M_7) fun b_9 M_10 => if b_9 = true then K v4_8 M_10 else some (false, M_10) else some (false, M_7)) = K (nI v) M1 ∧ tx_R S n q M1 ∧ rx M M1) := by
  unfold tx_hr f_R_readsTwo
  obtain ⟨n1, n2⟩ := tx_n2 (S := S) hp
  rw [h.2.2, pp_let, pp_let]
  obtain ⟨M1, g1, g2, g3, g4⟩ := sr_two_lp (M := M) ho hn hp (kA := fun (M_9 : mm_M) => mm_bd (f_R_wrongAt 1 (M_9.1 97 2) M_9) fun b_10 M_11 => some (b_10, M_11)) (kB := fun (M_12 : mm_M) => mm_jn (fun (M_13 : mm_M) => some (true, M_13)) fun j89 => if nI p < M_12.1 97 2 then j89 M_12 else mm_bd (f_R_wrongAt 1 (M_12.1 97 2) M_12) fun b_14 M_15 => if b_14 = true then j89 M_15 else some (false, M_15)) 2 0 0 (mm_setI M 97 5 0) rfl h.v rfl (rx.rf.s (by decide)) 4997
  rw [show p + 0 = p from rfl] at g1 g2 g4
  rw [show (4997 : Nat) + 2 + 1 = mm_fu from rfl] at g4
  rw [g4]
  have w1 : ∀ q M', f_R_wrongAt 1 (nI q) M' = _ := fun q M' => sr_wrong 1 q M'
  by_cases hd : tx_d (tx_g S n p) = true
  · have hm := tx_n_mv hd
    rw [if_pos hd]
    generalize tx_n S n 2 0 p = e at g1 g2 n1 n2 hm
    rw [if_pos (show 0 ≤ e.1 ∧ e.1 ≤ 99 by omega)]
    by_cases h3 : tx_d (tx_g S n e.2) = true
    · rw [if_pos h3, if_neg (fun q => by rw [q, hcd] at h3; cases h3), g1.2.2, w1, pp_bd, pp_bd, if_neg (by decide)]
      exact Or.inl ⟨_, _, _, rfl, rfl, rfl, g3.s (by decide)⟩
    · rw [if_neg h3, pp_jn, g1.2.2, if_pos (nI_lt hm (by omega)), pp_bd, if_pos rfl, pp_let, g2]
      obtain ⟨t1, t2⟩ := sr_takes ho hn (show e.2 < 300 by omega) hc g1
      by_cases hq : tx_g S n e.2 = c
      · rw [if_pos hq, t1 hq, pp_bd, if_pos rfl]
        exact Or.inr ⟨_, _, _, rfl, by omega, tx_g_in hq (by omega), rfl, g1.to, g3.s (by decide)⟩
      · rw [if_neg hq, t2 hq, pp_bd, if_neg (by decide)]
        exact Or.inl ⟨_, _, _, rfl, rfl, rfl, g3.s (by decide)⟩
  · rw [tx_n_st hd] at g1 g2 ⊢
    have g12 : M1.1 97 2 = nI p := g1.2.2
    rw [if_neg hd, if_neg hd, pp_jn, g12, if_neg (nI_nlt (Nat.le_refl _) (by omega)), w1, pp_bd, if_neg (by decide), pp_bd, if_neg (by decide)]
    exact Or.inl ⟨_, _, _, rfl, rfl, rfl, g3.s (by decide)⟩
/-- the reference: an hour -/
theorem sr_hour (ho : ss_Ok S) (hn : n ≤ 200) (hp : p ≤ n) {lo hi : Nat} (hl : lo < 100) (hi2 : hi < 100) (h : tx_R S n p M) :
    ∃ M1, rx M M1 ∧ (if tx_d (tx_g S n p) = true then if lo ≤ (tx_n S n 2 0 p).1 ∧ (tx_n S n 2 0 p).1 ≤ hi then if tx_d (tx_g S n (tx_n S n 2 0 p).2) = true then f_R_readsHour (nI lo) (nI hi) M = some (false, M1) ∧ M1.1 97 4 = ft 1 (tx_n S n 2 0 p).2 else f_R_readsHour (nI lo) (nI hi) M = some (true, M1) ∧ tx_R S n (tx_n S n 2 0 p).2 M1 ∧ M1.1 97 5 = nI (tx_n S n 2 0 p).1 else f_R_readsHour (nI lo) (nI hi) M = some (false, M1) ∧ M1.1 97 4 = ft 3 p else f_R_readsHour (nI lo) (nI hi) M = some (false, M1) ∧ M1.1 97 4 = ft 1 p) := by
  unfold f_R_readsHour
  obtain ⟨n1, n2⟩ := tx_n2 (S := S) hp
  rw [h.2.2, pp_let, pp_let]
  obtain ⟨M1, g1, g2, g3, g4⟩ := sr_hr_lp (M := M) ho hn hp (v1 := nI lo) (v2 := nI hi) (k := fun (M_9 : mm_M) => if M_9.1 97 2 = nI p then mm_bd (f_R_wrongAt 1 (M_9.1 97 2) M_9) fun b_19 M_20 => some (b_19, M_20) else mm_bd (f_R_in (M_9.1 97 5) (nI lo) (nI hi) M_9) fun b_10 M_11 => if b_10 = true then mm_bd (f_R_isDigit M_11) fun b_12 M_13 => mm_jn (fun (M_14 : mm_M) => some (true, M_14)) fun j115 => if b_12 = true then mm_bd (f_R_wrongAt 1 (M_13.1 97 2) M_13) fun b_15 M_16 => if b_15 = true then j115 M_16 else some (false, M_16) else j115 M_13 else mm_bd (f_R_wrongAt 3 (nI p) M_11) fun b_17 M_18 => some (b_17, M_18)) 2 0 0 (mm_setI M 97 5 0) rfl h.v rfl (rx.rf.s (by decide)) 4997
  rw [show p + 0 = p from rfl] at g1 g2
  rw [show (4997 : Nat) + 2 + 1 = mm_fu from rfl] at g4
  rw [g4]
  have w1 : ∀ q M', f_R_wrongAt 1 (nI q) M' = _ := fun q M' => sr_wrong 1 q M'
  have w3 : ∀ q M', f_R_wrongAt 3 (nI q) M' = _ := fun q M' => sr_wrong 3 q M'
  by_cases hd : tx_d (tx_g S n p) = true
  · have hm := tx_n_mv hd
    simp only [if_pos hd]
    generalize tx_n S n 2 0 p = e at g1 g2 n1 n2 hm
    rw [g1.2.2, g2, if_neg (fun q => by rw [nI_eq (by omega) (by omega)] at q; omega), sr_in, pp_bd, nI_toInt (by omega), nI_toInt (by omega), nI_toInt (by omega)]
    by_cases hr : lo ≤ e.1 ∧ e.1 ≤ hi
    · rw [decide_eq_true (by omega), if_pos rfl, sr_isDigit ho hn (by omega) g1, pp_bd, pp_jn]
      simp only [if_pos hr]
      by_cases h3 : tx_d (tx_g S n e.2) = true
      · simp only [if_pos h3]
        rw [g1.2.2, w1, pp_bd, if_neg (by decide)]
        exact ⟨_, g3.s (by decide), rfl, rfl⟩
      · simp only [if_neg h3]
        exact ⟨_, g3, rfl, g1, g2⟩
    · rw [decide_eq_false (by omega), if_neg (by decide), w3, pp_bd]
      simp only [if_neg hr]
      exact ⟨_, g3.s (by decide), rfl, rfl⟩
  · rw [tx_n_st hd] at g1 g2
    have g12 : M1.1 97 2 = nI p := g1.2.2
    simp only [if_neg hd]
    rw [g12, if_pos rfl, w1, pp_bd]
    exact ⟨_, g3.s (by decide), rfl, rfl⟩
theorem sr_hr (ho : ss_Ok S) (hn : n ≤ 200) (hp : p ≤ n) {lo hi c : Nat} (hl : lo < 100) (hi2 : hi < 100) (hc : c < 256) (hcd : tx_d c = false) (h : tx_R S n p M) (K : Int32 → mm_M → Option (Bool × mm_M)) :
    (∃ w q M1, tx_hr S n lo hi c p = .inl (w, q) ∧ (mm_bd (f_R_readsHour (nI lo) (nI hi) M) fun b_6 M_7 => if b_6 = true then mm_let (M_7.1 97 5) fun v4_8 => mm_bd (f_R_takes (nI c) M_7) fun b_9 M_10 => if b_9 = true then K v4_8 M_10 else some (false, M_10) else some (false, M_7)) = some (false, M1) ∧ M1.1 97 4 = ft w q ∧ rx M M1) ∨
    (∃ v q M1, tx_hr S n lo hi c p = .inr (v, q) ∧ lo ≤ v ∧ v ≤ hi ∧ q ≤ n ∧ (mm_bd (f_R_readsHour (nI lo) (nI hi) M) fun b_6 M_7 => if b_6 = true then mm_let (M_7.1 97 5) fun v4_8 => mm_bd (f_R_takes (nI c) M_7) fun b_9 M_10 => if b_9 = true then K v4_8 M_10 else some (false, M_10) else some (false, M_7)) = K (nI v) M1 ∧ tx_R S n q M1 ∧ rx M M1) := by
  unfold tx_hr
  obtain ⟨M1, g1, g2⟩ := sr_hour ho hn hp hl hi2 h
  obtain ⟨n1, n2⟩ := tx_n2 (S := S) hp
  by_cases hd : tx_d (tx_g S n p) = true
  · rw [if_pos hd] at g2 ⊢
    generalize tx_n S n 2 0 p = e at g2 n1 n2
    by_cases hr : lo ≤ e.1 ∧ e.1 ≤ hi
    · rw [if_pos hr] at g2 ⊢
      by_cases h3 : tx_d (tx_g S n e.2) = true
      · rw [if_pos h3] at g2
        rw [if_neg (show ¬ tx_g S n e.2 = c from fun q => by rw [q, hcd] at h3; cases h3), g2.1, pp_bd, if_neg (by decide)]
        exact Or.inl ⟨_, _, _, rfl, rfl, g2.2, g1⟩
      · rw [if_neg h3] at g2
        obtain ⟨t1, t2⟩ := sr_takes ho hn (show e.2 < 300 by omega) hc g2.2.1
        rw [g2.1, pp_bd, if_pos rfl, pp_let, g2.2.2]
        by_cases hq : tx_g S n e.2 = c
        · rw [if_pos hq, t1 hq, pp_bd, if_pos rfl]
          exact Or.inr ⟨_, _, _, rfl, hr.1, hr.2, tx_g_in hq (by omega), rfl, g2.2.1.to, g1.s (by decide)⟩
        · rw [if_neg hq, t2 hq, pp_bd, if_neg (by decide)]
          exact Or.inl ⟨_, _, _, rfl, rfl, rfl, g1.s (by decide)⟩
    · rw [if_neg hr] at g2 ⊢
      rw [g2.1, pp_bd, if_neg (by decide)]
      exact Or.inl ⟨_, _, _, rfl, rfl, g2.2, g1⟩
  · rw [if_neg hd] at g2 ⊢
    rw [g2.1, pp_bd, if_neg (by decide)]
    exact Or.inl ⟨_, _, _, rfl, rfl, g2.2, g1⟩
end DAYTEXT
