/-! larger -/
theorem ii_sub {a b : Int32} (h1 : -2147483648 ≤ a.toInt - b.toInt) (h2 : a.toInt - b.toInt < 2147483648) : (a - b).toInt = a.toInt - b.toInt := by
  rw [Int32.toInt_sub]
  simp only [Int.bmod]
  split <;> omega
theorem ii_add {a b : Int32} (h1 : -2147483648 ≤ a.toInt + b.toInt) (h2 : a.toInt + b.toInt < 2147483648) : (a + b).toInt = a.toInt + b.toInt := by
  rw [Int32.toInt_add]
  simp only [Int.bmod]
  split <;> omega
def pp_pk (S : ss_S) (t k : Nat) : Nat → Int32
  | 0 => nI 0
  | n + 1 => pp_mx (pp_pk S t k n) (pp_all S t k n)
theorem sh_peakOf {S : ss_S} {M : mm_M} {L : ld_L} {s t k : Nat} (h : ld_I L t M) (hL : ld_of S s L) (hsub : pp_sub t s) (hk : k < 3) : f_Load_peakOf (nI k) M = some (pp_pk S t k 24, M) := by
  unfold f_Load_peakOf
  refine pp_for (lp := fun m (a : Int32 × Int32 × mm_M) => lp_Load_peakOf_4 (nI k) _ m a.1 a.2.1 a.2.2) (fun i => (pp_pk S t k i, nI i, M)) 24 (by decide) (fun i hi m => ?_) (fun m => ?_)
  · show lp_Load_peakOf_4 _ _ (m + 1) _ _ _ = lp_Load_peakOf_4 _ _ m _ _ _
    rw [lp_Load_peakOf_4, pp_pk, mm_al_69, if_neg (show ¬ (24 : Int32) ≤ nI i from nI_ge hi (by decide)), show nI k * 24 + nI i = nI (k * 24 + i) from by rw [show (24 : Int32) = nI 24 from rfl, pp_mulN, nI_add], pp_in (by omega) (by decide), if_pos rfl, nI_clamp (by omega), ld_sum h hL hsub hk hi, sh_max, pp_bd, nI_1, pp_let]
  · show lp_Load_peakOf_4 _ _ (m + 1) _ _ _ = _
    rw [lp_Load_peakOf_4, if_pos (show (24 : Int32) ≤ nI 24 by decide)]
theorem sr_mostWanted {S : ss_S} {M : mm_M} (ho : ss_Ok S) (hR : ss_RR S M) {t k : Nat} (ht : t < 2 ^ 31) (hk : k < 3) : f_R_mostWanted (nI t) (nI k) M = some (pp_pk S t k 24, M) := by
  unfold f_R_mostWanted
  refine pp_for (lp := fun m (a : Int32 × Int32 × mm_M) => lp_R_mostWanted_5 (nI t) (nI k) _ m a.1 a.2.1 a.2.2) (fun i => (pp_pk S t k i, nI i, M)) 24 (by decide) (fun i hi m => ?_) (fun m => ?_)
  · show lp_R_mostWanted_5 _ _ _ (m + 1) _ _ _ = lp_R_mostWanted_5 _ _ _ m _ _ _
    rw [lp_R_mostWanted_5, pp_pk, if_neg (show ¬ (24 : Int32) ≤ nI i from nI_ge hi (by decide)), sr_wantAll ho hR ht hk hi, pp_bd, sr_max, pp_bd, nI_1, pp_let]
  · show lp_R_mostWanted_5 _ _ _ (m + 1) _ _ _ = _
    rw [lp_R_mostWanted_5, if_pos (show (24 : Int32) ≤ nI 24 by decide)]
def pp_mo (S : ss_S) (t k : Nat) : Int32 := pp_mx 0 (pp_pk S t k 24 - S.2 3 k)
theorem sh_moreOf {S : ss_S} {M : mm_M} {L : ld_L} {s t k : Nat} (hH : ss_RH S M) (h : ld_I L t M) (hL : ld_of S s L) (hsub : pp_sub t s) (hk : k < 3) : f_Chooser_moreOf (nI k) M = some (pp_mo S t k, M) := by
  unfold f_Chooser_moreOf
  rw [sh_peakOf h hL hsub hk, pp_bd, mm_al_24, pp_in hk (by decide), if_pos rfl, nI_clamp (by omega), show M.2.1 24 k = S.2 3 k from hH.2 3 (by decide) k hk, sh_max, pp_bd]
  rfl
theorem sr_moreOf {S : ss_S} {M : mm_M} (ho : ss_Ok S) (hR : ss_RR S M) {t k : Nat} (ht : t < 2 ^ 31) (hk : k < 3) : f_R_moreOf (nI t) (nI k) M = some (pp_mo S t k, M) := by
  unfold f_R_moreOf
  rw [sr_mostWanted ho hR ht hk, pp_bd, mm_al_102, pp_in hk (by decide), if_pos rfl, nI_clamp (by omega), show M.2.1 102 k = S.2 3 k from hR.2 3 (by decide) k hk, sr_max, pp_bd]
  rfl
def pp_brg (S : ss_S) (t : Nat) : Nat → Int32
  | 0 => pp_pr S t
  | n + 1 => pp_brg S t n - pp_mo S t n * S.2 4 n
theorem sr_brings {S : ss_S} {M : mm_M} (ho : ss_Ok S) (hR : ss_RR S M) {t : Nat} (ht : t < 2 ^ 31) : f_R_brings (nI t) M = some (pp_brg S t 3, M) := by
  unfold f_R_brings
  rw [sr_pricesOf hR ht, pp_bd]
  refine pp_for (lp := fun m (a : Int32 × Int32 × mm_M) => lp_R_brings_8 (nI t) _ m a.1 a.2.1 a.2.2) (fun i => (pp_brg S t i, nI i, M)) 3 (by decide) (fun i hi m => ?_) (fun m => ?_)
  · show lp_R_brings_8 _ _ (m + 1) _ _ _ = lp_R_brings_8 _ _ m _ _ _
    rw [lp_R_brings_8, pp_brg, if_neg (show ¬ (3 : Int32) ≤ nI i from nI_ge hi (by decide)), sr_moreOf ho hR ht hi, pp_bd, mm_al_103, pp_in hi (by decide), if_pos rfl, nI_clamp (by omega), show M.2.1 103 i = S.2 4 i from hR.2 4 (by decide) i hi, pp_let, nI_1, pp_let]
  · show lp_R_brings_8 _ _ (m + 1) _ _ _ = _
    rw [lp_R_brings_8, if_pos (show (3 : Int32) ≤ nI 3 by decide)]
theorem pp_pk_e {S : ss_S} (ho : ss_Ok S) {k : Nat} (hk : k < 3) (t n : Nat) : ∃ a : Nat, a ≤ 990 ∧ pp_pk S t k n = nI a := by
  induction n with
  | zero => exact ⟨0, by omega, rfl⟩
  | succ n ih =>
    obtain ⟨a, ha, e⟩ := ih
    have h := pp_all_e ho hk t n
    rw [pp_pk, e, h.1, pp_mxN (by omega) (by omega)]
    exact ⟨_, by omega, rfl⟩
theorem pp_mo_e {S : ss_S} (ho : ss_Ok S) {k : Nat} (hk : k < 3) (t : Nat) : ∃ a : Nat, a ≤ 990 ∧ pp_mo S t k = nI a := by
  obtain ⟨a, ha, e⟩ := pp_pk_e ho hk t 24
  obtain ⟨b, hb, e2⟩ := ho.m 3 (by decide) rfl hk
  have hb : (b : Int) ≤ 999 := hb
  unfold pp_mo
  rw [e, e2]
  by_cases h : b ≤ a
  · rw [pp_subN h]
    exact ⟨_, by omega, pp_mxN (a := 0) (by decide) (by omega)⟩
  · refine ⟨0, by omega, ?_⟩
    unfold pp_mx
    rw [if_neg]
    · rfl
    · rw [ii_le, i_0, ii_sub (by rw [nI_toInt (by omega), nI_toInt (by omega)]; omega) (by rw [nI_toInt (by omega), nI_toInt (by omega)]; omega), nI_toInt (by omega), nI_toInt (by omega)]
      omega
theorem pp_pr_e {S : ss_S} (ho : ss_Ok S) (t : Nat) : ∃ a : Nat, a ≤ 9990 ∧ pp_pr S t = nI a := by
  have h : ∀ b, b < 10 → (S.2 8 b).toInt.toNat ≤ 999 ∧ S.2 8 b = nI (S.2 8 b).toInt.toNat := fun b hb => by
    obtain ⟨n, hn, e⟩ := ho.m 8 (by decide) rfl (j := b) hb
    have hn : (n : Int) ≤ 999 := hn
    rw [e, nI_toInt (by omega)]
    exact ⟨by omega, rfl⟩
  exact ⟨_, pp_ns_le (m := 999) (fun b hb _ => (h b hb).1), pp_sm_ns (fun b hb _ => (h b hb).2)⟩
/-- what it brings is no more than the prices -/
theorem pp_brg_e {S : ss_S} (ho : ss_Ok S) (t n : Nat) (hn : n ≤ 3) : (pp_brg S t n).toInt ≤ (pp_pr S t).toInt ∧ -1000000 * (n : Int) ≤ (pp_brg S t n).toInt := by
  induction n with
  | zero =>
    obtain ⟨a, ha, e⟩ := pp_pr_e ho t
    refine ⟨Int.le_refl _, ?_⟩
    rw [pp_brg, e, nI_toInt (by omega)]
    omega
  | succ n ih =>
    obtain ⟨h1, h2⟩ := ih (by omega)
    obtain ⟨a, ha, e⟩ := pp_pr_e ho t
    obtain ⟨b, hb, e2⟩ := pp_mo_e ho (k := n) (by omega) t
    obtain ⟨c, hc, e3⟩ := ho.m 4 (by decide) rfl (j := n) (show n < 3 by omega)
    have hc : (c : Int) ≤ 999 := hc
    have hbc : b * c ≤ 990 * 999 := Nat.mul_le_mul hb (by omega)
    rw [e, nI_toInt (by omega)] at h1
    rw [pp_brg, e2, e3, pp_mulN, ii_sub (by rw [nI_toInt (n := b * c) (by omega)]; omega) (by rw [nI_toInt (n := b * c) (by omega)]; omega), nI_toInt (n := b * c) (by omega), e, nI_toInt (by omega)]
    omega
theorem pp_bt_pre {S : ss_S} (ho : ss_Ok S) {t u : Nat} {x : Int32} (h : pp_bt (pp_brg S t 3) t x u = true) : pp_bt (pp_pr S t) t x u = true := by
  unfold pp_bt at h ⊢
  rw [decide_eq_true_eq] at h ⊢
  have h1 := (pp_brg_e ho t 3 (by omega)).1
  rcases h with h | ⟨h, h2⟩
  · left
    rw [ii_lt] at h ⊢
    omega
  · rw [ii_eq] at h
    by_cases e : (pp_pr S t).toInt = x.toInt
    · right
      exact ⟨(ii_eq _ _).mpr e, h2⟩
    · left
      rw [ii_lt]
      omega
def pp_lg (S : ss_S) (all : Nat) : Nat → Nat × Int32
  | 0 => (0, nI 0)
  | n + 1 => if pp_sub (n + 1) all ∧ pp_bt (pp_brg S (n + 1) 3) (n + 1) (pp_lg S all n).2 (pp_lg S all n).1 = true ∧ (pp_fit S (n + 1) false).isNone = true then (n + 1, pp_brg S (n + 1) 3) else pp_lg S all n
theorem pp_lg_le (S : ss_S) (all n : Nat) : (pp_lg S all n).1 ≤ n ∧ pp_sub (pp_lg S all n).1 all := by
  induction n with
  | zero => exact ⟨Nat.le_refl _, Nat.zero_and all⟩
  | succ n ih =>
    rw [pp_lg]
    split
    · rename_i h
      exact ⟨Nat.le_refl _, h.1⟩
    · exact ⟨by omega, ih.2⟩
theorem sr_larger {S : ss_S} {M : mm_M} {s : Nat} (ho : ss_Ok S) (hR : ss_RR S M) (hs : s < 1024) (h5 : S.1 5 = nI s) (v : Int32) (k : Int32 → Int32 → mm_M → Option (Int32 × mm_M)) : ∃ M1, lp_R_larger_18 v k mm_fu 0 0 1 M = k (nI (pp_lg S s 1023).1) (pp_lg S s 1023).2 M1 ∧ rc_f M M1 := by
  refine pp_ex (lp := fun m (a : Int32 × Int32 × Int32 × mm_M) => lp_R_larger_18 v k m a.1 a.2.1 a.2.2.1 a.2.2.2) (fun i a => a.1 = nI (pp_lg S s i).1 ∧ a.2.1 = (pp_lg S s i).2 ∧ a.2.2.1 = nI (i + 1) ∧ rc_f M a.2.2.2) (fun r => ∃ M1, r = k (nI (pp_lg S s 1023).1) (pp_lg S s 1023).2 M1 ∧ rc_f M M1) 1023 (by decide) (fun i a hi ha => Or.inl ?_) (fun a ha m => ?_) (a := (nI 0, nI 0, nI 1, M)) ⟨rfl, rfl, rfl, rc_f.rf⟩
  · obtain ⟨v1, v2, x, M'⟩ := a
    obtain ⟨rfl, rfl, rfl, h2⟩ := ha
    have hR' := h2.RR hR
    have hb := (pp_lg_le S s i).1
    have e12 : M'.1 97 12 = nI s := (hR'.1 5 (by decide)).trans h5
    have hpt := pp_part (t := i + 1) (s := s) (by omega) (by omega)
    show ∃ a' : Int32 × Int32 × Int32 × mm_M, _ ∧ ∀ m, lp_R_larger_18 _ _ (m + 1) (nI (pp_lg S s i).1) (pp_lg S s i).2 (nI (i + 1)) M' = lp_R_larger_18 _ _ m a'.1 a'.2.1 a'.2.2.1 a'.2.2.2
    by_cases hc1 : pp_sub (i + 1) s
    · by_cases hc2 : pp_bt (pp_brg S (i + 1) 3) (i + 1) (pp_lg S s i).2 (pp_lg S s i).1 = true
      · obtain ⟨M1, g1, g2, -⟩ := sr_canBe ho hR' (s := i + 1) (by omega) false
        by_cases hc3 : (pp_fit S (i + 1) false).isNone = true
        · refine ⟨(nI (i + 1), pp_brg S (i + 1) 3, nI (i + 1 + 1), M1), ⟨?_, ?_, rfl, h2.tr g2⟩, fun m => ?_⟩
          · rw [pp_lg, if_pos ⟨hc1, hc2, hc3⟩]
          · rw [pp_lg, if_pos ⟨hc1, hc2, hc3⟩]
          · rw [lp_R_larger_18, if_neg (show ¬ (1024 : Int32) ≤ nI (i + 1) from nI_ge (show i + 1 < 1024 by omega) (by decide)), pp_jn, e12, if_pos (hpt.mpr hc1), sr_brings ho hR' (by omega), pp_bd, sr_isBetter (by omega) (by omega), pp_bd, hc2, if_pos rfl, g1, pp_bd, if_pos hc3]
            show mm_let (nI (i + 1) + 1) _ = _
            rw [nI_1, pp_let]
        · refine ⟨(nI (pp_lg S s i).1, (pp_lg S s i).2, nI (i + 1 + 1), M1), ⟨?_, ?_, rfl, h2.tr g2⟩, fun m => ?_⟩
          · rw [pp_lg, if_neg (fun q => hc3 q.2.2)]
          · rw [pp_lg, if_neg (fun q => hc3 q.2.2)]
          · rw [lp_R_larger_18, if_neg (show ¬ (1024 : Int32) ≤ nI (i + 1) from nI_ge (show i + 1 < 1024 by omega) (by decide)), pp_jn, e12, if_pos (hpt.mpr hc1), sr_brings ho hR' (by omega), pp_bd, sr_isBetter (by omega) (by omega), pp_bd, hc2, if_pos rfl, g1, pp_bd, if_neg hc3]
            show mm_let (nI (i + 1) + 1) _ = _
            rw [nI_1, pp_let]
      · refine ⟨(nI (pp_lg S s i).1, (pp_lg S s i).2, nI (i + 1 + 1), M'), ⟨?_, ?_, rfl, h2⟩, fun m => ?_⟩
        · rw [pp_lg, if_neg (fun q => hc2 q.2.1)]
        · rw [pp_lg, if_neg (fun q => hc2 q.2.1)]
        · rw [lp_R_larger_18, if_neg (show ¬ (1024 : Int32) ≤ nI (i + 1) from nI_ge (show i + 1 < 1024 by omega) (by decide)), pp_jn, e12, if_pos (hpt.mpr hc1), sr_brings ho hR' (by omega), pp_bd, sr_isBetter (by omega) (by omega), pp_bd, if_neg hc2]
          show mm_let (nI (i + 1) + 1) _ = _
          rw [nI_1, pp_let]
    · refine ⟨(nI (pp_lg S s i).1, (pp_lg S s i).2, nI (i + 1 + 1), M'), ⟨?_, ?_, rfl, h2⟩, fun m => ?_⟩
      · rw [pp_lg, if_neg (fun q => hc1 q.1)]
      · rw [pp_lg, if_neg (fun q => hc1 q.1)]
      · rw [lp_R_larger_18, if_neg (show ¬ (1024 : Int32) ≤ nI (i + 1) from nI_ge (show i + 1 < 1024 by omega) (by decide)), pp_jn, e12, if_neg (fun q => hc1 (hpt.mp q))]
        show mm_let (nI (i + 1) + 1) _ = _
        rw [nI_1, pp_let]
  · obtain ⟨v1, v2, x, M'⟩ := a
    obtain ⟨rfl, rfl, rfl, h2⟩ := ha
    refine ⟨M', ?_, h2⟩
    show lp_R_larger_18 _ _ (m + 1) _ _ (nI 1024) _ = _
    rw [lp_R_larger_18, if_pos (by decide)]
/-- one set is tried -/
theorem sh_tryLarger {S : ss_S} {M : mm_M} {L : ld_L} {s u t : Nat} {x : Int32} (ho : ss_Ok S) (hs : s < 1024) (hH : ss_RH S M) (h : ld_W s L M) (hL : ld_of S s L) (hu : pp_sub u s) (ht : t < 1024) (h3 : M.1 71 3 = x) (h4 : M.1 71 4 = nI t) : ∃ M1, f_Chooser_tryLarger (nI u) (pp_pr S u) M = some ((), M1) ∧ ld_W s L M1 ∧ ss_m 56 73 M M1 ∧ (M1.1 71 4, M1.1 71 3) = if pp_bt (pp_brg S u 3) u x t = true ∧ (pp_fit S u false).isNone = true then (nI u, pp_brg S u 3) else (nI t, x) := by
  obtain ⟨t0, ht0, hI⟩ := h
  have hu1 : u < 1024 := by have := pp_sub_le hu; omega
  obtain ⟨M2, k1, k2, k3⟩ := sh_turnTo hI (t := u) hu1 (ld_of_F ho hL ht0) (ld_of_F ho hL hu)
  have hH2 := hH.lo k3 (by omega)
  have f3 : M2.1 71 3 = x := by rw [(k3 71 (by omega)).1]; exact h3
  have f4 : M2.1 71 4 = nI t := by rw [(k3 71 (by omega)).1]; exact h4
  unfold f_Chooser_tryLarger
  rw [k1, pp_bd]
  have fit := sh_fits hH2 k2 hL hu false
  rw [if_neg (by decide)] at fit
  refine pp_ex (lp := fun m (a : Int32 × Int32 × mm_M) => lp_Chooser_tryLarger_13 (nI u) _ m a.1 a.2.1 a.2.2) (fun i a => a = (pp_brg S u i, nI i, M2)) (fun r => ∃ M1, r = some ((), M1) ∧ ld_W s L M1 ∧ ss_m 56 73 M M1 ∧ (M1.1 71 4, M1.1 71 3) = if pp_bt (pp_brg S u 3) u x t = true ∧ (pp_fit S u false).isNone = true then (nI u, pp_brg S u 3) else (nI t, x)) 3 (by decide) (fun i a hi ha => Or.inl ⟨(pp_brg S u (i + 1), nI (i + 1), M2), rfl, fun m => ?_⟩) (fun a ha m => ?_) (a := (pp_pr S u, nI 0, M2)) rfl
  · subst ha
    show lp_Chooser_tryLarger_13 _ _ (m + 1) _ _ _ = lp_Chooser_tryLarger_13 _ _ m _ _ _
    rw [lp_Chooser_tryLarger_13, pp_brg, if_neg (show ¬ (3 : Int32) ≤ nI i from nI_ge hi (by decide)), sh_moreOf hH2 k2 hL hu hi, pp_bd, mm_al_25, pp_in hi (by decide), if_pos rfl, nI_clamp (by omega), show M2.2.1 25 i = S.2 4 i from hH2.2 4 (by decide) i hi, pp_let, nI_1, pp_let]
  · subst ha
    show ∃ M1, lp_Chooser_tryLarger_13 _ _ (m + 1) _ _ _ = _ ∧ _
    rw [lp_Chooser_tryLarger_13, if_pos (show (3 : Int32) ≤ nI 3 by decide), f3, f4, sh_isBetter hu1 ht, pp_bd]
    by_cases hc2 : pp_bt (pp_brg S u 3) u x t = true
    · rw [if_pos hc2]
      unfold f_Load_fitsButForPlant
      rw [show (3 : Int32) = nI 3 from rfl, fit, pp_bd, pp_bd]
      have hfit : pp_can S (pp_all S u) (pp_rain S u) false 24 0 (S.1 3) = pp_fit S u false := rfl
      rw [hfit]
      have hm := k3.tr (ld_end_m M2 (pp_fit S u false))
      by_cases hc3 : (pp_fit S u false).isNone = true
      · rw [if_pos hc3, pp_let, pp_let, if_pos ⟨hc2, hc3⟩]
        refine ⟨_, rfl, ⟨u, hu, ?_⟩, ((hm.wd (by omega) (by omega)).s (by omega)).s (by omega), rfl⟩
        have := ld_end_I k2 (pp_fit S u false)
        exact ⟨this.1, this.2⟩
      · rw [if_neg hc3, if_neg (fun q => hc3 q.2)]
        refine ⟨_, rfl, ⟨u, hu, ld_end_I k2 _⟩, hm.wd (by omega) (by omega), ?_⟩
        rw [(ld_end_m M2 (pp_fit S u false) 71 (by omega)).1, f3, f4]
    · rw [if_neg hc2, if_neg (fun q => hc2 q.1)]
      exact ⟨M2, rfl, ⟨u, hu, k2⟩, k3.wd (by omega) (by omega), by rw [f3, f4]⟩
theorem mm_al_72 : mm_al 72 = 3 := rfl
theorem sh_chooseLarger {S : ss_S} {M : mm_M} {L : ld_L} {s : Nat} (ho : ss_Ok S) (hs : s < 1024) (h5 : S.1 5 = nI s) (hH : ss_RH S M) (h : ld_W s L M) (hL : ld_of S s L) : ∃ M1, f_Chooser_chooseLarger M = some ((), M1) ∧ ss_m 56 73 M M1 ∧ M1.1 71 3 = (pp_lg S s 1023).2 ∧ M1.1 71 4 = nI (pp_lg S s 1023).1 ∧ ∀ k, k < 3 → M1.2.1 72 k = pp_mo S (pp_lg S s 1023).1 k := by
  unfold f_Chooser_chooseLarger
  rw [pp_let, pp_let]
  refine pp_ex (lp := fun m (a : Int32 × mm_M) => lp_Chooser_chooseLarger_12 _ m a.1 a.2) (fun i a => a.1 = nI (i + 1) ∧ ld_W s L a.2 ∧ ss_m 56 73 M a.2 ∧ a.2.1 71 3 = (pp_lg S s i).2 ∧ a.2.1 71 4 = nI (pp_lg S s i).1) (fun r => ∃ M1, r = some ((), M1) ∧ ss_m 56 73 M M1 ∧ M1.1 71 3 = (pp_lg S s 1023).2 ∧ M1.1 71 4 = nI (pp_lg S s 1023).1 ∧ ∀ k, k < 3 → M1.2.1 72 k = pp_mo S (pp_lg S s 1023).1 k) 1023 (by decide) (fun i a hi ha => Or.inl ?_) (fun a ha m => ?_) (a := (nI 1, mm_setI (mm_setI M 71 3 0) 71 4 0)) ⟨rfl, ?_, (ss_m.rf.s (by omega)).s (by omega), rfl, rfl⟩
  · obtain ⟨x, M'⟩ := a
    obtain ⟨rfl, h1, h2, h3, h4⟩ := ha
    have hH' := hH.lo h2 (by omega)
    have e0 : M'.1 27 0 = nI s := (hH'.1 5 (by decide)).trans h5
    have hb := (pp_lg_le S s i).1
    show ∃ a' : Int32 × mm_M, _ ∧ ∀ m, lp_Chooser_chooseLarger_12 _ (m + 1) (nI (i + 1)) M' = lp_Chooser_chooseLarger_12 _ m a'.1 a'.2
    have h3 : M'.1 71 3 = (pp_lg S s i).2 := h3
    have h4 : M'.1 71 4 = nI (pp_lg S s i).1 := h4
    by_cases hc1 : pp_sub (i + 1) s
    · by_cases hc2 : pp_bt (pp_pr S (i + 1)) (i + 1) (pp_lg S s i).2 (pp_lg S s i).1 = true
      · obtain ⟨M1, g1, g2, g3, g4⟩ := sh_tryLarger ho hs hH' h1 hL hc1 (show (pp_lg S s i).1 < 1024 by omega) h3 h4
        refine ⟨(nI (i + 1 + 1), M1), ⟨rfl, g2, h2.tr g3, ?_, ?_⟩, fun m => ?_⟩
        · rw [pp_lg]
          by_cases hc3 : pp_bt (pp_brg S (i + 1) 3) (i + 1) (pp_lg S s i).2 (pp_lg S s i).1 = true ∧ (pp_fit S (i + 1) false).isNone = true
          · rw [if_pos hc3] at g4
            rw [if_pos ⟨hc1, hc3⟩]
            exact (Prod.ext_iff.mp g4).2
          · rw [if_neg hc3] at g4
            rw [if_neg (fun q => hc3 q.2)]
            exact (Prod.ext_iff.mp g4).2
        · rw [pp_lg]
          by_cases hc3 : pp_bt (pp_brg S (i + 1) 3) (i + 1) (pp_lg S s i).2 (pp_lg S s i).1 = true ∧ (pp_fit S (i + 1) false).isNone = true
          · rw [if_pos hc3] at g4
            rw [if_pos ⟨hc1, hc3⟩]
            exact (Prod.ext_iff.mp g4).1
          · rw [if_neg hc3] at g4
            rw [if_neg (fun q => hc3 q.2)]
            exact (Prod.ext_iff.mp g4).1
        · rw [lp_Chooser_chooseLarger_12, if_neg (show ¬ (1024 : Int32) ≤ nI (i + 1) from nI_ge (show i + 1 < 1024 by omega) (by decide)), e0, sh_isPart (by omega) (by omega), pp_bd, pp_jn, decide_eq_true hc1, if_pos rfl, sh_pricesOf hH' (by omega), pp_bd, h3, h4, sh_isBetter (by omega) (by omega), pp_bd, hc2, if_pos rfl, g1, pp_bd]
          show mm_let (nI (i + 1) + 1) _ = _
          rw [nI_1, pp_let]
      · have hc4 : ¬ (pp_sub (i + 1) s ∧ pp_bt (pp_brg S (i + 1) 3) (i + 1) (pp_lg S s i).2 (pp_lg S s i).1 = true ∧ (pp_fit S (i + 1) false).isNone = true) := fun q => hc2 (pp_bt_pre ho q.2.1)
        refine ⟨(nI (i + 1 + 1), M'), ⟨rfl, h1, h2, ?_, ?_⟩, fun m => ?_⟩
        · rw [pp_lg, if_neg hc4]; exact h3
        · rw [pp_lg, if_neg hc4]; exact h4
        · rw [lp_Chooser_chooseLarger_12, if_neg (show ¬ (1024 : Int32) ≤ nI (i + 1) from nI_ge (show i + 1 < 1024 by omega) (by decide)), e0, sh_isPart (by omega) (by omega), pp_bd, pp_jn, decide_eq_true hc1, if_pos rfl, sh_pricesOf hH' (by omega), pp_bd, h3, h4, sh_isBetter (by omega) (by omega), pp_bd, if_neg hc2]
          show mm_let (nI (i + 1) + 1) _ = _
          rw [nI_1, pp_let]
    · refine ⟨(nI (i + 1 + 1), M'), ⟨rfl, h1, h2, ?_, ?_⟩, fun m => ?_⟩
      · rw [pp_lg, if_neg (fun q => hc1 q.1)]; exact h3
      · rw [pp_lg, if_neg (fun q => hc1 q.1)]; exact h4
      · rw [lp_Chooser_chooseLarger_12, if_neg (show ¬ (1024 : Int32) ≤ nI (i + 1) from nI_ge (show i + 1 < 1024 by omega) (by decide)), e0, sh_isPart (by omega) (by omega), pp_bd, pp_jn, decide_eq_false hc1, if_neg (show ¬ false = true by decide)]
        show mm_let (nI (i + 1) + 1) _ = _
        rw [nI_1, pp_let]
  · obtain ⟨x, M'⟩ := a
    obtain ⟨rfl, ⟨t0, ht0, hI⟩, h2, h3, h4⟩ := ha
    have h3 : M'.1 71 3 = (pp_lg S s 1023).2 := h3
    have h4 : M'.1 71 4 = nI (pp_lg S s 1023).1 := h4
    have hb := pp_lg_le S s 1023
    obtain ⟨M2, k1, k2, k3⟩ := sh_turnTo hI (t := (pp_lg S s 1023).1) (by omega) (ld_of_F ho hL ht0) (ld_of_F ho hL hb.2)
    have hH2 := (hH.lo h2 (by omega)).lo k3 (by omega)
    refine ⟨mm_setR M2 72 (fun j => if 0 ≤ j ∧ j < 0 + 3 then pp_mo S (pp_lg S s 1023).1 j else M2.2.1 72 j), ?_, (h2.tr (k3.wd (by omega) (by omega))).r (by omega), ?_, ?_, fun k hk => ?_⟩
    · show lp_Chooser_chooseLarger_12 _ (m + 1) (nI 1024) _ = _
      rw [lp_Chooser_chooseLarger_12, if_pos (by decide), h4, k1, pp_bd]
      refine pp_fill (lp := fun m v M => lp_Chooser_chooseLarger_83 _ m v M) (k := fun M_4 => some ((), M_4)) M2 72 0 3 (by decide) (fun j => pp_mo S (pp_lg S s 1023).1 j) (fun i hi m M3 e => ?_) (fun m M3 => ?_)
      · show lp_Chooser_chooseLarger_83 _ (m + 1) (nI i) M3 = lp_Chooser_chooseLarger_83 _ m (nI (i + 1)) _
        have hm3 : ss_m 72 73 M2 M3 := by rw [e]; exact ss_m.rf.r (by omega)
        have kI : ld_I L (pp_lg S s 1023).1 M3 := by
          refine ⟨⟨fun b hb j hj => ?_, fun b hb => ?_, fun j hj => ?_, fun f h hf hh => ?_⟩, ?_, k2.2.2⟩
          · rw [(hm3 _ (by omega)).2.1]; exact k2.1.1 b hb j hj
          · rw [(hm3 _ (by omega)).2.1]; exact k2.1.2.1 b hb
          · rw [(hm3 _ (by omega)).2.1]; exact k2.1.2.2.1 j hj
          · rw [(hm3 _ (by omega)).2.1]; exact k2.1.2.2.2 f h hf hh
          · rw [(hm3 _ (by omega)).1]; exact k2.2.1
        rw [lp_Chooser_chooseLarger_83, if_neg (show ¬ (3 : Int32) ≤ nI i from nI_ge hi (by decide)), sh_moreOf (hH2.lo hm3 (by omega)) kI hL hb.2 hi, pp_bd, mm_al_72, pp_in hi (by decide), if_pos rfl, nI_clamp (by omega), pp_let, nI_1, pp_let, Nat.zero_add]
      · show lp_Chooser_chooseLarger_83 _ (m + 1) (nI 3) M3 = _
        rw [lp_Chooser_chooseLarger_83, if_pos (by decide)]
    · show M2.1 71 3 = _
      rw [(k3 71 (by omega)).1]
      exact h3
    · show M2.1 71 4 = _
      rw [(k3 71 (by omega)).1]
      exact h4
    · rw [pp_sro, if_pos (by omega)]
  · obtain ⟨t0, ht0, hI⟩ := h
    exact ⟨t0, ht0, hI.1, hI.2⟩
section LARGER
variable {Q : Int32 → (Nat → Nat → Int32) → Prop}
theorem i_5 : (5 : Int32).toInt = 5 := rfl
theorem p_larger : ok_larger (ss_I Q) := by
  intro v M hI
  obtain ⟨S, hI⟩ := hI
  obtain ⟨ho, hH, hR, -⟩ := id hI
  obtain ⟨s, hs, h5⟩ := ho.n 5 (by decide)
  have hs : (s : Int) ≤ 1023 := hs
  have hvr : ∀ M' : mm_M, f_R_in v 0 4 M' = some (decide (0 ≤ v.toInt ∧ v.toInt < 5), M') := fun M' => by
    rw [sr_in, i_0, i_4]
    congr 3
    exact propext (by omega)
  by_cases hv : 0 ≤ v.toInt ∧ v.toInt < 5
  · obtain ⟨x, hx, rfl⟩ := ii_nat (n := 5) hv.1 hv.2 (by decide)
    obtain ⟨L, M1, g1, g2, g3, g4⟩ := sh_begin ho hH (show s < 1024 by omega) h5
    have hH1 := hH.lo g3 (by omega)
    obtain ⟨M2, k1, k2, k3, k4, k5⟩ := sh_chooseLarger ho (show s < 1024 by omega) h5 hH1 ⟨0, Nat.zero_and s, g2⟩ g4
    have hm := (g3.wd (lo2 := 56) (hi2 := 73) (by omega) (by omega)).tr k2
    have hH2 := hH.lo hm (by omega)
    have hb := pp_lg_le S s 1023
    have e2 : 2 ≤ x → nI x - 2 = nI (x - 2) := fun q => pp_subN (b := 2) q
    refine ss_same (r := if x = 0 then (pp_lg S s 1023).2 else if x = 1 then nI (pp_lg S s 1023).1 else pp_mo S (pp_lg S s 1023).1 (x - 2)) hI ⟨M2, ?_, hH2, hm.h (by omega) (by omega)⟩ (fun M3 hR3 => ?_)
    · unfold f_H_larger
      rw [sh_isBelow, pp_bd, i_5, decide_eq_true hv, if_pos rfl, g1, pp_bd, k1, pp_bd]
      by_cases h0 : x = 0
      · subst h0
        rw [if_pos (by decide), if_pos rfl, k3]
      · by_cases h1 : x = 1
        · subst h1
          rw [if_neg (by decide), if_pos (by decide), if_neg (by decide), if_pos rfl, k4]
        · rw [if_neg (show ¬ nI x = (0 : Int32) from fun q => h0 ((nI_eq (b := 0) (by omega) (by decide)).mp q)), if_neg (show ¬ nI x = (1 : Int32) from fun q => h1 ((nI_eq (b := 1) (by omega) (by decide)).mp q)), if_neg h0, if_neg h1, e2 (by omega), mm_al_72, pp_in (by omega) (by decide), if_pos rfl, nI_clamp (by omega), k5 _ (by omega)]
    · have hl := sr_larger ho hR3 (show s < 1024 by omega) h5 (nI x) (fun (v2 : Int32) (v3 : Int32) (M_11 : mm_M) => if nI x = 0 then some (v3, M_11) else if nI x = 1 then some (v2, M_11) else mm_bd (f_R_moreOf v2 (nI x - 2) M_11) fun r_12 M_13 => some (r_12, M_13))
      obtain ⟨M4, c1, c2⟩ := hl
      refine ⟨M4, ?_, c2.RR hR3, c2.r⟩
      unfold f_R_larger
      rw [hvr, pp_bd, decide_eq_true hv, if_pos rfl, c1]
      by_cases h0 : x = 0
      · subst h0
        rw [if_pos (by decide), if_pos rfl]
      · by_cases h1 : x = 1
        · subst h1
          rw [if_neg (by decide), if_pos (by decide), if_neg (by decide), if_pos rfl]
        · rw [if_neg (show ¬ nI x = (0 : Int32) from fun q => h0 ((nI_eq (b := 0) (by omega) (by decide)).mp q)), if_neg (show ¬ nI x = (1 : Int32) from fun q => h1 ((nI_eq (b := 1) (by omega) (by decide)).mp q)), if_neg h0, if_neg h1, e2 (by omega), sr_moreOf ho (c2.RR hR3) (by omega) (by omega), pp_bd]
  · refine ss_same (r := -1) hI ⟨M, ?_, hH, ss_h.rf⟩ (fun M1 hR1 => ⟨M1, ?_, hR1, ss_r.rf⟩)
    · unfold f_H_larger
      rw [sh_isBelow, pp_bd, i_5, decide_eq_false hv, if_neg (by decide)]
    · unfold f_R_larger
      rw [hvr, pp_bd, decide_eq_false hv, if_neg (by decide)]
end LARGER
