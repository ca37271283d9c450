/-! sums as natural numbers; fewer stays never want more; smallest -/
def pp_ns (c : Nat → Bool) (f : Nat → Nat) : Nat → Nat
  | 0 => 0
  | n + 1 => pp_ns c f n + if c n = true then f n else 0
theorem pp_sm_ns {c : Nat → Bool} {f : Nat → Int32} {g : Nat → Nat} {n : Nat} (h : ∀ b, b < n → c b = true → f b = nI (g b)) : pp_sm c f n = nI (pp_ns c g n) := by
  induction n with
  | zero => rfl
  | succ n ih =>
    rw [pp_sm, pp_ns, ih (fun b hb => h b (by omega))]
    cases hc : c n with
    | false => rw [if_neg (by decide), if_neg (by decide), Int32.add_zero, Nat.add_zero]
    | true => rw [if_pos rfl, if_pos rfl, h n (by omega) hc, nI_add]
theorem pp_ns_mono {c d : Nat → Bool} {f g : Nat → Nat} {n : Nat} (h : ∀ b, b < n → c b = true → d b = true ∧ f b ≤ g b) : pp_ns c f n ≤ pp_ns d g n := by
  induction n with
  | zero => exact Nat.le_refl _
  | succ n ih =>
    rw [pp_ns, pp_ns]
    have h1 := ih (fun b hb => h b (by omega))
    cases hc : c n with
    | false => rw [if_neg (by decide)]; omega
    | true =>
      obtain ⟨h2, h3⟩ := h n (by omega) hc
      rw [if_pos rfl, if_pos h2]
      omega
theorem pp_ns_le {c : Nat → Bool} {f : Nat → Nat} {n m : Nat} (h : ∀ b, b < n → c b = true → f b ≤ m) : pp_ns c f n ≤ m * n := by
  induction n with
  | zero => exact Nat.zero_le _
  | succ n ih =>
    rw [pp_ns, Nat.mul_succ]
    have h1 := ih (fun b hb => h b (by omega))
    cases hc : c n with
    | false => rw [if_neg (by decide)]; omega
    | true =>
      have := h n (by omega) hc
      rw [if_pos rfl]
      omega
theorem pp_ns_ext {c d : Nat → Bool} {f g : Nat → Nat} {n : Nat} (h : ∀ b, b < n → (if c b = true then f b else 0) = if d b = true then g b else 0) : pp_ns c f n = pp_ns d g n := by
  induction n with
  | zero => rfl
  | succ n ih => rw [pp_ns, pp_ns, ih (fun b hb => h b (by omega)), h n (by omega)]
def pp_w (S : ss_S) (b k h : Nat) : Nat := (pp_want S b k h).toInt.toNat
theorem pp_w_e {S : ss_S} (ho : ss_Ok S) {b k : Nat} (hb : b < 10) (hk : k < 3) (h : Nat) : pp_want S b k h = nI (pp_w S b k h) ∧ pp_w S b k h ≤ 99 := by
  obtain ⟨v, hv, e⟩ := pp_want_e ho hb hk h
  unfold pp_w
  rw [e, nI_toInt (by omega)]
  exact ⟨rfl, by omega⟩
def pp_aN (S : ss_S) (t k h : Nat) : Nat := pp_ns (fun b => t.testBit b) (fun b => pp_w S b k h) 10
def pp_rN (S : ss_S) (t f h : Nat) : Nat := pp_ns (fun b => t.testBit b && decide (pp_fl S b = nI f)) (fun b => pp_w S b 0 h) 10
theorem pp_all_e {S : ss_S} (ho : ss_Ok S) {k : Nat} (hk : k < 3) (t h : Nat) : pp_all S t k h = nI (pp_aN S t k h) ∧ pp_aN S t k h ≤ 990 :=
  ⟨pp_sm_ns (fun b hb _ => (pp_w_e ho hb hk h).1), pp_ns_le (m := 99) (fun b hb _ => (pp_w_e ho hb hk h).2)⟩
theorem pp_rain_e {S : ss_S} (ho : ss_Ok S) (t f h : Nat) : pp_rain S t f h = nI (pp_rN S t f h) ∧ pp_rN S t f h ≤ 990 :=
  ⟨pp_sm_ns (fun b hb _ => (pp_w_e ho hb (by decide) h).1), pp_ns_le (m := 99) (fun b hb _ => (pp_w_e ho hb (by decide) h).2)⟩
theorem pp_aN_mono {S : ss_S} {t u k h : Nat} (hu : pp_sub t u) : pp_aN S t k h ≤ pp_aN S u k h := pp_ns_mono (fun _ _ hc => ⟨pp_sub_tb hu hc, Nat.le_refl _⟩)
theorem pp_rN_mono {S : ss_S} {t u f h : Nat} (hu : pp_sub t u) : pp_rN S t f h ≤ pp_rN S u f h := pp_ns_mono (fun b _ hc => by
  have hc : (t.testBit b && decide (pp_fl S b = nI f)) = true := hc
  rw [Bool.and_eq_true] at hc
  exact ⟨by show (u.testBit b && decide (pp_fl S b = nI f)) = true; rw [pp_sub_tb hu hc.1, hc.2]; rfl, Nat.le_refl _⟩)
theorem pp_nm1 : ∀ k, k < 8 → nI k ≠ pp_m1 := by decide
theorem pp_why2_iff (S : ss_S) (sm fr : Nat → Nat → Int32) (h : Nat) (w : Int32) : pp_why2 S sm fr h w = pp_m1 ↔ (fr 0 h ≤ S.2 5 0 ∧ fr 1 h ≤ S.2 5 1 ∧ fr 2 h ≤ S.2 5 2 ∧ fr 3 h ≤ S.2 5 3 ∧ sm 0 h ≤ w) := by
  unfold pp_why2
  by_cases h0 : fr 0 h ≤ S.2 5 0
  · by_cases h1 : fr 1 h ≤ S.2 5 1
    · by_cases h2 : fr 2 h ≤ S.2 5 2
      · by_cases h3 : fr 3 h ≤ S.2 5 3
        · by_cases h4 : sm 0 h ≤ w
          · simp [h0, h1, h2, h3, h4]
          · simp [h0, h1, h2, h3, h4, pp_nm1 7 (by decide)]
        · simp [h0, h1, h2, h3, pp_nm1 6 (by decide)]
      · simp [h0, h1, h2, pp_nm1 5 (by decide)]
    · simp [h0, h1, pp_nm1 4 (by decide)]
  · simp [h0, pp_nm1 3 (by decide)]
theorem pp_why_iff (S : ss_S) (sm fr : Nat → Nat → Int32) (h : Nat) (w : Int32) (pl : Bool) : pp_why S sm fr h w pl = pp_m1 ↔ ((pl = true → sm 0 h ≤ S.2 3 0 ∧ sm 1 h ≤ S.2 3 1 ∧ sm 2 h ≤ S.2 3 2) ∧ fr 0 h ≤ S.2 5 0 ∧ fr 1 h ≤ S.2 5 1 ∧ fr 2 h ≤ S.2 5 2 ∧ fr 3 h ≤ S.2 5 3 ∧ sm 0 h ≤ w) := by
  rw [← pp_why2_iff]
  unfold pp_why
  cases pl with
  | false => simp
  | true =>
    by_cases h0 : sm 0 h ≤ S.2 3 0
    · by_cases h1 : sm 1 h ≤ S.2 3 1
      · by_cases h2 : sm 2 h ≤ S.2 3 2
        · simp [h0, h1, h2]
        · simp [h0, h1, h2, pp_nm1 2 (by decide)]
      · simp [h0, h1, pp_nm1 1 (by decide)]
    · simp [h0, pp_nm1 0 (by decide)]
theorem ii_trans {a b c : Int32} (h : a ≤ b) (h2 : b ≤ c) : a ≤ c := by
  rw [ii_le] at *
  omega
theorem pp_mnN {a b : Nat} (ha : a < 2 ^ 31) (hb : b < 2 ^ 31) : pp_mn (nI a) (nI b) = nI (min a b) := by
  unfold pp_mn
  by_cases h : b ≤ a
  · rw [if_pos (nI_le h ha), Nat.min_eq_right h]
  · rw [if_neg (nI_ge (by omega) hb), Nat.min_eq_left (by omega)]
theorem pp_mxN {a b : Nat} (ha : a < 2 ^ 31) (hb : b < 2 ^ 31) : pp_mx (nI a) (nI b) = nI (max a b) := by
  unfold pp_mx
  by_cases h : a ≤ b
  · rw [if_pos (nI_le h hb), Nat.max_eq_right h]
  · rw [if_neg (nI_ge (by omega) ha), Nat.max_eq_left (by omega)]
theorem pp_subN {a b : Nat} (h : b ≤ a) : nI a - nI b = nI (a - b) := by
  have : nI (a - b) + nI b = nI a := by rw [nI_add, Nat.sub_add_cancel h]
  rw [← this, Int32.add_sub_cancel]
theorem pp_in9 {S : ss_S} (ho : ss_Ok S) {w : Nat} (hw : w ≤ 9999) : ∃ c : Nat, c ≤ 99 ∧ S.1 4 = nI c ∧ pp_mn 9999 (nI w + S.1 4) = nI (min 9999 (w + c)) := by
  obtain ⟨c, hc, e⟩ := ho.n 4 (by decide)
  have hc : (c : Int) ≤ 99 := hc
  refine ⟨c, by omega, e, ?_⟩
  rw [e, nI_add]
  exact pp_mnN (a := 9999) (by decide) (by omega)
theorem pp_can_mono {S : ss_S} {sm sm' fr fr' : Nat → Nat → Int32} {pl : Bool} (ho : ss_Ok S) (hs : ∀ k h, k < 3 → sm k h ≤ sm' k h) (h0 : ∀ h, ∃ a b : Nat, a ≤ b ∧ b ≤ 990 ∧ sm 0 h = nI a ∧ sm' 0 h = nI b) (hf : ∀ f h, f < 4 → fr f h ≤ fr' f h) : ∀ (n h w w' : Nat), w' ≤ w → w ≤ 9999 → pp_can S sm' fr' pl n h (nI w') = none → pp_can S sm fr pl n h (nI w) = none := by
  intro n
  induction n with
  | zero => intros; rfl
  | succ n ih =>
    intro h w w' hw hw9 hn
    obtain ⟨c, hc, e4, e1⟩ := pp_in9 ho (w := w) (by omega)
    obtain ⟨c', hc', e4', e1'⟩ := pp_in9 ho (w := w') (by omega)
    have hcc : c = c' := by
      rw [e4] at e4'
      exact (nI_eq (by omega) (by omega)).mp e4'
    subst hcc
    obtain ⟨a, b, hab, hb, ea, eb⟩ := h0 h
    rw [pp_can] at hn ⊢
    rw [e1'] at hn
    rw [e1]
    by_cases hc1 : pp_why S sm' fr' h (nI (min 9999 (w' + c))) pl = pp_m1
    · rw [if_pos hc1] at hn
      have hi := (pp_why_iff ..).mp hc1
      have hbw : b ≤ min 9999 (w' + c) := by
        have := hi.2.2.2.2.2
        rw [eb] at this
        exact (nI_leI (by omega) (by omega)).mp this
      have hi2 : pp_why S sm fr h (nI (min 9999 (w + c))) pl = pp_m1 := by
        rw [pp_why_iff]
        refine ⟨fun hp => ?_, ii_trans (hf 0 h (by decide)) hi.2.1, ii_trans (hf 1 h (by decide)) hi.2.2.1, ii_trans (hf 2 h (by decide)) hi.2.2.2.1, ii_trans (hf 3 h (by decide)) hi.2.2.2.2.1, ?_⟩
        · obtain ⟨q0, q1, q2⟩ := hi.1 hp
          exact ⟨ii_trans (hs 0 h (by decide)) q0, ii_trans (hs 1 h (by decide)) q1, ii_trans (hs 2 h (by decide)) q2⟩
        · rw [ea]
          exact nI_le (by omega) (by omega)
      rw [if_pos hi2, ea, pp_subN (by omega)]
      rw [eb, pp_subN hbw] at hn
      exact ih (h + 1) _ _ (by omega) (by omega) hn
    · rw [if_neg hc1] at hn
      cases hn
theorem pp_fit_mono {S : ss_S} (ho : ss_Ok S) {t u : Nat} {pl : Bool} (h : pp_sub t u) (hf : pp_fit S u pl = none) : pp_fit S t pl = none := by
  obtain ⟨w, hw, e⟩ := ho.n 3 (by decide)
  have hw : (w : Int) ≤ 9999 := hw
  unfold pp_fit at hf ⊢
  rw [e] at hf ⊢
  refine pp_can_mono ho (fun k hr hk => ?_) (fun hr => ?_) (fun f hr _ => ?_) 24 0 w w (Nat.le_refl w) (by omega) hf
  · rw [(pp_all_e ho hk t hr).1, (pp_all_e ho hk u hr).1]
    exact nI_le (pp_aN_mono h) (by have := (pp_all_e ho hk u hr).2; omega)
  · exact ⟨_, _, pp_aN_mono h, (pp_all_e ho (by decide) u hr).2, (pp_all_e ho (by decide) t hr).1, (pp_all_e ho (by decide) u hr).1⟩
  · rw [(pp_rain_e ho t f hr).1, (pp_rain_e ho u f hr).1]
    exact nI_le (pp_rN_mono h) (by have := (pp_rain_e ho u f hr).2; omega)
/-- fewer bits -/
theorem pp_cn_mono {t u : Nat} (h : pp_sub t u) (n : Nat) : pp_cn t n ≤ pp_cn u n := by
  induction n with
  | zero => exact Nat.le_refl _
  | succ n ih =>
    rw [pp_cn, pp_cn, pp_bit01, pp_bit01]
    cases ht : t.testBit n with
    | false => simp; omega
    | true => rw [pp_sub_tb h ht]; simp; omega
theorem pp_cn_strict {t u : Nat} (h : pp_sub t u) {i n : Nat} (hi : i < n) (ht : t.testBit i = false) (hu : u.testBit i = true) : pp_cn t n < pp_cn u n := by
  induction n with
  | zero => omega
  | succ n ih =>
    rw [pp_cn, pp_cn, pp_bit01, pp_bit01]
    by_cases e : i = n
    · subst e
      have := pp_cn_mono h i
      rw [ht, hu]
      simp
      omega
    · have := ih (by omega)
      cases htn : t.testBit n with
      | false => simp; omega
      | true => rw [pp_sub_tb h htn]; simp; omega
theorem pp_cn_lt {t u : Nat} (hu : u < 1024) (h : pp_sub t u) (hne : t ≠ u) : pp_cn t 12 < pp_cn u 12 := by
  have : ∃ i, t.testBit i ≠ u.testBit i := by
    refine Classical.byContradiction (fun hq => hne (Nat.eq_of_testBit_eq (fun i => ?_)))
    exact Classical.byContradiction (fun hq2 => hq ⟨i, hq2⟩)
  obtain ⟨i, hi⟩ := this
  have h1 : t.testBit i = false := by
    cases hq : t.testBit i
    · rfl
    · rw [hq, pp_sub_tb h hq] at hi; exact absurd rfl hi
  have h2 : u.testBit i = true := by
    cases hq : u.testBit i
    · rw [h1, hq] at hi; exact absurd rfl hi
    · rfl
  exact pp_cn_strict h (Nat.lt_of_lt_of_le (pp_tb_lt (n := 10) hu h2) (by decide)) h1 h2
/-- the smallest set, of the sets from 1 to n, from z on: the class's way (z = all), the reference's way (z = 0) -/
def pp_sH (S : ss_S) (all : Nat) : Nat → Nat
  | 0 => all
  | n + 1 => if pp_sub (n + 1) all ∧ pp_cn (n + 1) 12 < pp_cn (pp_sH S all n) 12 ∧ ¬ (pp_fit S (n + 1) true).isNone = true then n + 1 else pp_sH S all n
def pp_sR (S : ss_S) (all : Nat) : Nat → Nat
  | 0 => 0
  | n + 1 => if pp_sub (n + 1) all ∧ (pp_sR S all n = 0 ∨ pp_cn (n + 1) 12 < pp_cn (pp_sR S all n) 12) ∧ ¬ (pp_fit S (n + 1) true).isNone = true then n + 1 else pp_sR S all n
theorem pp_sH_le (S : ss_S) (all n : Nat) (hn : n ≤ 1023) (ha : all ≤ 1023) : pp_sH S all n ≤ 1023 := by
  induction n with
  | zero => exact ha
  | succ n ih =>
    rw [pp_sH]
    split
    · omega
    · exact ih (by omega)
theorem pp_sR_le (S : ss_S) (all n : Nat) : pp_sR S all n ≤ n := by
  induction n with
  | zero => exact Nat.le_refl _
  | succ n ih =>
    rw [pp_sR]
    split
    · omega
    · omega
theorem pp_sR_fit {S : ss_S} (ho : ss_Ok S) {all : Nat} (h : pp_fit S all true = none) (n : Nat) : pp_sR S all n = 0 := by
  induction n with
  | zero => rfl
  | succ n ih =>
    rw [pp_sR, if_neg, ih]
    rintro ⟨h1, -, h3⟩
    rw [pp_fit_mono ho h1 h] at h3
    exact h3 rfl
theorem pp_sHR {S : ss_S} {all : Nat} (ha : all < 1024) (h : ¬ (pp_fit S all true).isNone = true) (n : Nat) (ha0 : 0 < all) : (pp_sR S all n = 0 ∧ pp_sH S all n = all ∧ n < all) ∨ (pp_sR S all n = pp_sH S all n ∧ pp_sR S all n ≠ 0) := by
  induction n with
  | zero => exact Or.inl ⟨rfl, rfl, ha0⟩
  | succ n ih =>
    rw [pp_sR, pp_sH]
    rcases ih with ⟨r1, r2, r3⟩ | ⟨r1, r2⟩
    · rw [r1, r2]
      by_cases hc : pp_sub (n + 1) all ∧ ¬ (pp_fit S (n + 1) true).isNone = true
      · rw [if_pos ⟨hc.1, Or.inl rfl, hc.2⟩]
        refine Or.inr ⟨?_, by omega⟩
        by_cases e : n + 1 = all
        · rw [e]
          split <;> rfl
        · rw [if_pos ⟨hc.1, pp_cn_lt ha hc.1 e, hc.2⟩]
      · rw [if_neg (fun q => hc ⟨q.1, q.2.2⟩), if_neg (fun q => hc ⟨q.1, q.2.2⟩)]
        refine Or.inl ⟨rfl, rfl, ?_⟩
        rcases Nat.lt_or_ge (n + 1) all with q | q
        · exact q
        · have e : n + 1 = all := by omega
          rw [e] at hc
          exact absurd ⟨pp_sub_rf all, h⟩ hc
    · rw [← r1]
      by_cases hc : pp_sub (n + 1) all ∧ pp_cn (n + 1) 12 < pp_cn (pp_sR S all n) 12 ∧ ¬ (pp_fit S (n + 1) true).isNone = true
      · rw [if_pos ⟨hc.1, Or.inr hc.2.1, hc.2.2⟩, if_pos hc]
        exact Or.inr ⟨rfl, by omega⟩
      · rw [if_neg hc, if_neg (fun q => hc ⟨q.1, q.2.1.elim (fun q => absurd q r2) id, q.2.2⟩)]
        exact Or.inr ⟨rfl, r2⟩
theorem sh_small {S : ss_S} {M : mm_M} {L : ld_L} {s : Nat} (ho : ss_Ok S) (hs : s < 1024) (hH : ss_RH S M) (h : ld_W s L M) (hL : ld_of S s L) : ∃ M1, lp_Chooser_smallestMisfit_22 (nI s) (fun (v2 : Int32) (M_14 : mm_M) => some (v2, M_14)) mm_fu (nI s) 1 M = some (nI (pp_sH S s 1023), M1) ∧ ld_W s L M1 ∧ ss_m 56 71 M M1 := by
  refine pp_ex (lp := fun m (a : Int32 × Int32 × mm_M) => lp_Chooser_smallestMisfit_22 (nI s) _ m a.1 a.2.1 a.2.2) (fun i a => a.1 = nI (pp_sH S s i) ∧ a.2.1 = nI (i + 1) ∧ ld_W s L a.2.2 ∧ ss_m 56 71 M a.2.2) (fun r => ∃ M1, r = some (nI (pp_sH S s 1023), M1) ∧ ld_W s L M1 ∧ ss_m 56 71 M M1) 1023 (by decide) (fun i a hi ha => Or.inl ?_) (fun a ha m => ?_) (a := (nI s, nI 1, M)) ⟨rfl, rfl, h, ss_m.rf⟩
  · obtain ⟨v, x, M'⟩ := a
    obtain ⟨rfl, rfl, h1, h2⟩ := ha
    have hH' := hH.lo h2 (by omega)
    have hb := pp_sH_le S s i (by omega) (by omega)
    have n1 := pp_cn10 (i + 1) (by omega)
    have n2 := pp_cn10 (pp_sH S s i) (by omega)
    show ∃ a' : Int32 × Int32 × mm_M, _ ∧ ∀ m, lp_Chooser_smallestMisfit_22 _ _ (m + 1) (nI (pp_sH S s i)) (nI (i + 1)) M' = lp_Chooser_smallestMisfit_22 _ _ m a'.1 a'.2.1 a'.2.2
    by_cases hc1 : pp_sub (i + 1) s
    · by_cases hc2 : pp_cn (i + 1) 12 < pp_cn (pp_sH S s i) 12
      · obtain ⟨M1, g1, g2, g3⟩ := sh_fitsSet ho hs hH' h1 hL hc1
        by_cases hc3 : (pp_fit S (i + 1) true).isNone = true
        · refine ⟨(nI (pp_sH S s i), nI (i + 1 + 1), M1), ⟨?_, rfl, g2, h2.tr g3⟩, fun m => ?_⟩
          · rw [pp_sH, if_neg (fun q => q.2.2 hc3)]
          · rw [lp_Chooser_smallestMisfit_22, if_neg (show ¬ (1024 : Int32) ≤ nI (i + 1) from nI_ge (show i + 1 < 1024 by omega) (by decide)), sh_isPart (by omega) (by omega), pp_bd, pp_jn, decide_eq_true hc1, if_pos rfl, sh_bitCount (by omega), pp_bd, sh_bitCount (by omega), pp_bd, if_neg (nI_ge hc2 (by omega)), g1, pp_bd, if_pos hc3]
            show mm_let (nI (i + 1) + 1) _ = _
            rw [nI_1, pp_let]
        · refine ⟨(nI (i + 1), nI (i + 1 + 1), M1), ⟨?_, rfl, g2, h2.tr g3⟩, fun m => ?_⟩
          · rw [pp_sH, if_pos ⟨hc1, hc2, hc3⟩]
          · rw [lp_Chooser_smallestMisfit_22, if_neg (show ¬ (1024 : Int32) ≤ nI (i + 1) from nI_ge (show i + 1 < 1024 by omega) (by decide)), sh_isPart (by omega) (by omega), pp_bd, pp_jn, decide_eq_true hc1, if_pos rfl, sh_bitCount (by omega), pp_bd, sh_bitCount (by omega), pp_bd, if_neg (nI_ge hc2 (by omega)), g1, pp_bd, if_neg hc3]
            show mm_let (nI (i + 1) + 1) _ = _
            rw [nI_1, pp_let]
      · refine ⟨(nI (pp_sH S s i), nI (i + 1 + 1), M'), ⟨?_, rfl, h1, h2⟩, fun m => ?_⟩
        · rw [pp_sH, if_neg (fun q => hc2 q.2.1)]
        · rw [lp_Chooser_smallestMisfit_22, if_neg (show ¬ (1024 : Int32) ≤ nI (i + 1) from nI_ge (show i + 1 < 1024 by omega) (by decide)), sh_isPart (by omega) (by omega), pp_bd, pp_jn, decide_eq_true hc1, if_pos rfl, sh_bitCount (by omega), pp_bd, sh_bitCount (by omega), pp_bd, if_pos (nI_le (by omega) (by omega))]
          show mm_let (nI (i + 1) + 1) _ = _
          rw [nI_1, pp_let]
    · refine ⟨(nI (pp_sH S s i), nI (i + 1 + 1), M'), ⟨?_, rfl, h1, h2⟩, fun m => ?_⟩
      · rw [pp_sH, if_neg (fun q => hc1 q.1)]
      · rw [lp_Chooser_smallestMisfit_22, if_neg (show ¬ (1024 : Int32) ≤ nI (i + 1) from nI_ge (show i + 1 < 1024 by omega) (by decide)), sh_isPart (by omega) (by omega), pp_bd, pp_jn, decide_eq_false hc1, if_neg (show ¬ false = true by decide)]
        show mm_let (nI (i + 1) + 1) _ = _
        rw [nI_1, pp_let]
  · obtain ⟨v, x, M'⟩ := a
    obtain ⟨rfl, rfl, h1, h2⟩ := ha
    refine ⟨M', ?_, h1, h2⟩
    show lp_Chooser_smallestMisfit_22 _ _ (m + 1) _ (nI 1024) _ = _
    rw [lp_Chooser_smallestMisfit_22, if_pos (by decide)]
theorem sr_small {S : ss_S} {M : mm_M} {s : Nat} (ho : ss_Ok S) (hR : ss_RR S M) (hs : s < 1024) (h5 : S.1 5 = nI s) : ∃ M1, f_R_smallest M = some (nI (pp_sR S s 1023), M1) ∧ rc_f M M1 := by
  unfold f_R_smallest
  refine pp_ex (lp := fun m (a : Int32 × Int32 × mm_M) => lp_R_smallest_4 _ m a.1 a.2.1 a.2.2) (fun i a => a.1 = nI (pp_sR S s i) ∧ a.2.1 = nI (i + 1) ∧ rc_f M a.2.2) (fun r => ∃ M1, r = some (nI (pp_sR S s 1023), M1) ∧ rc_f M M1) 1023 (by decide) (fun i a hi ha => Or.inl ?_) (fun a ha m => ?_) (a := (nI 0, nI 1, M)) ⟨rfl, rfl, rc_f.rf⟩
  · obtain ⟨v, x, M'⟩ := a
    obtain ⟨rfl, rfl, h2⟩ := ha
    have hR' := h2.RR hR
    have hb := pp_sR_le S s i
    have n1 := pp_cn10 (i + 1) (by omega)
    have n2 := pp_cn10 (pp_sR S s i) (by omega)
    have e12 : M'.1 97 12 = nI s := (hR'.1 5 (by decide)).trans h5
    have hpt := pp_part (t := i + 1) (s := s) (by omega) (by omega)
    show ∃ a' : Int32 × Int32 × mm_M, _ ∧ ∀ m, lp_R_smallest_4 _ (m + 1) (nI (pp_sR S s i)) (nI (i + 1)) M' = lp_R_smallest_4 _ m a'.1 a'.2.1 a'.2.2
    by_cases hc1 : pp_sub (i + 1) s
    · obtain ⟨M1, g1, g2, -⟩ := sr_canBe ho hR' (s := i + 1) (by omega) true
      have kk : ∀ (b : Bool) (A B : Option (Int32 × mm_M)), (pp_fit S (i + 1) true).isNone = b → (mm_bd (f_R_canBe (nI (i + 1)) true M') fun b_4 M_5 => if b_4 = true then A else B) = if b = true then A else B := fun b A B hb => by rw [g1, pp_bd, hb]
      by_cases hc2 : pp_sR S s i = 0 ∨ pp_cn (i + 1) 12 < pp_cn (pp_sR S s i) 12
      · have step : ∀ m, lp_R_smallest_4 (fun (v1 : Int32) (M_10 : mm_M) => some (v1, M_10)) (m + 1) (nI (pp_sR S s i)) (nI (i + 1)) M' = if (pp_fit S (i + 1) true).isNone = true then lp_R_smallest_4 (fun (v1 : Int32) (M_10 : mm_M) => some (v1, M_10)) m (nI (pp_sR S s i)) (nI (i + 1 + 1)) M1 else lp_R_smallest_4 (fun (v1 : Int32) (M_10 : mm_M) => some (v1, M_10)) m (nI (i + 1)) (nI (i + 1 + 1)) M1 := fun m => by
          rw [lp_R_smallest_4, if_neg (show ¬ (1024 : Int32) ≤ nI (i + 1) from nI_ge (show i + 1 < 1024 by omega) (by decide)), pp_jn, e12, if_pos (hpt.mpr hc1), pp_jn]
          have fin : (mm_bd (f_R_canBe (nI (i + 1)) true M') fun b_4 M_5 => if b_4 = true then mm_let (nI (i + 1) + 1) fun v2_2 => lp_R_smallest_4 (fun (v1 : Int32) (M_10 : mm_M) => some (v1, M_10)) m (nI (pp_sR S s i)) v2_2 M_5 else mm_let (nI (i + 1) + 1) fun v2_2 => lp_R_smallest_4 (fun (v1 : Int32) (M_10 : mm_M) => some (v1, M_10)) m (nI (i + 1)) v2_2 M_5) = if (pp_fit S (i + 1) true).isNone = true then lp_R_smallest_4 (fun (v1 : Int32) (M_10 : mm_M) => some (v1, M_10)) m (nI (pp_sR S s i)) (nI (i + 1 + 1)) M1 else lp_R_smallest_4 (fun (v1 : Int32) (M_10 : mm_M) => some (v1, M_10)) m (nI (i + 1)) (nI (i + 1 + 1)) M1 := by
            rw [g1, pp_bd, nI_1, pp_let, pp_let]
          by_cases hz : nI (pp_sR S s i) = 0
          · rw [if_pos hz]
            exact fin
          · have hz2 : pp_cn (i + 1) 12 < pp_cn (pp_sR S s i) 12 := hc2.elim (fun q => by rw [q] at hz; exact absurd rfl hz) id
            rw [if_neg hz, sr_bits (by omega), pp_bd, sr_bits (by omega), pp_bd, if_neg (nI_ge hz2 (by omega))]
            exact fin
        by_cases hc3 : (pp_fit S (i + 1) true).isNone = true
        · refine ⟨(nI (pp_sR S s i), nI (i + 1 + 1), M1), ⟨?_, rfl, h2.tr g2⟩, fun m => ?_⟩
          · rw [pp_sR, if_neg (fun q => q.2.2 hc3)]
          · rw [step m, if_pos hc3]
        · refine ⟨(nI (i + 1), nI (i + 1 + 1), M1), ⟨?_, rfl, h2.tr g2⟩, fun m => ?_⟩
          · rw [pp_sR, if_pos ⟨hc1, hc2, hc3⟩]
          · rw [step m, if_neg hc3]
      · refine ⟨(nI (pp_sR S s i), nI (i + 1 + 1), M'), ⟨?_, rfl, h2⟩, fun m => ?_⟩
        · rw [pp_sR, if_neg (fun q => hc2 q.2.1)]
        · have hz : ¬ nI (pp_sR S s i) = 0 := fun q => hc2 (Or.inl ((nI_eq (b := 0) (by omega) (by decide)).mp q))
          rw [lp_R_smallest_4, if_neg (show ¬ (1024 : Int32) ≤ nI (i + 1) from nI_ge (show i + 1 < 1024 by omega) (by decide)), pp_jn, e12, if_pos (hpt.mpr hc1), pp_jn, if_neg hz, sr_bits (by omega), pp_bd, sr_bits (by omega), pp_bd, if_pos (nI_le (by omega) (by omega))]
          show mm_let (nI (i + 1) + 1) _ = _
          rw [nI_1, pp_let]
    · refine ⟨(nI (pp_sR S s i), nI (i + 1 + 1), M'), ⟨?_, rfl, h2⟩, fun m => ?_⟩
      · rw [pp_sR, if_neg (fun q => hc1 q.1)]
      · rw [lp_R_smallest_4, if_neg (show ¬ (1024 : Int32) ≤ nI (i + 1) from nI_ge (show i + 1 < 1024 by omega) (by decide)), pp_jn, e12, if_neg (fun q => hc1 (hpt.mp q))]
        show mm_let (nI (i + 1) + 1) _ = _
        rw [nI_1, pp_let]
  · obtain ⟨v, x, M'⟩ := a
    obtain ⟨rfl, rfl, h2⟩ := ha
    refine ⟨M', ?_, h2⟩
    show lp_R_smallest_4 _ (m + 1) _ (nI 1024) _ = _
    rw [lp_R_smallest_4, if_pos (by decide)]
section SMALL
variable {Q : Int32 → (Nat → Nat → Int32) → Prop}
theorem p_smallest : ok_smallest (ss_I Q) := by
  intro M hI
  obtain ⟨S, hI⟩ := hI
  obtain ⟨ho, hH, hR, -⟩ := id hI
  obtain ⟨s, hs, h5⟩ := ho.n 5 (by decide)
  have hs : (s : Int) ≤ 1023 := hs
  obtain ⟨L, M1, g1, g2, g3, g4⟩ := sh_begin ho hH (show s < 1024 by omega) h5
  have hH1 := hH.lo g3 (by omega)
  obtain ⟨M2, k1, k2, k3⟩ := sh_fitsSet ho (by omega) hH1 ⟨0, Nat.zero_and s, g2⟩ g4 (pp_sub_rf s)
  have hm := g3.tr k3
  have hH2 := hH.lo hm (by omega)
  have e1 : M1.1 27 0 = nI s := (hH1.1 5 (by decide)).trans h5
  have hRd : ∀ M1, ss_RR S M1 → ∃ M2, f_R_smallest M1 = some (nI (pp_sR S s 1023), M2) ∧ ss_RR S M2 ∧ ss_r M1 M2 := fun M4 hR4 => by
    obtain ⟨M5, c1, c2⟩ := sr_small ho hR4 (by omega) h5
    exact ⟨M5, c1, c2.RR hR4, c2.r⟩
  by_cases hf : (pp_fit S s true).isNone = true
  · have hfn : pp_fit S s true = none := Option.isNone_iff_eq_none.mp hf
    refine ss_same (r := nI (pp_sR S s 1023)) hI ⟨M2, ?_, hH2, hm.h (by omega) (by omega)⟩ hRd
    unfold f_H_smallest f_Chooser_smallestMisfit
    rw [g1, pp_bd, pp_let, e1, k1, pp_bd, if_pos hf, pp_bd, pp_sR_fit ho hfn]
    rfl
  · have h0 : 0 < s := by
      rcases Nat.eq_zero_or_pos s with e | e
      · subst e
        exfalso
        apply hf
        obtain ⟨w, hw, e3⟩ := ho.n 3 (by decide)
        have hw : (w : Int) ≤ 9999 := hw
        have hz : ∀ (n h w : Nat), w ≤ 9999 → pp_can S (pp_all S 0) (pp_rain S 0) true n h (nI w) = none := by
          intro n
          induction n with
          | zero => intros; rfl
          | succ n ih =>
            intro h w hw9
            obtain ⟨c, hc, -, e1⟩ := pp_in9 ho (w := w) hw9
            have za : ∀ k h, pp_all S 0 k h = nI 0 := fun k h => pp_sm_0 (fun b _ => Nat.zero_testBit b)
            have zr : ∀ k h, pp_rain S 0 k h = nI 0 := fun k h => pp_sm_0 (fun b _ => by rw [Nat.zero_testBit]; rfl)
            have pm : ∀ k, k < 3 → nI 0 ≤ S.2 3 k := fun k hk => by
              obtain ⟨n, hn, e⟩ := ho.m 3 (by decide) rfl hk
              have hn : (n : Int) ≤ 999 := hn
              rw [e]
              exact nI_le (Nat.zero_le n) (by omega)
            have pf : ∀ k, k < 4 → nI 0 ≤ S.2 5 k := fun k hk => by
              obtain ⟨n, hn, e⟩ := ho.m 5 (by decide) rfl hk
              have hn : (n : Int) ≤ 999 := hn
              rw [e]
              exact nI_le (Nat.zero_le n) (by omega)
            rw [pp_can, e1, if_pos ((pp_why_iff ..).mpr ?_), za, pp_subN (Nat.zero_le _)]
            · exact ih _ _ (by omega)
            · simp only [za, zr]
              exact ⟨fun _ => ⟨pm 0 (by decide), pm 1 (by decide), pm 2 (by decide)⟩, pf 0 (by decide), pf 1 (by decide), pf 2 (by decide), pf 3 (by decide), nI_le (Nat.zero_le _) (by omega)⟩
        unfold pp_fit
        rw [e3, hz 24 0 w (by omega)]
        rfl
      · exact e
    have heq : pp_sR S s 1023 = pp_sH S s 1023 := by
      rcases pp_sHR (show s < 1024 by omega) hf 1023 h0 with ⟨-, -, q⟩ | ⟨q, -⟩
      · omega
      · exact q
    obtain ⟨M3, l1, l2, l3⟩ := sh_small ho (show s < 1024 by omega) hH2 k2 g4
    have hm2 := hm.tr l3
    refine ss_same (r := nI (pp_sR S s 1023)) hI ⟨M3, ?_, hH.lo hm2 (by omega), hm2.h (by omega) (by omega)⟩ hRd
    unfold f_H_smallest f_Chooser_smallestMisfit
    rw [g1, pp_bd, pp_let, e1, k1, pp_bd, if_neg hf, l1, pp_bd, heq]
end SMALL
