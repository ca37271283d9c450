/-! best, costs -/
def pp_pr (S : ss_S) (t : Nat) : Int32 := pp_sm (fun b => t.testBit b) (fun b => S.2 8 b) 10
theorem sh_pricesOf {S : ss_S} {M : mm_M} (hH : ss_RH S M) {t : Nat} (ht : t < 2 ^ 31) : f_Register_pricesOf_27 (nI t) M = some (pp_pr S t, M) := by
  unfold f_Register_pricesOf_27
  refine pp_for (lp := fun m (a : Int32 × Int32 × mm_M) => lp_Register_pricesOf_27_4 (nI t) _ m a.1 a.2.1 a.2.2) (fun i => (pp_sm (fun b => t.testBit b) (fun b => S.2 8 b) i, nI i, M)) 10 (by decide) (fun i hi m => ?_) (fun m => ?_)
  · show lp_Register_pricesOf_27_4 _ _ (m + 1) _ _ _ = lp_Register_pricesOf_27_4 _ _ m _ _ _
    have e : M.2.1 30 i = S.2 8 i := hH.2 8 (by decide) i hi
    rw [lp_Register_pricesOf_27_4, if_neg (show ¬ (10 : Int32) ≤ nI i from nI_ge hi (by decide)), sh_isIn (by omega), pp_has_k (by omega), pp_bd, pp_jn, pp_sm, mm_al_30]
    cases t.testBit i with
    | false =>
      rw [if_neg (by decide), if_neg (by decide), Int32.add_zero]
      show mm_let (nI i + 1) _ = _
      rw [nI_1, pp_let]
    | true => simp (disch := omega) only [pp_bd, pp_let, pp_jn, zl0, zl1, zl2, zl3, zl4, zl5, zl6, zl7, zl8, zl9, zl10, zl11, zl12, zl14, zl20, zl23, zl24, zl48, zl60, zl72, zl96, zl99, zl100, zl120, zl160, zl180, zl200, zl255, zl720, zl999, zl1023, zl1024, zl4095, zl9999, zl65536, nI_add, pp_mulN, zm1, zm2, zm3, nI_leI, nI_ltI, nI_eq, pp_in, nI_clamp, ↓reduceIte, e]
  · show lp_Register_pricesOf_27_4 _ _ (m + 1) _ _ _ = _
    rw [lp_Register_pricesOf_27_4, if_pos (show (10 : Int32) ≤ nI 10 from nI_le (Nat.le_refl 10) (by decide))]
    rfl
theorem sr_pricesOf {S : ss_S} {M : mm_M} (hR : ss_RR S M) {t : Nat} (ht : t < 2 ^ 31) : f_R_pricesOf (nI t) M = some (pp_pr S t, M) := by
  unfold f_R_pricesOf
  refine pp_for (lp := fun m (a : Int32 × Int32 × mm_M) => lp_R_pricesOf_4 (nI t) _ m a.1 a.2.1 a.2.2) (fun i => (pp_sm (fun b => t.testBit b) (fun b => S.2 8 b) i, nI i, M)) 10 (by decide) (fun i hi m => ?_) (fun m => ?_)
  · show lp_R_pricesOf_4 _ _ (m + 1) _ _ _ = lp_R_pricesOf_4 _ _ m _ _ _
    have e : M.2.1 107 i = S.2 8 i := hR.2 8 (by decide) i hi
    rw [lp_R_pricesOf_4, if_neg (show ¬ (10 : Int32) ≤ nI i from nI_ge hi (by decide)), sr_has ht (by omega), pp_bd, pp_jn, pp_sm, mm_al_107]
    cases t.testBit i with
    | false => simp (disch := omega) only [pp_bd, pp_let, pp_jn, zl0, zl1, zl2, zl3, zl4, zl5, zl6, zl7, zl8, zl9, zl10, zl11, zl12, zl14, zl20, zl23, zl24, zl48, zl60, zl72, zl96, zl99, zl100, zl120, zl160, zl180, zl200, zl255, zl720, zl999, zl1023, zl1024, zl4095, zl9999, zl65536, nI_add, pp_mulN, zm1, zm2, zm3, nI_leI, nI_ltI, nI_eq, pp_in, nI_clamp, ↓reduceIte, Bool.false_eq_true]
    | true => simp (disch := omega) only [pp_bd, pp_let, pp_jn, zl0, zl1, zl2, zl3, zl4, zl5, zl6, zl7, zl8, zl9, zl10, zl11, zl12, zl14, zl20, zl23, zl24, zl48, zl60, zl72, zl96, zl99, zl100, zl120, zl160, zl180, zl200, zl255, zl720, zl999, zl1023, zl1024, zl4095, zl9999, zl65536, nI_add, pp_mulN, zm1, zm2, zm3, nI_leI, nI_ltI, nI_eq, pp_in, nI_clamp, ↓reduceIte, e]
  · show lp_R_pricesOf_4 _ _ (m + 1) _ _ _ = _
    rw [lp_R_pricesOf_4, if_pos (show (10 : Int32) ≤ nI 10 from nI_le (Nat.le_refl 10) (by decide))]
    rfl
def pp_bt (much : Int32) (set : Nat) (muchThan : Int32) (than : Nat) : Bool := decide (muchThan < much ∨ (much = muchThan ∧ pp_cn set 12 < pp_cn than 12))
theorem sh_isBetter {u t : Nat} (hu : u < 1024) (ht : t < 1024) (a b : Int32) (M : mm_M) : f_Chooser_isBetter a (nI u) b (nI t) M = some (pp_bt a u b t, M) := by
  have h1 := pp_cn10 u hu
  have h2 := pp_cn10 t ht
  unfold f_Chooser_isBetter pp_bt
  rw [pp_jn]
  by_cases h : b < a
  · rw [if_pos h, decide_eq_true (Or.inl h)]
  · rw [if_neg h]
    by_cases he : a = b
    · rw [if_pos he, sh_bitCount hu, pp_bd, sh_bitCount ht, pp_bd]
      by_cases hc : pp_cn u 12 < pp_cn t 12
      · rw [if_neg (nI_ge hc (by omega)), decide_eq_true (Or.inr ⟨he, hc⟩)]
      · rw [if_pos (nI_le (by omega) (by omega)), decide_eq_false (fun q => q.elim h (fun q => hc q.2))]
    · rw [if_neg he, decide_eq_false (fun q => q.elim h (fun q => he q.1))]
theorem sr_isBetter {u t : Nat} (hu : u < 1024) (ht : t < 1024) (a b : Int32) (M : mm_M) : f_R_isBetter (nI u) a (nI t) b M = some (pp_bt a u b t, M) := by
  have h1 := pp_cn10 u hu
  have h2 := pp_cn10 t ht
  unfold f_R_isBetter pp_bt
  rw [pp_jn]
  by_cases h : b < a
  · rw [if_pos h, decide_eq_true (Or.inl h)]
  · rw [if_neg h]
    by_cases he : a = b
    · rw [if_pos he, sr_bits (by omega), pp_bd, sr_bits (by omega), pp_bd]
      by_cases hc : pp_cn u 12 < pp_cn t 12
      · rw [if_neg (nI_ge hc (by omega)), decide_eq_true (Or.inr ⟨he, hc⟩)]
      · rw [if_pos (nI_le (by omega) (by omega)), decide_eq_false (fun q => q.elim h (fun q => hc q.2))]
    · rw [if_neg he, decide_eq_false (fun q => q.elim h (fun q => he q.1))]
/-- the best of the sets from 1 to n -/
def pp_bst (S : ss_S) (all : Nat) : Nat → Nat
  | 0 => 0
  | n + 1 => if pp_sub (n + 1) all ∧ pp_bt (pp_pr S (n + 1)) (n + 1) (pp_pr S (pp_bst S all n)) (pp_bst S all n) = true ∧ (pp_fit S (n + 1) true).isNone = true then n + 1 else pp_bst S all n
theorem pp_bst_le (S : ss_S) (all n : Nat) : pp_bst S all n ≤ n ∧ pp_sub (pp_bst S all n) all := by
  induction n with
  | zero => exact ⟨Nat.le_refl _, Nat.zero_and all⟩
  | succ n ih =>
    rw [pp_bst]
    split
    · rename_i h
      exact ⟨Nat.le_refl _, h.1⟩
    · exact ⟨by omega, ih.2⟩
theorem pp_sub_tr {a b c : Nat} (h : pp_sub a b) (h2 : pp_sub b c) : pp_sub a c := pp_subI (fun _ hi => pp_sub_tb h2 (pp_sub_tb h hi))
/-- the class's load stands at some set of stays -/
def ld_W (s : Nat) (L : ld_L) (M : mm_M) : Prop := ∃ t, pp_sub t s ∧ ld_I L t M
theorem sh_fitsSet {S : ss_S} {M : mm_M} {L : ld_L} {s u : Nat} (ho : ss_Ok S) (hs : s < 1024) (hH : ss_RH S M) (h : ld_W s L M) (hL : ld_of S s L) (hu : pp_sub u s) : ∃ M1, f_Chooser_fits (nI u) M = some ((pp_fit S u true).isNone, M1) ∧ ld_W s L M1 ∧ ss_m 56 71 M M1 := by
  obtain ⟨t, ht, hI⟩ := h
  obtain ⟨M2, k1, k2, k3⟩ := sh_turnTo hI (t := u) (by have := pp_sub_le hu; omega) (ld_of_F ho hL ht) (ld_of_F ho hL hu)
  refine ⟨ld_end M2 (pp_fit S u true), ?_, ⟨u, hu, ld_end_I k2 _⟩, k3.tr (ld_end_m _ _)⟩
  have := sh_fits (hH.lo k3 (by omega)) k2 hL hu true
  rw [if_pos rfl] at this
  unfold f_Chooser_fits f_Load_fits
  rw [k1, pp_bd, show (0 : Int32) = nI 0 from rfl, this]
  rfl
theorem sh_bestOf {S : ss_S} {M : mm_M} {L : ld_L} {s all : Nat} (ho : ss_Ok S) (hs : s < 1024) (hH : ss_RH S M) (h : ld_W s L M) (hL : ld_of S s L) (ha : pp_sub all s) : ∃ M1, f_Chooser_bestOf (nI all) M = some (nI (pp_bst S all 1023), M1) ∧ ld_W s L M1 ∧ ss_m 56 71 M M1 := by
  have hall := pp_sub_le ha
  unfold f_Chooser_bestOf
  refine pp_ex (lp := fun m (a : Int32 × Int32 × Int32 × mm_M) => lp_Chooser_bestOf_7 (nI all) _ m a.1 a.2.1 a.2.2.1 a.2.2.2) (fun i a => a.1 = nI (pp_bst S all i) ∧ a.2.1 = pp_pr S (pp_bst S all i) ∧ a.2.2.1 = nI (i + 1) ∧ ld_W s L a.2.2.2 ∧ ss_m 56 71 M a.2.2.2) (fun r => ∃ M1, r = some (nI (pp_bst S all 1023), M1) ∧ ld_W s L M1 ∧ ss_m 56 71 M M1) 1023 (by decide) (fun i a hi ha => Or.inl ?_) (fun a ha m => ?_) (a := (nI 0, nI 0, nI 1, M)) ⟨rfl, (pp_sm_0 (fun b _ => Nat.zero_testBit b)).symm, rfl, h, ss_m.rf⟩
  · obtain ⟨v, w, x, M'⟩ := a
    obtain ⟨rfl, rfl, rfl, h1, h2⟩ := ha
    have hH' := hH.lo h2 (by omega)
    have hb := (pp_bst_le S all i).1
    show ∃ a' : Int32 × Int32 × Int32 × mm_M, _ ∧ ∀ m, lp_Chooser_bestOf_7 _ _ (m + 1) (nI (pp_bst S all i)) (pp_pr S (pp_bst S all i)) (nI (i + 1)) M' = lp_Chooser_bestOf_7 _ _ m a'.1 a'.2.1 a'.2.2.1 a'.2.2.2
    by_cases hc1 : pp_sub (i + 1) all
    · by_cases hc2 : pp_bt (pp_pr S (i + 1)) (i + 1) (pp_pr S (pp_bst S all i)) (pp_bst S all i) = true
      · obtain ⟨M1, g1, g2, g3⟩ := sh_fitsSet ho hs hH' h1 hL (pp_sub_tr hc1 ha)
        by_cases hc3 : (pp_fit S (i + 1) true).isNone = true
        · refine ⟨(nI (i + 1), pp_pr S (i + 1), nI (i + 1 + 1), M1), ⟨?_, ?_, rfl, g2, h2.tr g3⟩, fun m => ?_⟩
          · rw [pp_bst, if_pos ⟨hc1, hc2, hc3⟩]
          · rw [pp_bst, if_pos ⟨hc1, hc2, hc3⟩]
          · rw [lp_Chooser_bestOf_7, if_neg (show ¬ (1024 : Int32) ≤ nI (i + 1) from nI_ge (show i + 1 < 1024 by omega) (by decide)), sh_isPart (by omega) (by omega), pp_bd, pp_jn, decide_eq_true hc1, if_pos rfl, sh_pricesOf hH' (by omega), pp_bd, sh_isBetter (by omega) (by omega), pp_bd, hc2, if_pos rfl, g1, pp_bd, if_pos hc3]
            show mm_let (nI (i + 1) + 1) _ = _
            rw [nI_1, pp_let]
        · refine ⟨(nI (pp_bst S all i), pp_pr S (pp_bst S all i), nI (i + 1 + 1), M1), ⟨?_, ?_, rfl, g2, h2.tr g3⟩, fun m => ?_⟩
          · rw [pp_bst, if_neg (fun q => hc3 q.2.2)]
          · rw [pp_bst, if_neg (fun q => hc3 q.2.2)]
          · rw [lp_Chooser_bestOf_7, if_neg (show ¬ (1024 : Int32) ≤ nI (i + 1) from nI_ge (show i + 1 < 1024 by omega) (by decide)), sh_isPart (by omega) (by omega), pp_bd, pp_jn, decide_eq_true hc1, if_pos rfl, sh_pricesOf hH' (by omega), pp_bd, sh_isBetter (by omega) (by omega), pp_bd, hc2, if_pos rfl, g1, pp_bd, if_neg hc3]
            show mm_let (nI (i + 1) + 1) _ = _
            rw [nI_1, pp_let]
      · refine ⟨(nI (pp_bst S all i), pp_pr S (pp_bst S all i), nI (i + 1 + 1), M'), ⟨?_, ?_, rfl, h1, h2⟩, fun m => ?_⟩
        · rw [pp_bst, if_neg (fun q => hc2 q.2.1)]
        · rw [pp_bst, if_neg (fun q => hc2 q.2.1)]
        · rw [lp_Chooser_bestOf_7, if_neg (show ¬ (1024 : Int32) ≤ nI (i + 1) from nI_ge (show i + 1 < 1024 by omega) (by decide)), sh_isPart (by omega) (by omega), pp_bd, pp_jn, decide_eq_true hc1, if_pos rfl, sh_pricesOf hH' (by omega), pp_bd, sh_isBetter (by omega) (by omega), pp_bd, if_neg hc2]
          show mm_let (nI (i + 1) + 1) _ = _
          rw [nI_1, pp_let]
    · refine ⟨(nI (pp_bst S all i), pp_pr S (pp_bst S all i), nI (i + 1 + 1), M'), ⟨?_, ?_, rfl, h1, h2⟩, fun m => ?_⟩
      · rw [pp_bst, if_neg (fun q => hc1 q.1)]
      · rw [pp_bst, if_neg (fun q => hc1 q.1)]
      · rw [lp_Chooser_bestOf_7, if_neg (show ¬ (1024 : Int32) ≤ nI (i + 1) from nI_ge (show i + 1 < 1024 by omega) (by decide)), sh_isPart (by omega) (by omega), pp_bd, pp_jn, decide_eq_false hc1, if_neg (show ¬ false = true by decide)]
        show mm_let (nI (i + 1) + 1) _ = _
        rw [nI_1, pp_let]
  · obtain ⟨v, w, x, M'⟩ := a
    obtain ⟨rfl, rfl, rfl, h1, h2⟩ := ha
    refine ⟨M', ?_, h1, h2⟩
    show lp_Chooser_bestOf_7 _ _ (m + 1) _ _ (nI 1024) _ = _
    rw [lp_Chooser_bestOf_7, if_pos (by decide)]
theorem sr_bestOf {S : ss_S} {M : mm_M} {all : Nat} (ho : ss_Ok S) (hR : ss_RR S M) (ha : all < 1024) : ∃ M1, f_R_bestOf (nI all) M = some (nI (pp_bst S all 1023), M1) ∧ rc_f M M1 := by
  unfold f_R_bestOf
  refine pp_ex (lp := fun m (a : Int32 × Int32 × mm_M) => lp_R_bestOf_4 (nI all) _ m a.1 a.2.1 a.2.2) (fun i a => a.1 = nI (pp_bst S all i) ∧ a.2.1 = nI (i + 1) ∧ rc_f M a.2.2) (fun r => ∃ M1, r = some (nI (pp_bst S all 1023), M1) ∧ rc_f M M1) 1023 (by decide) (fun i a hi ha => Or.inl ?_) (fun a ha m => ?_) (a := (nI 0, nI 1, M)) ⟨rfl, rfl, rc_f.rf⟩
  · obtain ⟨v, x, M'⟩ := a
    obtain ⟨rfl, rfl, h2⟩ := ha
    have hR' := h2.RR hR
    have hb := (pp_bst_le S all i).1
    have hpt := pp_part (t := i + 1) (s := all) (by omega) (by omega)
    show ∃ a' : Int32 × Int32 × mm_M, _ ∧ ∀ m, lp_R_bestOf_4 _ _ (m + 1) (nI (pp_bst S all i)) (nI (i + 1)) M' = lp_R_bestOf_4 _ _ m a'.1 a'.2.1 a'.2.2
    by_cases hc1 : pp_sub (i + 1) all
    · by_cases hc2 : pp_bt (pp_pr S (i + 1)) (i + 1) (pp_pr S (pp_bst S all i)) (pp_bst S all i) = true
      · obtain ⟨M1, g1, g2, -⟩ := sr_canBe ho hR' (s := i + 1) (by omega) true
        by_cases hc3 : (pp_fit S (i + 1) true).isNone = true
        · refine ⟨(nI (i + 1), nI (i + 1 + 1), M1), ⟨?_, rfl, h2.tr g2⟩, fun m => ?_⟩
          · rw [pp_bst, if_pos ⟨hc1, hc2, hc3⟩]
          · rw [lp_R_bestOf_4, if_neg (show ¬ (1024 : Int32) ≤ nI (i + 1) from nI_ge (show i + 1 < 1024 by omega) (by decide)), pp_jn, if_pos (hpt.mpr hc1), sr_pricesOf hR' (by omega), pp_bd, sr_pricesOf hR' (by omega), pp_bd, sr_isBetter (by omega) (by omega), pp_bd, hc2, if_pos rfl, g1, pp_bd, if_pos hc3]
            show mm_let (nI (i + 1) + 1) _ = _
            rw [nI_1, pp_let]
        · refine ⟨(nI (pp_bst S all i), nI (i + 1 + 1), M1), ⟨?_, rfl, h2.tr g2⟩, fun m => ?_⟩
          · rw [pp_bst, if_neg (fun q => hc3 q.2.2)]
          · rw [lp_R_bestOf_4, if_neg (show ¬ (1024 : Int32) ≤ nI (i + 1) from nI_ge (show i + 1 < 1024 by omega) (by decide)), pp_jn, if_pos (hpt.mpr hc1), sr_pricesOf hR' (by omega), pp_bd, sr_pricesOf hR' (by omega), pp_bd, sr_isBetter (by omega) (by omega), pp_bd, hc2, if_pos rfl, g1, pp_bd, if_neg hc3]
            show mm_let (nI (i + 1) + 1) _ = _
            rw [nI_1, pp_let]
      · refine ⟨(nI (pp_bst S all i), nI (i + 1 + 1), M'), ⟨?_, rfl, h2⟩, fun m => ?_⟩
        · rw [pp_bst, if_neg (fun q => hc2 q.2.1)]
        · rw [lp_R_bestOf_4, if_neg (show ¬ (1024 : Int32) ≤ nI (i + 1) from nI_ge (show i + 1 < 1024 by omega) (by decide)), pp_jn, if_pos (hpt.mpr hc1), sr_pricesOf hR' (by omega), pp_bd, sr_pricesOf hR' (by omega), pp_bd, sr_isBetter (by omega) (by omega), pp_bd, if_neg hc2]
          show mm_let (nI (i + 1) + 1) _ = _
          rw [nI_1, pp_let]
    · refine ⟨(nI (pp_bst S all i), nI (i + 1 + 1), M'), ⟨?_, rfl, h2⟩, fun m => ?_⟩
      · rw [pp_bst, if_neg (fun q => hc1 q.1)]
      · rw [lp_R_bestOf_4, if_neg (show ¬ (1024 : Int32) ≤ nI (i + 1) from nI_ge (show i + 1 < 1024 by omega) (by decide)), pp_jn, if_neg (fun q => hc1 (hpt.mp q))]
        show mm_let (nI (i + 1) + 1) _ = _
        rw [nI_1, pp_let]
  · obtain ⟨v, x, M'⟩ := a
    obtain ⟨rfl, rfl, h2⟩ := ha
    refine ⟨M', ?_, h2⟩
    show lp_R_bestOf_4 _ _ (m + 1) _ (nI 1024) _ = _
    rw [lp_R_bestOf_4, if_pos (by decide)]
theorem i_1 : (1 : Int32).toInt = 1 := rfl
section BEST
variable {Q : Int32 → (Nat → Nat → Int32) → Prop}
theorem p_best : ok_best (ss_I Q) := by
  intro v M hI
  obtain ⟨S, hI⟩ := hI
  obtain ⟨ho, hH, hR, -⟩ := id hI
  obtain ⟨s, hs, h5⟩ := ho.n 5 (by decide)
  have hs : (s : Int) ≤ 1023 := hs
  have hvr : ∀ M' : mm_M, f_R_in v 0 1 M' = some (decide (0 ≤ v.toInt ∧ v.toInt < 2), M') := fun M' => by
    rw [sr_in, i_0, i_1]
    congr 3
    exact propext (by omega)
  by_cases hv : 0 ≤ v.toInt ∧ v.toInt < 2
  · obtain ⟨x, hx, rfl⟩ := ii_nat (n := 2) hv.1 hv.2 (by decide)
    obtain ⟨L, M1, g1, g2, g3, g4⟩ := sh_begin ho hH (show s < 1024 by omega) h5
    have hH1 := hH.lo g3 (by omega)
    obtain ⟨M2, k1, k2, k3⟩ := sh_bestOf ho (by omega) hH1 ⟨0, Nat.zero_and s, g2⟩ g4 (pp_sub_rf s)
    have hm := g3.tr k3
    have hH2 := hH.lo hm (by omega)
    have hb := (pp_bst_le S s 1023).1
    have e1 : M1.1 27 0 = nI s := (hH1.1 5 (by decide)).trans h5
    refine ss_same (r := if x = 0 then pp_pr S (pp_bst S s 1023) else nI (pp_bst S s 1023)) hI ⟨M2, ?_, hH2, hm.h (by omega) (by omega)⟩ (fun M3 hR3 => ?_)
    · unfold f_H_best
      rw [sh_isBelow, pp_bd, i_2, decide_eq_true hv, if_pos rfl, g1, pp_bd, e1, k1, pp_bd, sh_pricesOf hH2 (by omega), pp_bd]
      have hx2 : x = 0 ∨ x = 1 := by omega
      rcases hx2 with rfl | rfl
      · rw [if_pos (by decide)]; rfl
      · rw [if_neg (by decide)]; rfl
    · obtain ⟨M4, c1, c2⟩ := sr_bestOf ho hR3 (all := s) (by omega)
      refine ⟨M4, ?_, c2.RR hR3, c2.r⟩
      unfold f_R_best
      rw [hvr, pp_bd, decide_eq_true hv, if_pos rfl, show M3.1 97 12 = nI s from (hR3.1 5 (by decide)).trans h5, c1, pp_bd, sr_pricesOf (c2.RR hR3) (by omega), pp_bd]
      have hx2 : x = 0 ∨ x = 1 := by omega
      rcases hx2 with rfl | rfl
      · rw [if_pos (by decide)]; rfl
      · rw [if_neg (by decide)]; rfl
  · refine ss_same (r := -1) hI ⟨M, ?_, hH, ss_h.rf⟩ (fun M1 hR1 => ⟨M1, ?_, hR1, ss_r.rf⟩)
    · unfold f_H_best
      rw [sh_isBelow, pp_bd, i_2, decide_eq_false hv, if_neg (by decide)]
    · unfold f_R_best
      rw [hvr, pp_bd, decide_eq_false hv, if_neg (by decide)]
theorem p_costs : ok_costs (ss_I Q) := by
  intro v M hI
  obtain ⟨S, hI⟩ := hI
  obtain ⟨ho, hH, hR, -⟩ := id hI
  obtain ⟨s, hs, h5⟩ := ho.n 5 (by decide)
  have hs : (s : Int) ≤ 1023 := hs
  by_cases hv : pp_has s v = true
  · obtain ⟨b, hb12, rfl, hbt⟩ := pp_has_of hv
    have hb : b < 10 := pp_tb_lt (n := 10) (show s < 2 ^ 10 by omega) hbt
    obtain ⟨L, M1, g1, g2, g3, g4⟩ := sh_begin ho hH (show s < 1024 by omega) h5
    have hH1 := hH.lo g3 (by omega)
    have e1 : M1.1 27 0 = nI s := (hH1.1 5 (by decide)).trans h5
    have hdel : pp_sub (pp_delN s b) s := pp_subI (fun i hi => by
      have hi12 : i < 12 := pp_tb_lt (n := 12) (show pp_delN s b < 2 ^ 12 by have := pp_delN_le s b; omega) hi
      rw [pp_delN_tb (by omega) hi12] at hi
      cases hq : s.testBit i
      · rw [hq] at hi; cases hi
      · rfl)
    have hdl := pp_delN_le s b
    obtain ⟨M2, k1, k2, k3⟩ := sh_bestOf ho (by omega) hH1 ⟨0, Nat.zero_and s, g2⟩ g4 hdel
    have hH2 := hH1.lo k3 (by omega)
    obtain ⟨M3, l1, l2, l3⟩ := sh_bestOf ho (by omega) hH2 k2 g4 (pp_sub_rf s)
    have hm := (g3.tr k3).tr l3
    have hH3 := hH.lo hm (by omega)
    have hb1 := (pp_bst_le S s 1023).1
    have hb2 := (pp_bst_le S (pp_delN s b) 1023).1
    have e2 : M2.1 27 0 = nI s := (hH2.1 5 (by decide)).trans h5
    have hand : pp_bst S s 1023 &&& pp_delN s b ≤ pp_bst S s 1023 := Nat.and_le_left
    have hpr : pp_pr S (pp_bst S s 1023 &&& pp_delN s b) = pp_pr S (pp_bst S s 1023) - if (pp_bst S s 1023).testBit b then S.2 8 b else 0 := by
      have htb : ∀ i, i < 10 → (pp_bst S s 1023 &&& pp_delN s b).testBit i = ((pp_bst S s 1023).testBit i && !(decide (i = b))) := fun i hi => by
        rw [Nat.testBit_and, pp_delN_tb (by omega) (by omega)]
        cases hq : (pp_bst S s 1023).testBit i
        · rfl
        · rw [pp_sub_tb (pp_bst_le S s 1023).2 hq]; simp
      cases hq : (pp_bst S s 1023).testBit b with
      | true =>
        unfold pp_pr
        rw [pp_sm_out (c := fun i => (pp_bst S s 1023).testBit i) (d := fun i => (pp_bst S s 1023 &&& pp_delN s b).testBit i) hb hq (by rw [htb b hb]; simp) (fun i hi hne => by rw [htb i hi]; simp [hne]), if_pos rfl]
        rw [show (-1 : Int32) * S.2 8 b = - S.2 8 b from by rw [Int32.neg_mul, Int32.one_mul], Int32.sub_eq_add_neg]
      | false =>
        rw [if_neg (by decide), Int32.sub_zero]
        refine pp_sm_ext (fun i hi => ?_)
        rw [htb i hi]
        by_cases e : i = b
        · rw [e, hq]; rfl
        · simp [e]
    have emask : ∀ x : Int32, x = nI s → x &&& ((1 <<< (nI b &&& 31)) ^^^ (-1)) = nI (pp_delN s b) := fun x hx => by
      rw [hx]
      exact pp_del (by omega) hb12
    refine ss_same (r := pp_pr S (pp_bst S (pp_delN s b) 1023) - pp_pr S (pp_bst S s 1023 &&& pp_delN s b)) hI ⟨M3, ?_, hH3, hm.h (by omega) (by omega)⟩ (fun M4 hR4 => ?_)
    · unfold f_H_costs
      rw [sh_has hH (by omega) h5, pp_bd, hv, if_pos rfl, g1, pp_bd, emask _ e1, pp_let, k1, pp_bd, sh_pricesOf hH2 (by omega), pp_bd, e2, l1, pp_bd, pp_andN, sh_pricesOf hH3 (by omega), pp_bd]
    · have e12 : M4.1 97 12 = nI s := (hR4.1 5 (by decide)).trans h5
      obtain ⟨M5, c1, c2⟩ := sr_bestOf ho hR4 (all := s) (by omega)
      have hR5 := c2.RR hR4
      have e13 : M5.1 97 12 = nI s := (hR5.1 5 (by decide)).trans h5
      obtain ⟨M6, d1, d2⟩ := sr_bestOf ho hR5 (all := pp_delN s b) (by omega)
      have hR6 := d2.RR hR5
      refine ⟨M6, ?_, hR6, (c2.tr d2).r⟩
      unfold f_R_costs
      rw [sr_isStay hR4 (by omega) h5, pp_bd, hv, if_pos rfl, e12, c1, pp_bd, emask _ e13, d1, pp_bd, sr_pricesOf hR6 (by omega), pp_bd, sr_pricesOf hR6 (by omega), pp_bd, sr_has (by omega) (by omega), pp_bd, hpr, mm_al_107, pp_in hb (by decide), if_pos rfl, nI_clamp (by omega), show M6.2.1 107 b = S.2 8 b from hR6.2 8 (by decide) b hb]
      cases (pp_bst S s 1023).testBit b <;> rfl
  · have hv : pp_has s v = false := by
      cases hq : pp_has s v
      · rfl
      · exact absurd hq hv
    refine ss_same (r := -1000000) hI ⟨M, ?_, hH, ss_h.rf⟩ (fun M1 hR1 => ⟨M1, ?_, hR1, ss_r.rf⟩)
    · unfold f_H_costs
      rw [sh_has hH (by omega) h5, pp_bd, hv, if_neg (by decide)]
    · unfold f_R_costs
      rw [sr_isStay hR1 (by omega) h5, pp_bd, hv, if_neg (by decide)]
end BEST
