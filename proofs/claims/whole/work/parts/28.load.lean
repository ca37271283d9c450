/-! what stays want; the load of the class -/
theorem mm_al_69 : mm_al 69 = 72 := rfl
theorem mm_al_70 : mm_al 70 = 96 := rfl
theorem mm_al_68 : mm_al 68 = 10 := rfl
theorem mm_al_28 : mm_al 28 = 10 := rfl
theorem mm_al_29 : mm_al 29 = 10 := rfl
theorem mm_al_30 : mm_al 30 = 10 := rfl
theorem mm_al_31 : mm_al 31 = 10 := rfl
theorem mm_al_23 : mm_al 23 = 10 := rfl
theorem mm_al_24 : mm_al 24 = 3 := rfl
theorem mm_al_25 : mm_al 25 = 3 := rfl
theorem mm_al_26 : mm_al 26 = 4 := rfl
theorem mm_al_106 : mm_al 106 = 10 := rfl
theorem mm_al_107 : mm_al 107 = 10 := rfl
theorem mm_al_108 : mm_al 108 = 10 := rfl
theorem mm_al_99 : mm_al 99 = 864 := rfl
theorem mm_al_101 : mm_al 101 = 10 := rfl
theorem mm_al_102 : mm_al 102 = 3 := rfl
theorem mm_al_103 : mm_al 103 = 3 := rfl
theorem mm_al_104 : mm_al 104 = 4 := rfl
theorem mm_al_105 : mm_al 105 = 10 := rfl
/-- a stay's day, shift and room as natural numbers -/
def pp_dy (S : ss_S) (b : Nat) : Nat := (S.2 7 b).toInt.toNat
def pp_sf (S : ss_S) (b : Nat) : Nat := ((S.2 9 b).toInt + 3).toNat
def pp_rm (S : ss_S) (b : Nat) : Nat := (S.2 6 b).toInt.toNat
def pp_hr (a h : Nat) : Nat := (h + 27 - a) % 24
theorem pp_dy_e {S : ss_S} (h : ss_Ok S) {b : Nat} (hb : b < 10) : S.2 7 b = nI (pp_dy S b) ∧ pp_dy S b < 12 := by
  have h1 := h.2 7 (by decide) b hb
  have h2 : (S.2 7 b).toInt ≤ 11 := h1.2
  have h3 : 0 ≤ (S.2 7 b).toInt := h1.1
  unfold pp_dy
  refine ⟨?_, by omega⟩
  rw [ii_eq, nI_toInt (by omega)]
  omega
theorem pp_rm_e {S : ss_S} (h : ss_Ok S) {b : Nat} (hb : b < 10) : S.2 6 b = nI (pp_rm S b) ∧ pp_rm S b < 10 := by
  have h1 := h.2 6 (by decide) b hb
  have h2 : (S.2 6 b).toInt ≤ 9 := h1.2
  have h3 : 0 ≤ (S.2 6 b).toInt := h1.1
  unfold pp_rm
  refine ⟨?_, by omega⟩
  rw [ii_eq, nI_toInt (by omega)]
  omega
theorem pp_sfN : ∀ a, a < 7 → (nI a - 3).toInt = (a : Int) - 3 := by decide +kernel
theorem pp_sf_e {S : ss_S} (h : ss_Ok S) {b : Nat} (hb : b < 10) : S.2 9 b = nI (pp_sf S b) - 3 ∧ pp_sf S b < 7 := by
  have h1 := h.2 9 (by decide) b hb
  have h2 : (S.2 9 b).toInt ≤ 3 := h1.2
  have h3 : -3 ≤ (S.2 9 b).toInt := h1.1
  have h4 : pp_sf S b < 7 := by unfold pp_sf; omega
  refine ⟨?_, h4⟩
  rw [ii_eq, pp_sfN _ h4]
  unfold pp_sf
  omega
def pp_want (S : ss_S) (b k h : Nat) : Int32 := S.2 1 (72 * pp_dy S b + 24 * k + pp_hr (pp_sf S b) h)
def pp_fl (S : ss_S) (b : Nat) : Int32 := S.2 2 (pp_rm S b)
theorem pp_fl_e {S : ss_S} (h : ss_Ok S) {b : Nat} (hb : b < 10) : ∃ f : Nat, f < 4 ∧ pp_fl S b = nI f := by
  obtain ⟨n, hn, e⟩ := h.m 2 (by decide) rfl (j := pp_rm S b) (pp_rm_e h hb).2
  have hn : (n : Int) ≤ 3 := hn
  exact ⟨n, by omega, e⟩
theorem pp_want_e {S : ss_S} (h : ss_Ok S) {b k : Nat} (hb : b < 10) (hk : k < 3) (hr : Nat) : ∃ v : Nat, v ≤ 99 ∧ pp_want S b k hr = nI v := by
  have h1 := pp_dy_e h hb
  obtain ⟨n, hn, e⟩ := h.m 1 (by decide) rfl (j := 72 * pp_dy S b + 24 * k + pp_hr (pp_sf S b) hr) (by
    show _ < 864
    unfold pp_hr
    omega)
  have hn : (n : Int) ≤ 99 := hn
  exact ⟨n, by omega, e⟩
/-- what a set of stays wants -/
def pp_all (S : ss_S) (s k h : Nat) : Int32 := pp_sm (fun b => s.testBit b) (fun b => pp_want S b k h) 10
def pp_rain (S : ss_S) (s f h : Nat) : Int32 := pp_sm (fun b => s.testBit b && decide (pp_fl S b = nI f)) (fun b => pp_want S b 0 h) 10
theorem pp_hrN : ∀ a, a < 7 → ∀ h, h < 24 → mm_rem ((nI h + 24) - (nI a - 3)) 24 = nI (pp_hr a h) := by decide +kernel
theorem sr_wantOf {S : ss_S} {M : mm_M} (ho : ss_Ok S) (hR : ss_RR S M) {b k h : Nat} (hb : b < 10) (hk : k < 3) (hh : h < 24) : f_R_wantOf (nI b) (nI k) (nI h) M = some (pp_want S b k h, M) := by
  have e1 : M.2.1 106 b = nI (pp_dy S b) := (hR.2 7 (by decide) b hb).trans (pp_dy_e ho hb).1
  have e2 : M.2.1 108 b = nI (pp_sf S b) - 3 := (hR.2 9 (by decide) b hb).trans (pp_sf_e ho hb).1
  have h1 := (pp_dy_e ho hb).2
  have e4 := pp_hrN _ (pp_sf_e ho hb).2 h hh
  have hx : 72 * pp_dy S b + 24 * k + pp_hr (pp_sf S b) h < 864 := by unfold pp_hr; omega
  have e3 : M.2.1 99 (72 * pp_dy S b + 24 * k + pp_hr (pp_sf S b) h) = pp_want S b k h := hR.2 1 (by decide) _ hx
  unfold f_R_wantOf
  have e5 : ((72 : Int32) * nI (pp_dy S b)) + (24 * nI k) + nI (pp_hr (pp_sf S b) h) = nI (72 * pp_dy S b + 24 * k + pp_hr (pp_sf S b) h) := by simp (disch := omega) only [pp_bd, pp_let, pp_jn, zl0, zl1, zl2, zl3, zl4, zl5, zl6, zl7, zl8, zl9, zl10, zl11, zl12, zl14, zl20, zl23, zl24, zl48, zl60, zl72, zl96, zl99, zl100, zl120, zl160, zl180, zl200, zl255, zl720, zl999, zl1023, zl1024, zl4095, zl9999, zl65536, nI_add, pp_mulN, zm1, zm2, zm3, nI_leI, nI_ltI, nI_eq, pp_in, nI_clamp, ↓reduceIte]
  rw [mm_al_106, mm_al_108, mm_al_99, nI_clamp (by omega), e1, e2, e4, e5]
  simp (disch := omega) only [pp_bd, pp_let, pp_jn, zl0, zl1, zl2, zl3, zl4, zl5, zl6, zl7, zl8, zl9, zl10, zl11, zl12, zl14, zl20, zl23, zl24, zl48, zl60, zl72, zl96, zl99, zl100, zl120, zl160, zl180, zl200, zl255, zl720, zl999, zl1023, zl1024, zl4095, zl9999, zl65536, nI_add, pp_mulN, zm1, zm2, zm3, nI_leI, nI_ltI, nI_eq, pp_in, nI_clamp, ↓reduceIte, e3]
theorem sr_wantAll {S : ss_S} {M : mm_M} (ho : ss_Ok S) (hR : ss_RR S M) {s k h : Nat} (hs : s < 2 ^ 31) (hk : k < 3) (hh : h < 24) : f_R_wantAll (nI s) (nI k) (nI h) M = some (pp_all S s k h, M) := by
  unfold f_R_wantAll
  refine pp_for (lp := fun m (a : Int32 × Int32 × mm_M) => lp_R_wantAll_6 (nI s) (nI k) (nI h) _ m a.1 a.2.1 a.2.2) (fun i => (pp_sm (fun b => s.testBit b) (fun b => pp_want S b k h) i, nI i, M)) 10 (by decide) (fun i hi m => ?_) (fun m => ?_)
  · show lp_R_wantAll_6 _ _ _ _ (m + 1) _ _ _ = lp_R_wantAll_6 _ _ _ _ m _ _ _
    rw [lp_R_wantAll_6, if_neg (show ¬ (10 : Int32) ≤ nI i from nI_ge hi (by decide)), sr_has hs (by omega), pp_bd, pp_jn, pp_sm, sr_wantOf ho hR hi hk hh]
    cases s.testBit i with
    | false => simp (disch := omega) only [pp_bd, pp_let, pp_jn, zl0, zl1, zl2, zl3, zl4, zl5, zl6, zl7, zl8, zl9, zl10, zl11, zl12, zl14, zl20, zl23, zl24, zl48, zl60, zl72, zl96, zl99, zl100, zl120, zl160, zl180, zl200, zl255, zl720, zl999, zl1023, zl1024, zl4095, zl9999, zl65536, nI_add, pp_mulN, zm1, zm2, zm3, nI_leI, nI_ltI, nI_eq, pp_in, nI_clamp, ↓reduceIte, Bool.false_eq_true]
    | true => simp (disch := omega) only [pp_bd, pp_let, pp_jn, zl0, zl1, zl2, zl3, zl4, zl5, zl6, zl7, zl8, zl9, zl10, zl11, zl12, zl14, zl20, zl23, zl24, zl48, zl60, zl72, zl96, zl99, zl100, zl120, zl160, zl180, zl200, zl255, zl720, zl999, zl1023, zl1024, zl4095, zl9999, zl65536, nI_add, pp_mulN, zm1, zm2, zm3, nI_leI, nI_ltI, nI_eq, pp_in, nI_clamp, ↓reduceIte]
  · show lp_R_wantAll_6 _ _ _ _ (m + 1) _ _ _ = _
    rw [lp_R_wantAll_6, if_pos (show (10 : Int32) ≤ nI 10 from nI_le (Nat.le_refl 10) (by decide))]
    rfl
theorem sr_rainOf {S : ss_S} {M : mm_M} (ho : ss_Ok S) (hR : ss_RR S M) {s f h : Nat} (hs : s < 2 ^ 31) (hf : f < 4) (hh : h < 24) : f_R_rainOf (nI s) (nI f) (nI h) M = some (pp_rain S s f h, M) := by
  unfold f_R_rainOf
  refine pp_for (lp := fun m (a : Int32 × Int32 × mm_M) => lp_R_rainOf_6 (nI s) (nI f) (nI h) _ m a.1 a.2.1 a.2.2) (fun i => (pp_sm (fun b => s.testBit b && decide (pp_fl S b = nI f)) (fun b => pp_want S b 0 h) i, nI i, M)) 10 (by decide) (fun i hi m => ?_) (fun m => ?_)
  · show lp_R_rainOf_6 _ _ _ _ (m + 1) _ _ _ = lp_R_rainOf_6 _ _ _ _ m _ _ _
    have e1 : M.2.1 105 i = nI (pp_rm S i) := (hR.2 6 (by decide) i hi).trans (pp_rm_e ho hi).1
    have h1 := (pp_rm_e ho hi).2
    have e2 : M.2.1 101 (pp_rm S i) = pp_fl S i := hR.2 2 (by decide) _ h1
    have e3 : f_R_wantOf (nI i) 0 (nI h) M = _ := sr_wantOf ho hR hi (k := 0) (by decide) hh
    rw [lp_R_rainOf_6, if_neg (show ¬ (10 : Int32) ≤ nI i from nI_ge hi (by decide)), sr_has hs (by omega), pp_bd, pp_jn, pp_jn, pp_sm, e3]
    cases s.testBit i with
    | false => simp (disch := omega) only [pp_bd, pp_let, pp_jn, zl0, zl1, zl2, zl3, zl4, zl5, zl6, zl7, zl8, zl9, zl10, zl11, zl12, zl14, zl20, zl23, zl24, zl48, zl60, zl72, zl96, zl99, zl100, zl120, zl160, zl180, zl200, zl255, zl720, zl999, zl1023, zl1024, zl4095, zl9999, zl65536, nI_add, pp_mulN, zm1, zm2, zm3, nI_leI, nI_ltI, nI_eq, pp_in, nI_clamp, ↓reduceIte, Bool.false_eq_true, Bool.false_and]
    | true =>
      rw [mm_al_105, mm_al_101]
      by_cases hc : pp_fl S i = nI f
      · simp (disch := omega) only [pp_bd, pp_let, pp_jn, zl0, zl1, zl2, zl3, zl4, zl5, zl6, zl7, zl8, zl9, zl10, zl11, zl12, zl14, zl20, zl23, zl24, zl48, zl60, zl72, zl96, zl99, zl100, zl120, zl160, zl180, zl200, zl255, zl720, zl999, zl1023, zl1024, zl4095, zl9999, zl65536, nI_add, pp_mulN, zm1, zm2, zm3, nI_leI, nI_ltI, nI_eq, pp_in, nI_clamp, ↓reduceIte, e1, e2, hc, Bool.true_and, decide_true]
      · simp (disch := omega) only [pp_bd, pp_let, pp_jn, zl0, zl1, zl2, zl3, zl4, zl5, zl6, zl7, zl8, zl9, zl10, zl11, zl12, zl14, zl20, zl23, zl24, zl48, zl60, zl72, zl96, zl99, zl100, zl120, zl160, zl180, zl200, zl255, zl720, zl999, zl1023, zl1024, zl4095, zl9999, zl65536, nI_add, pp_mulN, zm1, zm2, zm3, nI_leI, nI_ltI, nI_eq, pp_in, nI_clamp, ↓reduceIte, e1, e2, hc, Bool.true_and, decide_false, Bool.false_eq_true]
  · show lp_R_rainOf_6 _ _ _ _ (m + 1) _ _ _ = _
    rw [lp_R_rainOf_6, if_pos (show (10 : Int32) ≤ nI 10 from nI_le (Nat.le_refl 10) (by decide))]
    rfl
