/-! the load's beginning; wants -/
theorem pp_fmN : ∀ a, a < 7 → ∀ h, h < 24 → (if 0 ≤ (nI h + (nI a - 3)) ^^^ 24 then mm_rem (nI h + (nI a - 3)) 24 else if mm_rem (nI h + (nI a - 3)) 24 = 0 then mm_rem (nI h + (nI a - 3)) 24 else mm_rem (nI h + (nI a - 3)) 24 + 24) = nI ((h + a + 21) % 24) := by decide +kernel
theorem sh_floorMod {h a : Nat} (hh : h < 24) (ha : a < 7) (M : mm_M) : f_Math_floorMod (nI h + (nI a - 3)) 24 M = some (nI ((h + a + 21) % 24), M) := by
  rw [← pp_fmN a ha h hh]
  unfold f_Math_floorMod
  rw [if_neg (by decide), pp_let]
  split
  · rfl
  · split <;> rfl
def pp_row (r : Nat → Int32) (a j : Nat) : Int32 := r (24 * (j / 24) + pp_hr a (j % 24))
def ld_ss (M : mm_M) (b a d : Nat) : mm_M := mm_setR M (58 + b) (fun j => if j < 72 then pp_row (M.2.1 (6 + d)) a j else M.2.1 (58 + b) j)
theorem pp_srsr (M : mm_M) (o : Nat) (f g : Nat → Int32) : mm_setR (mm_setR M o f) o g = mm_setR M o g := by
  refine Prod.ext rfl (Prod.ext ?_ rfl)
  funext i q
  show (if i = o then g q else if i = o then f q else M.2.1 i q) = if i = o then g q else M.2.1 i q
  by_cases h : i = o
  · rw [if_pos h, if_pos h]
  · rw [if_neg h, if_neg h, if_neg h]
theorem sh_ss41 {M : mm_M} {b d i l : Nat} (hb : b < 10) (hd : d < 12) (hi : i < 24) (hl : l < 24) (w : Int32) (k : mm_M → Option (Unit × mm_M)) : lp_Load_setShift_41 (nI b) w (6 + d) (nI i) (nI l) k mm_fu 0 M = k (mm_setR M (58 + b) (fun j => if j < 72 ∧ j % 24 = l then M.2.1 (6 + d) (24 * (j / 24) + i) else M.2.1 (58 + b) j)) := by
  have main := pp_for (lp := fun m (x : Int32 × mm_M) => lp_Load_setShift_41 (nI b) w (6 + d) (nI i) (nI l) k m x.1 x.2) (fun q => (nI q, mm_setR M (58 + b) (fun j => if j < 24 * q ∧ j % 24 = l then M.2.1 (6 + d) (24 * (j / 24) + i) else M.2.1 (58 + b) j))) 3 (by decide) (fun q hq m => ?_) (r := k (mm_setR M (58 + b) (fun j => if j < 72 ∧ j % 24 = l then M.2.1 (6 + d) (24 * (j / 24) + i) else M.2.1 (58 + b) j))) (fun m => ?_)
  · have t : lp_Load_setShift_41 (nI b) w (6 + d) (nI i) (nI l) k mm_fu (nI 0) (mm_setR M (58 + b) (fun j => if j < 24 * 0 ∧ j % 24 = l then M.2.1 (6 + d) (24 * (j / 24) + i) else M.2.1 (58 + b) j)) = _ := main
    rw [pp_sr_if (fun q => if_neg (by omega))] at t
    exact t
  · show lp_Load_setShift_41 _ _ _ _ _ _ (m + 1) (nI q) _ = lp_Load_setShift_41 _ _ _ _ _ _ m (nI (q + 1)) _
    generalize hM : mm_setR M (58 + b) (fun j => if j < 24 * q ∧ j % 24 = l then M.2.1 (6 + d) (24 * (j / 24) + i) else M.2.1 (58 + b) j) = M'
    have e1 : M'.2.1 (6 + d) (q * 24 + i) = M.2.1 (6 + d) (q * 24 + i) := by rw [← hM, pp_srn (by omega)]
    rw [lp_Load_setShift_41, mm_al_day d hd]
    simp (disch := omega) only [pp_bd, pp_let, pp_jn, zl0, zl1, zl2, zl3, zl4, zl5, zl6, zl7, zl8, zl9, zl10, zl11, zl12, zl14, zl20, zl23, zl24, zl48, zl60, zl72, zl96, zl99, zl100, zl120, zl160, zl180, zl200, zl255, zl720, zl999, zl1023, zl1024, zl4095, zl9999, zl65536, nI_add, pp_mulN, zm1, zm2, zm3, nI_leI, nI_ltI, nI_eq, pp_in, nI_clamp, ↓reduceIte, show ¬ 3 ≤ q from by omega, mm_al_want b hb, e1]
    rw [← hM, pp_sasr]
    congr 2
    funext j
    by_cases h1 : j = q * 24 + l
    · rw [if_pos h1, if_pos (by omega), show 24 * (j / 24) + i = q * 24 + i by omega]
    · rw [if_neg h1]
      by_cases h2 : j < 24 * q ∧ j % 24 = l
      · rw [if_pos h2, if_pos (by omega)]
      · rw [if_neg h2, if_neg (by omega)]
  · show lp_Load_setShift_41 _ _ _ _ _ _ (m + 1) (nI 3) _ = _
    rw [lp_Load_setShift_41, if_pos (by decide)]
theorem sh_setShift {M : mm_M} {b a d : Nat} (hb : b < 10) (ha : a < 7) (hd : d < 12) (h : M.2.1 29 b = nI d) : f_Load_setShift (nI b) (nI a - 3) M = some ((), ld_ss M b a d) := by
  unfold f_Load_setShift f_Days_rowOf
  rw [mm_al_29, pp_in hb (by decide), if_pos rfl, nI_clamp (by omega), h, pp_in hd (by decide), if_pos rfl, pp_bd, nI_clamp (by omega)]
  have main := pp_for (lp := fun m (x : Int32 × mm_M) => lp_Load_setShift_20 (nI b) (nI a - 3) (6 + d) (fun (M_9 : mm_M) => some ((), M_9)) m x.1 x.2) (fun i => (nI i, mm_setR M (58 + b) (fun j => if j < 72 ∧ pp_hr a (j % 24) < i then pp_row (M.2.1 (6 + d)) a j else M.2.1 (58 + b) j))) 24 (by decide) (fun i hi m => ?_) (r := some ((), ld_ss M b a d)) (fun m => ?_)
  · have t : lp_Load_setShift_20 (nI b) (nI a - 3) (6 + d) (fun (M_9 : mm_M) => some ((), M_9)) mm_fu (nI 0) (mm_setR M (58 + b) (fun j => if j < 72 ∧ pp_hr a (j % 24) < 0 then pp_row (M.2.1 (6 + d)) a j else M.2.1 (58 + b) j)) = some ((), ld_ss M b a d) := main
    rw [pp_sr_if (fun q => if_neg (by omega))] at t
    exact t
  · show lp_Load_setShift_20 _ _ _ _ (m + 1) (nI i) _ = lp_Load_setShift_20 _ _ _ _ m (nI (i + 1)) _
    rw [lp_Load_setShift_20, if_neg (show ¬ (24 : Int32) ≤ nI i from nI_ge hi (by decide)), sh_floorMod hi ha, pp_bd, sh_ss41 hb hd hi (show (i + a + 21) % 24 < 24 by omega), nI_1, pp_let, pp_srsr]
    congr 2
    funext j
    have hj : (if j < 72 ∧ j % 24 = (i + a + 21) % 24 then M.2.1 (6 + d) (24 * (j / 24) + i) else if j < 72 ∧ pp_hr a (j % 24) < i then pp_row (M.2.1 (6 + d)) a j else M.2.1 (58 + b) j) = if j < 72 ∧ pp_hr a (j % 24) < i + 1 then pp_row (M.2.1 (6 + d)) a j else M.2.1 (58 + b) j := by
      unfold pp_row pp_hr
      by_cases h1 : j < 72 ∧ j % 24 = (i + a + 21) % 24
      · have e : (j % 24 + 27 - a) % 24 = i := by omega
        rw [if_pos h1, e, if_pos (by omega)]
      · rw [if_neg h1]
        by_cases h2 : j < 72 ∧ (j % 24 + 27 - a) % 24 < i
        · rw [if_pos h2, if_pos (by omega)]
        · rw [if_neg h2, if_neg (by omega)]
    rw [← hj]
    rw [pp_sro, pp_srn (by omega)]
  · show lp_Load_setShift_20 _ _ _ _ (m + 1) (nI 24) _ = _
    rw [lp_Load_setShift_20, if_pos (by decide)]
    show some ((), mm_setR M (58 + b) _) = some ((), mm_setR M (58 + b) _)
    congr 3
    funext j
    unfold pp_hr
    by_cases h1 : j < 72
    · rw [if_pos h1, if_pos (by omega)]
    · rw [if_neg h1, if_neg (by omega)]
theorem sh_fill_69 (M : mm_M) : f_Arrays_fill_69 0 M = some ((), mm_setR M 69 (fun j => if 0 ≤ j ∧ j < 0 + 72 then 0 else M.2.1 69 j)) := by
  unfold f_Arrays_fill_69
  refine pp_fill (lp := fun m v M => lp_Arrays_fill_69_5 0 72 _ m v M) (k := fun M_4 => some ((), M_4)) M 69 0 72 (by decide) (fun j => 0) (fun i hi m M' e => ?_) (fun m M' => ?_)
  · show lp_Arrays_fill_69_5 _ _ _ (m + 1) (nI i) M' = lp_Arrays_fill_69_5 _ _ _ m (nI (i + 1)) _
    rw [lp_Arrays_fill_69_5, mm_al_69]
    simp (disch := omega) only [pp_bd, pp_let, pp_jn, zl0, zl1, zl2, zl3, zl4, zl5, zl6, zl7, zl8, zl9, zl10, zl11, zl12, zl14, zl20, zl23, zl24, zl48, zl60, zl72, zl96, zl99, zl100, zl120, zl160, zl180, zl200, zl255, zl720, zl999, zl1023, zl1024, zl4095, zl9999, zl65536, nI_add, pp_mulN, zm1, zm2, zm3, nI_leI, nI_ltI, nI_eq, pp_in, nI_clamp, ↓reduceIte, show ¬ 72 ≤ i from by omega, Nat.zero_add]
  · show lp_Arrays_fill_69_5 _ _ _ (m + 1) (nI 72) M' = _
    rw [lp_Arrays_fill_69_5, if_pos (by decide)]
theorem sh_fill_70 (M : mm_M) : f_Arrays_fill_70 0 M = some ((), mm_setR M 70 (fun j => if 0 ≤ j ∧ j < 0 + 96 then 0 else M.2.1 70 j)) := by
  unfold f_Arrays_fill_70
  refine pp_fill (lp := fun m v M => lp_Arrays_fill_70_5 0 96 _ m v M) (k := fun M_4 => some ((), M_4)) M 70 0 96 (by decide) (fun j => 0) (fun i hi m M' e => ?_) (fun m M' => ?_)
  · show lp_Arrays_fill_70_5 _ _ _ (m + 1) (nI i) M' = lp_Arrays_fill_70_5 _ _ _ m (nI (i + 1)) _
    rw [lp_Arrays_fill_70_5, mm_al_70]
    simp (disch := omega) only [pp_bd, pp_let, pp_jn, zl0, zl1, zl2, zl3, zl4, zl5, zl6, zl7, zl8, zl9, zl10, zl11, zl12, zl14, zl20, zl23, zl24, zl48, zl60, zl72, zl96, zl99, zl100, zl120, zl160, zl180, zl200, zl255, zl720, zl999, zl1023, zl1024, zl4095, zl9999, zl65536, nI_add, pp_mulN, zm1, zm2, zm3, nI_leI, nI_ltI, nI_eq, pp_in, nI_clamp, ↓reduceIte, show ¬ 96 ≤ i from by omega, Nat.zero_add]
  · show lp_Arrays_fill_70_5 _ _ _ (m + 1) (nI 96) M' = _
    rw [lp_Arrays_fill_70_5, if_pos (by decide)]
/-- what the class's rows hold of a stay -/
theorem ld_ss_row {S : ss_S} {M : mm_M} (ho : ss_Ok S) (hH : ss_RH S M) {b k h : Nat} (hb : b < 10) (hk : k < 3) (hh : h < 24) : (ld_ss M b (pp_sf S b) (pp_dy S b)).2.1 (58 + b) (24 * k + h) = pp_want S b k h := by
  unfold ld_ss pp_want pp_row
  have h1 := (pp_dy_e ho hb).2
  rw [pp_sro, if_pos (by omega), sh_day hH h1 (by unfold pp_hr; omega), show (24 * k + h) / 24 = k by omega, show (24 * k + h) % 24 = h by omega]
  rw [← Nat.add_assoc]
theorem sh_begin {S : ss_S} {M : mm_M} (ho : ss_Ok S) (hH : ss_RH S M) {s : Nat} (hs : s < 1024) (h5 : S.1 5 = nI s) : ∃ L M1, f_Load_begin M = some ((), M1) ∧ ld_I L 0 M1 ∧ ss_m 56 71 M M1 ∧ ld_of S s L := by
  unfold f_Load_begin
  rw [pp_let, sh_fill_69, pp_bd, sh_fill_70, pp_bd]
  generalize hM0 : mm_setR (mm_setR (mm_setI M 56 7 0) 69 (fun j => if 0 ≤ j ∧ j < 0 + 72 then 0 else (mm_setI M 56 7 0).2.1 69 j)) 70 _ = M0
  have f0 : ss_m 56 71 M M0 := by
    rw [← hM0]
    exact ((ss_m.rf.s (by omega)).r (by omega)).r (by omega)
  have z1 : M0.1 56 7 = 0 := by rw [← hM0]; rfl
  have z2 : ∀ j, j < 72 → M0.2.1 69 j = 0 := fun j hj => by rw [← hM0, pp_srn (by omega), pp_sro, if_pos (by omega)]
  have z3 : ∀ j, j < 96 → M0.2.1 70 j = 0 := fun j hj => by rw [← hM0, pp_sro, if_pos (by omega)]
  refine pp_ex (lp := fun m (a : Int32 × mm_M) => lp_Load_begin_23 _ m a.1 a.2) (fun i a => a.1 = nI i ∧ ss_m 56 71 M a.2 ∧ a.2.1 56 7 = 0 ∧ (∀ j, j < 72 → a.2.2.1 69 j = 0) ∧ (∀ j, j < 96 → a.2.2.1 70 j = 0) ∧ ∀ b, b < i → s.testBit b = true → a.2.2.1 68 b = pp_fl S b ∧ ∀ k h, k < 3 → h < 24 → a.2.2.1 (58 + b) (24 * k + h) = pp_want S b k h) (fun r => ∃ L M1, r = some ((), M1) ∧ ld_I L 0 M1 ∧ ss_m 56 71 M M1 ∧ ld_of S s L) 10 (by decide) (fun i a hi ha => Or.inl ?_) (fun a ha m => ?_) (a := (nI 0, M0)) ⟨rfl, f0, z1, z2, z3, fun b hb => by omega⟩
  · obtain ⟨v, M'⟩ := a
    obtain ⟨rfl, h1, h2, h3, h4, h6⟩ := ha
    have hH' := hH.lo h1 (by omega)
    show ∃ a' : Int32 × mm_M, _ ∧ ∀ m, lp_Load_begin_23 _ (m + 1) (nI i) M' = lp_Load_begin_23 _ m a'.1 a'.2
    cases ht : s.testBit i with
    | false =>
      refine ⟨(nI (i + 1), M'), ⟨rfl, h1, h2, h3, h4, fun b hb hbt => ?_⟩, fun m => ?_⟩
      · by_cases e : b = i
        · subst e; rw [ht] at hbt; cases hbt
        · exact h6 b (by omega) hbt
      · rw [lp_Load_begin_23, sh_has hH' hs h5, pp_has_k (by omega), ht, pp_bd, pp_jn]
        simp (disch := omega) only [pp_bd, pp_let, pp_jn, zl0, zl1, zl2, zl3, zl4, zl5, zl6, zl7, zl8, zl9, zl10, zl11, zl12, zl14, zl20, zl23, zl24, zl48, zl60, zl72, zl96, zl99, zl100, zl120, zl160, zl180, zl200, zl255, zl720, zl999, zl1023, zl1024, zl4095, zl9999, zl65536, nI_add, pp_mulN, zm1, zm2, zm3, nI_leI, nI_ltI, nI_eq, pp_in, nI_clamp, ↓reduceIte, show ¬ 10 ≤ i from by omega, Bool.false_eq_true]
    | true =>
      have e1 : M'.2.1 28 i = nI (pp_rm S i) := (hH'.2 6 (by decide) i hi).trans (pp_rm_e ho hi).1
      have e2 : M'.2.1 23 (pp_rm S i) = pp_fl S i := hH'.2 2 (by decide) _ (pp_rm_e ho hi).2
      have hr := (pp_rm_e ho hi).2
      have hH2 : ss_RH S (mm_setA M' 68 i (pp_fl S i)) := hH'.lo ((ss_m.rf (lo := 56) (hi := 71)).a (by omega)) (by omega)
      have e3 : (mm_setA M' 68 i (pp_fl S i)).2.1 31 i = nI (pp_sf S i) - 3 := (hH2.2 9 (by decide) i hi).trans (pp_sf_e ho hi).1
      have e4 : (mm_setA M' 68 i (pp_fl S i)).2.1 29 i = nI (pp_dy S i) := (hH2.2 7 (by decide) i hi).trans (pp_dy_e ho hi).1
      have e5 := sh_setShift hi (pp_sf_e ho hi).2 (pp_dy_e ho hi).2 e4
      refine ⟨(nI (i + 1), ld_ss (mm_setA M' 68 i (pp_fl S i)) i (pp_sf S i) (pp_dy S i)), ⟨rfl, (h1.a (by omega)).r (by omega), h2, fun j hj => ?_, fun j hj => ?_, fun b hb hbt => ⟨?_, fun k h hk hh => ?_⟩⟩, fun m => ?_⟩
      · show (ld_ss _ _ _ _).2.1 69 j = 0
        unfold ld_ss
        rw [pp_srn (by omega), pp_sa, if_neg (by omega)]
        exact h3 j hj
      · show (ld_ss _ _ _ _).2.1 70 j = 0
        unfold ld_ss
        rw [pp_srn (by omega), pp_sa, if_neg (by omega)]
        exact h4 j hj
      · show (ld_ss _ _ _ _).2.1 68 b = _
        unfold ld_ss
        rw [pp_srn (by omega), pp_sa]
        by_cases e : b = i
        · rw [if_pos ⟨rfl, e⟩, e]
        · rw [if_neg (fun q => e q.2)]
          exact (h6 b (by omega) hbt).1
      · show (ld_ss _ _ _ _).2.1 (58 + b) (24 * k + h) = _
        by_cases e : b = i
        · rw [e]
          exact ld_ss_row ho hH2 hi hk hh
        · unfold ld_ss
          rw [pp_srn (by omega), pp_sa, if_neg (by omega)]
          exact (h6 b (by omega) hbt).2 k h hk hh
      · rw [lp_Load_begin_23, sh_has hH' hs h5, pp_has_k (by omega), ht, pp_bd, pp_jn, mm_al_28, mm_al_23, mm_al_31]
        unfold f_Load_setFloor
        rw [mm_al_68, if_neg (show ¬ (10 : Int32) ≤ nI i from nI_ge hi (by decide)), if_pos rfl, pp_in hi (by decide), if_pos rfl, nI_clamp (by omega), e1, pp_in hr (by decide), if_pos rfl, nI_clamp (by omega), e2, if_pos rfl, pp_let, pp_bd, if_pos rfl, e3, e5, pp_bd]
        show mm_let (nI i + 1) _ = _
        rw [nI_1, pp_let]
  · obtain ⟨v, M'⟩ := a
    obtain ⟨rfl, h1, h2, h3, h4, h6⟩ := ha
    refine ⟨(fun b j => M'.2.1 (58 + b) j, fun b => M'.2.1 68 b), M', ?_, ⟨⟨fun _ _ _ _ => rfl, fun _ _ => rfl, fun j hj => ?_, fun f h hf hh => ?_⟩, h2, by decide⟩, h1, fun b hb hbt => h6 b hb hbt⟩
    · show lp_Load_begin_23 _ (m + 1) (nI 10) M' = _
      rw [lp_Load_begin_23, if_pos (by decide)]
    · rw [pp_sm_0 (fun b _ => Nat.zero_testBit b)]
      exact h3 j hj
    · rw [pp_sm_0 (fun b _ => by show (Nat.testBit 0 b && _) = false; rw [Nat.zero_testBit]; rfl)]
      exact h4 _ (by omega)
