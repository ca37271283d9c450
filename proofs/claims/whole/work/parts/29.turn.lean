/-! the class's load -/
abbrev ld_L : Type := (Nat → Nat → Int32) × (Nat → Int32)
def ld_R (L : ld_L) (c : Nat → Bool) (M : mm_M) : Prop := (∀ b, b < 10 → ∀ j, j < 72 → M.2.1 (58 + b) j = L.1 b j) ∧ (∀ b, b < 10 → M.2.1 68 b = L.2 b) ∧ (∀ j, j < 72 → M.2.1 69 j = pp_sm c (fun b => L.1 b j) 10) ∧ (∀ f h, f < 4 → h < 24 → M.2.1 70 (24 * f + h) = pp_sm (fun b => c b && decide (L.2 b = nI f)) (fun b => L.1 b h) 10)
theorem ld_R.ext {L : ld_L} {c d : Nat → Bool} {M : mm_M} (h : ld_R L c M) (e : ∀ b, b < 10 → c b = d b) : ld_R L d M := by
  refine ⟨h.1, h.2.1, fun j hj => ?_, fun f q hf hq => ?_⟩
  · rw [h.2.2.1 j hj]
    exact pp_sm_ext (fun b hb => by rw [e b hb])
  · rw [h.2.2.2 f q hf hq]
    exact pp_sm_ext (fun b hb => by rw [e b hb])
def ld_I (L : ld_L) (s : Nat) (M : mm_M) : Prop := ld_R L (fun b => s.testBit b) M ∧ M.1 56 7 = nI s ∧ s < 1024
def ld_F (L : ld_L) (s : Nat) : Prop := ∀ b, b < 10 → s.testBit b = true → ∃ f, f < 4 ∧ L.2 b = nI f
def ld_of (S : ss_S) (s : Nat) (L : ld_L) : Prop := ∀ b, b < 10 → s.testBit b = true → L.2 b = pp_fl S b ∧ ∀ k h, k < 3 → h < 24 → L.1 b (24 * k + h) = pp_want S b k h
def ld_c1 (M : mm_M) (b : Nat) (t : Int32) : mm_M := mm_setR M 69 (fun j => if 0 ≤ j ∧ j < 0 + 72 then M.2.1 69 j + t * M.2.1 (58 + b) j else M.2.1 69 j)
def ld_c2 (M : mm_M) (b f : Nat) (t : Int32) : mm_M := mm_setR M 70 (fun j => if 24 * f ≤ j ∧ j < 24 * f + 24 then M.2.1 70 j + t * M.2.1 (58 + b) (j - 24 * f) else M.2.1 70 j)
theorem sh_change0 {M : mm_M} {b f : Nat} (hb : b < 10) (hf : f < 4) (hL : M.2.1 68 b = nI f) (t : Int32) : f_Load_change (nI b) t M = some ((), ld_c2 (ld_c1 M b t) b f t) := by
  unfold f_Load_change
  rw [mm_al_68, pp_in hb (by decide), nI_clamp (by omega), if_pos rfl, if_pos rfl, hL, pp_let]
  refine (pp_fill (lp := fun m v M => lp_Load_change_21 t (58 + b) (nI f * 24) _ m v M) (k := fun M_4 => lp_Load_change_53 t (58 + b) (nI f * 24) (fun (M_8 : mm_M) => some ((), M_8)) mm_fu 0 M_4) M 69 0 72 (by decide) (fun j => M.2.1 69 j + t * M.2.1 (58 + b) j) (fun i hi m M' e => ?_) (fun m M' => ?_)).trans ?_
  · show lp_Load_change_21 _ _ _ _ (m + 1) (nI i) M' = lp_Load_change_21 _ _ _ _ m (nI (i + 1)) _
    have e1 : M'.2.1 69 i = M.2.1 69 i := by rw [e, pp_sro, if_neg (by omega)]
    have e2 : M'.2.1 (58 + b) i = M.2.1 (58 + b) i := by rw [e, pp_srn (by omega)]
    rw [lp_Load_change_21, mm_al_69, mm_al_want b hb]
    simp (disch := omega) only [pp_bd, pp_let, pp_jn, zl0, zl1, zl2, zl3, zl4, zl5, zl6, zl7, zl8, zl9, zl10, zl11, zl12, zl14, zl20, zl23, zl24, zl48, zl60, zl72, zl96, zl99, zl100, zl120, zl160, zl180, zl200, zl255, zl720, zl999, zl1023, zl1024, zl4095, zl9999, zl65536, nI_add, pp_mulN, zm1, zm2, zm3, nI_leI, nI_ltI, nI_eq, pp_in, nI_clamp, ↓reduceIte, e1, e2, show ¬ 72 ≤ i from by omega, Nat.zero_add]
  · show lp_Load_change_21 _ _ _ _ (m + 1) (nI 72) M' = _
    rw [lp_Load_change_21, if_pos (by decide)]
  · refine (pp_fill (lp := fun m v M => lp_Load_change_53 t (58 + b) (nI f * 24) _ m v M) (k := fun M_4 => some ((), M_4)) (ld_c1 M b t) 70 (24 * f) 24 (by decide) (fun j => (ld_c1 M b t).2.1 70 j + t * (ld_c1 M b t).2.1 (58 + b) (j - 24 * f)) (fun i hi m M' e => ?_) (fun m M' => ?_)).trans ?_
    · show lp_Load_change_53 _ _ _ _ (m + 1) (nI i) M' = lp_Load_change_53 _ _ _ _ m (nI (i + 1)) _
      have e1 : M'.2.1 70 (24 * f + i) = (ld_c1 M b t).2.1 70 (24 * f + i) := by rw [e, pp_sro, if_neg (by omega)]
      have e2 : M'.2.1 (58 + b) i = (ld_c1 M b t).2.1 (58 + b) i := by rw [e, pp_srn (by omega)]
      rw [lp_Load_change_53, mm_al_70, mm_al_want b hb]
      simp (disch := omega) only [pp_bd, pp_let, pp_jn, zl0, zl1, zl2, zl3, zl4, zl5, zl6, zl7, zl8, zl9, zl10, zl11, zl12, zl14, zl20, zl23, zl24, zl48, zl60, zl72, zl96, zl99, zl100, zl120, zl160, zl180, zl200, zl255, zl720, zl999, zl1023, zl1024, zl4095, zl9999, zl65536, nI_add, pp_mulN, zm1, zm2, zm3, nI_leI, nI_ltI, nI_eq, pp_in, nI_clamp, ↓reduceIte, e1, e2, show ¬ 24 ≤ i from by omega, Nat.mul_comm f 24, Nat.add_sub_cancel_left]
    · show lp_Load_change_53 _ _ _ _ (m + 1) (nI 24) M' = _
      rw [lp_Load_change_53, if_pos (by decide)]
    · rfl
theorem ld_c_m (M : mm_M) (b f : Nat) (t : Int32) : ss_m 56 71 M (ld_c2 (ld_c1 M b t) b f t) := ((ss_m.rf).r (by omega)).r (by omega)
theorem sh_change {L : ld_L} {c d : Nat → Bool} {M : mm_M} (h : ld_R L c M) {b f : Nat} (hb : b < 10) (hf : f < 4) (hL : L.2 b = nI f) (hd : ∀ i, i < 10 → i ≠ b → d i = c i) {t : Int32} (ht : (t = 1 ∧ c b = false ∧ d b = true) ∨ (t = -1 ∧ c b = true ∧ d b = false)) : ∃ M1, f_Load_change (nI b) t M = some ((), M1) ∧ ld_R L d M1 ∧ ss_m 56 71 M M1 ∧ M1.1 = M.1 := by
  refine ⟨_, sh_change0 hb hf ((h.2.1 b hb).trans hL) t, ?_, ld_c_m _ _ _ _, rfl⟩
  have upd : ∀ (e : Nat → Bool) (g : Nat → Int32), e b = true → pp_sm (fun i => d i && e i) g 10 = pp_sm (fun i => c i && e i) g 10 + t * g b := by
    intro e g he
    rcases ht with ⟨rfl, h1, h2⟩ | ⟨rfl, h1, h2⟩
    · rw [Int32.one_mul]
      exact pp_sm_in hb (by rw [h1]; rfl) (by rw [h2, he]; rfl) (fun i hi hne => by rw [hd i hi hne])
    · exact pp_sm_out hb (by rw [h1, he]; rfl) (by rw [h2]; rfl) (fun i hi hne => by rw [hd i hi hne])
  refine ⟨fun i hi j hj => ?_, fun i hi => ?_, fun j hj => ?_, fun g q hg hq => ?_⟩
  · unfold ld_c2 ld_c1
    rw [pp_srn (by omega), pp_srn (by omega)]
    exact h.1 i hi j hj
  · unfold ld_c2 ld_c1
    rw [pp_srn (by omega), pp_srn (by omega)]
    exact h.2.1 i hi
  · unfold ld_c2 ld_c1
    rw [pp_srn (by omega), pp_sro, if_pos (by omega), h.2.2.1 j hj, h.1 b hb j hj]
    have := upd (fun _ => true) (fun i => L.1 i j) rfl
    simp only [Bool.and_true] at this
    exact this.symm
  · unfold ld_c2 ld_c1
    rw [pp_sro]
    by_cases hg2 : g = f
    · subst hg2
      rw [if_pos (by omega), pp_srn (by omega), pp_srn (by omega), h.2.2.2 g q hg hq, show 24 * g + q - 24 * g = q by omega, h.1 b hb q (by omega)]
      exact (upd (fun i => decide (L.2 i = nI g)) (fun i => L.1 i q) (by rw [hL]; exact decide_eq_true rfl)).symm
    · rw [if_neg (by omega), pp_srn (by omega), h.2.2.2 g q hg hq]
      refine pp_sm_ext (fun i hi => ?_)
      by_cases hib : i = b
      · subst hib
        have : decide (L.2 i = nI g) = false := by
          rw [hL]
          exact decide_eq_false (fun q => hg2 ((nI_eq (by omega) (by omega)).mp q.symm))
        rw [this, Bool.and_false, Bool.and_false]
      · rw [hd i hi hib]
theorem pp_xorN (a b : Nat) : nI a ^^^ nI b = nI (a ^^^ b) := by
  apply Int32.toBitVec_inj.mp
  rw [Int32.toBitVec_xor]
  show BitVec.ofNat 32 a ^^^ BitVec.ofNat 32 b = BitVec.ofNat 32 (a ^^^ b)
  exact (BitVec.ofNat_xor).symm
theorem sh_turnTo {L : ld_L} {s t : Nat} {M : mm_M} (h : ld_I L s M) (ht : t < 1024) (hs : ld_F L s) (hf : ld_F L t) : ∃ M1, f_Load_turnTo (nI t) M = some ((), M1) ∧ ld_I L t M1 ∧ ss_m 56 71 M M1 := by
  unfold f_Load_turnTo
  rw [h.2.1, pp_xorN, pp_let]
  have hst : s ^^^ t < 1024 := Nat.xor_lt_two_pow (n := 10) h.2.2 ht
  refine pp_ex (lp := fun m (a : Int32 × mm_M) => lp_Load_turnTo_9 (nI t) (nI (s ^^^ t)) _ m a.1 a.2) (fun i a => a.1 = nI i ∧ ld_R L (fun b => if b < i then t.testBit b else s.testBit b) a.2 ∧ ss_m 56 71 M a.2) (fun r => ∃ M1, r = some ((), M1) ∧ ld_I L t M1 ∧ ss_m 56 71 M M1) 10 (by decide) (fun i a hi ha => Or.inl ?_) (fun a ha m => ?_) (a := (nI 0, M)) ⟨rfl, h.1.ext (fun b hb => (if_neg (by omega)).symm), ss_m.rf⟩
  · obtain ⟨v, M'⟩ := a
    obtain ⟨rfl, h1, h2⟩ := ha
    show ∃ a' : Int32 × mm_M, _ ∧ ∀ m, lp_Load_turnTo_9 _ _ _ (m + 1) (nI i) M' = lp_Load_turnTo_9 _ _ _ m a'.1 a'.2
    have hx : (s ^^^ t).testBit i = (s.testBit i ^^ t.testBit i) := Nat.testBit_xor ..
    by_cases hd : (s ^^^ t).testBit i = true
    · have hc : ∀ (f : Nat), f < 4 → L.2 i = nI f → ∀ u : Int32, (u = 1 ∧ s.testBit i = false ∧ t.testBit i = true) ∨ (u = -1 ∧ s.testBit i = true ∧ t.testBit i = false) → ∃ M1, f_Load_change (nI i) u M' = some ((), M1) ∧ ld_R L (fun b => if b < i + 1 then t.testBit b else s.testBit b) M1 ∧ ss_m 56 71 M M1 := by
        intro f hf4 hL u hu
        obtain ⟨M1, g1, g2, g3, -⟩ := sh_change h1 (d := fun b => if b < i + 1 then t.testBit b else s.testBit b) hi hf4 hL (fun q hq hne => by
          by_cases hq2 : q < i
          · rw [if_pos hq2, if_pos (by omega)]
          · rw [if_neg hq2, if_neg (by omega)]) (t := u) (by
          rw [if_neg (by omega), if_pos (by omega)]
          exact hu)
        exact ⟨M1, g1, g2, h2.tr g3⟩
      cases hti : t.testBit i with
      | true =>
        have hsi : s.testBit i = false := by
          rw [hx, hti] at hd
          cases hq : s.testBit i
          · rfl
          · rw [hq] at hd; cases hd
        obtain ⟨f, hf4, hL⟩ := hf i hi hti
        obtain ⟨M1, g1, g2, g3⟩ := hc f hf4 hL 1 (Or.inl ⟨rfl, hsi, hti⟩)
        refine ⟨(nI (i + 1), M1), ⟨rfl, g2, g3⟩, fun m => ?_⟩
        have g1' : f_Load_change (nI i) (nI 1) M' = some ((), M1) := g1
        rw [lp_Load_turnTo_9, sh_isIn (by omega), pp_has_k (by omega), hd, pp_bd, pp_jn, sh_isIn (by omega), pp_has_k (by omega), hti]
        simp (disch := omega) only [pp_bd, pp_let, pp_jn, zl0, zl1, zl2, zl3, zl4, zl5, zl6, zl7, zl8, zl9, zl10, zl11, zl12, zl14, zl20, zl23, zl24, zl48, zl60, zl72, zl96, zl99, zl100, zl120, zl160, zl180, zl200, zl255, zl720, zl999, zl1023, zl1024, zl4095, zl9999, zl65536, nI_add, pp_mulN, zm1, zm2, zm3, nI_leI, nI_ltI, nI_eq, pp_in, nI_clamp, ↓reduceIte, g1', show ¬ 10 ≤ i from by omega]
      | false =>
        have hsi : s.testBit i = true := by
          rw [hx, hti] at hd
          cases hq : s.testBit i
          · rw [hq] at hd; cases hd
          · rfl
        obtain ⟨f, hf4, hL⟩ := hs i hi hsi
        obtain ⟨M1, g1, g2, g3⟩ := hc f hf4 hL (-1) (Or.inr ⟨rfl, hsi, hti⟩)
        refine ⟨(nI (i + 1), M1), ⟨rfl, g2, g3⟩, fun m => ?_⟩
        have g1' : f_Load_change (nI i) pp_m1 M' = some ((), M1) := g1
        rw [lp_Load_turnTo_9, sh_isIn (by omega), pp_has_k (by omega), hd, pp_bd, pp_jn, sh_isIn (by omega), pp_has_k (by omega), hti]
        simp (disch := omega) only [pp_bd, pp_let, pp_jn, zl0, zl1, zl2, zl3, zl4, zl5, zl6, zl7, zl8, zl9, zl10, zl11, zl12, zl14, zl20, zl23, zl24, zl48, zl60, zl72, zl96, zl99, zl100, zl120, zl160, zl180, zl200, zl255, zl720, zl999, zl1023, zl1024, zl4095, zl9999, zl65536, nI_add, pp_mulN, zm1, zm2, zm3, nI_leI, nI_ltI, nI_eq, pp_in, nI_clamp, ↓reduceIte, g1', show ¬ 10 ≤ i from by omega, Bool.false_eq_true]
    · refine ⟨(nI (i + 1), M'), ⟨rfl, h1.ext (fun b hb => ?_), h2⟩, fun m => ?_⟩
      · by_cases hbi : b < i
        · rw [if_pos hbi, if_pos (by omega)]
        · rw [if_neg hbi]
          by_cases e : b = i
          · subst e
            rw [if_pos (by omega)]
            rw [hx] at hd
            revert hd
            cases s.testBit b <;> cases t.testBit b <;> simp
          · rw [if_neg (by omega)]
      · have hd : (s ^^^ t).testBit i = false := by
          cases hq : (s ^^^ t).testBit i
          · rfl
          · exact absurd hq hd
        rw [lp_Load_turnTo_9, sh_isIn (by omega), pp_has_k (by omega), hd, pp_bd, pp_jn]
        simp (disch := omega) only [pp_bd, pp_let, pp_jn, zl0, zl1, zl2, zl3, zl4, zl5, zl6, zl7, zl8, zl9, zl10, zl11, zl12, zl14, zl20, zl23, zl24, zl48, zl60, zl72, zl96, zl99, zl100, zl120, zl160, zl180, zl200, zl255, zl720, zl999, zl1023, zl1024, zl4095, zl9999, zl65536, nI_add, pp_mulN, zm1, zm2, zm3, nI_leI, nI_ltI, nI_eq, pp_in, nI_clamp, ↓reduceIte, show ¬ 10 ≤ i from by omega, Bool.false_eq_true]
  · obtain ⟨v, M'⟩ := a
    obtain ⟨rfl, h1, h2⟩ := ha
    refine ⟨mm_setI M' 56 7 (nI t), ?_, ⟨?_, rfl, ht⟩, h2.s (by decide)⟩
    · show lp_Load_turnTo_9 _ _ _ (m + 1) (nI 10) M' = _
      rw [lp_Load_turnTo_9, if_pos (by decide)]
      rfl
    · exact h1.ext (fun b hb => by rw [if_pos hb])
