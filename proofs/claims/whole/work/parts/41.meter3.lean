/-! meter: the codes, and both -/
theorem sr_mset {M : mm_M} {n : Nat} (hn : n ≤ 3) {y : Nat → Nat} (hy : ∀ j, j < n → y j < 12 ∧ M.2.1 134 j = nI (y j)) (v2 v3 v4 v5 v6 : Int32) (k : Int32 → mm_M → Option (Int32 × mm_M)) : lp_R_meter_156 (nI n) v2 v3 v4 v5 v6 k mm_fu 0 0 M = k (nI (mt_set y n)) M := by
  refine pp_for (lp := fun q (a : Int32 × Int32 × mm_M) => lp_R_meter_156 (nI n) v2 v3 v4 v5 v6 k q a.1 a.2.1 a.2.2) (fun i => (nI (mt_set y i), nI i, M)) n (by omega) (fun i hi q => ?_) (fun q => ?_)
  · show lp_R_meter_156 _ _ _ _ _ _ _ (q + 1) (nI (mt_set y i)) (nI i) M = lp_R_meter_156 _ _ _ _ _ _ _ q (nI (mt_set y (i + 1))) (nI (i + 1)) M
    obtain ⟨h1, h2⟩ := hy i hi
    rw [lp_R_meter_156, if_neg (nI_ge hi (by omega)), mm_al_134, pp_in (by omega) (by decide), if_pos rfl, nI_clamp (by omega), h2, pp_one _ h1, pp_orN, pp_let, nI_1, pp_let]
    rfl
  · show lp_R_meter_156 _ _ _ _ _ _ _ (q + 1) _ (nI n) M = _
    rw [lp_R_meter_156, if_pos (nI_le (Nat.le_refl _) (by omega))]
def mt_m1 (M : mm_M) (n a : Nat) (y : Nat → Nat) : mm_M := if a = 0 then mm_setR M 135 (fun j => if 0 ≤ j ∧ j < 0 + n then nI (y j) else M.2.1 135 j) else M
theorem sr_mfirst {M : mm_M} {n a : Nat} (hn : n ≤ 3) (ha : a < 4000) {y : Nat → Nat} (hy : ∀ j, j < n → M.2.1 134 j = nI (y j)) (v2 v3 v5 v6 v7 : Int32) (k : mm_M → Option (Int32 × mm_M)) : lp_R_meter_185 (nI n) v2 v3 (nI a) v5 v6 v7 k mm_fu 0 M = k (mt_m1 M n a y) := by
  unfold mt_m1
  by_cases hz : a = 0
  · subst hz
    rw [if_pos rfl]
    refine pp_fill (lp := fun m v M => lp_R_meter_185 (nI n) v2 v3 (nI 0) v5 v6 v7 k m v M) (k := k) M 135 0 n (by omega) (fun j => nI (y j)) (fun i hi m M' e => ?_) (fun m M' => ?_)
    · show lp_R_meter_185 _ _ _ _ _ _ _ _ (m + 1) (nI i) M' = lp_R_meter_185 _ _ _ _ _ _ _ _ m (nI (i + 1)) _
      have e1 : M'.2.1 134 i = nI (y i) := by rw [e, pp_srn (by omega)]; exact hy i hi
      rw [lp_R_meter_185, if_neg (nI_ge hi (by omega)), if_pos (show nI 0 = 0 from rfl), mm_al_134, mm_al_135, pp_in (by omega) (by decide), if_pos rfl, if_pos rfl, nI_clamp (by omega), e1, pp_let, nI_1, pp_let, Nat.zero_add]
    · show lp_R_meter_185 _ _ _ _ _ _ _ _ (m + 1) (nI n) M' = _
      rw [lp_R_meter_185, if_pos (nI_le (Nat.le_refl _) (by omega))]
  · rw [if_neg hz, show mm_fu = 4999 + 1 from rfl, lp_R_meter_185]
    by_cases h0 : nI n ≤ 0
    · rw [if_pos h0]
    · rw [if_neg h0, if_neg (show ¬ nI a = 0 from nI_ne0 (by omega) (by omega))]
theorem mt_m1_f (M : mm_M) (n a : Nat) (y : Nat → Nat) : rm_f M (mt_m1 M n a y) ∧ (mt_m1 M n a y).2.1 133 = M.2.1 133 ∧ (a = 0 → ∀ j, j < n → (mt_m1 M n a y).2.1 135 j = nI (y j)) ∧ (a ≠ 0 → (mt_m1 M n a y).2.1 135 = M.2.1 135) := by
  unfold mt_m1
  by_cases hz : a = 0
  · rw [if_pos hz]
    refine ⟨rm_f.rf.r0 (by omega) _, ss_setr_ne (by omega), fun _ j hj => ?_, fun q => absurd hz q⟩
    rw [pp_sro, if_pos (by omega)]
  · rw [if_neg hz]
    exact ⟨rm_f.rf, rfl, fun q => absurd q hz, fun _ => rfl⟩
def mt_st (t : Nat) (D : Nat → Nat → Nat) (n : Nat) (m : Nat → Nat) (c : Nat) (a : mt_A) : mt_A := if mt_vb t D n m c = true then mt_note n (mt_y n c) a else a
theorem mt_st_le (t : Nat) (D : Nat → Nat → Nat) (n : Nat) (m : Nat → Nat) (c : Nat) (a : mt_A) : (nf (mt_st t D n m) c a).1 ≤ a.1 + c := by
  refine nf_inv (fun i (b : mt_A) => b.1 ≤ a.1 + i) (fun i b _ hb => ?_) (Nat.le_refl _)
  have hb : b.1 ≤ a.1 + i := hb
  show (mt_st t D n m i b).1 ≤ _
  unfold mt_st
  split
  · show b.1 + 1 ≤ _
    omega
  · omega
theorem sr_codes {S : ss_S} {M : mm_M} (ho : ss_Ok S) (hR : ss_RR S M) {t n ways : Nat} (h1 : S.1 1 = nI t) (ht : t < 4096) (hn : n ≤ 3) (hn1 : 1 ≤ n) (hw : ways ≤ 1728) {m : Nat → Nat} (hm : ∀ h, h < 24 → m h ≤ 65535 ∧ M.2.1 133 h = nI (m h)) (a0 : mt_A) (ha0 : a0.1 = 0) (v2 : Int32) (k : Int32 → Int32 → mm_M → Option (Int32 × mm_M)) : ∃ M1, lp_R_meter_131 (nI n) v2 (nI ways) k mm_fu 0 (nI a0.2.1) 0 M = k (nI (nf (mt_st t (mt_D S) n m) ways a0).1) (nI (nf (mt_st t (mt_D S) n m) ways a0).2.1) M1 ∧ rm_f M M1 ∧ ((nf (mt_st t (mt_D S) n m) ways a0).1 ≠ 0 → ∀ j, j < n → M1.2.1 135 j = nI ((nf (mt_st t (mt_D S) n m) ways a0).2.2 j)) := by
  refine pp_ex (lp := fun q (a : Int32 × Int32 × Int32 × mm_M) => lp_R_meter_131 (nI n) v2 (nI ways) k q a.1 a.2.1 a.2.2.1 a.2.2.2) (fun c a => a.1 = nI (nf (mt_st t (mt_D S) n m) c a0).1 ∧ a.2.1 = nI (nf (mt_st t (mt_D S) n m) c a0).2.1 ∧ a.2.2.1 = nI c ∧ rm_f M a.2.2.2 ∧ a.2.2.2.2.1 133 = M.2.1 133 ∧ ((nf (mt_st t (mt_D S) n m) c a0).1 ≠ 0 → ∀ j, j < n → a.2.2.2.2.1 135 j = nI ((nf (mt_st t (mt_D S) n m) c a0).2.2 j))) (fun r => ∃ M1, r = k (nI (nf (mt_st t (mt_D S) n m) ways a0).1) (nI (nf (mt_st t (mt_D S) n m) ways a0).2.1) M1 ∧ rm_f M M1 ∧ ((nf (mt_st t (mt_D S) n m) ways a0).1 ≠ 0 → ∀ j, j < n → M1.2.1 135 j = nI ((nf (mt_st t (mt_D S) n m) ways a0).2.2 j))) ways (by omega) (fun c a hc ha => Or.inl ?_) (fun a ha q => ?_) (a := (nI 0, nI a0.2.1, nI 0, M)) ⟨by rw [nf, ha0], rfl, rfl, rm_f.rf, rfl, fun q => absurd ha0 q⟩
  · obtain ⟨v, w, x, M'⟩ := a
    obtain ⟨rfl, rfl, rfl, f1, f2, f3⟩ := ha
    have hle := mt_st_le t (mt_D S) n m c a0
    have f2 : M'.2.1 133 = M.2.1 133 := f2
    obtain ⟨M1, g1, g2, g3, g4, g5⟩ := sr_isRow ho (f1.RR hR) h1 ht hn hn1 (show c < 2000 by omega) (m := m) (fun h hh => ⟨(hm h hh).1, by rw [f2]; exact (hm h hh).2⟩)
    show ∃ a' : Int32 × Int32 × Int32 × mm_M, _ ∧ ∀ q, lp_R_meter_131 _ _ _ _ (q + 1) (nI (nf (mt_st t (mt_D S) n m) c a0).1) (nI (nf (mt_st t (mt_D S) n m) c a0).2.1) (nI c) M' = lp_R_meter_131 _ _ _ _ q a'.1 a'.2.1 a'.2.2.1 a'.2.2.2
    have hnf : nf (mt_st t (mt_D S) n m) (c + 1) a0 = mt_st t (mt_D S) n m c (nf (mt_st t (mt_D S) n m) c a0) := rfl
    cases hv : mt_vb t (mt_D S) n m c with
    | true =>
      have hst : mt_st t (mt_D S) n m c (nf (mt_st t (mt_D S) n m) c a0) = mt_note n (mt_y n c) (nf (mt_st t (mt_D S) n m) c a0) := by unfold mt_st; rw [if_pos hv]
      have hy : ∀ j, j < n → M1.2.1 134 j = nI (mt_y n c j) := fun j hj => g5 j hj hv
      obtain ⟨q2, q3, q4, q5⟩ := mt_m1_f M1 n (nf (mt_st t (mt_D S) n m) c a0).1 (mt_y n c)
      refine ⟨(nI ((nf (mt_st t (mt_D S) n m) c a0).1 + 1), nI ((nf (mt_st t (mt_D S) n m) c a0).2.1 &&& mt_set (mt_y n c) n), nI (c + 1), mt_m1 M1 n (nf (mt_st t (mt_D S) n m) c a0).1 (mt_y n c)), ⟨by rw [hnf, hst]; rfl, by rw [hnf, hst]; rfl, rfl, (f1.tr g2).tr q2, (q3.trans g3).trans f2, ?_⟩, fun q => ?_⟩
      · rw [hnf, hst]
        intro hz j hj
        show (mt_m1 M1 n (nf (mt_st t (mt_D S) n m) c a0).1 (mt_y n c)).2.1 135 j = nI ((if (nf (mt_st t (mt_D S) n m) c a0).1 = 0 then mt_y n c else (nf (mt_st t (mt_D S) n m) c a0).2.2) j)
        by_cases h0 : (nf (mt_st t (mt_D S) n m) c a0).1 = 0
        · rw [if_pos h0, q4 h0 j hj]
        · rw [if_neg h0, q5 h0, g4]
          exact f3 h0 j hj
      · rw [lp_R_meter_131, if_neg (nI_ge hc (by omega)), g1, pp_bd, pp_jn, hv, if_pos rfl, sr_mset hn (fun j hj => ⟨mt_y_lt n c j, hy j hj⟩), sr_mfirst hn (show (nf (mt_st t (mt_D S) n m) c a0).1 < 4000 by omega) hy, pp_andN, pp_let, nI_1, pp_let]
        show mm_let (nI c + 1) _ = _
        rw [nI_1, pp_let]
    | false =>
      have hst : mt_st t (mt_D S) n m c (nf (mt_st t (mt_D S) n m) c a0) = nf (mt_st t (mt_D S) n m) c a0 := by unfold mt_st; rw [hv, if_neg (by decide)]
      refine ⟨(nI (nf (mt_st t (mt_D S) n m) c a0).1, nI (nf (mt_st t (mt_D S) n m) c a0).2.1, nI (c + 1), M1), ⟨by rw [hnf, hst], by rw [hnf, hst], rfl, f1.tr g2, g3.trans f2, ?_⟩, fun q => ?_⟩
      · rw [hnf, hst]
        intro hz j hj
        show M1.2.1 135 j = _
        rw [g4]
        exact f3 hz j hj
      · rw [lp_R_meter_131, if_neg (nI_ge hc (by omega)), g1, pp_bd, pp_jn, hv, if_neg (show ¬ false = true by decide)]
        show mm_let (nI c + 1) _ = _
        rw [nI_1, pp_let]
  · obtain ⟨v, w, x, M'⟩ := a
    obtain ⟨rfl, rfl, rfl, f1, f2, f3⟩ := ha
    refine ⟨M', ?_, f1, f3⟩
    show lp_R_meter_131 _ _ _ _ (q + 1) _ _ (nI ways) M' = _
    rw [lp_R_meter_131, if_pos (nI_le (Nat.le_refl _) (by omega))]
/-- what meter answers -/
def mt_an (a : mt_A) (w : Int32) : Int32 := if w = -1 then nI a.1 else if a.1 = 0 then -2 else if w = 3 then nI a.2.1 else nI (a.2.2 w.toInt.toNat)
theorem pp_pairN {S : ss_S} (ho : ss_Ok S) {p : Nat} (hp : p + 1 < 200) : ∃ v : Nat, v ≤ 65535 ∧ pp_pair S p = nI v := by
  obtain ⟨a, ha, e1⟩ := ho.m 0 (by decide) rfl (j := p) (show p < 200 by omega)
  obtain ⟨b, hb, e2⟩ := ho.m 0 (by decide) rfl (j := p + 1) hp
  have ha : (a : Int) ≤ 255 := ha
  have hb : (b : Int) ≤ 255 := hb
  unfold pp_pair
  rw [e1, e2, pk_shlN (8 &&& 31) 8 (by decide) (by omega), pp_orN]
  refine ⟨_, ?_, rfl⟩
  have : a * 2 ^ 8 ||| b < 2 ^ 16 := Nat.or_lt_two_pow (by omega) (by omega)
  omega
def mt_m (S : ss_S) (h : Nat) : Nat := (pp_pair S (2 * h)).toInt.toNat
theorem mt_m_e {S : ss_S} (ho : ss_Ok S) {h : Nat} (hh : h < 24) : pp_pair S (2 * h) = nI (mt_m S h) ∧ mt_m S h ≤ 65535 := by
  obtain ⟨v, hv, e⟩ := pp_pairN ho (p := 2 * h) (by omega)
  unfold mt_m
  rw [e, nI_toInt (by omega)]
  exact ⟨rfl, by omega⟩
def mt_a0 : mt_A := (0, 4095, fun _ => 0)
def mt_all (S : ss_S) (t n : Nat) : mt_A := mt_F t (mt_D S) n n 0 (mt_m S) (fun _ => 0) mt_a0
/-- the codes come to the class's search, but for places of a row that nobody asks for -/
theorem mt_same {t : Nat} {D : Nat → Nat → Nat} {n : Nat} {m : Nat → Nat} (hn : n ≤ 3) (hn1 : 1 ≤ n) : ∀ (w : Nat), w ≤ 12 ^ n → (nf (mt_st t D n m) w mt_a0).1 = (nf (fun c a => if mt_v t D n 0 m c = true then mt_note n (mt_e n n (fun _ => 0) c) a else a) w mt_a0).1 ∧ (nf (mt_st t D n m) w mt_a0).2.1 = (nf (fun c a => if mt_v t D n 0 m c = true then mt_note n (mt_e n n (fun _ => 0) c) a else a) w mt_a0).2.1 ∧ ∀ j, j < n → (nf (mt_st t D n m) w mt_a0).2.2 j = (nf (fun c a => if mt_v t D n 0 m c = true then mt_note n (mt_e n n (fun _ => 0) c) a else a) w mt_a0).2.2 j := by
  intro w
  induction w with
  | zero => intro _; exact ⟨rfl, rfl, fun _ _ => rfl⟩
  | succ w ih =>
    intro hw
    obtain ⟨i1, i2, i3⟩ := ih (by omega)
    obtain ⟨v1, v2⟩ := mt_vy (t := t) (D := D) (m := m) (row := fun _ => 0) hn hn1 (show w < 12 ^ n by omega)
    have hset : ∀ k, k ≤ n → mt_set (mt_e n n (fun _ => 0) w) k = mt_set (mt_y n w) k := by
      intro k
      induction k with
      | zero => intro _; rfl
      | succ k ih2 => intro hk; rw [mt_set, mt_set, ih2 (by omega), v2 k (by omega)]
    rw [nf, nf]
    unfold mt_st at *
    rw [v1]
    by_cases hv : mt_v t D n 0 m w = true
    · rw [if_pos hv, if_pos hv]
      refine ⟨?_, ?_, fun j hj => ?_⟩
      · show _ + 1 = _ + 1
        rw [i1]
      · show _ &&& _ = _ &&& _
        rw [i2, hset n (Nat.le_refl _)]
      · show (if _ = 0 then _ else _ : Nat → Nat) j = (if _ = 0 then _ else _ : Nat → Nat) j
        rw [i1]
        split
        · exact (v2 j hj).symm
        · exact i3 j hj
    · rw [if_neg hv, if_neg hv]
      exact ⟨i1, i2, i3⟩
