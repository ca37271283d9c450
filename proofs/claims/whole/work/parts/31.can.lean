/-! which stays can be at once -/
abbrev pp_sub (t s : Nat) : Prop := t &&& s = t
theorem pp_sub_tb {t s i : Nat} (h : pp_sub t s) (hi : t.testBit i = true) : s.testBit i = true := by
  have : (t &&& s).testBit i = t.testBit i := by rw [show t &&& s = t from h]
  rw [Nat.testBit_and, hi, Bool.true_and] at this
  exact this
theorem pp_subI {t s : Nat} (h : ∀ i, t.testBit i = true → s.testBit i = true) : pp_sub t s := by
  refine Nat.eq_of_testBit_eq (fun i => ?_)
  rw [Nat.testBit_and]
  cases ht : t.testBit i with
  | false => rfl
  | true => rw [h i ht]; rfl
theorem pp_sub_le {t s : Nat} (h : pp_sub t s) : t ≤ s := by
  have : t &&& s ≤ s := Nat.and_le_right
  rw [show t &&& s = t from h] at this
  exact this
theorem pp_notN {s : Nat} (hs : s < 2 ^ 32) : nI s ^^^ (-1) = nI (2 ^ 32 - (s + 1)) := by
  rw [show (-1 : Int32) = nI 4294967295 from rfl, pp_xorN]
  congr 1
  refine Nat.eq_of_testBit_eq (fun i => ?_)
  rw [Nat.testBit_two_pow_sub_succ hs, Nat.testBit_xor, show 4294967295 = 2 ^ 32 - (0 + 1) from rfl, Nat.testBit_two_pow_sub_succ (by decide), Nat.zero_testBit]
  by_cases hi : i < 32
  · simp [hi]
  · have : s.testBit i = false := Nat.testBit_lt_two_pow (Nat.lt_of_lt_of_le hs (Nat.pow_le_pow_right (by decide) (by omega)))
    simp [hi, this]
theorem pp_part {t s : Nat} (ht : t < 2 ^ 31) (hs : s < 2 ^ 31) : nI t &&& (nI s ^^^ (-1)) = 0 ↔ pp_sub t s := by
  rw [pp_notN (by omega), pp_andN]
  have hle : t &&& (2 ^ 32 - (s + 1)) ≤ t := Nat.and_le_left
  rw [show (0 : Int32) = nI 0 from rfl, nI_eq (by omega) (by decide)]
  constructor
  · intro h
    refine pp_subI (fun i hi => ?_)
    have h2 : (t &&& (2 ^ 32 - (s + 1))).testBit i = false := by rw [h, Nat.zero_testBit]
    have hi32 : i < 32 := by
      rcases Nat.lt_or_ge i 32 with q | q
      · exact q
      · rw [Nat.testBit_lt_two_pow (Nat.lt_of_lt_of_le (show t < 2 ^ 32 by omega) (Nat.pow_le_pow_right (by decide) q))] at hi
        cases hi
    rw [Nat.testBit_and, Nat.testBit_two_pow_sub_succ (by omega), hi, decide_eq_true hi32] at h2
    simpa using h2
  · intro h
    refine Nat.eq_of_testBit_eq (fun i => ?_)
    rw [Nat.testBit_and, Nat.testBit_two_pow_sub_succ (by omega), Nat.zero_testBit]
    cases hi : t.testBit i with
    | false => rfl
    | true => rw [pp_sub_tb h hi]; simp
theorem ld_sum {S : ss_S} {M : mm_M} {L : ld_L} {s t : Nat} (h : ld_I L t M) (hL : ld_of S s L) (hsub : pp_sub t s) {k hr : Nat} (hk : k < 3) (hh : hr < 24) : M.2.1 69 (k * 24 + hr) = pp_all S t k hr := by
  rw [h.1.2.2.1 _ (by omega)]
  refine pp_sm_ext (fun b hb => ?_)
  cases ht : t.testBit b with
  | false => rfl
  | true =>
    rw [if_pos rfl, if_pos rfl, Nat.mul_comm k 24]
    exact (hL b hb (pp_sub_tb hsub ht)).2 k hr hk hh
theorem ld_rain {S : ss_S} {M : mm_M} {L : ld_L} {s t : Nat} (h : ld_I L t M) (hL : ld_of S s L) (hsub : pp_sub t s) {f hr : Nat} (hf : f < 4) (hh : hr < 24) : M.2.1 70 (f * 24 + hr) = pp_rain S t f hr := by
  rw [Nat.mul_comm f 24, h.1.2.2.2 f hr hf hh]
  refine pp_sm_ext (fun b hb => ?_)
  show (if (t.testBit b && decide (L.2 b = nI f)) = true then L.1 b hr else 0) = if (t.testBit b && decide (pp_fl S b = nI f)) = true then pp_want S b 0 hr else 0
  cases ht : t.testBit b with
  | false => rfl
  | true =>
    have h1 := hL b hb (pp_sub_tb hsub ht)
    have h2 := h1.2 0 hr (by decide) hh
    rw [Nat.mul_zero, Nat.zero_add] at h2
    rw [h1.1, h2]
theorem ld_of_F {S : ss_S} {L : ld_L} {s t : Nat} (ho : ss_Ok S) (hL : ld_of S s L) (hsub : pp_sub t s) : ld_F L t := fun b hb ht => by
  obtain ⟨f, hf, e⟩ := pp_fl_e ho hb
  exact ⟨f, hf, (hL b hb (pp_sub_tb hsub ht)).1.trans e⟩
theorem ld_F0 {L : ld_L} : ld_F L 0 := fun b _ h => by rw [Nat.zero_testBit] at h; cases h
/-- why not, at an hour -/
def pp_why2 (S : ss_S) (sm fr : Nat → Nat → Int32) (h : Nat) (w : Int32) : Int32 :=
  if fr 0 h ≤ S.2 5 0 then if fr 1 h ≤ S.2 5 1 then if fr 2 h ≤ S.2 5 2 then if fr 3 h ≤ S.2 5 3 then if sm 0 h ≤ w then pp_m1 else nI 7 else nI (3 + 3) else nI (3 + 2) else nI (3 + 1) else nI (3 + 0)
def pp_why (S : ss_S) (sm fr : Nat → Nat → Int32) (h : Nat) (w : Int32) (pl : Bool) : Int32 :=
  if pl = true then (if sm 0 h ≤ S.2 3 0 then if sm 1 h ≤ S.2 3 1 then if sm 2 h ≤ S.2 3 2 then pp_why2 S sm fr h w else nI 2 else nI 1 else nI 0) else pp_why2 S sm fr h w
def pp_mn (a b : Int32) : Int32 := if b ≤ a then b else a
def pp_mx (a b : Int32) : Int32 := if a ≤ b then b else a
def pp_can (S : ss_S) (sm fr : Nat → Nat → Int32) (pl : Bool) : Nat → Nat → Int32 → Option (Nat × Int32)
  | 0, _, _ => none
  | n + 1, h, w => if pp_why S sm fr h (pp_mn 9999 (w + S.1 4)) pl = pp_m1 then pp_can S sm fr pl n (h + 1) ((pp_mn 9999 (w + S.1 4)) - sm 0 h) else some (h, pp_why S sm fr h (pp_mn 9999 (w + S.1 4)) pl)
theorem pp_fu5 : ∃ n, mm_fu = n + 1 + 1 + 1 + 1 + 1 := ⟨4995, rfl⟩
theorem sh_causeAt {S : ss_S} {M : mm_M} {sm fr : Nat → Nat → Int32} (hH : ss_RH S M) (e1 : ∀ k h, k < 3 → h < 24 → M.2.1 69 (k * 24 + h) = sm k h) (e2 : ∀ f h, f < 4 → h < 24 → M.2.1 70 (f * 24 + h) = fr f h) {h : Nat} (hh : h < 24) (w : Int32) (pl : Bool) : f_Load_causeAt (nI h) w (if pl = true then nI 0 else nI 3) M = some (pp_why S sm fr h w pl, M) := by
  have m0 : ∀ k, k < 3 → M.2.1 24 k = S.2 3 k := fun k hk => hH.2 3 (by decide) k hk
  have m1 : ∀ k, k < 4 → M.2.1 26 k = S.2 5 k := fun k hk => hH.2 5 (by decide) k hk
  have e3 : M.2.1 69 (0 + h) = sm 0 h := by rw [← e1 0 h (by decide) hh, Nat.zero_mul]
  have s1 : ∀ kA kB n i, i < 3 → lp_Load_causeAt_3 (nI h) w kA kB (n + 1) (nI i) M = if sm i h ≤ S.2 3 i then lp_Load_causeAt_3 (nI h) w kA kB n (nI (i + 1)) M else kA (nI i) M := fun kA kB n i hi => by
    rw [lp_Load_causeAt_3]
    simp (disch := omega) only [pp_bd, pp_let, pp_jn, zl0, zl1, zl2, zl3, zl4, zl5, zl6, zl7, zl8, zl9, zl10, zl11, zl12, zl14, zl20, zl23, zl24, zl48, zl60, zl72, zl96, zl99, zl100, zl120, zl160, zl180, zl200, zl255, zl720, zl999, zl1023, zl1024, zl4095, zl9999, zl65536, nI_add, pp_mulN, zm1, zm2, zm3, nI_leI, nI_ltI, nI_eq, pp_in, nI_clamp, ↓reduceIte, show ¬ 3 ≤ i from by omega, mm_al_69, mm_al_24, m0, e1]
  have s2 : ∀ kA kB n i, i < 4 → lp_Load_causeAt_46 (nI h) w kA kB (n + 1) (nI i) M = if fr i h ≤ S.2 5 i then lp_Load_causeAt_46 (nI h) w kA kB n (nI (i + 1)) M else kA (nI i) M := fun kA kB n i hi => by
    rw [lp_Load_causeAt_46]
    simp (disch := omega) only [pp_bd, pp_let, pp_jn, zl0, zl1, zl2, zl3, zl4, zl5, zl6, zl7, zl8, zl9, zl10, zl11, zl12, zl14, zl20, zl23, zl24, zl48, zl60, zl72, zl96, zl99, zl100, zl120, zl160, zl180, zl200, zl255, zl720, zl999, zl1023, zl1024, zl4095, zl9999, zl65536, nI_add, pp_mulN, zm1, zm2, zm3, nI_leI, nI_ltI, nI_eq, pp_in, nI_clamp, ↓reduceIte, show ¬ 4 ≤ i from by omega, mm_al_70, mm_al_26, m1, e2]
  have t1 : ∀ kA kB n, lp_Load_causeAt_3 (nI h) w kA kB (n + 1) (nI 3) M = kB M := fun kA kB n => by rw [lp_Load_causeAt_3, if_pos (by decide)]
  have t2 : ∀ kA kB n, lp_Load_causeAt_46 (nI h) w kA kB (n + 1) (nI 4) M = kB M := fun kA kB n => by rw [lp_Load_causeAt_46, if_pos (by decide)]
  unfold f_Load_causeAt pp_why
  obtain ⟨n, hn⟩ := pp_fu5
  rw [hn, show (0 : Int32) = nI 0 from rfl]
  have k2 : ∀ kA, lp_Load_causeAt_46 (nI h) w kA (fun (M_6 : mm_M) => if mm_in (nI 0 + nI h) (mm_al 69) = true then if M_6.2.1 69 (nI 0 + nI h).toNatClampNeg ≤ w then some ((-1), M_6) else some (7, M_6) else none) (n + 1 + 1 + 1 + 1 + 1) (nI 0) M = if fr 0 h ≤ S.2 5 0 then if fr 1 h ≤ S.2 5 1 then if fr 2 h ≤ S.2 5 2 then if fr 3 h ≤ S.2 5 3 then if sm 0 h ≤ w then some (pp_m1, M) else some (nI 7, M) else kA (nI 3) M else kA (nI 2) M else kA (nI 1) M else kA (nI 0) M := fun kA => by
    rw [s2 _ _ _ 0 (by decide), s2 _ _ _ 1 (by decide), s2 _ _ _ 2 (by decide), s2 _ _ _ 3 (by decide), t2]
    simp (disch := omega) only [pp_bd, pp_let, pp_jn, zl0, zl1, zl2, zl3, zl4, zl5, zl6, zl7, zl8, zl9, zl10, zl11, zl12, zl14, zl20, zl23, zl24, zl48, zl60, zl72, zl96, zl99, zl100, zl120, zl160, zl180, zl200, zl255, zl720, zl999, zl1023, zl1024, zl4095, zl9999, zl65536, nI_add, pp_mulN, zm1, zm2, zm3, nI_leI, nI_ltI, nI_eq, pp_in, nI_clamp, ↓reduceIte, mm_al_69, e3]
  have k3 : lp_Load_causeAt_46 (nI h) w (fun (v4 : Int32) (M_5 : mm_M) => some (3 + v4, M_5)) (fun (M_6 : mm_M) => if mm_in (nI 0 + nI h) (mm_al 69) = true then if M_6.2.1 69 (nI 0 + nI h).toNatClampNeg ≤ w then some ((-1), M_6) else some (7, M_6) else none) (n + 1 + 1 + 1 + 1 + 1) (nI 0) M = some (pp_why2 S sm fr h w, M) := by
    rw [k2]
    unfold pp_why2
    split
    · split
      · split
        · split
          · split <;> rfl
          · rfl
        · rfl
      · rfl
    · rfl
  cases pl with
  | true =>
    rw [if_pos rfl, if_pos rfl, s1 _ _ _ 0 (by decide), s1 _ _ _ 1 (by decide), s1 _ _ _ 2 (by decide), t1, k3]
    split
    · split
      · split
        · rfl
        · rfl
      · rfl
    · rfl
  | false =>
    rw [if_neg (by decide), if_neg (by decide), t1, k3]
theorem ii_le_of_lt {a b : Int32} (h : a < b) : a ≤ b := by rw [ii_le]; rw [ii_lt] at h; omega
theorem ii_antisymm {a b : Int32} (h : ¬ a < b) (h2 : a ≤ b) : a = b := by rw [ii_eq]; rw [ii_lt] at h; rw [ii_le] at h2; omega
theorem sh_min (a b : Int32) (M : mm_M) : f_Math_min a b M = some (pp_mn a b, M) := by
  unfold f_Math_min pp_mn
  by_cases h : b < a
  · rw [if_pos h, if_pos (ii_le_of_lt h)]
  · rw [if_neg h]
    by_cases h2 : b ≤ a
    · rw [if_pos h2, ii_antisymm h h2]
    · rw [if_neg h2]
theorem sh_max (a b : Int32) (M : mm_M) : f_Math_max a b M = some (pp_mx a b, M) := by
  unfold f_Math_max pp_mx
  by_cases h : a < b
  · rw [if_pos h, if_pos (ii_le_of_lt h)]
  · rw [if_neg h]
    by_cases h2 : a ≤ b
    · rw [if_pos h2, ii_antisymm h h2]
    · rw [if_neg h2]
theorem sr_min (a b : Int32) (M : mm_M) : f_R_min a b M = some (pp_mn a b, M) := by
  unfold f_R_min pp_mn
  split <;> rfl
theorem sr_max (a b : Int32) (M : mm_M) : f_R_max a b M = some (pp_mx a b, M) := by
  unfold f_R_max pp_mx
  split <;> rfl
def ld_end (M : mm_M) : Option (Nat × Int32) → mm_M
  | none => M
  | some q => mm_setI (mm_setI M 56 8 (nI q.1)) 56 9 q.2
theorem sh_fitsFrom {S : ss_S} {M : mm_M} {sm fr : Nat → Nat → Int32} (hH : ss_RH S M) (e1 : ∀ k h, k < 3 → h < 24 → M.2.1 69 (k * 24 + h) = sm k h) (e2 : ∀ f h, f < 4 → h < 24 → M.2.1 70 (f * 24 + h) = fr f h) (pl : Bool) : f_Load_fitsFrom (if pl = true then nI 0 else nI 3) M = some ((pp_can S sm fr pl 24 0 (S.1 3)).isNone, ld_end M (pp_can S sm fr pl 24 0 (S.1 3))) := by
  unfold f_Load_fitsFrom
  rw [show M.1 22 5 = S.1 3 from hH.1 3 (by decide), pp_let]
  have key : ∀ n h m w, h + n = 24 → lp_Load_fitsFrom_10 (if pl = true then nI 0 else nI 3) (fun (v3 : Int32) (v4 : Int32) (M_8 : mm_M) => mm_let (mm_setI M_8 56 8 v3) fun M_9 => mm_let (mm_setI M_9 56 9 v4) fun M_10 => some (false, M_10)) (fun (M_11 : mm_M) => some (true, M_11)) (m + n + 1) w (nI h) M = some ((pp_can S sm fr pl n h w).isNone, ld_end M (pp_can S sm fr pl n h w)) := by
    intro n
    induction n with
    | zero =>
      intro h m w hh
      have : h = 24 := by omega
      subst this
      rw [lp_Load_fitsFrom_10, if_pos (by decide)]
      rfl
    | succ n ih =>
      intro h m w hh
      have e3 : M.2.1 69 (0 + h) = sm 0 h := by rw [← e1 0 h (by decide) (by omega), Nat.zero_mul]
      rw [show m + (n + 1) + 1 = (m + n + 1) + 1 from rfl, lp_Load_fitsFrom_10, if_neg (show ¬ (24 : Int32) ≤ nI h from nI_ge (show h < 24 by omega) (by decide))]
      unfold f_House_afterInflow
      rw [sh_min, pp_bd, pp_bd, show M.1 22 6 = S.1 4 from hH.1 4 (by decide), sh_causeAt hH e1 e2 (by omega), pp_bd, pp_can, mm_al_69]
      by_cases hc : pp_why S sm fr h (pp_mn 9999 (w + S.1 4)) pl = pp_m1
      · rw [if_pos hc, if_pos (show _ = (-1 : Int32) from hc), show (0 : Int32) + nI h = nI (0 + h) from nI_add 0 h, pp_in (by omega) (by decide), if_pos rfl, nI_clamp (by omega), e3, pp_let, nI_1, pp_let]
        exact ih (h + 1) m _ (by omega)
      · rw [if_neg hc, if_neg (show ¬ _ = (-1 : Int32) from hc)]
        rfl
  exact key 24 0 4975 _ rfl
/-- the class's load: which sets fit -/
theorem sh_fits {S : ss_S} {M : mm_M} {L : ld_L} {s t : Nat} (hH : ss_RH S M) (h : ld_I L t M) (hL : ld_of S s L) (hsub : pp_sub t s) (pl : Bool) : f_Load_fitsFrom (if pl = true then nI 0 else nI 3) M = some ((pp_can S (pp_all S t) (pp_rain S t) pl 24 0 (S.1 3)).isNone, ld_end M (pp_can S (pp_all S t) (pp_rain S t) pl 24 0 (S.1 3))) :=
  sh_fitsFrom hH (fun _ _ hk hh => ld_sum h hL hsub hk hh) (fun _ _ hf hh => ld_rain h hL hsub hf hh) pl
def pp_fit (S : ss_S) (t : Nat) (pl : Bool) : Option (Nat × Int32) := pp_can S (pp_all S t) (pp_rain S t) pl 24 0 (S.1 3)
theorem ld_end_I {L : ld_L} {t : Nat} {M : mm_M} (h : ld_I L t M) (q : Option (Nat × Int32)) : ld_I L t (ld_end M q) := by
  cases q with
  | none => exact h
  | some q => exact ⟨h.1, h.2⟩
theorem ld_end_m (M : mm_M) (q : Option (Nat × Int32)) : ss_m 56 71 M (ld_end M q) := by
  cases q with
  | none => exact ss_m.rf
  | some q => exact (ss_m.rf.s (by omega)).s (by omega)
/-- the reference: only these cells change -/
def rc_f (M M1 : mm_M) : Prop := (∀ o q, ¬ (o = 97 ∧ 49 ≤ q ∧ q ≤ 51) → M1.1 o q = M.1 o q) ∧ M1.2 = M.2
theorem rc_f.rf {M : mm_M} : rc_f M M := ⟨fun _ _ _ => rfl, rfl⟩
theorem rc_f.tr {M M1 M2 : mm_M} (h : rc_f M M1) (h2 : rc_f M1 M2) : rc_f M M2 := ⟨fun o q hq => (h2.1 o q hq).trans (h.1 o q hq), h2.2.trans h.2⟩
theorem rc_f.s {M M1 : mm_M} (h : rc_f M M1) {q : Nat} (hq : 49 ≤ q ∧ q ≤ 51) (v : Int32) : rc_f M (mm_setI M1 97 q v) := ⟨fun o i hi => by
  rw [← h.1 o i hi]
  show (if o = 97 ∧ i = q then v else M1.1 o i) = _
  rw [if_neg (fun e => hi (by omega))], h.2⟩
theorem ss_ro_49 : ∀ k, k < 11 → ¬ ((ss_ro k).1 = 97 ∧ 49 ≤ (ss_ro k).2 ∧ (ss_ro k).2 ≤ 51) := by decide
theorem rc_f.RR {S : ss_S} {M M1 : mm_M} (h : rc_f M M1) (hR : ss_RR S M) : ss_RR S M1 := ⟨fun k hk => by rw [h.1 _ _ (ss_ro_49 k hk)]; exact hR.1 k hk, fun a ha j hj => by rw [h.2]; exact hR.2 a ha j hj⟩
theorem rc_f.r {M M1 : mm_M} (h : rc_f M M1) : ss_r M M1 := ⟨fun o ho => ⟨funext (fun q => h.1 o q (by omega)), by rw [h.2], by rw [h.2]⟩, fun o _ _ => by rw [h.2]⟩
theorem sr_whyNot {S : ss_S} {M : mm_M} (ho : ss_Ok S) (hR : ss_RR S M) {s h : Nat} (hs : s < 2 ^ 31) (hh : h < 24) (pl : Bool) : f_R_whyNot (nI s) (nI h) (pp_all S s 0 h) pl M = some (pp_why S (pp_all S s) (pp_rain S s) h (M.1 97 49) pl, M) := by
  have m0 : ∀ k, k < 3 → M.2.1 102 k = S.2 3 k := fun k hk => hR.2 3 (by decide) k hk
  have m1 : ∀ k, k < 4 → M.2.1 104 k = S.2 5 k := fun k hk => hR.2 5 (by decide) k hk
  have s1 : ∀ kA kB n i, i < 3 → lp_R_whyNot_20 (nI s) (nI h) (pp_all S s 0 h) true kA kB (n + 1) (nI i) M = if pp_all S s i h ≤ S.2 3 i then lp_R_whyNot_20 (nI s) (nI h) (pp_all S s 0 h) true kA kB n (nI (i + 1)) M else kA (nI i) M := fun kA kB n i hi => by
    rw [lp_R_whyNot_20]
    simp (disch := omega) only [pp_bd, pp_let, pp_jn, zl0, zl1, zl2, zl3, zl4, zl5, zl6, zl7, zl8, zl9, zl10, zl11, zl12, zl14, zl20, zl23, zl24, zl48, zl60, zl72, zl96, zl99, zl100, zl120, zl160, zl180, zl200, zl255, zl720, zl999, zl1023, zl1024, zl4095, zl9999, zl65536, nI_add, pp_mulN, zm1, zm2, zm3, nI_leI, nI_ltI, nI_eq, pp_in, nI_clamp, ↓reduceIte, show ¬ 3 ≤ i from by omega, mm_al_102, m0, sr_wantAll ho hR hs hi hh]
  have s1f : ∀ kA kB n i, i < 3 → lp_R_whyNot_20 (nI s) (nI h) (pp_all S s 0 h) false kA kB (n + 1) (nI i) M = lp_R_whyNot_20 (nI s) (nI h) (pp_all S s 0 h) false kA kB n (nI (i + 1)) M := fun kA kB n i hi => by
    rw [lp_R_whyNot_20]
    simp (disch := omega) only [pp_bd, pp_let, pp_jn, zl0, zl1, zl2, zl3, zl4, zl5, zl6, zl7, zl8, zl9, zl10, zl11, zl12, zl14, zl20, zl23, zl24, zl48, zl60, zl72, zl96, zl99, zl100, zl120, zl160, zl180, zl200, zl255, zl720, zl999, zl1023, zl1024, zl4095, zl9999, zl65536, nI_add, pp_mulN, zm1, zm2, zm3, nI_leI, nI_ltI, nI_eq, pp_in, nI_clamp, ↓reduceIte, show ¬ 3 ≤ i from by omega, Bool.false_eq_true]
  have s2 : ∀ kA kB n i, i < 4 → lp_R_whyNot_61 (nI s) (nI h) (pp_all S s 0 h) kA kB (n + 1) (nI i) M = if pp_rain S s i h ≤ S.2 5 i then lp_R_whyNot_61 (nI s) (nI h) (pp_all S s 0 h) kA kB n (nI (i + 1)) M else kA (nI i) M := fun kA kB n i hi => by
    rw [lp_R_whyNot_61]
    simp (disch := omega) only [pp_bd, pp_let, pp_jn, zl0, zl1, zl2, zl3, zl4, zl5, zl6, zl7, zl8, zl9, zl10, zl11, zl12, zl14, zl20, zl23, zl24, zl48, zl60, zl72, zl96, zl99, zl100, zl120, zl160, zl180, zl200, zl255, zl720, zl999, zl1023, zl1024, zl4095, zl9999, zl65536, nI_add, pp_mulN, zm1, zm2, zm3, nI_leI, nI_ltI, nI_eq, pp_in, nI_clamp, ↓reduceIte, show ¬ 4 ≤ i from by omega, mm_al_104, m1, sr_rainOf ho hR hs hi hh]
  have t1 : ∀ kA kB n, lp_R_whyNot_20 (nI s) (nI h) (pp_all S s 0 h) pl kA kB (n + 1) (nI 3) M = kB M := fun kA kB n => by rw [lp_R_whyNot_20, if_pos (by decide)]
  have t2 : ∀ kA kB n, lp_R_whyNot_61 (nI s) (nI h) (pp_all S s 0 h) kA kB (n + 1) (nI 4) M = kB M := fun kA kB n => by rw [lp_R_whyNot_61, if_pos (by decide)]
  unfold f_R_whyNot pp_why
  obtain ⟨n, hn⟩ := pp_fu5
  rw [hn, show (0 : Int32) = nI 0 from rfl, show (1 : Int32) = nI 1 from rfl, mm_al_102, pp_in (by decide) (by decide), if_pos rfl, pp_jn, nI_clamp (by decide), m0 0 (by decide)]
  have k3 : lp_R_whyNot_61 (nI s) (nI h) (pp_all S s 0 h) (fun (v4 : Int32) (M_5 : mm_M) => some (3 + v4, M_5)) (fun (M_12 : mm_M) => if pp_all S s 0 h ≤ M_12.1 97 49 then some (-nI 1, M_12) else some (7, M_12)) (n + 1 + 1 + 1 + 1 + 1) (nI 0) M = some (pp_why2 S (pp_all S s) (pp_rain S s) h (M.1 97 49), M) := by
    rw [s2 _ _ _ 0 (by decide), s2 _ _ _ 1 (by decide), s2 _ _ _ 2 (by decide), s2 _ _ _ 3 (by decide), t2]
    unfold pp_why2
    split
    · split
      · split
        · split
          · split <;> rfl
          · rfl
        · rfl
      · rfl
    · rfl
  cases pl with
  | true =>
    rw [if_pos rfl]
    by_cases hc : pp_all S s 0 h ≤ S.2 3 0
    · rw [if_pos hc, if_pos hc]
      show lp_R_whyNot_20 _ _ _ _ _ _ _ _ _ = _
      rw [s1 _ _ _ 1 (by decide), s1 _ _ _ 2 (by decide), t1, k3]
      split
      · split
        · rfl
        · rfl
      · rfl
    · rw [if_neg hc, if_neg hc, if_pos rfl]
  | false =>
    rw [if_neg (show ¬ false = true by decide), if_neg (show ¬ false = true by decide)]
    have e : lp_R_whyNot_20 (nI s) (nI h) (pp_all S s 0 h) false (fun (v5 : Int32) (M_6 : mm_M) => some (v5, M_6)) (fun (M_7 : mm_M) => lp_R_whyNot_61 (nI s) (nI h) (pp_all S s 0 h) (fun (v5 : Int32) (M_11 : mm_M) => some (3 + v5, M_11)) (fun (M_12 : mm_M) => if pp_all S s 0 h ≤ M_12.1 97 49 then some (-nI 1, M_12) else some (7, M_12)) (n + 1 + 1 + 1 + 1 + 1) (nI 0) M_7) (n + 1 + 1 + 1 + 1 + 1) (nI 1) M = some (pp_why2 S (pp_all S s) (pp_rain S s) h (M.1 97 49), M) := by
      rw [s1f _ _ _ 1 (by decide), s1f _ _ _ 2 (by decide), t1, k3]
    split
    · exact e
    · exact e
theorem sr_canBe {S : ss_S} {M : mm_M} (ho : ss_Ok S) (hR : ss_RR S M) {s : Nat} (hs : s < 2 ^ 31) (pl : Bool) : ∃ M1, f_R_canBe (nI s) pl M = some ((pp_fit S s pl).isNone, M1) ∧ rc_f M M1 ∧ ∀ q, pp_fit S s pl = some q → M1.1 97 50 = nI q.1 ∧ M1.1 97 51 = q.2 := by
  unfold f_R_canBe
  rw [pp_let, show M.1 97 10 = S.1 3 from hR.1 3 (by decide)]
  have key : ∀ n h m w M', h + n = 24 → rc_f M M' → M'.1 97 49 = w → ∃ M1, lp_R_canBe_10 (nI s) pl (fun (M_13 : mm_M) => some (false, M_13)) (fun (M_14 : mm_M) => some (true, M_14)) (m + n + 1) (nI h) M' = some ((pp_can S (pp_all S s) (pp_rain S s) pl n h w).isNone, M1) ∧ rc_f M M1 ∧ ∀ q, pp_can S (pp_all S s) (pp_rain S s) pl n h w = some q → M1.1 97 50 = nI q.1 ∧ M1.1 97 51 = q.2 := by
    intro n
    induction n with
    | zero =>
      intro h m w M' hh hf hw
      have : h = 24 := by omega
      subst this
      refine ⟨M', ?_, hf, fun q hq => by cases hq⟩
      rw [lp_R_canBe_10, if_pos (by decide)]
      rfl
    | succ n ih =>
      intro h m w M' hh hf hw
      have hR' := hf.RR hR
      rw [show m + (n + 1) + 1 = (m + n + 1) + 1 from rfl, lp_R_canBe_10, if_neg (show ¬ (24 : Int32) ≤ nI h from nI_ge (show h < 24 by omega) (by decide)), sr_min, pp_bd, hw, show M'.1 97 11 = S.1 4 from hR'.1 4 (by decide), pp_let]
      have hf2 : rc_f M (mm_setI M' 97 49 (pp_mn 9999 (w + S.1 4))) := hf.s (by decide) _
      have hf3 := hf2.s (q := 50) (by decide) (nI h)
      rw [show (0 : Int32) = nI 0 from rfl, sr_wantAll ho (hf2.RR hR) hs (by decide) (by omega), pp_bd, pp_let, sr_whyNot ho (hf3.RR hR) hs (by omega), pp_bd, pp_let, show (mm_setI (mm_setI M' 97 49 (pp_mn 9999 (w + S.1 4))) 97 50 (nI h)).1 97 49 = pp_mn 9999 (w + S.1 4) from rfl, pp_can]
      have hf4 := hf3.s (q := 51) (by decide) (pp_why S (pp_all S s) (pp_rain S s) h (pp_mn 9999 (w + S.1 4)) pl)
      by_cases hc : pp_why S (pp_all S s) (pp_rain S s) h (pp_mn 9999 (w + S.1 4)) pl = pp_m1
      · rw [if_pos hc, if_pos (show (mm_setI _ 97 51 (pp_why S (pp_all S s) (pp_rain S s) h (pp_mn 9999 (w + S.1 4)) pl)).1 97 51 = (-1 : Int32) from hc), pp_let, nI_1, pp_let]
        exact ih (h + 1) m _ _ (by omega) (hf4.s (by decide) _) rfl
      · rw [if_neg hc, if_neg (show ¬ (mm_setI _ 97 51 (pp_why S (pp_all S s) (pp_rain S s) h (pp_mn 9999 (w + S.1 4)) pl)).1 97 51 = (-1 : Int32) from hc)]
        refine ⟨_, rfl, hf4, fun q hq => ?_⟩
        cases hq
        exact ⟨rfl, rfl⟩
  exact key 24 0 4975 _ _ rfl (rc_f.rf.s (by decide) _) rfl
