/-! frames by sides; the tie; small functions of both sides -/
def ss_h (M M1 : mm_M) : Prop := ss_m 0 97 M M1 ∧ ∀ o, 38 ≤ o → o ≤ 43 → M1.2.1 o = M.2.1 o
def ss_r (M M1 : mm_M) : Prop := ss_m 97 140 M M1 ∧ ∀ o, 115 ≤ o → o ≤ 119 → M1.2.1 o = M.2.1 o
theorem ss_h.rf {M : mm_M} : ss_h M M := ⟨ss_m.rf, fun _ _ _ => rfl⟩
theorem ss_r.rf {M : mm_M} : ss_r M M := ⟨ss_m.rf, fun _ _ _ => rfl⟩
theorem ss_h.tr {M M1 M2 : mm_M} (h1 : ss_h M M1) (h2 : ss_h M1 M2) : ss_h M M2 := ⟨h1.1.tr h2.1, fun o a b => (h2.2 o a b).trans (h1.2 o a b)⟩
theorem ss_r.tr {M M1 M2 : mm_M} (h1 : ss_r M M1) (h2 : ss_r M1 M2) : ss_r M M2 := ⟨h1.1.tr h2.1, fun o a b => (h2.2 o a b).trans (h1.2 o a b)⟩
theorem ss_seta_ne {M : mm_M} {o k i : Nat} {v : Int32} (h : i ≠ o) : (mm_setA M o k v).2.1 i = M.2.1 i := by
  funext q
  show (if i = o ∧ q = k then v else M.2.1 i q) = _
  rw [if_neg (fun e => h e.1)]
theorem ss_setr_ne {M : mm_M} {o i : Nat} {f : Nat → Int32} (h : i ≠ o) : (mm_setR M o f).2.1 i = M.2.1 i := by
  funext q
  show (if i = o then f q else M.2.1 i q) = _
  rw [if_neg h]
theorem ss_h.s {M M1 : mm_M} (h : ss_h M M1) {o k : Nat} {v : Int32} (ho : o < 97) : ss_h M (mm_setI M1 o k v) := ⟨h.1.s ⟨Nat.zero_le _, ho⟩, h.2⟩
theorem ss_r.s {M M1 : mm_M} (h : ss_r M M1) {o k : Nat} {v : Int32} (ho : 97 ≤ o ∧ o < 140) : ss_r M (mm_setI M1 o k v) := ⟨h.1.s ho, h.2⟩
theorem ss_h.a {M M1 : mm_M} (h : ss_h M M1) {o k : Nat} {v : Int32} (ho : o < 97 ∧ (o < 38 ∨ 43 < o)) : ss_h M (mm_setA M1 o k v) := ⟨h.1.a ⟨Nat.zero_le _, ho.1⟩, fun i a b => by rw [ss_seta_ne (by omega)]; exact h.2 i a b⟩
theorem ss_r.a {M M1 : mm_M} (h : ss_r M M1) {o k : Nat} {v : Int32} (ho : 97 ≤ o ∧ o < 140 ∧ (o < 115 ∨ 119 < o)) : ss_r M (mm_setA M1 o k v) := ⟨h.1.a ⟨ho.1, ho.2.1⟩, fun i a b => by rw [ss_seta_ne (by omega)]; exact h.2 i a b⟩
theorem ss_h.r {M M1 : mm_M} (h : ss_h M M1) {o : Nat} {f : Nat → Int32} (ho : o < 97 ∧ (o < 38 ∨ 43 < o)) : ss_h M (mm_setR M1 o f) := ⟨h.1.r ⟨Nat.zero_le _, ho.1⟩, fun i a b => by rw [ss_setr_ne (by omega)]; exact h.2 i a b⟩
/-- the law's rows, of both -/
def ss_lw (M : mm_M) : Nat → Nat → Int32 := fun o => if (38 ≤ o ∧ o ≤ 43) ∨ (115 ≤ o ∧ o ≤ 119) then M.2.1 o else fun _ => 0
theorem ss_lw_h {M M1 : mm_M} (h : ss_h M M1) : ss_lw M1 = ss_lw M := by
  funext o
  unfold ss_lw
  by_cases hc : (38 ≤ o ∧ o ≤ 43) ∨ (115 ≤ o ∧ o ≤ 119)
  · rw [if_pos hc, if_pos hc]
    rcases hc with hc | hc
    · exact h.2 o hc.1 hc.2
    · exact (h.1 o (Or.inr (by omega))).2.1
  · rw [if_neg hc, if_neg hc]
theorem ss_lw_r {M M1 : mm_M} (h : ss_r M M1) : ss_lw M1 = ss_lw M := by
  funext o
  unfold ss_lw
  by_cases hc : (38 ≤ o ∧ o ≤ 43) ∨ (115 ≤ o ∧ o ≤ 119)
  · rw [if_pos hc, if_pos hc]
    rcases hc with hc | hc
    · exact (h.1 o (Or.inl (by omega))).2.1
    · exact h.2 o hc.1 hc.2
  · rw [if_neg hc, if_neg hc]
/-- THE TIE: both hold one state; Q speaks of the law -/
def ss_I (Q : Int32 → (Nat → Nat → Int32) → Prop) (M : mm_M) : Prop := ∃ S : ss_S, ss_Ok S ∧ ss_RH S M ∧ ss_RR S M ∧ Q (S.1 10) (ss_lw M)
theorem ss_go {Q : Int32 → (Nat → Nat → Int32) → Prop} {α : Type} {fH fR : mm_M → Option (α × mm_M)} {M : mm_M} {S S' : ss_S} {r : α} (hI : ss_Ok S ∧ ss_RH S M ∧ ss_RR S M ∧ Q (S.1 10) (ss_lw M)) (hok : ss_Ok S') (h10 : S'.1 10 = S.1 10)
    (hH : ∃ M1, fH M = some (r, M1) ∧ ss_RH S' M1 ∧ ss_h M M1) (hR : ∀ M1, ss_RR S M1 → ∃ M2, fR M1 = some (r, M2) ∧ ss_RR S' M2 ∧ ss_r M1 M2) :
    ∃ (r : α) (M1 M2 : mm_M), fH M = some (r, M1) ∧ fR M1 = some (r, M2) ∧ ss_I Q M2 := by
  obtain ⟨M1, a1, a2, a3⟩ := hH
  obtain ⟨M2, b1, b2, b3⟩ := hR M1 (hI.2.2.1.m a3.1)
  exact ⟨r, M1, M2, a1, b1, S', hok, a2.m b3.1, b2, by rw [h10, ss_lw_r b3, ss_lw_h a3]; exact hI.2.2.2⟩
/-- nothing is changed that is held -/
theorem ss_same {Q : Int32 → (Nat → Nat → Int32) → Prop} {α : Type} {fH fR : mm_M → Option (α × mm_M)} {M : mm_M} {S : ss_S} {r : α} (hI : ss_Ok S ∧ ss_RH S M ∧ ss_RR S M ∧ Q (S.1 10) (ss_lw M))
    (hH : ∃ M1, fH M = some (r, M1) ∧ ss_RH S M1 ∧ ss_h M M1) (hR : ∀ M1, ss_RR S M1 → ∃ M2, fR M1 = some (r, M2) ∧ ss_RR S M2 ∧ ss_r M1 M2) :
    ∃ (r : α) (M1 M2 : mm_M), fH M = some (r, M1) ∧ fR M1 = some (r, M2) ∧ ss_I Q M2 := ss_go hI hI.1 rfl hH hR
theorem sh_isBelow (v n : Int32) (M : mm_M) : f_H_isBelow v n M = some (decide (0 ≤ v.toInt ∧ v.toInt < n.toInt), M) := by
  unfold f_H_isBelow
  simp only [ii_lt, ii_le]
  rw [show (0 : Int32).toInt = 0 from rfl]
  by_cases h1 : v.toInt < 0
  · rw [if_pos h1, decide_eq_false (by omega)]
  · rw [if_neg h1]
    by_cases h2 : n.toInt ≤ v.toInt
    · rw [if_pos h2, decide_eq_false (by omega)]
    · rw [if_neg h2, decide_eq_true (by omega)]
theorem sh_isUpTo (v n : Int32) (M : mm_M) : f_H_isUpTo v n M = some (decide (0 ≤ v.toInt ∧ v.toInt ≤ n.toInt), M) := by
  unfold f_H_isUpTo
  simp only [ii_lt]
  rw [show (0 : Int32).toInt = 0 from rfl]
  by_cases h1 : v.toInt < 0
  · rw [if_pos h1, decide_eq_false (by omega)]
  · rw [if_neg h1]
    by_cases h2 : n.toInt < v.toInt
    · rw [if_pos h2, decide_eq_false (by omega)]
    · rw [if_neg h2, decide_eq_true (by omega)]
theorem sr_in (v a b : Int32) (M : mm_M) : f_R_in v a b M = some (decide (a.toInt ≤ v.toInt ∧ v.toInt ≤ b.toInt), M) := by
  unfold f_R_in
  simp only [ii_lt]
  by_cases h1 : v.toInt < a.toInt
  · rw [if_pos h1, decide_eq_false (by omega)]
  · rw [if_neg h1]
    by_cases h2 : b.toInt < v.toInt
    · rw [if_pos h2, decide_eq_false (by omega)]
    · rw [if_neg h2, decide_eq_true (by omega)]
theorem sr_isKind (v : Int32) (M : mm_M) : f_R_isKind v M = some (decide (0 ≤ v.toInt ∧ v.toInt < 3), M) := by
  have h := sh_isBelow v 3 M
  unfold f_H_isBelow at h
  exact h
theorem sr_isHour (v : Int32) (M : mm_M) : f_R_isHour v M = some (decide (0 ≤ v.toInt ∧ v.toInt < 24), M) := by
  have h := sh_isBelow v 24 M
  unfold f_H_isBelow at h
  exact h
theorem pp_sl : ∀ n, n < 32 → ((nI n &&& 31).toBitVec.smod 32).toNat = n := by decide +kernel
/-- bit k of a set -/
theorem pp_bit {s k : Nat} (hs : s < 2 ^ 31) (hk : k < 32) : (nI s >>> (nI k &&& 31)) &&& 1 = nI (s / 2 ^ k % 2) := by
  rw [pk_shrN hs _ k (pp_sl k hk)]
  exact pk_andN (n := s / 2 ^ k) (by have := Nat.div_le_self s (2 ^ k); omega) 1 rfl
theorem pp_bit01 (s k : Nat) : s / 2 ^ k % 2 = if s.testBit k then 1 else 0 := by
  rw [Nat.testBit_eq_decide_div_mod_eq]
  by_cases h : s / 2 ^ k % 2 = 1
  · rw [h]; simp
  · have : s / 2 ^ k % 2 = 0 := by omega
    rw [this]; simp
theorem sr_has {s k : Nat} (hs : s < 2 ^ 31) (hk : k < 32) (M : mm_M) : f_R_has (nI s) (nI k) M = some (s.testBit k, M) := by
  unfold f_R_has
  rw [pp_bit hs hk, pp_bit01]
  cases s.testBit k <;> rfl
/-- a number is in a set of twelve -/
def pp_has (s : Nat) (v : Int32) : Bool := decide (0 ≤ v.toInt ∧ v.toInt < 12) && s.testBit v.toInt.toNat
theorem sh_isIn {s : Nat} (hs : s < 2 ^ 31) (v : Int32) (M : mm_M) : f_H_isIn (nI s) v M = some (pp_has s v, M) := by
  unfold f_H_isIn
  rw [sh_isBelow, pp_bd]
  rw [show (12 : Int32).toInt = 12 from rfl]
  unfold pp_has
  by_cases h : 0 ≤ v.toInt ∧ v.toInt < 12
  · rw [decide_eq_true h, if_pos rfl, Bool.true_and]
    obtain ⟨k, hk, rfl⟩ := ii_nat (n := 12) h.1 h.2 (by decide)
    rw [pp_bit hs (by omega), pp_bit01, nI_toInt (by omega)]
    show (if nI (if s.testBit k = true then 1 else 0) = 0 then some (false, M) else some (true, M)) = some (s.testBit k, M)
    cases s.testBit k <;> rfl
  · rw [decide_eq_false h, Bool.false_and, if_neg (by simp)]
theorem pp_has_k {s k : Nat} (hk : k < 12) : pp_has s (nI k) = s.testBit k := by
  unfold pp_has
  rw [nI_toInt (by omega), decide_eq_true (by omega), Bool.true_and]
  rfl
theorem pp_has_of {s : Nat} {v : Int32} (h : pp_has s v = true) : ∃ k : Nat, k < 12 ∧ v = nI k ∧ s.testBit k = true := by
  unfold pp_has at h
  rw [Bool.and_eq_true, decide_eq_true_eq] at h
  obtain ⟨k, hk, rfl⟩ := ii_nat (n := 12) h.1.1 h.1.2 (by decide)
  refine ⟨k, hk, rfl, ?_⟩
  have := h.2
  rw [nI_toInt (by omega)] at this
  exact this
theorem pp_tb_lt {s k n : Nat} (hs : s < 2 ^ n) (h : s.testBit k = true) : k < n := by
  rcases Nat.lt_or_ge k n with q | q
  · exact q
  · rw [Nat.testBit_lt_two_pow (Nat.lt_of_lt_of_le hs (Nat.pow_le_pow_right (by decide) q))] at h
    cases h
theorem sr_isStay {S : ss_S} {M : mm_M} (hR : ss_RR S M) {s : Nat} (hs : s < 1024) (h5 : S.1 5 = nI s) (v : Int32) : f_R_isStay v M = some (pp_has s v, M) := by
  unfold f_R_isStay
  simp only [ii_lt, ii_le]
  rw [show (0 : Int32).toInt = 0 from rfl, show (10 : Int32).toInt = 10 from rfl]
  have h12 : M.1 97 12 = nI s := (hR.1 5 (by decide)).trans h5
  rw [h12]
  by_cases h1 : v.toInt < 0
  · rw [if_pos h1]
    unfold pp_has
    rw [decide_eq_false (by omega), Bool.false_and]
  · rw [if_neg h1]
    by_cases h2 : 10 ≤ v.toInt
    · rw [if_pos h2]
      cases hb : pp_has s v with
      | false => rfl
      | true =>
        obtain ⟨k, hk, rfl, ht⟩ := pp_has_of hb
        have := pp_tb_lt (n := 10) hs ht
        rw [nI_toInt (by omega)] at h2
        omega
    · rw [if_neg h2]
      obtain ⟨k, hk, rfl⟩ := ii_nat (v := v) (n := 10) (by omega) (by omega) (by decide)
      rw [sr_has (by omega) (by omega), pp_bd, pp_has_k (by omega)]
      cases s.testBit k <;> rfl
theorem sr_isDay {S : ss_S} {M : mm_M} (hR : ss_RR S M) {s : Nat} (hs : s < 4096) (h5 : S.1 1 = nI s) (v : Int32) : f_R_isDay v M = some (pp_has s v, M) := by
  unfold f_R_isDay
  simp only [ii_lt, ii_le]
  rw [show (0 : Int32).toInt = 0 from rfl, show (12 : Int32).toInt = 12 from rfl]
  have h12 : M.1 97 6 = nI s := (hR.1 1 (by decide)).trans h5
  rw [h12]
  by_cases h1 : v.toInt < 0
  · rw [if_pos h1]
    unfold pp_has
    rw [decide_eq_false (by omega), Bool.false_and]
  · rw [if_neg h1]
    by_cases h2 : 12 ≤ v.toInt
    · rw [if_pos h2]
      unfold pp_has
      rw [decide_eq_false (by omega), Bool.false_and]
    · rw [if_neg h2]
      obtain ⟨k, hk, rfl⟩ := ii_nat (v := v) (n := 12) (by omega) (by omega) (by decide)
      rw [sr_has (by omega) (by omega), pp_bd, pp_has_k (by omega)]
      cases s.testBit k <;> rfl
theorem sh_has {S : ss_S} {M : mm_M} (hH : ss_RH S M) {s : Nat} (hs : s < 1024) (h5 : S.1 5 = nI s) (v : Int32) : f_Register_has_27 v M = some (pp_has s v, M) := by
  unfold f_Register_has_27
  rw [show M.1 27 0 = nI s from (hH.1 5 (by decide)).trans h5, sh_isIn (by omega), pp_bd]
theorem sh_isTold {S : ss_S} {M : mm_M} (hH : ss_RH S M) {s : Nat} (hs : s < 4096) (h5 : S.1 1 = nI s) (v : Int32) : f_Days_isTold v M = some (pp_has s v, M) := by
  unfold f_Days_isTold
  rw [show M.1 4 3 = nI s from (hH.1 1 (by decide)).trans h5, sh_isIn (by omega), pp_bd]
