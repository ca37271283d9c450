/-! texts on the tape, of both -/
def tx_g (S : ss_S) (n p : Nat) : Nat := if p < n then (S.2 0 p).toInt.toNat else 256
def tx_I (c : Nat) : Int32 := if c = 256 then -1 else nI c
def ft (w p : Nat) : Int32 := -nI (1000 * w + p)
def tx_d (c : Nat) : Bool := decide (48 ≤ c ∧ c ≤ 57)
theorem tx_g_e {S : ss_S} (ho : ss_Ok S) {n p : Nat} (hn : n ≤ 200) (hp : p < n) : S.2 0 p = nI (tx_g S n p) ∧ tx_g S n p ≤ 255 := by
  obtain ⟨v, hv, e⟩ := ho.m 0 (by decide) rfl (j := p) (show p < 200 by omega)
  have hv : (v : Int) ≤ 255 := hv
  unfold tx_g
  rw [if_pos hp, e, nI_toInt (by omega)]
  exact ⟨rfl, by omega⟩
theorem tx_g_no {S : ss_S} {n p : Nat} (hp : n ≤ p) : tx_g S n p = 256 := if_neg (by omega)
theorem tx_g_lt {S : ss_S} (ho : ss_Ok S) {n : Nat} (hn : n ≤ 200) (p : Nat) : tx_g S n p < 257 := by
  by_cases hp : p < n
  · have := (tx_g_e ho hn hp).2; omega
  · rw [tx_g_no (by omega)]; decide
theorem tx_g_in {S : ss_S} {n p c : Nat} (h : tx_g S n p = c) (hc : c ≠ 256) : p < n := by
  rcases Nat.lt_or_ge p n with q | q
  · exact q
  · rw [tx_g_no q] at h; exact absurd h.symm hc
theorem tx_d_in {S : ss_S} {n p : Nat} (h : tx_d (tx_g S n p) = true) : p < n := tx_g_in rfl (fun q => by rw [q] at h; exact absurd h (by decide))
theorem tx_I_eq {c k : Nat} (hc : c < 257) (hk : k < 256) : tx_I c = nI k ↔ c = k := by
  unfold tx_I
  by_cases h : c = 256
  · rw [if_pos h]
    constructor
    · intro q
      have := (ii_eq _ _).mp q
      rw [nI_toInt (by omega), show (-1 : Int32).toInt = -1 from rfl] at this
      omega
    · intro q; omega
  · rw [if_neg h, nI_eq (by omega) (by omega)]
theorem tx_I_end {c : Nat} (hc : c < 257) : tx_I c = -1 ↔ c = 256 := by
  unfold tx_I
  by_cases h : c = 256
  · rw [if_pos h]; exact ⟨fun _ => h, fun _ => rfl⟩
  · rw [if_neg h]
    constructor
    · intro q
      have := (ii_eq _ _).mp q
      rw [nI_toInt (by omega), show (-1 : Int32).toInt = -1 from rfl] at this
      omega
    · intro q; exact absurd q h
theorem tx_Id {c : Nat} (h : tx_d c = true) : tx_I c = nI c := if_neg (fun q => by rw [q] at h; exact absurd h (by decide))
theorem tx_d_e {c : Nat} (h : tx_d c = true) : 48 ≤ c ∧ c ≤ 57 := of_decide_eq_true h
theorem tx_lo {c : Nat} (hc : c < 257) : (tx_I c < 48 ↔ ¬ (48 ≤ c ∧ c ≠ 256)) ∧ ((57 : Int32) < tx_I c ↔ 57 < c ∧ c ≠ 256) := by
  unfold tx_I
  by_cases h : c = 256
  · rw [if_pos h]
    refine ⟨⟨fun _ q => q.2 h, fun _ => by decide⟩, ⟨fun q => absurd q (by decide), fun q => absurd h q.2⟩⟩
  · rw [if_neg h, show (48 : Int32) = nI 48 from rfl, show (57 : Int32) = nI 57 from rfl, nI_ltI (by omega) (by omega), nI_ltI (by omega) (by omega)]
    constructor <;> constructor <;> intro q <;> omega
/-- the class -/
def tf (M M1 : mm_M) : Prop := M1.2 = M.2 ∧ ∀ o, o ≠ 3 → M1.1 o = M.1 o
theorem tf.rf {M : mm_M} : tf M M := ⟨rfl, fun _ _ => rfl⟩
theorem tf.tr {M M1 M2 : mm_M} (h : tf M M1) (h2 : tf M1 M2) : tf M M2 := ⟨h2.1.trans h.1, fun o ho => (h2.2 o ho).trans (h.2 o ho)⟩
theorem tf.s {M M1 : mm_M} (h : tf M M1) {k : Nat} {v : Int32} : tf M (mm_setI M1 3 k v) := ⟨h.1, fun o ho => by
  rw [← h.2 o ho]
  funext q
  show (if o = 3 ∧ q = k then v else M1.1 o q) = _
  rw [if_neg (fun e => ho e.1)]⟩
theorem ss_so_3 : ∀ k, k < 11 → (ss_so k).1 ≠ 3 := by decide
theorem tf.RH {S : ss_S} {M M1 : mm_M} (h : tf M M1) (hH : ss_RH S M) : ss_RH S M1 := ⟨fun k hk => by rw [h.2 _ (ss_so_3 k hk)]; exact hH.1 k hk, fun a ha j hj => by rw [h.1]; exact hH.2 a ha j hj⟩
theorem tf.h {M M1 : mm_M} (h : tf M M1) : ss_h M M1 := ⟨fun o ho => ⟨h.2 o (by omega), by rw [h.1], by rw [h.1]⟩, fun o _ _ => by rw [h.1]⟩
def tx_H (S : ss_S) (n p : Nat) (M : mm_M) : Prop := ss_RH S M ∧ M.1 3 1 = nI n ∧ M.1 3 2 = nI p ∧ M.1 3 3 = tx_I (tx_g S n p)
theorem sh_stp {S : ss_S} (ho : ss_Ok S) {n p : Nat} {M : mm_M} (hn : n ≤ 200) (hp : p ≤ 300) (h : ss_RH S M) (h1 : M.1 3 1 = nI n) (h2 : M.1 3 2 + 1 = nI p) : ∃ M1, f_TextReader_step M = some ((), M1) ∧ tx_H S n p M1 ∧ tf M M1 := by
  unfold f_TextReader_step
  rw [pp_let, h2]
  have e1 : (mm_setI M 3 2 (nI p)).1 3 1 = nI n := h1
  have e2 : (mm_setI M 3 2 (nI p)).1 3 2 = nI p := rfl
  rw [e1, e2]
  by_cases hc : n ≤ p
  · rw [if_pos (nI_le hc (by omega)), pp_let]
    refine ⟨_, rfl, ⟨(tf.rf.s.s).RH h, h1, rfl, ?_⟩, tf.rf.s.s⟩
    rw [tx_g_no hc]; rfl
  · have hg := tx_g_e ho hn (show p < n by omega)
    have e3 : (mm_setI M 3 2 (nI p)).2.1 2 p = nI (tx_g S n p) := (h.2 0 (by decide) p (show p < 200 by omega)).trans hg.1
    rw [if_neg (nI_ge (by omega) (by omega)), show mm_al 2 = 200 from rfl, pp_in (by omega) (by decide), if_pos rfl, nI_clamp (by omega), e3, pp_let]
    refine ⟨_, rfl, ⟨(tf.rf.s.s).RH h, h1, rfl, ?_⟩, tf.rf.s.s⟩
    show nI (tx_g S n p) = tx_I (tx_g S n p)
    unfold tx_I
    rw [if_neg (by omega)]
theorem sh_step1 {S : ss_S} (ho : ss_Ok S) {n p : Nat} {M : mm_M} (hn : n ≤ 200) (hp : p < 300) (h : tx_H S n p M) : ∃ M1, f_TextReader_step M = some ((), M1) ∧ tx_H S n (p + 1) M1 ∧ tf M M1 := sh_stp ho hn (by omega) h.1 h.2.1 (by rw [h.2.2.1, nI_1])
theorem ft_e (w p : Nat) : (-1000) * nI w - nI p = ft w p := by
  unfold ft
  rw [show (-1000 : Int32) = -nI 1000 from rfl, Int32.neg_mul, pp_mulN, Int32.sub_eq_add_neg, ← nI_add, Int32.neg_add, Int32.sub_eq_add_neg]
theorem sh_fail {S : ss_S} {n p : Nat} {M : mm_M} (h : tx_H S n p M) (w : Nat) : ∃ M1, f_TextReader_failHere (nI w) M = some (false, M1) ∧ M1.1 3 4 = ft w p ∧ tf M M1 := by
  unfold f_TextReader_failHere
  rw [pp_let, h.2.2.1, ft_e]
  exact ⟨_, rfl, rfl, tf.rf.s⟩
theorem sh_atDigit {S : ss_S} (ho : ss_Ok S) {n p : Nat} {M : mm_M} (hn : n ≤ 200) (h : tx_H S n p M) : f_TextReader_atDigit M = some (tx_d (tx_g S n p), M) := by
  have hl := tx_lo (tx_g_lt ho hn p)
  unfold f_TextReader_atDigit
  rw [h.2.2.2]
  unfold tx_d
  by_cases h1 : tx_I (tx_g S n p) < 48
  · rw [if_pos h1, decide_eq_false]
    intro q
    exact hl.1.mp h1 ⟨q.1, by omega⟩
  · rw [if_neg h1]
    have h1' : 48 ≤ tx_g S n p ∧ tx_g S n p ≠ 256 := Classical.byContradiction (fun q => h1 (hl.1.mpr q))
    by_cases h2 : (57 : Int32) < tx_I (tx_g S n p)
    · have := hl.2.mp h2
      rw [if_pos h2, decide_eq_false (by omega)]
    · have h2' : ¬ (57 < tx_g S n p ∧ tx_g S n p ≠ 256) := fun q => h2 (hl.2.mpr q)
      rw [if_neg h2, decide_eq_true (by omega)]
theorem sh_atEnd {S : ss_S} (ho : ss_Ok S) {n p : Nat} {M : mm_M} (hn : n ≤ 200) (h : tx_H S n p M) : f_TextReader_atEnd M = some (decide (n ≤ p), M) := by
  unfold f_TextReader_atEnd
  rw [h.2.2.2]
  by_cases hc : n ≤ p
  · rw [if_pos ((tx_I_end (tx_g_lt ho hn p)).mpr (tx_g_no hc)), decide_eq_true hc]
  · have := (tx_g_e ho hn (show p < n by omega)).2
    rw [if_neg (fun q => by have := (tx_I_end (tx_g_lt ho hn p)).mp q; omega), decide_eq_false hc]
theorem sh_take {S : ss_S} (ho : ss_Ok S) {n p c : Nat} {M : mm_M} (hn : n ≤ 200) (hp : p < 300) (hc : c < 256) (h : tx_H S n p M) : (tx_g S n p = c → ∃ M1, f_TextReader_take (nI c) M = some (true, M1) ∧ tx_H S n (p + 1) M1 ∧ tf M M1) ∧ (tx_g S n p ≠ c → ∃ M1, f_TextReader_take (nI c) M = some (false, M1) ∧ M1.1 3 4 = ft 1 p ∧ tf M M1) := by
  have hi := tx_I_eq (tx_g_lt ho hn p) hc
  unfold f_TextReader_take
  rw [h.2.2.2]
  constructor
  · intro q
    obtain ⟨M1, g1, g2, g3⟩ := sh_step1 ho hn hp h
    rw [if_pos (hi.mpr q), g1]
    exact ⟨M1, rfl, g2, g3⟩
  · intro q
    obtain ⟨M1, g1, g2, g3⟩ := sh_fail h 1
    have g1' : f_TextReader_failHere 1 M = some (false, M1) := g1
    rw [if_neg (fun e => q (hi.mp e)), g1']
    exact ⟨M1, rfl, g2, g3⟩
/-- up to k digits -/
def tx_n (S : ss_S) (n : Nat) : Nat → Nat → Nat → Nat × Nat
  | 0, v, p => (v, p)
  | k + 1, v, p => if tx_d (tx_g S n p) = true then tx_n S n k (10 * v + (tx_g S n p - 48)) (p + 1) else (v, p)
theorem tx_n_le (S : ss_S) (n : Nat) : ∀ k v p, p ≤ (tx_n S n k v p).2 ∧ (tx_n S n k v p).2 ≤ p + k ∧ (p ≤ n → (tx_n S n k v p).2 ≤ n) ∧ (tx_n S n k v p).1 < 10 ^ k * (v + 1) := by
  intro k
  induction k with
  | zero => intro v p; exact ⟨Nat.le_refl _, Nat.le_refl _, id, by rw [tx_n, Nat.pow_zero]; omega⟩
  | succ k ih =>
    intro v p
    rw [tx_n]
    split
    · rename_i h
      obtain ⟨a, b, c, d⟩ := ih (10 * v + (tx_g S n p - 48)) (p + 1)
      have h1 := tx_d_e h
      have h2 := tx_d_in h
      refine ⟨by omega, by omega, fun _ => c (by omega), Nat.lt_of_lt_of_le d ?_⟩
      rw [Nat.pow_succ, Nat.mul_assoc]
      exact Nat.mul_le_mul_left _ (by omega)
    · refine ⟨Nat.le_refl _, by omega, id, ?_⟩
      have : 1 * (v + 1) ≤ 10 ^ (k + 1) * (v + 1) := Nat.mul_le_mul_right _ (Nat.pow_pos (by decide))
      show v < _
      omega
theorem tx_n_stop (S : ss_S) (n : Nat) : ∀ k v p, (tx_n S n k v p).2 < p + k → tx_d (tx_g S n (tx_n S n k v p).2) = false := by
  intro k
  induction k with
  | zero => intro v p h; have : p < p := h; omega
  | succ k ih =>
    intro v p h
    rw [tx_n] at h ⊢
    by_cases hc : tx_d (tx_g S n p) = true
    · rw [if_pos hc] at h ⊢
      exact ih _ _ (by omega)
    · rw [if_neg hc]
      exact Bool.not_eq_true _ ▸ hc
theorem tx_val {v c : Nat} (h : 48 ≤ c) : (10 : Int32) * nI v + nI c - 48 = nI (10 * v + (c - 48)) := by
  rw [show (10 : Int32) = nI 10 from rfl, pp_mulN, nI_add, show (48 : Int32) = nI 48 from rfl, pp_subN (by omega)]
  congr 1
  omega
theorem sh_num {S : ss_S} (ho : ss_Ok S) {n : Nat} (hn : n ≤ 200) {k : Nat} (hk : k ≤ 5) {p : Nat} {M : mm_M} (hp : p ≤ n) (h : tx_H S n p M) (hd : tx_d (tx_g S n p) = true) : ∃ M1, f_TextReader_number (nI k) M = some (nI (tx_n S n k 0 p).1, M1) ∧ tx_H S n (tx_n S n k 0 p).2 M1 ∧ tf M M1 := by
  unfold f_TextReader_number
  rw [sh_atDigit ho hn h, pp_bd, hd, if_pos rfl]
  have key : ∀ q i v p M', i + q = k → p ≤ n → tx_H S n p M' → tf M M' → ∀ m, ∃ M1, lp_TextReader_number_19 (nI k) (fun (v2 : Int32) (M_9 : mm_M) => some (v2, M_9)) (m + q + 1) (nI v) (nI i) M' = some (nI (tx_n S n q v p).1, M1) ∧ tx_H S n (tx_n S n q v p).2 M1 ∧ tf M M1 := by
    intro q
    induction q with
    | zero =>
      intro i v p M' hi hp h' hf m
      have : i = k := by omega
      subst this
      refine ⟨M', ?_, h', hf⟩
      rw [lp_TextReader_number_19, if_pos (nI_le (Nat.le_refl _) (by omega))]
      rfl
    | succ q ih =>
      intro i v p M' hi hp h' hf m
      rw [show m + (q + 1) + 1 = (m + q + 1) + 1 from rfl, lp_TextReader_number_19, if_neg (nI_ge (by omega) (by omega)), sh_atDigit ho hn h', pp_bd, tx_n]
      by_cases hc : tx_d (tx_g S n p) = true
      · obtain ⟨M2, g1, g2, g3⟩ := sh_step1 ho hn (by omega) h'
        have hpn := tx_d_in hc
        rw [if_pos hc, if_pos hc, h'.2.2.2, tx_Id hc, tx_val (tx_d_e hc).1, pp_let, g1, pp_bd, nI_1, pp_let]
        exact ih (i + 1) _ (p + 1) M2 (by omega) (by omega) g2 (hf.tr g3) m
      · rw [if_neg hc, if_neg hc]
        exact ⟨M', rfl, h', hf⟩
  have := key k 0 0 p M (by omega) hp h tf.rf (4999 - k)
  rw [show 4999 - k + k + 1 = mm_fu from by show _ = 5000; omega] at this
  exact this
theorem sh_num_no {S : ss_S} (ho : ss_Ok S) {n : Nat} (hn : n ≤ 200) (k : Int32) {p : Nat} {M : mm_M} (h : tx_H S n p M) (hd : tx_d (tx_g S n p) = false) : ∃ M1, f_TextReader_number k M = some (-1, M1) ∧ M1.1 3 4 = ft 1 p ∧ tf M M1 := by
  unfold f_TextReader_number
  obtain ⟨M1, g1, g2, g3⟩ := sh_fail h 1
  have g1' : f_TextReader_failHere 1 M = some (false, M1) := g1
  rw [sh_atDigit ho hn h, pp_bd, hd, if_neg (by decide), g1']
  exact ⟨M1, rfl, g2, g3⟩
/-- a sign among some -/
def pp_ix : List Nat → Nat → Nat → Int32
  | [], _, _ => -1
  | x :: xs, c, i => if c = x then nI i else pp_ix xs c (i + 1)
theorem tx_cv {c : Nat} (h : c < 256) : ((nI c).toUInt32 % 65536).toInt32 = nI c := by
  rw [pk_char]
  congr 1
  show (BitVec.ofNat 32 c).toNat % 65536 = c
  rw [BitVec.toNat_ofNat]
  omega
theorem tx_b8 : ∀ c, c < 256 → ∀ k, k < 128 → (nI k = (nI c).toInt8.toInt32 ↔ c = k) := by
  have h1 : ∀ c, c < 256 → (nI c).toInt8.toInt32 = if c < 128 then nI c else nI c - 256 := by decide +kernel
  intro c hc k hk
  rw [h1 c hc]
  by_cases h : c < 128
  · rw [if_pos h, nI_eq (by omega) (by omega)]
    omega
  · rw [if_neg h]
    constructor
    · intro q
      have := (ii_eq _ _).mp q
      rw [ii_sub (by rw [nI_toInt (by omega), show (256 : Int32).toInt = 256 from rfl]; omega) (by rw [nI_toInt (by omega), show (256 : Int32).toInt = 256 from rfl]; omega), nI_toInt (by omega), nI_toInt (by omega), show (256 : Int32).toInt = 256 from rfl] at this
      omega
    · intro q; omega
theorem sh_among_140 {S : ss_S} (ho : ss_Ok S) {n p : Nat} {M : mm_M} (hn : n ≤ 200) (h : tx_H S n p M) : f_TextReader_among_140 M = some (pp_ix [114, 119, 108] (tx_g S n p) 0, M) := by
  unfold f_TextReader_among_140
  rw [sh_atEnd ho hn h, pp_bd]
  by_cases hc : n ≤ p
  · rw [decide_eq_true hc, if_pos rfl, tx_g_no hc]
    rfl
  · have hg := (tx_g_e ho hn (show p < n by omega)).2
    have e3 : M.1 3 3 = nI (tx_g S n p) := by rw [h.2.2.2]; exact if_neg (by omega)
    generalize hcc : tx_g S n p = c at hg e3
    have b8 := tx_b8 c (by omega)
    rw [decide_eq_false hc, if_neg (by decide), e3, tx_cv (by omega)]
    have s1 : ∀ kA kB m i x, i < 3 → (mm_byt.getD 0 []).getD i 0 = nI x → x < 128 → lp_StringLatin1_indexOfChar_146_7 (nI 3) ((nI c).toInt8.toInt32) kA kB (m + 1) (nI i) M = if c = x then kA (nI i) M else lp_StringLatin1_indexOfChar_146_7 (nI 3) ((nI c).toInt8.toInt32) kA kB m (nI (i + 1)) M := fun kA kB m i x hi hx hx2 => by
      rw [lp_StringLatin1_indexOfChar_146_7, if_neg (nI_ge hi (by decide)), show mm_len.getD 0 0 = 3 from rfl, pp_in hi (by decide), if_pos rfl, nI_clamp (by omega), hx, nI_1, pp_let]
      by_cases hcx : c = x
      · rw [if_pos ((b8 x hx2).mpr hcx), if_pos hcx]
      · rw [if_neg (fun q => hcx ((b8 x hx2).mp q)), if_neg hcx]
    have t1 : ∀ kA kB m, lp_StringLatin1_indexOfChar_146_7 (nI 3) ((nI c).toInt8.toInt32) kA kB (m + 1) (nI 3) M = kB M := fun kA kB m => by rw [lp_StringLatin1_indexOfChar_146_7, if_pos (by decide)]
    unfold f_String_indexOf_1_140 f_String_indexOf_2_140 f_String_isLatin1_140 f_String_length_140 f_String_coder_140 f_StringLatin1_indexOf_146 f_StringLatin1_canEncode f_StringLatin1_indexOfChar_146
    rw [if_neg (show ¬ (1 : Int32) = 0 by decide), if_pos (show (0 : Int32) = 0 by decide), pp_bd, if_pos rfl, if_neg (show ¬ (1 : Int32) = 0 by decide), pp_bd, pp_bd, if_neg (nI_pos (by omega)), if_neg (show ¬ (255 : Int32) < nI c from nI_nlt (a := 255) (by omega) (by decide)), pp_bd, if_pos rfl, sh_max, pp_bd, sh_min, pp_bd, show pp_mx 0 0 = nI 0 from by decide, show pp_mn ((3 : Int32) >>> ((0 : Int32) &&& 31)) 3 = nI 3 from by decide, if_pos (show nI 0 < nI 3 by decide), pp_let]
    rw [show mm_fu = 4996 + 1 + 1 + 1 + 1 from rfl, s1 _ _ _ 0 114 (by decide) (by decide) (by decide), s1 _ _ _ 1 119 (by decide) (by decide) (by decide), s1 _ _ _ 2 108 (by decide) (by decide) (by decide), t1]
    rw [pp_ix]
    by_cases h0 : c = 114
    · rw [if_pos h0, if_pos h0]
      rfl
    rw [if_neg h0, if_neg h0]
    rw [pp_ix]
    by_cases h1 : c = 119
    · rw [if_pos h1, if_pos h1]
      rfl
    rw [if_neg h1, if_neg h1]
    rw [pp_ix]
    by_cases h2 : c = 108
    · rw [if_pos h2, if_pos h2]
      rfl
    rw [if_neg h2, if_neg h2]
    rfl
theorem sh_among_141 {S : ss_S} (ho : ss_Ok S) {n p : Nat} {M : mm_M} (hn : n ≤ 200) (h : tx_H S n p M) : f_TextReader_among_141 M = some (pp_ix [112, 109] (tx_g S n p) 0, M) := by
  unfold f_TextReader_among_141
  rw [sh_atEnd ho hn h, pp_bd]
  by_cases hc : n ≤ p
  · rw [decide_eq_true hc, if_pos rfl, tx_g_no hc]
    rfl
  · have hg := (tx_g_e ho hn (show p < n by omega)).2
    have e3 : M.1 3 3 = nI (tx_g S n p) := by rw [h.2.2.2]; exact if_neg (by omega)
    generalize hcc : tx_g S n p = c at hg e3
    have b8 := tx_b8 c (by omega)
    rw [decide_eq_false hc, if_neg (by decide), e3, tx_cv (by omega)]
    have s1 : ∀ kA kB m i x, i < 2 → (mm_byt.getD 1 []).getD i 0 = nI x → x < 128 → lp_StringLatin1_indexOfChar_147_7 (nI 2) ((nI c).toInt8.toInt32) kA kB (m + 1) (nI i) M = if c = x then kA (nI i) M else lp_StringLatin1_indexOfChar_147_7 (nI 2) ((nI c).toInt8.toInt32) kA kB m (nI (i + 1)) M := fun kA kB m i x hi hx hx2 => by
      rw [lp_StringLatin1_indexOfChar_147_7, if_neg (nI_ge hi (by decide)), show mm_len.getD 1 0 = 2 from rfl, pp_in hi (by decide), if_pos rfl, nI_clamp (by omega), hx, nI_1, pp_let]
      by_cases hcx : c = x
      · rw [if_pos ((b8 x hx2).mpr hcx), if_pos hcx]
      · rw [if_neg (fun q => hcx ((b8 x hx2).mp q)), if_neg hcx]
    have t1 : ∀ kA kB m, lp_StringLatin1_indexOfChar_147_7 (nI 2) ((nI c).toInt8.toInt32) kA kB (m + 1) (nI 2) M = kB M := fun kA kB m => by rw [lp_StringLatin1_indexOfChar_147_7, if_pos (by decide)]
    unfold f_String_indexOf_1_141 f_String_indexOf_2_141 f_String_isLatin1_141 f_String_length_141 f_String_coder_141 f_StringLatin1_indexOf_147 f_StringLatin1_canEncode f_StringLatin1_indexOfChar_147
    rw [if_neg (show ¬ (1 : Int32) = 0 by decide), if_pos (show (0 : Int32) = 0 by decide), pp_bd, if_pos rfl, if_neg (show ¬ (1 : Int32) = 0 by decide), pp_bd, pp_bd, if_neg (nI_pos (by omega)), if_neg (show ¬ (255 : Int32) < nI c from nI_nlt (a := 255) (by omega) (by decide)), pp_bd, if_pos rfl, sh_max, pp_bd, sh_min, pp_bd, show pp_mx 0 0 = nI 0 from by decide, show pp_mn ((2 : Int32) >>> ((0 : Int32) &&& 31)) 2 = nI 2 from by decide, if_pos (show nI 0 < nI 2 by decide), pp_let]
    rw [show mm_fu = 4997 + 1 + 1 + 1 from rfl, s1 _ _ _ 0 112 (by decide) (by decide) (by decide), s1 _ _ _ 1 109 (by decide) (by decide) (by decide), t1]
    rw [pp_ix]
    by_cases h0 : c = 112
    · rw [if_pos h0, if_pos h0]
      rfl
    rw [if_neg h0, if_neg h0]
    rw [pp_ix]
    by_cases h1 : c = 109
    · rw [if_pos h1, if_pos h1]
      rfl
    rw [if_neg h1, if_neg h1]
    rfl
theorem sh_among_142 {S : ss_S} (ho : ss_Ok S) {n p : Nat} {M : mm_M} (hn : n ≤ 200) (h : tx_H S n p M) : f_TextReader_among_142 M = some (pp_ix [115, 114, 102, 100, 99, 116, 107, 110, 103] (tx_g S n p) 0, M) := by
  unfold f_TextReader_among_142
  rw [sh_atEnd ho hn h, pp_bd]
  by_cases hc : n ≤ p
  · rw [decide_eq_true hc, if_pos rfl, tx_g_no hc]
    rfl
  · have hg := (tx_g_e ho hn (show p < n by omega)).2
    have e3 : M.1 3 3 = nI (tx_g S n p) := by rw [h.2.2.2]; exact if_neg (by omega)
    generalize hcc : tx_g S n p = c at hg e3
    have b8 := tx_b8 c (by omega)
    rw [decide_eq_false hc, if_neg (by decide), e3, tx_cv (by omega)]
    have s1 : ∀ kA kB m i x, i < 9 → (mm_byt.getD 2 []).getD i 0 = nI x → x < 128 → lp_StringLatin1_indexOfChar_148_7 (nI 9) ((nI c).toInt8.toInt32) kA kB (m + 1) (nI i) M = if c = x then kA (nI i) M else lp_StringLatin1_indexOfChar_148_7 (nI 9) ((nI c).toInt8.toInt32) kA kB m (nI (i + 1)) M := fun kA kB m i x hi hx hx2 => by
      rw [lp_StringLatin1_indexOfChar_148_7, if_neg (nI_ge hi (by decide)), show mm_len.getD 2 0 = 9 from rfl, pp_in hi (by decide), if_pos rfl, nI_clamp (by omega), hx, nI_1, pp_let]
      by_cases hcx : c = x
      · rw [if_pos ((b8 x hx2).mpr hcx), if_pos hcx]
      · rw [if_neg (fun q => hcx ((b8 x hx2).mp q)), if_neg hcx]
    have t1 : ∀ kA kB m, lp_StringLatin1_indexOfChar_148_7 (nI 9) ((nI c).toInt8.toInt32) kA kB (m + 1) (nI 9) M = kB M := fun kA kB m => by rw [lp_StringLatin1_indexOfChar_148_7, if_pos (by decide)]
    unfold f_String_indexOf_1_142 f_String_indexOf_2_142 f_String_isLatin1_142 f_String_length_142 f_String_coder_142 f_StringLatin1_indexOf_148 f_StringLatin1_canEncode f_StringLatin1_indexOfChar_148
    rw [if_neg (show ¬ (1 : Int32) = 0 by decide), if_pos (show (0 : Int32) = 0 by decide), pp_bd, if_pos rfl, if_neg (show ¬ (1 : Int32) = 0 by decide), pp_bd, pp_bd, if_neg (nI_pos (by omega)), if_neg (show ¬ (255 : Int32) < nI c from nI_nlt (a := 255) (by omega) (by decide)), pp_bd, if_pos rfl, sh_max, pp_bd, sh_min, pp_bd, show pp_mx 0 0 = nI 0 from by decide, show pp_mn ((9 : Int32) >>> ((0 : Int32) &&& 31)) 9 = nI 9 from by decide, if_pos (show nI 0 < nI 9 by decide), pp_let]
    rw [show mm_fu = 4990 + 1 + 1 + 1 + 1 + 1 + 1 + 1 + 1 + 1 + 1 from rfl, s1 _ _ _ 0 115 (by decide) (by decide) (by decide), s1 _ _ _ 1 114 (by decide) (by decide) (by decide), s1 _ _ _ 2 102 (by decide) (by decide) (by decide), s1 _ _ _ 3 100 (by decide) (by decide) (by decide), s1 _ _ _ 4 99 (by decide) (by decide) (by decide), s1 _ _ _ 5 116 (by decide) (by decide) (by decide), s1 _ _ _ 6 107 (by decide) (by decide) (by decide), s1 _ _ _ 7 110 (by decide) (by decide) (by decide), s1 _ _ _ 8 103 (by decide) (by decide) (by decide), t1]
    rw [pp_ix]
    by_cases h0 : c = 115
    · rw [if_pos h0, if_pos h0]
      rfl
    rw [if_neg h0, if_neg h0]
    rw [pp_ix]
    by_cases h1 : c = 114
    · rw [if_pos h1, if_pos h1]
      rfl
    rw [if_neg h1, if_neg h1]
    rw [pp_ix]
    by_cases h2 : c = 102
    · rw [if_pos h2, if_pos h2]
      rfl
    rw [if_neg h2, if_neg h2]
    rw [pp_ix]
    by_cases h3 : c = 100
    · rw [if_pos h3, if_pos h3]
      rfl
    rw [if_neg h3, if_neg h3]
    rw [pp_ix]
    by_cases h4 : c = 99
    · rw [if_pos h4, if_pos h4]
      rfl
    rw [if_neg h4, if_neg h4]
    rw [pp_ix]
    by_cases h5 : c = 116
    · rw [if_pos h5, if_pos h5]
      rfl
    rw [if_neg h5, if_neg h5]
    rw [pp_ix]
    by_cases h6 : c = 107
    · rw [if_pos h6, if_pos h6]
      rfl
    rw [if_neg h6, if_neg h6]
    rw [pp_ix]
    by_cases h7 : c = 110
    · rw [if_pos h7, if_pos h7]
      rfl
    rw [if_neg h7, if_neg h7]
    rw [pp_ix]
    by_cases h8 : c = 103
    · rw [if_pos h8, if_pos h8]
      rfl
    rw [if_neg h8, if_neg h8]
    rfl
theorem sh_among_143 {S : ss_S} (ho : ss_Ok S) {n p : Nat} {M : mm_M} (hn : n ≤ 200) (h : tx_H S n p M) : f_TextReader_among_143 M = some (pp_ix [42, 47, 37] (tx_g S n p) 0, M) := by
  unfold f_TextReader_among_143
  rw [sh_atEnd ho hn h, pp_bd]
  by_cases hc : n ≤ p
  · rw [decide_eq_true hc, if_pos rfl, tx_g_no hc]
    rfl
  · have hg := (tx_g_e ho hn (show p < n by omega)).2
    have e3 : M.1 3 3 = nI (tx_g S n p) := by rw [h.2.2.2]; exact if_neg (by omega)
    generalize hcc : tx_g S n p = c at hg e3
    have b8 := tx_b8 c (by omega)
    rw [decide_eq_false hc, if_neg (by decide), e3, tx_cv (by omega)]
    have s1 : ∀ kA kB m i x, i < 3 → (mm_byt.getD 3 []).getD i 0 = nI x → x < 128 → lp_StringLatin1_indexOfChar_149_7 (nI 3) ((nI c).toInt8.toInt32) kA kB (m + 1) (nI i) M = if c = x then kA (nI i) M else lp_StringLatin1_indexOfChar_149_7 (nI 3) ((nI c).toInt8.toInt32) kA kB m (nI (i + 1)) M := fun kA kB m i x hi hx hx2 => by
      rw [lp_StringLatin1_indexOfChar_149_7, if_neg (nI_ge hi (by decide)), show mm_len.getD 3 0 = 3 from rfl, pp_in hi (by decide), if_pos rfl, nI_clamp (by omega), hx, nI_1, pp_let]
      by_cases hcx : c = x
      · rw [if_pos ((b8 x hx2).mpr hcx), if_pos hcx]
      · rw [if_neg (fun q => hcx ((b8 x hx2).mp q)), if_neg hcx]
    have t1 : ∀ kA kB m, lp_StringLatin1_indexOfChar_149_7 (nI 3) ((nI c).toInt8.toInt32) kA kB (m + 1) (nI 3) M = kB M := fun kA kB m => by rw [lp_StringLatin1_indexOfChar_149_7, if_pos (by decide)]
    unfold f_String_indexOf_1_143 f_String_indexOf_2_143 f_String_isLatin1_143 f_String_length_143 f_String_coder_143 f_StringLatin1_indexOf_149 f_StringLatin1_canEncode f_StringLatin1_indexOfChar_149
    rw [if_neg (show ¬ (1 : Int32) = 0 by decide), if_pos (show (0 : Int32) = 0 by decide), pp_bd, if_pos rfl, if_neg (show ¬ (1 : Int32) = 0 by decide), pp_bd, pp_bd, if_neg (nI_pos (by omega)), if_neg (show ¬ (255 : Int32) < nI c from nI_nlt (a := 255) (by omega) (by decide)), pp_bd, if_pos rfl, sh_max, pp_bd, sh_min, pp_bd, show pp_mx 0 0 = nI 0 from by decide, show pp_mn ((3 : Int32) >>> ((0 : Int32) &&& 31)) 3 = nI 3 from by decide, if_pos (show nI 0 < nI 3 by decide), pp_let]
    rw [show mm_fu = 4996 + 1 + 1 + 1 + 1 from rfl, s1 _ _ _ 0 42 (by decide) (by decide) (by decide), s1 _ _ _ 1 47 (by decide) (by decide) (by decide), s1 _ _ _ 2 37 (by decide) (by decide) (by decide), t1]
    rw [pp_ix]
    by_cases h0 : c = 42
    · rw [if_pos h0, if_pos h0]
      rfl
    rw [if_neg h0, if_neg h0]
    rw [pp_ix]
    by_cases h1 : c = 47
    · rw [if_pos h1, if_pos h1]
      rfl
    rw [if_neg h1, if_neg h1]
    rw [pp_ix]
    by_cases h2 : c = 37
    · rw [if_pos h2, if_pos h2]
      rfl
    rw [if_neg h2, if_neg h2]
    rfl
theorem sh_among_144 {S : ss_S} (ho : ss_Ok S) {n p : Nat} {M : mm_M} (hn : n ≤ 200) (h : tx_H S n p M) : f_TextReader_among_144 M = some (pp_ix [43, 45] (tx_g S n p) 0, M) := by
  unfold f_TextReader_among_144
  rw [sh_atEnd ho hn h, pp_bd]
  by_cases hc : n ≤ p
  · rw [decide_eq_true hc, if_pos rfl, tx_g_no hc]
    rfl
  · have hg := (tx_g_e ho hn (show p < n by omega)).2
    have e3 : M.1 3 3 = nI (tx_g S n p) := by rw [h.2.2.2]; exact if_neg (by omega)
    generalize hcc : tx_g S n p = c at hg e3
    have b8 := tx_b8 c (by omega)
    rw [decide_eq_false hc, if_neg (by decide), e3, tx_cv (by omega)]
    have s1 : ∀ kA kB m i x, i < 2 → (mm_byt.getD 4 []).getD i 0 = nI x → x < 128 → lp_StringLatin1_indexOfChar_150_7 (nI 2) ((nI c).toInt8.toInt32) kA kB (m + 1) (nI i) M = if c = x then kA (nI i) M else lp_StringLatin1_indexOfChar_150_7 (nI 2) ((nI c).toInt8.toInt32) kA kB m (nI (i + 1)) M := fun kA kB m i x hi hx hx2 => by
      rw [lp_StringLatin1_indexOfChar_150_7, if_neg (nI_ge hi (by decide)), show mm_len.getD 4 0 = 2 from rfl, pp_in hi (by decide), if_pos rfl, nI_clamp (by omega), hx, nI_1, pp_let]
      by_cases hcx : c = x
      · rw [if_pos ((b8 x hx2).mpr hcx), if_pos hcx]
      · rw [if_neg (fun q => hcx ((b8 x hx2).mp q)), if_neg hcx]
    have t1 : ∀ kA kB m, lp_StringLatin1_indexOfChar_150_7 (nI 2) ((nI c).toInt8.toInt32) kA kB (m + 1) (nI 2) M = kB M := fun kA kB m => by rw [lp_StringLatin1_indexOfChar_150_7, if_pos (by decide)]
    unfold f_String_indexOf_1_144 f_String_indexOf_2_144 f_String_isLatin1_144 f_String_length_144 f_String_coder_144 f_StringLatin1_indexOf_150 f_StringLatin1_canEncode f_StringLatin1_indexOfChar_150
    rw [if_neg (show ¬ (1 : Int32) = 0 by decide), if_pos (show (0 : Int32) = 0 by decide), pp_bd, if_pos rfl, if_neg (show ¬ (1 : Int32) = 0 by decide), pp_bd, pp_bd, if_neg (nI_pos (by omega)), if_neg (show ¬ (255 : Int32) < nI c from nI_nlt (a := 255) (by omega) (by decide)), pp_bd, if_pos rfl, sh_max, pp_bd, sh_min, pp_bd, show pp_mx 0 0 = nI 0 from by decide, show pp_mn ((2 : Int32) >>> ((0 : Int32) &&& 31)) 2 = nI 2 from by decide, if_pos (show nI 0 < nI 2 by decide), pp_let]
    rw [show mm_fu = 4997 + 1 + 1 + 1 from rfl, s1 _ _ _ 0 43 (by decide) (by decide) (by decide), s1 _ _ _ 1 45 (by decide) (by decide) (by decide), t1]
    rw [pp_ix]
    by_cases h0 : c = 43
    · rw [if_pos h0, if_pos h0]
      rfl
    rw [if_neg h0, if_neg h0]
    rw [pp_ix]
    by_cases h1 : c = 45
    · rw [if_pos h1, if_pos h1]
      rfl
    rw [if_neg h1, if_neg h1]
    rfl
theorem sh_among_145 {S : ss_S} (ho : ss_Ok S) {n p : Nat} {M : mm_M} (hn : n ≤ 200) (h : tx_H S n p M) : f_TextReader_among_145 M = some (pp_ix [60, 62, 61] (tx_g S n p) 0, M) := by
  unfold f_TextReader_among_145
  rw [sh_atEnd ho hn h, pp_bd]
  by_cases hc : n ≤ p
  · rw [decide_eq_true hc, if_pos rfl, tx_g_no hc]
    rfl
  · have hg := (tx_g_e ho hn (show p < n by omega)).2
    have e3 : M.1 3 3 = nI (tx_g S n p) := by rw [h.2.2.2]; exact if_neg (by omega)
    generalize hcc : tx_g S n p = c at hg e3
    have b8 := tx_b8 c (by omega)
    rw [decide_eq_false hc, if_neg (by decide), e3, tx_cv (by omega)]
    have s1 : ∀ kA kB m i x, i < 3 → (mm_byt.getD 5 []).getD i 0 = nI x → x < 128 → lp_StringLatin1_indexOfChar_151_7 (nI 3) ((nI c).toInt8.toInt32) kA kB (m + 1) (nI i) M = if c = x then kA (nI i) M else lp_StringLatin1_indexOfChar_151_7 (nI 3) ((nI c).toInt8.toInt32) kA kB m (nI (i + 1)) M := fun kA kB m i x hi hx hx2 => by
      rw [lp_StringLatin1_indexOfChar_151_7, if_neg (nI_ge hi (by decide)), show mm_len.getD 5 0 = 3 from rfl, pp_in hi (by decide), if_pos rfl, nI_clamp (by omega), hx, nI_1, pp_let]
      by_cases hcx : c = x
      · rw [if_pos ((b8 x hx2).mpr hcx), if_pos hcx]
      · rw [if_neg (fun q => hcx ((b8 x hx2).mp q)), if_neg hcx]
    have t1 : ∀ kA kB m, lp_StringLatin1_indexOfChar_151_7 (nI 3) ((nI c).toInt8.toInt32) kA kB (m + 1) (nI 3) M = kB M := fun kA kB m => by rw [lp_StringLatin1_indexOfChar_151_7, if_pos (by decide)]
    unfold f_String_indexOf_1_145 f_String_indexOf_2_145 f_String_isLatin1_145 f_String_length_145 f_String_coder_145 f_StringLatin1_indexOf_151 f_StringLatin1_canEncode f_StringLatin1_indexOfChar_151
    rw [if_neg (show ¬ (1 : Int32) = 0 by decide), if_pos (show (0 : Int32) = 0 by decide), pp_bd, if_pos rfl, if_neg (show ¬ (1 : Int32) = 0 by decide), pp_bd, pp_bd, if_neg (nI_pos (by omega)), if_neg (show ¬ (255 : Int32) < nI c from nI_nlt (a := 255) (by omega) (by decide)), pp_bd, if_pos rfl, sh_max, pp_bd, sh_min, pp_bd, show pp_mx 0 0 = nI 0 from by decide, show pp_mn ((3 : Int32) >>> ((0 : Int32) &&& 31)) 3 = nI 3 from by decide, if_pos (show nI 0 < nI 3 by decide), pp_let]
    rw [show mm_fu = 4996 + 1 + 1 + 1 + 1 from rfl, s1 _ _ _ 0 60 (by decide) (by decide) (by decide), s1 _ _ _ 1 62 (by decide) (by decide) (by decide), s1 _ _ _ 2 61 (by decide) (by decide) (by decide), t1]
    rw [pp_ix]
    by_cases h0 : c = 60
    · rw [if_pos h0, if_pos h0]
      rfl
    rw [if_neg h0, if_neg h0]
    rw [pp_ix]
    by_cases h1 : c = 62
    · rw [if_pos h1, if_pos h1]
      rfl
    rw [if_neg h1, if_neg h1]
    rw [pp_ix]
    by_cases h2 : c = 61
    · rw [if_pos h2, if_pos h2]
      rfl
    rw [if_neg h2, if_neg h2]
    rfl
