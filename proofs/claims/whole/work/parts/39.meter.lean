/-! meter: rows of days -/
def nf {α : Type} (f : Nat → α → α) : Nat → α → α
  | 0, a => a
  | n + 1, a => f n (nf f n a)
theorem nf_ext {α : Type} {f g : Nat → α → α} {n : Nat} (h : ∀ i, i < n → ∀ a, f i a = g i a) (a : α) : nf f n a = nf g n a := by
  induction n with
  | zero => rfl
  | succ n ih => rw [nf, nf, ih (fun i hi => h i (by omega)), h n (by omega)]
theorem nf_id {α : Type} {f : Nat → α → α} {n : Nat} (h : ∀ i, i < n → ∀ a, f i a = a) (a : α) : nf f n a = a := by
  induction n with
  | zero => rfl
  | succ n ih => rw [nf, ih (fun i hi => h i (by omega)), h n (by omega)]
theorem nf_add {α : Type} (f : Nat → α → α) (n m : Nat) (a : α) : nf f (n + m) a = nf (fun c z => f (n + c) z) m (nf f n a) := by
  induction m with
  | zero => rfl
  | succ m ih => rw [← Nat.add_assoc, nf, nf, ih]
theorem nf_mul {α : Type} (f : Nat → α → α) (m n : Nat) (a : α) : nf f (n * m) a = nf (fun d y => nf (fun c z => f (d * m + c) z) m y) n a := by
  induction n with
  | zero => rw [Nat.zero_mul]; rfl
  | succ n ih => rw [Nat.succ_mul, nf_add, ih, nf]
theorem nf_inv {α : Type} {f : Nat → α → α} (P : Nat → α → Prop) {n : Nat} (h : ∀ i a, i < n → P i a → P (i + 1) (f i a)) {a : α} (h0 : P 0 a) : P n (nf f n a) := by
  induction n with
  | zero => exact h0
  | succ n ih => exact h n _ (by omega) (ih (fun i a hi => h i a (by omega)))
def mt_set (row : Nat → Nat) : Nat → Nat
  | 0 => 0
  | n + 1 => mt_set row n ||| 2 ^ (row n)
abbrev mt_A : Type := Nat × Nat × (Nat → Nat)
def mt_note (n : Nat) (row : Nat → Nat) (a : mt_A) : mt_A := (a.1 + 1, a.2.1 &&& mt_set row n, if a.1 = 0 then row else a.2.2)
def mt_up (row : Nat → Nat) (p d : Nat) : Nat → Nat := fun i => if i = p then d else row i
def mt_ab (C : Nat → Bool) : Nat → Bool
  | 0 => true
  | n + 1 => mt_ab C n && C n
theorem mt_ab_iff {C : Nat → Bool} {n : Nat} : mt_ab C n = true ↔ ∀ i, i < n → C i = true := by
  induction n with
  | zero => exact ⟨fun _ i hi => by omega, fun _ => rfl⟩
  | succ n ih =>
    rw [mt_ab, Bool.and_eq_true, ih]
    refine ⟨fun q i hi => ?_, fun q => ⟨fun i hi => q i (by omega), q n (by omega)⟩⟩
    by_cases e : i = n
    · rw [e]; exact q.2
    · exact q.1 i (by omega)
def mt_in (D : Nat → Nat → Nat) (d : Nat) (rest : Nat → Nat) : Bool := mt_ab (fun h => decide (D d h ≤ rest h)) 24
def mt_z (rest : Nat → Nat) : Bool := mt_ab (fun h => decide (rest h = 0)) 24
theorem mt_in_iff {D : Nat → Nat → Nat} {d : Nat} {rest : Nat → Nat} : mt_in D d rest = true ↔ ∀ h, h < 24 → D d h ≤ rest h := by
  unfold mt_in
  rw [mt_ab_iff]
  exact ⟨fun q h hh => of_decide_eq_true (q h hh), fun q h hh => decide_eq_true (q h hh)⟩
theorem mt_z_iff {rest : Nat → Nat} : mt_z rest = true ↔ ∀ h, h < 24 → rest h = 0 := by
  unfold mt_z
  rw [mt_ab_iff]
  exact ⟨fun q h hh => of_decide_eq_true (q h hh), fun q h hh => decide_eq_true (q h hh)⟩
def mt_F (t : Nat) (D : Nat → Nat → Nat) (n : Nat) : Nat → Nat → (Nat → Nat) → (Nat → Nat) → mt_A → mt_A
  | 0, _, rest, row, a => if mt_z rest = true then mt_note n row a else a
  | k + 1, low, rest, row, a => nf (fun d a => if low ≤ d ∧ t.testBit d = true ∧ mt_in D d rest = true then mt_F t D n k d (fun h => rest h - D d h) (mt_up row (n - (k + 1)) d) a else a) 12 a
def mt_v (t : Nat) (D : Nat → Nat → Nat) : Nat → Nat → (Nat → Nat) → Nat → Bool
  | 0, _, rest, _ => mt_z rest
  | k + 1, low, rest, c => decide (low ≤ c / 12 ^ k ∧ t.testBit (c / 12 ^ k) = true ∧ mt_in D (c / 12 ^ k) rest = true) && mt_v t D k (c / 12 ^ k) (fun h => rest h - D (c / 12 ^ k) h) (c % 12 ^ k)
def mt_e (n : Nat) : Nat → (Nat → Nat) → Nat → (Nat → Nat)
  | 0, row, _ => row
  | k + 1, row, c => mt_e n k (mt_up row (n - (k + 1)) (c / 12 ^ k)) (c % 12 ^ k)
theorem mt_FG (t : Nat) (D : Nat → Nat → Nat) (n : Nat) : ∀ (k low : Nat) (rest row : Nat → Nat) (a : mt_A), mt_F t D n k low rest row a = nf (fun c a => if mt_v t D k low rest c = true then mt_note n (mt_e n k row c) a else a) (12 ^ k) a := by
  intro k
  induction k with
  | zero => intro low rest row a; rfl
  | succ k ih =>
    intro low rest row a
    rw [mt_F, Nat.pow_succ, Nat.mul_comm, nf_mul]
    refine nf_ext (fun d hd a => ?_) a
    have hp : 0 < 12 ^ k := Nat.pow_pos (by decide)
    by_cases hc : low ≤ d ∧ t.testBit d = true ∧ mt_in D d rest = true
    · rw [if_pos hc, ih]
      refine nf_ext (fun c hcl a => ?_) a
      have e1 : (d * 12 ^ k + c) / 12 ^ k = d := by rw [Nat.mul_comm, Nat.mul_add_div hp, Nat.div_eq_of_lt hcl, Nat.add_zero]
      have e2 : (d * 12 ^ k + c) % 12 ^ k = c := by rw [Nat.mul_comm, Nat.mul_add_mod, Nat.mod_eq_of_lt hcl]
      rw [mt_v, mt_e, e1, e2, decide_eq_true hc, Bool.true_and]
    · rw [if_neg hc]
      refine (nf_id (fun c hcl a => ?_) a).symm
      have e1 : (d * 12 ^ k + c) / 12 ^ k = d := by rw [Nat.mul_comm, Nat.mul_add_div hp, Nat.div_eq_of_lt hcl, Nat.add_zero]
      rw [mt_v, e1, decide_eq_false hc, Bool.false_and, if_neg (by decide)]
theorem mt_F_le (t : Nat) (D : Nat → Nat → Nat) (n : Nat) : ∀ (k low : Nat) (rest row : Nat → Nat) (a : mt_A), (mt_F t D n k low rest row a).1 ≤ a.1 + 12 ^ k := by
  intro k
  induction k with
  | zero =>
    intro low rest row a
    rw [mt_F]
    split
    · exact Nat.le_refl _
    · omega
  | succ k ih =>
    intro low rest row a
    rw [mt_F, Nat.pow_succ]
    have := nf_inv (f := fun d a => if low ≤ d ∧ t.testBit d = true ∧ mt_in D d rest = true then mt_F t D n k d (fun h => rest h - D d h) (mt_up row (n - (k + 1)) d) a else a) (fun i (b : mt_A) => b.1 ≤ a.1 + 12 ^ k * i) (n := 12) (fun i b hi hb => by
      have hb : b.1 ≤ a.1 + 12 ^ k * i := hb
      have hp : 0 < 12 ^ k := Nat.pow_pos (by decide)
      show (if _ then _ else _ : mt_A).1 ≤ _
      rw [Nat.mul_succ]
      split
      · have := ih i (fun h => rest h - D i h) (mt_up row (n - (k + 1)) i) b
        omega
      · omega) (a := a) (Nat.le_refl _)
    exact this
/-- all rows are of told days -/
theorem mt_set_sub {t : Nat} {row : Nat → Nat} {n : Nat} (h : ∀ i, i < n → t.testBit (row i) = true) : pp_sub (mt_set row n) t := by
  induction n with
  | zero => exact Nat.zero_and t
  | succ n ih =>
    refine pp_subI (fun i hi => ?_)
    rw [mt_set, Nat.testBit_or, Nat.testBit_two_pow] at hi
    by_cases e : row n = i
    · rw [← e]; exact h n (by omega)
    · simp [e] at hi
      exact pp_sub_tb (ih (fun j hj => h j (by omega))) hi
theorem mt_F_sub (t : Nat) (D : Nat → Nat → Nat) (n : Nat) : ∀ (k low : Nat) (rest row : Nat → Nat) (a : mt_A), k ≤ n → (∀ i, i < n - k → t.testBit (row i) = true) → (a.1 = 0 ∨ pp_sub a.2.1 t) → ((mt_F t D n k low rest row a).1 = 0 ∨ pp_sub (mt_F t D n k low rest row a).2.1 t) := by
  intro k
  induction k with
  | zero =>
    intro low rest row a hk hr ha
    rw [mt_F]
    split
    · right
      refine pp_subI (fun i hi => ?_)
      have hi : (a.2.1 &&& mt_set row n).testBit i = true := hi
      rw [Nat.testBit_and, Bool.and_eq_true] at hi
      exact pp_sub_tb (mt_set_sub (fun i hi => hr i hi)) hi.2
    · exact ha
  | succ k ih =>
    intro low rest row a hk hr ha
    rw [mt_F]
    refine nf_inv (fun _ (b : mt_A) => b.1 = 0 ∨ pp_sub b.2.1 t) (fun i b hi hb => ?_) ha
    show (if _ then _ else _ : mt_A).1 = 0 ∨ _
    split
    · rename_i hc
      refine ih _ _ _ b (by omega) (fun j hj => ?_) hb
      unfold mt_up
      by_cases e : j = n - (k + 1)
      · rw [if_pos e]; exact hc.2.1
      · rw [if_neg e]; exact hr j (by omega)
    · exact hb
/-- loops that ask for all -/
theorem pp_allq {R : Type} {lp : Nat → Int32 → mm_M → R} (M : mm_M) (n : Nat) (hn : n < 5000) (C : Nat → Bool) (kT kF : R) (h : ∀ i, i < n → ∀ m, lp (m + 1) (nI i) M = if C i = true then lp m (nI (i + 1)) M else kF) (he : ∀ m, lp (m + 1) (nI n) M = kT) : lp mm_fu (nI 0) M = if mt_ab C n = true then kT else kF := by
  refine pp_ex (lp := fun m (a : Int32 × mm_M) => lp m a.1 a.2) (fun i a => a = (nI i, M) ∧ ∀ j, j < i → C j = true) (fun r => r = if mt_ab C n = true then kT else kF) n hn (fun i a hi ha => ?_) (fun a ha m => ?_) (a := (nI 0, M)) ⟨rfl, fun j hj => by omega⟩
  · obtain ⟨rfl, h1⟩ := ha
    cases hc : C i with
    | true =>
      refine Or.inl ⟨(nI (i + 1), M), ⟨rfl, fun j hj => ?_⟩, fun m => ?_⟩
      · by_cases e : j = i
        · rw [e]; exact hc
        · exact h1 j (by omega)
      · show lp (m + 1) (nI i) M = _
        rw [h i hi m, hc, if_pos rfl]
    | false =>
      refine Or.inr (fun m => ?_)
      show lp (m + 1) (nI i) M = _
      rw [h i hi m, hc, if_neg (by decide), if_neg]
      intro q
      rw [mt_ab_iff.mp q i hi] at hc
      cases hc
  · obtain ⟨rfl, h1⟩ := ha
    show lp (m + 1) (nI n) M = _
    rw [he, if_pos (mt_ab_iff.mpr h1)]
/-- rain of a day, as a number -/
def mt_D (S : ss_S) (d h : Nat) : Nat := (S.2 1 (72 * d + h)).toInt.toNat
theorem mt_D_e {S : ss_S} (ho : ss_Ok S) {d h : Nat} (hd : d < 12) (hh : h < 24) : S.2 1 (72 * d + h) = nI (mt_D S d h) ∧ mt_D S d h ≤ 99 := by
  obtain ⟨n, hn, e⟩ := ho.m 1 (by decide) rfl (j := 72 * d + h) (by show _ < 864; omega)
  have hn : (n : Int) ≤ 99 := hn
  unfold mt_D
  rw [e, nI_toInt (by omega)]
  exact ⟨rfl, by omega⟩
theorem mm_al_19 : mm_al 19 = 24 := rfl
theorem mm_al_20 : mm_al 20 = 3 := rfl
theorem mm_al_21 : mm_al 21 = 3 := rfl
/-- only the meter's cells change -/
def mt_f (M M1 : mm_M) : Prop := (∀ o q, ¬ (o = 4 ∧ (q = 7 ∨ q = 8)) → M1.1 o q = M.1 o q) ∧ (∀ o, o < 19 ∨ 21 < o → M1.2.1 o = M.2.1 o) ∧ M1.2.2 = M.2.2
theorem mt_f.rf {M : mm_M} : mt_f M M := ⟨fun _ _ _ => rfl, fun _ _ => rfl, rfl⟩
theorem mt_f.tr {M M1 M2 : mm_M} (h : mt_f M M1) (h2 : mt_f M1 M2) : mt_f M M2 := ⟨fun o q hq => (h2.1 o q hq).trans (h.1 o q hq), fun o ho => (h2.2.1 o ho).trans (h.2.1 o ho), h2.2.2.trans h.2.2⟩
theorem mt_f.s {M M1 : mm_M} (h : mt_f M M1) {k : Nat} (hk : k = 7 ∨ k = 8) (v : Int32) : mt_f M (mm_setI M1 4 k v) := ⟨fun o i hi => by
  rw [← h.1 o i hi]
  show (if o = 4 ∧ i = k then v else M1.1 o i) = _
  rw [if_neg (fun e => hi (by omega))], h.2⟩
theorem mt_f.a {M M1 : mm_M} (h : mt_f M M1) {o k : Nat} (ho : 19 ≤ o ∧ o ≤ 21) (v : Int32) : mt_f M (mm_setA M1 o k v) := ⟨h.1, fun i hi => by rw [ss_seta_ne (by omega)]; exact h.2.1 i hi, h.2.2⟩
theorem mt_f.r {M M1 : mm_M} (h : mt_f M M1) {o : Nat} (ho : 19 ≤ o ∧ o ≤ 21) (f : Nat → Int32) : mt_f M (mm_setR M1 o f) := ⟨h.1, fun i hi => by rw [ss_setr_ne (by omega)]; exact h.2.1 i hi, h.2.2⟩
theorem ss_so_47 : ∀ k, k < 11 → ¬ ((ss_so k).1 = 4 ∧ ((ss_so k).2 = 7 ∨ (ss_so k).2 = 8)) := by decide
theorem ss_ao_19 : ∀ a, a < 14 → a ≠ 1 → ss_ao a < 19 ∨ 21 < ss_ao a := by decide
theorem mt_f.RH {S : ss_S} {M M1 : mm_M} (h : mt_f M M1) (hH : ss_RH S M) : ss_RH S M1 := ⟨fun k hk => by rw [h.1 _ _ (ss_so_47 k hk)]; exact hH.1 k hk, fun a ha j hj => by
  rw [h.2.1]
  · exact hH.2 a ha j hj
  · unfold ss_ha
    by_cases h1 : a = 1
    · subst h1
      have hj : j < 864 := hj
      rw [if_pos rfl]
      show 6 + j / 72 < 19 ∨ _
      omega
    · rw [if_neg h1]
      exact ss_ao_19 a ha h1⟩
theorem mt_f.h {M M1 : mm_M} (h : mt_f M M1) : ss_h M M1 := ⟨fun o ho => ⟨funext (fun q => h.1 o q (by omega)), h.2.1 o (by omega), by rw [h.2.2]⟩, fun o _ _ => h.2.1 o (by omega)⟩
/-- what the class holds in the middle of its search -/
def mt_R (t n p : Nat) (rest row : Nat → Nat) (a : mt_A) (M : mm_M) : Prop := M.1 4 7 = nI a.1 ∧ M.1 4 8 = nI (a.2.1 &&& t) ∧ (a.1 ≠ 0 → ∀ i, i < n → M.2.1 21 i = nI (a.2.2 i)) ∧ (∀ i, i < p → M.2.1 20 i = nI (row i)) ∧ (∀ h, h < 24 → M.2.1 19 h = nI (rest h))
theorem sh_within {S : ss_S} {M : mm_M} (ho : ss_Ok S) (hH : ss_RH S M) {d : Nat} (hd : d < 12) {rest : Nat → Nat} (hr : ∀ h, h < 24 → M.2.1 19 h = nI (rest h)) (hb : ∀ h, h < 24 → rest h ≤ 65535) : f_Days_isWithinRest (nI d) M = some (mt_in (mt_D S) d rest, M) := by
  unfold f_Days_isWithinRest
  refine (pp_allq (lp := fun m v M => lp_Days_isWithinRest_2 (nI d) _ _ m v M) M 24 (by decide) (fun h => decide (mt_D S d h ≤ rest h)) (some (true, M)) (some (false, M)) (fun i hi m => ?_) (fun m => ?_)).trans ?_
  · show lp_Days_isWithinRest_2 _ _ _ (m + 1) _ _ = if _ then lp_Days_isWithinRest_2 _ _ _ m _ _ else _
    have e1 : M.2.1 (6 + d) i = nI (mt_D S d i) := (sh_day hH hd (by omega)).trans (mt_D_e ho hd hi).1
    have e2 := hr i hi
    have h1 := (mt_D_e ho hd hi).2
    have h2 := hb i hi
    rw [lp_Days_isWithinRest_2, if_neg (show ¬ (24 : Int32) ≤ nI i from nI_ge hi (by decide)), pp_in hd (by decide), if_pos rfl, nI_clamp (by omega), mm_al_day d hd, pp_in (by omega) (by decide), if_pos rfl, mm_al_19, pp_in hi (by decide), if_pos rfl, nI_clamp (by omega), e1, e2, nI_1, pp_let]
    by_cases hc : mt_D S d i ≤ rest i
    · rw [if_pos (nI_le hc (by omega)), if_pos (decide_eq_true hc)]
    · rw [if_neg (nI_ge (by omega) (by omega)), if_neg (by simp [hc])]
  · show lp_Days_isWithinRest_2 _ _ _ (m + 1) _ _ = _
    rw [lp_Days_isWithinRest_2, if_pos (show (24 : Int32) ≤ nI 24 by decide)]
  · unfold mt_in
    split
    · rename_i hc
      rw [hc]
    · rename_i hc
      rw [Bool.not_eq_true] at hc
      rw [hc]
theorem sh_gone {M : mm_M} {rest : Nat → Nat} (hr : ∀ h, h < 24 → M.2.1 19 h = nI (rest h)) (hb : ∀ h, h < 24 → rest h ≤ 65535) : f_Days_isRestGone M = some (mt_z rest, M) := by
  unfold f_Days_isRestGone
  refine (pp_allq (lp := fun m v M => lp_Days_isRestGone_2 _ _ m v M) M 24 (by decide) (fun h => decide (rest h = 0)) (some (true, M)) (some (false, M)) (fun i hi m => ?_) (fun m => ?_)).trans ?_
  · show lp_Days_isRestGone_2 _ _ (m + 1) _ _ = if _ then lp_Days_isRestGone_2 _ _ m _ _ else _
    have e2 := hr i hi
    have h2 := hb i hi
    rw [lp_Days_isRestGone_2, if_neg (show ¬ (24 : Int32) ≤ nI i from nI_ge hi (by decide)), mm_al_19, pp_in hi (by decide), if_pos rfl, nI_clamp (by omega), e2, nI_1, pp_let]
    by_cases hc : rest i = 0
    · rw [if_pos (by rw [hc]; rfl), if_pos (decide_eq_true hc)]
    · rw [if_neg (show ¬ nI (rest i) = 0 from nI_ne0 (by omega) (by omega)), if_neg (by simp [hc])]
  · show lp_Days_isRestGone_2 _ _ (m + 1) _ _ = _
    rw [lp_Days_isRestGone_2, if_pos (show (24 : Int32) ≤ nI 24 by decide)]
  · unfold mt_z
    split
    · rename_i hc
      rw [hc]
    · rename_i hc
      rw [Bool.not_eq_true] at hc
      rw [hc]
theorem sh_changeRest {S : ss_S} {M : mm_M} (hH : ss_RH S M) {d : Nat} (hd : d < 12) (t : Int32) : f_Days_changeRest (nI d) t M = some ((), mm_setR M 19 (fun j => if 0 ≤ j ∧ j < 0 + 24 then M.2.1 19 j + t * S.2 1 (72 * d + j) else M.2.1 19 j)) := by
  unfold f_Days_changeRest
  refine pp_fill (lp := fun m v M => lp_Days_changeRest_2 (nI d) t _ m v M) (k := fun M_4 => some ((), M_4)) M 19 0 24 (by decide) (fun j => M.2.1 19 j + t * S.2 1 (72 * d + j)) (fun i hi m M' e => ?_) (fun m M' => ?_)
  · show lp_Days_changeRest_2 _ _ _ (m + 1) (nI i) M' = lp_Days_changeRest_2 _ _ _ m (nI (i + 1)) _
    have e1 : M'.2.1 19 i = M.2.1 19 i := by rw [e, pp_sro, if_neg (by omega)]
    have e2 : M'.2.1 (6 + d) i = S.2 1 (72 * d + i) := by
      rw [e, pp_srn (by omega)]
      exact sh_day hH hd (by omega)
    rw [lp_Days_changeRest_2, mm_al_19]
    simp (disch := omega) only [pp_bd, pp_let, pp_jn, zl0, zl1, zl2, zl3, zl4, zl5, zl6, zl7, zl8, zl9, zl10, zl11, zl12, zl14, zl20, zl23, zl24, zl48, zl60, zl72, zl96, zl99, zl100, zl120, zl160, zl180, zl200, zl255, zl720, zl999, zl1023, zl1024, zl4095, zl9999, zl65536, nI_add, pp_mulN, zm1, zm2, zm3, nI_leI, nI_ltI, nI_eq, pp_in, nI_clamp, ↓reduceIte, e1, e2, show ¬ 24 ≤ i from by omega, Nat.zero_add, mm_al_day d hd]
  · show lp_Days_changeRest_2 _ _ _ (m + 1) (nI 24) M' = _
    rw [lp_Days_changeRest_2, if_pos (by decide)]
theorem sh_noteRow {t n : Nat} {rest row : Nat → Nat} {a : mt_A} {M : mm_M} (hn : n ≤ 3) (ht : t < 4096) (hrow : ∀ i, i < n → row i < 12) (ha : a.1 < 4000) (h : mt_R t n n rest row a M) : ∃ M1, f_Days_noteRow (nI n) M = some ((), M1) ∧ mt_R t n n rest row (mt_note n row a) M1 ∧ mt_f M M1 := by
  obtain ⟨h1, h2, h3, h4, h5⟩ := h
  unfold f_Days_noteRow
  refine pp_ex (lp := fun m (x : Int32 × Int32 × mm_M) => lp_Days_noteRow_4 (nI n) _ m x.1 x.2.1 x.2.2) (fun i x => x.1 = nI (mt_set row i) ∧ x.2.1 = nI i ∧ mt_f M x.2.2 ∧ x.2.2.1 = M.1 ∧ (∀ j, j < n → x.2.2.2.1 20 j = nI (row j)) ∧ (∀ h, h < 24 → x.2.2.2.1 19 h = nI (rest h)) ∧ (a.1 ≠ 0 → ∀ j, j < n → x.2.2.2.1 21 j = nI (a.2.2 j)) ∧ (a.1 = 0 → ∀ j, j < i → x.2.2.2.1 21 j = nI (row j))) (fun r => ∃ M1, r = some ((), M1) ∧ mt_R t n n rest row (mt_note n row a) M1 ∧ mt_f M M1) n (by omega) (fun i x hi hx => Or.inl ?_) (fun x hx m => ?_) (a := (nI 0, nI 0, M)) ⟨rfl, rfl, mt_f.rf, rfl, h4, h5, h3, fun _ j hj => by omega⟩
  · obtain ⟨v, w, M'⟩ := x
    obtain ⟨rfl, rfl, f1, f2, f3, f4, f5, f6⟩ := hx
    have hri := hrow i hi
    have e1 : M'.2.1 20 i = nI (row i) := f3 i hi
    have e2 : M'.1 4 7 = nI a.1 := by rw [show M'.1 = M.1 from f2]; exact h1
    show ∃ a' : Int32 × Int32 × mm_M, _ ∧ ∀ m, lp_Days_noteRow_4 _ _ (m + 1) (nI (mt_set row i)) (nI i) M' = lp_Days_noteRow_4 _ _ m a'.1 a'.2.1 a'.2.2
    by_cases hz : a.1 = 0
    · refine ⟨(nI (mt_set row (i + 1)), nI (i + 1), mm_setA M' 21 i (nI (row i))), ⟨rfl, rfl, f1.a (by omega) _, f2, f3, f4, fun q => absurd hz q, fun _ j hj => ?_⟩, fun m => ?_⟩
      · show (mm_setA M' 21 i (nI (row i))).2.1 21 j = _
        rw [pp_sa]
        by_cases e : j = i
        · rw [if_pos ⟨rfl, e⟩, e]
        · rw [if_neg (fun q => e q.2)]
          exact f6 hz j (by omega)
      · rw [lp_Days_noteRow_4, if_neg (nI_ge hi (by omega)), mm_al_20, mm_al_21, pp_in (by omega) (by decide), if_pos rfl, nI_clamp (by omega), e1, pp_one (row i) hri, pp_orN, pp_let, pp_jn, e2, hz, if_pos rfl, if_pos rfl, if_pos (show nI 0 = 0 from rfl), pp_let]
        show mm_let (nI i + 1) _ = _
        rw [nI_1, pp_let]
        rfl
    · refine ⟨(nI (mt_set row (i + 1)), nI (i + 1), M'), ⟨rfl, rfl, f1, f2, f3, f4, f5, fun q => absurd q hz⟩, fun m => ?_⟩
      rw [lp_Days_noteRow_4, if_neg (nI_ge hi (by omega)), mm_al_20, mm_al_21, pp_in (by omega) (by decide), if_pos rfl, nI_clamp (by omega), e1, pp_one (row i) hri, pp_orN, pp_let, pp_jn, e2, if_neg (show ¬ nI a.1 = 0 from nI_ne0 (by omega) (by omega))]
      show mm_let (nI i + 1) _ = _
      rw [nI_1, pp_let]
      rfl
  · obtain ⟨v, w, M'⟩ := x
    obtain ⟨rfl, rfl, f1, f2, f3, f4, f5, f6⟩ := hx
    have f2 : M'.1 = M.1 := f2
    refine ⟨mm_setI (mm_setI M' 4 8 (nI (a.2.1 &&& t) &&& nI (mt_set row n))) 4 7 (nI a.1 + 1), ?_, ⟨?_, ?_, fun _ i hi => ?_, f3, f4⟩, (f1.s (Or.inr rfl) _).s (Or.inl rfl) _⟩
    · show lp_Days_noteRow_4 _ _ (m + 1) _ (nI n) M' = _
      rw [lp_Days_noteRow_4, if_pos (nI_le (Nat.le_refl _) (by omega)), pp_let, f2, h2, pp_let]
      show some ((), mm_setI _ 4 7 ((mm_setI M' 4 8 _).1 4 7 + 1)) = _
      rw [show ∀ v, (mm_setI M' 4 8 v).1 4 7 = M'.1 4 7 from fun _ => rfl, f2, h1]
    · show nI a.1 + 1 = nI (a.1 + 1)
      rw [nI_1]
    · show nI (a.2.1 &&& t) &&& nI (mt_set row n) = nI ((a.2.1 &&& mt_set row n) &&& t)
      rw [pp_andN, Nat.and_assoc, Nat.and_comm t, Nat.and_assoc]
    · show M'.2.1 21 i = nI ((if a.1 = 0 then row else a.2.2) i)
      by_cases hz : a.1 = 0
      · rw [if_pos hz]; exact f6 hz i hi
      · rw [if_neg hz]; exact f5 hz i hi
theorem sh_fillRow {S : ss_S} (ho : ss_Ok S) {t n : Nat} (hn : n ≤ 3) (ht : t < 4096) (h1 : S.1 1 = nI t) : ∀ (k fuel low : Nat) (rest row : Nat → Nat) (a : mt_A) (M : mm_M), k ≤ n → k < fuel → low ≤ 12 → a.1 + 12 ^ k ≤ 2000 → (∀ i, i < n - k → row i < 12) → (∀ h, h < 24 → rest h ≤ 65535) → ss_RH S M → mt_R t n (n - k) rest row a M → ∃ M1, f_Days_fillRow fuel (nI (n - k)) (nI low) (nI n) M = some ((), M1) ∧ mt_R t n (n - k) rest row (mt_F t (mt_D S) n k low rest row a) M1 ∧ mt_f M M1 := by
  intro k
  induction k with
  | zero =>
    intro fuel low rest row a M hk hf hl ha hrow hrest hH hR
    obtain ⟨fuel, rfl⟩ : ∃ q, fuel = q + 1 := ⟨fuel - 1, by omega⟩
    rw [f_Days_fillRow]
    unfold fb_Days_fillRow
    rw [if_neg (show ¬ nI (n - 0) < nI n from nI_nlt (by omega) (by omega)), sh_gone hR.2.2.2.2 hrest, pp_bd, mt_F]
    cases hz : mt_z rest with
    | true =>
      obtain ⟨M1, g1, g2, g3⟩ := sh_noteRow hn ht (fun i hi => hrow i hi) (by omega) hR
      exact ⟨M1, by rw [if_pos rfl, g1]; rfl, g2, g3⟩
    | false => exact ⟨M, by rw [if_neg (by decide)], hR, mt_f.rf⟩
  | succ k ih =>
    intro fuel low rest row a M hk hf hl ha hrow hrest hH hR
    obtain ⟨fuel, rfl⟩ : ∃ q, fuel = q + 1 := ⟨fuel - 1, by omega⟩
    rw [f_Days_fillRow]
    unfold fb_Days_fillRow
    rw [if_pos (nI_lt (by omega) (by omega)), mt_F]
    have hpow : 12 ^ (k + 1) = 12 ^ k * 12 := Nat.pow_succ ..
    generalize hstep : (fun d (a : mt_A) => if low ≤ d ∧ t.testBit d = true ∧ mt_in (mt_D S) d rest = true then mt_F t (mt_D S) n k d (fun h => rest h - mt_D S d h) (mt_up row (n - (k + 1)) d) a else a) = step
    have hlow : nf step low a = a := nf_id (fun i hi b => by rw [← hstep]; exact if_neg (fun q => by omega)) a
    refine pp_exj (lp := fun m (x : Int32 × mm_M) => lp_Days_fillRow_21 (f_Days_fillRow fuel) (nI (n - (k + 1))) (nI n) _ m x.1 x.2) (fun d x => low ≤ d ∧ x.1 = nI d ∧ (nf step d a).1 ≤ a.1 + 12 ^ k * d ∧ mt_R t n (n - (k + 1)) rest row (nf step d a) x.2 ∧ mt_f M x.2) (fun r => ∃ M1, r = some ((), M1) ∧ mt_R t n (n - (k + 1)) rest row (nf step 12 a) M1 ∧ mt_f M M1) low 12 hl (by decide) (fun d x hd hx => Or.inl ?_) (fun x hx m => ?_) (a := (nI low, M)) ⟨Nat.le_refl _, rfl, by rw [hlow]; omega, by rw [hlow]; exact hR, mt_f.rf⟩
    · obtain ⟨v, M'⟩ := x
      obtain ⟨hld, rfl, f1, f2, f3⟩ := hx
      have hH' := f3.RH hH
      have f2 : mt_R t n (n - (k + 1)) rest row (nf step d a) M' := f2
      show ∃ a' : Int32 × mm_M, _ ∧ ∀ m, lp_Days_fillRow_21 _ _ _ _ (m + 1) (nI d) M' = lp_Days_fillRow_21 _ _ _ _ m a'.1 a'.2
      have hnf : nf step (d + 1) a = step d (nf step d a) := rfl
      have hbd : (step d (nf step d a)).1 ≤ a.1 + 12 ^ k * (d + 1) := by
        rw [← hstep, Nat.mul_succ]
        show (if _ then _ else _ : mt_A).1 ≤ _
        rw [hstep]
        split
        · have := mt_F_le t (mt_D S) n k d (fun h => rest h - mt_D S d h) (mt_up row (n - (k + 1)) d) (nf step d a)
          omega
        · omega
      have hmul : 12 ^ k * d ≤ 12 ^ k * 11 := Nat.mul_le_mul_left _ (by omega)
      by_cases hc1 : t.testBit d = true
      · by_cases hc2 : mt_in (mt_D S) d rest = true
        · have hle : ∀ h, h < 24 → mt_D S d h ≤ rest h := mt_in_iff.mp hc2
          have hp : n - (k + 1) < 3 := by omega
          have hsv : step d (nf step d a) = mt_F t (mt_D S) n k d (fun h => rest h - mt_D S d h) (mt_up row (n - (k + 1)) d) (nf step d a) := by
            rw [← hstep]
            exact if_pos ⟨hld, hc1, hc2⟩
          -- the row's place, the rest made smaller
          generalize hM1 : mm_setA M' 20 (n - (k + 1)) (nI d) = M1
          have m1 : mt_f M' M1 := by rw [← hM1]; exact mt_f.rf.a (by omega) _
          have hH1 := m1.RH hH'
          have c1 := sh_changeRest hH1 hd (-1)
          generalize hM2 : mm_setR M1 19 (fun j => if 0 ≤ j ∧ j < 0 + 24 then M1.2.1 19 j + (-1) * S.2 1 (72 * d + j) else M1.2.1 19 j) = M2 at c1
          have m2 : mt_f M1 M2 := by rw [← hM2]; exact mt_f.rf.r (by omega) _
          have hH2 := m2.RH hH1
          have hR2 : mt_R t n (n - k) (fun h => rest h - mt_D S d h) (mt_up row (n - (k + 1)) d) (nf step d a) M2 := by
            refine ⟨?_, ?_, fun hz i hi => ?_, fun i hi => ?_, fun h hh => ?_⟩
            · rw [← hM2, ← hM1]; exact f2.1
            · rw [← hM2, ← hM1]; exact f2.2.1
            · rw [← hM2, pp_srn (by omega), ← hM1, pp_sa, if_neg (by omega)]
              exact f2.2.2.1 hz i hi
            · rw [← hM2, pp_srn (by omega), ← hM1, pp_sa]
              unfold mt_up
              by_cases e : i = n - (k + 1)
              · rw [if_pos ⟨rfl, e⟩, if_pos e]
              · rw [if_neg (fun q => e q.2), if_neg e]
                exact f2.2.2.2.1 i (by omega)
            · rw [← hM2, pp_sro, if_pos (by omega), ← hM1, pp_sa, if_neg (by omega), f2.2.2.2.2 h hh, (mt_D_e ho hd hh).1, show (-1 : Int32) * nI (mt_D S d h) = - nI (mt_D S d h) from by rw [Int32.neg_mul, Int32.one_mul], ← Int32.sub_eq_add_neg, pp_subN (hle h hh)]
          have hrow2 : ∀ i, i < n - k → mt_up row (n - (k + 1)) d i < 12 := fun i hi => by
            unfold mt_up
            by_cases e : i = n - (k + 1)
            · rw [if_pos e]; exact hd
            · rw [if_neg e]; exact hrow i (by omega)
          obtain ⟨M3, g1, g2, g3⟩ := ih fuel d (fun h => rest h - mt_D S d h) (mt_up row (n - (k + 1)) d) (nf step d a) M2 (by omega) (by omega) (by omega) (by omega) hrow2 (fun h hh => by have := hrest h hh; show rest h - _ ≤ _; omega) hH2 hR2
          rw [← hsv] at g2
          have hH3 := g3.RH hH2
          have c2 := sh_changeRest hH3 hd 1
          generalize hM4 : mm_setR M3 19 (fun j => if 0 ≤ j ∧ j < 0 + 24 then M3.2.1 19 j + 1 * S.2 1 (72 * d + j) else M3.2.1 19 j) = M4 at c2
          have m4 : mt_f M3 M4 := by rw [← hM4]; exact mt_f.rf.r (by omega) _
          refine ⟨(nI (d + 1), M4), ⟨by omega, rfl, by rw [hnf]; exact hbd, ?_, (((f3.tr m1).tr m2).tr g3).tr m4⟩, fun m => ?_⟩
          · rw [hnf]
            refine ⟨?_, ?_, fun hz i hi => ?_, fun i hi => ?_, fun h hh => ?_⟩
            · show M4.1 4 7 = _
              rw [← hM4]; exact g2.1
            · show M4.1 4 8 = _
              rw [← hM4]; exact g2.2.1
            · show M4.2.1 21 i = _
              rw [← hM4, pp_srn (by omega)]
              exact g2.2.2.1 hz i hi
            · show M4.2.1 20 i = _
              rw [← hM4, pp_srn (by omega), g2.2.2.2.1 i (by omega)]
              unfold mt_up
              rw [if_neg (by omega)]
            · show M4.2.1 19 h = _
              rw [← hM4, pp_sro, if_pos (by omega), g2.2.2.2.2 h hh, (mt_D_e ho hd hh).1, Int32.one_mul, nI_add, Nat.sub_add_cancel (hle h hh)]
          · have e1 : n - (k + 1) + 1 = n - k := by omega
            rw [lp_Days_fillRow_21, if_neg (show ¬ (12 : Int32) ≤ nI d from nI_ge hd (by decide)), sh_isTold hH' ht h1, pp_has_k hd, pp_bd, pp_jn, hc1, if_pos rfl, sh_within ho hH' hd f2.2.2.2.2 hrest, pp_bd, hc2, if_pos rfl, mm_al_20, pp_in hp (by decide), if_pos rfl, nI_clamp (by omega), hM1, pp_let, c1, pp_bd, nI_1, e1, g1, pp_bd, c2, pp_bd]
            show mm_let (nI d + 1) _ = _
            rw [nI_1, pp_let]
        · have hsv : step d (nf step d a) = nf step d a := by
            rw [← hstep]
            exact if_neg (fun q => hc2 q.2.2)
          refine ⟨(nI (d + 1), M'), ⟨by omega, rfl, by rw [hnf]; exact hbd, by rw [hnf, hsv]; exact f2, f3⟩, fun m => ?_⟩
          rw [lp_Days_fillRow_21, if_neg (show ¬ (12 : Int32) ≤ nI d from nI_ge hd (by decide)), sh_isTold hH' ht h1, pp_has_k hd, pp_bd, pp_jn, hc1, if_pos rfl, sh_within ho hH' hd f2.2.2.2.2 hrest, pp_bd, if_neg hc2]
          show mm_let (nI d + 1) _ = _
          rw [nI_1, pp_let]
      · have hsv : step d (nf step d a) = nf step d a := by
          rw [← hstep]
          exact if_neg (fun q => hc1 q.2.1)
        refine ⟨(nI (d + 1), M'), ⟨by omega, rfl, by rw [hnf]; exact hbd, by rw [hnf, hsv]; exact f2, f3⟩, fun m => ?_⟩
        rw [lp_Days_fillRow_21, if_neg (show ¬ (12 : Int32) ≤ nI d from nI_ge hd (by decide)), sh_isTold hH' ht h1, pp_has_k hd, pp_bd, pp_jn, if_neg hc1]
        show mm_let (nI d + 1) _ = _
        rw [nI_1, pp_let]
    · obtain ⟨v, M'⟩ := x
      obtain ⟨hld, rfl, f1, f2, f3⟩ := hx
      refine ⟨M', ?_, f2, f3⟩
      show lp_Days_fillRow_21 _ _ _ _ (m + 1) (nI 12) M' = _
      rw [lp_Days_fillRow_21, if_pos (by decide)]
