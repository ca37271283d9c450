/-! rooms: the rooms on the tape -/
section ROOMS4
variable {S : ss_S} {u s nr : Nat} {M M0 : mm_M}
theorem pp_ho_e (S : ss_S) (s : Nat) (v : Int32) : ∀ q b, b + q = 10 → pp_ho S s v q b = -1 ∨ ∃ x, x < 10 ∧ pp_ho S s v q b = nI x := by
  intro q
  induction q with
  | zero => intro b _; exact Or.inl rfl
  | succ q ih =>
    intro b hb
    rw [pp_ho]
    split
    · exact Or.inr ⟨b, by omega, rfl⟩
    · exact ih (b + 1) (by omega)
def hok (S : ss_S) (s u r : Nat) : Bool := decide (pp_ho S s (nI r) 10 0 = -1) || pp_has u (pp_ho S s (nI r) 10 0)
def rby (S : ss_S) (i : Nat) : Nat := (S.2 0 i).toInt.toNat
theorem rby_e (ho : ss_Ok S) {i : Nat} (hi : i < 200) : S.2 0 i = nI (rby S i) ∧ rby S i ≤ 255 := by
  obtain ⟨v, hv, e⟩ := ho.m 0 (by decide) rfl (j := i) hi
  have hv : (v : Int) ≤ 255 := hv
  unfold rby
  rw [e, nI_toInt (by omega)]
  exact ⟨rfl, by omega⟩
def rgood (S : ss_S) (s u nr f i : Nat) : Bool := decide (rby S i < nr) && !(f.testBit (rby S i)) && hok S s u (rby S i)
/-- the set of rooms, place i on; none where one is wrong -/
def rdt (S : ss_S) (s u nr : Nat) : Nat → Nat → Nat → Option Nat
  | 0, _, f => some f
  | q + 1, i, f => if rgood S s u nr f i = true then rdt S s u nr q (i + 1) (f ||| 2 ^ rby S i) else none
theorem sh_tape (ho : ss_Ok S) (hH : ss_RH S M) (hs : s < 1024) (h5 : S.1 5 = nI s) (hu : u < 1024) (hnr : nr ≤ 10) (h2 : S.1 2 = nI nr) {m T : Nat} (hm : m ≤ 10) (hT : m ≤ T ∧ T ≤ 200) (h0 : S.1 0 = nI T) : f_H_roomsOnTape (nI u) (nI m) M = some ((match rdt S s u nr m 0 0 with | none => -1 | some f => nI f), M) := by
  have key : ∀ q i f, i + q = m → f < 1024 → ∀ g, lp_H_roomsOnTape_5 (nI u) (nI m) (fun (M_14 : mm_M) => some ((-1), M_14)) (fun (M_15 : mm_M) => some ((-1), M_15)) (fun (v3 : Int32) (M_16 : mm_M) => some (v3, M_16)) (g + q + 1) (nI f) (nI i) M = some ((match rdt S s u nr q i f with | none => -1 | some f => nI f), M) := by
    intro q
    induction q with
    | zero =>
      intro i f hi hf g
      have : i = m := by omega
      subst this
      rw [show g + 0 + 1 = g + 1 from rfl, lp_H_roomsOnTape_5, if_pos (nI_le (Nat.le_refl _) (by omega))]
      rfl
    | succ q ih =>
      intro i f hi hf g
      obtain ⟨e1, e2⟩ := rby_e ho (show i < 200 by omega)
      rw [show g + (q + 1) + 1 = (g + q + 1) + 1 from rfl, lp_H_roomsOnTape_5, if_neg (nI_ge (by omega) (by omega)), sh_byteAt hH (show T ≤ 200 by omega) h0 (by omega), pp_bd, e1, show M.1 22 1 = nI nr from (hH.1 2 (by decide)).trans h2, sh_isBelow, pp_bd, nI_toInt (by omega), nI_toInt (by omega), rdt]
      unfold rgood
      by_cases c1 : rby S i < nr
      · rw [decide_eq_true (show (0 : Int) ≤ (rby S i : Int) ∧ (rby S i : Int) < (nr : Int) by omega), if_pos rfl, decide_eq_true c1, Bool.true_and, sh_isIn (by omega), pp_has_k (by omega), pp_bd]
        cases c2 : f.testBit (rby S i) with
        | true => rw [if_pos rfl, Bool.not_true, Bool.false_and, if_neg (by decide)]
        | false =>
          rw [if_neg (by decide), Bool.not_false, Bool.true_and, sh_holder hH hs h5, pp_bd, pp_jn]
          unfold hok
          by_cases c3 : pp_ho S s (nI (rby S i)) 10 0 = -1
          · rw [if_pos c3, decide_eq_true c3, Bool.true_or, if_pos rfl]
            dsimp only
            rw [pp_one _ (by omega), pp_orN, pp_let, nI_1, pp_let]
            exact ih (i + 1) _ (by omega) (Nat.or_lt_two_pow (n := 10) hf (Nat.pow_lt_pow_right (by decide) (by omega))) g
          · rw [if_neg c3, decide_eq_false c3, Bool.false_or, sh_isIn (by omega), pp_bd]
            cases c4 : pp_has u (pp_ho S s (nI (rby S i)) 10 0) with
            | true =>
              rw [if_pos rfl, if_pos rfl]
              dsimp only
              rw [pp_one _ (by omega), pp_orN, pp_let, nI_1, pp_let]
              exact ih (i + 1) _ (by omega) (Nat.or_lt_two_pow (n := 10) hf (Nat.pow_lt_pow_right (by decide) (by omega))) g
            | false => rw [if_neg (by decide), if_neg (by decide)]
      · rw [decide_eq_false (show ¬ ((0 : Int) ≤ (rby S i : Int) ∧ (rby S i : Int) < (nr : Int)) by omega), if_neg (by decide), decide_eq_false c1, Bool.false_and, Bool.false_and, if_neg (by decide)]
  unfold f_H_roomsOnTape
  have := key m 0 0 (by omega) (by decide) (4999 - m)
  rw [show 4999 - m + m + 1 = mm_fu from by show _ = 5000; omega] at this
  exact this
/-- the reference's row of rooms, sorted -/
def ro (f : Nat) (M : mm_M) : Prop := ∀ x, x < 10 → f.testBit x = true → M.2.1 129 (pp_cn f x) = nI x
theorem cn_or {f r : Nat} (hr : f.testBit r = false) : ∀ n, pp_cn (f ||| 2 ^ r) n = pp_cn f n + if r < n then 1 else 0 := by
  intro n
  induction n with
  | zero => rfl
  | succ n ih =>
    rw [pp_cn_s, pp_cn_s, ih, Nat.testBit_or, Nat.testBit_two_pow]
    by_cases e : r = n
    · subst e
      rw [hr, decide_eq_true rfl, if_neg (Nat.lt_irrefl r), if_pos (Nat.lt_succ_self r)]
      rfl
    · rw [decide_eq_false e, Bool.or_false]
      by_cases h : r < n
      · rw [if_pos h, if_pos (show r < n + 1 by omega)]; omega
      · rw [if_neg h, if_neg (show ¬ r < n + 1 by omega)]; omega
theorem sr_insr {f r : Nat} (hr : r < 10) (hc : pp_cn f 10 ≤ 5) {v1 v2 v3 : Int32} {kA : mm_M → Option (Bool × mm_M)} {kB : Int32 → mm_M → Option (Bool × mm_M)} : ∀ (p : Nat) (M : mm_M), p ≤ pp_cn f 10 → (∀ x, x < 10 → f.testBit x = true → pp_cn f x < p → M.2.1 129 (pp_cn f x) = nI x) → (∀ x, x < 10 → f.testBit x = true → p ≤ pp_cn f x → M.2.1 129 (pp_cn f x + 1) = nI x) → (if f.testBit r = true then pp_cn f r < p else pp_cn f r ≤ p) → ∀ g,
    (f.testBit r = true ∧ ∃ M1, lp_R_takesRooms_54 v1 v2 v3 (nI r) kA kB (g + p + 1) (nI p) M = kA M1 ∧ fr 129 129 M M1) ∨
    (f.testBit r = false ∧ ∃ M1, lp_R_takesRooms_54 v1 v2 v3 (nI r) kA kB (g + p + 1) (nI p) M = kB (nI (pp_cn f r)) M1 ∧ (∀ x, x < 10 → f.testBit x = true → M1.2.1 129 (pp_cn (f ||| 2 ^ r) x) = nI x) ∧ fr 129 129 M M1) := by
  have fin : ∀ M : mm_M, f.testBit r = false → (∀ x, x < 10 → f.testBit x = true → pp_cn f x < pp_cn f r → M.2.1 129 (pp_cn f x) = nI x) → (∀ x, x < 10 → f.testBit x = true → pp_cn f r ≤ pp_cn f x → M.2.1 129 (pp_cn f x + 1) = nI x) → ∀ x, x < 10 → f.testBit x = true → M.2.1 129 (pp_cn (f ||| 2 ^ r) x) = nI x := fun M hf h1 h2 x hx hfx => by
    rw [cn_or hf]
    by_cases e : r < x
    · rw [if_pos e]
      refine h2 x hx hfx ?_
      have := pp_cn_up f (b := r) (x - r)
      rw [show r + (x - r) = x by omega] at this
      exact this
    · have hne : x ≠ r := fun z => by rw [z, hf] at hfx; cases hfx
      rw [if_neg e, Nat.add_zero]
      exact h1 x hx hfx (pp_cn_in (by omega) hfx)
  intro p
  induction p with
  | zero =>
    intro M _ h1 h2 h3 g
    cases hf : f.testBit r with
    | true => rw [hf, if_pos rfl] at h3; omega
    | false =>
      rw [hf, if_neg (by decide)] at h3
      have e0 : pp_cn f r = 0 := by omega
      refine Or.inr ⟨rfl, M, ?_, fin M hf (fun x hx hfx hl => h1 x hx hfx (by omega)) (fun x hx hfx _ => h2 x hx hfx (by omega)), fr.rf⟩
      rw [e0, show g + 0 + 1 = g + 1 from rfl, lp_R_takesRooms_54, if_pos (by decide)]
  | succ p ih =>
    intro M hp h1 h2 h3 g
    obtain ⟨n1, n2, n3⟩ := nf2_in (f := f) (v := p) (by omega)
    generalize nf2 f p = y at n1 n2 n3
    have ey : M.2.1 129 p = nI y := by have := h1 y n1 n2 (by omega); rw [n3] at this; exact this
    rw [show g + (p + 1) + 1 = (g + p + 1) + 1 from rfl, lp_R_takesRooms_54, if_neg (nI_nle (by omega) (by omega)), nI_pred, show mm_al 129 = 6 from rfl, pp_in (by omega) (by decide), if_pos rfl, nI_clamp (by omega), ey]
    by_cases hlt : y < r
    · rw [if_pos (nI_lt hlt (by omega))]
      have hcr := pp_cn_in (u := f) hlt n2
      cases hf : f.testBit r with
      | true => rw [hf, if_pos rfl] at h3; omega
      | false =>
        rw [hf, if_neg (by decide)] at h3
        have e0 : pp_cn f r = p + 1 := by omega
        refine Or.inr ⟨rfl, M, by rw [e0], fin M hf (fun x hx hfx hl => h1 x hx hfx (by omega)) (fun x hx hfx hl => h2 x hx hfx (by omega)), fr.rf⟩
    · rw [if_neg (nI_nlt (by omega) (by omega)), if_pos rfl]
      by_cases heq : y = r
      · rw [if_pos (by rw [heq])]
        exact Or.inl ⟨by rw [← heq]; exact n2, M, rfl, fr.rf⟩
      · rw [if_neg (fun z => heq (by rw [nI_eq (by omega) (by omega)] at z; exact z)), if_pos rfl, pp_in (by omega) (by decide), if_pos rfl, nI_clamp (by omega), pp_let, pp_let]
        have hup := pp_cn_up f (b := r) (y - r)
        rw [show r + (y - r) = y by omega] at hup
        have h3' : (if f.testBit r = true then pp_cn f r < p else pp_cn f r ≤ p) := by
          cases hf : f.testBit r with
          | true =>
            rw [if_pos rfl]
            have := pp_cn_in (u := f) (show r < y by omega) hf
            omega
          | false =>
            rw [if_neg (by decide)]
            omega
        rcases ih (mm_setA M 129 (p + 1) (nI y)) (by omega) (fun x hx hfx hl => by
            rw [pp_sa, if_neg (fun z => by omega)]
            exact h1 x hx hfx (by omega)) (fun x hx hfx hl => by
            rw [pp_sa]
            by_cases e : pp_cn f x = p
            · have : x = y := by
                rw [← nf2_e hx hfx e, nf2_e n1 n2 n3]
              rw [if_pos ⟨rfl, by omega⟩, this]
            · rw [if_neg (fun z => by omega)]
              exact h2 x hx hfx (by omega)) h3' g with ⟨a1, M1, a2, a3⟩ | ⟨a1, M1, a2, a3, a4⟩
        · exact Or.inl ⟨a1, M1, a2, (fr.rf.a (by decide)).tr a3⟩
        · exact Or.inr ⟨a1, M1, a2, a3, (fr.rf.a (by decide)).tr a4⟩
theorem pp_b10 : ∀ c, c < 256 → ((0 ≤ (nI c).toInt8.toInt32.toInt ∧ (nI c).toInt8.toInt32.toInt < 10) ↔ c < 10) ∧ (c < 10 → (nI c).toInt8.toInt32 = nI c) := by decide +kernel
theorem sr_tape (ho : ss_Ok S) (hR : ss_RR S M) (hs : s < 1024) (h5 : S.1 5 = nI s) (hu : u < 1024) (hnr : nr ≤ 10) (h2 : S.1 2 = nI nr) {m : Nat} (hm : m ≤ 6) : (rdt S s u nr m 0 0 = none → ∃ M1, f_R_takesRooms (nI u) (nI m) M = some (false, M1) ∧ fr 129 129 M M1) ∧ (∀ f, rdt S s u nr m 0 0 = some f → ∃ M1, f_R_takesRooms (nI u) (nI m) M = some (true, M1) ∧ fr 129 129 M M1 ∧ ro f M1 ∧ f < 1024 ∧ pp_cn f 10 = m ∧ ∀ x, f.testBit x = true → x < nr) := by
  have fRR : ∀ {M1}, fr 129 129 M M1 → ss_RR S M1 := fun h => ⟨fun q hq => by rw [h.1]; exact hR.1 q hq, fun a ha j hj => by
    have : ∀ a, a < 14 → ss_ra a ≠ 129 := by decide
    rw [h.2.2 _ (by have := this a ha; omega)]; exact hR.2 a ha j hj⟩
  have key : ∀ (q i f : Nat) (M' : mm_M), i + q = m → f < 1024 → pp_cn f 10 = i → ro f M' → (∀ x, f.testBit x = true → x < nr) → fr 129 129 M M' → ∀ g,
      (rdt S s u nr q i f = none ∧ ∃ M1, lp_R_takesRooms_2 (nI u) (nI m) (fun (M_15 : mm_M) => some (false, M_15)) (fun (M_16 : mm_M) => some (false, M_16)) (fun (M_17 : mm_M) => some (false, M_17)) (fun (M_18 : mm_M) => some (true, M_18)) (g + q + 1) (nI i) M' = some (false, M1) ∧ fr 129 129 M M1) ∨
      (∃ f1, rdt S s u nr q i f = some f1 ∧ ∃ M1, lp_R_takesRooms_2 (nI u) (nI m) (fun (M_15 : mm_M) => some (false, M_15)) (fun (M_16 : mm_M) => some (false, M_16)) (fun (M_17 : mm_M) => some (false, M_17)) (fun (M_18 : mm_M) => some (true, M_18)) (g + q + 1) (nI i) M' = some (true, M1) ∧ fr 129 129 M M1 ∧ ro f1 M1 ∧ f1 < 1024 ∧ pp_cn f1 10 = m ∧ ∀ x, f1.testBit x = true → x < nr) := by
    intro q
    induction q with
    | zero =>
      intro i f M' hi hf hc hro hlt hfr g
      have : i = m := by omega
      subst this
      refine Or.inr ⟨f, rfl, M', ?_, hfr, hro, hf, hc, hlt⟩
      rw [show g + 0 + 1 = g + 1 from rfl, lp_R_takesRooms_2, if_pos (nI_le (Nat.le_refl _) (by omega))]
    | succ q ih =>
      intro i f M' hi hf hc hro hlt hfr g
      obtain ⟨e1, e2⟩ := rby_e ho (show i < 200 by omega)
      have hR' := fRR hfr
      have eb : M'.2.1 98 i = (nI (rby S i)).toInt8.toInt32 := by rw [show M'.2.1 98 i = (S.2 0 i).toInt8.toInt32 from hR'.2 0 (by decide) i (show i < 200 by omega), e1]
      obtain ⟨b1, b2⟩ := pp_b10 (rby S i) (by omega)
      rw [show g + (q + 1) + 1 = (g + q + 1) + 1 from rfl, lp_R_takesRooms_2, if_neg (nI_ge (by omega) (by omega)), show mm_bl 98 = 200 from rfl, pp_in (by omega) (by decide), if_pos rfl, nI_clamp (by omega), eb, pp_let, sr_isRoom, pp_bd, show M'.1 97 9 = nI nr from (hR'.1 2 (by decide)).trans h2, nI_toInt (by omega), rdt]
      unfold rgood
      by_cases c1 : rby S i < nr
      · rw [b2 (by omega), nI_toInt (by omega), decide_eq_true (show (0 : Int) ≤ (rby S i : Int) ∧ (rby S i : Int) < (nr : Int) by omega), if_pos rfl, sr_holder hR' hs h5, pp_bd, pp_jn, decide_eq_true c1, Bool.true_and]
        have ins := fun kB => sr_insr (f := f) (r := rby S i) (v1 := nI u) (v2 := nI m) (v3 := nI i) (kA := fun (M_9 : mm_M) => (fun (M_17 : mm_M) => some (false, M_17)) M_9) (kB := kB) (by omega) (by omega) i M' (by omega) (fun x hx hfx _ => hro x hx hfx) (fun x hx hfx hl => by have := pp_cn_in (u := f) hx hfx; omega) (by
          cases hq : f.testBit (rby S i) with
          | true =>
            rw [if_pos rfl]
            have := pp_cn_in (u := f) (show rby S i < 10 by omega) hq
            omega
          | false =>
            rw [if_neg (by decide)]
            have := pp_cn_up f (b := rby S i) (10 - rby S i)
            rw [show rby S i + (10 - rby S i) = 10 by omega] at this
            omega) (4999 - i)
        rw [show 4999 - i + i + 1 = mm_fu from by show _ = 5000; omega] at ins
        have go : hok S s u (rby S i) = true →
            (((if (!(f.testBit (rby S i)) && hok S s u (rby S i)) = true then rdt S s u nr q (i + 1) (f ||| 2 ^ rby S i) else none) = none ∧ ∃ M1, lp_R_takesRooms_54 (nI u) (nI m) (nI i) (nI (rby S i)) (fun (M_9 : mm_M) => (fun (M_17 : mm_M) => some (false, M_17)) M_9) (fun (v6 : Int32) (M_10 : mm_M) => if mm_in v6 (mm_al 129) = true then mm_let (mm_setA M_10 129 (v6.toNatClampNeg) (nI (rby S i))) fun M_11 => mm_let (nI i + 1) fun v3_12 => lp_R_takesRooms_2 (nI u) (nI m) (fun (M_15 : mm_M) => some (false, M_15)) (fun (M_16 : mm_M) => some (false, M_16)) (fun (M_17 : mm_M) => some (false, M_17)) (fun (M_18 : mm_M) => some (true, M_18)) (g + q + 1) v3_12 M_11 else none) mm_fu (nI i) M' = some (false, M1) ∧ fr 129 129 M M1) ∨
            (∃ f1, (if (!(f.testBit (rby S i)) && hok S s u (rby S i)) = true then rdt S s u nr q (i + 1) (f ||| 2 ^ rby S i) else none) = some f1 ∧ ∃ M1, lp_R_takesRooms_54 (nI u) (nI m) (nI i) (nI (rby S i)) (fun (M_9 : mm_M) => (fun (M_17 : mm_M) => some (false, M_17)) M_9) (fun (v6 : Int32) (M_10 : mm_M) => if mm_in v6 (mm_al 129) = true then mm_let (mm_setA M_10 129 (v6.toNatClampNeg) (nI (rby S i))) fun M_11 => mm_let (nI i + 1) fun v3_12 => lp_R_takesRooms_2 (nI u) (nI m) (fun (M_15 : mm_M) => some (false, M_15)) (fun (M_16 : mm_M) => some (false, M_16)) (fun (M_17 : mm_M) => some (false, M_17)) (fun (M_18 : mm_M) => some (true, M_18)) (g + q + 1) v3_12 M_11 else none) mm_fu (nI i) M' = some (true, M1) ∧ fr 129 129 M M1 ∧ ro f1 M1 ∧ f1 < 1024 ∧ pp_cn f1 10 = m ∧ ∀ x, f1.testBit x = true → x < nr)) := fun hk => by
          rcases ins (fun (v6 : Int32) (M_10 : mm_M) => if mm_in v6 (mm_al 129) = true then mm_let (mm_setA M_10 129 (v6.toNatClampNeg) (nI (rby S i))) fun M_11 => mm_let (nI i + 1) fun v3_12 => lp_R_takesRooms_2 (nI u) (nI m) (fun (M_15 : mm_M) => some (false, M_15)) (fun (M_16 : mm_M) => some (false, M_16)) (fun (M_17 : mm_M) => some (false, M_17)) (fun (M_18 : mm_M) => some (true, M_18)) (g + q + 1) v3_12 M_11 else none) with ⟨a1, M1, a2, a3⟩ | ⟨a1, M1, a2, a3, a4⟩
          · rw [a1, Bool.not_true, Bool.false_and, if_neg (by decide)]
            exact Or.inl ⟨rfl, M1, a2, hfr.tr a3⟩
          · have hle : pp_cn f (rby S i) ≤ pp_cn f 10 := by
              have := pp_cn_up f (b := rby S i) (10 - rby S i)
              rw [show rby S i + (10 - rby S i) = 10 by omega] at this
              exact this
            rw [a1, Bool.not_false, Bool.true_and, hk, if_pos rfl, a2, show mm_al 129 = 6 from rfl, pp_in (by omega) (by decide), if_pos rfl, nI_clamp (by omega), pp_let, nI_1, pp_let]
            have hf1 : f ||| 2 ^ rby S i < 1024 := Nat.or_lt_two_pow (n := 10) hf (Nat.pow_lt_pow_right (by decide) (by omega))
            have hc1 : pp_cn (f ||| 2 ^ rby S i) 10 = i + 1 := by rw [cn_or a1, if_pos (by omega), hc]
            have hor : ∀ x, (f ||| 2 ^ rby S i).testBit x = true → f.testBit x = true ∨ x = rby S i := fun x h => by
              rw [Nat.testBit_or, Nat.testBit_two_pow] at h
              simp only [Bool.or_eq_true, decide_eq_true_eq] at h
              exact h.imp id Eq.symm
            have hr1 : pp_cn (f ||| 2 ^ rby S i) (rby S i) = pp_cn f (rby S i) := by rw [cn_or a1, if_neg (Nat.lt_irrefl _), Nat.add_zero]
            refine ih (i + 1) (f ||| 2 ^ rby S i) _ (by omega) hf1 hc1 (fun x hx hfx => ?_) (fun x hx => ?_) ((hfr.tr a4).a (by decide)) g
            · rw [pp_sa]
              by_cases e : x = rby S i
              · rw [e, hr1, if_pos ⟨rfl, rfl⟩]
              · have hfx' := (hor x hfx).resolve_right e
                rw [if_neg (fun z => ?_)]
                · exact a3 x hx hfx'
                · have z2 := z.2
                  rw [← hr1] at z2
                  have t1 : (f ||| 2 ^ rby S i).testBit (rby S i) = true := by rw [Nat.testBit_or, Nat.testBit_two_pow, decide_eq_true rfl, Bool.or_true]
                  exact e (by rw [← nf2_e hx hfx z2, nf2_e (show rby S i < 10 by omega) t1 rfl])
            · rcases hor x hx with z | z
              · exact hlt x z
              · rw [z]; exact c1
        rcases pp_ho_e S s (nI (rby S i)) 10 0 rfl with ho1 | ⟨w, hw, ho1⟩
        · have hk : hok S s u (rby S i) = true := by unfold hok; rw [ho1]; rfl
          rw [if_pos ho1]
          exact go hk
        · have hne : ¬ pp_ho S s (nI (rby S i)) 10 0 = -1 := by rw [ho1]; exact tx_ne (by omega)
          have hkw : hok S s u (rby S i) = u.testBit w := by unfold hok; rw [decide_eq_false hne, Bool.false_or, ho1, pp_has_k (by omega)]
          rw [if_neg hne, ho1, sr_has (by omega) (by omega), pp_bd]
          cases hq : u.testBit w with
          | true =>
            rw [if_pos rfl]
            exact go (hkw.trans hq)
          | false =>
            rw [hkw, hq, Bool.and_false, if_neg (show ¬ false = true by decide), if_neg (show ¬ false = true by decide)]
            exact Or.inl ⟨rfl, M', rfl, hfr⟩
      · have hn : ¬ ((0 : Int) ≤ (nI (rby S i)).toInt8.toInt32.toInt ∧ (nI (rby S i)).toInt8.toInt32.toInt < (nr : Int)) := fun z => by
          have h10 := b1.mp ⟨z.1, by omega⟩
          rw [b2 h10, nI_toInt (by omega)] at z
          omega
        rw [decide_eq_false c1, Bool.false_and, Bool.false_and, decide_eq_false hn, if_neg (show ¬ false = true by decide), if_neg (show ¬ false = true by decide)]
        exact Or.inl ⟨rfl, M', rfl, hfr⟩
  unfold f_R_takesRooms
  have := key m 0 0 M (by omega) (by decide) rfl (fun x _ h => by rw [Nat.zero_testBit] at h; cases h) (fun x h => by rw [Nat.zero_testBit] at h; cases h) fr.rf (4999 - m)
  rw [show 4999 - m + m + 1 = mm_fu from by show _ = 5000; omega] at this
  rcases this with ⟨a1, a2⟩ | ⟨f, a1, a2⟩
  · exact ⟨fun _ => a2, fun f hf => (by rw [a1] at hf; cases hf)⟩
  · exact ⟨fun hn => (by rw [a1] at hn; cases hn), fun f' hf => (by rw [a1] at hf; cases hf; exact a2)⟩
end ROOMS4
