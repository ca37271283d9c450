/-! what a law's code comes to -/
section EVAL
variable {S : ss_S} {C : Nat → Nat × Nat} {φ : Nat → Int32} {M M1 M2 : mm_M}
def jn (op : Nat) (y x : Int32) : Int32 := if op = 2 then y + x else if op = 3 then y - x else if op = 4 then y * x else if op = 5 then y / x else if op = 6 then mm_rem y x else if op = 7 then (if x ≤ y then 0 else 1) else if op = 8 then (if y ≤ x then 0 else 1) else if y = x then 1 else 0
def ev (C : Nat → Nat × Nat) (φ : Nat → Int32) (e : Nat) : Nat → Nat → List Int32 → Int32
  | 0, _, _ => 0
  | f + 1, a, st => if e ≤ a then st.headD 0 else if (C a).1 = 0 then ev C φ e f (a + 1) (nI (C a).2 :: st) else if (C a).1 = 1 then ev C φ e f (a + 1) (φ (C a).2 :: st) else if (C a).1 = 10 then ev C φ e f (a + 1) ((1 - st.headD 0) :: st.tail) else if (C a).1 = 11 then (if st.headD 0 = 0 then ev C φ e f (C a).2 st else ev C φ e f (a + 1) st.tail) else if (C a).1 = 12 then (if st.headD 0 = 1 then ev C φ e f (C a).2 st else ev C φ e f (a + 1) st.tail) else if ((C a).1 = 5 ∨ (C a).1 = 6) ∧ st.headD 0 = 0 then 0 else ev C φ e f (a + 1) (jn (C a).1 (st.tail.headD 0) (st.headD 0) :: st.tail.tail)
/-- a piece of code that is good -/
def gc (C : Nat → Nat × Nat) (s e : Nat) : Prop := s < e ∧ e ≤ 160 ∧ dp C e = dp C s + 1 ∧ ∀ i, s ≤ i → i < e → wi C (dp C s) e i
theorem dp_s {i : Nat} : dp C (i + 1) = if (C i).1 ≤ 1 then dp C i + 1 else if (C i).1 = 10 then dp C i else dp C i - 1 := rfl
/-- a condition comes to 0 or 1 -/
theorem ev_bool {s e : Nat} (hg : gc C s e) (hb : bo C e = true) : ∀ f a st, s ≤ a → a ≤ e → st.length + dp C s = dp C a → (s < a → bo C a = true → ∃ x st1, st = x :: st1 ∧ (x = 0 ∨ x = 1)) → ev C φ e f a st = 0 ∨ ev C φ e f a st = 1 := by
  intro f
  induction f with
  | zero => intro a st _ _ _ _; exact Or.inl rfl
  | succ f ih =>
    intro a st ha hae hd hi
    rw [ev]
    by_cases h1 : e ≤ a
    · rw [if_pos h1]
      have : a = e := by omega
      subst this
      obtain ⟨x, st1, rfl, hx⟩ := hi (by have := hg.1; omega) hb
      exact hx
    · rw [if_neg h1]
      obtain ⟨w1, w2, w3, w4, w5, w6⟩ := hg.2.2.2 a ha (by omega)
      have hdp := dp_s (C := C) (i := a)
      have hbo : bo C (a + 1) = (decide (7 ≤ (C a).1 ∧ (C a).1 ≤ 9) || (decide ((C a).1 = 10) && bo C a)) := rfl
      by_cases o0 : (C a).1 = 0
      · rw [if_pos o0]
        rw [o0] at hdp hbo
        exact ih _ _ (by omega) (by omega) (by rw [List.length_cons, hdp, if_pos (by decide)]; omega) (fun _ q => by rw [hbo] at q; exact absurd q (by simp))
      rw [if_neg o0]
      by_cases o1 : (C a).1 = 1
      · rw [if_pos o1]
        rw [o1] at hdp hbo
        exact ih _ _ (by omega) (by omega) (by rw [List.length_cons, hdp, if_pos (by decide)]; omega) (fun _ q => by rw [hbo] at q; exact absurd q (by simp))
      rw [if_neg o1]
      have w4' := w4 (by omega)
      cases st with
      | nil => have hd : 0 + dp C s = dp C a := hd; omega
      | cons x st1 =>
        rw [List.length_cons] at hd
        rw [List.headD_cons, List.tail_cons]
        have hsa : s < a := by
          rcases Nat.lt_or_ge s a with q | q
          · exact q
          · have : a = s := by omega
            subst this
            omega
        by_cases o10 : (C a).1 = 10
        · rw [if_pos o10]
          rw [o10] at hdp hbo
          refine ih _ _ (by omega) (by omega) (by rw [List.length_cons, hdp, if_neg (by decide), if_pos rfl]; omega) (fun _ q => ⟨_, _, rfl, ?_⟩)
          rw [hbo] at q
          have q2 : bo C a = true := by simpa using q
          obtain ⟨x', st1', hq, hx⟩ := hi hsa q2
          cases hq
          rcases hx with rfl | rfl
          · exact Or.inr rfl
          · exact Or.inl rfl
        rw [if_neg o10]
        by_cases o11 : (C a).1 = 11
        · rw [if_pos o11]
          obtain ⟨j1, j2, j3⟩ := w6 (by omega)
          rw [o11, if_neg (by decide), if_neg (by decide)] at hdp
          by_cases hx : x = 0
          · rw [if_pos hx]
            exact ih _ _ (by omega) j2 (by rw [List.length_cons, j3]; omega) (fun _ _ => ⟨_, _, rfl, Or.inl hx⟩)
          · rw [if_neg hx]
            refine ih _ _ (by omega) (by omega) (by rw [hdp]; omega) (fun _ q => ?_)
            rw [hbo, o11] at q
            exact absurd q (by simp)
        rw [if_neg o11]
        by_cases o12 : (C a).1 = 12
        · rw [if_pos o12]
          obtain ⟨j1, j2, j3⟩ := w6 (by omega)
          rw [o12, if_neg (by decide), if_neg (by decide)] at hdp
          by_cases hx : x = 1
          · rw [if_pos hx]
            exact ih _ _ (by omega) j2 (by rw [List.length_cons, j3]; omega) (fun _ _ => ⟨_, _, rfl, Or.inr hx⟩)
          · rw [if_neg hx]
            refine ih _ _ (by omega) (by omega) (by rw [hdp]; omega) (fun _ q => ?_)
            rw [hbo, o12] at q
            exact absurd q (by simp)
        rw [if_neg o12]
        rw [if_neg (by omega), if_neg o10] at hdp
        have w5' := w5 (by omega) (by omega)
        cases st1 with
        | nil => have hd : 0 + 1 + dp C s = dp C a := hd; omega
        | cons y st2 =>
          rw [List.length_cons] at hd
          rw [List.headD_cons, List.tail_cons]
          by_cases hz : ((C a).1 = 5 ∨ (C a).1 = 6) ∧ x = 0
          · rw [if_pos hz]; exact Or.inl rfl
          · rw [if_neg hz]
            refine ih _ _ (by omega) (by omega) (by rw [List.length_cons, hdp]; omega) (fun _ q => ⟨_, _, rfl, ?_⟩)
            rw [hbo, decide_eq_false o10, Bool.false_and, Bool.or_false] at q
            have q2 := of_decide_eq_true q
            unfold jn
            rw [if_neg (by omega), if_neg (by omega), if_neg (by omega), if_neg (by omega), if_neg (by omega)]
            by_cases c7 : (C a).1 = 7
            · rw [if_pos c7]
              by_cases h : x ≤ y
              · rw [if_pos h]; exact Or.inl rfl
              · rw [if_neg h]; exact Or.inr rfl
            · rw [if_neg c7]
              by_cases c8 : (C a).1 = 8
              · rw [if_pos c8]
                by_cases h : y ≤ x
                · rw [if_pos h]; exact Or.inl rfl
                · rw [if_neg h]; exact Or.inr rfl
              · rw [if_neg c8]
                by_cases h : y = x
                · rw [if_pos h]; exact Or.inr rfl
                · rw [if_neg h]; exact Or.inl rfl
/-- a stack in a row -/
def sk (x : Nat) : List Int32 → mm_M → Prop
  | [], _ => True
  | v :: st, M => M.2.1 x st.length = v ∧ sk x st M
theorem sk.mv {x : Nat} {st : List Int32} (h : sk x st M) (hx : ∀ i, i < st.length → M1.2.1 x i = M.2.1 x i) : sk x st M1 := by
  induction st with
  | nil => trivial
  | cons v st ih => exact ⟨by rw [hx _ (by rw [List.length_cons]; omega)]; exact h.1, ih h.2 (fun i hi => hx i (by rw [List.length_cons]; omega))⟩
theorem sk.push {x : Nat} {st : List Int32} (h : sk x st M) (v : Int32) : sk x (v :: st) (mm_setA M x st.length v) := by
  refine ⟨?_, h.mv (fun i hi => ?_)⟩
  · show (if x = x ∧ st.length = st.length then v else _) = v
    rw [if_pos ⟨rfl, rfl⟩]
  · show (if x = x ∧ i = st.length then v else M.2.1 x i) = _
    rw [if_neg (fun q => by omega)]
/-- the reference -/
theorem sr_reckon (op : Nat) (h : 2 ≤ op ∧ op ≤ 9) (y x : Int32) (hz : ¬ ((op = 5 ∨ op = 6) ∧ x = 0)) (M : mm_M) : f_R_reckon (nI op) y x M = some (jn op y x, M) := by
  unfold f_R_reckon jn
  have e : ∀ k, k < 100 → (nI op = nI k ↔ op = k) := fun k hk => nI_eq (by omega) (by omega)
  have e2 : nI op = 2 ↔ op = 2 := e 2 (by decide)
  have e3 : nI op = 3 ↔ op = 3 := e 3 (by decide)
  have e4 : nI op = 4 ↔ op = 4 := e 4 (by decide)
  have e5 : nI op = 5 ↔ op = 5 := e 5 (by decide)
  have e6 : nI op = 6 ↔ op = 6 := e 6 (by decide)
  have e7 : nI op = 7 ↔ op = 7 := e 7 (by decide)
  have e8 : nI op = 8 ↔ op = 8 := e 8 (by decide)
  simp only [e2, e3, e4, e5, e6, e7, e8]
  by_cases c2 : op = 2
  · rw [if_pos c2, if_pos c2]
  rw [if_neg c2, if_neg c2]
  by_cases c3 : op = 3
  · rw [if_pos c3, if_pos c3]
  rw [if_neg c3, if_neg c3]
  by_cases c4 : op = 4
  · rw [if_pos c4, if_pos c4]
  rw [if_neg c4, if_neg c4]
  by_cases c5 : op = 5
  · rw [if_pos c5, if_pos c5, if_neg (fun q => hz ⟨Or.inl c5, q⟩)]
  rw [if_neg c5, if_neg c5]
  by_cases c6 : op = 6
  · rw [if_pos c6, if_pos c6, if_neg (fun q => hz ⟨Or.inr c6, q⟩)]
  rw [if_neg c6, if_neg c6]
  by_cases c7 : op = 7
  · rw [if_pos c7, if_pos c7]
    by_cases h : x ≤ y
    · rw [if_pos h, if_pos h]
    · rw [if_neg h, if_neg h]
  rw [if_neg c7, if_neg c7]
  by_cases c8 : op = 8
  · rw [if_pos c8, if_pos c8]
    by_cases h : y ≤ x
    · rw [if_pos h, if_pos h]
    · rw [if_neg h, if_neg h]
  rw [if_neg c8, if_neg c8]
  by_cases h : y = x
  · rw [if_pos h, if_pos h]
  · rw [if_neg h, if_neg h]
theorem sr_ev {s e c : Nat} (hg : gc C s e) (hc : c ≤ 160) (hec : e ≤ c) {M0 : mm_M} (hC : ∀ i, i < c → M0.2.1 115 i = nI (1048576 * (C i).1 + (C i).2)) (hφ : ∀ i, i < 9 → M0.2.1 121 i = φ i) : ∀ f G a st M, e < a + f → e < a + G → s ≤ a → a ≤ e → st.length + dp C s = dp C a → fr 120 120 M0 M → sk 120 st M → ∃ M1, lp_R_comesTo_16 (nI e) 0 (fun (M_21 : mm_M) => some (0, M_21)) (fun (M_22 : mm_M) => if mm_in 0 (mm_al 120) = true then some (M_22.2.1 120 (0 : Int32).toNatClampNeg, M_22) else none) G (nI st.length) (nI a) M = some (ev C φ e f a st, M1) ∧ fr 120 120 M0 M1 := by
  have he := hg.2.1
  intro f
  induction f with
  | zero => intro G a st M h1 _ _ h2; omega
  | succ f ih =>
    intro G a st M hf hG ha hae hd hfr hsk
    obtain ⟨G, rfl⟩ : ∃ G', G = G' + 1 := ⟨G - 1, by omega⟩
    rw [lp_R_comesTo_16, ev]
    by_cases h1 : e ≤ a
    · have : a = e := by omega
      subst this
      rw [if_pos h1, if_pos (nI_le (Nat.le_refl _) (by omega)), show mm_al 120 = 180 from rfl, show mm_in 0 180 = true from rfl, if_pos rfl]
      have hl : st.length = 1 := by have := hg.2.2.1; omega
      obtain ⟨x, rfl⟩ : ∃ x, st = [x] := by
        cases st with
        | nil => cases hl
        | cons x st =>
          cases st with
          | nil => exact ⟨x, rfl⟩
          | cons y st => rw [List.length_cons, List.length_cons] at hl; omega
      refine ⟨M, ?_, hfr⟩
      have : M.2.1 120 0 = x := hsk.1
      rw [show (0 : Int32).toNatClampNeg = 0 from rfl, this]
      rfl
    · obtain ⟨w1, w2, w3, w4, w5, w6⟩ := hg.2.2.2 a ha (by omega)
      have hdp := dp_s (C := C) (i := a)
      have hle := dp_le C a
      have hcode : M.2.1 115 a = nI (1048576 * (C a).1 + (C a).2) := by rw [hfr.2.2 115 (by decide)]; exact hC a (by omega)
      rw [if_neg h1, if_neg (nI_ge (by omega) (by omega)), show mm_al 115 = 180 from rfl, show mm_al 120 = 180 from rfl, show mm_al 121 = 9 from rfl, pp_in (by omega) (by decide), if_pos rfl, nI_clamp (by omega), hcode, show (1048576 : Int32) = nI 1048576 from rfl, pk_div (by omega) (by decide) (by decide), pp_rem (by omega) (by decide) (by decide), show (1048576 * (C a).1 + (C a).2) / 1048576 = (C a).1 by omega, show (1048576 * (C a).1 + (C a).2) % 1048576 = (C a).2 by omega, nI_1]
      simp only [pp_let, pp_jn]
      have eq : ∀ k, k < 100 → (nI (C a).1 = nI k ↔ (C a).1 = k) := fun k hk => nI_eq (by omega) (by omega)
      have q0 : nI (C a).1 = 0 ↔ (C a).1 = 0 := eq 0 (by decide)
      have q1 : nI (C a).1 = 1 ↔ (C a).1 = 1 := eq 1 (by decide)
      have q10 : nI (C a).1 = 10 ↔ (C a).1 = 10 := eq 10 (by decide)
      have q11 : nI (C a).1 = 11 ↔ (C a).1 = 11 := eq 11 (by decide)
      have q12 : nI (C a).1 = 12 ↔ (C a).1 = 12 := eq 12 (by decide)
      have q5 : nI (C a).1 = 5 ↔ (C a).1 = 5 := eq 5 (by decide)
      have q6 : nI (C a).1 = 6 ↔ (C a).1 = 6 := eq 6 (by decide)
      simp only [q0, q1, q10, q11, q12, q5, q6, if_true]
      by_cases o0 : (C a).1 = 0
      · simp only [if_pos o0]
        rw [o0, if_pos (by decide)] at hdp
        rw [pp_in (by omega) (by decide), if_pos rfl, nI_clamp (by omega), nI_1]
        exact ih G (a + 1) (nI (C a).2 :: st) _ (by omega) (by omega) (by omega) (by omega) (by rw [List.length_cons]; omega) (hfr.a (by decide)) (hsk.push _)
      simp only [if_neg o0]
      by_cases o1 : (C a).1 = 1
      · simp only [if_pos o1]
        rw [o1, if_pos (by decide)] at hdp
        have hl9 := w3 o1
        have hv : M.2.1 121 (C a).2 = φ (C a).2 := by rw [hfr.2.2 121 (by decide)]; exact hφ _ hl9
        rw [pp_in hl9 (by decide), if_pos rfl, pp_in (by omega) (by decide), if_pos rfl, nI_clamp (by omega), nI_clamp (by omega), hv, nI_1]
        exact ih G (a + 1) (φ (C a).2 :: st) _ (by omega) (by omega) (by omega) (by omega) (by rw [List.length_cons]; omega) (hfr.a (by decide)) (hsk.push _)
      simp only [if_neg o1]
      have w4' := w4 (by omega)
      cases st with
      | nil => have hd : 0 + dp C s = dp C a := hd; omega
      | cons x st1 =>
        rw [List.length_cons] at hd ⊢
        have hx : M.2.1 120 st1.length = x := hsk.1
        rw [List.headD_cons, List.tail_cons]
        by_cases o10 : (C a).1 = 10
        · simp only [if_pos o10]
          rw [o10, if_neg (by decide), if_pos rfl] at hdp
          rw [nI_pred, pp_in (by omega) (by decide), if_pos rfl, if_pos rfl, nI_clamp (by omega), hx]
          have hs2 : sk 120 ((1 - x) :: st1) (mm_setA M 120 st1.length (1 - x)) := sk.push hsk.2 _
          exact ih G (a + 1) ((1 - x) :: st1) _ (by omega) (by omega) (by omega) (by omega) (by rw [List.length_cons]; omega) (hfr.a (by decide)) hs2
        simp only [if_neg o10]
        by_cases o11 : (C a).1 = 11
        · obtain ⟨j1, j2, j3⟩ := w6 (by omega)
          simp only [if_pos o11, if_neg (show ¬ (C a).1 = 12 by omega)]
          rw [nI_pred, pp_in (by omega) (by decide), if_pos rfl, nI_clamp (by omega), hx, Int32.zero_add]
          rw [o11, if_neg (by decide), if_neg (by decide)] at hdp
          by_cases h : x = 0
          · rw [if_pos h, if_pos (show x = mm_b false from h)]
            exact ih G (C a).2 (x :: st1) M (by omega) (by omega) (by omega) j2 (by rw [List.length_cons, j3]; omega) hfr hsk
          · rw [if_neg h, if_neg (show ¬ x = mm_b false from h)]
            exact ih G (a + 1) st1 M (by omega) (by omega) (by omega) (by omega) (by omega) hfr hsk.2
        simp only [if_neg o11]
        by_cases o12 : (C a).1 = 12
        · obtain ⟨j1, j2, j3⟩ := w6 (by omega)
          simp only [if_pos o12]
          rw [nI_pred, pp_in (by omega) (by decide), if_pos rfl, nI_clamp (by omega), hx, Int32.zero_add]
          rw [o12, if_neg (by decide), if_neg (by decide)] at hdp
          by_cases h : x = 1
          · rw [if_pos h, if_pos (show x = mm_b true from h)]
            exact ih G (C a).2 (x :: st1) M (by omega) (by omega) (by omega) j2 (by rw [List.length_cons, j3]; omega) hfr hsk
          · rw [if_neg h, if_neg (show ¬ x = mm_b true from h)]
            exact ih G (a + 1) st1 M (by omega) (by omega) (by omega) (by omega) (by omega) hfr hsk.2
        simp only [if_neg o12]
        rw [if_neg (by omega), if_neg o10] at hdp
        have w5' := w5 (by omega) (by omega)
        cases st1 with
        | nil => have hd : 0 + 1 + dp C s = dp C a := hd; omega
        | cons y st2 =>
          rw [List.length_cons] at hd hx ⊢
          have hy : M.2.1 120 st2.length = y := hsk.2.1
          rw [List.headD_cons, List.tail_cons]
          have go : ∀ hz : ¬ (((C a).1 = 5 ∨ (C a).1 = 6) ∧ x = 0), ∃ M1, (mm_bd (f_R_reckon (nI (C a).1) y x M) fun r_16 M_17 => if mm_in (nI st2.length) 180 = true then lp_R_comesTo_16 (nI e) 0 (fun (M_21 : mm_M) => some (0, M_21)) (fun (M_22 : mm_M) => if mm_in 0 180 = true then some (M_22.2.1 120 (0 : Int32).toNatClampNeg, M_22) else none) G (nI (st2.length + 1)) (nI (a + 1)) (mm_setA M_17 120 st2.length r_16) else none) = some (ev C φ e f (a + 1) (jn (C a).1 y x :: st2), M1) ∧ fr 120 120 M0 M1 := fun hz => by
            rw [sr_reckon _ ⟨by omega, by omega⟩ y x hz, pp_bd, pp_in (by omega) (by decide), if_pos rfl]
            exact ih G (a + 1) (jn (C a).1 y x :: st2) _ (by omega) (by omega) (by omega) (by omega) (by rw [List.length_cons]; omega) (hfr.a (by decide)) (sk.push hsk.2.2 _)
          rw [nI_pred, nI_pred, pp_in (show st2.length < 180 by omega) (by decide), pp_in (show st2.length + 1 < 180 by omega) (by decide), nI_clamp (by omega), nI_clamp (by omega), hx, hy]
          simp only [↓reduceIte]
          by_cases hz : ((C a).1 = 5 ∨ (C a).1 = 6) ∧ x = 0
          · rw [if_pos hz]
            refine ⟨M, ?_, hfr⟩
            rcases hz with ⟨q | q, hx0⟩
            · rw [if_pos q, if_pos hx0]
            · rw [if_neg (show ¬ (C a).1 = 5 by omega), if_pos q, if_pos hx0]
          · rw [if_neg hz]
            have gz := go hz
            rw [pp_in (show st2.length < 180 by omega) (by decide)] at gz
            simp only [↓reduceIte] at gz
            by_cases c5 : (C a).1 = 5
            · rw [if_pos c5, if_neg (fun q => hz ⟨Or.inl c5, q⟩)]
              exact gz
            · rw [if_neg c5]
              by_cases c6 : (C a).1 = 6
              · rw [if_pos c6, if_neg (fun q => hz ⟨Or.inr c6, q⟩)]
                exact gz
              · rw [if_neg c6]
                exact gz
end EVAL
