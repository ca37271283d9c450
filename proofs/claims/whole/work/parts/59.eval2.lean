/-! what a law's code comes to, in the class; what a law answers -/
section EVALH
variable {S : ss_S} {C : Nat → Nat × Nat} {φ : Nat → Int32} {M M1 M2 : mm_M}
def ef (M M1 : mm_M) : Prop := M1.2.2 = M.2.2 ∧ (∀ o, o ≠ 45 → M1.2.1 o = M.2.1 o) ∧ ∀ o q, ¬ (o = 37 ∧ (q = 10 ∨ q = 11)) → M1.1 o q = M.1 o q
theorem ef.rf : ef M M := ⟨rfl, fun _ _ => rfl, fun _ _ _ => rfl⟩
theorem ef.tr (h : ef M M1) (h2 : ef M1 M2) : ef M M2 := ⟨h2.1.trans h.1, fun o a => (h2.2.1 o a).trans (h.2.1 o a), fun o q a => (h2.2.2 o q a).trans (h.2.2 o q a)⟩
theorem ef.s (h : ef M M1) {k : Nat} {v : Int32} (hk : k = 10 ∨ k = 11) : ef M (mm_setI M1 37 k v) := ⟨h.1, h.2.1, fun o q ho => by
  rw [← h.2.2 o q ho]
  show (if o = 37 ∧ q = k then v else M1.1 o q) = _
  rw [if_neg (fun e => ho ⟨e.1, by omega⟩)]⟩
theorem ef.a (h : ef M M1) {k : Nat} {v : Int32} : ef M (mm_setA M1 45 k v) := ⟨h.1, fun o a => (ss_seta_ne a).trans (h.2.1 o a), h.2.2⟩
def es (st : List Int32) (M : mm_M) : Prop := M.1 37 10 = nI st.length ∧ M.1 37 11 = 0 ∧ sk 45 st M
theorem sh_pop {x : Int32} {st : List Int32} (hl : st.length < 160) (h : es (x :: st) M) : f_Law_pop_37 M = some (x, mm_setI M 37 10 (nI st.length)) ∧ es st (mm_setI M 37 10 (nI st.length)) := by
  obtain ⟨h1, h2, h3⟩ := h
  rw [List.length_cons] at h1
  have e2 : (mm_setI M 37 10 (nI st.length)).1 37 10 = nI st.length := rfl
  have e3 : (mm_setI M 37 10 (nI st.length)).2.1 45 st.length = x := h3.1
  refine ⟨?_, rfl, h2, h3.2.mv (fun _ _ => rfl)⟩
  unfold f_Law_pop_37
  rw [h1, if_pos (show (1 : Int32) ≤ nI (st.length + 1) from nI_le (a := 1) (by omega) (by omega)), nI_pred, pp_let, e2, show mm_al 45 = 160 from rfl, pp_in hl (by decide), if_pos rfl, nI_clamp (by omega), e3]
theorem sh_push {st : List Int32} (hl : st.length < 160) (h : es st M) (v : Int32) : ∃ M1, f_Law_push_37 v M = some ((), M1) ∧ es (v :: st) M1 ∧ ef M M1 := by
  obtain ⟨h1, h2, h3⟩ := h
  have e2 : (mm_setA M 45 st.length v).1 37 10 = nI st.length := h1
  refine ⟨mm_setI (mm_setA M 45 st.length v) 37 10 (nI (st.length + 1)), ?_, ⟨rfl, h2, (h3.push v).mv (fun _ _ => rfl)⟩, (ef.rf.a).s (Or.inl rfl)⟩
  unfold f_Law_push_37
  rw [h1, if_neg (show ¬ (160 : Int32) ≤ nI st.length from nI_ge (b := 160) hl (by decide)), show mm_al 45 = 160 from rfl, pp_in hl (by decide), if_pos rfl, nI_clamp (by omega), pp_let, e2, nI_1, pp_let]
theorem ch78 : ∀ op, op < 13 → (nI (ch op) = 78 ↔ op = 0) := by decide +kernel
theorem ch76 : ∀ op, op < 13 → (nI (ch op) = 76 ↔ op = 1) := by decide +kernel
theorem ch33 : ∀ op, op < 13 → (nI (ch op) = 33 ↔ op = 10) := by decide +kernel
theorem ch38 : ∀ op, op < 13 → (nI (ch op) = 38 ↔ op = 11) := by decide +kernel
theorem ch124 : ∀ op, op < 13 → (nI (ch op) = 124 ↔ op = 12) := by decide +kernel
theorem ch42 : ∀ op, op < 13 → (nI (ch op) = 42 ↔ op = 4) := by decide +kernel
theorem ch43 : ∀ op, op < 13 → (nI (ch op) = 43 ↔ op = 2) := by decide +kernel
theorem ch45 : ∀ op, op < 13 → (nI (ch op) = 45 ↔ op = 3) := by decide +kernel
theorem ch60 : ∀ op, op < 13 → (nI (ch op) = 60 ↔ op = 7) := by decide +kernel
theorem ch61 : ∀ op, op < 13 → (nI (ch op) = 61 ↔ op = 9) := by decide +kernel
theorem ch62 : ∀ op, op < 13 → (nI (ch op) = 62 ↔ op = 8) := by decide +kernel
theorem ch47 : ∀ op, op < 13 → (nI (ch op) = 47 ↔ op = 5) := by decide +kernel
theorem sh_join (op : Nat) (h : 2 ≤ op ∧ op ≤ 9) (y x : Int32) (M : mm_M) : f_Law_join_37 (nI (ch op)) y x M = if (op = 5 ∨ op = 6) ∧ x = 0 then some (0, mm_setI M 37 11 1) else some (jn op y x, M) := by
  unfold f_Law_join_37 jn
  have ho : op < 13 := by omega
  simp only [ch42 op ho, ch43 op ho, ch45 op ho, ch60 op ho, ch61 op ho, ch62 op ho, ch47 op ho, pp_let]
  by_cases c4 : op = 4
  · subst c4; rfl
  rw [if_neg c4]
  by_cases c2 : op = 2
  · subst c2; rfl
  rw [if_neg c2]
  by_cases c3 : op = 3
  · subst c3; rfl
  rw [if_neg c3]
  by_cases c7 : op = 7
  · subst c7
    rw [if_pos rfl, if_neg (show ¬ ((7 = 5 ∨ 7 = 6) ∧ x = 0) from fun q => by omega)]
    by_cases h : x ≤ y
    · rw [if_pos h]; simp only [if_pos h]; rfl
    · rw [if_neg h]; simp only [if_neg h]; rfl
  rw [if_neg c7]
  by_cases c9 : op = 9
  · subst c9
    rw [if_pos rfl, if_neg (show ¬ ((9 = 5 ∨ 9 = 6) ∧ x = 0) from fun q => by omega)]
    by_cases h : y = x
    · rw [if_pos h]; simp only [if_pos h]; rfl
    · rw [if_neg h]; simp only [if_neg h]; rfl
  rw [if_neg c9]
  by_cases c8 : op = 8
  · subst c8
    rw [if_pos rfl, if_neg (show ¬ ((8 = 5 ∨ 8 = 6) ∧ x = 0) from fun q => by omega)]
    by_cases h : y ≤ x
    · rw [if_pos h]; simp only [if_pos h]; rfl
    · rw [if_neg h]; simp only [if_neg h]; rfl
  rw [if_neg c8]
  have h56 : op = 5 ∨ op = 6 := by omega
  by_cases hx : x = 0
  · rw [if_pos hx, if_pos ⟨h56, hx⟩]
    rfl
  · rw [if_neg hx, if_neg (show ¬ ((op = 5 ∨ op = 6) ∧ x = 0) from fun q => hx q.2)]
    rcases h56 with rfl | rfl
    · rw [if_pos rfl, if_neg hx]; rfl
    · rw [if_neg (by decide), if_neg hx]; rfl
theorem sh_ev {s e c : Nat} (hg : gc C s e) (hec : e ≤ c) {M0 : mm_M} (hC : ∀ i, i < c → M0.2.1 38 i = nI (ch (C i).1) ∧ M0.2.1 39 i = nI (ca C i)) (hφ : ∀ i, i < 9 → M0.2.1 44 i = φ i) : ∀ f G a st M, e < a + f → e < a + G → s ≤ a → a ≤ e → st.length + dp C s = dp C a → ef M0 M → es st M → ∃ M1, lp_Law_reckon_37_12 (nI e) (fun (M_31 : mm_M) => if M_31.1 37 11 = 0 then mm_bd (f_Law_pop_37 M_31) fun r_32 M_33 => some (r_32, M_33) else some (0, M_31)) G (nI a) M = some (ev C φ e f a st, M1) ∧ ef M0 M1 := by
  have he := hg.2.1
  intro f
  induction f with
  | zero => intro G a st M h1 _ _ h2; omega
  | succ f ih =>
    intro G a st M hf hG ha hae hd hfr hsk
    obtain ⟨G, rfl⟩ : ∃ G', G = G' + 1 := ⟨G - 1, by omega⟩
    rw [lp_Law_reckon_37_12, ev]
    by_cases h1 : e ≤ a
    · have : a = e := by omega
      subst this
      rw [if_pos h1, if_pos (nI_le (Nat.le_refl _) (by omega)), if_pos hsk.2.1]
      have hl : st.length = 1 := by have := hg.2.2.1; omega
      obtain ⟨x, rfl⟩ : ∃ x, st = [x] := by
        cases st with
        | nil => cases hl
        | cons x st =>
          cases st with
          | nil => exact ⟨x, rfl⟩
          | cons y st => rw [List.length_cons, List.length_cons] at hl; omega
      obtain ⟨p1, p2⟩ := sh_pop (by decide) hsk
      rw [p1, pp_bd]
      exact ⟨_, rfl, hfr.s (Or.inl rfl)⟩
    · obtain ⟨w1, w2, w3, w4, w5, w6⟩ := hg.2.2.2 a ha (by omega)
      have hdp := dp_s (C := C) (i := a)
      have hle := dp_le C a
      have hc1 : M.2.1 38 a = nI (ch (C a).1) := by rw [hfr.2.1 38 (by decide)]; exact (hC a (by omega)).1
      have hca : ca C a = (C a).2 := by
        unfold ca
        rw [if_neg]
        intro q
        have := (w6 q.1).1
        omega
      have hc2 : M.2.1 39 a = nI (C a).2 := by rw [hfr.2.1 39 (by decide), (hC a (by omega)).2, hca]
      have ho : (C a).1 < 13 := by omega
      rw [if_neg h1, if_neg (nI_ge (by omega) (by omega)), if_pos hsk.2.1, show mm_al 38 = 160 from rfl, show mm_al 39 = 160 from rfl, show mm_al 44 = 9 from rfl, pp_in (by omega) (by decide), if_pos rfl, nI_clamp (by omega), hc1, hc2]
      simp only [pp_let, pp_jn, ch78 _ ho, ch76 _ ho, ch33 _ ho, ch38 _ ho, ch124 _ ho, ↓reduceIte]
      by_cases o0 : (C a).1 = 0
      · simp only [if_pos o0]
        rw [o0, if_pos (by decide)] at hdp
        obtain ⟨M1, u1, u2, u3⟩ := sh_push (by omega) hsk (nI (C a).2)
        rw [u1, pp_bd, nI_1]
        exact ih G (a + 1) (nI (C a).2 :: st) _ (by omega) (by omega) (by omega) (by omega) (by rw [List.length_cons]; omega) (hfr.tr u3) u2
      simp only [if_neg o0]
      by_cases o1 : (C a).1 = 1
      · simp only [if_pos o1]
        rw [o1, if_pos (by decide)] at hdp
        have hl9 := w3 o1
        have hv : M.2.1 44 (C a).2 = φ (C a).2 := by rw [hfr.2.1 44 (by decide)]; exact hφ _ hl9
        obtain ⟨M1, u1, u2, u3⟩ := sh_push (by omega) hsk (φ (C a).2)
        rw [pp_in hl9 (by decide), if_pos rfl, nI_clamp (by omega), hv, u1, pp_bd, nI_1]
        exact ih G (a + 1) (φ (C a).2 :: st) _ (by omega) (by omega) (by omega) (by omega) (by rw [List.length_cons]; omega) (hfr.tr u3) u2
      simp only [if_neg o1]
      have w4' := w4 (by omega)
      cases st with
      | nil => have hd : 0 + dp C s = dp C a := hd; omega
      | cons x st1 =>
        rw [List.length_cons] at hd
        rw [List.headD_cons, List.tail_cons]
        obtain ⟨p1, p2⟩ := sh_pop (by omega) hsk
        have p3 : ef M0 (mm_setI M 37 10 (nI st1.length)) := hfr.s (Or.inl rfl)
        by_cases o10 : (C a).1 = 10
        · simp only [if_pos o10]
          rw [o10, if_neg (by decide), if_pos rfl] at hdp
          obtain ⟨M1, u1, u2, u3⟩ := sh_push (by omega) p2 (1 - x)
          rw [p1, pp_bd, u1, pp_bd, nI_1]
          exact ih G (a + 1) ((1 - x) :: st1) _ (by omega) (by omega) (by omega) (by omega) (by rw [List.length_cons]; omega) (p3.tr u3) u2
        simp only [if_neg o10]
        by_cases o11 : (C a).1 = 11
        · obtain ⟨j1, j2, j3⟩ := w6 (by omega)
          simp only [if_pos o11, if_neg (show ¬ (C a).1 = 12 by omega)]
          rw [p1, pp_bd]
          rw [o11, if_neg (by decide), if_neg (by decide)] at hdp
          by_cases h : x = 0
          · obtain ⟨M1, u1, u2, u3⟩ := sh_push (by omega) p2 x
            have hv : M1.2.1 39 a = nI (C a).2 := by rw [u3.2.1 39 (by decide)]; exact hc2
            rw [if_pos h, if_pos (show x = mm_b false from h), u1, pp_bd, pp_in (by omega) (by decide), if_pos rfl, nI_clamp (by omega), hv, sh_max, pp_bd, show nI (C a).2 - 1 = nI ((C a).2 - 1) from by rw [show (1 : Int32) = nI 1 from rfl, pp_subN (by omega)], pp_mxN (by omega) (by omega), nI_1, show max a ((C a).2 - 1) + 1 = (C a).2 by omega]
            exact ih G (C a).2 (x :: st1) M1 (by omega) (by omega) (by omega) j2 (by rw [List.length_cons, j3]; omega) (p3.tr u3) u2
          · rw [if_neg h, if_neg (show ¬ x = mm_b false from h), nI_1]
            exact ih G (a + 1) st1 _ (by omega) (by omega) (by omega) (by omega) (by omega) p3 p2
        simp only [if_neg o11]
        by_cases o12 : (C a).1 = 12
        · obtain ⟨j1, j2, j3⟩ := w6 (by omega)
          simp only [if_pos o12]
          rw [p1, pp_bd]
          rw [o12, if_neg (by decide), if_neg (by decide)] at hdp
          by_cases h : x = 1
          · obtain ⟨M1, u1, u2, u3⟩ := sh_push (by omega) p2 x
            have hv : M1.2.1 39 a = nI (C a).2 := by rw [u3.2.1 39 (by decide)]; exact hc2
            rw [if_pos h, if_pos (show x = mm_b true from h), u1, pp_bd, pp_in (by omega) (by decide), if_pos rfl, nI_clamp (by omega), hv, sh_max, pp_bd, show nI (C a).2 - 1 = nI ((C a).2 - 1) from by rw [show (1 : Int32) = nI 1 from rfl, pp_subN (by omega)], pp_mxN (by omega) (by omega), nI_1, show max a ((C a).2 - 1) + 1 = (C a).2 by omega]
            exact ih G (C a).2 (x :: st1) M1 (by omega) (by omega) (by omega) j2 (by rw [List.length_cons, j3]; omega) (p3.tr u3) u2
          · rw [if_neg h, if_neg (show ¬ x = mm_b true from h), nI_1]
            exact ih G (a + 1) st1 _ (by omega) (by omega) (by omega) (by omega) (by omega) p3 p2
        simp only [if_neg o12]
        rw [if_neg (by omega), if_neg o10] at hdp
        have w5' := w5 (by omega) (by omega)
        cases st1 with
        | nil => have hd : 0 + 1 + dp C s = dp C a := hd; omega
        | cons y st2 =>
          rw [List.length_cons] at hd
          rw [List.headD_cons, List.tail_cons]
          obtain ⟨r1, r2⟩ := sh_pop (by omega) p2
          have r3 := p3.s (k := 10) (v := nI st2.length) (Or.inl rfl)
          rw [p1, pp_bd, r1, pp_bd, sh_join _ ⟨by omega, by omega⟩]
          by_cases hz : ((C a).1 = 5 ∨ (C a).1 = 6) ∧ x = 0
          · rw [if_pos hz, if_pos hz, pp_bd]
            generalize hMq : mm_setI (mm_setI (mm_setI M 37 10 (nI (y :: st2).length)) 37 10 (nI st2.length)) 37 11 1 = Mq
            have q1 : Mq.1 37 10 = nI st2.length := by rw [← hMq]; exact r2.1
            have q2 : ef M0 Mq := by rw [← hMq]; exact r3.s (Or.inr rfl)
            have q4 : Mq.1 37 11 = 1 := by rw [← hMq]; rfl
            have e2 : (mm_setA Mq 45 st2.length 0).1 37 10 = nI st2.length := q1
            unfold f_Law_push_37
            rw [q1, if_neg (show ¬ (160 : Int32) ≤ nI st2.length from nI_ge (b := 160) (by omega) (by decide)), show mm_al 45 = 160 from rfl, pp_in (by omega) (by decide), if_pos rfl, nI_clamp (by omega), pp_let, e2, nI_1, pp_let, pp_bd, nI_1]
            have q5 : (mm_setI (mm_setA Mq 45 st2.length 0) 37 10 (nI (st2.length + 1))).1 37 11 = 1 := q4
            refine ⟨mm_setI (mm_setA Mq 45 st2.length 0) 37 10 (nI (st2.length + 1)), ?_, (q2.a).s (Or.inl rfl)⟩
            obtain ⟨G, rfl⟩ : ∃ G', G = G' + 1 := ⟨G - 1, by omega⟩
            rw [lp_Law_reckon_37_12, q5, if_neg (show ¬ (1 : Int32) = 0 by decide), if_neg (show ¬ (1 : Int32) = 0 by decide), ite_self]
          · rw [if_neg hz, if_neg hz, pp_bd]
            obtain ⟨M1, u1, u2, u3⟩ := sh_push (by omega) r2 (jn (C a).1 y x)
            rw [u1, pp_bd, nI_1]
            exact ih G (a + 1) (jn (C a).1 y x :: st2) _ (by omega) (by omega) (by omega) (by omega) (by rw [List.length_cons]; omega) (r3.tr u3) u2
/-- what the law answers -/
def cm (hi v : Int32) : Int32 := if 0 ≤ v then if v ≤ hi then v else hi else 0
def an (C : Nat → Nat × Nat) (φ : Nat → Int32) (L : Nat → Nat × Nat × Nat × Nat) (l : Nat) (hi nn : Int32) : Nat → Nat → Int32
  | 0, _ => nn
  | q + 1, i => if (L i).1 = l ∧ ev C φ (L i).2.2.2 161 (L i).2.2.1 [] ≠ 0 then cm hi (ev C φ (L i).2.2.1 161 (L i).2.1 []) else an C φ L l hi nn q (i + 1)
variable {L : Nat → Nat × Nat × Nat × Nat} {k c : Nat}
def lwH (k c : Nat) (C : Nat → Nat × Nat) (L : Nat → Nat × Nat × Nat × Nat) (M : mm_M) : Prop := k ≤ 12 ∧ c ≤ 160 ∧ M.1 37 7 = nI k ∧ (∀ i, i < c → M.2.1 38 i = nI (ch (C i).1) ∧ M.2.1 39 i = nI (ca C i)) ∧ ∀ i, i < k → (M.2.1 40 i = nI (L i).1 ∧ M.2.1 41 i = nI (L i).2.1 ∧ M.2.1 42 i = nI (L i).2.2.1 ∧ M.2.1 43 i = nI (L i).2.2.2) ∧ cl C c (L i)
def lwR (k c : Nat) (C : Nat → Nat × Nat) (L : Nat → Nat × Nat × Nat × Nat) (M : mm_M) : Prop := k ≤ 12 ∧ c ≤ 160 ∧ M.1 97 26 = nI k ∧ (∀ i, i < c → M.2.1 115 i = nI (1048576 * (C i).1 + (C i).2)) ∧ ∀ i, i < k → (M.2.1 116 i = nI (L i).1 ∧ M.2.1 117 i = nI (L i).2.1 ∧ M.2.1 118 i = nI (L i).2.2.1 ∧ M.2.1 119 i = nI (L i).2.2.2) ∧ cl C c (L i)
theorem cl.g1 {x : Nat × Nat × Nat × Nat} (h : cl C c x) (hc : c ≤ 160) : gc C x.2.1 x.2.2.1 := by
  obtain ⟨a1, a2, a3, a4, a5, a6, a7, a8, a9⟩ := h
  exact ⟨a2, by omega, a5, a6⟩
theorem cl.g2 {x : Nat × Nat × Nat × Nat} (h : cl C c x) (hc : c ≤ 160) : gc C x.2.2.1 x.2.2.2 := by
  obtain ⟨a1, a2, a3, a4, a5, a6, a7, a8, a9⟩ := h
  exact ⟨a3, by omega, a7, a8⟩
theorem sh_reckon {s e : Nat} (hg : gc C s e) (hec : e ≤ c) (hC : ∀ i, i < c → M.2.1 38 i = nI (ch (C i).1) ∧ M.2.1 39 i = nI (ca C i)) (hφ : ∀ i, i < 9 → M.2.1 44 i = φ i) : ∃ M1, f_Law_reckon_37 (nI s) (nI e) M = some (ev C φ e 161 s [], M1) ∧ ef M M1 := by
  have he := hg.2.1
  have hs := hg.1
  unfold f_Law_reckon_37
  rw [pp_let, pp_let]
  have hf : ef M (mm_setI (mm_setI M 37 10 0) 37 11 (mm_b false)) := (ef.rf.s (Or.inl rfl)).s (Or.inr rfl)
  exact sh_ev hg hec hC hφ 161 mm_fu s [] _ (by omega) (by show e < s + 5000; omega) (Nat.le_refl _) (by omega) (by show 0 + dp C s = dp C s; omega) hf ⟨rfl, rfl, trivial⟩
theorem sr_comesTo {s e : Nat} (hg : gc C s e) (hc : c ≤ 160) (hec : e ≤ c) (hC : ∀ i, i < c → M.2.1 115 i = nI (1048576 * (C i).1 + (C i).2)) (hφ : ∀ i, i < 9 → M.2.1 121 i = φ i) : ∃ M1, f_R_comesTo (nI s) (nI e) M = some (ev C φ e 161 s [], M1) ∧ fr 120 120 M M1 := by
  have he := hg.2.1
  have hs := hg.1
  unfold f_R_comesTo
  rw [show (180 : Int32) = nI 180 from rfl, pk_div (by omega) (by decide) (by decide), pp_mulN, show 180 * (s / 180) = 0 by omega, pp_let]
  exact sr_ev hg hc hec hC hφ 161 mm_fu s [] M (by omega) (by show e < s + 5000; omega) (Nat.le_refl _) (by omega) (by show 0 + dp C s = dp C s; omega) ⟨rfl, rfl, fun _ _ => rfl⟩ trivial
theorem cm_mx (hi v : Int32) (h : 0 ≤ hi) : pp_mx 0 (pp_mn hi v) = cm hi v := by
  unfold pp_mx pp_mn cm
  rw [ii_le, i_0] at h
  by_cases h1 : v ≤ hi
  · rw [if_pos h1]
  · rw [if_neg h1, if_pos (show (0 : Int32) ≤ hi from by rw [ii_le, i_0]; exact h), if_pos]
    rw [ii_le] at h1 ⊢
    rw [i_0]
    omega
/-- the class's answer -/
theorem sh_answer (hl : lwH k c C L M) (hφ : ∀ i, i < 9 → M.2.1 44 i = φ i) (l : Nat) (hll : l = 112 ∨ l = 109) : ∃ M1, f_Law_answerBy_37 (nI l) M = some (an C φ L l (if l = 112 then 999 else 99) (if l = 112 then 0 else 1) k 0, M1) ∧ ef M M1 := by
  obtain ⟨hk, hc, h7, hC, hL⟩ := hl
  have key : ∀ (hi nn : Int32), 0 ≤ hi → ∀ q i M', i + q = k → ef M M' → ∀ m, ∃ M1, lp_Law_answerBy_37_17 (nI l) hi (fun (v3 : Int32) (M_6 : mm_M) => if mm_in v3 (mm_al 41) = true then if mm_in v3 (mm_al 42) = true then mm_bd (f_Law_reckon_37 (M_6.2.1 41 v3.toNatClampNeg) (M_6.2.1 42 v3.toNatClampNeg) M_6) fun r_7 M_8 => mm_bd (f_Math_min hi r_7 M_8) fun r_9 M_10 => mm_bd (f_Math_max 0 r_9 M_10) fun r_11 M_12 => some (r_11, M_12) else none else none) (fun (M_13 : mm_M) => some (nn, M_13)) (m + q + 1) (nI i) M' = some (an C φ L l hi nn q i, M1) ∧ ef M M1 := by
    intro hi nn hhi q
    induction q with
    | zero =>
      intro i M' hq hf m
      have : i = k := by omega
      subst this
      have e7 : M'.1 37 7 = nI i := by rw [hf.2.2 _ _ (by omega)]; exact h7
      refine ⟨M', ?_, hf⟩
      rw [lp_Law_answerBy_37_17, e7, if_pos (nI_le (Nat.le_refl _) (by omega))]
      rfl
    | succ q ih =>
      intro i M' hq hf m
      have e7 : M'.1 37 7 = nI k := by rw [hf.2.2 _ _ (by omega)]; exact h7
      obtain ⟨⟨a1, a2, a3, a4⟩, a5⟩ := hL i (by omega)
      have b1 : M'.2.1 40 i = nI (L i).1 := by rw [hf.2.1 40 (by decide)]; exact a1
      have b3 : M'.2.1 42 i = nI (L i).2.2.1 := by rw [hf.2.1 42 (by decide)]; exact a3
      have b4 : M'.2.1 43 i = nI (L i).2.2.2 := by rw [hf.2.1 43 (by decide)]; exact a4
      have hC' : ∀ i, i < c → M'.2.1 38 i = nI (ch (C i).1) ∧ M'.2.1 39 i = nI (ca C i) := fun i hi => by rw [hf.2.1 38 (by decide), hf.2.1 39 (by decide)]; exact hC i hi
      have hφ' : ∀ i, i < 9 → M'.2.1 44 i = φ i := fun i hi => by rw [hf.2.1 44 (by decide)]; exact hφ i hi
      rw [show m + (q + 1) + 1 = (m + q + 1) + 1 from rfl, lp_Law_answerBy_37_17, e7, if_neg (nI_ge (by omega) (by omega)), show mm_al 40 = 12 from rfl, show mm_al 41 = 12 from rfl, show mm_al 42 = 12 from rfl, show mm_al 43 = 12 from rfl, pp_in (by omega) (by decide), if_pos rfl, nI_clamp (by omega), b1, b3, b4, pp_jn, if_pos rfl, if_pos rfl, an]
      by_cases hc1 : (L i).1 = l
      · obtain ⟨M2, r1, r2⟩ := sh_reckon (a5.g2 hc) a5.2.2.2.1 hC' hφ'
        rw [if_pos (by rw [hc1]), r1, pp_bd]
        by_cases hz : ev C φ (L i).2.2.2 161 (L i).2.2.1 [] = 0
        · rw [if_pos hz, if_neg (fun q => q.2 hz)]
          dsimp only
          rw [nI_1, pp_let]
          exact ih (i + 1) M2 (by omega) (hf.tr r2) m
        · have hf2 := hf.tr r2
          have b3' : M2.2.1 42 i = nI (L i).2.2.1 := by rw [hf2.2.1 42 (by decide)]; exact a3
          have b2' : M2.2.1 41 i = nI (L i).2.1 := by rw [hf2.2.1 41 (by decide)]; exact a2
          have hC2 : ∀ i, i < c → M2.2.1 38 i = nI (ch (C i).1) ∧ M2.2.1 39 i = nI (ca C i) := fun i hi => by rw [hf2.2.1 38 (by decide), hf2.2.1 39 (by decide)]; exact hC i hi
          have hφ2 : ∀ i, i < 9 → M2.2.1 44 i = φ i := fun i hi => by rw [hf2.2.1 44 (by decide)]; exact hφ i hi
          obtain ⟨M3, s1, s2⟩ := sh_reckon (a5.g1 hc) (by have := a5.2.2.1; have := a5.2.2.2.1; omega) hC2 hφ2
          rw [if_neg hz, if_pos (show (L i).1 = l ∧ ev C φ (L i).2.2.2 161 (L i).2.2.1 [] ≠ 0 from ⟨hc1, hz⟩)]
          try dsimp only
          rw [if_pos rfl, if_pos rfl, b3', b2', s1, pp_bd, sh_min, pp_bd, sh_max, pp_bd, cm_mx hi _ hhi]
          exact ⟨M3, rfl, hf2.tr s2⟩
      · have hne : ¬ nI (L i).1 = nI l := fun q => by
          rw [nI_eq (by have := a5.1; omega) (by omega)] at q
          exact hc1 q
        rw [if_neg hne, if_neg (fun q => hc1 q.1)]
        dsimp only
        rw [nI_1, pp_let]
        exact ih (i + 1) M' (by omega) hf m
  have fin : ∀ (hi nn : Int32), 0 ≤ hi → ∃ M1, lp_Law_answerBy_37_17 (nI l) hi (fun (v3 : Int32) (M_6 : mm_M) => if mm_in v3 (mm_al 41) = true then if mm_in v3 (mm_al 42) = true then mm_bd (f_Law_reckon_37 (M_6.2.1 41 v3.toNatClampNeg) (M_6.2.1 42 v3.toNatClampNeg) M_6) fun r_7 M_8 => mm_bd (f_Math_min hi r_7 M_8) fun r_9 M_10 => mm_bd (f_Math_max 0 r_9 M_10) fun r_11 M_12 => some (r_11, M_12) else none else none) (fun (M_13 : mm_M) => some (nn, M_13)) mm_fu 0 M = some (an C φ L l hi nn k 0, M1) ∧ ef M M1 := fun hi nn hhi => by
    have := key hi nn hhi k 0 M (by omega) ef.rf (4999 - k)
    rw [show 4999 - k + k + 1 = mm_fu from by show _ = 5000; omega] at this
    exact this
  unfold f_Law_answerBy_37
  rw [pp_jn]
  rcases hll with rfl | rfl
  · rw [if_pos rfl, if_pos rfl, if_pos (show nI 112 = 112 from rfl)]
    simp only [show nI 112 = 112 from rfl, ↓reduceIte]
    exact fin 999 0 (by decide)
  · rw [if_neg (show ¬ 109 = 112 by decide), if_neg (show ¬ 109 = 112 by decide), if_neg (show ¬ nI 109 = 112 by decide)]
    simp only [show ¬ nI 109 = 112 from by decide, ↓reduceIte]
    exact fin 99 1 (by decide)
/-- the reference's answer -/
theorem sr_byLaw (hl : lwR k c C L M) (hφ : ∀ i, i < 9 → M.2.1 121 i = φ i) (l : Nat) (hl3 : l < 2 ^ 31) (hi nn : Int32) : ∃ M1, f_R_byLaw (nI l) hi nn M = some (an C φ L l hi nn k 0, M1) ∧ fr 120 120 M M1 := by
  obtain ⟨hk, hc, h7, hC, hL⟩ := hl
  have key : ∀ q i M', i + q = k → fr 120 120 M M' → ∀ m, ∃ M1, lp_R_byLaw_3 (nI l) hi nn (fun (v4 : Int32) (M_5 : mm_M) => if mm_in v4 (mm_al 117) = true then if mm_in v4 (mm_al 118) = true then mm_bd (f_R_comesTo (M_5.2.1 117 v4.toNatClampNeg) (M_5.2.1 118 v4.toNatClampNeg) M_5) fun r_6 M_7 => if 0 ≤ r_6 then if r_6 ≤ hi then some (r_6, M_7) else some (hi, M_7) else some (0, M_7) else none else none) (fun (M_8 : mm_M) => some (nn, M_8)) (m + q + 1) (nI i) M' = some (an C φ L l hi nn q i, M1) ∧ fr 120 120 M M1 := by
    intro q
    induction q with
    | zero =>
      intro i M' hq hf m
      have : i = k := by omega
      subst this
      have e7 : M'.1 97 26 = nI i := by rw [hf.1]; exact h7
      refine ⟨M', ?_, hf⟩
      rw [lp_R_byLaw_3, e7, if_pos (nI_le (Nat.le_refl _) (by omega))]
      rfl
    | succ q ih =>
      intro i M' hq hf m
      have e7 : M'.1 97 26 = nI k := by rw [hf.1]; exact h7
      obtain ⟨⟨a1, a2, a3, a4⟩, a5⟩ := hL i (by omega)
      have b1 : M'.2.1 116 i = nI (L i).1 := by rw [hf.2.2 116 (by decide)]; exact a1
      have b3 : M'.2.1 118 i = nI (L i).2.2.1 := by rw [hf.2.2 118 (by decide)]; exact a3
      have b4 : M'.2.1 119 i = nI (L i).2.2.2 := by rw [hf.2.2 119 (by decide)]; exact a4
      have hC' : ∀ i, i < c → M'.2.1 115 i = nI (1048576 * (C i).1 + (C i).2) := fun i hi => by rw [hf.2.2 115 (by decide)]; exact hC i hi
      have hφ' : ∀ i, i < 9 → M'.2.1 121 i = φ i := fun i hi => by rw [hf.2.2 121 (by decide)]; exact hφ i hi
      rw [show m + (q + 1) + 1 = (m + q + 1) + 1 from rfl, lp_R_byLaw_3, e7, if_neg (nI_ge (by omega) (by omega)), show mm_al 116 = 12 from rfl, show mm_al 117 = 12 from rfl, show mm_al 118 = 12 from rfl, show mm_al 119 = 12 from rfl, pp_in (by omega) (by decide), if_pos rfl, nI_clamp (by omega), b1, b3, b4, pp_jn, if_pos rfl, if_pos rfl, an]
      by_cases hc1 : (L i).1 = l
      · obtain ⟨M2, r1, r2⟩ := sr_comesTo (a5.g2 hc) hc a5.2.2.2.1 hC' hφ'
        have hf2 : fr 120 120 M M2 := ⟨r2.1.trans hf.1, r2.2.1.trans hf.2.1, fun o ho => (r2.2.2 o ho).trans (hf.2.2 o ho)⟩
        have hbl := ev_bool (φ := φ) (a5.g2 hc) a5.2.2.2.2.2.2.2.2 161 (L i).2.2.1 [] (Nat.le_refl _) (by have := a5.2.2.1; omega) (by show 0 + _ = _; omega) (fun q => by omega)
        rw [if_pos (by rw [hc1]), r1, pp_bd]
        by_cases hz : ev C φ (L i).2.2.2 161 (L i).2.2.1 [] = 0
        · rw [hz, if_neg (by decide), if_neg (fun q => q.2 rfl)]
          dsimp only
          rw [nI_1, pp_let]
          exact ih (i + 1) M2 (by omega) hf2 m
        · have h1 := hbl.resolve_left hz
          have b3' : M2.2.1 118 i = nI (L i).2.2.1 := by rw [hf2.2.2 118 (by decide)]; exact a3
          have b2' : M2.2.1 117 i = nI (L i).2.1 := by rw [hf2.2.2 117 (by decide)]; exact a2
          have hC2 : ∀ i, i < c → M2.2.1 115 i = nI (1048576 * (C i).1 + (C i).2) := fun i hi => by rw [hf2.2.2 115 (by decide)]; exact hC i hi
          have hφ2 : ∀ i, i < 9 → M2.2.1 121 i = φ i := fun i hi => by rw [hf2.2.2 121 (by decide)]; exact hφ i hi
          obtain ⟨M3, s1, s2⟩ := sr_comesTo (a5.g1 hc) hc (by have := a5.2.2.1; have := a5.2.2.2.1; omega) hC2 hφ2
          rw [if_pos h1, if_pos (show (L i).1 = l ∧ ev C φ (L i).2.2.2 161 (L i).2.2.1 [] ≠ 0 from ⟨hc1, hz⟩)]
          try dsimp only
          rw [if_pos rfl, if_pos rfl, b3', b2', s1, pp_bd]
          refine ⟨M3, ?_, ⟨s2.1.trans hf2.1, s2.2.1.trans hf2.2.1, fun o ho => (s2.2.2 o ho).trans (hf2.2.2 o ho)⟩⟩
          unfold cm
          split
          · split <;> rfl
          · rfl
      · have hne : ¬ nI (L i).1 = nI l := fun q => by
          rw [nI_eq (by have := a5.1; omega) hl3] at q
          exact hc1 q
        rw [if_neg hne, if_neg (fun q => hc1 q.1)]
        dsimp only
        rw [nI_1, pp_let]
        exact ih (i + 1) M' (by omega) hf m
  unfold f_R_byLaw
  have := key k 0 M (by omega) ⟨rfl, rfl, fun _ _ => rfl⟩ (4999 - k)
  rw [show 4999 - k + k + 1 = mm_fu from by show _ = 5000; omega] at this
  exact this
end EVALH
