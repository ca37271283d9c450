/-! keep, undo; how many are in a set -/
/-- row y as row x (ten numbers) -/
def pp_cp (M : mm_M) (x y : Nat) : mm_M := (M.1, fun o q => if o = y ∧ q < 10 then M.2.1 x q else M.2.1 o q, M.2.2)
def ss_cp (S : ss_S) (a b : Nat) : ss_S := (S.1, fun i q => if i = b then S.2 a q else S.2 i q)
theorem ss_len10 : ∀ a, 6 ≤ a → a < 14 → ss_len a = 10 := by
  have h : ∀ a, a < 14 → 6 ≤ a → ss_len a = 10 := by decide
  exact fun a h1 h2 => h a h2 h1
theorem ss_RH.cp {S : ss_S} {M : mm_M} (h : ss_RH S M) (a b : Nat) (ha : 6 ≤ a ∧ a < 14) (hb : 6 ≤ b ∧ b < 14) {x y : Nat} (hx : ss_ao a = x) (hy : ss_ao b = y) : ss_RH (ss_cp S a b) (pp_cp M x y) := by
  subst hx; subst hy
  refine ⟨fun i hi => h.1 i hi, fun c hc j hj => ?_⟩
  show (if (ss_ha c j).1 = ss_ao b ∧ (ss_ha c j).2 < 10 then M.2.1 (ss_ao a) (ss_ha c j).2 else M.2.1 (ss_ha c j).1 (ss_ha c j).2) = if c = b then S.2 a j else S.2 c j
  by_cases e : c = b
  · subst e
    have hj10 : j < 10 := by rw [← ss_len10 c hb.1 hb.2]; exact hj
    have e1 : ss_ha c j = (ss_ao c, j) := if_neg (by omega)
    rw [e1, if_pos ⟨rfl, hj10⟩, if_pos rfl]
    have h2 := h.2 a ha.2 j (by rw [ss_len10 a ha.1 ha.2]; exact hj10)
    rw [show ss_ha a j = (ss_ao a, j) from if_neg (by omega)] at h2
    exact h2
  · rw [if_neg e, if_neg, h.2 c hc j hj]
    rintro ⟨e1, e2⟩
    by_cases h1 : c = 1
    · subst h1
      have hj : j < 864 := hj
      have e1 : 6 + j / 72 = ss_ao b := e1
      have := ss_ao_far b hb.2 (by omega)
      omega
    · rw [show ss_ha c j = (ss_ao c, j) from if_neg h1] at e1
      exact e (ss_ao_inj c hc h1 b hb.2 (by omega) e1)
theorem ss_RR.cp {S : ss_S} {M : mm_M} (h : ss_RR S M) (a b : Nat) (ha : 6 ≤ a ∧ a < 14) (hb : 6 ≤ b ∧ b < 14) {x y : Nat} (hx : ss_ra a = x) (hy : ss_ra b = y) : ss_RR (ss_cp S a b) (pp_cp M x y) := by
  subst hx; subst hy
  refine ⟨fun i hi => h.1 i hi, fun c hc j hj => ?_⟩
  show (if ss_ra c = ss_ra b ∧ j < 10 then M.2.1 (ss_ra a) j else M.2.1 (ss_ra c) j) = ss_rv c (if c = b then S.2 a j else S.2 c j)
  by_cases e : c = b
  · subst e
    have hj10 : j < 10 := by rw [← ss_len10 c hb.1 hb.2]; exact hj
    rw [if_pos ⟨rfl, hj10⟩, if_pos rfl, h.2 a ha.2 j (by rw [ss_len10 a ha.1 ha.2]; exact hj10)]
    unfold ss_rv
    rw [if_neg (by omega), if_neg (by omega)]
  · rw [if_neg e, if_neg, h.2 c hc j hj]
    rintro ⟨e1, e2⟩
    exact e (ss_ra_inj c hc b hb.2 e1)
theorem ss_h.cp {M M1 : mm_M} (h : ss_h M M1) {x y : Nat} (hy : y < 97 ∧ (y < 38 ∨ 43 < y)) : ss_h M (pp_cp M1 x y) := by
  refine ⟨fun o ho => ⟨(h.1 o ho).1, ?_, (h.1 o ho).2.2⟩, fun o a b => ?_⟩
  · rw [← (h.1 o ho).2.1]
    funext q
    show (if o = y ∧ q < 10 then M1.2.1 x q else M1.2.1 o q) = _
    rw [if_neg (by omega)]
  · rw [← h.2 o a b]
    funext q
    show (if o = y ∧ q < 10 then M1.2.1 x q else M1.2.1 o q) = _
    rw [if_neg (by omega)]
theorem ss_r.cp {M M1 : mm_M} (h : ss_r M M1) {x y : Nat} (hy : 97 ≤ y ∧ y < 140 ∧ (y < 115 ∨ 119 < y)) : ss_r M (pp_cp M1 x y) := by
  refine ⟨fun o ho => ⟨(h.1 o ho).1, ?_, (h.1 o ho).2.2⟩, fun o a b => ?_⟩
  · rw [← (h.1 o ho).2.1]
    funext q
    show (if o = y ∧ q < 10 then M1.2.1 x q else M1.2.1 o q) = _
    rw [if_neg (by omega)]
  · rw [← h.2 o a b]
    funext q
    show (if o = y ∧ q < 10 then M1.2.1 x q else M1.2.1 o q) = _
    rw [if_neg (by omega)]
theorem ss_Ok.cp {S : ss_S} (h : ss_Ok S) (a b : Nat) (ha : 6 ≤ a ∧ a < 14) (hb : 6 ≤ b ∧ b < 14) (he : ss_lo a = ss_lo b ∧ ss_hi a = ss_hi b) : ss_Ok (ss_cp S a b) := by
  refine ⟨h.1, fun c hc j hj => ?_⟩
  show ss_lo c ≤ (if c = b then S.2 a j else S.2 c j).toInt ∧ (if c = b then S.2 a j else S.2 c j).toInt ≤ ss_hi c
  by_cases e : c = b
  · subst e
    rw [if_pos rfl, ← he.1, ← he.2]
    exact h.2 a ha.2 j (by rw [ss_len10 a ha.1 ha.2, ← ss_len10 c hb.1 hb.2]; exact hj)
  · rw [if_neg e]; exact h.2 c hc j hj
theorem sh_cp (M : mm_M) (x y : Nat) : mm_cp M x y 0 0 10 = pp_cp M x y := by
  unfold mm_cp mm_setR pp_cp
  congr 2
  funext o q
  by_cases e : o = y
  · subst e
    rw [if_pos rfl, show (0 : Int32).toNatClampNeg = 0 from rfl, show (10 : Int32).toNatClampNeg = 10 from rfl]
    by_cases hq : q < 10
    · rw [if_pos ⟨rfl, hq⟩, pk_cpy_in (Nat.zero_le _) (by show q < 0 + 10; omega)]
      simp
    · rw [if_neg (fun z => hq z.2), pk_cpy_out (by right; show 0 + 10 ≤ q; omega)]
  · rw [if_neg e, if_neg (fun z => e z.1)]
theorem sr_copies_105_136 (M : mm_M) : f_R_copies_105_136 M = some ((), pp_cp M 105 136) := by
  have key : ∀ (n i : Nat) (M : mm_M), i ≤ 10 → 10 - i < n → lp_R_copies_105_136_2 (fun (M_3 : mm_M) => some ((), M_3)) n (nI i) M = some ((), (M.1, fun o q => if o = 136 ∧ i ≤ q ∧ q < 10 then M.2.1 105 q else M.2.1 o q, M.2.2)) := by
    intro n
    induction n with
    | zero => intro i M h1 h2; omega
    | succ n ih =>
      intro i M h1 h2
      rw [lp_R_copies_105_136_2]
      by_cases hi : i = 10
      · subst hi
        rw [if_pos (show (10 : Int32) ≤ nI 10 from nI_le (Nat.le_refl 10) (by decide))]
        congr 2
        refine Prod.ext rfl (Prod.ext ?_ rfl)
        funext o q
        show M.2.1 o q = if o = 136 ∧ 10 ≤ q ∧ q < 10 then M.2.1 105 q else M.2.1 o q
        rw [if_neg (by omega)]
      · have hi : i < 10 := by omega
        rw [if_neg (show ¬ (10 : Int32) ≤ nI i from nI_ge hi (by decide)), show mm_al 105 = 10 from rfl, show mm_al 136 = 10 from rfl, pp_in hi (by decide), if_pos rfl, if_pos rfl, pp_let, pp_let, nI_1, nI_clamp (by omega), ih (i + 1) _ (by omega) (by omega)]
        congr 2
        refine Prod.ext rfl (Prod.ext ?_ rfl)
        funext o q
        show (if o = 136 ∧ i + 1 ≤ q ∧ q < 10 then (if 105 = 136 ∧ q = i then M.2.1 105 i else M.2.1 105 q) else (if o = 136 ∧ q = i then M.2.1 105 i else M.2.1 o q)) = if o = 136 ∧ i ≤ q ∧ q < 10 then M.2.1 105 q else M.2.1 o q
        rw [if_neg (show ¬ (105 = 136 ∧ q = i) by omega)]
        by_cases c1 : o = 136 ∧ i + 1 ≤ q ∧ q < 10
        · rw [if_pos c1, if_pos (by omega)]
        · rw [if_neg c1]
          by_cases c2 : o = 136 ∧ q = i
          · rw [if_pos c2, if_pos (by omega), c2.2]
          · rw [if_neg c2, if_neg (by omega)]
  unfold f_R_copies_105_136
  have h := key mm_fu 0 M (by decide) (by decide)
  rw [show nI 0 = 0 from rfl] at h
  rw [h]
  unfold pp_cp
  simp
theorem sr_copies_106_137 (M : mm_M) : f_R_copies_106_137 M = some ((), pp_cp M 106 137) := by
  have key : ∀ (n i : Nat) (M : mm_M), i ≤ 10 → 10 - i < n → lp_R_copies_106_137_2 (fun (M_3 : mm_M) => some ((), M_3)) n (nI i) M = some ((), (M.1, fun o q => if o = 137 ∧ i ≤ q ∧ q < 10 then M.2.1 106 q else M.2.1 o q, M.2.2)) := by
    intro n
    induction n with
    | zero => intro i M h1 h2; omega
    | succ n ih =>
      intro i M h1 h2
      rw [lp_R_copies_106_137_2]
      by_cases hi : i = 10
      · subst hi
        rw [if_pos (show (10 : Int32) ≤ nI 10 from nI_le (Nat.le_refl 10) (by decide))]
        congr 2
        refine Prod.ext rfl (Prod.ext ?_ rfl)
        funext o q
        show M.2.1 o q = if o = 137 ∧ 10 ≤ q ∧ q < 10 then M.2.1 106 q else M.2.1 o q
        rw [if_neg (by omega)]
      · have hi : i < 10 := by omega
        rw [if_neg (show ¬ (10 : Int32) ≤ nI i from nI_ge hi (by decide)), show mm_al 106 = 10 from rfl, show mm_al 137 = 10 from rfl, pp_in hi (by decide), if_pos rfl, if_pos rfl, pp_let, pp_let, nI_1, nI_clamp (by omega), ih (i + 1) _ (by omega) (by omega)]
        congr 2
        refine Prod.ext rfl (Prod.ext ?_ rfl)
        funext o q
        show (if o = 137 ∧ i + 1 ≤ q ∧ q < 10 then (if 106 = 137 ∧ q = i then M.2.1 106 i else M.2.1 106 q) else (if o = 137 ∧ q = i then M.2.1 106 i else M.2.1 o q)) = if o = 137 ∧ i ≤ q ∧ q < 10 then M.2.1 106 q else M.2.1 o q
        rw [if_neg (show ¬ (106 = 137 ∧ q = i) by omega)]
        by_cases c1 : o = 137 ∧ i + 1 ≤ q ∧ q < 10
        · rw [if_pos c1, if_pos (by omega)]
        · rw [if_neg c1]
          by_cases c2 : o = 137 ∧ q = i
          · rw [if_pos c2, if_pos (by omega), c2.2]
          · rw [if_neg c2, if_neg (by omega)]
  unfold f_R_copies_106_137
  have h := key mm_fu 0 M (by decide) (by decide)
  rw [show nI 0 = 0 from rfl] at h
  rw [h]
  unfold pp_cp
  simp
theorem sr_copies_107_138 (M : mm_M) : f_R_copies_107_138 M = some ((), pp_cp M 107 138) := by
  have key : ∀ (n i : Nat) (M : mm_M), i ≤ 10 → 10 - i < n → lp_R_copies_107_138_2 (fun (M_3 : mm_M) => some ((), M_3)) n (nI i) M = some ((), (M.1, fun o q => if o = 138 ∧ i ≤ q ∧ q < 10 then M.2.1 107 q else M.2.1 o q, M.2.2)) := by
    intro n
    induction n with
    | zero => intro i M h1 h2; omega
    | succ n ih =>
      intro i M h1 h2
      rw [lp_R_copies_107_138_2]
      by_cases hi : i = 10
      · subst hi
        rw [if_pos (show (10 : Int32) ≤ nI 10 from nI_le (Nat.le_refl 10) (by decide))]
        congr 2
        refine Prod.ext rfl (Prod.ext ?_ rfl)
        funext o q
        show M.2.1 o q = if o = 138 ∧ 10 ≤ q ∧ q < 10 then M.2.1 107 q else M.2.1 o q
        rw [if_neg (by omega)]
      · have hi : i < 10 := by omega
        rw [if_neg (show ¬ (10 : Int32) ≤ nI i from nI_ge hi (by decide)), show mm_al 107 = 10 from rfl, show mm_al 138 = 10 from rfl, pp_in hi (by decide), if_pos rfl, if_pos rfl, pp_let, pp_let, nI_1, nI_clamp (by omega), ih (i + 1) _ (by omega) (by omega)]
        congr 2
        refine Prod.ext rfl (Prod.ext ?_ rfl)
        funext o q
        show (if o = 138 ∧ i + 1 ≤ q ∧ q < 10 then (if 107 = 138 ∧ q = i then M.2.1 107 i else M.2.1 107 q) else (if o = 138 ∧ q = i then M.2.1 107 i else M.2.1 o q)) = if o = 138 ∧ i ≤ q ∧ q < 10 then M.2.1 107 q else M.2.1 o q
        rw [if_neg (show ¬ (107 = 138 ∧ q = i) by omega)]
        by_cases c1 : o = 138 ∧ i + 1 ≤ q ∧ q < 10
        · rw [if_pos c1, if_pos (by omega)]
        · rw [if_neg c1]
          by_cases c2 : o = 138 ∧ q = i
          · rw [if_pos c2, if_pos (by omega), c2.2]
          · rw [if_neg c2, if_neg (by omega)]
  unfold f_R_copies_107_138
  have h := key mm_fu 0 M (by decide) (by decide)
  rw [show nI 0 = 0 from rfl] at h
  rw [h]
  unfold pp_cp
  simp
theorem sr_copies_108_139 (M : mm_M) : f_R_copies_108_139 M = some ((), pp_cp M 108 139) := by
  have key : ∀ (n i : Nat) (M : mm_M), i ≤ 10 → 10 - i < n → lp_R_copies_108_139_2 (fun (M_3 : mm_M) => some ((), M_3)) n (nI i) M = some ((), (M.1, fun o q => if o = 139 ∧ i ≤ q ∧ q < 10 then M.2.1 108 q else M.2.1 o q, M.2.2)) := by
    intro n
    induction n with
    | zero => intro i M h1 h2; omega
    | succ n ih =>
      intro i M h1 h2
      rw [lp_R_copies_108_139_2]
      by_cases hi : i = 10
      · subst hi
        rw [if_pos (show (10 : Int32) ≤ nI 10 from nI_le (Nat.le_refl 10) (by decide))]
        congr 2
        refine Prod.ext rfl (Prod.ext ?_ rfl)
        funext o q
        show M.2.1 o q = if o = 139 ∧ 10 ≤ q ∧ q < 10 then M.2.1 108 q else M.2.1 o q
        rw [if_neg (by omega)]
      · have hi : i < 10 := by omega
        rw [if_neg (show ¬ (10 : Int32) ≤ nI i from nI_ge hi (by decide)), show mm_al 108 = 10 from rfl, show mm_al 139 = 10 from rfl, pp_in hi (by decide), if_pos rfl, if_pos rfl, pp_let, pp_let, nI_1, nI_clamp (by omega), ih (i + 1) _ (by omega) (by omega)]
        congr 2
        refine Prod.ext rfl (Prod.ext ?_ rfl)
        funext o q
        show (if o = 139 ∧ i + 1 ≤ q ∧ q < 10 then (if 108 = 139 ∧ q = i then M.2.1 108 i else M.2.1 108 q) else (if o = 139 ∧ q = i then M.2.1 108 i else M.2.1 o q)) = if o = 139 ∧ i ≤ q ∧ q < 10 then M.2.1 108 q else M.2.1 o q
        rw [if_neg (show ¬ (108 = 139 ∧ q = i) by omega)]
        by_cases c1 : o = 139 ∧ i + 1 ≤ q ∧ q < 10
        · rw [if_pos c1, if_pos (by omega)]
        · rw [if_neg c1]
          by_cases c2 : o = 139 ∧ q = i
          · rw [if_pos c2, if_pos (by omega), c2.2]
          · rw [if_neg c2, if_neg (by omega)]
  unfold f_R_copies_108_139
  have h := key mm_fu 0 M (by decide) (by decide)
  rw [show nI 0 = 0 from rfl] at h
  rw [h]
  unfold pp_cp
  simp
theorem sr_copies_136_105 (M : mm_M) : f_R_copies_136_105 M = some ((), pp_cp M 136 105) := by
  have key : ∀ (n i : Nat) (M : mm_M), i ≤ 10 → 10 - i < n → lp_R_copies_136_105_2 (fun (M_3 : mm_M) => some ((), M_3)) n (nI i) M = some ((), (M.1, fun o q => if o = 105 ∧ i ≤ q ∧ q < 10 then M.2.1 136 q else M.2.1 o q, M.2.2)) := by
    intro n
    induction n with
    | zero => intro i M h1 h2; omega
    | succ n ih =>
      intro i M h1 h2
      rw [lp_R_copies_136_105_2]
      by_cases hi : i = 10
      · subst hi
        rw [if_pos (show (10 : Int32) ≤ nI 10 from nI_le (Nat.le_refl 10) (by decide))]
        congr 2
        refine Prod.ext rfl (Prod.ext ?_ rfl)
        funext o q
        show M.2.1 o q = if o = 105 ∧ 10 ≤ q ∧ q < 10 then M.2.1 136 q else M.2.1 o q
        rw [if_neg (by omega)]
      · have hi : i < 10 := by omega
        rw [if_neg (show ¬ (10 : Int32) ≤ nI i from nI_ge hi (by decide)), show mm_al 136 = 10 from rfl, show mm_al 105 = 10 from rfl, pp_in hi (by decide), if_pos rfl, if_pos rfl, pp_let, pp_let, nI_1, nI_clamp (by omega), ih (i + 1) _ (by omega) (by omega)]
        congr 2
        refine Prod.ext rfl (Prod.ext ?_ rfl)
        funext o q
        show (if o = 105 ∧ i + 1 ≤ q ∧ q < 10 then (if 136 = 105 ∧ q = i then M.2.1 136 i else M.2.1 136 q) else (if o = 105 ∧ q = i then M.2.1 136 i else M.2.1 o q)) = if o = 105 ∧ i ≤ q ∧ q < 10 then M.2.1 136 q else M.2.1 o q
        rw [if_neg (show ¬ (136 = 105 ∧ q = i) by omega)]
        by_cases c1 : o = 105 ∧ i + 1 ≤ q ∧ q < 10
        · rw [if_pos c1, if_pos (by omega)]
        · rw [if_neg c1]
          by_cases c2 : o = 105 ∧ q = i
          · rw [if_pos c2, if_pos (by omega), c2.2]
          · rw [if_neg c2, if_neg (by omega)]
  unfold f_R_copies_136_105
  have h := key mm_fu 0 M (by decide) (by decide)
  rw [show nI 0 = 0 from rfl] at h
  rw [h]
  unfold pp_cp
  simp
theorem sr_copies_137_106 (M : mm_M) : f_R_copies_137_106 M = some ((), pp_cp M 137 106) := by
  have key : ∀ (n i : Nat) (M : mm_M), i ≤ 10 → 10 - i < n → lp_R_copies_137_106_2 (fun (M_3 : mm_M) => some ((), M_3)) n (nI i) M = some ((), (M.1, fun o q => if o = 106 ∧ i ≤ q ∧ q < 10 then M.2.1 137 q else M.2.1 o q, M.2.2)) := by
    intro n
    induction n with
    | zero => intro i M h1 h2; omega
    | succ n ih =>
      intro i M h1 h2
      rw [lp_R_copies_137_106_2]
      by_cases hi : i = 10
      · subst hi
        rw [if_pos (show (10 : Int32) ≤ nI 10 from nI_le (Nat.le_refl 10) (by decide))]
        congr 2
        refine Prod.ext rfl (Prod.ext ?_ rfl)
        funext o q
        show M.2.1 o q = if o = 106 ∧ 10 ≤ q ∧ q < 10 then M.2.1 137 q else M.2.1 o q
        rw [if_neg (by omega)]
      · have hi : i < 10 := by omega
        rw [if_neg (show ¬ (10 : Int32) ≤ nI i from nI_ge hi (by decide)), show mm_al 137 = 10 from rfl, show mm_al 106 = 10 from rfl, pp_in hi (by decide), if_pos rfl, if_pos rfl, pp_let, pp_let, nI_1, nI_clamp (by omega), ih (i + 1) _ (by omega) (by omega)]
        congr 2
        refine Prod.ext rfl (Prod.ext ?_ rfl)
        funext o q
        show (if o = 106 ∧ i + 1 ≤ q ∧ q < 10 then (if 137 = 106 ∧ q = i then M.2.1 137 i else M.2.1 137 q) else (if o = 106 ∧ q = i then M.2.1 137 i else M.2.1 o q)) = if o = 106 ∧ i ≤ q ∧ q < 10 then M.2.1 137 q else M.2.1 o q
        rw [if_neg (show ¬ (137 = 106 ∧ q = i) by omega)]
        by_cases c1 : o = 106 ∧ i + 1 ≤ q ∧ q < 10
        · rw [if_pos c1, if_pos (by omega)]
        · rw [if_neg c1]
          by_cases c2 : o = 106 ∧ q = i
          · rw [if_pos c2, if_pos (by omega), c2.2]
          · rw [if_neg c2, if_neg (by omega)]
  unfold f_R_copies_137_106
  have h := key mm_fu 0 M (by decide) (by decide)
  rw [show nI 0 = 0 from rfl] at h
  rw [h]
  unfold pp_cp
  simp
theorem sr_copies_138_107 (M : mm_M) : f_R_copies_138_107 M = some ((), pp_cp M 138 107) := by
  have key : ∀ (n i : Nat) (M : mm_M), i ≤ 10 → 10 - i < n → lp_R_copies_138_107_2 (fun (M_3 : mm_M) => some ((), M_3)) n (nI i) M = some ((), (M.1, fun o q => if o = 107 ∧ i ≤ q ∧ q < 10 then M.2.1 138 q else M.2.1 o q, M.2.2)) := by
    intro n
    induction n with
    | zero => intro i M h1 h2; omega
    | succ n ih =>
      intro i M h1 h2
      rw [lp_R_copies_138_107_2]
      by_cases hi : i = 10
      · subst hi
        rw [if_pos (show (10 : Int32) ≤ nI 10 from nI_le (Nat.le_refl 10) (by decide))]
        congr 2
        refine Prod.ext rfl (Prod.ext ?_ rfl)
        funext o q
        show M.2.1 o q = if o = 107 ∧ 10 ≤ q ∧ q < 10 then M.2.1 138 q else M.2.1 o q
        rw [if_neg (by omega)]
      · have hi : i < 10 := by omega
        rw [if_neg (show ¬ (10 : Int32) ≤ nI i from nI_ge hi (by decide)), show mm_al 138 = 10 from rfl, show mm_al 107 = 10 from rfl, pp_in hi (by decide), if_pos rfl, if_pos rfl, pp_let, pp_let, nI_1, nI_clamp (by omega), ih (i + 1) _ (by omega) (by omega)]
        congr 2
        refine Prod.ext rfl (Prod.ext ?_ rfl)
        funext o q
        show (if o = 107 ∧ i + 1 ≤ q ∧ q < 10 then (if 138 = 107 ∧ q = i then M.2.1 138 i else M.2.1 138 q) else (if o = 107 ∧ q = i then M.2.1 138 i else M.2.1 o q)) = if o = 107 ∧ i ≤ q ∧ q < 10 then M.2.1 138 q else M.2.1 o q
        rw [if_neg (show ¬ (138 = 107 ∧ q = i) by omega)]
        by_cases c1 : o = 107 ∧ i + 1 ≤ q ∧ q < 10
        · rw [if_pos c1, if_pos (by omega)]
        · rw [if_neg c1]
          by_cases c2 : o = 107 ∧ q = i
          · rw [if_pos c2, if_pos (by omega), c2.2]
          · rw [if_neg c2, if_neg (by omega)]
  unfold f_R_copies_138_107
  have h := key mm_fu 0 M (by decide) (by decide)
  rw [show nI 0 = 0 from rfl] at h
  rw [h]
  unfold pp_cp
  simp
theorem sr_copies_139_108 (M : mm_M) : f_R_copies_139_108 M = some ((), pp_cp M 139 108) := by
  have key : ∀ (n i : Nat) (M : mm_M), i ≤ 10 → 10 - i < n → lp_R_copies_139_108_2 (fun (M_3 : mm_M) => some ((), M_3)) n (nI i) M = some ((), (M.1, fun o q => if o = 108 ∧ i ≤ q ∧ q < 10 then M.2.1 139 q else M.2.1 o q, M.2.2)) := by
    intro n
    induction n with
    | zero => intro i M h1 h2; omega
    | succ n ih =>
      intro i M h1 h2
      rw [lp_R_copies_139_108_2]
      by_cases hi : i = 10
      · subst hi
        rw [if_pos (show (10 : Int32) ≤ nI 10 from nI_le (Nat.le_refl 10) (by decide))]
        congr 2
        refine Prod.ext rfl (Prod.ext ?_ rfl)
        funext o q
        show M.2.1 o q = if o = 108 ∧ 10 ≤ q ∧ q < 10 then M.2.1 139 q else M.2.1 o q
        rw [if_neg (by omega)]
      · have hi : i < 10 := by omega
        rw [if_neg (show ¬ (10 : Int32) ≤ nI i from nI_ge hi (by decide)), show mm_al 139 = 10 from rfl, show mm_al 108 = 10 from rfl, pp_in hi (by decide), if_pos rfl, if_pos rfl, pp_let, pp_let, nI_1, nI_clamp (by omega), ih (i + 1) _ (by omega) (by omega)]
        congr 2
        refine Prod.ext rfl (Prod.ext ?_ rfl)
        funext o q
        show (if o = 108 ∧ i + 1 ≤ q ∧ q < 10 then (if 139 = 108 ∧ q = i then M.2.1 139 i else M.2.1 139 q) else (if o = 108 ∧ q = i then M.2.1 139 i else M.2.1 o q)) = if o = 108 ∧ i ≤ q ∧ q < 10 then M.2.1 139 q else M.2.1 o q
        rw [if_neg (show ¬ (139 = 108 ∧ q = i) by omega)]
        by_cases c1 : o = 108 ∧ i + 1 ≤ q ∧ q < 10
        · rw [if_pos c1, if_pos (by omega)]
        · rw [if_neg c1]
          by_cases c2 : o = 108 ∧ q = i
          · rw [if_pos c2, if_pos (by omega), c2.2]
          · rw [if_neg c2, if_neg (by omega)]
  unfold f_R_copies_139_108
  have h := key mm_fu 0 M (by decide) (by decide)
  rw [show nI 0 = 0 from rfl] at h
  rw [h]
  unfold pp_cp
  simp
/-- how many of the first n are in a set -/
def pp_cn (s : Nat) : Nat → Nat
  | 0 => 0
  | n + 1 => pp_cn s n + s / 2 ^ n % 2
theorem pp_cn_le (s n : Nat) : pp_cn s n ≤ n := by
  induction n with
  | zero => exact Nat.le_refl _
  | succ n ih => have := Nat.mod_lt (s / 2 ^ n) (show 0 < 2 by decide); unfold pp_cn; omega
theorem sr_bits {s : Nat} (hs : s < 2 ^ 31) (M : mm_M) : f_R_bits (nI s) M = some (nI (pp_cn s 12), M) := by
  have key : ∀ (n i : Nat) (M : mm_M), i ≤ 12 → 12 - i < n → lp_R_bits_4 (nI s) (fun (v1 : Int32) (M_3 : mm_M) => some (v1, M_3)) n (nI (pp_cn s i)) (nI i) M = some (nI (pp_cn s 12), M) := by
    intro n
    induction n with
    | zero => intro i M h1 h2; omega
    | succ n ih =>
      intro i M h1 h2
      rw [lp_R_bits_4]
      by_cases hi : i = 12
      · subst hi
        rw [if_pos (show (12 : Int32) ≤ nI 12 from nI_le (Nat.le_refl 12) (by decide))]
      · have hi : i < 12 := by omega
        rw [if_neg (show ¬ (12 : Int32) ≤ nI i from nI_ge hi (by decide)), pp_let, pp_let, nI_1, pp_bit hs (by omega), nI_add]
        exact ih (i + 1) M (by omega) (by omega)
  unfold f_R_bits
  exact key mm_fu 0 M (by decide) (by decide)
def pp_bc (v0 : Int32) : Int32 :=
  let v1 := v0 - (((v0.toUInt32 >>> ((1 : Int32).toUInt32 &&& Int32.toUInt32 31)).toInt32) &&& 1431655765)
  let v2 := (v1 &&& 858993459) + (((v1.toUInt32 >>> ((2 : Int32).toUInt32 &&& Int32.toUInt32 31)).toInt32) &&& 858993459)
  let v3 := (v2 + ((v2.toUInt32 >>> ((4 : Int32).toUInt32 &&& Int32.toUInt32 31)).toInt32)) &&& 252645135
  let v4 := v3 + ((v3.toUInt32 >>> ((8 : Int32).toUInt32 &&& Int32.toUInt32 31)).toInt32)
  let v5 := v4 + ((v4.toUInt32 >>> ((16 : Int32).toUInt32 &&& Int32.toUInt32 31)).toInt32)
  v5 &&& 63
theorem pp_bc_all : ∀ s, s < 1024 → pp_bc (nI s) = nI (pp_cn s 12) := by decide +kernel
theorem sh_bitCount {s : Nat} (hs : s < 1024) (M : mm_M) : f_Integer_bitCount (nI s) M = some (nI (pp_cn s 12), M) := by
  have h : f_Integer_bitCount (nI s) M = some (pp_bc (nI s), M) := rfl
  rw [h, pp_bc_all s hs]
section KEEP
variable {Q : Int32 → (Nat → Nat → Int32) → Prop}
theorem p_keep : ok_keep (ss_I Q) := by
  intro M hI
  obtain ⟨S, hI⟩ := hI
  obtain ⟨ho, hH, hR, -⟩ := id hI
  obtain ⟨s, hs, h5⟩ := ho.n 5 (by decide)
  have hs : (s : Int) ≤ 1023 := hs
  have hk : ss_RH (ss_s (ss_cp (ss_cp (ss_cp (ss_cp (ss_s (ss_s S 8 (S.1 5)) 9 (S.1 6)) 6 10) 7 11) 8 12) 9 13) 7 1) (mm_setI (pp_cp (pp_cp (pp_cp (pp_cp (mm_setI (mm_setI M 32 0 (S.1 5)) 32 5 (S.1 6)) 28 33) 29 34) 30 35) 31 36) 0 5 1) := by
    have h1 := (((hH.cp 6 10 (by decide) (by decide) rfl rfl).cp 7 11 (by decide) (by decide) rfl rfl).cp 8 12 (by decide) (by decide) rfl rfl).cp 9 13 (by decide) (by decide) rfl rfl
    refine ⟨fun k hk => ?_, fun a ha j hj => h1.2 a ha j hj⟩
    match k, hk with
    | 0, _ => exact hH.1 0 (by decide)
    | 1, _ => exact hH.1 1 (by decide)
    | 2, _ => exact hH.1 2 (by decide)
    | 3, _ => exact hH.1 3 (by decide)
    | 4, _ => exact hH.1 4 (by decide)
    | 5, _ => exact hH.1 5 (by decide)
    | 6, _ => exact hH.1 6 (by decide)
    | 7, _ => rfl
    | 8, _ => rfl
    | 9, _ => rfl
    | 10, _ => exact hH.1 10 (by decide)
    | k + 11, hk => omega
  refine ss_go (S' := ss_s (ss_cp (ss_cp (ss_cp (ss_cp (ss_s (ss_s S 8 (S.1 5)) 9 (S.1 6)) 6 10) 7 11) 8 12) 9 13) 7 1) (r := nI (pp_cn s 12)) hI ((((((((ho.s 8 (ho.1 5 (by decide))).s 9 (ho.1 6 (by decide))).cp 6 10 (by decide) (by decide) (by decide)).cp 7 11 (by decide) (by decide) (by decide)).cp 8 12 (by decide) (by decide) (by decide)).cp 9 13 (by decide) (by decide) (by decide)).s 7 (by decide))) rfl
    ⟨mm_setI (pp_cp (pp_cp (pp_cp (pp_cp (mm_setI (mm_setI M 32 0 (S.1 5)) 32 5 (S.1 6)) 28 33) 29 34) 30 35) 31 36) 0 5 1, ?_, hk, ((((((ss_h.rf.s (by decide)).s (by decide)).cp (by decide)).cp (by decide)).cp (by decide)).cp (by decide)).s (by decide)⟩
    (fun M1 hR1 => ?_)
  · have e0 : M.1 27 0 = S.1 5 := hH.1 5 (by decide)
    have e1 : M.1 27 5 = S.1 6 := hH.1 6 (by decide)
    have e2 : (mm_setI M 32 0 (S.1 5)).1 27 5 = S.1 6 := e1
    simp only [f_H_keep, f_Register_copyFrom_32_27, e0, pp_let, e2, show mm_cpok 28 33 0 0 10 = true from rfl, show mm_cpok 29 34 0 0 10 = true from rfl, show mm_cpok 30 35 0 0 10 = true from rfl, show mm_cpok 31 36 0 0 10 = true from rfl, if_pos, sh_cp, pp_bd]
    have e3 : (mm_setI (pp_cp (pp_cp (pp_cp (pp_cp (mm_setI (mm_setI M 32 0 (S.1 5)) 32 5 (S.1 6)) 28 33) 29 34) 30 35) 31 36) 0 5 (mm_b true)).1 27 0 = nI s := e0.trans h5
    rw [e3, sh_bitCount (by omega), pp_bd]
    rfl
  · refine ⟨pp_cp (pp_cp (pp_cp (pp_cp (mm_setI (mm_setI (mm_setI M1 97 61 1) 97 62 (S.1 5)) 97 63 (S.1 6)) 105 136) 106 137) 107 138) 108 139, ?_, ?_, ((((((ss_r.rf.s (by decide)).s (by decide)).s (by decide)).cp (by decide)).cp (by decide)).cp (by decide)).cp (by decide)⟩
    · have e0 : (mm_setI M1 97 61 1).1 97 12 = S.1 5 := hR1.1 5 (by decide)
      have e1 : (mm_setI (mm_setI M1 97 61 1) 97 62 (S.1 5)).1 97 13 = S.1 6 := hR1.1 6 (by decide)
      have e2 : (mm_b true) = 1 := rfl
      simp only [f_R_keep, e2, pp_let, e0, e1, sr_copies_105_136, sr_copies_106_137, sr_copies_107_138, sr_copies_108_139, pp_bd]
      have e3 : (pp_cp (pp_cp (pp_cp (pp_cp (mm_setI (mm_setI (mm_setI M1 97 61 1) 97 62 (S.1 5)) 97 63 (S.1 6)) 105 136) 106 137) 107 138) 108 139).1 97 12 = nI s := e0.trans h5
      rw [e3, sr_bits (by omega), pp_bd]
    · have h1 := ((((((hR1.s 7 (by decide) rfl 1).s 8 (by decide) rfl (S.1 5)).s 9 (by decide) rfl (S.1 6)).cp 6 10 (by decide) (by decide) rfl rfl).cp 7 11 (by decide) (by decide) rfl rfl).cp 8 12 (by decide) (by decide) rfl rfl).cp 9 13 (by decide) (by decide) rfl rfl
      refine ⟨fun k hk => (h1.1 k hk).trans ?_, fun a ha j hj => h1.2 a ha j hj⟩
      show (if k = 9 then S.1 6 else if k = 8 then S.1 5 else if k = 7 then 1 else S.1 k) = if k = 7 then 1 else if k = 9 then S.1 6 else if k = 8 then S.1 5 else S.1 k
      by_cases k7 : k = 7
      · subst k7; rfl
      · simp [k7]
theorem p_undo : ok_undo (ss_I Q) := by
  intro M hI
  obtain ⟨S, hI⟩ := hI
  obtain ⟨ho, hH, hR, -⟩ := id hI
  by_cases hk : S.1 7 = 0
  · refine ss_same (r := false) hI ⟨M, ?_, hH, ss_h.rf⟩ (fun M1 hR1 => ⟨M1, ?_, hR1, ss_r.rf⟩)
    · have e : M.1 0 5 = 0 := (hH.1 7 (by decide)).trans hk
      unfold f_H_undo
      rw [if_pos e]
    · have e : M1.1 97 61 = 0 := (hR1.1 7 (by decide)).trans hk
      unfold f_R_undo
      rw [if_pos e]
  · refine ss_go (S' := ss_cp (ss_cp (ss_cp (ss_cp (ss_s (ss_s S 5 (S.1 8)) 6 (S.1 9)) 10 6) 11 7) 12 8) 13 9) (r := true) hI (((((((ho.s 5 (ho.1 8 (by decide))).s 6 (ho.1 9 (by decide))).cp 10 6 (by decide) (by decide) (by decide)).cp 11 7 (by decide) (by decide) (by decide)).cp 12 8 (by decide) (by decide) (by decide)).cp 13 9 (by decide) (by decide) (by decide))) rfl
      ⟨pp_cp (pp_cp (pp_cp (pp_cp (mm_setI (mm_setI M 27 0 (S.1 8)) 27 5 (S.1 9)) 33 28) 34 29) 35 30) 36 31, ?_, (((((hH.s 5 (by decide) rfl _).s 6 (by decide) rfl _).cp 10 6 (by decide) (by decide) rfl rfl).cp 11 7 (by decide) (by decide) rfl rfl).cp 12 8 (by decide) (by decide) rfl rfl).cp 13 9 (by decide) (by decide) rfl rfl, (((((ss_h.rf.s (by decide)).s (by decide)).cp (by decide)).cp (by decide)).cp (by decide)).cp (by decide)⟩
      (fun M1 hR1 => ⟨pp_cp (pp_cp (pp_cp (pp_cp (mm_setI (mm_setI M1 97 12 (S.1 8)) 97 13 (S.1 9)) 136 105) 137 106) 138 107) 139 108, ?_, (((((hR1.s 5 (by decide) rfl _).s 6 (by decide) rfl _).cp 10 6 (by decide) (by decide) rfl rfl).cp 11 7 (by decide) (by decide) rfl rfl).cp 12 8 (by decide) (by decide) rfl rfl).cp 13 9 (by decide) (by decide) rfl rfl, (((((ss_r.rf.s (by decide)).s (by decide)).cp (by decide)).cp (by decide)).cp (by decide)).cp (by decide)⟩)
    · have e : M.1 0 5 = S.1 7 := hH.1 7 (by decide)
      have e0 : M.1 32 0 = S.1 8 := hH.1 8 (by decide)
      have e2 : (mm_setI M 27 0 (S.1 8)).1 32 5 = S.1 9 := (hH.1 9 (by decide)).trans (by unfold ss_sk; rw [if_pos rfl, if_neg hk])
      simp only [f_H_undo, e, if_neg hk, f_Register_copyFrom_27_32, e0, pp_let, e2, show mm_cpok 33 28 0 0 10 = true from rfl, show mm_cpok 34 29 0 0 10 = true from rfl, show mm_cpok 35 30 0 0 10 = true from rfl, show mm_cpok 36 31 0 0 10 = true from rfl, if_pos, sh_cp, pp_bd]
    · have e : M1.1 97 61 = S.1 7 := hR1.1 7 (by decide)
      have e0 : M1.1 97 62 = S.1 8 := hR1.1 8 (by decide)
      have e1 : (mm_setI M1 97 12 (S.1 8)).1 97 63 = S.1 9 := hR1.1 9 (by decide)
      simp only [f_R_undo, e, if_neg hk, pp_let, e0, e1, sr_copies_136_105, sr_copies_137_106, sr_copies_138_107, sr_copies_139_108, pp_bd]
end KEEP
