/-! sums, the reference's side -/
section SUMREF
variable {S : ss_S} {n p o c : Nat} {C C1 C2 : Nat → Nat × Nat} {M M1 M2 : mm_M} {ws : List Nat}
def cn (C : Nat → Nat × Nat) (c : Nat) : List Nat → (Nat → Nat × Nat)
  | [] => C
  | x :: pn => cn (cs C c (x, 0)) (c + 1) pn
theorem cn_app (pn : List Nat) (x : Nat) : ∀ C c, cn C c (pn ++ [x]) = cs (cn C c pn) (c + pn.length) (x, 0) := by
  induction pn with
  | nil => intro C c; rfl
  | cons y pn ih => intro C c; rw [List.cons_append, cn, ih, cn, List.length_cons, show c + 1 + pn.length = c + (pn.length + 1) by omega]
theorem tpI_lt {k : Nat} (hk : k < 99) (h : tk ws M) : (tpI ws < nI k ↔ tp ws = 99 ∧ ws = [] ∨ tp ws < k) ∧ (tpI ws ≤ nI k ↔ ws = [] ∨ tp ws ≤ k) := by
  cases ws with
  | nil =>
    refine ⟨⟨fun _ => Or.inl ⟨rfl, rfl⟩, fun _ => ?_⟩, ⟨fun _ => Or.inl rfl, fun _ => ?_⟩⟩
    · rw [ii_lt, nI_toInt (by omega)]; show (-1 : Int) < _; omega
    · rw [ii_le, nI_toInt (by omega)]; show (-1 : Int) ≤ _; omega
  | cons x ws =>
    have hx := h.1.2
    constructor
    · show nI (x / 1048576) < nI k ↔ _ ∨ x / 1048576 < k
      rw [nI_ltI (by omega) (by omega)]
      constructor
      · intro q; exact Or.inr q
      · intro q
        rcases q with q | q
        · cases q.2
        · exact q
    · show nI (x / 1048576) ≤ nI k ↔ _ ∨ x / 1048576 ≤ k
      rw [nI_leI (by omega) (by omega)]
      constructor
      · intro q; exact Or.inr q
      · intro q
        rcases q with q | q
        · cases q
        · exact q
theorem sr_close0 {al : Bool} {k : mm_M → Option (Unit × mm_M)} {j : Nat} (h : lr S n p o ws C c M) (hw : ws.length ≤ 180) (ht : ¬ (4 ≤ tp ws ∧ tp ws ≤ 6)) (ht2 : al = true → ¬ (2 ≤ tp ws ∧ tp ws ≤ 3)) : lp_R_closesSums_0 al k (j + 1) M = k M := by
  have hk := h.2.2.2.2.2
  have e2 : ¬ (al = true ∧ tpI ws = 2) := fun q => ht2 q.1 (by have := (tpI_eq (k := 2) (by decide) hk).mp q.2; omega)
  have e3 : ¬ (al = true ∧ tpI ws = 3) := fun q => ht2 q.1 (by have := (tpI_eq (k := 3) (by decide) hk).mp q.2; omega)
  have hj : (if al = true then (if tpI ws = 2 then (none : Option (Unit × mm_M)) else if tpI ws = 3 then none else k M) else k M) = k M := by
    cases al with
    | false => rfl
    | true => rw [if_pos rfl, if_neg (fun q => e2 ⟨rfl, q⟩), if_neg (fun q => e3 ⟨rfl, q⟩)]
  have hJ : ∀ X : Option (Unit × mm_M), (if al = true then (if tpI ws = 2 then X else if tpI ws = 3 then X else k M) else k M) = k M := fun X => by
    cases al with
    | false => rfl
    | true => rw [if_pos rfl, if_neg (fun q => e2 ⟨rfl, q⟩), if_neg (fun q => e3 ⟨rfl, q⟩)]
  rw [lp_R_closesSums_0]
  simp only [sr_top h hw, pp_bd, pp_jn, hJ]
  by_cases h4 : tpI ws < 4
  · rw [if_pos h4]
  · rw [if_neg h4, if_neg (fun h6 => ?_)]
    have h4' : ¬ _ := fun q => h4 ((tpI_lt (k := 4) (by decide) hk).1.mpr q)
    have h6' := (tpI_lt (k := 6) (by decide) hk).2.mp h6
    rcases h6' with q | q
    · exact h4' (Or.inl ⟨by rw [q]; rfl, q⟩)
    · exact ht ⟨by rcases Nat.lt_or_ge (tp ws) 4 with r | r; exact absurd (Or.inr r) h4'; exact r, q⟩
theorem sr_close1 {al : Bool} {k : mm_M → Option (Unit × mm_M)} {j x : Nat} (h : lr S n p o ((1048576 * x) :: ws) C c M) (hw : ws.length < 180) (hc : c < 180) (hx : 4 ≤ x ∧ x ≤ 6 ∨ al = true ∧ 2 ≤ x ∧ x ≤ 3) : ∃ M1, lp_R_closesSums_0 al k (j + 1) M = lp_R_closesSums_0 al k j M1 ∧ lr S n p o ws (cs C c (x, 0)) (c + 1) M1 ∧ rg M M1 := by
  have ht : tpI ((1048576 * x) :: ws) = nI x := by
    show nI (1048576 * x / 1048576) = nI x
    rw [Nat.mul_div_cancel_left _ (by decide)]
  obtain ⟨M1, g1, g2, g3⟩ := sr_notes h hc (op := x) (a := 0) (v1 := nI x) (v2 := 0) rfl rfl
  have g4 : M1.1 97 24 = nI (ws.length + 1) := g2.2.2.2.2.1
  refine ⟨mm_setI M1 97 24 (nI ws.length), ?_, g2.pop, g3.s (by decide)⟩
  have hJ : ∀ X Y : Option (Unit × mm_M), (if nI x < 4 then (if al = true then (if nI x = 2 then X else if nI x = 3 then X else Y) else Y) else if nI x ≤ 6 then X else (if al = true then (if nI x = 2 then X else if nI x = 3 then X else Y) else Y)) = X := fun X Y => by
    rcases hx with hx | ⟨rfl, hx⟩
    · rw [if_neg (show ¬ nI x < 4 from nI_nlt (b := 4) hx.1 (by omega)), if_pos (show nI x ≤ 6 from nI_le (b := 6) hx.2 (by decide))]
    · rw [if_pos (show nI x < 4 from nI_lt (b := 4) (by omega) (by decide)), if_pos rfl]
      rcases (show x = 2 ∨ x = 3 by omega) with rfl | rfl
      · rw [if_pos (by rfl)]
      · rw [if_neg (by decide), if_pos (by rfl)]
  rw [lp_R_closesSums_0]
  simp only [sr_top h (by rw [List.length_cons]; omega), pp_bd, pp_jn, ht, g1, g4, nI_pred, pp_let, hJ]
theorem sr_closes {al : Bool} {k : mm_M → Option (Unit × mm_M)} (hw : ws.length ≤ 170) (ht : ¬ (4 ≤ tp ws ∧ tp ws ≤ 6)) (ht2 : al = true → ¬ (2 ≤ tp ws ∧ tp ws ≤ 3)) : ∀ (pn : List Nat) (j c : Nat) C M, (∀ x, x ∈ pn → 4 ≤ x ∧ x ≤ 6 ∨ al = true ∧ 2 ≤ x ∧ x ≤ 3) → c + pn.length < 180 → pn.length + ws.length < 180 → lr S n p o (pn.map (1048576 * ·) ++ ws) C c M → ∃ M1, lp_R_closesSums_0 al k (j + pn.length + 1) M = k M1 ∧ lr S n p o ws (cn C c pn) (c + pn.length) M1 ∧ rg M M1 := by
  intro pn
  induction pn with
  | nil => intro j c C M _ _ _ h; exact ⟨M, sr_close0 h (by show ws.length ≤ 180; omega) ht ht2, h, rg.rf⟩
  | cons x pn ih =>
    intro j c C M hp hc hl h
    rw [List.length_cons] at hc hl ⊢
    rw [List.map_cons, List.cons_append] at h
    obtain ⟨M1, g1, g2, g3⟩ := sr_close1 (al := al) (k := k) (j := j + pn.length + 1) h (by rw [List.length_append, List.length_map]; omega) (by omega) (hp x (List.mem_cons_self ..))
    obtain ⟨M2, f1, f2, f3⟩ := ih j (c + 1) _ M1 (fun y hy => hp y (List.mem_cons_of_mem _ hy)) (by omega) (by omega) g2
    refine ⟨M2, ?_, ?_, g3.tr f3⟩
    · rw [show j + (pn.length + 1) + 1 = (j + pn.length + 1) + 1 from rfl, g1, f1]
    · rw [show c + (pn.length + 1) = c + 1 + pn.length by omega]
      exact f2
/-- is a sum open -/
theorem sr_hos_yes {b i0 w : Nat} (hw : M.1 97 24 = nI w) (hw2 : w ≤ 180) (hb : b ≤ i0) (hi : i0 < w) (hv : M.2.1 110 i0 = nI (1048576 * 14)) : f_R_hasOpenSum (nI b) M = some (true, M) := by
  unfold f_R_hasOpenSum
  refine pp_exj (lp := fun m (a : Int32) => lp_R_hasOpenSum_2 (fun (M_2 : mm_M) => some (true, M_2)) (fun (M_3 : mm_M) => some (false, M_3)) m a M) (fun i a => a = nI i) (fun r => r = some (true, M)) b i0 hb (by omega) (fun i a hi2 ha => ?_) (fun a ha m => ?_) (a := nI b) rfl
  · subst ha
    by_cases hc : M.2.1 110 i / 1048576 = 14
    · right
      intro m
      show lp_R_hasOpenSum_2 _ _ (m + 1) (nI i) M = _
      rw [lp_R_hasOpenSum_2, hw, if_neg (nI_ge (by omega) (by omega)), show mm_al 110 = 180 from rfl, pp_in (by omega) (by decide), if_pos rfl, nI_clamp (by omega), if_pos hc]
    · left
      refine ⟨nI (i + 1), rfl, fun m => ?_⟩
      show lp_R_hasOpenSum_2 _ _ (m + 1) (nI i) M = lp_R_hasOpenSum_2 _ _ m (nI (i + 1)) M
      rw [lp_R_hasOpenSum_2, hw, if_neg (nI_ge (by omega) (by omega)), show mm_al 110 = 180 from rfl, pp_in (by omega) (by decide), if_pos rfl, nI_clamp (by omega), if_neg hc, nI_1, pp_let]
  · subst ha
    show lp_R_hasOpenSum_2 _ _ (m + 1) (nI i0) M = _
    rw [lp_R_hasOpenSum_2, hw, if_neg (nI_ge (by omega) (by omega)), show mm_al 110 = 180 from rfl, pp_in (by omega) (by decide), if_pos rfl, nI_clamp (by omega), hv, if_pos (by decide)]
theorem sr_hos_no {b w : Nat} (hw : M.1 97 24 = nI w) (hw2 : w ≤ 180) (hb : b ≤ w) (hv : ∀ i, b ≤ i → i < w → ∃ x, x ≤ 6 ∧ M.2.1 110 i = nI (1048576 * x)) : f_R_hasOpenSum (nI b) M = some (false, M) := by
  unfold f_R_hasOpenSum
  refine pp_exj (lp := fun m (a : Int32) => lp_R_hasOpenSum_2 (fun (M_2 : mm_M) => some (true, M_2)) (fun (M_3 : mm_M) => some (false, M_3)) m a M) (fun i a => b ≤ i ∧ a = nI i) (fun r => r = some (false, M)) b w hb (by omega) (fun i a hi2 ha => ?_) (fun a ha m => ?_) (a := nI b) ⟨Nat.le_refl _, rfl⟩
  · obtain ⟨h1, rfl⟩ := ha
    obtain ⟨x, hx, hv⟩ := hv i h1 hi2
    left
    refine ⟨nI (i + 1), ⟨by omega, rfl⟩, fun m => ?_⟩
    show lp_R_hasOpenSum_2 _ _ (m + 1) (nI i) M = lp_R_hasOpenSum_2 _ _ m (nI (i + 1)) M
    rw [lp_R_hasOpenSum_2, hw, if_neg (nI_ge (by omega) (by omega)), show mm_al 110 = 180 from rfl, pp_in (by omega) (by decide), if_pos rfl, nI_clamp (by omega), hv, show (1048576 : Int32) = nI 1048576 from rfl, pk_div (by omega) (by decide) (by decide), Nat.mul_div_cancel_left _ (by decide), if_neg (fun q => by rw [show (14 : Int32) = nI 14 from rfl, nI_eq (by omega) (by decide)] at q; omega), nI_1, pp_let]
  · obtain ⟨h1, rfl⟩ := ha
    show lp_R_hasOpenSum_2 _ _ (m + 1) (nI w) M = _
    rw [lp_R_hasOpenSum_2, hw, if_pos (nI_le (Nat.le_refl _) (by omega))]
theorem tk_pn : ∀ (pn : List Nat), tk (pn.map (1048576 * ·) ++ ws) M → ∀ i, ws.length ≤ i → i < ws.length + pn.length → ∃ x, x ∈ pn ∧ M.2.1 110 i = nI (1048576 * x) := by
  intro pn
  induction pn with
  | nil => intro _ i h1 h2; have : i < ws.length + 0 := h2; omega
  | cons x pn ih =>
    intro h i h1 h2
    rw [List.map_cons, List.cons_append] at h
    have h3 := h.1.1
    rw [List.length_append, List.length_map] at h3
    rw [List.length_cons] at h2
    by_cases e : i = pn.length + ws.length
    · subst e
      exact ⟨x, List.mem_cons_self .., h3⟩
    · obtain ⟨y, hy, hv⟩ := ih h.2 i h1 (by omega)
      exact ⟨y, List.mem_cons_of_mem _ hy, hv⟩
theorem tk_in : ∀ (pn : List Nat) {x : Nat}, tk (pn ++ x :: ws) M → M.2.1 110 ws.length = nI x := by
  intro pn
  induction pn with
  | nil => intro x h; exact h.1.1
  | cons y pn ih => intro x h; exact ih h.2
/-- signs -/
def sg (c : Nat) : Nat := if c = 43 then 2 else if c = 45 then 3 else if c = 42 then 4 else if c = 47 then 5 else if c = 37 then 6 else 0
def so (v : Int32) : Int32 := if v = 43 then 2 else if v = 45 then 3 else if v = 42 then 4 else if v = 47 then 5 else if v = 37 then 6 else -1
theorem sr_sumSign (v : Int32) (M : mm_M) : f_R_sumSign v M = some (so v, M) := by
  unfold f_R_sumSign so
  repeat' split
  all_goals rfl
theorem sg_so : ∀ c, c < 257 → so (tx_I c) = if sg c = 0 then -1 else nI (sg c) := by decide +kernel
theorem sg_ch : ∀ c, c < 257 → sg c ≠ 0 → ch (sg c) = c ∧ sg c ≤ 6 ∧ 2 ≤ sg c ∧ c < 256 := by decide +kernel
theorem sg_add : ∀ c, c < 257 → (pp_ix [43, 45] c 0 = -1 ↔ ¬ (2 ≤ sg c ∧ sg c ≤ 3)) := by decide +kernel
theorem sg_mul : ∀ c, c < 257 → (pp_ix [42, 47, 37] c 0 = -1 ↔ ¬ (4 ≤ sg c)) := by decide +kernel
def lx (c : Nat) : Nat := if c = 115 then 0 else if c = 114 then 1 else if c = 102 then 2 else if c = 100 then 3 else if c = 99 then 4 else if c = 116 then 5 else if c = 107 then 6 else if c = 110 then 7 else if c = 103 then 8 else 9
def fo (v0 : Int32) : Int32 := if v0 = 99 then 4 else if v0 = 100 then 3 else if v0 = 101 then (-1) else if v0 = 102 then 2 else if v0 = 103 then 8 else if v0 = 104 then (-1) else if v0 = 105 then (-1) else if v0 = 106 then (-1) else if v0 = 107 then 6 else if v0 = 108 then (-1) else if v0 = 109 then (-1) else if v0 = 110 then 7 else if v0 = 111 then (-1) else if v0 = 112 then (-1) else if v0 = 113 then (-1) else if v0 = 114 then 1 else if v0 = 115 then 0 else if v0 = 116 then 5 else (-1)
theorem sr_factOf (v : Int32) (M : mm_M) : f_R_factOf v M = some (fo v, M) := by
  have key : ∀ (k : Int32) (a b : Int32) (x : Option (Int32 × mm_M)), x = some (b, M) → (if v = k then some (a, M) else x) = some (if v = k then a else b, M) := fun k a b x hx => by
    by_cases h : v = k
    · rw [if_pos h, if_pos h]
    · rw [if_neg h, if_neg h, hx]
  unfold f_R_factOf fo
  repeat (refine key _ _ _ _ ?_)
  rfl
theorem lx_fo : ∀ c, c < 257 → fo (tx_I c) = if lx c < 9 then nI (lx c) else -1 := by decide +kernel
theorem lx_ix : ∀ c, c < 257 → pp_ix [115, 114, 102, 100, 99, 116, 107, 110, 103] c 0 = if lx c < 9 then nI (lx c) else -1 := by decide +kernel
theorem lx_no : ∀ c, c < 257 → lx c < 9 → tx_d c = false ∧ c ≠ 91 ∧ c ≠ 256 := by decide +kernel
end SUMREF
