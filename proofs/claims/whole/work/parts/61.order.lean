/-! in which order stays are served -/
section ORDER
variable {S : ss_S} {k c : Nat} {C : Nat → Nat × Nat} {L : Nat → Nat × Nat × Nat × Nat} {M M1 M2 : mm_M}
def vf (M M1 : mm_M) : Prop := M1.2.2 = M.2.2 ∧ (∀ o, (o < 44 ∨ 45 < o) → (o < 74 ∨ 92 < o) → M1.2.1 o = M.2.1 o) ∧ ∀ o q, ¬ (o = 37 ∧ (q = 10 ∨ q = 11)) → o ≠ 73 → M1.1 o q = M.1 o q
def vg (M M1 : mm_M) : Prop := M1.2.2 = M.2.2 ∧ (∀ o, (o < 120 ∨ 127 < o) → M1.2.1 o = M.2.1 o) ∧ ∀ o q, ¬ (o = 97 ∧ 46 ≤ q ∧ q ≤ 49) → M1.1 o q = M.1 o q
theorem vf.rf : vf M M := ⟨rfl, fun _ _ _ => rfl, fun _ _ _ _ => rfl⟩
theorem vg.rf : vg M M := ⟨rfl, fun _ _ => rfl, fun _ _ _ => rfl⟩
theorem vf.tr (h : vf M M1) (h2 : vf M1 M2) : vf M M2 := ⟨h2.1.trans h.1, fun o a b => (h2.2.1 o a b).trans (h.2.1 o a b), fun o q a b => (h2.2.2 o q a b).trans (h.2.2 o q a b)⟩
theorem vg.tr (h : vg M M1) (h2 : vg M1 M2) : vg M M2 := ⟨h2.1.trans h.1, fun o a => (h2.2.1 o a).trans (h.2.1 o a), fun o q a => (h2.2.2 o q a).trans (h.2.2 o q a)⟩
theorem af.v (h : af M M1) : vf M M1 := ⟨h.1, fun o a _ => h.2.1 o (by omega) (by omega), fun o q a _ => h.2.2 o q a⟩
theorem fr.v {lo hi : Nat} (h : fr lo hi M M1) (h1 : 120 ≤ lo) (h2 : hi ≤ 127) : vg M M1 := ⟨h.2.1, fun o ho => h.2.2 o (by omega), fun o q _ => by rw [h.1]⟩
theorem fr.w {lo hi : Nat} (h : fr lo hi M M1) (h1 : 74 ≤ lo) (h2 : hi ≤ 92) : vf M M1 := ⟨h.2.1, fun o _ ho => h.2.2 o (by omega), fun o q _ _ => by rw [h.1]⟩
theorem vf.a (h : vf M M1) {x i : Nat} {v : Int32} (hx : 74 ≤ x ∧ x ≤ 92) : vf M (mm_setA M1 x i v) := ⟨h.1, fun o a b => (ss_seta_ne (by omega)).trans (h.2.1 o a b), h.2.2⟩
theorem vg.a (h : vg M M1) {x i : Nat} {v : Int32} (hx : 120 ≤ x ∧ x ≤ 127) : vg M (mm_setA M1 x i v) := ⟨h.1, fun o a => (ss_seta_ne (by omega)).trans (h.2.1 o a), h.2.2⟩
theorem vf.r (h : vf M M1) {x : Nat} {f : Nat → Int32} (hx : 74 ≤ x ∧ x ≤ 92) : vf M (mm_setR M1 x f) := ⟨h.1, fun o a b => (ss_setr_ne (by omega)).trans (h.2.1 o a b), h.2.2⟩
theorem vg.r (h : vg M M1) {x : Nat} {f : Nat → Int32} (hx : 120 ≤ x ∧ x ≤ 127) : vg M (mm_setR M1 x f) := ⟨h.1, fun o a => (ss_setr_ne (by omega)).trans (h.2.1 o a), h.2.2⟩
theorem vf.s (h : vf M M1) {q : Nat} {v : Int32} : vf M (mm_setI M1 73 q v) := ⟨h.1, h.2.1, fun o i a b => by
  rw [← h.2.2 o i a b]
  show (if o = 73 ∧ i = q then v else M1.1 o i) = _
  rw [if_neg (fun e => b e.1)]⟩
theorem vg.s (h : vg M M1) {q : Nat} {v : Int32} (hq : 46 ≤ q ∧ q ≤ 49) : vg M (mm_setI M1 97 q v) := ⟨h.1, h.2.1, fun o i a => by
  rw [← h.2.2 o i a]
  show (if o = 97 ∧ i = q then v else M1.1 o i) = _
  rw [if_neg (fun e => a ⟨e.1, by omega, by omega⟩)]⟩
theorem ss_so_73 : ∀ k, k < 11 → (ss_so k).1 ≠ 73 := by decide
theorem vf.RH (h : vf M M1) (hH : ss_RH S M) : ss_RH S M1 := ⟨fun k hk => by rw [h.2.2 _ _ (ss_so_37 k hk) (ss_so_73 k hk)]; exact hH.1 k hk, fun a ha j hj => by
  have := ss_ha_38 ha hj
  rw [h.2.1 _ (by omega) (by omega)]; exact hH.2 a ha j hj⟩
theorem ss_ro_v : ∀ k, k < 11 → ¬ ((ss_ro k).1 = 97 ∧ 46 ≤ (ss_ro k).2 ∧ (ss_ro k).2 ≤ 49) := by decide
theorem ss_ra_v : ∀ a, a < 14 → ss_ra a < 120 ∨ 127 < ss_ra a := by decide
theorem vg.RR (h : vg M M1) (hR : ss_RR S M) : ss_RR S M1 := ⟨fun k hk => by rw [h.2.2 _ _ (ss_ro_v k hk)]; exact hR.1 k hk, fun a ha j hj => by rw [h.2.1 _ (ss_ra_v a ha)]; exact hR.2 a ha j hj⟩
theorem lwH.v (h : lwH k c C L M) (hf : vf M M1) : lwH k c C L M1 := ⟨h.1, h.2.1, by rw [hf.2.2 _ _ (by omega) (by decide)]; exact h.2.2.1, fun i hi => by rw [hf.2.1 38 (by decide) (by decide), hf.2.1 39 (by decide) (by decide)]; exact h.2.2.2.1 i hi, fun i hi => by rw [hf.2.1 40 (by decide) (by decide), hf.2.1 41 (by decide) (by decide), hf.2.1 42 (by decide) (by decide), hf.2.1 43 (by decide) (by decide)]; exact h.2.2.2.2 i hi⟩
theorem lwR.v (h : lwR k c C L M) (hf : vg M M1) : lwR k c C L M1 := ⟨h.1, h.2.1, by rw [hf.2.2 _ _ (by omega)]; exact h.2.2.1, fun i hi => by rw [hf.2.1 115 (by omega)]; exact h.2.2.2.1 i hi, fun i hi => by rw [hf.2.1 116 (by omega), hf.2.1 117 (by omega), hf.2.1 118 (by omega), hf.2.1 119 (by omega)]; exact h.2.2.2.2 i hi⟩
theorem vf.h (h : vf M M1) : ss_h M M1 := ⟨fun o ho => ⟨by funext q; exact h.2.2 o q (by omega) (by omega), h.2.1 o (by omega) (by omega), by rw [h.1]⟩, fun o _ _ => h.2.1 o (by omega) (by omega)⟩
theorem vg.rr (h : vg M M1) : ss_r M M1 := ⟨fun o ho => ⟨by funext q; exact h.2.2 o q (by omega), h.2.1 o (by omega), by rw [h.1]⟩, fun o _ _ => h.2.1 o (by omega)⟩
/-- b comes into the order, from place q on -/
def io (f : Nat → Int32) (b : Nat) : Nat → (Nat → Nat) → (Nat → Nat)
  | 0, O => fun i => if i = 0 then b else O i
  | q + 1, O => if f (O q) < f b then io f b q (fun i => if i = q + 1 then O q else O i) else fun i => if i = q + 1 then b else O i
theorem io_in {f : Nat → Int32} {b : Nat} {P : Nat → Prop} (hb : P b) {n : Nat} : ∀ q O, q ≤ n → (∀ i, i ≤ n → i ≠ q → P (O i)) → ∀ i, i ≤ n → P (io f b q O i) := by
  intro q
  induction q with
  | zero =>
    intro O _ h i hi
    show P (if i = 0 then b else O i)
    by_cases e : i = 0
    · rw [if_pos e]; exact hb
    · rw [if_neg e]; exact h i hi e
  | succ q ih =>
    intro O hq h i hi
    rw [io]
    by_cases hc : f (O q) < f b
    · rw [if_pos hc]
      refine ih _ (by omega) (fun j hj hjq => ?_) i hi
      by_cases e : j = q + 1
      · rw [if_pos e]; exact h q (by omega) (by omega)
      · rw [if_neg e]; exact h j hj e
    · rw [if_neg hc]
      show P (if i = q + 1 then b else O i)
      by_cases e : i = q + 1
      · rw [if_pos e]; exact hb
      · rw [if_neg e]; exact h i hi e
theorem io_has {f : Nat → Int32} {b t n : Nat} : ∀ q O, q ≤ n → (t = b ∨ ∃ i, i ≤ n ∧ i ≠ q ∧ O i = t) → ∃ i, i ≤ n ∧ io f b q O i = t := by
  intro q
  induction q with
  | zero =>
    intro O _ h
    rcases h with h | ⟨i, h1, h2, h3⟩
    · exact ⟨0, by omega, h.symm⟩
    · exact ⟨i, h1, (if_neg h2).trans h3⟩
  | succ q ih =>
    intro O hq h
    rw [io]
    by_cases hc : f (O q) < f b
    · rw [if_pos hc]
      refine ih _ (by omega) ?_
      rcases h with h | ⟨i, h1, h2, h3⟩
      · exact Or.inl h
      · by_cases e : i = q
        · exact Or.inr ⟨q + 1, hq, by omega, by rw [if_pos rfl, ← e, h3]⟩
        · exact Or.inr ⟨i, h1, e, by rw [if_neg h2, h3]⟩
    · rw [if_neg hc]
      rcases h with h | ⟨i, h1, h2, h3⟩
      · exact ⟨q + 1, hq, by rw [if_pos rfl, h]⟩
      · exact ⟨i, h1, by rw [if_neg h2, h3]⟩
def oo (f : Nat → Int32) (s : Nat) : Nat → Nat × (Nat → Nat)
  | 0 => (0, fun _ => 0)
  | b + 1 => if s.testBit b = true then ((oo f s b).1 + 1, io f b (oo f s b).1 (oo f s b).2) else oo f s b
theorem oo_le (f : Nat → Int32) (s : Nat) : ∀ b, (oo f s b).1 ≤ b := by
  intro b
  induction b with
  | zero => exact Nat.le_refl _
  | succ b ih =>
    rw [oo]
    split
    · show (oo f s b).1 + 1 ≤ b + 1; omega
    · omega
theorem oo_in (f : Nat → Int32) (s : Nat) : ∀ b i, i < (oo f s b).1 → (oo f s b).2 i < b ∧ s.testBit ((oo f s b).2 i) = true := by
  intro b
  induction b with
  | zero => intro i hi; have : i < 0 := hi; omega
  | succ b ih =>
    intro i hi
    rw [oo] at hi ⊢
    by_cases h : s.testBit b = true
    · rw [if_pos h] at hi ⊢
      exact io_in (P := fun x => x < b + 1 ∧ s.testBit x = true) ⟨by omega, h⟩ (n := (oo f s b).1) _ _ (Nat.le_refl _) (fun j hj hne => by have := ih j (by omega); exact ⟨by omega, this.2⟩) i (by have hi : i < (oo f s b).1 + 1 := hi; omega)
    · rw [if_neg h] at hi ⊢
      have := ih i hi
      exact ⟨by omega, this.2⟩
theorem oo_has (f : Nat → Int32) (s : Nat) {t : Nat} (ht : s.testBit t = true) : ∀ b, t < b → ∃ i, i < (oo f s b).1 ∧ (oo f s b).2 i = t := by
  intro b
  induction b with
  | zero => intro h; omega
  | succ b ih =>
    intro hb
    rw [oo]
    by_cases h : s.testBit b = true
    · rw [if_pos h]
      have : t = b ∨ ∃ i, i ≤ (oo f s b).1 ∧ i ≠ (oo f s b).1 ∧ (oo f s b).2 i = t := by
        by_cases e : t = b
        · exact Or.inl e
        · obtain ⟨i, h1, h2⟩ := ih (by omega)
          exact Or.inr ⟨i, by omega, by omega, h2⟩
      obtain ⟨i, h1, h2⟩ := io_has (f := f) (b := b) (n := (oo f s b).1) _ _ (Nat.le_refl _) this
      exact ⟨i, by show i < (oo f s b).1 + 1; omega, h2⟩
    · rw [if_neg h]
      exact ih (by rcases Nat.lt_or_ge t b with q | q; exact q; exact absurd (show s.testBit b = true from by rw [show b = t by omega]; exact ht) h)
theorem sh_ins {f : Nat → Int32} {b n : Nat} (hb : b < 10) (hn : n < 10) {v1 v2 : Int32} {K : Int32 → mm_M → Option (Int32 × mm_M)} : ∀ (q : Nat) (O : Nat → Nat) (M : mm_M), q ≤ n → (∀ i, i ≤ n → i ≠ q → M.2.1 86 i = nI (O i)) → (∀ i, i < q → O i < 10 ∧ M.2.1 87 (O i) = f (O i)) → M.2.1 87 b = f b → ∀ m, ∃ (p : Nat) (O1 : Nat → Nat) (M1 : mm_M), lp_Service_orderStays_66 v1 v2 (nI b) K (m + q + 1) (nI q) M = K (nI p) M1 ∧ p ≤ n ∧ (∀ i, i ≤ n → i ≠ p → M1.2.1 86 i = nI (O1 i)) ∧ io f b q O = (fun i => if i = p then b else O1 i) ∧ fr 86 86 M M1 := by
  intro q
  induction q with
  | zero =>
    intro O M hq h1 h2 h3 m
    refine ⟨0, O, M, ?_, by omega, h1, rfl, fr.rf⟩
    rw [show m + 0 + 1 = m + 1 from rfl, lp_Service_orderStays_66, if_pos (by decide)]
  | succ q ih =>
    intro O M hq h1 h2 h3 m
    obtain ⟨h4, h5⟩ := h2 q (by omega)
    rw [show m + (q + 1) + 1 = (m + q + 1) + 1 from rfl, lp_Service_orderStays_66, if_neg (nI_nle (by omega) (by omega)), nI_pred, show mm_al 86 = 10 from rfl, show mm_al 87 = 10 from rfl, pp_in (by omega) (by decide), if_pos rfl, nI_clamp (by omega), h1 q (by omega) (by omega), pp_in h4 (by decide), if_pos rfl, pp_in hb (by decide), if_pos rfl, nI_clamp (by omega), nI_clamp (by omega), h5, h3, io]
    by_cases hc : f (O q) < f b
    · have hc' : ¬ f b ≤ f (O q) := by rw [ii_le]; rw [ii_lt] at hc; omega
      rw [if_neg hc', if_pos hc, if_pos rfl, pp_in (by omega) (by decide), if_pos rfl, nI_clamp (by omega), pp_let, show nI (q + 1) + -1 = nI q from by rw [← Int32.sub_eq_add_neg, nI_pred], pp_let]
      obtain ⟨p, O1, M1, a1, a2, a3, a4, a5⟩ := ih (fun i => if i = q + 1 then O q else O i) (mm_setA M 86 (q + 1) (nI (O q))) (by omega) (fun i hi hne => by
        show (if 86 = 86 ∧ i = q + 1 then nI (O q) else M.2.1 86 i) = _
        by_cases e : i = q + 1
        · rw [if_pos ⟨rfl, e⟩, if_pos e]
        · rw [if_neg (fun z => e z.2), if_neg e]; exact h1 i hi e) (fun i hi => by
        show (if i = q + 1 then O q else O i) < 10 ∧ M.2.1 87 (if i = q + 1 then O q else O i) = f (if i = q + 1 then O q else O i)
        rw [if_neg (by omega)]
        exact h2 i (by omega)) h3 m
      exact ⟨p, O1, M1, a1, a2, a3, a4, (fr.rf.a (by decide)).tr a5⟩
    · have hc' : f b ≤ f (O q) := by rw [ii_le]; rw [ii_lt] at hc; omega
      rw [if_pos hc', if_neg hc]
      exact ⟨q + 1, O, M, rfl, hq, h1, rfl, fr.rf⟩
theorem sr_ins {f : Nat → Int32} {b n : Nat} (hb : b < 10) (hn : n < 10) {v1 : Int32} {K : Int32 → mm_M → Option (Unit × mm_M)} : ∀ (q : Nat) (O : Nat → Nat) (M : mm_M), q ≤ n → (∀ i, i ≤ n → i ≠ q → M.2.1 122 i = nI (O i)) → (∀ i, i < q → O i < 10 ∧ M.2.1 123 (O i) = f (O i)) → M.2.1 123 b = f b → ∀ m, ∃ (p : Nat) (O1 : Nat → Nat) (M1 : mm_M), lp_R_laysOrder_41 v1 (nI b) K (m + q + 1) (nI q) M = K (nI p) M1 ∧ p ≤ n ∧ (∀ i, i ≤ n → i ≠ p → M1.2.1 122 i = nI (O1 i)) ∧ io f b q O = (fun i => if i = p then b else O1 i) ∧ fr 122 122 M M1 := by
  intro q
  induction q with
  | zero =>
    intro O M hq h1 h2 h3 m
    refine ⟨0, O, M, ?_, by omega, h1, rfl, fr.rf⟩
    rw [show m + 0 + 1 = m + 1 from rfl, lp_R_laysOrder_41, if_pos (by decide)]
  | succ q ih =>
    intro O M hq h1 h2 h3 m
    obtain ⟨h4, h5⟩ := h2 q (by omega)
    rw [show m + (q + 1) + 1 = (m + q + 1) + 1 from rfl, lp_R_laysOrder_41, if_neg (nI_nle (by omega) (by omega)), nI_pred, show mm_al 122 = 10 from rfl, show mm_al 123 = 10 from rfl, pp_in (by omega) (by decide), if_pos rfl, nI_clamp (by omega), h1 q (by omega) (by omega), pp_in h4 (by decide), if_pos rfl, pp_in hb (by decide), if_pos rfl, nI_clamp (by omega), nI_clamp (by omega), h5, h3, io]
    by_cases hc : f (O q) < f b
    · have hc' : ¬ f b ≤ f (O q) := by rw [ii_le]; rw [ii_lt] at hc; omega
      rw [if_neg hc', if_pos hc, if_pos rfl, pp_in (by omega) (by decide), if_pos rfl, nI_clamp (by omega), pp_let, pp_let]
      obtain ⟨p, O1, M1, a1, a2, a3, a4, a5⟩ := ih (fun i => if i = q + 1 then O q else O i) (mm_setA M 122 (q + 1) (nI (O q))) (by omega) (fun i hi hne => by
        show (if 122 = 122 ∧ i = q + 1 then nI (O q) else M.2.1 122 i) = _
        by_cases e : i = q + 1
        · rw [if_pos ⟨rfl, e⟩, if_pos e]
        · rw [if_neg (fun z => e z.2), if_neg e]; exact h1 i hi e) (fun i hi => by
        show (if i = q + 1 then O q else O i) < 10 ∧ M.2.1 123 (if i = q + 1 then O q else O i) = f (if i = q + 1 then O q else O i)
        rw [if_neg (by omega)]
        exact h2 i (by omega)) h3 m
      exact ⟨p, O1, M1, a1, a2, a3, a4, (fr.rf.a (by decide)).tr a5⟩
    · have hc' : f b ≤ f (O q) := by rw [ii_le]; rw [ii_lt] at hc; omega
      rw [if_pos hc', if_neg hc]
      exact ⟨q + 1, O, M, rfl, hq, h1, rfl, fr.rf⟩
/-- the order of an hour -/
theorem sh_order {s : Nat} (ho : ss_Ok S) (hs : s < 1024) (h5 : S.1 5 = nI s) {h : Nat} (hH : ss_RH S M) (hl : lwH k c C L M) : ∃ M1, f_Service_orderStays (nI h) M = some (nI (oo (fun b => sn k C L S b h) s 10).1, M1) ∧ (∀ i, i < (oo (fun b => sn k C L S b h) s 10).1 → M1.2.1 86 i = nI ((oo (fun b => sn k C L S b h) s 10).2 i)) ∧ vf M M1 ∧ (∀ o, o < 86 → o ≠ 44 → o ≠ 45 → M1.2.1 o = M.2.1 o) ∧ (∀ o, 87 < o → M1.2.1 o = M.2.1 o) ∧ ∀ q, M1.1 73 q = M.1 73 q := by
  generalize hf : (fun b => sn k C L S b h) = f
  have hfx : ∀ b, sn k C L S b h = f b := fun b => by rw [← hf]
  have key : ∀ q b M', b + q = 10 → vf M M' → (∀ i, i < (oo f s b).1 → M'.2.1 86 i = nI ((oo f s b).2 i)) → (∀ x, x < b → s.testBit x = true → M'.2.1 87 x = f x) → (∀ o, o < 86 → o ≠ 44 → o ≠ 45 → M'.2.1 o = M.2.1 o) → (∀ o, 87 < o → M'.2.1 o = M.2.1 o) → (∀ q, M'.1 73 q = M.1 73 q) → ∀ m, ∃ M1, lp_Service_orderStays_4 (nI h) (fun (v2 : Int32) (M_17 : mm_M) => some (v2, M_17)) (m + q + 1) (nI (oo f s b).1) (nI b) M' = some (nI (oo f s 10).1, M1) ∧ (∀ i, i < (oo f s 10).1 → M1.2.1 86 i = nI ((oo f s 10).2 i)) ∧ vf M M1 ∧ (∀ o, o < 86 → o ≠ 44 → o ≠ 45 → M1.2.1 o = M.2.1 o) ∧ (∀ o, 87 < o → M1.2.1 o = M.2.1 o) ∧ ∀ q, M1.1 73 q = M.1 73 q := by
    intro q
    induction q with
    | zero =>
      intro b M' hq hv h1 h2 h3 h4 h6 m
      have : b = 10 := by omega
      subst this
      refine ⟨M', ?_, h1, hv, h3, h4, h6⟩
      rw [show m + 0 + 1 = m + 1 from rfl, lp_Service_orderStays_4, if_pos (by decide)]
    | succ q ih =>
      intro b M' hq hv h1 h2 h3 h4 h6 m
      have hb : b < 10 := by omega
      have hle := oo_le f s b
      rw [show m + (q + 1) + 1 = (m + q + 1) + 1 from rfl, lp_Service_orderStays_4, if_neg (show ¬ (10 : Int32) ≤ nI b from nI_ge (b := 10) hb (by decide)), sh_has (hv.RH hH) hs h5, pp_has_k (by omega), pp_bd, pp_jn]
      by_cases ht : s.testBit b = true
      · rw [if_pos ht]
        obtain ⟨Ma, a1, a2⟩ := sh_soon (h := h) ho (hv.RH hH) (hl.v hv) hb (fun r_9 M_10 => if mm_in (nI b) (mm_al 87) = true then mm_let (mm_setA M_10 87 ((nI b).toNatClampNeg) r_9) fun M_11 => lp_Service_orderStays_66 (nI h) (nI (oo f s b).1) (nI b) (fun (v4 : Int32) (M_14 : mm_M) => if mm_in v4 (mm_al 86) = true then mm_let (mm_setA M_14 86 (v4.toNatClampNeg) (nI b)) fun M_15 => mm_let (nI (oo f s b).1 + 1) fun v2_16 => (fun (v2 : Int32) (v3 : Int32) (M_3 : mm_M) => mm_let (v3 + 1) fun v3_4 => lp_Service_orderStays_4 (nI h) (fun (v2 : Int32) (M_17 : mm_M) => some (v2, M_17)) (m + q + 1) v2 v3_4 M_3) v2_16 (nI b) M_15 else none) mm_fu (nI (oo f s b).1) M_11 else none)
        rw [a1, hfx, show mm_al 87 = 10 from rfl, show mm_al 86 = 10 from rfl, pp_in hb (by decide), if_pos rfl, nI_clamp (by omega), pp_let]
        obtain ⟨p, O1, Mb, b1, b2, b3, b4, b5⟩ := sh_ins (f := f) (n := (oo f s b).1) hb (by omega) (v1 := nI h) (v2 := nI (oo f s b).1) (K := fun (v4 : Int32) (M_14 : mm_M) => if mm_in v4 10 = true then mm_let (mm_setA M_14 86 (v4.toNatClampNeg) (nI b)) fun M_15 => mm_let (nI (oo f s b).1 + 1) fun v2_16 => (fun (v2 : Int32) (v3 : Int32) (M_3 : mm_M) => mm_let (v3 + 1) fun v3_4 => lp_Service_orderStays_4 (nI h) (fun (v2 : Int32) (M_17 : mm_M) => some (v2, M_17)) (m + q + 1) v2 v3_4 M_3) v2_16 (nI b) M_15 else none) (oo f s b).1 (oo f s b).2 (mm_setA Ma 87 b (f b)) (Nat.le_refl _) (fun i hi hne => by
            show Ma.2.1 86 i = _
            rw [a2.2.1 86 (by decide) (by decide)]; exact h1 i (by omega)) (fun i hi => by
            have := oo_in f s b i hi
            refine ⟨by omega, ?_⟩
            show (if 87 = 87 ∧ (oo f s b).2 i = b then f b else Ma.2.1 87 ((oo f s b).2 i)) = _
            rw [if_neg (fun z => by omega), a2.2.1 87 (by decide) (by decide)]
            exact h2 _ this.1 this.2) (by
            show (if 87 = 87 ∧ b = b then f b else _) = _
            rw [if_pos ⟨rfl, rfl⟩]) (4999 - (oo f s b).1)
        rw [show 4999 - (oo f s b).1 + (oo f s b).1 + 1 = mm_fu from by show _ = 5000; omega] at b1
        have hoo : oo f s (b + 1) = ((oo f s b).1 + 1, io f b (oo f s b).1 (oo f s b).2) := by rw [oo, if_pos ht]
        have o1 : (oo f s (b + 1)).1 = (oo f s b).1 + 1 := by rw [hoo]
        have o2 : (oo f s (b + 1)).2 = fun i => if i = p then b else O1 i := by rw [hoo, ← b4]
        rw [b1, pp_in (by omega) (by decide), if_pos rfl, nI_clamp (by omega), pp_let, nI_1, pp_let]
        dsimp only
        rw [nI_1, pp_let, ← o1]
        have hvb : vf M (mm_setA Mb 86 p (nI b)) := ((((hv.tr a2.v).a (i := b) (v := f b) (by decide)).tr (b5.w (by decide) (by decide))).a (by decide))
        refine ih (b + 1) _ (by omega) hvb (fun i hi => ?_) (fun x hx hxt => ?_) (fun o e1 e2 e3 => ?_) (fun o e1 => ?_) (fun z => ?_) m
        · rw [o2]
          show (if 86 = 86 ∧ i = p then nI b else Mb.2.1 86 i) = nI (if i = p then b else O1 i)
          by_cases e : i = p
          · rw [if_pos ⟨rfl, e⟩, if_pos e]
          · rw [if_neg (fun z => e z.2), if_neg e]; exact b3 i (by omega) e
        · show Mb.2.1 87 x = f x
          rw [b5.2.2 87 (by decide)]
          show (if 87 = 87 ∧ x = b then f b else Ma.2.1 87 x) = _
          by_cases e : x = b
          · rw [if_pos ⟨rfl, e⟩, e]
          · rw [if_neg (fun z => e z.2), a2.2.1 87 (by decide) (by decide)]
            exact h2 x (by omega) hxt
        · rw [ss_seta_ne (by omega), b5.2.2 o (by omega), ss_seta_ne (by omega), a2.2.1 o e2 e3]
          exact h3 o e1 e2 e3
        · rw [ss_seta_ne (by omega), b5.2.2 o (by omega), ss_seta_ne (by omega), a2.2.1 o (by omega) (by omega)]
          exact h4 o e1
        · show Mb.1 73 z = _
          rw [b5.1]
          show Ma.1 73 z = _
          rw [a2.2.2 _ _ (by omega)]
          exact h6 z
      · have ht' : s.testBit b = false := by
          cases hq : s.testBit b
          · rfl
          · exact absurd hq ht
        have hoo : oo f s (b + 1) = oo f s b := by rw [oo, if_neg ht]
        rw [ht', if_neg (by decide)]
        dsimp only
        rw [nI_1, pp_let, ← hoo]
        refine ih (b + 1) M' (by omega) hv (by rw [hoo]; exact h1) (fun x hx hxt => h2 x (by
          rcases Nat.lt_or_ge x b with z | z
          · exact z
          · exact absurd (show s.testBit b = true from by rw [show b = x by omega]; exact hxt) ht) hxt) h3 h4 h6 m
  unfold f_Service_orderStays
  exact key 10 0 M (by omega) vf.rf (fun i hi => by have hi : i < 0 := hi; omega) (fun x hx => by omega) (fun _ _ _ _ => rfl) (fun _ _ => rfl) (fun _ => rfl) 4989
theorem sr_order {s : Nat} (ho : ss_Ok S) (hs : s < 1024) (h5 : S.1 5 = nI s) {h : Nat} (hR : ss_RR S M) (hl : lwR k c C L M) : ∃ M1, f_R_laysOrder (nI h) M = some ((), M1) ∧ M1.1 97 46 = nI (oo (fun b => sn k C L S b h) s 10).1 ∧ (∀ i, i < (oo (fun b => sn k C L S b h) s 10).1 → M1.2.1 122 i = nI ((oo (fun b => sn k C L S b h) s 10).2 i)) ∧ vg M M1 ∧ (∀ o, 123 < o → M1.2.1 o = M.2.1 o) ∧ ∀ q, q ≠ 46 → M1.1 97 q = M.1 97 q := by
  generalize hf : (fun b => sn k C L S b h) = f
  have hfx : ∀ b, sn k C L S b h = f b := fun b => by rw [← hf]
  have key : ∀ q b M', b + q = 10 → vg M M' → M'.1 97 46 = nI (oo f s b).1 → (∀ i, i < (oo f s b).1 → M'.2.1 122 i = nI ((oo f s b).2 i)) → (∀ x, x < b → s.testBit x = true → M'.2.1 123 x = f x) → (∀ o, 123 < o → M'.2.1 o = M.2.1 o) → (∀ q, q ≠ 46 → M'.1 97 q = M.1 97 q) → ∀ m, ∃ M1, lp_R_laysOrder_7 (nI h) (fun (M_15 : mm_M) => some ((), M_15)) (m + q + 1) (nI b) M' = some ((), M1) ∧ M1.1 97 46 = nI (oo f s 10).1 ∧ (∀ i, i < (oo f s 10).1 → M1.2.1 122 i = nI ((oo f s 10).2 i)) ∧ vg M M1 ∧ (∀ o, 123 < o → M1.2.1 o = M.2.1 o) ∧ ∀ q, q ≠ 46 → M1.1 97 q = M.1 97 q := by
    intro q
    induction q with
    | zero =>
      intro b M' hq hv h0 h1 h2 h4 h6 m
      have : b = 10 := by omega
      subst this
      refine ⟨M', ?_, h0, h1, hv, h4, h6⟩
      rw [show m + 0 + 1 = m + 1 from rfl, lp_R_laysOrder_7, if_pos (by decide)]
    | succ q ih =>
      intro b M' hq hv h0 h1 h2 h4 h6 m
      have hb : b < 10 := by omega
      have hle := oo_le f s b
      rw [show m + (q + 1) + 1 = (m + q + 1) + 1 from rfl, lp_R_laysOrder_7, if_neg (show ¬ (10 : Int32) ≤ nI b from nI_ge (b := 10) hb (by decide)), sr_isStay (hv.RR hR) hs h5, pp_has_k (by omega), pp_bd, pp_jn]
      by_cases ht : s.testBit b = true
      · rw [if_pos ht]
        obtain ⟨Ma, a1, a2⟩ := sr_soon (h := h) ho (hv.RR hR) (hl.v hv) hb
        have e46 : ∀ v, (mm_setA Ma 123 b v).1 97 46 = nI (oo f s b).1 := fun v => by show Ma.1 97 46 = _; rw [a2.1]; exact h0
        rw [a1, pp_bd, hfx, show mm_al 123 = 10 from rfl, show mm_al 122 = 10 from rfl, pp_in hb (by decide), if_pos rfl, nI_clamp (by omega), pp_let, e46, pp_let]
        obtain ⟨p, O1, Mb, b1, b2, b3, b4, b5⟩ := sr_ins (f := f) (n := (oo f s b).1) hb (by omega) (v1 := nI h) (K := fun (v3 : Int32) (M_12 : mm_M) => if mm_in v3 10 = true then mm_let (mm_setA M_12 122 (v3.toNatClampNeg) (nI b)) fun M_13 => mm_let (mm_setI M_13 97 46 ((M_13.1 97 46) + 1)) fun M_14 => (fun (v2 : Int32) (M_4 : mm_M) => mm_let (v2 + 1) fun v2_5 => lp_R_laysOrder_7 (nI h) (fun (M_15 : mm_M) => some ((), M_15)) (m + q + 1) v2_5 M_4) (nI b) M_14 else none) (oo f s b).1 (oo f s b).2 (mm_setA Ma 123 b (f b)) (Nat.le_refl _) (fun i hi hne => by
            show Ma.2.1 122 i = _
            rw [a2.2.2 122 (by decide)]; exact h1 i (by omega)) (fun i hi => by
            have := oo_in f s b i hi
            refine ⟨by omega, ?_⟩
            show (if 123 = 123 ∧ (oo f s b).2 i = b then f b else Ma.2.1 123 ((oo f s b).2 i)) = _
            rw [if_neg (fun z => by omega), a2.2.2 123 (by decide)]
            exact h2 _ this.1 this.2) (by
            show (if 123 = 123 ∧ b = b then f b else _) = _
            rw [if_pos ⟨rfl, rfl⟩]) (4999 - (oo f s b).1)
        rw [show 4999 - (oo f s b).1 + (oo f s b).1 + 1 = mm_fu from by show _ = 5000; omega] at b1
        have hoo : oo f s (b + 1) = ((oo f s b).1 + 1, io f b (oo f s b).1 (oo f s b).2) := by rw [oo, if_pos ht]
        have o1 : (oo f s (b + 1)).1 = (oo f s b).1 + 1 := by rw [hoo]
        have o2 : (oo f s (b + 1)).2 = fun i => if i = p then b else O1 i := by rw [hoo, ← b4]
        have eb : (mm_setA Mb 122 p (nI b)).1 97 46 = nI (oo f s b).1 := by show Mb.1 97 46 = _; rw [b5.1]; exact e46 _
        rw [b1, pp_in (by omega) (by decide), if_pos rfl, nI_clamp (by omega), pp_let, eb, nI_1, pp_let]
        dsimp only
        rw [nI_1, pp_let]
        have hvb : vg M (mm_setI (mm_setA Mb 122 p (nI b)) 97 46 (nI ((oo f s b).1 + 1))) := (((((hv.tr (a2.v (by decide) (by decide))).a (i := b) (v := f b) (by decide)).tr (b5.v (by decide) (by decide))).a (by decide)).s (by decide))
        refine ih (b + 1) _ (by omega) hvb (by rw [o1]; rfl) (fun i hi => ?_) (fun x hx hxt => ?_) (fun o e1 => ?_) (fun z hz => ?_) m
        · rw [o2]
          show (if 122 = 122 ∧ i = p then nI b else Mb.2.1 122 i) = nI (if i = p then b else O1 i)
          by_cases e : i = p
          · rw [if_pos ⟨rfl, e⟩, if_pos e]
          · rw [if_neg (fun z => e z.2), if_neg e]; exact b3 i (by omega) e
        · show Mb.2.1 123 x = f x
          rw [b5.2.2 123 (by decide)]
          show (if 123 = 123 ∧ x = b then f b else Ma.2.1 123 x) = _
          by_cases e : x = b
          · rw [if_pos ⟨rfl, e⟩, e]
          · rw [if_neg (fun z => e z.2), a2.2.2 123 (by decide)]
            exact h2 x (by omega) hxt
        · show (mm_setA Mb 122 p (nI b)).2.1 o = _
          rw [ss_seta_ne (by omega), b5.2.2 o (by omega), ss_seta_ne (by omega), a2.2.2 o (by omega)]
          exact h4 o e1
        · show (if 97 = 97 ∧ z = 46 then _ else Mb.1 97 z) = _
          rw [if_neg (fun y => hz y.2), b5.1]
          show Ma.1 97 z = _
          rw [a2.1]
          exact h6 z hz
      · have ht' : s.testBit b = false := by
          cases hq : s.testBit b
          · rfl
          · exact absurd hq ht
        have hoo : oo f s (b + 1) = oo f s b := by rw [oo, if_neg ht]
        rw [ht', if_neg (by decide)]
        dsimp only
        rw [nI_1, pp_let]
        refine ih (b + 1) M' (by omega) hv (by rw [hoo]; exact h0) (by rw [hoo]; exact h1) (fun x hx hxt => h2 x (by
          rcases Nat.lt_or_ge x b with z | z
          · exact z
          · exact absurd (show s.testBit b = true from by rw [show b = x by omega]; exact hxt) ht) hxt) h4 h6 m
  unfold f_R_laysOrder
  rw [pp_let]
  exact key 10 0 (mm_setI M 97 46 0) (by omega) (vg.rf.s (by decide)) rfl (fun i hi => by have hi : i < 0 := hi; omega) (fun x hx => by omega) (fun _ _ => rfl) (fun q hq => by
    show (if 97 = 97 ∧ q = 46 then _ else M.1 97 q) = _
    rw [if_neg (fun y => hq y.2)]) 4989
end ORDER
