/-! what is asked of the law -/
section ASK
variable {S : ss_S} {k c : Nat} {C : Nat → Nat × Nat} {L : Nat → Nat × Nat × Nat × Nat} {M M1 M2 : mm_M}
def fx (S : ss_S) (b : Nat) (h kd w m : Int32) : Nat → Int32
  | 0 => nI b | 1 => S.2 6 b | 2 => pp_fl S b | 3 => S.2 7 b | 4 => S.2 8 b | 5 => h | 6 => kd | 7 => w | _ => m
def sn (k : Nat) (C : Nat → Nat × Nat) (L : Nat → Nat × Nat × Nat × Nat) (S : ss_S) (b h : Nat) : Int32 := an C (fx S b (nI h) 0 0 0) L 112 999 0 k 0
def hmv (k : Nat) (C : Nat → Nat × Nat) (L : Nat → Nat × Nat × Nat × Nat) (S : ss_S) (b h kd : Nat) (w m : Int32) : Int32 := an C (fx S b (nI h) (nI kd) w m) L 109 99 1 k 0
/-- of the class only rows 44 and 45 and the numbers of its stack change -/
def af (M M1 : mm_M) : Prop := M1.2.2 = M.2.2 ∧ (∀ o, o ≠ 44 → o ≠ 45 → M1.2.1 o = M.2.1 o) ∧ ∀ o q, ¬ (o = 37 ∧ (q = 10 ∨ q = 11)) → M1.1 o q = M.1 o q
theorem af.rf : af M M := ⟨rfl, fun _ _ _ => rfl, fun _ _ _ => rfl⟩
theorem af.tr (h : af M M1) (h2 : af M1 M2) : af M M2 := ⟨h2.1.trans h.1, fun o a b => (h2.2.1 o a b).trans (h.2.1 o a b), fun o q a => (h2.2.2 o q a).trans (h.2.2 o q a)⟩
theorem ef.f (h : ef M M1) : af M M1 := ⟨h.1, fun o _ b => h.2.1 o b, h.2.2⟩
theorem af.a (h : af M M1) {i : Nat} {v : Int32} : af M (mm_setA M1 44 i v) := ⟨h.1, fun o a b => (ss_seta_ne a).trans (h.2.1 o a b), h.2.2⟩
theorem ss_so_37 : ∀ k, k < 11 → ¬ ((ss_so k).1 = 37 ∧ ((ss_so k).2 = 10 ∨ (ss_so k).2 = 11)) := by decide
theorem af.RH (h : af M M1) (hH : ss_RH S M) : ss_RH S M1 := ⟨fun k hk => by rw [h.2.2 _ _ (ss_so_37 k hk)]; exact hH.1 k hk, fun a ha j hj => by
  have := ss_ha_38 ha hj
  rw [h.2.1 _ (by omega) (by omega)]; exact hH.2 a ha j hj⟩
theorem lwH.f (h : lwH k c C L M) (hf : af M M1) : lwH k c C L M1 := ⟨h.1, h.2.1, by rw [hf.2.2 _ _ (by omega)]; exact h.2.2.1, fun i hi => by rw [hf.2.1 38 (by decide) (by decide), hf.2.1 39 (by decide) (by decide)]; exact h.2.2.2.1 i hi, fun i hi => by rw [hf.2.1 40 (by decide) (by decide), hf.2.1 41 (by decide) (by decide), hf.2.1 42 (by decide) (by decide), hf.2.1 43 (by decide) (by decide)]; exact h.2.2.2.2 i hi⟩
theorem lwR.f {lo hi : Nat} (h : lwR k c C L M) (hf : fr lo hi M M1) (hl : 119 < lo) : lwR k c C L M1 := ⟨h.1, h.2.1, by rw [hf.1]; exact h.2.2.1, fun i hi => by rw [hf.2.2 115 (by omega)]; exact h.2.2.2.1 i hi, fun i hi => by rw [hf.2.2 116 (by omega), hf.2.2 117 (by omega), hf.2.2 118 (by omega), hf.2.2 119 (by omega)]; exact h.2.2.2.2 i hi⟩
theorem fr.tr {lo hi : Nat} (h : fr lo hi M M1) (h2 : fr lo hi M1 M2) : fr lo hi M M2 := ⟨h2.1.trans h.1, h2.2.1.trans h.2.1, fun o ho => (h2.2.2 o ho).trans (h.2.2 o ho)⟩
theorem fr.wd {lo hi lo2 hi2 : Nat} (h : fr lo hi M M1) (h1 : lo2 ≤ lo) (h2 : hi ≤ hi2) : fr lo2 hi2 M M1 := ⟨h.1, h.2.1, fun o ho => h.2.2 o (by omega)⟩
theorem fr.rf {lo hi : Nat} : fr lo hi M M := ⟨rfl, rfl, fun _ _ => rfl⟩
theorem pp_price {S : ss_S} {b : Nat} : S.2 8 b = S.2 8 b := rfl
theorem sh_askAbout (ho : ss_Ok S) (hH : ss_RH S M) {b : Nat} (hb : b < 10) : ∃ M1, f_Law_askAbout_37_27_22 (nI b) M = some ((), M1) ∧ (∀ (h kd w m : Int32) (i : Nat), i < 5 → M1.2.1 44 i = fx S b h kd w m i) ∧ af M M1 := by
  have e6 : M.2.1 28 b = nI (pp_rm S b) := (hH.2 6 (by decide) b hb).trans (pp_rm_e ho hb).1
  have r10 := (pp_rm_e ho hb).2
  have e2 : M.2.1 23 (pp_rm S b) = pp_fl S b := hH.2 2 (by decide) _ r10
  have e7 : M.2.1 29 b = S.2 7 b := hH.2 7 (by decide) b hb
  have e8 : M.2.1 30 b = S.2 8 b := hH.2 8 (by decide) b hb
  unfold f_Law_askAbout_37_27_22
  have i0 : mm_in 0 9 = true := rfl
  have i1 : mm_in 1 9 = true := rfl
  have i2 : mm_in 2 9 = true := rfl
  have i3 : mm_in 3 9 = true := rfl
  have i4 : mm_in 4 9 = true := rfl
  simp only [show mm_al 44 = 9 from rfl, mm_al_28, mm_al_23, mm_al_29, mm_al_30, i0, i1, i2, i3, i4, pp_in hb (by decide), nI_clamp (show b < 2 ^ 31 by omega), ↓reduceIte, pp_let, pp_sa, show ((28 : Nat) = 44) = False from by simp, show ((23 : Nat) = 44) = False from by simp, show ((29 : Nat) = 44) = False from by simp, show ((30 : Nat) = 44) = False from by simp, false_and, e6, pp_in r10 (by decide), nI_clamp (show pp_rm S b < 2 ^ 31 by omega), e2, e7, e8]
  refine ⟨_, rfl, fun h kd w m i hi => ?_, ((((af.rf.a).a).a).a).a⟩
  rcases (show i = 0 ∨ i = 1 ∨ i = 2 ∨ i = 3 ∨ i = 4 by omega) with rfl | rfl | rfl | rfl | rfl
  · rfl
  · exact (pp_rm_e ho hb).1.symm
  · rfl
  · rfl
  · rfl
theorem sh_askAt (h kd w m : Int32) {b : Nat} (hf : ∀ (h kd w m : Int32) (i : Nat), i < 5 → M.2.1 44 i = fx S b h kd w m i) : ∃ M1, f_Law_askAt_37 h kd w m M = some ((), M1) ∧ (∀ i, i < 9 → M1.2.1 44 i = fx S b h kd w m i) ∧ af M M1 := by
  unfold f_Law_askAt_37
  have i5 : mm_in 5 9 = true := rfl
  have i6 : mm_in 6 9 = true := rfl
  have i7 : mm_in 7 9 = true := rfl
  have i8 : mm_in 8 9 = true := rfl
  simp only [show mm_al 44 = 9 from rfl, i5, i6, i7, i8, ↓reduceIte, pp_let]
  refine ⟨_, rfl, fun i hi => ?_, (((af.rf.a).a).a).a⟩
  rcases (show i = 5 ∨ i = 6 ∨ i = 7 ∨ i = 8 ∨ i < 5 by omega) with rfl | rfl | rfl | rfl | h5
  · rfl
  · rfl
  · rfl
  · rfl
  · rw [pp_sa, if_neg (fun q => by have := q.2; simp at this; omega), pp_sa, if_neg (fun q => by have := q.2; simp at this; omega), pp_sa, if_neg (fun q => by have := q.2; simp at this; omega), pp_sa, if_neg (fun q => by have := q.2; simp at this; omega)]
    exact hf h kd w m i h5
theorem sh_soon (ho : ss_Ok S) (hH : ss_RH S M) (hl : lwH k c C L M) {b h : Nat} (hb : b < 10) {α : Type} (K : Int32 → mm_M → Option α) : ∃ M1, (mm_bd (f_Law_askAbout_37_27_22 (nI b) M) fun _ M_6 => mm_bd (f_Law_askAt_37 (nI h) 0 0 0 M_6) fun _ M_8 => mm_bd (f_Law_answerBy_37 112 M_8) fun r_9 M_10 => K r_9 M_10) = K (sn k C L S b h) M1 ∧ af M M1 := by
  obtain ⟨M2, a1, a2, a3⟩ := sh_askAbout ho hH hb
  obtain ⟨M3, b1, b2, b3⟩ := sh_askAt (nI h) 0 0 0 a2
  obtain ⟨M4, c1, c2⟩ := sh_answer ((hl.f a3).f b3) b2 112 (Or.inl rfl)
  rw [a1, pp_bd, b1, pp_bd, show f_Law_answerBy_37 112 M3 = _ from c1, pp_bd]
  exact ⟨M4, rfl, (a3.tr b3).tr c2.f⟩
theorem sh_harm (ho : ss_Ok S) (hH : ss_RH S M) (hl : lwH k c C L M) {b h kd : Nat} (hb : b < 10) (hh : h < 24) (hk : kd < 3) {w : Int32} (hw : M.2.1 (58 + b) (24 * kd + h) = w) (m : Int32) : ∃ M1, f_Service_harmOf (nI b) (nI (24 * kd + h)) m M = some (if m = 0 then 0 else m * hmv k C L S b h kd w m, M1) ∧ af M M1 := by
  unfold f_Service_harmOf
  by_cases hm : m = 0
  · rw [if_pos hm, if_pos hm]; exact ⟨M, rfl, af.rf⟩
  · rw [if_neg hm, if_neg hm]
    obtain ⟨M2, a1, a2, a3⟩ := sh_askAbout ho hH hb
    have hw2 : M2.2.1 (58 + b) (24 * kd + h) = w := by rw [a3.2.1 _ (by omega) (by omega)]; exact hw
    obtain ⟨M3, b1, b2, b3⟩ := sh_askAt (nI h) (nI kd) w m a2
    obtain ⟨M4, c1, c2⟩ := sh_answer ((hl.f a3).f b3) b2 109 (Or.inr rfl)
    rw [a1, pp_bd, pp_in hb (by decide), if_pos rfl, nI_clamp (by omega), mm_al_want b hb, pp_in (by omega) (by decide), if_pos rfl, nI_clamp (by omega), hw2, show (24 : Int32) = nI 24 from rfl, pp_rem (by omega) (by decide) (by decide), pk_div (by omega) (by decide) (by decide), show (24 * kd + h) % 24 = h by omega, show (24 * kd + h) / 24 = kd by omega, b1, pp_bd, show f_Law_answerBy_37 109 M3 = _ from c1, pp_bd]
    exact ⟨M4, rfl, (a3.tr b3).tr c2.f⟩
/-- the reference -/
theorem sr_feels (ho : ss_Ok S) (hR : ss_RR S M) {b : Nat} (hb : b < 10) (h kd w m : Int32) : ∃ M1, f_R_feels (nI b) h kd w m M = some ((), M1) ∧ (∀ i, i < 9 → M1.2.1 121 i = fx S b h kd w m i) ∧ fr 121 121 M M1 := by
  have e6 : M.2.1 105 b = nI (pp_rm S b) := (hR.2 6 (by decide) b hb).trans (pp_rm_e ho hb).1
  have r10 := (pp_rm_e ho hb).2
  have e2 : M.2.1 101 (pp_rm S b) = pp_fl S b := hR.2 2 (by decide) _ r10
  have e7 : M.2.1 106 b = S.2 7 b := hR.2 7 (by decide) b hb
  have e8 : M.2.1 107 b = S.2 8 b := hR.2 8 (by decide) b hb
  unfold f_R_feels
  have i0 : mm_in 0 9 = true := rfl
  have i1 : mm_in 1 9 = true := rfl
  have i2 : mm_in 2 9 = true := rfl
  have i3 : mm_in 3 9 = true := rfl
  have i4 : mm_in 4 9 = true := rfl
  have i5 : mm_in 5 9 = true := rfl
  have i6 : mm_in 6 9 = true := rfl
  have i7 : mm_in 7 9 = true := rfl
  have i8 : mm_in 8 9 = true := rfl
  simp only [show mm_al 121 = 9 from rfl, mm_al_105, mm_al_101, mm_al_106, mm_al_107, i0, i1, i2, i3, i4, i5, i6, i7, i8, pp_in hb (by decide), nI_clamp (show b < 2 ^ 31 by omega), ↓reduceIte, pp_let, pp_sa, show ((105 : Nat) = 121) = False from by simp, show ((101 : Nat) = 121) = False from by simp, show ((106 : Nat) = 121) = False from by simp, show ((107 : Nat) = 121) = False from by simp, false_and, e6, pp_in r10 (by decide), nI_clamp (show pp_rm S b < 2 ^ 31 by omega), e2, e7, e8]
  refine ⟨_, rfl, fun i hi => ?_, ((((((((fr.rf.a (by decide)).a (by decide)).a (by decide)).a (by decide)).a (by decide)).a (by decide)).a (by decide)).a (by decide)).a (by decide)⟩
  rcases (show i = 0 ∨ i = 1 ∨ i = 2 ∨ i = 3 ∨ i = 4 ∨ i = 5 ∨ i = 6 ∨ i = 7 ∨ i = 8 by omega) with rfl | rfl | rfl | rfl | rfl | rfl | rfl | rfl | rfl
  · rfl
  · exact (pp_rm_e ho hb).1.symm
  · rfl
  · rfl
  · rfl
  · rfl
  · rfl
  · rfl
  · rfl
theorem sr_soon (ho : ss_Ok S) (hR : ss_RR S M) (hl : lwR k c C L M) {b h : Nat} (hb : b < 10) : ∃ M1, f_R_soonOf (nI b) (nI h) M = some (sn k C L S b h, M1) ∧ fr 120 121 M M1 := by
  unfold f_R_soonOf
  obtain ⟨M2, a1, a2, a3⟩ := sr_feels ho hR hb (nI h) 0 0 0
  obtain ⟨M3, b1, b2⟩ := sr_byLaw (hl.f a3 (by decide)) a2 112 (by decide) 999 0
  rw [a1, pp_bd, show f_R_byLaw 112 999 0 M2 = _ from b1, pp_bd]
  exact ⟨M3, rfl, (a3.wd (by decide) (by decide)).tr (b2.wd (by decide) (by decide))⟩
theorem sr_harm (ho : ss_Ok S) (hR : ss_RR S M) (hl : lwR k c C L M) {b h kd : Nat} (hb : b < 10) (w m : Int32) {α : Type} (K : Int32 → mm_M → mm_M → Option α) : ∃ M1 M2, (mm_bd (f_R_feels (nI b) (nI h) (nI kd) w m M) fun _ M_12 => mm_bd (f_R_byLaw 109 99 1 M_12) fun r_13 M_14 => K r_13 M_12 M_14) = K (hmv k C L S b h kd w m) M1 M2 ∧ fr 120 121 M M1 ∧ fr 120 121 M M2 := by
  obtain ⟨M2, a1, a2, a3⟩ := sr_feels ho hR hb (nI h) (nI kd) w m
  obtain ⟨M3, b1, b2⟩ := sr_byLaw (hl.f a3 (by decide)) a2 109 (by decide) 99 1
  rw [a1, pp_bd, show f_R_byLaw 109 99 1 M2 = _ from b1, pp_bd]
  exact ⟨M2, M3, rfl, a3.wd (by decide) (by decide), (a3.wd (by decide) (by decide)).tr (b2.wd (by decide) (by decide))⟩
end ASK
