/-! shifting: the call -/
section SHIFTO
variable {S : ss_S} {u k s : Nat} {M M0 : mm_M}
def bst (X : zX) : Int32 := if X.1 = 100 then -1 else nI X.2
def zQ (S : ss_S) (u k W : Nat) (X : zX) : Prop := (X.1 = 100 ∨ (X.1 < 100 ∧ X.1 = zH S u k 10 X.2)) ∧ X.2 ≤ W
theorem zQ_s {W c : Nat} {X : zX} (hc : c ≤ W) (h : zQ S u k W X) : zQ S u k W (zs S u k s c X) := by
  unfold zs
  split
  · rename_i q
    refine ⟨Or.inr ⟨?_, rfl⟩, hc⟩
    show zH S u k 10 c < 100
    rcases h.1 with e | e
    · have := q.1; omega
    · have := q.1; omega
  · exact h
theorem zQ_f {W : Nat} : ∀ n c X, c + n ≤ W + 1 → zQ S u k W X → zQ S u k W (zf S u k s n c X) := by
  intro n
  induction n with
  | zero => intro c X _ h; exact h
  | succ n ih => intro c X hc h; rw [zf]; exact ih (c + 1) _ (by omega) (zQ_s (by omega) h)
theorem sr_zloop (ho : ss_Ok S) (hs : s < 1024) (h5 : S.1 5 = nI s) (hk : k ≤ 2) {W : Nat} (hW : W < 4000) {v3 : Int32} {K : Int32 → Int32 → mm_M → Option (Int32 × mm_M)} : ∀ q c M X, c + q = W → rq S u M → oS S M → wo u 10 M → ss_r M0 M → zQ S u k W X → ∀ m, ∃ M1, lp_R_shifting_133 (nI k) v3 (nI W) K (m + q + 1) (bst X) (nI X.1) (nI c) M = K (bst (zf S u k s q c X)) (nI (zf S u k s q c X).1) M1 ∧ rq S u M1 ∧ oS S M1 ∧ wo u 10 M1 ∧ ss_r M0 M1 := by
  intro q
  induction q with
  | zero =>
    intro c M X hc hR hO hw hf hX m
    have : c = W := by omega
    subst this
    refine ⟨M, ?_, hR, hO, hw, hf⟩
    rw [show m + 0 + 1 = m + 1 from rfl, lp_R_shifting_133, if_pos (nI_le (Nat.le_refl _) (by omega))]
    rfl
  | succ q ih =>
    intro c M X hc hR hO hw hf hX m
    obtain ⟨Ma, a1, a2, a3⟩ := sr_shiftsBy ho hk hR hO hw (code := c) (by omega)
    have hRa : rq S u Ma := rq_of a2
    have hOa : oS S Ma := fun x hx => by rw [a3.2.2 131 (by decide)]; exact hO x hx
    have hwa : wo u 10 Ma := ⟨by rw [a3.1]; exact hw.1, fun x hx hm => by rw [a3.2.2 128 (by decide)]; exact hw.2 x hx hm⟩
    have hfa : ss_r M0 Ma := hf.tr ⟨fun o ho => ⟨by rw [a3.1], a3.2.2 o (by omega), by rw [a3.2.1]⟩, fun o _ _ => a3.2.2 o (by omega)⟩
    have hX100 : X.1 ≤ 100 := by rcases hX.1 with e | e <;> omega
    rw [show m + (q + 1) + 1 = (m + q + 1) + 1 from rfl, lp_R_shifting_133, if_neg (nI_ge (by omega) (by omega)), a1, pp_bd, pp_jn]
    have hH : ∀ n, zH S u k n c ≤ 102 * n := by
      intro n
      induction n with
      | zero => exact Nat.le_refl _
      | succ n ihn =>
        rw [zH]
        have : zc S u k n c ≤ 102 := by
          unfold zc
          have hd := zd_lt (u := u) (K := 2 * k + 1) (b := n) (code := c) (by omega)
          split
          · have : zv k (zd u (2 * k + 1) n c) ≤ 2 := by unfold zv; split <;> omega
            split <;> omega
          · omega
        omega
    have hH10 := hH 10
    rw [zf]
    by_cases hle : X.1 ≤ zH S u k 10 c
    · have e : zs S u k s c X = X := if_neg (fun z => by omega)
      rw [if_pos (nI_le hle (by omega)), e]
      dsimp only
      rw [nI_1, pp_let]
      exact ih (c + 1) Ma X (by omega) hRa hOa hwa hfa hX m
    · rw [if_neg (nI_ge (by omega) (by omega)), show Ma.1 97 12 = nI s from (a2.1 5 (by decide)).trans h5]
      obtain ⟨Mb, b1, b2, _⟩ := sr_canBe (zA_ok ho (by omega) (show zH S u k 10 c < 100 by omega)) a2 (show s < 2 ^ 31 by omega) true
      have hRb : rq S u Mb := rq_of (b2.RR a2)
      have hOb : oS S Mb := fun x hx => by rw [b2.2]; exact hOa x hx
      have hwb : wo u 10 Mb := ⟨by rw [b2.1 _ _ (by omega)]; exact hwa.1, fun x hx hm => by rw [b2.2]; exact hwa.2 x hx hm⟩
      rw [b1, pp_bd]
      by_cases hfit : (pp_fit (zA S u k c) s true).isNone = true
      · have e : zs S u k s c X = (zH S u k 10 c, c) := if_pos ⟨by omega, hfit⟩
        rw [if_pos hfit]
        dsimp only
        rw [nI_1, pp_let]
        have hXs := zQ_s (s := s) (show c ≤ W by omega) hX
        rw [e] at hXs ⊢
        have := ih (c + 1) Mb (zH S u k 10 c, c) (by omega) hRb hOb hwb (hfa.tr b2.r) hXs m
        rw [show bst (zH S u k 10 c, c) = nI c from if_neg (show ¬ zH S u k 10 c = 100 by omega)] at this
        exact this
      · have e : zs S u k s c X = X := if_neg (fun z => hfit z.2)
        rw [if_neg hfit, e]
        dsimp only
        rw [nI_1, pp_let]
        exact ih (c + 1) Mb X (by omega) hRb hOb hwb (hfa.tr b2.r) hX m
/-- so many ways -/
theorem zp_pow (u K : Nat) : ∀ n b, b + n = 10 → zp u K b * K ^ pp_cn u b = K ^ pp_cn u 10 := by
  intro n
  induction n with
  | zero => intro b hb; rw [show b = 10 by omega, zp_10, Nat.one_mul]
  | succ n ih =>
    intro b hb
    have := ih (b + 1) (by omega)
    rw [pp_cn_s] at this
    rw [zp_b (by omega)]
    by_cases hm : u.testBit b = true
    · rw [if_pos hm] at this ⊢
      rw [Nat.pow_succ] at this
      rw [← this, Nat.mul_comm K, Nat.mul_assoc, Nat.mul_comm K]
    · rw [if_neg hm] at this ⊢
      rw [Nat.one_mul]
      exact this
theorem sr_ways (hk : k < 3) {v3 : Int32} {K : Int32 → mm_M → Option (Int32 × mm_M)} {n : Nat} (hn : n ≤ 10) (h57 : M.1 97 57 = nI n) : lp_R_shifting_98 (nI k) v3 K mm_fu 1 0 M = K (nI ((2 * k + 1) ^ n)) M := by
  refine pp_for (lp := fun m (a : Int32 × Int32) => lp_R_shifting_98 (nI k) v3 K m a.1 a.2 M) (fun i => (nI ((2 * k + 1) ^ i), nI i)) n (by omega) (fun i hi m => ?_) (fun m => ?_)
  · show lp_R_shifting_98 (nI k) v3 K (m + 1) (nI ((2 * k + 1) ^ i)) (nI i) M = lp_R_shifting_98 (nI k) v3 K m (nI ((2 * k + 1) ^ (i + 1))) (nI (i + 1)) M
    rw [lp_R_shifting_98, h57, if_neg (nI_ge hi (by omega)), zn_k k hk, pp_mulN, ← Nat.pow_succ, nI_1, pp_let, pp_let]
  · show lp_R_shifting_98 (nI k) v3 K (m + 1) (nI ((2 * k + 1) ^ n)) (nI n) M = _
    rw [lp_R_shifting_98, h57, if_pos (nI_le (Nat.le_refl _) (by omega))]
theorem sr_save {v2 v3 : Int32} {K : mm_M → Option (Int32 × mm_M)} (M : mm_M) : lp_R_shifting_65 v2 v3 K mm_fu 0 M = K (mm_setR M 131 (fun j => if 0 ≤ j ∧ j < 0 + 10 then M.2.1 108 j else M.2.1 131 j)) := by
  refine pp_fill (lp := fun m v M => lp_R_shifting_65 v2 v3 K m v M) (k := K) M 131 0 10 (by decide) (fun j => M.2.1 108 j) (fun i hi m M' e => ?_) (fun m M' => ?_)
  · show lp_R_shifting_65 v2 v3 K (m + 1) (nI i) M' = lp_R_shifting_65 v2 v3 K m (nI (i + 1)) _
    have e1 : M'.2.1 108 i = M.2.1 108 i := by rw [e]; rfl
    rw [lp_R_shifting_65, if_neg (show ¬ (10 : Int32) ≤ nI i from nI_ge (b := 10) hi (by decide)), mm_al_108, show mm_al 131 = 10 from rfl, pp_in hi (by decide), if_pos rfl, if_pos rfl, nI_clamp (by omega), e1, nI_1, pp_let, pp_let, Nat.zero_add]
  · show lp_R_shifting_65 v2 v3 K (m + 1) (nI 10) M' = _
    rw [lp_R_shifting_65, if_pos (by decide)]
theorem sr_back {v3 v5 v7 : Int32} {K : mm_M → Option (Int32 × mm_M)} (M : mm_M) (h : ¬ (v3 = 11 ∧ ¬ v5 = -1)) : lp_R_shifting_234 v3 v5 v7 K mm_fu 0 M = K (mm_setR M 108 (fun j => if 0 ≤ j ∧ j < 0 + 10 then M.2.1 131 j else M.2.1 108 j)) := by
  refine pp_fill (lp := fun m v M => lp_R_shifting_234 v3 v5 v7 K m v M) (k := K) M 108 0 10 (by decide) (fun j => M.2.1 131 j) (fun i hi m M' e => ?_) (fun m M' => ?_)
  · show lp_R_shifting_234 v3 v5 v7 K (m + 1) (nI i) M' = lp_R_shifting_234 v3 v5 v7 K m (nI (i + 1)) _
    have e1 : M'.2.1 131 i = M.2.1 131 i := by rw [e]; rfl
    rw [lp_R_shifting_234, if_neg (show ¬ (10 : Int32) ≤ nI i from nI_ge (b := 10) hi (by decide)), pp_jn]
    dsimp only
    rw [mm_al_108, show mm_al 131 = 10 from rfl, pp_in hi (by decide), if_pos rfl, if_pos rfl, nI_clamp (by omega), e1, nI_1, pp_let, pp_let, Nat.zero_add]
    by_cases h3 : v3 = 11
    · rw [if_pos h3]
      by_cases h5 : v5 = -1
      · rw [if_pos h5]
      · exact absurd ⟨h3, h5⟩ h
    · rw [if_neg h3]
  · show lp_R_shifting_234 v3 v5 v7 K (m + 1) (nI 10) M' = _
    rw [lp_R_shifting_234, if_pos (by decide)]
theorem sr_stay {v3 v5 v7 : Int32} {K : mm_M → Option (Int32 × mm_M)} (M : mm_M) (h : v3 = 11 ∧ ¬ v5 = -1) : lp_R_shifting_234 v3 v5 v7 K mm_fu 0 M = K M := by
  rw [show mm_fu = 4999 + 1 from rfl, lp_R_shifting_234, if_neg (by decide), pp_jn, if_pos h.1, if_neg h.2]
/-- the class writes the shifts down -/
theorem sh_shiftAll (hu : u < 1024) {c : Nat} (hH : ss_RH S M) (h95 : ∀ x, x < 10 → u.testBit x = true → M.2.1 95 x = (zA S u k c).2 9 x) : ∃ M1, f_Mover_shiftAll (nI u) M = some ((), M1) ∧ ss_RH (zA S u k c) M1 ∧ ss_h M M1 ∧ M1.1 = M.1 ∧ ∀ o, o ≠ 31 → M1.2.1 o = M.2.1 o := by
  have key : ∀ q b M', b + q = 10 → (∀ o, o ≠ 31 → M'.2.1 o = M.2.1 o) → M'.2.2 = M.2.2 → M'.1 = M.1 → (∀ x, x < b → u.testBit x = true → M'.2.1 31 x = (zA S u k c).2 9 x) → (∀ x, x < 10 → (b ≤ x ∨ u.testBit x = false) → M'.2.1 31 x = S.2 9 x) → ∀ m, ∃ M1, lp_Mover_shiftAll_2 (nI u) (fun (M_6 : mm_M) => some ((), M_6)) (m + q + 1) (nI b) M' = some ((), M1) ∧ (∀ o, o ≠ 31 → M1.2.1 o = M.2.1 o) ∧ M1.2.2 = M.2.2 ∧ M1.1 = M.1 ∧ (∀ x, x < 10 → u.testBit x = true → M1.2.1 31 x = (zA S u k c).2 9 x) ∧ (∀ x, x < 10 → u.testBit x = false → M1.2.1 31 x = S.2 9 x) := by
    intro q
    induction q with
    | zero =>
      intro b M' hb h1 h2 h3 h4 h5 m
      have : b = 10 := by omega
      subst this
      refine ⟨M', ?_, h1, h2, h3, h4, fun x hx hm => h5 x hx (Or.inr hm)⟩
      rw [show m + 0 + 1 = m + 1 from rfl, lp_Mover_shiftAll_2, if_pos (by decide)]
    | succ q ih =>
      intro b M' hb h1 h2 h3 h4 h5 m
      rw [show m + (q + 1) + 1 = (m + q + 1) + 1 from rfl, lp_Mover_shiftAll_2, if_neg (show ¬ (10 : Int32) ≤ nI b from nI_ge (b := 10) (by omega) (by decide)), sh_isIn (by omega), pp_has_k (by omega), pp_bd, pp_jn]
      by_cases hm : u.testBit b = true
      · have e95 : M'.2.1 95 b = (zA S u k c).2 9 b := by rw [h1 95 (by decide)]; exact h95 b (by omega) hm
        rw [if_pos hm, show mm_al 95 = 10 from rfl, mm_al_31, pp_in (by omega) (by decide), if_pos rfl, if_pos rfl, nI_clamp (by omega), e95, pp_let]
        dsimp only
        rw [nI_1, pp_let]
        refine ih (b + 1) _ (by omega) (fun o ho => (ss_seta_ne ho).trans (h1 o ho)) h2 h3 (fun x hx hmx => ?_) (fun x hx hmx => ?_) m
        · rw [pp_sa]
          by_cases e : x = b
          · rw [if_pos ⟨rfl, e⟩, e]
          · rw [if_neg (fun z => e z.2)]; exact h4 x (by omega) hmx
        · rw [pp_sa, if_neg (fun z => by
            rcases hmx with y | y
            · omega
            · rw [z.2, hm] at y; cases y)]
          exact h5 x hx (hmx.imp (fun y => by omega) id)
      · have hm' : u.testBit b = false := by
          cases hq : u.testBit b
          · rfl
          · exact absurd hq hm
        rw [hm', if_neg (by decide)]
        dsimp only
        rw [nI_1, pp_let]
        refine ih (b + 1) M' (by omega) h1 h2 h3 (fun x hx hmx => h4 x (by
          rcases Nat.lt_or_ge x b with z | z
          · exact z
          · exact absurd (show u.testBit b = true from by rw [show b = x by omega]; exact hmx) hm) hmx) (fun x hx hmx => h5 x hx (hmx.imp (fun y => by omega) id)) m
  obtain ⟨M1, a1, a2, a3, a4, a5, a6⟩ := key 10 0 M rfl (fun _ _ => rfl) rfl rfl (fun x hx => by omega) (fun x hx _ => hH.2 9 (by decide) x hx) 4989
  refine ⟨M1, a1, ⟨fun q hq => by rw [a4]; exact hH.1 q hq, fun a ha j hj => ?_⟩, ⟨fun o ho => ⟨by rw [a4], a2 o (by omega), by rw [a3]⟩, fun o _ _ => a2 o (by omega)⟩, a4, a2⟩
  by_cases e : a = 9
  · subst e
    have hj10 : j < 10 := hj
    show M1.2.1 31 j = (zA S u k c).2 9 j
    cases hq : u.testBit j
    · rw [a6 j hj10 hq, zA_n (by rw [hq]; decide)]
    · exact a5 j hj10 hq
  · have hne : (ss_ha a j).1 ≠ 31 := fun z => by
      unfold ss_ha at z
      by_cases h1 : a = 1
      · rw [if_pos h1] at z
        have hj : j < 864 := by rw [h1] at hj; exact hj
        have z : 6 + j / 72 = 31 := z
        omega
      · rw [if_neg h1] at z
        exact e (ss_ao_inj a ha h1 9 (by decide) (by decide) z)
    rw [a2 _ hne, hH.2 a ha j hj, zA_a e]
end SHIFTO
