/-! shifting: the reference -/
section SHIFTR
variable {S : ss_S} {u k s : Nat} {M M0 : mm_M}
/-- who is in a set, in order -/
def wo (u n : Nat) (M : mm_M) : Prop := M.1 97 57 = nI (pp_cn u n) ∧ ∀ x, x < n → u.testBit x = true → M.2.1 128 (pp_cn u x) = nI x
theorem pp_cn_s {u b : Nat} : pp_cn u (b + 1) = pp_cn u b + if u.testBit b = true then 1 else 0 := by rw [pp_cn, pp_bit01]
theorem pp_cn_in {u x b : Nat} (hx : x < b) (hm : u.testBit x = true) : pp_cn u x < pp_cn u b := by
  have h := pp_cn_up u (b := x + 1) (b - (x + 1))
  rw [show x + 1 + (b - (x + 1)) = b by omega, pp_cn_s, if_pos hm] at h
  omega
theorem sr_who (hu : u < 1024) (M : mm_M) : ∃ M1, f_R_laysWho (nI u) M = some ((), M1) ∧ wo u 10 M1 ∧ (∀ o, o ≠ 128 → M1.2.1 o = M.2.1 o) ∧ M1.2.2 = M.2.2 ∧ ∀ o q, ¬ (o = 97 ∧ q = 57) → M1.1 o q = M.1 o q := by
  have key : ∀ q b M', b + q = 10 → wo u b M' → (∀ o, o ≠ 128 → M'.2.1 o = M.2.1 o) → M'.2.2 = M.2.2 → (∀ o q, ¬ (o = 97 ∧ q = 57) → M'.1 o q = M.1 o q) → ∀ m, ∃ M1, lp_R_laysWho_7 (nI u) (fun (M_8 : mm_M) => some ((), M_8)) (m + q + 1) (nI b) M' = some ((), M1) ∧ wo u 10 M1 ∧ (∀ o, o ≠ 128 → M1.2.1 o = M.2.1 o) ∧ M1.2.2 = M.2.2 ∧ ∀ o q, ¬ (o = 97 ∧ q = 57) → M1.1 o q = M.1 o q := by
    intro q
    induction q with
    | zero =>
      intro b M' hb hw h1 h2 h3 m
      have : b = 10 := by omega
      subst this
      refine ⟨M', ?_, hw, h1, h2, h3⟩
      rw [show m + 0 + 1 = m + 1 from rfl, lp_R_laysWho_7, if_pos (by decide)]
    | succ q ih =>
      intro b M' hb hw h1 h2 h3 m
      have hle := pp_cn_le u b
      rw [show m + (q + 1) + 1 = (m + q + 1) + 1 from rfl, lp_R_laysWho_7, if_neg (show ¬ (10 : Int32) ≤ nI b from nI_ge (b := 10) (by omega) (by decide)), sr_has (by omega) (by omega), pp_bd, pp_jn]
      by_cases hm : u.testBit b = true
      · have e57 : ∀ v, (mm_setA M' 128 (pp_cn u b) v).1 97 57 = nI (pp_cn u b) := fun v => hw.1
        rw [if_pos hm, hw.1, show mm_al 128 = 10 from rfl, pp_in (by omega) (by decide), if_pos rfl, nI_clamp (by omega), pp_let, e57, nI_1, pp_let]
        dsimp only
        rw [nI_1, pp_let]
        refine ih (b + 1) (mm_setI (mm_setA M' 128 (pp_cn u b) (nI b)) 97 57 (nI (pp_cn u b + 1))) (by omega) ⟨?_, fun x hx hmx => ?_⟩ (fun o ho => (ss_seta_ne ho).trans (h1 o ho)) h2 (fun o z hz => ?_) m
        · show nI (pp_cn u b + 1) = _
          rw [pp_cn_s, if_pos hm]
        · show (if 128 = 128 ∧ pp_cn u x = pp_cn u b then nI b else M'.2.1 128 (pp_cn u x)) = _
          by_cases e : x = b
          · rw [e, if_pos ⟨rfl, rfl⟩]
          · have := pp_cn_in (show x < b by omega) hmx
            rw [if_neg (fun z => by omega)]
            exact hw.2 x (by omega) hmx
        · show (if o = 97 ∧ z = 57 then _ else M'.1 o z) = _
          rw [if_neg hz]; exact h3 o z hz
      · have hm' : u.testBit b = false := by
          cases hq : u.testBit b
          · rfl
          · exact absurd hq hm
        rw [hm', if_neg (by decide)]
        dsimp only
        rw [nI_1, pp_let]
        refine ih (b + 1) M' (by omega) ⟨?_, fun x hx hmx => hw.2 x (by
          rcases Nat.lt_or_ge x b with z | z
          · exact z
          · exact absurd (show u.testBit b = true from by rw [show b = x by omega]; exact hmx) hm) hmx⟩ h1 h2 h3 m
        rw [pp_cn_s, if_neg hm, Nat.add_zero]; exact hw.1
  unfold f_R_laysWho
  rw [pp_let]
  exact key 10 0 (mm_setI M 97 57 0) rfl ⟨rfl, fun x hx => by omega⟩ (fun _ _ => rfl) rfl (fun o q hq => by
    show (if o = 97 ∧ q = 57 then _ else M.1 o q) = _
    rw [if_neg hq]) 4989
def rq (S : ss_S) (u : Nat) (M : mm_M) : Prop := (∀ k, k < 11 → M.1 (ss_ro k).1 (ss_ro k).2 = S.1 k) ∧ ∀ a, a < 14 → ∀ j, j < ss_len a → ¬ (a = 9 ∧ j < 10 ∧ u.testBit j = true) → M.2.1 (ss_ra a) j = ss_rv a (S.2 a j)
def oS (S : ss_S) (M : mm_M) : Prop := ∀ x, x < 10 → M.2.1 131 x = S.2 9 x
theorem rq_of {code : Nat} (h : ss_RR (zA S u k code) M) : rq S u M := ⟨h.1, fun a ha j hj hn => by rw [h.2 a ha j hj]; congr 1; exact if_neg hn⟩
theorem zn_k : ∀ k, k < 3 → (2 : Int32) * nI k + 1 = nI (2 * k + 1) := by decide +kernel
theorem zn_in : ∀ a, a < 7 → ∀ d, d < 5 → ∀ k, k < 3 → (((-3 : Int32).toInt ≤ (nI a - 3 + (nI d - nI k)).toInt ∧ (nI a - 3 + (nI d - nI k)).toInt ≤ (3 : Int32).toInt) ↔ (k ≤ a + d ∧ a + d ≤ 6 + k)) := by decide +kernel
theorem sr_shiftsBy (ho : ss_Ok S) (hk : k ≤ 2) (hR : rq S u M) (hO : oS S M) (hW : wo u 10 M) {code : Nat} (hc : code < 5000) : ∃ M1, f_R_shiftsBy (nI code) (nI k) M = some (nI (zH S u k 10 code), M1) ∧ ss_RR (zA S u k code) M1 ∧ fr 108 108 M M1 := by
  have hK : 0 < 2 * k + 1 := by omega
  have key : ∀ x hs M', x ≤ 10 → fr 108 108 M M' → (∀ y, x ≤ y → y < 10 → u.testBit y = true → M'.2.1 108 y = (zA S u k code).2 9 y) → (∀ y, y < 10 → u.testBit y = false → M'.2.1 108 y = S.2 9 y) → ∀ m, ∃ M1, lp_R_shiftsBy_13 (nI k) (fun (v4 : Int32) (M_13 : mm_M) => some (v4, M_13)) (m + pp_cn u x + 1) (nI (code / zp u (2 * k + 1) x)) (nI hs) (nI (pp_cn u x) - 1) M' = some (nI (hs + zH S u k x code), M1) ∧ fr 108 108 M M1 ∧ (∀ y, y < 10 → u.testBit y = true → M1.2.1 108 y = (zA S u k code).2 9 y) ∧ (∀ y, y < 10 → u.testBit y = false → M1.2.1 108 y = S.2 9 y) := by
    intro x
    induction x with
    | zero =>
      intro hs M' _ hf h1 h2 m
      refine ⟨M', ?_, hf, fun y hy hm => h1 y (Nat.zero_le _) hy hm, h2⟩
      rw [show pp_cn u 0 = 0 from rfl, show m + 0 + 1 = m + 1 from rfl, lp_R_shiftsBy_13, if_pos (by decide)]
      rfl
    | succ x ih =>
      intro hs M' hx hf h1 h2 m
      have hx10 : x < 10 := by omega
      have hle := pp_cn_le u x
      by_cases hm : u.testBit x = true
      · have hcn : pp_cn u (x + 1) = pp_cn u x + 1 := by rw [pp_cn_s, if_pos hm]
        have hP : zp u (2 * k + 1) x = (2 * k + 1) * zp u (2 * k + 1) (x + 1) := by rw [zp_b hx10, if_pos hm]
        have hd := zd_lt (u := u) (K := 2 * k + 1) (b := x) (code := code) hK
        have hsf := pp_sf_e ho hx10
        have hlt : code / zp u (2 * k + 1) (x + 1) < 2 ^ 31 := Nat.lt_of_le_of_lt (Nat.div_le_self _ _) (by omega)
        have ew : M'.2.1 128 (pp_cn u x) = nI x := by rw [hf.2.2 128 (by decide)]; exact hW.2 x hx10 hm
        have eo : M'.2.1 131 x = S.2 9 x := by rw [hf.2.2 131 (by decide)]; exact hO x hx10
        have edg : mm_rem (nI (code / zp u (2 * k + 1) (x + 1))) (nI (2 * k + 1)) = nI (zd u (2 * k + 1) x code) := pp_rem hlt hK (by omega)
        have ediv : nI (code / zp u (2 * k + 1) (x + 1)) / nI (2 * k + 1) = nI (code / zp u (2 * k + 1) x) := by
          rw [pk_div hlt hK (by omega), Nat.div_div_eq_div_mul, hP, Nat.mul_comm (2 * k + 1)]
        have e128 : ∀ v, (mm_setA M' 108 x v).2.1 128 (pp_cn u x) = nI x := fun v => by rw [ss_seta_ne (by decide)]; exact ew
        have e108 : ∀ v, (mm_setA M' 108 x v).2.1 108 x = v := fun v => by rw [pp_sa, if_pos ⟨rfl, rfl⟩]
        have esz : ∀ M'', f_R_size (nI (zd u (2 * k + 1) x code) - nI k) M'' = some (nI (zv k (zd u (2 * k + 1) x code)), M'') := fun M'' => by
          unfold f_R_size
          rw [← zn_by _ (by omega) k (by omega)]
          split <;> rfl
        rw [hcn, show m + (pp_cn u x + 1) + 1 = (m + pp_cn u x + 1) + 1 from rfl, nI_pred, lp_R_shiftsBy_13, if_neg (nI_pos (by omega)), zn_k k (by omega), if_neg (nI_ne0 (by omega) (by omega)), edg, pp_let, if_neg (nI_ne0 (by omega) (by omega)), ediv, pp_let, show mm_al 128 = 10 from rfl, show mm_al 131 = 10 from rfl, mm_al_108, pp_in (by omega) (by decide), if_pos rfl, if_pos rfl, nI_clamp (show pp_cn u x < 2 ^ 31 by omega), ew, pp_in hx10 (by decide), if_pos rfl, if_pos rfl, nI_clamp (by omega), eo, pp_let, esz, pp_bd, nI_add, pp_let, if_pos rfl, e128, pp_in hx10 (by decide), if_pos rfl, nI_clamp (by omega), e108, sr_in, pp_bd, pp_jn]
        have hv9 : S.2 9 x + (nI (zd u (2 * k + 1) x code) - nI k) = (zA S u k code).2 9 x := (zA_9 hx10 hm).symm
        have hzc : zc S u k x code = zv k (zd u (2 * k + 1) x code) + (if k ≤ pp_sf S x + zd u (2 * k + 1) x code ∧ pp_sf S x + zd u (2 * k + 1) x code ≤ 6 + k then 0 else 100) := by unfold zc; rw [if_pos hm]
        have hzv : zv k (zd u (2 * k + 1) x code) ≤ 2 := by unfold zv; split <;> omega
        have hx1 : ∀ y, x ≤ y → y < 10 → u.testBit y = true → (mm_setA M' 108 x (S.2 9 x + (nI (zd u (2 * k + 1) x code) - nI k))).2.1 108 y = (zA S u k code).2 9 y := fun y hy hy10 hmy => by
          rw [pp_sa]
          by_cases e : y = x
          · rw [if_pos ⟨rfl, e⟩, e]; exact hv9
          · rw [if_neg (fun z => e z.2)]; exact h1 y (by omega) hy10 hmy
        have hx2 : ∀ y, y < 10 → u.testBit y = false → (mm_setA M' 108 x (S.2 9 x + (nI (zd u (2 * k + 1) x code) - nI k))).2.1 108 y = S.2 9 y := fun y hy10 hmy => by
          rw [pp_sa, if_neg (fun z => by rw [z.2, hm] at hmy; cases hmy)]
          exact h2 y hy10 hmy
        have hdec : nI (pp_cn u x) + (-1) = nI (pp_cn u x) - 1 := by rw [Int32.sub_eq_add_neg]
        by_cases hr : k ≤ pp_sf S x + zd u (2 * k + 1) x code ∧ pp_sf S x + zd u (2 * k + 1) x code ≤ 6 + k
        · rw [if_pos hr] at hzc
          rw [if_pos (by rw [hsf.1]; exact decide_eq_true ((zn_in _ hsf.2 _ (by omega) k (by omega)).mpr hr))]
          dsimp only
          rw [hdec, pp_let]
          obtain ⟨M1, a1, a2⟩ := ih (hs + zv k (zd u (2 * k + 1) x code)) _ (by omega) (hf.a (by decide)) hx1 hx2 m
          refine ⟨M1, a1.trans ?_, a2⟩
          rw [zH, hzc]
          congr 3
          omega
        · rw [if_neg hr] at hzc
          rw [if_neg (by rw [hsf.1]; exact fun z => hr ((zn_in _ hsf.2 _ (by omega) k (by omega)).mp (of_decide_eq_true z))), show (100 : Int32) = nI 100 from rfl, nI_add, pp_let]
          dsimp only
          rw [hdec, pp_let]
          obtain ⟨M1, a1, a2⟩ := ih (hs + zv k (zd u (2 * k + 1) x code) + 100) _ (by omega) (hf.a (by decide)) hx1 hx2 m
          refine ⟨M1, a1.trans ?_, a2⟩
          rw [zH, hzc]
          congr 3
          omega
      · have hm' : u.testBit x = false := by
          cases hq : u.testBit x
          · rfl
          · exact absurd hq hm
        have hcn : pp_cn u (x + 1) = pp_cn u x := by rw [pp_cn_s, if_neg hm, Nat.add_zero]
        have hP : zp u (2 * k + 1) x = zp u (2 * k + 1) (x + 1) := by rw [zp_b hx10, if_neg hm, Nat.one_mul]
        have hzc : zc S u k x code = 0 := by unfold zc; rw [if_neg hm]
        rw [hcn, ← hP, zH, hzc, Nat.add_zero]
        exact ih hs M' (by omega) hf (fun y hy hy10 hmy => h1 y (by
          rcases Nat.lt_or_ge x y with z | z
          · omega
          · exact absurd (show u.testBit x = true from by rw [show x = y by omega]; exact hmy) hm) hy10 hmy) h2 m
  have hle := pp_cn_le u 10
  unfold f_R_shiftsBy
  rw [hW.1, pp_let]
  obtain ⟨M1, a1, a2, a3, a4⟩ := key 10 0 M (Nat.le_refl _) fr.rf (fun y hy hy10 _ => by omega) (fun y hy10 hmy => (hR.2 9 (by decide) y hy10 (fun z => by rw [z.2.2] at hmy; cases hmy)).trans rfl) (4999 - pp_cn u 10)
  rw [show 4999 - pp_cn u 10 + pp_cn u 10 + 1 = mm_fu from by show _ = 5000; omega, zp_10, Nat.div_one, Nat.zero_add] at a1
  refine ⟨M1, a1, ⟨fun q hq => by rw [a2.1]; exact hR.1 q hq, fun a ha j hj => ?_⟩, a2⟩
  by_cases e : a = 9
  · subst e
    have hj10 : j < 10 := hj
    show M1.2.1 108 j = (zA S u k code).2 9 j
    cases hq : u.testBit j
    · rw [a4 j hj10 hq, zA_n (by rw [hq]; decide)]
    · exact a3 j hj10 hq
  · have hne : ss_ra a ≠ 108 := fun z => e (ss_ra_inj a ha 9 (by decide) z)
    rw [a2.2.2 _ (by omega), hR.2 a ha j hj (fun z => e z.1), zA_a e]
end SHIFTR
