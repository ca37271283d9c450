/-! count, feed -/
theorem pp_rem {a d : Nat} (ha : a < 2 ^ 31) (h0 : 0 < d) (hd : d < 2 ^ 31) : mm_rem (nI a) (nI d) = nI (a % d) := pk_rem ha h0 hd
theorem ii_ltN {a b : Nat} (ha : a < 2 ^ 31) (hb : b < 2 ^ 31) : nI a < nI b ↔ a < b := nI_ltI ha hb
section COUNT
variable {Q : Int32 → (Nat → Nat → Int32) → Prop}
theorem i_49 : (49 : Int32).toInt = 49 := rfl
theorem i_50 : (50 : Int32).toInt = 50 := rfl
theorem i_60 : (60 : Int32).toInt = 60 := rfl
theorem i_20 : (20 : Int32).toInt = 20 := rfl
theorem i_30 : (30 : Int32).toInt = 30 := rfl
theorem i_40 : (40 : Int32).toInt = 40 := rfl
/-- what count tells beyond the first six -/
def pp_co (S : ss_S) (s n a : Nat) : Int32 :=
  if 50 ≤ a then (if a - 50 < n then S.2 2 (a - 50) else -1)
  else if s.testBit (a % 10) = true then (if 40 ≤ a then S.2 9 (a - 40) + 3 else if 30 ≤ a then S.2 8 (a - 30) else if 20 ≤ a then S.2 7 (a - 20) else S.2 6 (a - 10)) else -1
theorem sh_countOfOne {S : ss_S} {M : mm_M} (hH : ss_RH S M) {s n a : Nat} (hs : s < 1024) (h5 : S.1 5 = nI s) (hn : n ≤ 10) (h2 : S.1 2 = nI n) (h10 : 10 ≤ a) (ha : a < 60) : f_H_countOfOne (nI a) M = some (pp_co S s n a, M) := by
  have e22 : M.1 22 1 = nI n := (hH.1 2 (by decide)).trans h2
  have at' : ∀ r o, r < 14 → r ≠ 1 → ss_ao r = o → ∀ j, j < ss_len r → M.2.1 o j = S.2 r j := fun r o hr h1 ho j hj => by
    have h := hH.2 r hr j hj
    rw [show ss_ha r j = (ss_ao r, j) from if_neg h1, ho] at h
    exact h
  have em : mm_rem (nI a) 10 = nI (a % 10) := pp_rem (d := 10) (by omega) (by decide) (by decide)
  have hm : a % 10 < 10 := Nat.mod_lt _ (by decide)
  unfold f_H_countOfOne
  rw [if_neg (show ¬ nI a < 10 from nI_nlt (b := 10) h10 (by omega)), if_pos (show nI a < 60 from nI_lt (b := 60) ha (by decide)), pp_let, em]
  unfold pp_co
  by_cases h50 : 50 ≤ a
  · rw [if_neg (show ¬ nI a < 50 from nI_nlt (b := 50) h50 (by omega)), if_pos h50, e22]
    have e5 : a % 10 = a - 50 := by omega
    by_cases hr : a - 50 < n
    · rw [if_neg (show ¬ nI n ≤ nI (a % 10) from nI_ge (by omega) (by omega)), show mm_al 23 = 10 from rfl, pp_in hm (by decide), if_pos rfl, nI_clamp (by omega), at' 2 23 (by decide) (by decide) rfl _ hm, if_pos hr, e5]
    · rw [if_pos (show nI n ≤ nI (a % 10) from nI_le (by omega) (by omega)), if_neg hr]
  · rw [if_pos (show nI a < 50 from nI_lt (b := 50) (by omega) (by decide)), if_neg h50, sh_has hH hs h5, pp_bd, pp_has_k (by omega)]
    cases ht : s.testBit (a % 10) with
    | false => simp
    | true =>
      rw [if_pos rfl, if_pos rfl, show mm_al 31 = 10 from rfl, show mm_al 30 = 10 from rfl, show mm_al 29 = 10 from rfl, show mm_al 28 = 10 from rfl, pp_in hm (by decide), nI_clamp (show a % 10 < 2 ^ 31 by omega), at' 9 31 (by decide) (by decide) rfl _ hm, at' 8 30 (by decide) (by decide) rfl _ hm, at' 7 29 (by decide) (by decide) rfl _ hm, at' 6 28 (by decide) (by decide) rfl _ hm]
      simp only [if_pos]
      by_cases h20 : 20 ≤ a
      · rw [if_pos (show (20 : Int32) ≤ nI a from nI_le (a := 20) h20 (by omega))]
        by_cases h30 : 30 ≤ a
        · rw [if_pos (show (30 : Int32) ≤ nI a from nI_le (a := 30) h30 (by omega))]
          by_cases h40 : 40 ≤ a
          · rw [if_pos (show (40 : Int32) ≤ nI a from nI_le (a := 40) h40 (by omega)), if_pos h40, show a % 10 = a - 40 by omega]
          · rw [if_neg (show ¬ (40 : Int32) ≤ nI a from nI_ge (b := 40) (by omega) (by decide)), if_neg h40, if_pos h30, show a % 10 = a - 30 by omega]
        · rw [if_neg (show ¬ (30 : Int32) ≤ nI a from nI_ge (b := 30) (by omega) (by decide)), if_neg (by omega), if_neg h30, if_pos h20, show a % 10 = a - 20 by omega]
      · rw [if_neg (show ¬ (20 : Int32) ≤ nI a from nI_ge (b := 20) (by omega) (by decide)), if_neg (by omega), if_neg (by omega), if_neg h20, show a % 10 = a - 10 by omega]
theorem p_count : ok_count (ss_I Q) := by
  intro v M hI
  obtain ⟨S, hI⟩ := hI
  obtain ⟨ho, hH, hR, -⟩ := id hI
  obtain ⟨s, hs, h5⟩ := ho.n 5 (by decide)
  have hs : (s : Int) ≤ 1023 := hs
  obtain ⟨n, hn, h2⟩ := ho.n 2 (by decide)
  have hn : (n : Int) ≤ 10 := hn
  have six : ∀ (c : Int32) (k : Nat), k < 11 → f_H_count c M = some (S.1 k, M) → (∀ M1, ss_RR S M1 → f_R_count c M1 = some (S.1 k, M1)) → ∃ (r : Int32) (M1 M2 : mm_M), f_H_count c M = some (r, M1) ∧ f_R_count c M1 = some (r, M2) ∧ ss_I Q M2 := fun c k hk e1 e2 =>
    ss_same (r := S.1 k) hI ⟨M, e1, hH, ss_h.rf⟩ (fun M1 hR1 => ⟨M1, e2 M1 hR1, hR1, ss_r.rf⟩)
  have e1 : ∀ k, k < 11 → M.1 (ss_so k).1 (ss_so k).2 = ss_sk S k := hH.1
  by_cases v0 : v = 0
  · subst v0
    exact six 0 1 (by decide) (by simp only [f_H_count, if_pos]; rw [show M.1 4 3 = S.1 1 from e1 1 (by decide)]) (fun M1 hR1 => by simp only [f_R_count, if_pos]; rw [show M1.1 97 6 = S.1 1 from hR1.1 1 (by decide)])
  by_cases v1 : v = 1
  · subst v1
    exact six 1 2 (by decide) (by unfold f_H_count; rw [if_neg (by decide), if_pos rfl, show M.1 22 1 = S.1 2 from e1 2 (by decide)]) (fun M1 hR1 => by unfold f_R_count; rw [if_neg (by decide), if_pos rfl, show M1.1 97 9 = S.1 2 from hR1.1 2 (by decide)])
  by_cases v2 : v = 2
  · subst v2
    exact six 2 5 (by decide) (by unfold f_H_count; rw [if_neg (by decide), if_neg (by decide), if_pos rfl, show M.1 27 0 = S.1 5 from e1 5 (by decide)]) (fun M1 hR1 => by unfold f_R_count; rw [if_neg (by decide), if_neg (by decide), if_pos rfl, show M1.1 97 12 = S.1 5 from hR1.1 5 (by decide)])
  by_cases v3 : v = 3
  · subst v3
    exact six 3 10 (by decide) (by unfold f_H_count; rw [if_neg (by decide), if_neg (by decide), if_neg (by decide), if_pos rfl, show M.1 37 7 = S.1 10 from e1 10 (by decide)]) (fun M1 hR1 => by unfold f_R_count; rw [if_neg (by decide), if_neg (by decide), if_neg (by decide), if_pos rfl, show M1.1 97 26 = S.1 10 from hR1.1 10 (by decide)])
  by_cases v4 : v = 4
  · subst v4
    exact six 4 0 (by decide) (by unfold f_H_count; rw [if_neg (by decide), if_neg (by decide), if_neg (by decide), if_neg (by decide), if_pos rfl]; unfold f_Tape_size; rw [pp_bd, show M.1 1 1 = S.1 0 from e1 0 (by decide)]) (fun M1 hR1 => by unfold f_R_count; rw [if_neg (by decide), if_neg (by decide), if_neg (by decide), if_neg (by decide), if_pos rfl, show M1.1 97 1 = S.1 0 from hR1.1 0 (by decide)])
  by_cases v5 : v = 5
  · subst v5
    exact six 5 6 (by decide) (by unfold f_H_count; rw [if_neg (by decide), if_neg (by decide), if_neg (by decide), if_neg (by decide), if_neg (by decide), if_pos rfl, show M.1 27 5 = S.1 6 from e1 6 (by decide)]) (fun M1 hR1 => by unfold f_R_count; rw [if_neg (by decide), if_neg (by decide), if_neg (by decide), if_neg (by decide), if_neg (by decide), if_pos rfl, show M1.1 97 13 = S.1 6 from hR1.1 6 (by decide)])
  have uH : f_H_count v M = mm_bd (f_H_countOfOne v M) (fun r_3 M_4 => some (r_3, M_4)) := by
    unfold f_H_count; rw [if_neg v0, if_neg v1, if_neg v2, if_neg v3, if_neg v4, if_neg v5]
  by_cases hv : 10 ≤ v.toInt ∧ v.toInt < 60
  · obtain ⟨a, ha, rfl⟩ := ii_nat (v := v) (n := 60) (by omega) (by omega) (by decide)
    rw [nI_toInt (by omega)] at hv
    have h10 : 10 ≤ a := by omega
    refine ss_same (r := pp_co S s n a) hI ⟨M, ?_, hH, ss_h.rf⟩ (fun M1 hR1 => ⟨M1, ?_, hR1, ss_r.rf⟩)
    · rw [uH, sh_countOfOne hH (by omega) h5 (by omega) h2 h10 ha, pp_bd]
    · have e9 : M1.1 97 9 = nI n := (hR1.1 2 (by decide)).trans h2
      have at' : ∀ r o, r < 14 → r ≠ 0 → ss_ra r = o → ∀ j, j < ss_len r → M1.2.1 o j = S.2 r j := fun r o hr h1 ho j hj => by
        have h := hR1.2 r hr j hj
        rw [ho] at h
        rw [h]
        exact if_neg h1
      have em : mm_rem (nI a) 10 = nI (a % 10) := pp_rem (d := 10) (by omega) (by decide) (by decide)
      have hsub : ∀ c : Nat, c ≤ a → nI a - nI c = nI (a - c) := fun c hc => pk_sub hc
      unfold f_R_count
      rw [if_neg v0, if_neg v1, if_neg v2, if_neg v3, if_neg v4, if_neg v5, sr_in, pp_bd, e9, i_50, show (49 : Int32) + nI n = nI (49 + n) from nI_add 49 n, nI_toInt (show a < 2 ^ 31 by omega), nI_toInt (show 49 + n < 2 ^ 31 by omega)]
      unfold pp_co
      by_cases h50 : 50 ≤ a
      · rw [if_pos h50]
        by_cases hr : a - 50 < n
        · rw [decide_eq_true (by omega), if_pos rfl, show nI a - 50 = nI (a - 50) from hsub 50 h50, show mm_al 101 = 10 from rfl, pp_in (by omega) (by decide), if_pos rfl, nI_clamp (by omega), at' 2 101 (by decide) (by decide) rfl _ (by show _ < 10; omega), if_pos hr]
        · rw [decide_eq_false (by omega), if_neg (by simp), sr_in, pp_bd, show (10 : Int32).toInt = 10 from rfl, i_49, nI_toInt (show a < 2 ^ 31 by omega), decide_eq_false (by omega), if_neg (by simp), if_neg hr]
      · rw [if_neg h50, decide_eq_false (by omega), if_neg (by simp), sr_in, pp_bd, show (10 : Int32).toInt = 10 from rfl, i_49, nI_toInt (show a < 2 ^ 31 by omega), decide_eq_true (by omega), if_pos rfl, em, sr_isStay hR1 (by omega) h5, pp_bd, pp_has_k (show a % 10 < 12 by omega)]
        cases ht : s.testBit (a % 10) with
        | false => simp
        | true =>
          rw [if_pos rfl, if_pos rfl, show mm_al 108 = 10 from rfl, show mm_al 107 = 10 from rfl, show mm_al 106 = 10 from rfl, show mm_al 105 = 10 from rfl]
          by_cases h20 : 20 ≤ a
          · rw [if_pos (show (20 : Int32) ≤ nI a from nI_le (a := 20) h20 (by omega))]
            by_cases h30 : 30 ≤ a
            · rw [if_pos (show (30 : Int32) ≤ nI a from nI_le (a := 30) h30 (by omega))]
              by_cases h40 : 40 ≤ a
              · rw [if_pos (show (40 : Int32) ≤ nI a from nI_le (a := 40) h40 (by omega)), if_pos h40, show nI a - 40 = nI (a - 40) from hsub 40 h40, pp_in (by omega) (by decide), if_pos rfl, nI_clamp (by omega), at' 9 108 (by decide) (by decide) rfl _ (by show _ < 10; omega)]
              · rw [if_neg (show ¬ (40 : Int32) ≤ nI a from nI_ge (b := 40) (by omega) (by decide)), if_neg h40, if_pos h30, show nI a - 30 = nI (a - 30) from hsub 30 h30, pp_in (by omega) (by decide), if_pos rfl, nI_clamp (by omega), at' 8 107 (by decide) (by decide) rfl _ (by show _ < 10; omega)]
            · rw [if_neg (show ¬ (30 : Int32) ≤ nI a from nI_ge (b := 30) (by omega) (by decide)), if_neg (show ¬ 40 ≤ a by omega), if_neg h30, if_pos h20, show nI a - 20 = nI (a - 20) from hsub 20 h20, pp_in (by omega) (by decide), if_pos rfl, nI_clamp (by omega), at' 7 106 (by decide) (by decide) rfl _ (by show _ < 10; omega)]
          · rw [if_neg (show ¬ (20 : Int32) ≤ nI a from nI_ge (b := 20) (by omega) (by decide)), if_neg (show ¬ 40 ≤ a by omega), if_neg (show ¬ 30 ≤ a by omega), if_neg h20, show nI a - 10 = nI (a - 10) from hsub 10 h10, pp_in (by omega) (by decide), if_pos rfl, nI_clamp (by omega), at' 6 105 (by decide) (by decide) rfl _ (by show _ < 10; omega)]
  · refine ss_same (r := -1) hI ⟨M, ?_, hH, ss_h.rf⟩ (fun M1 hR1 => ⟨M1, ?_, hR1, ss_r.rf⟩)
    · rw [uH]
      unfold f_H_countOfOne
      simp only [ii_lt, i_10, i_60]
      by_cases h1 : v.toInt < 10
      · rw [if_pos h1, pp_bd]
      · rw [if_neg h1, if_neg (by omega), pp_bd]
    · have e9 : M1.1 97 9 = nI n := (hR1.1 2 (by decide)).trans h2
      unfold f_R_count
      rw [if_neg v0, if_neg v1, if_neg v2, if_neg v3, if_neg v4, if_neg v5, sr_in, pp_bd, e9, i_50, show (49 : Int32) + nI n = nI (49 + n) from nI_add 49 n, nI_toInt (show 49 + n < 2 ^ 31 by omega), decide_eq_false (by omega), if_neg (by simp), sr_in, pp_bd, show (10 : Int32).toInt = 10 from rfl, i_49, decide_eq_false (by omega), if_neg (by simp)]
end COUNT
