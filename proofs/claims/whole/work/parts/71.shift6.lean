/-! shifting -/
section SHIFTC
variable {S : ss_S} {u k s : Nat} {M M0 : mm_M}
theorem pp_as {α β γ : Type} (x : Option (α × mm_M)) (f : α → mm_M → Option (β × mm_M)) (g : β → mm_M → Option γ) : mm_bd (mm_bd x f) g = mm_bd x (fun a M => mm_bd (f a M) g) := by
  cases x with
  | none => rfl
  | some x => rfl
theorem pp_not {s u : Nat} (hs : s < 1024) : ∃ t, nI s &&& (nI u ^^^ (-1)) = nI t ∧ t < 1024 ∧ ∀ x, x < 10 → t.testBit x = (s.testBit x && !(u.testBit x)) := by
  refine ⟨s &&& (u ^^^ (2 ^ 32 - 1)), ?_, Nat.lt_of_le_of_lt Nat.and_le_left hs, fun x hx => ?_⟩
  · rw [show (-1 : Int32) = nI (2 ^ 32 - 1) from by decide, pp_xorN, pp_andN]
  · rw [Nat.testBit_and, Nat.testBit_xor, Nat.testBit_two_pow_sub_one, decide_eq_true (show x < 32 by omega), Bool.xor_true]
theorem zA_wn {c x kd h : Nat} (hm : ¬ u.testBit x = true) : pp_want (zA S u k c) x kd h = pp_want S x kd h := by
  have e7 : (zA S u k c).2 7 x = S.2 7 x := zA_a (by decide)
  have e1 : ∀ j, (zA S u k c).2 1 j = S.2 1 j := fun j => zA_a (by decide)
  have e9 : (zA S u k c).2 9 x = S.2 9 x := zA_n hm
  unfold pp_want pp_dy pp_sf
  rw [e7, e1, e9]
/-- the class's search, from the beginning -/
theorem sh_findShifts (ho : ss_Ok S) (hH : ss_RH S M) (hs : s < 1024) (h5 : S.1 5 = nI s) (hu : u < 1024) (hu0 : 0 < u) (hus : ∀ x, u.testBit x = true → s.testBit x = true) (hk : k ≤ 2) (hcn : pp_cn u 10 ≤ 5) : ∃ M1, (mm_bd (f_Load_begin M) fun _ M_5 => f_Mover_findShifts (nI u) (nI k) M_5) = some (decide ((zf S u k s (zp u (2 * k + 1) 0) 0 (100, 0)).1 < 100), M1) ∧ zY S u k (zf S u k s (zp u (2 * k + 1) 0) 0 (100, 0)) M1 ∧ ss_m 56 97 M M1 := by
  obtain ⟨L, Ma, a1, a2, a3, a4⟩ := sh_begin ho hH hs h5
  have hHa := hH.lo a3 (by decide)
  rw [a1, pp_bd]
  unfold f_Mover_findShifts
  rw [pp_let, pp_let, pp_let]
  generalize hMb : mm_setI (mm_setI (mm_setI Ma 93 3 (nI u)) 93 7 (nI k)) 93 8 11 = Mb
  have mb : ss_m 56 97 M Mb := by rw [← hMb]; exact (((a3.wd (by decide) (by decide)).s (by decide)).s (by decide)).s (by decide)
  have hHb := hH.lo mb (by decide)
  have lb : ld_I L 0 Mb := ld_I_fr a2 (fun o h1 h2 => ⟨by
    rw [← hMb]
    funext q
    show (if o = 93 ∧ q = 8 then _ else if o = 93 ∧ q = 7 then _ else if o = 93 ∧ q = 3 then _ else Ma.1 o q) = _
    rw [if_neg (fun e => by omega), if_neg (fun e => by omega), if_neg (fun e => by omega)], by rw [← hMb]; rfl⟩)
  obtain ⟨t, t1, t2, t3⟩ := pp_not (s := s) (u := u) hs
  have hF : ∀ q, (∀ x, x < 10 → q.testBit x = true → s.testBit x = true) → ld_F L q := fun q hq x hx hqx => by
    have := (a4 x hx (hq x hx hqx)).1
    obtain ⟨f, hf, e⟩ := pp_fl_e ho hx
    exact ⟨f, hf, this.trans e⟩
  have hts : ∀ x, x < 10 → t.testBit x = true → s.testBit x = true ∧ ¬ u.testBit x = true := fun x hx h => by
    rw [t3 x hx] at h
    simp only [Bool.and_eq_true, Bool.not_eq_true'] at h
    exact ⟨h.1, by rw [h.2]; decide⟩
  obtain ⟨Mc, c1, c2, c3⟩ := sh_turnTo lb t2 (hF 0 (fun x hx h => by rw [Nat.zero_testBit] at h; cases h)) (hF t (fun x hx h => (hts x hx h).1))
  rw [show Mb.1 27 0 = nI s from (hHb.1 5 (by decide)).trans h5, t1, c1, pp_bd]
  have hi71 : ∀ o, 71 ≤ o → Mc.1 o = Mb.1 o ∧ Mc.2.1 o = Mb.2.1 o := fun o h => ⟨(c3 o (by omega)).1, (c3 o (by omega)).2.1⟩
  have hM : zM u k M Mc := ⟨mb.tr (c3.wd (by decide) (by decide)), by rw [(hi71 93 (by decide)).1, ← hMb]; rfl, by rw [(hi71 93 (by decide)).1, ← hMb]; rfl⟩
  have hY : zY S u k (100, 0) Mc := ⟨by rw [(hi71 93 (by decide)).1, ← hMb]; rfl, fun z => absurd z (by decide)⟩
  have hL : zL S u k s 0 0 t L Mc := ⟨c2, ⟨t2, fun x hx => by rw [t3 x hx, decide_eq_false (by omega), Bool.or_false]⟩, fun x hx h kd hr h1 h2 => by
    rw [zA_wn (hts x hx h).2]
    exact (a4 x hx (hts x hx h).1).2 kd hr h1 h2, fun x hx h => (a4 x hx h).1, fun x hx => by omega⟩
  obtain ⟨Md, L1, t4, d1, d2, d3, d4⟩ := sh_zdfs ho hH hs hu hu0 hus hk hcn 10 0 0 Mc (100, 0) L t mm_rd rfl (by decide) (Nat.dvd_zero _) hM hY hL (by decide) (show 0 < 100 by decide) (fun ⟨x, hx, _⟩ => by omega)
  have hq := zQ_f (S := S) (u := u) (k := k) (s := s) (W := zp u (2 * k + 1) 0) (zp u (2 * k + 1) 0) 0 (100, 0) (by omega) ⟨Or.inl rfl, Nat.zero_le _⟩
  rw [show f_Mover_findShiftsFrom mm_rd 0 0 Mc = _ from d1, pp_bd, d3.1]
  generalize zf S u k s (zp u (2 * k + 1) 0) 0 (100, 0) = X at d3 hq
  have hX : X.1 = 100 ∨ X.1 ≤ 10 := by
    rcases hq.1 with e | ⟨e1, e2⟩
    · exact Or.inl e
    · right
      have h1 := zH_le (S := S) (u := u) hk 10 (code := X.2) (by omega)
      omega
  refine ⟨Md, ?_, d3, d2.1⟩
  by_cases hx : X.1 < 100
  · rw [if_neg (show ¬ (11 : Int32) ≤ nI (min 11 X.1) from nI_ge (b := 11) (by omega) (by decide)), decide_eq_true hx]
  · rw [if_pos (show (11 : Int32) ≤ nI (min 11 X.1) from nI_le (a := 11) (by omega) (by omega)), decide_eq_false hx]
/-- the reference, as far as the search goes -/
theorem z_ref (ho : ss_Ok S) (hs : s < 1024) (h5 : S.1 5 = nI s) (hu : u < 1024) (hk : k ≤ 2) (hcn : pp_cn u 10 ≤ 5) {w : Int32} : ∀ M, ss_RR S M → ∀ K : Int32 → Int32 → mm_M → Option (Int32 × mm_M), ∃ M1, (mm_bd (f_R_laysWho (nI u) M) fun _ M_9 => lp_R_shifting_65 (nI k) w (fun (M_12 : mm_M) => lp_R_shifting_98 (nI k) w (fun (v4 : Int32) (M_15 : mm_M) => lp_R_shifting_133 (nI k) w v4 K mm_fu (-1) 100 0 M_15) mm_fu 1 0 M_12) mm_fu 0 M_9) = K (bst (zf S u k s (zp u (2 * k + 1) 0) 0 (100, 0))) (nI (zf S u k s (zp u (2 * k + 1) 0) 0 (100, 0)).1) M1 ∧ rq S u M1 ∧ oS S M1 ∧ wo u 10 M1 ∧ ss_r M M1 := by
  have hW : zp u (2 * k + 1) 0 = (2 * k + 1) ^ pp_cn u 10 := by
    have := zp_pow u (2 * k + 1) 10 0 rfl
    rw [show pp_cn u 0 = 0 from rfl, Nat.pow_zero, Nat.mul_one] at this
    exact this
  have hW4 : zp u (2 * k + 1) 0 ≤ 3125 := by
    rw [hW]
    have h1 : (2 * k + 1) ^ pp_cn u 10 ≤ 5 ^ 5 := Nat.le_trans (Nat.pow_le_pow_left (show 2 * k + 1 ≤ 5 by omega) _) (Nat.pow_le_pow_right (by decide) hcn)
    have h2 : (5 : Nat) ^ 5 = 3125 := by decide
    rw [h2] at h1
    exact h1
  intro M hR K
  obtain ⟨Ma, a1, a2, a3, a4, a5⟩ := sr_who hu M
  have hfa : ss_r M Ma := ⟨fun o ho => ⟨by funext q; exact a5 o q (by omega), a3 o (by omega), by rw [a4]⟩, fun o _ _ => a3 o (by omega)⟩
  have hRa : ss_RR S Ma := ⟨fun q hq => by
    rw [a5 _ _ (by have : ∀ q, q < 11 → ¬ ((ss_ro q).1 = 97 ∧ (ss_ro q).2 = 57) := by decide
                   exact this q hq)]
    exact hR.1 q hq, fun a ha j hj => by
    rw [a3 _ (by have : ∀ a, a < 14 → ss_ra a ≠ 128 := by decide
                 exact this a ha)]
    exact hR.2 a ha j hj⟩
  rw [a1, pp_bd, sr_save]
  generalize hMb : mm_setR Ma 131 (fun j => if 0 ≤ j ∧ j < 0 + 10 then Ma.2.1 108 j else Ma.2.1 131 j) = Mb
  have hRb : ss_RR S Mb := by
    rw [← hMb]
    exact ⟨hRa.1, fun a ha j hj => by
      rw [pp_srn (by have : ∀ a, a < 14 → ss_ra a ≠ 131 := by decide
                     exact this a ha)]
      exact hRa.2 a ha j hj⟩
  have hOb : oS S Mb := fun x hx => by rw [← hMb, pp_sro, if_pos (by omega)]; exact hRa.2 9 (by decide) x hx
  have hwb : wo u 10 Mb := by
    rw [← hMb]
    exact ⟨a2.1, fun x hx hm => by rw [pp_srn (by decide)]; exact a2.2 x hx hm⟩
  have hfb : ss_r M Mb := by rw [← hMb]; exact hfa.r (by decide)
  rw [sr_ways (show k < 3 by omega) (pp_cn_le u 10) hwb.1, ← hW]
  obtain ⟨Mc, c1, c2⟩ := sr_zloop (M0 := M) (s := s) (v3 := w) (K := K) ho hs h5 hk (W := zp u (2 * k + 1) 0) (by omega) (zp u (2 * k + 1) 0) 0 Mb (100, 0) (by omega) ⟨hRb.1, fun a ha j hj _ => hRb.2 a ha j hj⟩ hOb hwb hfb ⟨Or.inl rfl, Nat.zero_le _⟩ (4999 - zp u (2 * k + 1) 0)
  rw [show 4999 - zp u (2 * k + 1) 0 + zp u (2 * k + 1) 0 + 1 = mm_fu from by show _ = 5000; omega, show bst (100, 0) = -1 from if_pos rfl, show nI ((100, 0) : zX).1 = (100 : Int32) from rfl, show nI 0 = (0 : Int32) from rfl] at c1
  exact ⟨Mc, c1, c2⟩

theorem z_back : ∀ M', rq S u M' → oS S M' → ss_RR S (mm_setR M' 108 (fun j => if 0 ≤ j ∧ j < 0 + 10 then M'.2.1 131 j else M'.2.1 108 j)) := fun M' hr hO => ⟨hr.1, fun a ha j hj => by
    by_cases e : a = 9
    · subst e
      show (mm_setR M' 108 _).2.1 108 j = _
      have hj10 : j < 10 := hj
      rw [pp_sro, if_pos (by omega), hO j hj10]
      rfl
    · rw [pp_srn (show ss_ra a ≠ 108 from fun z => e (ss_ra_inj a ha 9 (by decide) z))]
      exact hr.2 a ha j hj (fun z => e z.1)⟩

theorem z_cls (u k : Nat) (w : Int32) : ∀ M, (mm_bd (f_Load_begin M) fun _ M_5 => mm_bd (f_Mover_findShifts (nI u) (nI k) M_5) fun b_6 M_7 => if b_6 = true then mm_jn (fun (M_8 : mm_M) => if 10 ≤ w then some (M_8.1 93 8, M_8) else if mm_in w (mm_al 95) = true then some ((M_8.2.1 95 w.toNatClampNeg) + 3, M_8) else none) fun j77 => if w = 11 then mm_bd (f_Mover_shiftAll (nI u) M_7) fun _ M_10 => j77 M_10 else j77 M_7 else some ((-2), M_7)) = mm_bd (mm_bd (f_Load_begin M) fun _ M_5 => f_Mover_findShifts (nI u) (nI k) M_5) fun b_6 M_7 => if b_6 = true then (if w = 11 then mm_bd (f_Mover_shiftAll (nI u) M_7) fun _ M_10 => (if 10 ≤ w then some (M_10.1 93 8, M_10) else if mm_in w (mm_al 95) = true then some ((M_10.2.1 95 w.toNatClampNeg) + 3, M_10) else none) else (if 10 ≤ w then some (M_7.1 93 8, M_7) else if mm_in w (mm_al 95) = true then some ((M_7.2.1 95 w.toNatClampNeg) + 3, M_7) else none)) else some ((-2), M_7) := fun M => by
  rw [pp_as]
  simp only [pp_jn]
/-- both, where all that is asked may be asked -/
theorem z_core (ho : ss_Ok S) (hs : s < 1024) (h5 : S.1 5 = nI s) (hu : u < 1024) (hu0 : 0 < u) (hus : ∀ x, u.testBit x = true → s.testBit x = true) (hk : k ≤ 2) (hcn : pp_cn u 10 ≤ 5) {w : Int32} (hw : w = 10 ∨ w = 11 ∨ ∃ b, b < 10 ∧ w = nI b ∧ u.testBit b = true) : ∃ (r : Int32) (S' : ss_S), ss_Ok S' ∧ S'.1 10 = S.1 10 ∧
    (∀ M, ss_RH S M → ∃ M1, (mm_bd (f_Load_begin M) fun _ M_5 => mm_bd (f_Mover_findShifts (nI u) (nI k) M_5) fun b_6 M_7 => if b_6 = true then mm_jn (fun (M_8 : mm_M) => if 10 ≤ w then some (M_8.1 93 8, M_8) else if mm_in w (mm_al 95) = true then some ((M_8.2.1 95 w.toNatClampNeg) + 3, M_8) else none) fun j77 => if w = 11 then mm_bd (f_Mover_shiftAll (nI u) M_7) fun _ M_10 => j77 M_10 else j77 M_7 else some ((-2), M_7)) = some (r, M1) ∧ ss_RH S' M1 ∧ ss_h M M1) ∧
    (∀ M, ss_RR S M → ∃ M1, (mm_bd (f_R_laysWho (nI u) M) fun _ M_9 => lp_R_shifting_65 (nI k) w (fun (M_12 : mm_M) => lp_R_shifting_98 (nI k) w (fun (v4 : Int32) (M_15 : mm_M) => lp_R_shifting_133 (nI k) w v4 (fun (v5 : Int32) (v6 : Int32) (M_22 : mm_M) => mm_jn (fun (v5 : Int32) (v6 : Int32) (M_23 : mm_M) => mm_jn (fun (v5 : Int32) (s0 : Int32) (M_24 : mm_M) => lp_R_shifting_234 w v5 s0 (fun (M_28 : mm_M) => some (s0, M_28)) mm_fu 0 M_24) fun j229 => if v5 = (-1) then j229 v5 (-2) M_23 else if w ≤ 9 then if mm_in w (mm_al 108) = true then j229 v5 ((M_23.2.1 108 w.toNatClampNeg) + 3) M_23 else none else j229 v5 v6 M_23) fun j199 => if v5 = (-1) then j199 v5 v6 M_22 else mm_bd (f_R_shiftsBy v5 (nI k) M_22) fun _ M_30 => j199 v5 v6 M_30) mm_fu (-1) 100 0 M_15) mm_fu 1 0 M_12) mm_fu 0 M_9) = some (r, M1) ∧ ss_RR S' M1 ∧ ss_r M M1) := by
  have hK : 0 < 2 * k + 1 := by omega
  have hW : zp u (2 * k + 1) 0 = (2 * k + 1) ^ pp_cn u 10 := by
    have := zp_pow u (2 * k + 1) 10 0 rfl
    rw [show pp_cn u 0 = 0 from rfl, Nat.pow_zero, Nat.mul_one] at this
    exact this
  have hW4 : zp u (2 * k + 1) 0 ≤ 3125 := by
    rw [hW]
    have h1 : (2 * k + 1) ^ pp_cn u 10 ≤ 5 ^ 5 := Nat.le_trans (Nat.pow_le_pow_left (show 2 * k + 1 ≤ 5 by omega) _) (Nat.pow_le_pow_right (by decide) hcn)
    have h2 : (5 : Nat) ^ 5 = 3125 := by decide
    rw [h2] at h1
    exact h1
  have hq := zQ_f (S := S) (u := u) (k := k) (s := s) (W := zp u (2 * k + 1) 0) (zp u (2 * k + 1) 0) 0 (100, 0) (by omega) ⟨Or.inl rfl, Nat.zero_le _⟩
  have fH := fun M (hH : ss_RH S M) => sh_findShifts (M := M) ho hH hs h5 hu hu0 hus hk hcn
  have w9 : w ≤ 9 ↔ ∃ b, b < 10 ∧ w = nI b ∧ u.testBit b = true := by
    constructor
    · intro z
      rcases hw with e | e | e
      · rw [e] at z; exact absurd z (by decide)
      · rw [e] at z; exact absurd z (by decide)
      · exact e
    · rintro ⟨b, hb, rfl, _⟩
      exact nI_le (b := 9) (by omega) (by decide)
  have w10 : 10 ≤ w ↔ ¬ w ≤ 9 := by rw [ii_le, ii_le, i_10, i_9]; omega
  have fR := z_ref (s := s) (w := w) ho hs h5 hu hk hcn
  have back := z_back (S := S) (u := u)
  generalize hX : zf S u k s (zp u (2 * k + 1) 0) 0 (100, 0) = X at hq fH fR
  rcases hq.1 with e100 | ⟨e99, eH⟩
  · -- none
    refine ⟨-2, S, ho, rfl, fun M hH => ?_, fun M hR => ?_⟩
    · obtain ⟨M1, a1, a2, a3⟩ := fH M hH
      refine ⟨M1, ?_, hH.lo a3 (by decide), a3.h (by decide) (by decide)⟩
      have a1' : (mm_bd (f_Load_begin M) fun _ M_5 => mm_bd (f_Mover_findShifts (nI u) (nI k) M_5) fun b_6 M_7 => if b_6 = true then mm_jn (fun (M_8 : mm_M) => if 10 ≤ w then some (M_8.1 93 8, M_8) else if mm_in w (mm_al 95) = true then some ((M_8.2.1 95 w.toNatClampNeg) + 3, M_8) else none) fun j77 => if w = 11 then mm_bd (f_Mover_shiftAll (nI u) M_7) fun _ M_10 => j77 M_10 else j77 M_7 else some ((-2), M_7)) = mm_bd (mm_bd (f_Load_begin M) fun _ M_5 => f_Mover_findShifts (nI u) (nI k) M_5) fun b_6 M_7 => if b_6 = true then mm_jn (fun (M_8 : mm_M) => if 10 ≤ w then some (M_8.1 93 8, M_8) else if mm_in w (mm_al 95) = true then some ((M_8.2.1 95 w.toNatClampNeg) + 3, M_8) else none) fun j77 => if w = 11 then mm_bd (f_Mover_shiftAll (nI u) M_7) fun _ M_10 => j77 M_10 else j77 M_7 else some ((-2), M_7) := by
        rw [pp_as]
      rw [a1', a1, pp_bd, decide_eq_false (by omega), if_neg (by decide)]
    · obtain ⟨M1, b1, b2, b3, b4, b5⟩ := fR M hR (fun (v5 : Int32) (v6 : Int32) (M_22 : mm_M) => mm_jn (fun (v5 : Int32) (v6 : Int32) (M_23 : mm_M) => mm_jn (fun (v5 : Int32) (s0 : Int32) (M_24 : mm_M) => lp_R_shifting_234 w v5 s0 (fun (M_28 : mm_M) => some (s0, M_28)) mm_fu 0 M_24) fun j229 => if v5 = (-1) then j229 v5 (-2) M_23 else if w ≤ 9 then if mm_in w (mm_al 108) = true then j229 v5 ((M_23.2.1 108 w.toNatClampNeg) + 3) M_23 else none else j229 v5 v6 M_23) fun j199 => if v5 = (-1) then j199 v5 v6 M_22 else mm_bd (f_R_shiftsBy v5 (nI k) M_22) fun _ M_30 => j199 v5 v6 M_30)
      refine ⟨_, b1.trans ?_, back M1 b2 b3, b5.r (by decide)⟩
      rw [show bst X = -1 from if_pos e100, pp_jn, if_pos rfl]
      dsimp only
      rw [pp_jn]
      dsimp only
      rw [if_pos rfl, sr_back M1 (fun z => z.2 rfl)]
  · have hb1 : bst X = nI X.2 := if_neg (by omega)
    have hn1 : ¬ nI X.2 = -1 := tx_ne (by have := hq.2; omega)
    have hXle : X.1 ≤ 10 := by
      have h1 := zH_le (S := S) (u := u) hk 10 (code := X.2) (by omega)
      omega
    have hokA := zA_ok (S := S) (u := u) (k := k) ho (by omega) (code := X.2) (by omega)
    have clsEq := z_cls u k w
    have refEq : ∀ M1, rq S u M1 → oS S M1 → wo u 10 M1 → ∃ Mz, f_R_shiftsBy (nI X.2) (nI k) M1 = some (nI X.1, Mz) ∧ ss_RR (zA S u k X.2) Mz ∧ fr 108 108 M1 Mz := fun M1 r1 r2 r3 => by
      obtain ⟨Mz, z1, z2, z3⟩ := sr_shiftsBy ho hk r1 r2 r3 (code := X.2) (by have := hq.2; omega)
      rw [← eH] at z1
      exact ⟨Mz, z1, z2, z3⟩
    have frr : ∀ {M1 M2}, fr 108 108 M1 M2 → ss_r M1 M2 := fun h => ⟨fun o ho => ⟨by rw [h.1], h.2.2 o (by omega), by rw [h.2.1]⟩, fun o _ _ => h.2.2 o (by omega)⟩
    by_cases h11 : w = 11
    · subst h11
      refine ⟨nI X.1, zA S u k X.2, hokA, rfl, fun M hH => ?_, fun M hR => ?_⟩
      · obtain ⟨M1, a1, a2, a3⟩ := fH M hH
        obtain ⟨M2, c1, c2, c3, c4, c5⟩ := sh_shiftAll (S := S) (k := k) (c := X.2) hu (hH.lo a3 (by decide)) (a2.2 e99)
        refine ⟨M2, ?_, c2, (a3.h (by decide) (by decide)).tr c3⟩
        rw [clsEq, a1, pp_bd, decide_eq_true e99, if_pos rfl, if_pos rfl, c1, pp_bd, if_pos (by decide), c4, a2.1, show min 11 X.1 = X.1 by omega]
      · obtain ⟨M1, b1, b2, b3, b4, b5⟩ := fR M hR (fun (v5 : Int32) (v6 : Int32) (M_22 : mm_M) => mm_jn (fun (v5 : Int32) (v6 : Int32) (M_23 : mm_M) => mm_jn (fun (v5 : Int32) (s0 : Int32) (M_24 : mm_M) => lp_R_shifting_234 11 v5 s0 (fun (M_28 : mm_M) => some (s0, M_28)) mm_fu 0 M_24) fun j229 => if v5 = (-1) then j229 v5 (-2) M_23 else if (11 : Int32) ≤ 9 then if mm_in 11 (mm_al 108) = true then j229 v5 ((M_23.2.1 108 (11 : Int32).toNatClampNeg) + 3) M_23 else none else j229 v5 v6 M_23) fun j199 => if v5 = (-1) then j199 v5 v6 M_22 else mm_bd (f_R_shiftsBy v5 (nI k) M_22) fun _ M_30 => j199 v5 v6 M_30)
        obtain ⟨Mz, z1, z2, z3⟩ := refEq M1 b2 b3 b4
        refine ⟨Mz, b1.trans ?_, z2, b5.tr (frr z3)⟩
        rw [hb1, pp_jn, if_neg hn1, z1, pp_bd]
        dsimp only
        rw [pp_jn]
        dsimp only
        rw [if_neg hn1, if_neg (by decide), sr_stay Mz ⟨rfl, hn1⟩]
    · by_cases h9 : w ≤ 9
      · obtain ⟨b, hb, rfl, hbm⟩ := w9.mp h9
        refine ⟨(zA S u k X.2).2 9 b + 3, S, ho, rfl, fun M hH => ?_, fun M hR => ?_⟩
        · obtain ⟨M1, a1, a2, a3⟩ := fH M hH
          refine ⟨M1, ?_, hH.lo a3 (by decide), a3.h (by decide) (by decide)⟩
          rw [clsEq, a1, pp_bd, decide_eq_true e99, if_pos rfl, if_neg h11, if_neg (fun z => (w10.mp z) h9), show mm_al 95 = 10 from rfl, pp_in hb (by decide), if_pos rfl, nI_clamp (by omega), a2.2 e99 b hb hbm]
        · obtain ⟨M1, b1, b2, b3, b4, b5⟩ := fR M hR (fun (v5 : Int32) (v6 : Int32) (M_22 : mm_M) => mm_jn (fun (v5 : Int32) (v6 : Int32) (M_23 : mm_M) => mm_jn (fun (v5 : Int32) (s0 : Int32) (M_24 : mm_M) => lp_R_shifting_234 (nI b) v5 s0 (fun (M_28 : mm_M) => some (s0, M_28)) mm_fu 0 M_24) fun j229 => if v5 = (-1) then j229 v5 (-2) M_23 else if nI b ≤ 9 then if mm_in (nI b) (mm_al 108) = true then j229 v5 ((M_23.2.1 108 (nI b).toNatClampNeg) + 3) M_23 else none else j229 v5 v6 M_23) fun j199 => if v5 = (-1) then j199 v5 v6 M_22 else mm_bd (f_R_shiftsBy v5 (nI k) M_22) fun _ M_30 => j199 v5 v6 M_30)
          obtain ⟨Mz, z1, z2, z3⟩ := refEq M1 b2 b3 b4
          have hOz : oS S Mz := fun x hx => by rw [z3.2.2 131 (by decide)]; exact b3 x hx
          refine ⟨_, b1.trans ?_, back Mz (rq_of z2) hOz, (b5.tr (frr z3)).r (by decide)⟩
          rw [hb1, pp_jn, if_neg hn1, z1, pp_bd]
          dsimp only
          rw [pp_jn]
          dsimp only
          rw [if_neg hn1, if_pos h9, mm_al_108, pp_in hb (by decide), if_pos rfl, nI_clamp (by omega), show Mz.2.1 108 b = (zA S u k X.2).2 9 b from z2.2 9 (by decide) b hb, sr_back Mz (fun z => h11 z.1)]
      · refine ⟨nI X.1, S, ho, rfl, fun M hH => ?_, fun M hR => ?_⟩
        · obtain ⟨M1, a1, a2, a3⟩ := fH M hH
          refine ⟨M1, ?_, hH.lo a3 (by decide), a3.h (by decide) (by decide)⟩
          rw [clsEq, a1, pp_bd, decide_eq_true e99, if_pos rfl, if_neg h11, if_pos (w10.mpr h9), a2.1, show min 11 X.1 = X.1 by omega]
        · obtain ⟨M1, b1, b2, b3, b4, b5⟩ := fR M hR (fun (v5 : Int32) (v6 : Int32) (M_22 : mm_M) => mm_jn (fun (v5 : Int32) (v6 : Int32) (M_23 : mm_M) => mm_jn (fun (v5 : Int32) (s0 : Int32) (M_24 : mm_M) => lp_R_shifting_234 w v5 s0 (fun (M_28 : mm_M) => some (s0, M_28)) mm_fu 0 M_24) fun j229 => if v5 = (-1) then j229 v5 (-2) M_23 else if w ≤ 9 then if mm_in w (mm_al 108) = true then j229 v5 ((M_23.2.1 108 w.toNatClampNeg) + 3) M_23 else none else j229 v5 v6 M_23) fun j199 => if v5 = (-1) then j199 v5 v6 M_22 else mm_bd (f_R_shiftsBy v5 (nI k) M_22) fun _ M_30 => j199 v5 v6 M_30)
          obtain ⟨Mz, z1, z2, z3⟩ := refEq M1 b2 b3 b4
          have hOz : oS S Mz := fun x hx => by rw [z3.2.2 131 (by decide)]; exact b3 x hx
          refine ⟨_, b1.trans ?_, back Mz (rq_of z2) hOz, (b5.tr (frr z3)).r (by decide)⟩
          rw [hb1, pp_jn, if_neg hn1, z1, pp_bd]
          dsimp only
          rw [pp_jn]
          dsimp only
          rw [if_neg hn1, if_neg h9, sr_back Mz (fun z => h11 z.1)]
end SHIFTC
