/-! rooms -/
section ROOMS6
variable {S : ss_S} {u s f : Nat} {M M0 : mm_M}
theorem sh_findRooms (ho : ss_Ok S) (hH : ss_RH S M) (hs : s < 1024) (h5 : S.1 5 = nI s) (hu : u < 1024) (hu0 : 0 < u) (hus : ∀ x, u.testBit x = true → s.testBit x = true) (hf : f < 1024) :
    (∃ M1 R', (mm_bd (f_Load_begin M) fun _ M_5 => f_Mover_findRooms (nI u) (nI f) M_5) = some (true, M1) ∧ FX u s 10 0 S f = some (rT S R') ∧ ss_m 56 97 M M1 ∧ ∀ x, x < 10 → u.testBit x = true → M1.2.1 94 x = R' x) ∨
    (∃ M1, (mm_bd (f_Load_begin M) fun _ M_5 => f_Mover_findRooms (nI u) (nI f) M_5) = some (false, M1) ∧ FX u s 10 0 S f = none ∧ ss_m 56 97 M M1) := by
  obtain ⟨L, Ma, a1, a2, a3, a4⟩ := sh_begin ho hH hs h5
  have hHa := hH.lo a3 (by decide)
  rw [a1, pp_bd]
  unfold f_Mover_findRooms
  rw [pp_let]
  generalize hMb : mm_setI Ma 93 3 (nI u) = Mb
  have mb : ss_m 56 97 M Mb := by rw [← hMb]; exact (a3.wd (by decide) (by decide)).s (by decide)
  have hHb := hH.lo mb (by decide)
  have lb : ld_I L 0 Mb := ld_I_fr a2 (fun o h1 h2 => ⟨by
    rw [← hMb]
    funext q
    show (if o = 93 ∧ q = 3 then _ else Ma.1 o q) = _
    rw [if_neg (fun e => by omega)], by rw [← hMb]; rfl⟩)
  obtain ⟨t, t1, t2, t3⟩ := pp_not (s := s) (u := u) hs
  have hF : ∀ q, (∀ x, x < 10 → q.testBit x = true → s.testBit x = true) → ld_F L q := fun q hq x hx hqx => by
    have := (a4 x hx (hq x hx hqx)).1
    obtain ⟨f, hf, e⟩ := pp_fl_e ho hx
    exact ⟨f, hf, this.trans e⟩
  have hts : ∀ x, x < 10 → t.testBit x = true → s.testBit x = true ∧ ¬ u.testBit x = true := fun x hx h => by
    rw [t3 x hx] at h
    simp only [Bool.and_eq_true, Bool.not_eq_true'] at h
    exact ⟨h.1, by rw [h.2]; decide⟩
  obtain ⟨Mc, c1, c2, c3⟩ := sh_turnTo lb t2 (hF 0 (fun x hx h => by rw [Nat.zero_testBit] at h; cases h)) (hF t (fun x hx h => (hts x hx h).1))
  rw [show Mb.1 27 0 = nI s from (hHb.1 5 (by decide)).trans h5, t1, c1, pp_bd]
  have hi71 : ∀ o, 71 ≤ o → Mc.1 o = Mb.1 o ∧ Mc.2.1 o = Mb.2.1 o := fun o h => ⟨(c3 o (by omega)).1, (c3 o (by omega)).2.1⟩
  have hM : rM u M Mc := ⟨mb.tr (c3.wd (by decide) (by decide)), by rw [(hi71 93 (by decide)).1, ← hMb]; rfl⟩
  have hL : rL S u s 0 (S.2 6) t L Mc := ⟨c2, ⟨t2, fun x hx => by rw [t3 x hx, decide_eq_false (by omega), Bool.or_false]⟩, fun x hx h kd hr h1 h2 => (a4 x hx h).2 kd hr h1 h2, fun x hx h => by rw [rT_id]; exact (a4 x hx (hts x hx h).1).1, fun x hx => by omega⟩
  have := sh_rdfs ho hH hs hu hu0 hus 10 0 (S.2 6) f Mc L t mm_rd rfl (by decide) hf (rok_S ho) hM hL (fun ⟨x, hx, _⟩ => by omega)
  rw [rT_id] at this
  rcases this with ⟨M1, R', b1, b2, b3, b4⟩ | ⟨M1, L1, t4, b1, b2, b3, b4⟩
  · rw [show f_Mover_findRoomsFrom mm_rd 0 (nI f) Mc = _ from b1, pp_bd]
    exact Or.inl ⟨M1, R', rfl, b2, b3, b4⟩
  · rw [show f_Mover_findRoomsFrom mm_rd 0 (nI f) Mc = _ from b1, pp_bd]
    exact Or.inr ⟨M1, rfl, b2, b3.1⟩
/-- the class writes the rooms down -/
theorem sh_moveIn (hu : u < 1024) {R : Nat → Int32} (hH : ss_RH S M) (h94 : ∀ x, x < 10 → u.testBit x = true → M.2.1 94 x = R x) (hn : ∀ x, ¬ u.testBit x = true → R x = S.2 6 x) : ∃ M1, f_Mover_moveIn (nI u) M = some ((), M1) ∧ ss_RH (rT S R) M1 ∧ ss_h M M1 := by
  have key : ∀ q b M', b + q = 10 → (∀ o, o ≠ 28 → M'.2.1 o = M.2.1 o) → M'.2.2 = M.2.2 → M'.1 = M.1 → (∀ x, x < b → u.testBit x = true → M'.2.1 28 x = R x) → (∀ x, x < 10 → (b ≤ x ∨ u.testBit x = false) → M'.2.1 28 x = S.2 6 x) → ∀ m, ∃ M1, lp_Mover_moveIn_2 (nI u) (fun (M_6 : mm_M) => some ((), M_6)) (m + q + 1) (nI b) M' = some ((), M1) ∧ (∀ o, o ≠ 28 → M1.2.1 o = M.2.1 o) ∧ M1.2.2 = M.2.2 ∧ M1.1 = M.1 ∧ (∀ x, x < 10 → u.testBit x = true → M1.2.1 28 x = R x) ∧ (∀ x, x < 10 → u.testBit x = false → M1.2.1 28 x = S.2 6 x) := by
    intro q
    induction q with
    | zero =>
      intro b M' hb h1 h2 h3 h4 h5 m
      have : b = 10 := by omega
      subst this
      refine ⟨M', ?_, h1, h2, h3, h4, fun x hx hm => h5 x hx (Or.inr hm)⟩
      rw [show m + 0 + 1 = m + 1 from rfl, lp_Mover_moveIn_2, if_pos (by decide)]
    | succ q ih =>
      intro b M' hb h1 h2 h3 h4 h5 m
      rw [show m + (q + 1) + 1 = (m + q + 1) + 1 from rfl, lp_Mover_moveIn_2, if_neg (show ¬ (10 : Int32) ≤ nI b from nI_ge (b := 10) (by omega) (by decide)), sh_isIn (by omega), pp_has_k (by omega), pp_bd, pp_jn]
      by_cases hm : u.testBit b = true
      · have e94 : M'.2.1 94 b = R b := by rw [h1 94 (by decide)]; exact h94 b (by omega) hm
        rw [if_pos hm, show mm_al 94 = 10 from rfl, mm_al_28, pp_in (by omega) (by decide), if_pos rfl, if_pos rfl, nI_clamp (by omega), e94, pp_let]
        dsimp only
        rw [nI_1, pp_let]
        refine ih (b + 1) _ (by omega) (fun o ho => (ss_seta_ne ho).trans (h1 o ho)) h2 h3 (fun x hx hmx => ?_) (fun x hx hmx => ?_) m
        · rw [pp_sa]
          by_cases e : x = b
          · rw [if_pos ⟨rfl, e⟩, e]
          · rw [if_neg (fun z => e z.2)]; exact h4 x (by omega) hmx
        · rw [pp_sa, if_neg (fun z => by
            rcases hmx with y | y
            · omega
            · rw [z.2, hm] at y; cases y)]
          exact h5 x hx (hmx.imp (fun y => by omega) id)
      · have hm' : u.testBit b = false := by
          cases hq : u.testBit b
          · rfl
          · exact absurd hq hm
        rw [hm', if_neg (by decide)]
        dsimp only
        rw [nI_1, pp_let]
        refine ih (b + 1) M' (by omega) h1 h2 h3 (fun x hx hmx => h4 x (by
          rcases Nat.lt_or_ge x b with z | z
          · exact z
          · exact absurd (show u.testBit b = true from by rw [show b = x by omega]; exact hmx) hm) hmx) (fun x hx hmx => h5 x hx (hmx.imp (fun y => by omega) id)) m
  obtain ⟨M1, a1, a2, a3, a4, a5, a6⟩ := key 10 0 M rfl (fun _ _ => rfl) rfl rfl (fun x hx => by omega) (fun x hx _ => hH.2 6 (by decide) x hx) 4989
  refine ⟨M1, a1, ⟨fun q hq => by rw [a4]; exact hH.1 q hq, fun a ha j hj => ?_⟩, ⟨fun o ho => ⟨by rw [a4], a2 o (by omega), by rw [a3]⟩, fun o _ _ => a2 o (by omega)⟩⟩
  by_cases e : a = 6
  · subst e
    have hj10 : j < 10 := hj
    show M1.2.1 28 j = (rT S R).2 6 j
    rw [rT_6]
    by_cases hq : u.testBit j = true
    · exact a5 j hj10 hq
    · rw [a6 j hj10 (by cases hz : u.testBit j; rfl; exact absurd hz hq), hn j hq]
  · have hne : (ss_ha a j).1 ≠ 28 := fun z => by
      unfold ss_ha at z
      by_cases h1 : a = 1
      · rw [if_pos h1] at z
        have hj : j < 864 := by rw [h1] at hj; exact hj
        have z : 6 + j / 72 = 28 := z
        omega
      · rw [if_neg h1] at z
        exact e (ss_ao_inj a ha h1 6 (by decide) (by decide) z)
    rw [a2 _ hne, hH.2 a ha j hj, rT_n e]
theorem r_cls (u f : Nat) (w : Int32) (M : mm_M) : (mm_bd (f_Load_begin M) fun _ M_13 => mm_bd (f_Mover_findRooms (nI u) (nI f) M_13) fun b_14 M_15 => if w = 10 then mm_jn (fun (v5 : Bool) (M_16 : mm_M) => if v5 = true then some ((1 : Int32), M_16) else some (0, M_16)) fun j127 => if b_14 = true then mm_bd (f_Mover_moveIn (nI u) M_15) fun _ M_18 => j127 b_14 M_18 else j127 b_14 M_15 else if b_14 = true then if mm_in w (mm_al 94) = true then some (M_15.2.1 94 w.toNatClampNeg, M_15) else none else some ((-2), M_15)) = mm_bd (mm_bd (f_Load_begin M) fun _ M_13 => f_Mover_findRooms (nI u) (nI f) M_13) fun b_14 M_15 => if w = 10 then (if b_14 = true then mm_bd (f_Mover_moveIn (nI u) M_15) fun _ M_18 => (if b_14 = true then some ((1 : Int32), M_18) else some (0, M_18)) else (if b_14 = true then some ((1 : Int32), M_15) else some (0, M_15))) else if b_14 = true then if mm_in w (mm_al 94) = true then some (M_15.2.1 94 w.toNatClampNeg, M_15) else none else some ((-2), M_15) := by
  rw [pp_as]
  simp only [pp_jn]
/-- both, where all that is asked may be asked -/
theorem r_core (ho : ss_Ok S) (hs : s < 1024) (h5 : S.1 5 = nI s) (hu : u < 1024) (hu0 : 0 < u) (hus : ∀ x, u.testBit x = true → s.testBit x = true) (hm : pp_cn u 10 ≤ 6) (hf : f < 1024) (hcf : pp_cn f 10 = pp_cn u 10) {w : Int32} (hw : w = 10 ∨ ∃ b, b < 10 ∧ w = nI b ∧ u.testBit b = true) : ∃ (r : Int32) (S' : ss_S), ss_Ok S' ∧ S'.1 10 = S.1 10 ∧
    (∀ M, ss_RH S M → ∃ M1, (mm_bd (f_Load_begin M) fun _ M_13 => mm_bd (f_Mover_findRooms (nI u) (nI f) M_13) fun b_14 M_15 => if w = 10 then mm_jn (fun (v5 : Bool) (M_16 : mm_M) => if v5 = true then some ((1 : Int32), M_16) else some (0, M_16)) fun j127 => if b_14 = true then mm_bd (f_Mover_moveIn (nI u) M_15) fun _ M_18 => j127 b_14 M_18 else j127 b_14 M_15 else if b_14 = true then if mm_in w (mm_al 94) = true then some (M_15.2.1 94 w.toNatClampNeg, M_15) else none else some ((-2), M_15)) = some (r, M1) ∧ ss_RH S' M1 ∧ ss_h M M1) ∧
    (∀ M, ss_RR S M → ro f M → ∃ M1, (mm_bd (f_R_laysWho (nI u) M) fun _ M_12 => lp_R_rooms_85 w (fun (M_15 : mm_M) => mm_bd (f_R_firstRooms M_15) fun r_16 M_17 => mm_jn (fun (v4 : Int32) (s0 : Int32) (M_18 : mm_M) => lp_R_rooms_160 w v4 s0 (fun (M_22 : mm_M) => some (s0, M_22)) mm_fu 0 M_18) fun j155 => if w = 10 then if r_16 = (-1) then j155 r_16 0 M_17 else j155 r_16 1 M_17 else if r_16 = (-1) then j155 r_16 (-2) M_17 else if mm_in w (mm_al 105) = true then j155 r_16 (M_17.2.1 105 w.toNatClampNeg) M_17 else none) mm_fu 0 M_12) = some (r, M1) ∧ ss_RR S' M1 ∧ ss_r M M1) := by
  have hFX := FX_cf (u := u) (s := s) 10 0 S f rfl (by rw [hcf]; rfl)
  rw [hcf] at hFX
  have prep : ∀ M, ss_RR S M → ro f M → ∀ K : mm_M → Option (Int32 × mm_M), ∃ Mb, (mm_bd (f_R_laysWho (nI u) M) fun _ M_12 => lp_R_rooms_85 w K mm_fu 0 M_12) = K Mb ∧ rq6 S u Mb ∧ oR S Mb ∧ ro f Mb ∧ wo u 10 Mb ∧ ss_r M Mb := fun M hR hro K => by
    obtain ⟨Ma, a1, a2, a3, a4, a5⟩ := sr_who hu M
    have hfa : ss_r M Ma := ⟨fun o ho => ⟨by funext q; exact a5 o q (by omega), a3 o (by omega), by rw [a4]⟩, fun o _ _ => a3 o (by omega)⟩
    have hRa : ss_RR S Ma := ⟨fun q hq => by
      rw [a5 _ _ (by have : ∀ q, q < 11 → ¬ ((ss_ro q).1 = 97 ∧ (ss_ro q).2 = 57) := by decide
                     exact this q hq)]
      exact hR.1 q hq, fun a ha j hj => by
      rw [a3 _ (by have : ∀ a, a < 14 → ss_ra a ≠ 128 := by decide
                   exact this a ha)]
      exact hR.2 a ha j hj⟩
    rw [a1, pp_bd, sr_rsave]
    generalize hMb : mm_setR Ma 130 (fun j => if 0 ≤ j ∧ j < 0 + 10 then Ma.2.1 105 j else Ma.2.1 130 j) = Mb
    refine ⟨Mb, rfl, ⟨?_, fun a ha j hj _ => ?_⟩, fun x hx => ?_, fun x hx h => ?_, ⟨?_, fun x hx h => ?_⟩, ?_⟩
    · rw [← hMb]; exact hRa.1
    · rw [← hMb, pp_srn (by have : ∀ a, a < 14 → ss_ra a ≠ 130 := by decide
                            exact this a ha)]
      exact hRa.2 a ha j hj
    · rw [← hMb, pp_sro, if_pos (by omega)]; exact hRa.2 6 (by decide) x hx
    · rw [← hMb, pp_srn (by decide), a3 129 (by decide)]; exact hro x hx h
    · rw [← hMb]; exact a2.1
    · rw [← hMb, pp_srn (by decide)]; exact a2.2 x hx h
    · rw [← hMb]; exact hfa.r (by decide)
  cases hX : FX u s 10 0 S f with
  | none =>
    refine ⟨if w = 10 then 0 else -2, S, ho, rfl, fun M hH => ?_, fun M hR hro => ?_⟩
    · rcases sh_findRooms ho hH hs h5 hu hu0 hus hf with ⟨M1, R', a1, a2, a3, a4⟩ | ⟨M1, a1, a2, a3⟩
      · rw [hX] at a2; cases a2
      · refine ⟨M1, ?_, hH.lo a3 (by decide), a3.h (by decide) (by decide)⟩
        rw [r_cls, a1, pp_bd]
        by_cases h10 : w = 10
        · rw [if_pos h10, if_pos h10, if_neg (by decide), if_neg (by decide)]
        · rw [if_neg h10, if_neg h10, if_neg (by decide)]
    · obtain ⟨Mb, b1, b2, b3, b4, b5, b6⟩ := prep M hR hro (fun (M_15 : mm_M) => mm_bd (f_R_firstRooms M_15) fun r_16 M_17 => mm_jn (fun (v4 : Int32) (s0 : Int32) (M_18 : mm_M) => lp_R_rooms_160 w v4 s0 (fun (M_22 : mm_M) => some (s0, M_22)) mm_fu 0 M_18) fun j155 => if w = 10 then if r_16 = (-1) then j155 r_16 0 M_17 else j155 r_16 1 M_17 else if r_16 = (-1) then j155 r_16 (-2) M_17 else if mm_in w (mm_al 105) = true then j155 r_16 (M_17.2.1 105 w.toNatClampNeg) M_17 else none)
      rcases sr_first (s := s) ho hs h5 hu hm hcf b2 b3 b4 b5 b6 with ⟨c1, Mc, c2, c3, c4, c5⟩ | ⟨l, R', Mc, c0, c1, _⟩
      · refine ⟨_, b1.trans ?_, r_back c3 c4, c5.r (by decide)⟩
        rw [c2, pp_bd, pp_jn]
        dsimp only
        rw [if_pos rfl, if_pos rfl, sr_rback Mc (fun z => z.2 rfl), sr_rback Mc (fun z => z.2 rfl)]
        by_cases h10 : w = 10
        · rw [if_pos h10, if_pos h10]
        · rw [if_neg h10, if_neg h10]
      · rw [← hFX, hX] at c1; cases c1
  | some T =>
    obtain ⟨R, rfl, hrok, hRn, _⟩ := FX_leaf (u := u) (s := s) ho 10 0 (S.2 6) f T rfl (rok_S ho) (by rw [rT_id]; exact hX)
    have hRn : ∀ x, ¬ u.testBit x = true → R x = S.2 6 x := fun x hx => hRn x (Or.inr hx)
    have inj : ∀ R', (some (rT S R) : Option ss_S) = some (rT S R') → R' = R := fun R' e => by
      have e := Option.some.inj e
      funext x
      rw [← rT_6 (S := S) R' x, ← e, rT_6]
    have hHR : ∀ M, ss_RH S M → ∃ M1, (mm_bd (f_Load_begin M) fun _ M_5 => f_Mover_findRooms (nI u) (nI f) M_5) = some (true, M1) ∧ ss_m 56 97 M M1 ∧ ∀ x, x < 10 → u.testBit x = true → M1.2.1 94 x = R x := fun M hH => by
      rcases sh_findRooms ho hH hs h5 hu hu0 hus hf with ⟨M1, R', a1, a2, a3, a4⟩ | ⟨M1, a1, a2, a3⟩
      · rw [hX] at a2
        rw [inj R' a2] at a4
        exact ⟨M1, a1, a3, a4⟩
      · rw [hX] at a2; cases a2
    have hRR : ∀ M0 M, rq6 S u M → oR S M → ro f M → wo u 10 M → ss_r M0 M → ∃ l M1, l < 5000 ∧ f_R_firstRooms M = some (nI l, M1) ∧ ss_RR (rT S R) M1 ∧ oR S M1 ∧ ss_r M0 M1 := fun M0 M b2 b3 b4 b5 b6 => by
      rcases sr_first (s := s) ho hs h5 hu hm hcf b2 b3 b4 b5 b6 with ⟨c1, Mc, c2, c3, c4, c5⟩ | ⟨l, R', Mc, c0, c1, c2, c3, c4, c5, c6, c7⟩
      · rw [← hFX, hX] at c1; cases c1
      · rw [← hFX, hX] at c1
        rw [inj R' c1] at c5
        exact ⟨l, Mc, c0, c2, c5, c6, c7⟩
    by_cases h10 : w = 10
    · refine ⟨1, rT S R, rT_ok ho hrok, rfl, fun M hH => ?_, fun M hR hro => ?_⟩
      · obtain ⟨M1, a1, a2, a3⟩ := hHR M hH
        obtain ⟨M2, c1, c2, c3⟩ := sh_moveIn hu (hH.lo a2 (by decide)) a3 hRn
        refine ⟨M2, ?_, c2, (a2.h (by decide) (by decide)).tr c3⟩
        rw [r_cls, a1, pp_bd, if_pos h10, if_pos rfl, c1, pp_bd, if_pos rfl]
      · obtain ⟨Mb, b1, b2, b3, b4, b5, b6⟩ := prep M hR hro (fun (M_15 : mm_M) => mm_bd (f_R_firstRooms M_15) fun r_16 M_17 => mm_jn (fun (v4 : Int32) (s0 : Int32) (M_18 : mm_M) => lp_R_rooms_160 w v4 s0 (fun (M_22 : mm_M) => some (s0, M_22)) mm_fu 0 M_18) fun j155 => if w = 10 then if r_16 = (-1) then j155 r_16 0 M_17 else j155 r_16 1 M_17 else if r_16 = (-1) then j155 r_16 (-2) M_17 else if mm_in w (mm_al 105) = true then j155 r_16 (M_17.2.1 105 w.toNatClampNeg) M_17 else none)
        obtain ⟨l, Mc, c0, c1, c2, c3, c4⟩ := hRR M Mb b2 b3 b4 b5 b6
        have hn1 : ¬ nI l = -1 := tx_ne (by omega)
        refine ⟨Mc, b1.trans ?_, c2, c4⟩
        rw [c1, pp_bd, pp_jn]
        dsimp only
        rw [if_pos h10, if_neg hn1, sr_rstay Mc ⟨h10, hn1⟩]
    · obtain ⟨b, hb, rfl, hbm⟩ := hw.resolve_left h10
      refine ⟨R b, S, ho, rfl, fun M hH => ?_, fun M hR hro => ?_⟩
      · obtain ⟨M1, a1, a2, a3⟩ := hHR M hH
        refine ⟨M1, ?_, hH.lo a2 (by decide), a2.h (by decide) (by decide)⟩
        rw [r_cls, a1, pp_bd, if_neg h10, if_pos rfl, show mm_al 94 = 10 from rfl, pp_in hb (by decide), if_pos rfl, nI_clamp (by omega), a3 b hb hbm]
      · obtain ⟨Mb, b1, b2, b3, b4, b5, b6⟩ := prep M hR hro (fun (M_15 : mm_M) => mm_bd (f_R_firstRooms M_15) fun r_16 M_17 => mm_jn (fun (v4 : Int32) (s0 : Int32) (M_18 : mm_M) => lp_R_rooms_160 (nI b) v4 s0 (fun (M_22 : mm_M) => some (s0, M_22)) mm_fu 0 M_18) fun j155 => if nI b = 10 then if r_16 = (-1) then j155 r_16 0 M_17 else j155 r_16 1 M_17 else if r_16 = (-1) then j155 r_16 (-2) M_17 else if mm_in (nI b) (mm_al 105) = true then j155 r_16 (M_17.2.1 105 (nI b).toNatClampNeg) M_17 else none)
        obtain ⟨l, Mc, c0, c1, c2, c3, c4⟩ := hRR M Mb b2 b3 b4 b5 b6
        have hn1 : ¬ nI l = -1 := tx_ne (by omega)
        refine ⟨_, b1.trans ?_, r_back (rq6_of c2 hRn) c3, c4.r (by decide)⟩
        rw [c1, pp_bd, pp_jn]
        dsimp only
        rw [if_neg h10, if_neg hn1, mm_al_105, pp_in hb (by decide), if_pos rfl, nI_clamp (by omega), show Mc.2.1 105 b = R b from (c2.2 6 (by decide) b hb).trans (rT_6 R b), sr_rback Mc (fun z => h10 z.1)]
theorem pp_ho_s (S : ss_S) (s : Nat) (v : Int32) : ∀ q b, pp_ho (ss_s S 0 0) s v q b = pp_ho S s v q b := by
  intro q
  induction q with
  | zero => intro b; rfl
  | succ q ih =>
    intro b
    rw [pp_ho, pp_ho, ih]
    rfl
theorem rdt_s (S : ss_S) (s u nr : Nat) : ∀ q i f, rdt (ss_s S 0 0) s u nr q i f = rdt S s u nr q i f := by
  intro q
  induction q with
  | zero => intro i f; rfl
  | succ q ih =>
    intro i f
    have e : rgood (ss_s S 0 0) s u nr f i = rgood S s u nr f i := by
      unfold rgood hok
      rw [pp_ho_s, show rby (ss_s S 0 0) i = rby S i from rfl]
    rw [rdt, rdt, e, ih, show rby (ss_s S 0 0) i = rby S i from rfl]
theorem cn_12 (hu : u < 1024) : pp_cn u 12 = pp_cn u 10 := by
  rw [pp_cn_s, pp_cn_s, tb_hi hu (by decide), tb_hi hu (by decide)]
  rfl
end ROOMS6
section ROOMSP
variable {Q : Int32 → (Nat → Nat → Int32) → Prop}
theorem p_rooms : ok_rooms (ss_I Q) := by
  intro a1 a2 a3 M ⟨S, hI⟩
  have ho := hI.1
  have hH := hI.2.1
  obtain ⟨s, hs, h5⟩ := ho.n 5 (by decide)
  have hs : (s : Int) ≤ 1023 := hs
  have hs4 : s < 1024 := by omega
  obtain ⟨T, hT2, h0⟩ := ho.n 0 (by decide)
  have hT2 : (T : Int) ≤ 200 := hT2
  obtain ⟨nr, hnr, h2⟩ := ho.n 2 (by decide)
  have hnr : (nr : Int) ≤ 10 := hnr
  have e27 : M.1 27 0 = nI s := (hH.1 5 (by decide)).trans h5
  have e11 : M.1 1 1 = nI T := (hH.1 0 (by decide)).trans h0
  have e12 : ∀ M1, ss_RR S M1 → M1.1 97 12 = nI s := fun M1 hR => (hR.1 5 (by decide)).trans h5
  have e971 : ∀ M1, ss_RR S M1 → M1.1 97 1 = nI T := fun M1 hR => (hR.1 0 (by decide)).trans h0
  have i1 : (1 : Int32).toInt = 1 := rfl
  have i6 : (6 : Int32).toInt = 6 := rfl
  by_cases hA : ∃ t : Nat, 0 < t ∧ a1 = nI t ∧ pp_sub t s
  · obtain ⟨u, hu0, rfl, hsub⟩ := hA
    have hu : u < 1024 := Nat.lt_of_le_of_lt (pp_sub_le hsub) hs4
    have hle := pp_cn10 u hu
    have hus : ∀ x, u.testBit x = true → s.testBit x = true := fun x hx => pp_sub_tb hsub hx
    have hare : f_H_areStays (nI u) 6 M = some (decide (pp_cn u 12 ≤ 6), M) := sh_are hs4 e27 hu0 hsub (n := 6) (by decide)
    have hpos : 1 ≤ pp_cn u 12 := by
      obtain ⟨x, hx⟩ : ∃ x, u.testBit x = true := Nat.exists_testBit_of_ne_zero (by omega)
      have hx10 : x < 10 := pp_tb_lt (n := 10) hu hx
      have := pp_cn_in (u := u) (show x < 12 by omega) hx
      omega
    by_cases hc : pp_cn u 12 ≤ 6
    · have hin6 : ∀ M', f_R_in (nI (pp_cn u 12)) 1 6 M' = some (true, M') := fun M' => by
        rw [sr_in, i1, i6, nI_toInt (by omega), decide_eq_true (by omega)]
      by_cases hn : a2 = nI (pp_cn u 12)
      · subst hn
        by_cases hw : a3 = 10 ∨ ∃ b, b < 10 ∧ a3 = nI b ∧ u.testBit b = true
        · by_cases hT : pp_cn u 12 ≤ T
          · have hst : ∀ M', (S.1 0 = nI T) → ss_RH S M' → f_H_roomsOnTape (nI u) (nI (pp_cn u 12)) M' = some ((match rdt S s u nr (pp_cn u 12) 0 0 with | none => -1 | some f => nI f), M') := fun M' _ hH' => sh_tape ho hH' hs4 h5 hu (by omega) h2 (by omega) ⟨hT, by omega⟩ h0
            have ho' : ss_Ok (ss_s S 0 0) := ho.s 0 (by decide)
            have rT' := fun M' (hR' : ss_RR (ss_s S 0 0) M') => sr_tape (s := s) (u := u) (nr := nr) ho' hR' hs4 (show (ss_s S 0 0).1 5 = nI s from h5) hu (by omega) (show (ss_s S 0 0).1 2 = nI nr from h2) (m := pp_cn u 12) hc
            have pre : ∀ M' : mm_M, (if a3 = 10 then some (true, M') else mm_bd (f_H_isIn (nI u) a3 M') fun b_19 M_20 => some (b_19, M_20)) = some (true, M') := fun M' => by
              by_cases h10 : a3 = 10
              · rw [if_pos h10]
              · obtain ⟨b, hb, e, hm⟩ := hw.resolve_left h10
                rw [if_neg h10, sh_isIn (by omega), pp_bd, e, pp_has_k (by omega), hm]
            have fr129 : ∀ {M1 M2}, fr 129 129 M1 M2 → ss_RR (ss_s S 0 0) M1 → ss_RR (ss_s S 0 0) M2 := fun h hR => ⟨fun q hq => by rw [h.1]; exact hR.1 q hq, fun a ha j hj => by
              have : ∀ a, a < 14 → ss_ra a ≠ 129 := by decide
              rw [h.2.2 _ (by have := this a ha; omega)]; exact hR.2 a ha j hj⟩
            cases hd : rdt S s u nr (pp_cn u 12) 0 0 with
            | none =>
              refine ss_go (S' := ss_s S 0 0) (r := -3) hI ho' rfl ⟨mm_setI M 1 1 0, ?_, hH.s 0 (by decide) rfl 0, ss_h.rf.s (by decide)⟩ (fun M1 hR1 => ?_)
              · have tail : (mm_bd (f_H_roomsOnTape (nI u) (nI (pp_cn u 12)) M) fun r_8 M_9 => mm_bd (f_Tape_clear M_9) fun u_10 M_11 => if r_8 = (-1) then some ((-3 : Int32), M_11) else none) = some (-3, mm_setI M 1 1 0) := by
                  rw [hst M h0 hH, hd, pp_bd]
                  unfold f_Tape_clear
                  rw [pp_let, pp_bd, if_pos rfl]
                unfold f_H_rooms f_Tape_size
                rw [hare, pp_bd, decide_eq_true hc, if_pos rfl, sh_bitCount hu, pp_bd, if_pos rfl, pp_bd, e11, if_neg (nI_nlt hT (by omega)), pp_jn]
                by_cases h10 : a3 = 10
                · rw [if_pos h10]
                  dsimp only
                  rw [hst M h0 hH, hd, pp_bd]
                  unfold f_Tape_clear
                  rw [pp_let, pp_bd, if_pos rfl]
                · obtain ⟨b, hb, e, hm⟩ := hw.resolve_left h10
                  rw [if_neg h10, sh_isIn (by omega), pp_bd, e, pp_has_k (by omega), hm, if_pos rfl]
                  dsimp only
                  rw [hst M h0 hH, hd, pp_bd]
                  unfold f_Tape_clear
                  rw [pp_let, pp_bd, if_pos rfl]
              · have hR1' : ss_RR (ss_s S 0 0) (mm_setI M1 97 1 0) := hR1.s 0 (by decide) rfl 0
                obtain ⟨M2, b1, b2⟩ := (rT' _ hR1').1 (by rw [rdt_s]; exact hd)
                refine ⟨M2, ?_, fr129 b2 hR1', (ss_r.rf.s (by decide)).tr ⟨b2.m (by decide) (by decide), fun o _ _ => b2.2.2 o (by omega)⟩⟩
                unfold f_R_rooms
                rw [sr_are hs4 (e12 M1 hR1) hu0 hsub, pp_bd, if_pos rfl, sr_bits (by omega), pp_bd, if_pos rfl, hin6, pp_bd, if_pos rfl, pp_jn]
                by_cases h10 : a3 = 10
                · rw [if_pos h10]
                  dsimp only
                  rw [e971 M1 hR1, if_pos (nI_le hT (by omega)), pp_let, b1, pp_bd, if_neg (by decide)]
                · obtain ⟨b, hb, e, hm⟩ := hw.resolve_left h10
                  rw [if_neg h10, sr_in, pp_bd, i_0, i_9, e, nI_toInt (by omega), decide_eq_true (by omega), if_pos rfl, sr_has (by omega) (by omega), pp_bd, hm, if_pos rfl]
                  dsimp only
                  rw [e971 M1 hR1, if_pos (nI_le hT (by omega)), pp_let, b1, pp_bd, if_neg (by decide)]
            | some f =>
              obtain ⟨M2', b1', b2', b3', b4', b5', b6'⟩ : ∃ M2, True ∧ True ∧ True ∧ f < 1024 ∧ pp_cn f 10 = pp_cn u 10 ∧ True := by
                obtain ⟨M2, b1, b2, b3, b4, b5, b6⟩ := (rT' _ ((hI.2.2.1).s 0 (by decide) rfl 0)).2 f (by rw [rdt_s]; exact hd)
                exact ⟨M2, trivial, trivial, trivial, b4, by rw [b5, cn_12 hu], trivial⟩
              have hnf : ¬ nI f = -1 := tx_ne (by omega)
              obtain ⟨r, S', c1, c2, c3, c4⟩ := r_core (S := ss_s S 0 0) (s := s) (u := u) (f := f) (w := a3) ho' hs4 (show (ss_s S 0 0).1 5 = nI s from h5) hu hu0 hus (by rw [← cn_12 hu]; exact hc) b4' b5' hw
              refine ss_go (S' := S') (r := r) hI c1 (c2.trans rfl) ?_ (fun M1 hR1 => ?_)
              · obtain ⟨M1, d1, d2, d3⟩ := c3 (mm_setI M 1 1 0) (hH.s 0 (by decide) rfl 0)
                refine ⟨M1, ?_, d2, (ss_h.rf.s (by decide)).tr d3⟩
                unfold f_H_rooms f_Tape_size
                rw [hare, pp_bd, decide_eq_true hc, if_pos rfl, sh_bitCount hu, pp_bd, if_pos rfl, pp_bd, e11, if_neg (nI_nlt hT (by omega)), pp_jn]
                by_cases h10 : a3 = 10
                · rw [if_pos h10]
                  dsimp only
                  rw [hst M h0 hH, hd, pp_bd]
                  unfold f_Tape_clear
                  rw [pp_let, pp_bd, if_neg hnf]
                  exact d1
                · obtain ⟨b, hb, e, hm⟩ := hw.resolve_left h10
                  have hin : pp_has u a3 = true := by rw [e, pp_has_k (by omega)]; exact hm
                  rw [if_neg h10, sh_isIn (by omega), pp_bd, hin, if_pos rfl]
                  dsimp only
                  rw [hst M h0 hH, hd, pp_bd]
                  unfold f_Tape_clear
                  rw [pp_let, pp_bd, if_neg hnf]
                  exact d1
              · have hR1' : ss_RR (ss_s S 0 0) (mm_setI M1 97 1 0) := hR1.s 0 (by decide) rfl 0
                obtain ⟨M2, b1, b2, b3, _⟩ := (rT' _ hR1').2 f (by rw [rdt_s]; exact hd)
                obtain ⟨M3, d1, d2, d3⟩ := c4 M2 (fr129 b2 hR1') b3
                refine ⟨M3, ?_, d2, ((ss_r.rf.s (by decide)).tr ⟨b2.m (by decide) (by decide), fun o _ _ => b2.2.2 o (by omega)⟩).tr d3⟩
                unfold f_R_rooms
                rw [sr_are hs4 (e12 M1 hR1) hu0 hsub, pp_bd, if_pos rfl, sr_bits (by omega), pp_bd, if_pos rfl, hin6, pp_bd, if_pos rfl, pp_jn]
                by_cases h10 : a3 = 10
                · rw [if_pos h10]
                  dsimp only
                  rw [e971 M1 hR1, if_pos (nI_le hT (by omega)), pp_let, b1, pp_bd, if_pos rfl]
                  exact d1
                · obtain ⟨b, hb, e, hm⟩ := hw.resolve_left h10
                  rw [if_neg h10, sr_in, pp_bd, i_0, i_9, show a3.toInt = (b : Int) from by rw [e, nI_toInt (by omega)], decide_eq_true (by omega), if_pos rfl, show f_R_has (nI u) a3 M1 = some (true, M1) from by rw [e, sr_has (by omega) (by omega), hm], pp_bd, if_pos rfl]
                  dsimp only
                  rw [e971 M1 hR1, if_pos (nI_le hT (by omega)), pp_let, b1, pp_bd, if_pos rfl]
                  exact d1
          · refine ss_same (r := -1) hI ⟨M, ?_, hH, ss_h.rf⟩ (fun M1 hR1 => ⟨M1, ?_, hR1, ss_r.rf⟩)
            · unfold f_H_rooms f_Tape_size
              rw [hare, pp_bd, decide_eq_true hc, if_pos rfl, sh_bitCount hu, pp_bd, if_pos rfl, pp_bd, e11, if_pos (nI_lt (by omega) (by omega))]
            · unfold f_R_rooms
              rw [sr_are hs4 (e12 M1 hR1) hu0 hsub, pp_bd, if_pos rfl, sr_bits (by omega), pp_bd, if_pos rfl, hin6, pp_bd, if_pos rfl, pp_jn]
              by_cases h10 : a3 = 10
              · rw [if_pos h10]
                dsimp only
                rw [e971 M1 hR1, if_neg (nI_ge (by omega) (by omega))]
              · obtain ⟨b, hb, e, hm⟩ := hw.resolve_left h10
                rw [if_neg h10, sr_in, pp_bd, i_0, i_9, e, nI_toInt (by omega), decide_eq_true (by omega), if_pos rfl, sr_has (by omega) (by omega), pp_bd, hm, if_pos rfl]
                dsimp only
                rw [e971 M1 hR1, if_neg (nI_ge (by omega) (by omega))]
        · have h10 : ¬ a3 = 10 := fun e => hw (Or.inl e)
          have hin : pp_has u a3 = false := by
            cases hq : pp_has u a3
            · rfl
            · obtain ⟨b, hb, e, hm⟩ := pp_has_of hq
              have hb10 : b < 10 := pp_tb_lt (n := 10) hu hm
              exact absurd (Or.inr ⟨b, hb10, e, hm⟩) hw
          refine ss_same (r := -1) hI ⟨M, ?_, hH, ss_h.rf⟩ (fun M1 hR1 => ⟨M1, ?_, hR1, ss_r.rf⟩)
          · unfold f_H_rooms f_Tape_size
            rw [hare, pp_bd, decide_eq_true hc, if_pos rfl, sh_bitCount hu, pp_bd, if_pos rfl, pp_bd, e11]
            by_cases hT : pp_cn u 12 ≤ T
            · rw [if_neg (nI_nlt hT (by omega)), pp_jn, if_neg h10, sh_isIn (by omega), pp_bd, hin, if_neg (by decide)]
            · rw [if_pos (nI_lt (by omega) (by omega))]
          · unfold f_R_rooms
            rw [sr_are hs4 (e12 M1 hR1) hu0 hsub, pp_bd, if_pos rfl, sr_bits (by omega), pp_bd, if_pos rfl, hin6, pp_bd, if_pos rfl, pp_jn, if_neg h10, sr_in, pp_bd, i_0, i_9]
            by_cases h9 : 0 ≤ a3.toInt ∧ a3.toInt ≤ 9
            · obtain ⟨b, hb, e⟩ := ii_nat (v := a3) (n := 10) h9.1 (by omega) (by decide)
              have hm : u.testBit b = false := by
                cases hq : u.testBit b
                · rfl
                · exact absurd (Or.inr ⟨b, hb, e, hq⟩) hw
              rw [decide_eq_true h9, if_pos rfl, e, sr_has (by omega) (by omega), pp_bd, hm, if_neg (by decide)]
            · rw [decide_eq_false h9, if_neg (by decide)]
      · refine ss_same (r := -1) hI ⟨M, ?_, hH, ss_h.rf⟩ (fun M1 hR1 => ⟨M1, ?_, hR1, ss_r.rf⟩)
        · unfold f_H_rooms
          rw [hare, pp_bd, decide_eq_true hc, if_pos rfl, sh_bitCount hu, pp_bd, if_neg hn]
        · unfold f_R_rooms
          rw [sr_are hs4 (e12 M1 hR1) hu0 hsub, pp_bd, if_pos rfl, sr_bits (by omega), pp_bd, if_neg (fun z => hn z.symm)]
    · refine ss_same (r := -1) hI ⟨M, ?_, hH, ss_h.rf⟩ (fun M1 hR1 => ⟨M1, ?_, hR1, ss_r.rf⟩)
      · unfold f_H_rooms
        rw [hare, pp_bd, decide_eq_false hc, if_neg (by decide)]
      · unfold f_R_rooms
        rw [sr_are hs4 (e12 M1 hR1) hu0 hsub, pp_bd, if_pos rfl, sr_bits (by omega), pp_bd]
        by_cases hn : nI (pp_cn u 12) = a2
        · rw [if_pos hn, ← hn, sr_in, pp_bd, i1, i6, nI_toInt (by omega), decide_eq_false (by omega), if_neg (by decide)]
        · rw [if_neg hn]
  · refine ss_same (r := -1) hI ⟨M, ?_, hH, ss_h.rf⟩ (fun M1 hR1 => ⟨M1, ?_, hR1, ss_r.rf⟩)
    · unfold f_H_rooms
      rw [sh_are_no hs4 e27 hA, pp_bd, if_neg (by decide)]
    · unfold f_R_rooms
      rw [sr_are_no hs4 (e12 M1 hR1) hA, pp_bd, if_neg (by decide)]
end ROOMSP
