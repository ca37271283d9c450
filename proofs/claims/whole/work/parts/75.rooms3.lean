/-! rooms: the class's search -/
section ROOMS3
variable {S : ss_S} {u s : Nat} {M0 : mm_M}
def rM (u : Nat) (M0 M : mm_M) : Prop := ss_m 56 97 M0 M ∧ M.1 93 3 = nI u
def rL (S : ss_S) (u s b : Nat) (R : Nat → Int32) (t : Nat) (L : ld_L) (M : mm_M) : Prop := ld_I L t M ∧ zT s u b t ∧ (∀ x, x < 10 → s.testBit x = true → ∀ kd h, kd < 3 → h < 24 → L.1 x (24 * kd + h) = pp_want S x kd h) ∧ (∀ x, x < 10 → t.testBit x = true → L.2 x = pp_fl (rT S R) x) ∧ ∀ x, x < b → u.testBit x = true → M.2.1 94 x = R x
theorem ld_I_fl {L : ld_L} {t b : Nat} {M : mm_M} {v : Int32} (h : ld_I L t M) (hb : b < 10) (hn : t.testBit b = false) : ld_I (L.1, up L.2 b v) t (mm_setA M 68 b v) := by
  obtain ⟨⟨h1, h2, h3, h4⟩, h5, h6⟩ := h
  refine ⟨⟨fun x hx j hj => ?_, fun x hx => ?_, fun j hj => ?_, fun fl h hf hh => ?_⟩, h5, h6⟩
  · rw [ss_seta_ne (by omega)]; exact h1 x hx j hj
  · rw [pp_sa]
    by_cases e : x = b
    · rw [if_pos ⟨rfl, e⟩, e]; exact (up_at _ _ _).symm
    · rw [if_neg (fun z => e z.2)]; exact (h2 x hx).trans (up_ne e).symm
  · rw [ss_seta_ne (by omega)]; exact h3 j hj
  · rw [ss_seta_ne (by omega), h4 fl h hf hh]
    exact pp_sm_ext (fun x hx => by
      by_cases e : x = b
      · subst e
        simp [hn]
      · show _ = if (t.testBit x && decide (up L.2 b v x = nI fl)) = true then L.1 x h else 0
        rw [up_ne e])
theorem rn_fits {R : Nat → Int32} {L : ld_L} {t : Nat} {M : mm_M} (hH : ss_RH S M) (h : ld_I L t M) (hw : ∀ x, x < 10 → t.testBit x = true → ∀ kd h, kd < 3 → h < 24 → L.1 x (24 * kd + h) = pp_want S x kd h) (hL : ∀ x, x < 10 → t.testBit x = true → L.2 x = pp_fl (rT S R) x) : ∃ M1, f_Load_fits M = some ((pp_fit (rT S R) t true).isNone, M1) ∧ ld_I L t M1 ∧ ss_m 56 71 M M1 := by
  have hof : ld_of (rT S R) t L := fun b hb ht => ⟨hL b hb ht, fun kd h a c => by rw [rT_want]; exact hw b hb ht kd h a c⟩
  have := sh_fitsFrom (sm := pp_all (rT S R) t) (fr := pp_rain (rT S R) t) hH (fun _ _ hk hh => ld_sum h hof (pp_sub_rf t) hk hh) (fun _ _ hf hh => ld_rain h hof (pp_sub_rf t) hf hh) true
  rw [if_pos rfl] at this
  unfold f_Load_fits
  refine ⟨ld_end M (pp_can S (pp_all (rT S R) t) (pp_rain (rT S R) t) true 24 0 (S.1 3)), ?_, ld_end_I h _, ld_end_m M _⟩
  rw [show f_Load_fitsFrom 0 M = _ from this, pp_bd]
  unfold pp_fit
  rw [rT_can, show (rT S R).1 = S.1 from rfl]
theorem rT_flok (ho : ss_Ok S) {R : Nat → Int32} (hr : rok R) {x : Nat} (hx : x < 10) : ∃ f : Nat, f < 4 ∧ pp_fl (rT S R) x = nI f := by
  obtain ⟨y, hy, e⟩ := hr x hx
  obtain ⟨f, hf, e2⟩ := rfl_e ho hy
  exact ⟨f, hf, by rw [rT_fl, e, nI_toInt (by omega)]; exact e2⟩
theorem sh_rtry (ho : ss_Ok S) (hH0 : ss_RH S M0) (hs : s < 1024) (hus : ∀ x, u.testBit x = true → s.testBit x = true) {b y t : Nat} {R : Nat → Int32} {L : ld_L} {M : mm_M} (hr : rok R) (hb : b < 10) (hm : u.testBit b = true) (hy : y < 10) (hM : rM u M0 M) (hL : rL S u s b R t L M) (K : Bool → mm_M → Option (Bool × mm_M)) :
    ∃ M1 L1 t1, (mm_bd (f_Load_setFloor (nI b) (S.2 2 y) (mm_setA M 94 b (nI y))) fun _ M_13 => mm_bd (f_Load_include (nI b) M_13) fun _ M_15 => mm_bd (f_Load_fits M_15) fun b_16 M_17 => K b_16 M_17) = K (pp_fit (rT S (up R b (nI y))) t1 true).isNone M1 ∧ rM u M0 M1 ∧ rL S u s (b + 1) (up R b (nI y)) t1 L1 M1 := by
  obtain ⟨m1, m2⟩ := hM
  obtain ⟨l1, l2, l3, l4, l5⟩ := hL
  have htb : t.testBit b = false := by
    rw [l2.2 b hb, hm, decide_eq_false (by omega)]
    simp
  have hsb := hus b hm
  have hH := hH0.lo m1 (by decide)
  unfold f_Load_setFloor
  rw [mm_al_68, pp_in hb (by decide), if_pos rfl, nI_clamp (by omega), pp_let, pp_bd]
  have li2 : ld_I L t (mm_setA M 94 b (nI y)) := ld_I_fr l1 (fun o h1 h2 => ⟨rfl, ss_seta_ne (by omega)⟩)
  have li3 := ld_I_fl (v := S.2 2 y) li2 hb htb
  generalize hMs : mm_setA (mm_setA M 94 b (nI y)) 68 b (S.2 2 y) = Ms at li3
  have ms : ss_m 56 97 M Ms := by rw [← hMs]; exact (ss_m.rf.a (by omega)).a (by omega)
  have htt : ∀ x, (t ||| 2 ^ b).testBit x = (t.testBit x || decide (b = x)) := fun x => by rw [Nat.testBit_or, Nat.testBit_two_pow]
  have ht1 : t ||| 2 ^ b < 1024 := Nat.or_lt_two_pow (n := 10) l2.1 (Nat.pow_lt_pow_right (by decide) hb)
  have hor : ∀ x, (t ||| 2 ^ b).testBit x = true → t.testBit x = true ∨ x = b := fun x h => by
    rw [htt] at h
    simp only [Bool.or_eq_true, decide_eq_true_eq] at h
    exact h.imp id Eq.symm
  have htS : ∀ x, x < 10 → (t ||| 2 ^ b).testBit x = true → s.testBit x = true := fun x hx h => by
    rcases hor x h with z | z
    · exact zT_s hs l2 x hx z
    · rw [z]; exact hsb
  have hL2 : ∀ x, x < 10 → (t ||| 2 ^ b).testBit x = true → up L.2 b (S.2 2 y) x = pp_fl (rT S (up R b (nI y))) x := fun x hx h => by
    rw [rT_flu hy]
    by_cases e : x = b
    · rw [if_pos e, e, up_at]
    · rw [if_neg e, up_ne e]
      exact l4 x hx ((hor x h).resolve_right e)
  have hF : ∀ q, (∀ x, x < 10 → q.testBit x = true → (t ||| 2 ^ b).testBit x = true) → ld_F (L.1, up L.2 b (S.2 2 y)) q := fun q hq x hx hqx => by
    obtain ⟨f, hf, e⟩ := rT_flok ho (hr.up (b := b) hy) hx
    exact ⟨f, hf, (hL2 x hx (hq x hx hqx)).trans e⟩
  obtain ⟨Mi, i1, i2, i3⟩ := sh_turnTo li3 ht1 (hF t (fun x hx h => by rw [htt, h]; rfl)) (hF _ (fun x hx h => h))
  have inc : f_Load_include (nI b) Ms = some ((), Mi) := by
    unfold f_Load_include
    rw [show Ms.1 56 7 = nI t from li3.2.1, pp_one b (by omega), pp_orN, i1, pp_bd]
  have hHi := hH.lo (ms.tr (i3.wd (by decide) (by decide))) (by decide)
  obtain ⟨Mf, f1, f2, f3⟩ := rn_fits hHi i2 (fun x hx h => l3 x hx (htS x hx h)) hL2
  rw [inc, pp_bd, f1, pp_bd]
  have mf : ss_m 56 97 M Mf := (ms.tr (i3.wd (by decide) (by decide))).tr (f3.wd (by decide) (by decide))
  have hi71 : ∀ o, 71 ≤ o → Mf.1 o = Ms.1 o ∧ Mf.2.1 o = Ms.2.1 o := fun o h => ⟨((f3 o (by omega)).1).trans (i3 o (by omega)).1, ((f3 o (by omega)).2.1).trans (i3 o (by omega)).2.1⟩
  have s93 : Ms.1 93 = M.1 93 := by rw [← hMs]; rfl
  refine ⟨Mf, (L.1, up L.2 b (S.2 2 y)), t ||| 2 ^ b, rfl, ⟨m1.tr mf, by rw [(hi71 93 (by decide)).1, s93]; exact m2⟩, f2, ⟨ht1, fun x hx => ?_⟩, l3, hL2, fun x hx hmx => ?_⟩
  · rw [htt, l2.2 x hx]
    by_cases e : b = x
    · subst e
      rw [decide_eq_true rfl, Bool.or_true, hsb, decide_eq_true (by omega), Bool.or_true]
      rfl
    · rw [decide_eq_false e, Bool.or_false, show decide (x < b) = decide (x < b + 1) from by
        rcases Nat.lt_or_ge x b with q | q
        · rw [decide_eq_true q, decide_eq_true (by omega)]
        · rw [decide_eq_false (by omega), decide_eq_false (by omega)]]
  · rw [(hi71 94 (by decide)).2, ← hMs, pp_sa, if_neg (fun z => absurd z.1 (by decide)), pp_sa]
    by_cases e : x = b
    · rw [if_pos ⟨rfl, e⟩, e, up_at]
    · rw [if_neg (fun z => e z.2), up_ne e]; exact l5 x (by omega) hmx
theorem sh_rex (ho : ss_Ok S) (hs : s < 1024) {b y t : Nat} {R : Nat → Int32} {L : ld_L} {M : mm_M} (hr : rok R) (hb : b < 10) (hm : u.testBit b = true) (hy : y < 10) (hM : rM u M0 M) (hL : rL S u s (b + 1) (up R b (nI y)) t L M) :
    ∃ M1 t1, f_Load_exclude (nI b) M = some ((), M1) ∧ rM u M0 M1 ∧ rL S u s b R t1 L M1 := by
  obtain ⟨m1, m2⟩ := hM
  obtain ⟨l1, l2, l3, l4, l5⟩ := hL
  have htt : ∀ x, x < 10 → (pp_delN t b).testBit x = (t.testBit x && !(decide (x = b))) := fun x hx => pp_delN_tb (by omega) (by omega)
  have hsub : ∀ x, x < 10 → (pp_delN t b).testBit x = true → t.testBit x = true ∧ x ≠ b := fun x hx h => by
    rw [htt x hx] at h
    simp only [Bool.and_eq_true, Bool.not_eq_true', decide_eq_false_iff_not] at h
    exact h
  have hF : ∀ q, (∀ x, x < 10 → q.testBit x = true → t.testBit x = true) → ld_F L q := fun q hq x hx hqx => by
    obtain ⟨f, hf, e⟩ := rT_flok ho (hr.up (b := b) hy) hx
    exact ⟨f, hf, (l4 x hx (hq x hx hqx)).trans e⟩
  have hlt : pp_delN t b < 1024 := Nat.lt_of_le_of_lt (pp_delN_le t b) l2.1
  obtain ⟨Mi, i1, i2, i3⟩ := sh_turnTo l1 hlt (hF t (fun x hx h => h)) (hF _ (fun x hx h => (hsub x hx h).1))
  have hT : zT s u b (pp_delN t b) := ⟨hlt, fun x hx => by
    rw [htt x hx, l2.2 x hx]
    by_cases e : x = b
    · subst e
      rw [decide_eq_true rfl, hm, decide_eq_false (show ¬ x < x by omega)]
      simp
    · rw [decide_eq_false e, show decide (x < b + 1) = decide (x < b) from by
        rcases Nat.lt_or_ge x b with q | q
        · rw [decide_eq_true q, decide_eq_true (by omega)]
        · rw [decide_eq_false (by omega), decide_eq_false (by omega)]]
      simp⟩
  have hi71 : ∀ o, 71 ≤ o → Mi.1 o = M.1 o ∧ Mi.2.1 o = M.2.1 o := fun o h => ⟨(i3 o (by omega)).1, (i3 o (by omega)).2.1⟩
  refine ⟨Mi, pp_delN t b, ?_, ⟨m1.tr (i3.wd (by decide) (by decide)), by rw [(hi71 93 (by decide)).1]; exact m2⟩, i2, hT, l3, fun x hx h => ?_, fun x hx hmx => ?_⟩
  · unfold f_Load_exclude
    rw [l1.2.1, pp_del (by have := l2.1; omega) (by omega), i1, pp_bd]
  · obtain ⟨h1, h2⟩ := hsub x hx h
    rw [l4 x hx h1, rT_flu hy, if_neg h2]
  · rw [(hi71 94 (by decide)).2, l5 x (by omega) hmx, up_ne (by omega)]
theorem sh_rdfs (ho : ss_Ok S) (hH0 : ss_RH S M0) (hs : s < 1024) (hu : u < 1024) (hu0 : 0 < u) (hus : ∀ x, u.testBit x = true → s.testBit x = true) : ∀ n b R f M L t d, b + n = 10 → n < d → f < 1024 → rok R → rM u M0 M → rL S u s b R t L M → ((∃ x, x < b ∧ u.testBit x = true) → pp_fit (rT S R) t true = none) →
    (∃ M1 R', f_Mover_findRoomsFrom d (nI b) (nI f) M = some (true, M1) ∧ FX u s n b (rT S R) f = some (rT S R') ∧ ss_m 56 97 M0 M1 ∧ ∀ x, x < 10 → u.testBit x = true → M1.2.1 94 x = R' x) ∨
    (∃ M1 L1 t1, f_Mover_findRoomsFrom d (nI b) (nI f) M = some (false, M1) ∧ FX u s n b (rT S R) f = none ∧ rM u M0 M1 ∧ rL S u s b R t1 L1 M1) := by
  intro n
  induction n with
  | zero =>
    intro b R f M L t d hb hd hf hr hM hL hF
    have : b = 10 := by omega
    subst this
    obtain ⟨d, rfl⟩ : ∃ d', d = d' + 1 := ⟨d - 1, by omega⟩
    have ht := zT_eq hs hL.2.1
    subst ht
    obtain ⟨x, hx⟩ : ∃ x, u.testBit x = true := Nat.exists_testBit_of_ne_zero (by omega)
    have hx10 : x < 10 := by
      rcases Nat.lt_or_ge x 10 with q | q
      · exact q
      · rw [tb_hi hu q] at hx; cases hx
    have hfit := hF ⟨x, hx10, hx⟩
    refine Or.inl ⟨M, R, ?_, ?_, hM.1, hL.2.2.2.2⟩
    · rw [f_Mover_findRoomsFrom]
      unfold fb_Mover_findRoomsFrom
      rw [if_neg (show ¬ nI 10 < 10 by decide)]
    · rw [FX]
      unfold fz
      rw [hfit, if_pos (show (none : Option (Nat × Int32)).isNone = true from rfl)]
  | succ n ih =>
    intro b R f M L t d hb hd hf hr hM hL hF
    obtain ⟨d, rfl⟩ : ∃ d', d = d' + 1 := ⟨d - 1, by omega⟩
    have hb10 : b < 10 := by omega
    rw [f_Mover_findRoomsFrom]
    unfold fb_Mover_findRoomsFrom
    rw [if_pos (show nI b < 10 from nI_lt (b := 10) hb10 (by decide)), hM.2, sh_isIn (by omega), pp_has_k (by omega), pp_bd, FX]
    by_cases hm : u.testBit b = true
    · rw [if_pos hm, if_pos hm]
      have key : ∀ q y τ M' L' t', y + q = 10 → τ < 16 → rM u M0 M' → rL S u s b R t' L' M' → (∀ x, x < y → f.testBit x = true → FX u s n (b + 1) (rT S (up R b (nI x))) (pp_delN f x) = none) → (∀ fl, fl < 4 → (τ.testBit fl = true ↔ ∃ x, x < y ∧ f.testBit x = true ∧ S.2 2 x = nI fl)) → ∀ m,
          (∃ M1 R', lp_Mover_findRoomsFrom_33 (f_Mover_findRoomsFrom d) (nI b) (nI f) (fun (M_23 : mm_M) => some (true, M_23)) (fun (M_24 : mm_M) => some (false, M_24)) (m + q + 1) (nI τ) (nI y) M' = some (true, M1) ∧ fq (fun x => FX u s n (b + 1) (ss_a (rT S R) 6 b (nI x)) (pp_delN f x)) f q y = some (rT S R') ∧ ss_m 56 97 M0 M1 ∧ ∀ x, x < 10 → u.testBit x = true → M1.2.1 94 x = R' x) ∨
          (∃ M1 L1 t1, lp_Mover_findRoomsFrom_33 (f_Mover_findRoomsFrom d) (nI b) (nI f) (fun (M_23 : mm_M) => some (true, M_23)) (fun (M_24 : mm_M) => some (false, M_24)) (m + q + 1) (nI τ) (nI y) M' = some (false, M1) ∧ fq (fun x => FX u s n (b + 1) (ss_a (rT S R) 6 b (nI x)) (pp_delN f x)) f q y = none ∧ rM u M0 M1 ∧ rL S u s b R t1 L1 M1) := by
        intro q
        induction q with
        | zero =>
          intro y τ M' L' t' hy _ hM' hL' _ _ m
          have : y = 10 := by omega
          subst this
          refine Or.inr ⟨M', L', t', ?_, rfl, hM', hL'⟩
          rw [show m + 0 + 1 = m + 1 from rfl, lp_Mover_findRoomsFrom_33, if_pos (by decide)]
        | succ q ihq =>
          intro y τ M' L' t' hy hτ hM' hL' hno hτf m
          have hy10 : y < 10 := by omega
          have hH' := hH0.lo hM'.1 (by decide)
          have e23 : M'.2.1 23 y = S.2 2 y := hH'.2 2 (by decide) y hy10
          obtain ⟨fl, hfl, efl⟩ := rfl_e ho hy10
          rw [show m + (q + 1) + 1 = (m + q + 1) + 1 from rfl, lp_Mover_findRoomsFrom_33, if_neg (show ¬ (10 : Int32) ≤ nI y from nI_ge (b := 10) hy10 (by decide)), mm_al_23, pp_in hy10 (by decide), if_pos rfl, nI_clamp (by omega), e23, pp_let, sh_isIn (by omega), pp_has_k (by omega), pp_bd, pp_jn, fq]
          by_cases hfy : f.testBit y = true
          · rw [if_pos hfy, if_pos hfy, efl, sh_isIn (by omega), pp_has_k (by omega), pp_bd, rT_a]
            by_cases hτy : τ.testBit fl = true
            · -- a floor that was tried
              obtain ⟨x, hx, hfx, ex⟩ := (hτf fl hfl).mp hτy
              have hnone : FX u s n (b + 1) (rT S (up R b (nI y))) (pp_delN f y) = none := by
                cases hq : FX u s n (b + 1) (rT S (up R b (nI y))) (pp_delN f y) with
                | none => rfl
                | some z =>
                  have hx10 : x < 10 := by omega
                  have := FX_fl (u := u) (s := s) ho n (b + 1) (up R b (nI y)) (up R b (nI x)) (pp_delN f y) (pp_delN f x) (by omega) (fun w hw => by rw [rT_flu hy10, rT_flu hx10, efl, ex]) (fun g hg => by
                    have e1 := fcn_del (S := S) (v := nI g) hy10 hfy 10 (Nat.le_refl _)
                    have e2 := fcn_del (S := S) (v := nI g) hx10 hfx 10 (Nat.le_refl _)
                    rw [efl] at e1
                    rw [ex] at e2
                    have e4 : (if x < 10 ∧ nI fl = nI g then 1 else 0) = (if y < 10 ∧ nI fl = nI g then 1 else 0) := by
                      by_cases hc : nI fl = nI g
                      · rw [if_pos ⟨hx10, hc⟩, if_pos ⟨hy10, hc⟩]
                      · rw [if_neg (fun z => hc z.2), if_neg (fun z => hc z.2)]
                    omega) (by rw [hq]; rfl)
                  rw [hno x hx hfx] at this
                  cases this
              rw [if_pos hτy, hnone, Option.none_or]
              dsimp only
              rw [nI_1, pp_let]
              refine ihq (y + 1) τ M' L' t' (by omega) hτ hM' hL' (fun w hw hfw => ?_) (fun g hg => ?_) m
              · by_cases e : w = y
                · rw [e]; exact hnone
                · exact hno w (by omega) hfw
              · rw [hτf g hg]
                constructor
                · rintro ⟨w, a, b⟩; exact ⟨w, by omega, b⟩
                · rintro ⟨w, a, c, e⟩
                  by_cases z : w = y
                  · rw [z, efl, nI_eq (by omega) (by omega)] at e
                    exact ⟨x, hx, hfx, by rw [ex, e]⟩
                  · exact ⟨w, by omega, c, e⟩
            · have hτy' : τ.testBit fl = false := by
                cases hq : τ.testBit fl
                · rfl
                · exact absurd hq hτy
              have hτ1 : τ ||| 2 ^ fl < 16 := Nat.or_lt_two_pow (n := 4) hτ (Nat.pow_lt_pow_right (by decide) hfl)
              have hτf1 : ∀ g, g < 4 → ((τ ||| 2 ^ fl).testBit g = true ↔ ∃ x, x < y + 1 ∧ f.testBit x = true ∧ S.2 2 x = nI g) := fun g hg => by
                rw [Nat.testBit_or, Nat.testBit_two_pow, Bool.or_eq_true, decide_eq_true_eq, hτf g hg]
                constructor
                · rintro (⟨w, a, b⟩ | e)
                  · exact ⟨w, by omega, b⟩
                  · exact ⟨y, by omega, hfy, by rw [efl, e]⟩
                · rintro ⟨w, a, c, e⟩
                  by_cases z : w = y
                  · rw [z, efl, nI_eq (by omega) (by omega)] at e
                    exact Or.inr e
                  · exact Or.inl ⟨w, by omega, c, e⟩
              rw [hτy', if_neg (by decide), pp_one fl (by omega), pp_orN, pp_let, show mm_al 94 = 10 from rfl, pp_in hb10 (by decide), if_pos rfl, nI_clamp (by omega), pp_let, ← efl]
              obtain ⟨Ma, La, ta, a1, a2, a3⟩ := sh_rtry ho hH0 hs hus hr hb10 hm hy10 hM' hL' (fun b_16 M_17 => if b_16 = true then mm_bd (f_Mover_findRoomsFrom d (nI (b + 1)) (nI (pp_delN f y)) M_17) fun b_21 M_22 => if b_21 = true then some (true, M_22) else mm_bd (f_Load_exclude (nI b) M_22) fun _ M_20 => lp_Mover_findRoomsFrom_33 (f_Mover_findRoomsFrom d) (nI b) (nI f) (fun (M_23 : mm_M) => some (true, M_23)) (fun (M_24 : mm_M) => some (false, M_24)) (m + q + 1) (nI (τ ||| 2 ^ fl)) (nI (y + 1)) M_20 else mm_bd (f_Load_exclude (nI b) M_17) fun _ M_20 => lp_Mover_findRoomsFrom_33 (f_Mover_findRoomsFrom d) (nI b) (nI f) (fun (M_23 : mm_M) => some (true, M_23)) (fun (M_24 : mm_M) => some (false, M_24)) (m + q + 1) (nI (τ ||| 2 ^ fl)) (nI (y + 1)) M_20)
              simp only [pp_jn, pp_let, nI_1, pp_del (show f < 2 ^ 31 by omega) (show y < 12 by omega)]
              rw [a1]
              have cont : ∀ Mz Lz tz, rM u M0 Mz → rL S u s (b + 1) (up R b (nI y)) tz Lz Mz → FX u s n (b + 1) (rT S (up R b (nI y))) (pp_delN f y) = none →
                  (∃ M1 R', (mm_bd (f_Load_exclude (nI b) Mz) fun _ M_20 => lp_Mover_findRoomsFrom_33 (f_Mover_findRoomsFrom d) (nI b) (nI f) (fun (M_23 : mm_M) => some (true, M_23)) (fun (M_24 : mm_M) => some (false, M_24)) (m + q + 1) (nI (τ ||| 2 ^ fl)) (nI (y + 1)) M_20) = some (true, M1) ∧ (FX u s n (b + 1) (rT S (up R b (nI y))) (pp_delN f y)).or (fq (fun x => FX u s n (b + 1) (ss_a (rT S R) 6 b (nI x)) (pp_delN f x)) f q (y + 1)) = some (rT S R') ∧ ss_m 56 97 M0 M1 ∧ ∀ x, x < 10 → u.testBit x = true → M1.2.1 94 x = R' x) ∨
                  (∃ M1 L1 t1, (mm_bd (f_Load_exclude (nI b) Mz) fun _ M_20 => lp_Mover_findRoomsFrom_33 (f_Mover_findRoomsFrom d) (nI b) (nI f) (fun (M_23 : mm_M) => some (true, M_23)) (fun (M_24 : mm_M) => some (false, M_24)) (m + q + 1) (nI (τ ||| 2 ^ fl)) (nI (y + 1)) M_20) = some (false, M1) ∧ (FX u s n (b + 1) (rT S (up R b (nI y))) (pp_delN f y)).or (fq (fun x => FX u s n (b + 1) (ss_a (rT S R) 6 b (nI x)) (pp_delN f x)) f q (y + 1)) = none ∧ rM u M0 M1 ∧ rL S u s b R t1 L1 M1) := fun Mz Lz tz z1 z2 z3 => by
                obtain ⟨Mc, tc, c1, c2, c3⟩ := sh_rex ho hs hr hb10 hm hy10 z1 z2
                rw [c1, pp_bd, z3, Option.none_or]
                exact ihq (y + 1) (τ ||| 2 ^ fl) Mc Lz tc (by omega) hτ1 c2 c3 (fun w hw hfw => by
                  by_cases e : w = y
                  · rw [e]; exact z3
                  · exact hno w (by omega) hfw) hτf1 m
              by_cases hfit : (pp_fit (rT S (up R b (nI y))) ta true).isNone = true
              · rw [if_pos hfit]
                rcases ih (b + 1) (up R b (nI y)) (pp_delN f y) Ma La ta d (by omega) (by omega) (Nat.lt_of_le_of_lt (pp_delN_le f y) hf) (hr.up hy10) a2 a3 (fun _ => by
                  cases hq : pp_fit (rT S (up R b (nI y))) ta true with
                  | none => rfl
                  | some z => rw [hq] at hfit; cases hfit) with ⟨M1, R', b1, b2, b3, b4⟩ | ⟨M1, L1, t1, b1, b2, b3, b4⟩
                · rw [b1, pp_bd, if_pos rfl, b2, Option.some_or]
                  exact Or.inl ⟨M1, R', rfl, rfl, b3, b4⟩
                · rw [b1, pp_bd, if_neg (by decide)]
                  exact cont M1 L1 t1 b3 b4 b2
              · rw [if_neg hfit]
                refine cont Ma La ta a2 a3 ?_
                cases hq : FX u s n (b + 1) (rT S (up R b (nI y))) (pp_delN f y) with
                | none => rfl
                | some T' =>
                  obtain ⟨R', r1, r2, r3, r4⟩ := FX_leaf ho n (b + 1) _ _ T' (by omega) (hr.up hy10) hq
                  have hta : pp_sub ta s := pp_subI (fun x hx => by
                    rcases Nat.lt_or_ge x 10 with z | z
                    · exact zT_s hs a3.2.1 x z hx
                    · rw [tb_hi a3.2.1.1 z] at hx; cases hx)
                  rw [r1] at r4
                  have hmo := pp_fit_mono (rT_ok ho r2) hta r4
                  rw [rT_fit (R2 := up R b (nI y)) (fun x hx htx => by
                    rw [rT_fl, rT_fl, r3 x (by
                      rw [a3.2.1.2 x hx] at htx
                      simp only [Bool.and_eq_true, Bool.or_eq_true, Bool.not_eq_true', decide_eq_true_eq] at htx
                      rcases htx.2 with z | z
                      · right; rw [z]; decide
                      · left; exact z)])] at hmo
                  rw [hmo] at hfit
                  exact absurd rfl hfit
          · have hfy' : f.testBit y = false := by
              cases hq : f.testBit y
              · rfl
              · exact absurd hq hfy
            rw [hfy', if_neg (by decide), if_neg (by decide), Option.none_or]
            dsimp only
            rw [nI_1, pp_let]
            refine ihq (y + 1) τ M' L' t' (by omega) hτ hM' hL' (fun w hw hfw => hno w (by
              rcases Nat.lt_or_ge w y with z | z
              · exact z
              · exact absurd (show f.testBit y = true from by rw [show y = w by omega]; exact hfw) hfy) hfw) (fun g hg => ?_) m
            rw [hτf g hg]
            constructor
            · rintro ⟨w, a, c⟩; exact ⟨w, by omega, c⟩
            · rintro ⟨w, a, c, e⟩
              refine ⟨w, ?_, c, e⟩
              rcases Nat.lt_or_ge w y with z | z
              · exact z
              · exact absurd (show f.testBit y = true from by rw [show y = w by omega]; exact c) hfy
      exact key 10 0 0 M L t rfl (by decide) hM hL (fun x hx => by omega) (fun g hg => ⟨fun z => (by rw [Nat.zero_testBit] at z; cases z), fun ⟨x, hx, _⟩ => by omega⟩) 4989
    · have hm' : u.testBit b = false := by
        cases hq : u.testBit b
        · rfl
        · exact absurd hq hm
      have hT : ∀ t, zT s u b t ↔ zT s u (b + 1) t := fun t => by
        have : ∀ x, (!(u.testBit x) || decide (x < b)) = (!(u.testBit x) || decide (x < b + 1)) := fun x => by
          by_cases e : x = b
          · subst e; rw [hm']; rfl
          · rw [show decide (x < b + 1) = decide (x < b) from by
              rcases Nat.lt_or_ge x b with q | q
              · rw [decide_eq_true q, decide_eq_true (by omega)]
              · rw [decide_eq_false (by omega), decide_eq_false (by omega)]]
        constructor
        · intro h; exact ⟨h.1, fun x hx => by rw [h.2 x hx, this]⟩
        · intro h; exact ⟨h.1, fun x hx => by rw [h.2 x hx, this]⟩
      have hxb : ∀ x, x < b + 1 → u.testBit x = true → x < b := fun x hx hmx => by
        rcases Nat.lt_or_ge x b with z | z
        · exact z
        · exact absurd (show u.testBit b = true from by rw [show b = x by omega]; exact hmx) hm
      rw [hm', if_neg (by decide), if_neg (by decide), nI_1]
      rcases ih (b + 1) R f M L t d (by omega) (by omega) hf hr hM ⟨hL.1, (hT t).mp hL.2.1, hL.2.2.1, hL.2.2.2.1, fun x hx hmx => hL.2.2.2.2 x (hxb x hx hmx) hmx⟩ (fun ⟨x, hx, hmx⟩ => hF ⟨x, hxb x hx hmx, hmx⟩) with ⟨M1, R', b1, b2, b3, b4⟩ | ⟨M1, L1, t1, b1, b2, b3, b4⟩
      · rw [b1, pp_bd]
        exact Or.inl ⟨M1, R', rfl, b2, b3, b4⟩
      · rw [b1, pp_bd]
        exact Or.inr ⟨M1, L1, t1, rfl, b2, b3, b4.1, (hT t1).mpr b4.2.1, b4.2.2.1, b4.2.2.2.1, fun x hx hmx => b4.2.2.2.2 x (by omega) hmx⟩
end ROOMS3
