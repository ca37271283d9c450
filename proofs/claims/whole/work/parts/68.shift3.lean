/-! shifting: the class's search, all of it -/
section SHIFTD
variable {S : ss_S} {u k s : Nat} {M0 : mm_M}
theorem sh_zex (ho : ss_Ok S) (hs : s < 1024) (hus : ∀ x, u.testBit x = true → s.testBit x = true) (hk : k ≤ 2) {b c v t : Nat} {L : ld_L} {M : mm_M} (hb : b < 10) (hm : u.testBit b = true) (hdv : zp u (2 * k + 1) b ∣ c) (hv : v < 2 * k + 1) (hM : zM u k M0 M) (hL : zL S u k s (b + 1) (c + v * zp u (2 * k + 1) (b + 1)) t L M) :
    ∃ M1 t1, f_Load_exclude (nI b) M = some ((), M1) ∧ zM u k M0 M1 ∧ zL S u k s b c t1 L M1 ∧ M1.1 93 8 = M.1 93 8 ∧ ∀ x, M1.2.1 95 x = M.2.1 95 x := by
  obtain ⟨m1, m2, m3⟩ := hM
  obtain ⟨l1, l2, l3, l4, l5⟩ := hL
  have hK : 0 < 2 * k + 1 := by omega
  have hQ := zp_pos (u := u) hK (b + 1)
  have hP : zp u (2 * k + 1) b = (2 * k + 1) * zp u (2 * k + 1) (b + 1) := by rw [zp_b hb, if_pos hm]
  have hcv : v * zp u (2 * k + 1) (b + 1) < zp u (2 * k + 1) b := by rw [hP]; exact Nat.mul_lt_mul_of_pos_right hv hQ
  have hpre : ∀ x, x < b → zd u (2 * k + 1) x (c + v * zp u (2 * k + 1) (b + 1)) = zd u (2 * k + 1) x c := fun x hx => zd_pre hK hx (by omega) hdv hcv
  have hF : ∀ q, (∀ x, x < 10 → q.testBit x = true → s.testBit x = true) → ld_F L q := fun q hq x hx hqx => by
    have := l4 x hx (hq x hx hqx)
    obtain ⟨f, hf, e⟩ := pp_fl_e ho hx
    exact ⟨f, hf, this.trans e⟩
  have htt : ∀ x, x < 10 → (pp_delN t b).testBit x = (t.testBit x && !(decide (x = b))) := fun x hx => pp_delN_tb (by omega) (by omega)
  have hsub : ∀ x, x < 10 → (pp_delN t b).testBit x = true → t.testBit x = true ∧ x ≠ b := fun x hx h => by
    rw [htt x hx] at h
    simp only [Bool.and_eq_true, Bool.not_eq_true', decide_eq_false_iff_not] at h
    exact h
  have hlt : pp_delN t b < 1024 := Nat.lt_of_le_of_lt (pp_delN_le t b) l2.1
  obtain ⟨Mi, i1, i2, i3⟩ := sh_turnTo l1 hlt (hF t (zT_s hs l2)) (hF _ (fun x hx h => zT_s hs l2 x hx (hsub x hx h).1))
  have hT : zT s u b (pp_delN t b) := ⟨hlt, fun x hx => by
    rw [htt x hx, l2.2 x hx]
    by_cases e : x = b
    · subst e
      rw [decide_eq_true rfl, hm, decide_eq_false (show ¬ x < x by omega)]
      simp
    · rw [decide_eq_false e, show decide (x < b + 1) = decide (x < b) from by
        rcases Nat.lt_or_ge x b with q | q
        · rw [decide_eq_true q, decide_eq_true (by omega)]
        · rw [decide_eq_false (by omega), decide_eq_false (by omega)]]
      simp⟩
  have hi71 : ∀ o, 71 ≤ o → Mi.1 o = M.1 o ∧ Mi.2.1 o = M.2.1 o := fun o h => ⟨(i3 o (by omega)).1, (i3 o (by omega)).2.1⟩
  refine ⟨Mi, pp_delN t b, ?_, ⟨m1.tr (i3.wd (by decide) (by decide)), by rw [(hi71 93 (by decide)).1]; exact m2, by rw [(hi71 93 (by decide)).1]; exact m3⟩, ⟨i2, hT, fun x hx h kd hr h1 h2 => ?_, l4, fun x hx hmx => ?_⟩, by rw [(hi71 93 (by decide)).1], fun x => by rw [(hi71 95 (by decide)).2]⟩
  · unfold f_Load_exclude
    rw [l1.2.1, pp_del (by have := l2.1; omega) (by omega), i1, pp_bd]
  · rw [l3 x hx (hsub x hx h).1 kd hr h1 h2]
    refine zA_want ?_
    by_cases hmx : u.testBit x = true
    · have hxb : x < b := by
        rw [hT.2 x hx, hmx] at h
        simp only [Bool.and_eq_true, Bool.not_true, Bool.false_or, decide_eq_true_eq] at h
        exact h.2
      rw [zA_9 hx hmx, zA_9 hx hmx, hpre x hxb]
    · rw [zA_n hmx, zA_n hmx]
  · rw [(hi71 96 (by decide)).2, l5 x (by omega) hmx, zA_9 (by omega) hmx, zA_9 (by omega) hmx, hpre x hx]
theorem sh_zdfs (ho : ss_Ok S) (hH0 : ss_RH S M0) (hs : s < 1024) (hu : u < 1024) (hu0 : 0 < u) (hus : ∀ x, u.testBit x = true → s.testBit x = true) (hk : k ≤ 2) (hcn : pp_cn u 10 ≤ 5) : ∀ n b c M X L t d, b + n = 10 → n < d → zp u (2 * k + 1) b ∣ c → zM u k M0 M → zY S u k X M → zL S u k s b c t L M → X.1 ≤ 100 → zH S u k b c < X.1 → ((∃ x, x < b ∧ u.testBit x = true) → pp_fit (zA S u k c) t true = none) →
    ∃ M1 L1 t1, f_Mover_findShiftsFrom d (nI b) (nI (zH S u k b c)) M = some ((), M1) ∧ zM u k M0 M1 ∧ zY S u k (zf S u k s (zp u (2 * k + 1) b) c X) M1 ∧ zL S u k s b c t1 L1 M1 := by
  have hK : 0 < 2 * k + 1 := by omega
  have hsub : pp_sub u s := pp_subI hus
  have hHb : ∀ b c, b ≤ 10 → zH S u k b c < 100 → zH S u k b c ≤ 10 := fun b c hb h => by
    have h1 := zH_le (S := S) (u := u) hk b h
    have h2 := pp_cn_up u (b := b) (10 - b)
    rw [show b + (10 - b) = 10 by omega] at h2
    omega
  intro n
  induction n with
  | zero =>
    intro b c M X L t d hb hd hdv hM hY hL hX hH hF
    have : b = 10 := by omega
    subst this
    obtain ⟨d, rfl⟩ : ∃ d', d = d' + 1 := ⟨d - 1, by omega⟩
    have ht := zT_eq hs hL.2.1
    subst ht
    obtain ⟨x, hx⟩ : ∃ x, u.testBit x = true := Nat.exists_testBit_of_ne_zero (by omega)
    have hx10 : x < 10 := by
      rcases Nat.lt_or_ge x 10 with q | q
      · exact q
      · rw [tb_hi hu q] at hx; cases hx
    have hfit := hF ⟨x, hx10, hx⟩
    have h10 := hHb 10 c (by omega) (by omega)
    have hzf : zf S u k t (zp u (2 * k + 1) 10) c X = (zH S u k 10 c, c) := by
      rw [zp_10]
      show zs S u k t c X = _
      exact if_pos ⟨hH, by rw [hfit]; rfl⟩
    rw [f_Mover_findShiftsFrom]
    unfold fb_Mover_findShiftsFrom
    rw [if_neg (show ¬ nI 10 < 10 by decide), pp_let, show mm_cpok 96 95 0 0 10 = true from by decide, if_pos rfl, pp_let, hzf]
    refine ⟨_, L, t, rfl, ⟨(hM.1.s (by decide)).r (by decide), hM.2.1, hM.2.2⟩, ⟨?_, fun _ y hy hmy => ?_⟩, ld_I_fr hL.1 (fun o h1 h2 => ⟨?_, ss_setr_ne (by omega)⟩), hL.2.1, hL.2.2.1, hL.2.2.2.1, fun y hy hmy => ?_⟩
    · show nI (zH S u k 10 c) = nI (min 11 (zH S u k 10 c))
      congr 1
      omega
    · rw [cp_in _ _ _ _ (show y < 10 from hy)]
      exact hL.2.2.2.2 y hy hmy
    · funext q
      show (if o = 93 ∧ q = 8 then _ else M.1 o q) = _
      rw [if_neg (fun e => by omega)]
    · rw [cp_ne _ _ _ _ (by decide)]
      exact hL.2.2.2.2 y hy hmy
  | succ n ih =>
    intro b c M X L t d hb hd hdv hM hY hL hX hH hF
    obtain ⟨d, rfl⟩ : ∃ d', d = d' + 1 := ⟨d - 1, by omega⟩
    have hb10 : b < 10 := by omega
    rw [f_Mover_findShiftsFrom]
    unfold fb_Mover_findShiftsFrom
    rw [if_pos (show nI b < 10 from nI_lt (b := 10) hb10 (by decide)), hM.2.1, sh_isIn (by omega), pp_has_k (by omega), pp_bd]
    by_cases hm : u.testBit b = true
    · rw [if_pos hm, hM.2.2, pp_let]
      have hQ := zp_pos (u := u) hK (b + 1)
      have hP : zp u (2 * k + 1) b = (2 * k + 1) * zp u (2 * k + 1) (b + 1) := by rw [zp_b hb10, if_pos hm]
      have key : ∀ q v M' X' L' t', v + q = 2 * k + 1 → zM u k M0 M' → zY S u k X' M' → zL S u k s b c t' L' M' → X'.1 ≤ 100 → zH S u k b c ≤ 10 → ∀ m, ∃ M1 L1 t1, lp_Mover_findShiftsFrom_53 (f_Mover_findShiftsFrom d) (nI b) (nI (zH S u k b c)) (fun (M_24 : mm_M) => some ((), M_24)) (m + q + 1) (nI v - nI k) M' = some ((), M1) ∧ zM u k M0 M1 ∧ zY S u k (zf S u k s (q * zp u (2 * k + 1) (b + 1)) (c + v * zp u (2 * k + 1) (b + 1)) X') M1 ∧ zL S u k s b c t1 L1 M1 := by
        intro q
        induction q with
        | zero =>
          intro v M' X' L' t' hq hM' hY' hL' hX' _ m
          refine ⟨M', L', t', ?_, hM', ?_, hL'⟩
          · rw [show m + 0 + 1 = m + 1 from rfl, lp_Mover_findShiftsFrom_53, hM'.2.2, if_pos ((zn_end v (by omega) k (by omega)).mpr (by omega))]
          · rw [Nat.zero_mul]; exact hY'
        | succ q ihq =>
          intro v M' X' L' t' hq hM' hY' hL' hX' hHc m
          have hv : v < 2 * k + 1 := by omega
          have hH' := hH0.lo hM'.1 (by decide)
          have hsf := pp_sf_e ho hb10
          have e31 : M'.2.1 31 b = S.2 9 b := hH'.2 9 (by decide) b hb10
          have hcv : v * zp u (2 * k + 1) (b + 1) < zp u (2 * k + 1) b := by rw [hP]; exact Nat.mul_lt_mul_of_pos_right hv hQ
          have hat : ∀ j, j < zp u (2 * k + 1) (b + 1) → zd u (2 * k + 1) b (c + v * zp u (2 * k + 1) (b + 1) + j) = v := fun j hj => zd_at hK hb10 hm hdv hv hj
          have hat0 : zd u (2 * k + 1) b (c + v * zp u (2 * k + 1) (b + 1)) = v := by have := hat 0 hQ; rw [Nat.add_zero] at this; exact this
          have hdv2 : zp u (2 * k + 1) (b + 1) ∣ c + v * zp u (2 * k + 1) (b + 1) := Nat.dvd_add (Nat.dvd_trans (zp_dvd (by omega) 1 b rfl) hdv) (Nat.dvd_mul_left _ _)
          have hHv : zH S u k (b + 1) (c + v * zp u (2 * k + 1) (b + 1)) = zH S u k b c + (zv k v + (if k ≤ pp_sf S b + v ∧ pp_sf S b + v ≤ 6 + k then 0 else 100)) := by
            rw [zH, zH_pre (by omega) hdv hcv b (Nat.le_refl _)]
            unfold zc
            rw [if_pos hm, hat0]
          have hHj : ∀ j, j < zp u (2 * k + 1) (b + 1) → zH S u k (b + 1) (c + v * zp u (2 * k + 1) (b + 1)) ≤ zH S u k 10 (c + v * zp u (2 * k + 1) (b + 1) + j) := fun j hj => by
            rw [← zH_pre (by omega) hdv2 hj (b + 1) (Nat.le_refl _)]
            have := zH_mono (S := S) (u := u) (k := k) (code := c + v * zp u (2 * k + 1) (b + 1) + j) (b := b + 1) (10 - (b + 1))
            rw [show b + 1 + (10 - (b + 1)) = 10 by omega] at this
            exact this
          have split : ∀ Y, zf S u k s ((q + 1) * zp u (2 * k + 1) (b + 1)) (c + v * zp u (2 * k + 1) (b + 1)) Y = zf S u k s (q * zp u (2 * k + 1) (b + 1)) (c + (v + 1) * zp u (2 * k + 1) (b + 1)) (zf S u k s (zp u (2 * k + 1) (b + 1)) (c + v * zp u (2 * k + 1) (b + 1)) Y) := fun Y => by
            rw [show (q + 1) * zp u (2 * k + 1) (b + 1) = zp u (2 * k + 1) (b + 1) + q * zp u (2 * k + 1) (b + 1) from by rw [Nat.add_mul, Nat.one_mul, Nat.add_comm], zf_add, show c + v * zp u (2 * k + 1) (b + 1) + zp u (2 * k + 1) (b + 1) = c + (v + 1) * zp u (2 * k + 1) (b + 1) from by rw [Nat.add_mul, Nat.one_mul, Nat.add_assoc]]
          have skip : zf S u k s (zp u (2 * k + 1) (b + 1)) (c + v * zp u (2 * k + 1) (b + 1)) X' = X' → ∃ M1 L1 t1, lp_Mover_findShiftsFrom_53 (f_Mover_findShiftsFrom d) (nI b) (nI (zH S u k b c)) (fun (M_24 : mm_M) => some ((), M_24)) (m + q + 1) (nI (v + 1) - nI k) M' = some ((), M1) ∧ zM u k M0 M1 ∧ zY S u k (zf S u k s ((q + 1) * zp u (2 * k + 1) (b + 1)) (c + v * zp u (2 * k + 1) (b + 1)) X') M1 ∧ zL S u k s b c t1 L1 M1 := fun e => by
            rw [split, e]
            exact ihq (v + 1) M' X' L' t' (by omega) hM' hY' hL' hX' hHc m
          rw [show m + (q + 1) + 1 = (m + q + 1) + 1 from rfl, lp_Mover_findShiftsFrom_53, hM'.2.2, if_neg (fun z => by have := (zn_end v (by omega) k (by omega)).mp z; omega), mm_al_31, show mm_al 96 = 10 from rfl, pp_in hb10 (by decide), if_pos rfl, nI_clamp (by omega), e31, pp_let]
          unfold f_Math_abs
          have ab1 : (if 0 ≤ nI v - nI k then some (nI v - nI k, M') else some (-(nI v - nI k), M')) = some (nI (zv k v), M') := by
            rw [← zn_by v (by omega) k (by omega)]
            split <;> rfl
          have ab2 : ∀ w : Int32, (if 0 ≤ w then some (w, M') else some (-w, M')) = some (if 0 ≤ w then w else -w, M') := fun w => by split <;> rfl
          rw [ab1, pp_bd, nI_add, pp_let, ab2, pp_bd, pp_jn]
          dsimp only
          rw [show nI v - nI k + 1 = nI (v + 1) - nI k from zn_inc v (by omega) k (by omega), pp_let]
          by_cases hr : k ≤ pp_sf S b + v ∧ pp_sf S b + v ≤ 6 + k
          · have hna : ¬ (3 : Int32) < (if 0 ≤ S.2 9 b + (nI v - nI k) then S.2 9 b + (nI v - nI k) else -(S.2 9 b + (nI v - nI k))) := by
              rw [hsf.1]
              exact fun z => (zn_ab _ hsf.2 v (by omega) k (by omega)).mp z hr
            rw [if_neg hna, hY'.1]
            rw [if_pos hr] at hHv
            have hHv : zH S u k (b + 1) (c + v * zp u (2 * k + 1) (b + 1)) = zH S u k b c + zv k v := hHv
            by_cases hle : X'.1 ≤ zH S u k b c + zv k v
            · have h11 : min 11 X'.1 ≤ zH S u k b c + zv k v := by omega
              rw [if_pos (nI_le h11 (by have : zv k v ≤ 10 := by unfold zv; split <;> omega
                                        omega))]
              refine skip (zf_id _ _ _ (fun j hj z => ?_))
              have := hHj j hj
              omega
            · have hlt : zH S u k b c + zv k v < 100 := by omega
              have hle10 := hHb (b + 1) (c + v * zp u (2 * k + 1) (b + 1)) (by omega) (by omega)
              rw [if_neg (nI_ge (show zH S u k b c + zv k v < min 11 X'.1 by omega) (by omega)), if_pos rfl, pp_let]
              obtain ⟨Ma, La, ta, a1, a2, a3, a4, a5⟩ := sh_ztry ho hH0 hs hus hk hb10 hm hdv hv hM' hL' hr (fun b_17 M_18 => if b_17 = true then mm_bd (f_Mover_findShiftsFrom d (nI b + 1) (nI (zH S u k b c + zv k v)) M_18) fun _ M_23 => mm_bd (f_Load_exclude (nI b) M_23) fun _ M_21 => lp_Mover_findShiftsFrom_53 (f_Mover_findShiftsFrom d) (nI b) (nI (zH S u k b c)) (fun (M_24 : mm_M) => some ((), M_24)) (m + q + 1) (nI (v + 1) - nI k) M_21 else mm_bd (f_Load_exclude (nI b) M_18) fun _ M_21 => lp_Mover_findShiftsFrom_53 (f_Mover_findShiftsFrom d) (nI b) (nI (zH S u k b c)) (fun (M_24 : mm_M) => some ((), M_24)) (m + q + 1) (nI (v + 1) - nI k) M_21)
              have hYa : zY S u k X' Ma := ⟨by rw [a4]; exact hY'.1, fun z x hx hmx => by rw [a5]; exact hY'.2 z x hx hmx⟩
              simp only [pp_jn, pp_let, zn_inc v (show v < 6 by omega) k (show k < 3 by omega)]
              have goal2 : ∃ M1 L1 t1, (if (pp_fit (zA S u k (c + v * zp u (2 * k + 1) (b + 1))) ta true).isNone = true then mm_bd (f_Mover_findShiftsFrom d (nI b + 1) (nI (zH S u k b c + zv k v)) Ma) fun _ M_23 => mm_bd (f_Load_exclude (nI b) M_23) fun _ M_21 => lp_Mover_findShiftsFrom_53 (f_Mover_findShiftsFrom d) (nI b) (nI (zH S u k b c)) (fun (M_24 : mm_M) => some ((), M_24)) (m + q + 1) (nI (v + 1) - nI k) M_21 else mm_bd (f_Load_exclude (nI b) Ma) fun _ M_21 => lp_Mover_findShiftsFrom_53 (f_Mover_findShiftsFrom d) (nI b) (nI (zH S u k b c)) (fun (M_24 : mm_M) => some ((), M_24)) (m + q + 1) (nI (v + 1) - nI k) M_21) = some ((), M1) ∧ zM u k M0 M1 ∧ zY S u k (zf S u k s ((q + 1) * zp u (2 * k + 1) (b + 1)) (c + v * zp u (2 * k + 1) (b + 1)) X') M1 ∧ zL S u k s b c t1 L1 M1 := by
                by_cases hfit : (pp_fit (zA S u k (c + v * zp u (2 * k + 1) (b + 1))) ta true).isNone = true
                · rw [if_pos hfit, nI_1]
                  obtain ⟨Mb, Lb, tb, b1, b2, b3, b4⟩ := ih (b + 1) (c + v * zp u (2 * k + 1) (b + 1)) Ma X' La ta d (by omega) (by omega) hdv2 a2 hYa a3 hX' (by omega) (fun _ => by
                    cases hq : pp_fit (zA S u k (c + v * zp u (2 * k + 1) (b + 1))) ta true with
                    | none => rfl
                    | some z => rw [hq] at hfit; cases hfit)
                  obtain ⟨Mc, tc, c1, c2, c3, c4, c5⟩ := sh_zex ho hs hus hk hb10 hm hdv hv b2 b4
                  rw [hHv] at b1
                  rw [b1, pp_bd, c1, pp_bd, split]
                  have hYc : zY S u k (zf S u k s (zp u (2 * k + 1) (b + 1)) (c + v * zp u (2 * k + 1) (b + 1)) X') Mc := ⟨by rw [c4]; exact b3.1, fun z x hx hmx => by rw [c5]; exact b3.2 z x hx hmx⟩
                  exact ihq (v + 1) Mc _ Lb tc (by omega) c2 hYc c3 (Nat.le_trans (zf_le _ _ _) hX') hHc m
                · rw [if_neg hfit]
                  obtain ⟨Mc, tc, c1, c2, c3, c4, c5⟩ := sh_zex ho hs hus hk hb10 hm hdv hv a2 a3
                  have hYc : zY S u k X' Mc := ⟨by rw [c4]; exact hYa.1, fun z x hx hmx => by rw [c5]; exact hYa.2 z x hx hmx⟩
                  have e : zf S u k s (zp u (2 * k + 1) (b + 1)) (c + v * zp u (2 * k + 1) (b + 1)) X' = X' := zf_id _ _ _ (fun j hj z => by
                    have hok := zA_ok ho (by omega) (show zH S u k 10 (c + v * zp u (2 * k + 1) (b + 1) + j) < 100 by omega)
                    have hsn : pp_fit (zA S u k (c + v * zp u (2 * k + 1) (b + 1) + j)) s true = none := by
                      cases hq : pp_fit (zA S u k (c + v * zp u (2 * k + 1) (b + 1) + j)) s true with
                      | none => rfl
                      | some z' => rw [hq] at z; exact absurd z.2 Bool.false_ne_true
                    have hta : pp_sub ta s := pp_subI (fun x hx => by
                      rcases Nat.lt_or_ge x 10 with y | y
                      · exact zT_s hs a3.2.1 x y hx
                      · rw [tb_hi a3.2.1.1 y] at hx; cases hx)
                    have hmo := pp_fit_mono hok hta hsn
                    rw [zA_fit (c2 := c + v * zp u (2 * k + 1) (b + 1)) (fun x hx htx => by
                      by_cases hmx : u.testBit x = true
                      · have hxb : x < b + 1 := by
                          rw [a3.2.1.2 x hx, hmx] at htx
                          simp only [Bool.and_eq_true, Bool.not_true, Bool.false_or, decide_eq_true_eq] at htx
                          exact htx.2
                        rw [zA_9 hx hmx, zA_9 hx hmx, zd_pre hK hxb (by omega) hdv2 hj]
                      · rw [zA_n hmx, zA_n hmx])] at hmo
                    rw [hmo] at hfit
                    exact hfit rfl)
                  rw [c1, pp_bd, split, e]
                  exact ihq (v + 1) Mc X' La tc (by omega) c2 hYc c3 hX' hHc m
              obtain ⟨M1, L1, t1, g1, g2⟩ := goal2
              exact ⟨M1, L1, t1, a1.trans g1, g2⟩
          · have hna : (3 : Int32) < (if 0 ≤ S.2 9 b + (nI v - nI k) then S.2 9 b + (nI v - nI k) else -(S.2 9 b + (nI v - nI k))) := by
              rw [hsf.1]
              exact (zn_ab _ hsf.2 v (by omega) k (by omega)).mpr hr
            rw [if_pos hna]
            rw [if_neg hr] at hHv
            refine skip (zf_id _ _ _ (fun j hj z => ?_))
            have := hHj j hj
            omega
      have := key (2 * k + 1) 0 M X L t (by omega) hM hY hL hX (hHb b c (by omega) (by omega)) (5000 - (2 * k + 1) - 1)
      rw [show 5000 - (2 * k + 1) - 1 + (2 * k + 1) + 1 = mm_fu from by show _ = 5000; omega, Nat.zero_mul, Nat.add_zero, ← hP, show nI 0 - nI k = -(nI k) from by rw [show nI 0 = (0 : Int32) from rfl, Int32.zero_sub]] at this
      exact this
    · have hm' : u.testBit b = false := by
        cases hq : u.testBit b
        · rfl
        · exact absurd hq hm
      have hP : zp u (2 * k + 1) b = zp u (2 * k + 1) (b + 1) := by rw [zp_b hb10, if_neg hm, Nat.one_mul]
      have hHe : zH S u k (b + 1) c = zH S u k b c := by
        rw [zH]
        unfold zc
        rw [if_neg hm, Nat.add_zero]
      have hT : ∀ t, zT s u b t ↔ zT s u (b + 1) t := fun t => by
        have : ∀ x, (!(u.testBit x) || decide (x < b)) = (!(u.testBit x) || decide (x < b + 1)) := fun x => by
          by_cases e : x = b
          · subst e; rw [hm']; rfl
          · rw [show decide (x < b + 1) = decide (x < b) from by
              rcases Nat.lt_or_ge x b with q | q
              · rw [decide_eq_true q, decide_eq_true (by omega)]
              · rw [decide_eq_false (by omega), decide_eq_false (by omega)]]
        constructor
        · intro h; exact ⟨h.1, fun x hx => by rw [h.2 x hx, this]⟩
        · intro h; exact ⟨h.1, fun x hx => by rw [h.2 x hx, this]⟩
      rw [hm', if_neg (by decide), nI_1]
      obtain ⟨Mb, Lb, tb, b1, b2, b3, b4⟩ := ih (b + 1) c M X L t d (by omega) (by omega) (by rw [← hP]; exact hdv) hM hY ⟨hL.1, (hT t).mp hL.2.1, hL.2.2.1, hL.2.2.2.1, fun x hx hmx => hL.2.2.2.2 x (by
          rcases Nat.lt_or_ge x b with z | z
          · exact z
          · exact absurd (show u.testBit b = true from by rw [show b = x by omega]; exact hmx) hm) hmx⟩ hX (by rw [hHe]; exact hH) (fun ⟨x, hx, hmx⟩ => hF ⟨x, by
          rcases Nat.lt_or_ge x b with z | z
          · exact z
          · exact absurd (show u.testBit b = true from by rw [show b = x by omega]; exact hmx) hm, hmx⟩)
      rw [hHe] at b1
      rw [b1, pp_bd, hP]
      exact ⟨Mb, Lb, tb, rfl, b2, b3, b4.1, (hT tb).mpr b4.2.1, b4.2.2.1, b4.2.2.2.1, fun x hx hmx => b4.2.2.2.2 x (by omega) hmx⟩
end SHIFTD
