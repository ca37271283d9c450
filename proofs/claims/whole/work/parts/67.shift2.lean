/-! shifting: the class's search -/
section SHIFTH
variable {S : ss_S} {u k s : Nat} {M0 : mm_M}
def zT (s u b t : Nat) : Prop := t < 1024 ∧ ∀ x, x < 10 → t.testBit x = (s.testBit x && (!(u.testBit x) || decide (x < b)))
def zM (u k : Nat) (M0 M : mm_M) : Prop := ss_m 56 97 M0 M ∧ M.1 93 3 = nI u ∧ M.1 93 7 = nI k
def zY (S : ss_S) (u k : Nat) (X : zX) (M : mm_M) : Prop := M.1 93 8 = nI (min 11 X.1) ∧ (X.1 < 100 → ∀ x, x < 10 → u.testBit x = true → M.2.1 95 x = (zA S u k X.2).2 9 x)
def zL (S : ss_S) (u k s b c t : Nat) (L : ld_L) (M : mm_M) : Prop := ld_I L t M ∧ zT s u b t ∧ (∀ x, x < 10 → t.testBit x = true → ∀ kd h, kd < 3 → h < 24 → L.1 x (24 * kd + h) = pp_want (zA S u k c) x kd h) ∧ (∀ x, x < 10 → s.testBit x = true → L.2 x = pp_fl S x) ∧ ∀ x, x < b → u.testBit x = true → M.2.1 96 x = (zA S u k c).2 9 x
theorem zT_s {t b : Nat} (hs : s < 1024) (h : zT s u b t) : ∀ x, x < 10 → t.testBit x = true → s.testBit x = true := fun x hx ht => by
  rw [h.2 x hx] at ht
  simp only [Bool.and_eq_true] at ht
  exact ht.1
theorem tb_hi {t x : Nat} (h : t < 1024) (hx : 10 ≤ x) : t.testBit x = false := Nat.testBit_lt_two_pow (Nat.lt_of_lt_of_le (show t < 2 ^ 10 from h) (Nat.pow_le_pow_right (by decide) hx))
theorem zT_eq {t : Nat} (hs : s < 1024) (h : zT s u 10 t) : t = s := by
  refine Nat.eq_of_testBit_eq (fun x => ?_)
  rcases Nat.lt_or_ge x 10 with hx | hx
  · rw [h.2 x hx, decide_eq_true hx, Bool.or_true, Bool.and_true]
  · rw [tb_hi h.1 hx, tb_hi hs hx]
theorem zH_le (hk : k ≤ 2) {code : Nat} : ∀ b, zH S u k b code < 100 → zH S u k b code ≤ 2 * pp_cn u b := by
  intro b
  induction b with
  | zero => intro _; exact Nat.le_refl _
  | succ b ih =>
    intro h
    rw [zH] at h ⊢
    rw [pp_cn, pp_bit01]
    have h1 := ih (by omega)
    unfold zc at h ⊢
    by_cases hm : u.testBit b = true
    · rw [if_pos hm] at h ⊢
      rw [if_pos hm]
      have hd := zd_lt (u := u) (K := 2 * k + 1) (b := b) (code := code) (by omega)
      have hv : zv k (zd u (2 * k + 1) b code) ≤ 2 := by
        unfold zv
        split <;> omega
      by_cases q : k ≤ pp_sf S b + zd u (2 * k + 1) b code ∧ pp_sf S b + zd u (2 * k + 1) b code ≤ 6 + k
      · rw [if_pos q] at h ⊢; omega
      · rw [if_neg q] at h; omega
    · rw [if_neg hm, if_neg hm]; omega
theorem pp_cn_up (u : Nat) {b : Nat} : ∀ n, pp_cn u b ≤ pp_cn u (b + n) := by
  intro n
  induction n with
  | zero => exact Nat.le_refl _
  | succ n ih => rw [show b + (n + 1) = (b + n) + 1 from rfl, pp_cn]; omega
theorem zn_end : ∀ v, v < 6 → ∀ k, k < 3 → (nI k < nI v - nI k ↔ 2 * k < v) := by decide +kernel
theorem zn_inc : ∀ v, v < 6 → ∀ k, k < 3 → nI v - nI k + 1 = nI (v + 1) - nI k := by decide +kernel
theorem zn_val : ∀ a, a < 7 → ∀ v, v < 5 → ∀ k, k < 3 → k ≤ a + v → nI a - 3 + (nI v - nI k) = nI (a + v - k) - 3 := by decide +kernel
theorem ld_I_row {L : ld_L} {t b : Nat} {M : mm_M} {f : Nat → Int32} (h : ld_I L t M) (hb : b < 10) (hn : t.testBit b = false) : ld_I ((fun x j => if x = b then f j else L.1 x j), L.2) t (mm_setR M (58 + b) f) := by
  obtain ⟨⟨h1, h2, h3, h4⟩, h5, h6⟩ := h
  refine ⟨⟨fun x hx j hj => ?_, fun x hx => ?_, fun j hj => ?_, fun fl h hf hh => ?_⟩, h5, h6⟩
  · show (if 58 + x = 58 + b then f j else M.2.1 (58 + x) j) = if x = b then f j else L.1 x j
    by_cases e : x = b
    · rw [if_pos (by omega), if_pos e]
    · rw [if_neg (by omega), if_neg e]; exact h1 x hx j hj
  · rw [pp_srn (by omega)]; exact h2 x hx
  · rw [pp_srn (by omega), h3 j hj]
    exact pp_sm_ext (fun x hx => by
      by_cases e : x = b
      · dsimp only
        rw [e, hn, if_neg (show ¬ false = true by decide), if_neg (show ¬ false = true by decide)]
      · show _ = if _ then (if x = b then f j else L.1 x j) else 0
        rw [if_neg e])
  · rw [pp_srn (by omega), h4 fl h hf hh]
    exact pp_sm_ext (fun x hx => by
      by_cases e : x = b
      · subst e
        simp [hn]
      · show _ = if _ then (if x = b then f h else L.1 x h) else 0
        rw [if_neg e])
theorem ld_I_fr {L : ld_L} {t : Nat} {M M1 : mm_M} (h : ld_I L t M) (hm : ∀ o, 56 ≤ o → o < 71 → M1.1 o = M.1 o ∧ M1.2.1 o = M.2.1 o) : ld_I L t M1 := by
  obtain ⟨⟨h1, h2, h3, h4⟩, h5, h6⟩ := h
  exact ⟨⟨fun x hx j hj => by rw [(hm (58 + x) (by omega) (by omega)).2]; exact h1 x hx j hj, fun x hx => by rw [(hm 68 (by omega) (by omega)).2]; exact h2 x hx, fun j hj => by rw [(hm 69 (by omega) (by omega)).2]; exact h3 j hj, fun f h a b => by rw [(hm 70 (by omega) (by omega)).2]; exact h4 f h a b⟩, by rw [(hm 56 (by omega) (by omega)).1]; exact h5, h6⟩
/-- whether a set fits, by the class's load, with shifts as a code tells them -/
theorem zn_fits {L : ld_L} {t c : Nat} {M : mm_M} (hH : ss_RH S M) (h : ld_I L t M) (hL : ∀ x, x < 10 → t.testBit x = true → L.2 x = pp_fl S x ∧ ∀ kd h, kd < 3 → h < 24 → L.1 x (24 * kd + h) = pp_want (zA S u k c) x kd h) : ∃ M1, f_Load_fits M = some ((pp_fit (zA S u k c) t true).isNone, M1) ∧ ld_I L t M1 ∧ ss_m 56 71 M M1 := by
  have hfl : ∀ b, pp_fl (zA S u k c) b = pp_fl S b := fun b => by
    have e6 : (zA S u k c).2 6 b = S.2 6 b := zA_a (by decide)
    have e2 : ∀ j, (zA S u k c).2 2 j = S.2 2 j := fun j => zA_a (by decide)
    unfold pp_fl pp_rm
    rw [e6, e2]
  have hof : ld_of (zA S u k c) t L := fun b hb ht => by rw [hfl]; exact hL b hb ht
  have := sh_fitsFrom (sm := pp_all (zA S u k c) t) (fr := pp_rain (zA S u k c) t) hH (fun _ _ hk hh => ld_sum h hof (pp_sub_rf t) hk hh) (fun _ _ hf hh => ld_rain h hof (pp_sub_rf t) hf hh) true
  rw [if_pos rfl] at this
  unfold f_Load_fits
  refine ⟨ld_end M (pp_can S (pp_all (zA S u k c) t) (pp_rain (zA S u k c) t) true 24 0 (S.1 3)), ?_, ld_end_I h _, ld_end_m M _⟩
  rw [show f_Load_fitsFrom 0 M = _ from this, pp_bd]
  unfold pp_fit
  rw [zA_can, show (zA S u k c).1 = S.1 from rfl]
/-- one try for stay b -/
theorem sh_ztry (ho : ss_Ok S) (hH0 : ss_RH S M0) (hs : s < 1024) (hus : ∀ x, u.testBit x = true → s.testBit x = true) (hk : k ≤ 2) {b c v t : Nat} {L : ld_L} {M : mm_M} (hb : b < 10) (hm : u.testBit b = true) (hdv : zp u (2 * k + 1) b ∣ c) (hv : v < 2 * k + 1) (hM : zM u k M0 M) (hL : zL S u k s b c t L M) (hr : k ≤ pp_sf S b + v ∧ pp_sf S b + v ≤ 6 + k) (K : Bool → mm_M → Option (Unit × mm_M)) :
    ∃ M1 L1 t1, (mm_bd (f_Load_setShift (nI b) (S.2 9 b + (nI v - nI k)) (mm_setA M 96 b (S.2 9 b + (nI v - nI k)))) fun _ M_14 => mm_bd (f_Load_include (nI b) M_14) fun _ M_16 => mm_bd (f_Load_fits M_16) fun b_17 M_18 => K b_17 M_18) = K (pp_fit (zA S u k (c + v * zp u (2 * k + 1) (b + 1))) t1 true).isNone M1 ∧ zM u k M0 M1 ∧ zL S u k s (b + 1) (c + v * zp u (2 * k + 1) (b + 1)) t1 L1 M1 ∧ M1.1 93 8 = M.1 93 8 ∧ ∀ x, M1.2.1 95 x = M.2.1 95 x := by
  obtain ⟨m1, m2, m3⟩ := hM
  obtain ⟨l1, l2, l3, l4, l5⟩ := hL
  have hK : 0 < 2 * k + 1 := by omega
  have hQ := zp_pos (u := u) hK (b + 1)
  have hP : zp u (2 * k + 1) b = (2 * k + 1) * zp u (2 * k + 1) (b + 1) := by rw [zp_b hb, if_pos hm]
  have hcv : v * zp u (2 * k + 1) (b + 1) < zp u (2 * k + 1) b := by rw [hP]; exact Nat.mul_lt_mul_of_pos_right hv hQ
  have hpre : ∀ x, x < b → zd u (2 * k + 1) x (c + v * zp u (2 * k + 1) (b + 1)) = zd u (2 * k + 1) x c := fun x hx => zd_pre hK hx (by omega) hdv hcv
  have hat : zd u (2 * k + 1) b (c + v * zp u (2 * k + 1) (b + 1)) = v := by
    have := zd_at (j := 0) hK hb hm hdv hv hQ
    rw [Nat.add_zero] at this
    exact this
  have hrow : ∀ x, x < 10 → t.testBit x = true → (zA S u k (c + v * zp u (2 * k + 1) (b + 1))).2 9 x = (zA S u k c).2 9 x := fun x hx ht => by
    by_cases hmx : u.testBit x = true
    · have hxb : x < b := by
        rw [l2.2 x hx, hmx] at ht
        simp only [Bool.and_eq_true, Bool.not_true, Bool.false_or, decide_eq_true_eq] at ht
        exact ht.2
      rw [zA_9 hx hmx, zA_9 hx hmx, hpre x hxb]
    · rw [zA_n hmx, zA_n hmx]
  have htb : t.testBit b = false := by
    rw [l2.2 b hb, hm, decide_eq_false (by omega)]
    simp
  have hsb := hus b hm
  have hsf := pp_sf_e ho hb
  have hdy := pp_dy_e ho hb
  have hH := hH0.lo m1 (by decide)
  have hval : S.2 9 b + (nI v - nI k) = nI (pp_sf S b + v - k) - 3 := by rw [hsf.1, zn_val _ hsf.2 v (by omega) k (by omega) hr.1]
  have e29 : (mm_setA M 96 b (nI (pp_sf S b + v - k) - 3)).2.1 29 b = nI (pp_dy S b) := (hH.2 7 (by decide) b hb).trans hdy.1
  rw [hval, sh_setShift hb (by omega) hdy.2 e29, pp_bd]
  -- the load with the new row
  have li2 : ld_I L t (mm_setA M 96 b (nI (pp_sf S b + v - k) - 3)) := ld_I_fr l1 (fun o h1 h2 => ⟨rfl, ss_seta_ne (by omega)⟩)
  have li3 := ld_I_row (f := fun j => if j < 72 then pp_row ((mm_setA M 96 b (nI (pp_sf S b + v - k) - 3)).2.1 (6 + pp_dy S b)) (pp_sf S b + v - k) j else (mm_setA M 96 b (nI (pp_sf S b + v - k) - 3)).2.1 (58 + b) j) li2 hb htb
  generalize hL2 : ((fun x j => if x = b then (if j < 72 then pp_row ((mm_setA M 96 b (nI (pp_sf S b + v - k) - 3)).2.1 (6 + pp_dy S b)) (pp_sf S b + v - k) j else (mm_setA M 96 b (nI (pp_sf S b + v - k) - 3)).2.1 (58 + b) j) else L.1 x j, L.2) : ld_L) = L2 at li3
  have li4 : ld_I L2 t (ld_ss (mm_setA M 96 b (nI (pp_sf S b + v - k) - 3)) b (pp_sf S b + v - k) (pp_dy S b)) := li3
  generalize hMs : ld_ss (mm_setA M 96 b (nI (pp_sf S b + v - k) - 3)) b (pp_sf S b + v - k) (pp_dy S b) = Ms at li4
  have ms : ss_m 56 97 M Ms := by rw [← hMs]; exact (ss_m.rf.a (by omega)).r (by omega)
  have hF : ∀ q, (∀ x, x < 10 → q.testBit x = true → s.testBit x = true) → ld_F L2 q := fun q hq x hx hqx => by
    rw [← hL2]
    have := l4 x hx (hq x hx hqx)
    obtain ⟨f, hf, e⟩ := pp_fl_e ho hx
    exact ⟨f, hf, this.trans e⟩
  have ht1 : t ||| 2 ^ b < 1024 := Nat.or_lt_two_pow (n := 10) l2.1 (Nat.pow_lt_pow_right (by decide) hb)
  have htt : ∀ x, (t ||| 2 ^ b).testBit x = (t.testBit x || decide (b = x)) := fun x => by rw [Nat.testBit_or, Nat.testBit_two_pow]
  have htS : ∀ x, x < 10 → (t ||| 2 ^ b).testBit x = true → s.testBit x = true := fun x hx h => by
    rw [htt] at h
    simp only [Bool.or_eq_true, decide_eq_true_eq] at h
    rcases h with h | h
    · exact zT_s hs l2 x hx h
    · rw [← h]; exact hsb
  obtain ⟨Mi, i1, i2, i3⟩ := sh_turnTo li4 ht1 (hF t (zT_s hs l2)) (hF _ htS)
  have inc : f_Load_include (nI b) Ms = some ((), Mi) := by
    unfold f_Load_include
    rw [show Ms.1 56 7 = nI t from li4.2.1, pp_one b (by omega), pp_orN, i1, pp_bd]
  have hHi := hH.lo (ms.tr (i3.wd (by decide) (by decide))) (by decide)
  have hLw : ∀ x, x < 10 → (t ||| 2 ^ b).testBit x = true → L2.2 x = pp_fl S x ∧ ∀ kd h, kd < 3 → h < 24 → L2.1 x (24 * kd + h) = pp_want (zA S u k (c + v * zp u (2 * k + 1) (b + 1))) x kd h := fun x hx h => by
    rw [← hL2]
    refine ⟨l4 x hx (htS x hx h), fun kd h2 hkd hh2 => ?_⟩
    show (if x = b then _ else L.1 x (24 * kd + h2)) = _
    by_cases e : x = b
    · subst e
      have hday : ∀ j, j < 72 → (mm_setA M 96 x (nI (pp_sf S x + v - k) - 3)).2.1 (6 + pp_dy S x) j = S.2 1 (72 * pp_dy S x + j) := fun j hj => by rw [ss_seta_ne (by omega)]; exact sh_day hH hdy.2 hj
      have hsf2 : pp_sf (zA S u k (c + v * zp u (2 * k + 1) (x + 1))) x = pp_sf S x + v - k := by
        show ((((zA S u k (c + v * zp u (2 * k + 1) (x + 1))).2 9 x).toInt + 3).toNat) = _
        rw [zA_9 hx hm, hat, hsf.1, zn_sh _ hsf.2 v (by omega) k (by omega)]
        omega
      have hdy2 : pp_dy (zA S u k (c + v * zp u (2 * k + 1) (x + 1))) x = pp_dy S x := by
        unfold pp_dy
        rw [zA_a (by decide)]
      rw [if_pos rfl, if_pos (by omega)]
      unfold pp_row pp_want
      rw [hsf2, hdy2, hday _ (by unfold pp_hr; omega), zA_a (by decide), show (24 * kd + h2) / 24 = kd by omega, show (24 * kd + h2) % 24 = h2 by omega, ← Nat.add_assoc]
    · have htx : t.testBit x = true := by
        rw [htt] at h
        simp only [Bool.or_eq_true, decide_eq_true_eq] at h
        rcases h with h | h
        · exact h
        · exact absurd h.symm e
      rw [if_neg e, l3 x hx htx kd h2 hkd hh2, zA_want (hrow x hx htx)]
  obtain ⟨Mf, f1, f2, f3⟩ := zn_fits hHi i2 hLw
  rw [inc, pp_bd, f1, pp_bd]
  have mf : ss_m 56 97 M Mf := (ms.tr (i3.wd (by decide) (by decide))).tr (f3.wd (by decide) (by decide))
  have hi71 : ∀ o, 71 ≤ o → Mf.1 o = Ms.1 o ∧ Mf.2.1 o = Ms.2.1 o := fun o h => ⟨((f3 o (by omega)).1).trans (i3 o (by omega)).1, ((f3 o (by omega)).2.1).trans (i3 o (by omega)).2.1⟩
  have s93 : Ms.1 93 = M.1 93 := by rw [← hMs]; rfl
  have s96 : ∀ x, Ms.2.1 96 x = if x = b then nI (pp_sf S b + v - k) - 3 else M.2.1 96 x := fun x => by
    rw [← hMs]
    show (mm_setR _ _ _).2.1 96 x = _
    rw [pp_srn (by omega), pp_sa]
    by_cases e : x = b
    · rw [if_pos ⟨rfl, e⟩, if_pos e]
    · rw [if_neg (fun q => e q.2), if_neg e]
  have s95 : ∀ x, Ms.2.1 95 x = M.2.1 95 x := fun x => by
    rw [← hMs]
    show (mm_setR _ _ _).2.1 95 x = _
    rw [pp_srn (by omega), pp_sa, if_neg (fun q => absurd q.1 (by decide))]
  refine ⟨Mf, L2, t ||| 2 ^ b, rfl, ⟨m1.tr mf, by rw [(hi71 93 (by decide)).1, s93]; exact m2, by rw [(hi71 93 (by decide)).1, s93]; exact m3⟩, ⟨f2, ⟨ht1, fun x hx => ?_⟩, fun x hx h => (hLw x hx h).2, fun x hx h => ?_, fun x hx hmx => ?_⟩, by rw [(hi71 93 (by decide)).1, s93], fun x => by rw [(hi71 95 (by decide)).2, s95]⟩
  · rw [htt, l2.2 x hx]
    by_cases e : b = x
    · subst e
      rw [decide_eq_true rfl, Bool.or_true, hsb, decide_eq_true (by omega), Bool.or_true]
      rfl
    · rw [decide_eq_false e, Bool.or_false, show decide (x < b) = decide (x < b + 1) from by
        rcases Nat.lt_or_ge x b with q | q
        · rw [decide_eq_true q, decide_eq_true (by omega)]
        · rw [decide_eq_false (by omega), decide_eq_false (by omega)]]
  · rw [← hL2]; exact l4 x hx h
  · rw [(hi71 96 (by decide)).2, s96]
    by_cases e : x = b
    · subst e
      rw [if_pos rfl, zA_9 hb hmx, hat, hval]
    · rw [if_neg e, l5 x (by omega) hmx, zA_9 (by omega) hmx, zA_9 (by omega) hmx, hpre x (by omega)]
end SHIFTH
