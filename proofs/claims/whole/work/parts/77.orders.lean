/-! orders by code -/
section ORDERS
variable {S : ss_S} {u s : Nat} {M M0 : mm_M}
def oi : Nat → Nat → Nat → Nat → Nat
  | 0, _, _, _ => 0
  | r + 1, g, l, 0 => nf2 g (l / pp_fc r)
  | r + 1, g, l, j + 1 => oi r (pp_delN g (nf2 g (l / pp_fc r))) (l % pp_fc r) j
theorem sr_oin {g used m v : Nat} (hv : v < pp_cn g 10) (hm : m ≤ 10) (hus : used < 1024) (hg : ∀ q, g.testBit q = true → q < m) (hug : ∀ q, q < m → used.testBit q = !(g.testBit q)) {v1 v4 v5 v7 : Int32} {K : Int32 → mm_M → Option (Unit × mm_M)} : lp_R_ordersBy_44 v1 v4 v5 (nI used) v7 K mm_fu (nI v) 0 M = K (nI (nf2 g v)) M := by
  obtain ⟨n1, n2, n3⟩ := nf2_in hv
  have hqm := hg _ n2
  refine pp_ex (lp := fun m (a : Int32 × Int32) => lp_R_ordersBy_44 v1 v4 v5 (nI used) v7 K m a.1 a.2 M) (fun i a => a.1 = nI (v - pp_cn g i) ∧ a.2 = nI i ∧ pp_cn g i ≤ v) (fun r => r = K (nI (nf2 g v)) M) (nf2 g v) (by omega) (fun i a hi ha => Or.inl ?_) (fun a ha m' => ?_) (a := (nI v, 0)) ⟨rfl, rfl, Nat.zero_le _⟩
  · obtain ⟨a1, a2⟩ := a
    obtain ⟨h1, h2, h3⟩ := ha
    have h1 : a1 = nI (v - pp_cn g i) := h1
    have h2 : a2 = nI i := h2
    subst h1 h2
    have hcn := pp_cn_le g 10
    have hug' := hug i (by omega)
    have hs := pp_cn_s (u := g) (b := i)
    have hup := pp_cn_up g (b := i + 1) (nf2 g v - (i + 1))
    rw [show i + 1 + (nf2 g v - (i + 1)) = nf2 g v by omega, n3] at hup
    refine ⟨(nI (v - pp_cn g (i + 1)), nI (i + 1)), ⟨rfl, rfl, hup⟩, fun m' => ?_⟩
    show lp_R_ordersBy_44 v1 v4 v5 (nI used) v7 K (m' + 1) (nI (v - pp_cn g i)) (nI i) M = lp_R_ordersBy_44 v1 v4 v5 (nI used) v7 K m' (nI (v - pp_cn g (i + 1))) (nI (i + 1)) M
    rw [lp_R_ordersBy_44, sr_has (by omega) (by omega), pp_bd, pp_jn]
    cases hgi : g.testBit i with
    | true =>
      rw [hgi] at hug'
      rw [hgi, if_pos rfl] at hs
      have hu' : used.testBit i = false := hug'
      rw [hu', if_neg (by decide), if_neg (nI_nle (by omega) (by omega))]
      dsimp only
      rw [sr_has (by omega) (by omega), pp_bd, pp_jn, hu', if_neg (by decide)]
      dsimp only
      rw [nI_1, pp_let, show nI (v - pp_cn g i) - 1 = nI (v - pp_cn g (i + 1)) from by
        obtain ⟨z, hz⟩ : ∃ z, v - pp_cn g i = z + 1 := ⟨v - pp_cn g i - 1, by omega⟩
        rw [hz, nI_pred, show v - pp_cn g (i + 1) = z by omega]]
    | false =>
      rw [hgi] at hug'
      rw [hgi, if_neg (show ¬ false = true by decide)] at hs
      have hs : pp_cn g (i + 1) = pp_cn g i := hs
      have hu' : used.testBit i = true := hug'
      rw [hu', if_pos rfl]
      dsimp only
      rw [sr_has (by omega) (by omega), pp_bd, pp_jn, hu', if_pos rfl]
      dsimp only
      rw [nI_1, pp_let, hs]
  · obtain ⟨a1, a2⟩ := a
    obtain ⟨h1, h2, h3⟩ := ha
    have h1 : a1 = nI (v - pp_cn g (nf2 g v)) := h1
    have h2 : a2 = nI (nf2 g v) := h2
    subst h1 h2
    show lp_R_ordersBy_44 v1 v4 v5 (nI used) v7 K (m' + 1) (nI (v - pp_cn g (nf2 g v))) (nI (nf2 g v)) M = _
    have hu' : used.testBit (nf2 g v) = false := by rw [hug _ hqm, n2]; rfl
    rw [lp_R_ordersBy_44, sr_has (by omega) (by omega), pp_bd, pp_jn, hu', if_neg (by decide), n3, Nat.sub_self, if_pos (by decide)]
theorem sr_ordersBy {m code : Nat} (hm : m ≤ 6) (hc : code < pp_fc m) : ∃ M1, f_R_ordersBy (nI m) (nI code) (nI (pp_fc m)) M = some ((), M1) ∧ fr 132 132 M M1 ∧ ∀ j, j < m → M1.2.1 132 j = nI (oi m (2 ^ m - 1) code j) := by
  have hfc : ∀ n, n ≤ 6 → pp_fc n ≤ 720 := by decide
  have key : ∀ r k l g used M', k + r = m → l < pp_fc r → pp_cn g 10 = r → (∀ q, g.testBit q = true → q < m) → used < 1024 → (∀ q, q < m → used.testBit q = !(g.testBit q)) → fr 132 132 M M' → ∀ F, ∃ M1, lp_R_ordersBy_12 (nI m) (fun (M_15 : mm_M) => some ((), M_15)) (F + r + 1) (nI l) (nI (pp_fc r)) (nI used) (nI k) M' = some ((), M1) ∧ fr 132 132 M M1 ∧ (∀ j, j < r → M1.2.1 132 (k + j) = nI (oi r g l j)) ∧ ∀ j, j < k → M1.2.1 132 j = M'.2.1 132 j := by
    intro r
    induction r with
    | zero =>
      intro k l g used M' hk hl hg1 hg2 hu1 hu2 hf F
      have : k = m := by omega
      subst this
      refine ⟨M', ?_, hf, fun j hj => by omega, fun j hj => rfl⟩
      rw [show F + 0 + 1 = F + 1 from rfl, lp_R_ordersBy_12, if_pos (nI_le (Nat.le_refl _) (by omega))]
    | succ r ih =>
      intro k l g used M' hk hl hg1 hg2 hu1 hu2 hf F
      have hp := fc_pos r
      have h720 := hfc (r + 1) (by omega)
      have h720' := hfc r (by omega)
      have hfc1 : pp_fc (r + 1) = (r + 1) * pp_fc r := by rw [pp_fc]
      have hv : l / pp_fc r < r + 1 := Nat.div_lt_of_lt_mul (by rw [Nat.mul_comm, ← hfc1]; exact hl)
      obtain ⟨n1, n2, n3⟩ := nf2_in (f := g) (v := l / pp_fc r) (by omega)
      have e1 : nI m - nI k = nI (r + 1) := by rw [pp_subN (by omega), show m - k = r + 1 by omega]
      have e2 : nI (pp_fc (r + 1)) / nI (r + 1) = nI (pp_fc r) := by rw [pk_div (by omega) (by omega) (by omega), hfc1, Nat.mul_div_cancel_left _ (by omega)]
      rw [show F + (r + 1) + 1 = (F + r + 1) + 1 from rfl, lp_R_ordersBy_12, if_neg (nI_ge (by omega) (by omega)), e1, if_neg (nI_ne0 (by omega) (by omega)), e2, pp_let, if_neg (nI_ne0 hp (by omega)), pk_div (by omega) hp (by omega), pp_let, if_neg (nI_ne0 hp (by omega)), pp_rem (by omega) hp (by omega), pp_let, sr_oin (g := g) (m := m) (by omega) (by omega) hu1 hg2 hu2]
      have hqm := hg2 _ n2
      rw [pp_one _ (by omega), pp_orN, pp_let, show mm_al 132 = 6 from rfl, pp_in (by omega) (by decide), if_pos rfl, nI_clamp (by omega), pp_let, nI_1, pp_let]
      obtain ⟨d1, d2⟩ := cn_del10 n1 n2
      have tb : ∀ q, q < 12 → (pp_delN g (nf2 g (l / pp_fc r))).testBit q = (g.testBit q && !(decide (q = nf2 g (l / pp_fc r)))) := fun q hq => pp_delN_tb (by omega) hq
      obtain ⟨M1, a1, a2, a3, a4⟩ := ih (k + 1) (l % pp_fc r) (pp_delN g (nf2 g (l / pp_fc r))) (used ||| 2 ^ nf2 g (l / pp_fc r)) (mm_setA M' 132 k (nI (nf2 g (l / pp_fc r)))) (by omega) (Nat.mod_lt _ hp) (by omega) (fun q hq => hg2 q (by
          unfold pp_delN at hq
          rw [Nat.testBit_and] at hq
          simp only [Bool.and_eq_true] at hq
          exact hq.1)) (Nat.or_lt_two_pow (n := 10) hu1 (Nat.pow_lt_pow_right (by decide) n1)) (fun q hq => by
          rw [Nat.testBit_or, Nat.testBit_two_pow, tb q (by omega), hu2 q hq]
          by_cases e : q = nf2 g (l / pp_fc r)
          · rw [decide_eq_true e.symm, decide_eq_true e]; simp
          · rw [decide_eq_false (fun z => e z.symm), decide_eq_false e]; simp) (hf.a (by decide)) F
      refine ⟨M1, a1, a2, fun j hj => ?_, fun j hj => ?_⟩
      · cases j with
        | zero =>
          rw [Nat.add_zero, a4 k (by omega), pp_sa, if_pos ⟨rfl, rfl⟩]
          rfl
        | succ j => rw [show k + (j + 1) = k + 1 + j by omega, a3 j (by omega)]; rfl
      · rw [a4 j (by omega), pp_sa, if_neg (fun z => by omega)]
  have hcm : pp_cn (2 ^ m - 1) 10 = m := by
    have : ∀ m, m ≤ 6 → pp_cn (2 ^ m - 1) 10 = m := by decide
    exact this m hm
  unfold f_R_ordersBy
  obtain ⟨M1, a1, a2, a3, _⟩ := key m 0 code (2 ^ m - 1) 0 M (by omega) hc hcm (fun q hq => by rw [Nat.testBit_two_pow_sub_one, decide_eq_true_eq] at hq; exact hq) (by decide) (fun q hq => by rw [Nat.testBit_two_pow_sub_one, decide_eq_true hq, Nat.zero_testBit]; rfl) fr.rf (4999 - m)
  rw [show 4999 - m + m + 1 = mm_fu from by show _ = 5000; omega] at a1
  exact ⟨M1, a1, a2, fun j hj => by rw [← a3 j hj, Nat.zero_add]⟩
/-- rooms and their places -/
theorem fg_cn {w f g : Nat} (h : ∀ x, x < 10 → f.testBit x = (w.testBit x && g.testBit (pp_cn w x))) : ∀ x, x ≤ 10 → pp_cn f x = pp_cn g (pp_cn w x) := by
  intro x
  induction x with
  | zero => intro _; rfl
  | succ x ih =>
    intro hx
    rw [pp_cn_s, ih (by omega), h x (by omega)]
    have hs := pp_cn_s (u := w) (b := x)
    cases hw : w.testBit x with
    | true =>
      rw [hw, if_pos rfl] at hs
      rw [hs, pp_cn_s, Bool.true_and]
    | false =>
      rw [hw, if_neg (show ¬ false = true by decide)] at hs
      have hs : pp_cn w (x + 1) = pp_cn w x := hs
      rw [hs, Bool.false_and, if_neg (show ¬ false = true by decide), Nat.add_zero]
theorem rmA_oi {w : Nat} : ∀ n b R f g l, b + n = 10 → (∀ x, x < 10 → f.testBit x = (w.testBit x && g.testBit (pp_cn w x))) → pp_cn f 10 = pp_cn u 10 - pp_cn u b → l < pp_fc (pp_cn f 10) → rok R → ∃ R', rmA u n b (rT S R) f l = rT S R' ∧ (∀ x, x < b ∨ ¬ u.testBit x = true → R' x = R x) ∧ (∀ x, b ≤ x → x < 10 → u.testBit x = true → R' x = nI (nf2 w (oi (pp_cn f 10) g l (pp_cn u x - pp_cn u b)))) ∧ rok R' := by
  intro n
  induction n with
  | zero =>
    intro b R f g l hb _ _ _ hr
    exact ⟨R, rfl, fun _ _ => rfl, fun x h1 h2 => by omega, hr⟩
  | succ n ih =>
    intro b R f g l hb hfg hc hl hr
    rw [rmA]
    by_cases hm : u.testBit b = true
    · have hlt := pp_cn_in (u := u) (show b < 10 by omega) hm
      have hs1 : pp_cn u (b + 1) = pp_cn u b + 1 := by rw [pp_cn_s, if_pos hm]
      obtain ⟨r, hr1⟩ : ∃ r, pp_cn f 10 = r + 1 := ⟨pp_cn f 10 - 1, by omega⟩
      have hp := fc_pos r
      rw [hr1, pp_fc] at hl
      have hv : l / pp_fc r < r + 1 := Nat.div_lt_of_lt_mul (by rw [Nat.mul_comm]; exact hl)
      obtain ⟨n1, n2, n3⟩ := nf2_in (f := f) (v := l / pp_fc r) (by omega)
      rw [if_pos hm, hr1, Nat.add_sub_cancel, rT_a]
      generalize nf2 f (l / pp_fc r) = y at n1 n2 n3
      have hwy : w.testBit y = true ∧ g.testBit (pp_cn w y) = true := by
        have := hfg y n1
        rw [n2] at this
        simp only [Bool.true_eq, Bool.and_eq_true] at this
        exact this
      have hcw := pp_cn_le w 10
      have hcy := pp_cn_in (u := w) n1 hwy.1
      have hgq : nf2 g (l / pp_fc r) = pp_cn w y := nf2_e (by omega) hwy.2 (by rw [← fg_cn hfg y (by omega)]; exact n3)
      have hwq : nf2 w (pp_cn w y) = y := nf2_e n1 hwy.1 rfl
      obtain ⟨d1, d2⟩ := cn_del10 n1 n2
      obtain ⟨R', a1, a2, a3, a4⟩ := ih (b + 1) (up R b (nI y)) (pp_delN f y) (pp_delN g (pp_cn w y)) (l % pp_fc r) (by omega) (fun x hx => by
          have hcx := pp_cn_le w x
          rw [pp_delN_tb (by omega) (by omega), pp_delN_tb (by omega) (by omega), hfg x hx]
          cases hwx : w.testBit x with
          | false => simp
          | true =>
            by_cases e : x = y
            · rw [decide_eq_true e, e, decide_eq_true rfl]; simp
            · rw [decide_eq_false e, decide_eq_false (fun z => e (by rw [← nf2_e hx hwx z, hwq]))]; simp) (by omega) (by rw [d1, hr1, Nat.add_sub_cancel]; exact Nat.mod_lt _ hp) (hr.up n1)
      refine ⟨R', a1, fun x hx => ?_, fun x h1 h2 hmx => ?_, a4⟩
      · have hne : x ≠ b := fun e => by
          rcases hx with z | z
          · omega
          · rw [e] at z; exact z hm
        rw [a2 x (hx.imp (fun z => by omega) id), up_ne hne]
      · by_cases e : x = b
        · subst e
          rw [a2 x (Or.inl (by omega)), up_at, Nat.sub_self]
          show nI y = nI (nf2 w (nf2 g (l / pp_fc r)))
          rw [hgq, hwq]
        · have hlt2 := pp_cn_in (u := u) (show b < x by omega) hm
          rw [a3 x (by omega) h2 hmx, d1, hr1, Nat.add_sub_cancel, hs1]
          obtain ⟨z, hz⟩ : ∃ z, pp_cn u x - pp_cn u b = z + 1 := ⟨pp_cn u x - pp_cn u b - 1, by omega⟩
          rw [hz, show pp_cn u x - (pp_cn u b + 1) = z by omega]
          show _ = nI (nf2 w (oi r (pp_delN g (nf2 g (l / pp_fc r))) (l % pp_fc r) z))
          rw [hgq]
    · have hs1 : pp_cn u (b + 1) = pp_cn u b := by rw [pp_cn_s, if_neg hm, Nat.add_zero]
      rw [if_neg hm]
      obtain ⟨R', a1, a2, a3, a4⟩ := ih (b + 1) R f g l (by omega) hfg (by rw [hs1]; exact hc) hl hr
      refine ⟨R', a1, fun x hx => a2 x (hx.imp (fun z => by omega) id), fun x h1 h2 hmx => ?_, a4⟩
      rw [a3 x (by
        rcases Nat.lt_or_ge b x with z | z
        · omega
        · exact absurd (show u.testBit b = true from by rw [show b = x by omega]; exact hmx) hm) h2 hmx, hs1]
end ORDERS
