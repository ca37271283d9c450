/-! drought: orders and sets -/
section DROUGHT
variable {H : Nat → Nat → Nat} {u : Nat}
/-- the least of some, the first of them -/
def mb (c : Nat → Bool) (f : Nat → Nat) : Nat → Option (Nat × Nat)
  | 0 => none
  | b + 1 => if c b = true then (match mb c f b with
    | none => some (f b, b)
    | some q => if f b < q.1 then some (f b, b) else some q) else mb c f b
theorem mb_none {c : Nat → Bool} {f : Nat → Nat} : ∀ n, mb c f n = none → ∀ b, b < n → ¬ c b = true := by
  intro n
  induction n with
  | zero => intro _ b hb; omega
  | succ n ih =>
    intro h b hb
    rw [mb] at h
    by_cases hc : c n = true
    · rw [if_pos hc] at h
      cases hq : mb c f n with
      | none => rw [hq] at h; cases h
      | some q =>
        rw [hq] at h
        dsimp only at h
        split at h <;> cases h
    · rw [if_neg hc] at h
      by_cases e : b = n
      · rw [e]; exact hc
      · exact ih h b (by omega)
theorem mb_some {c : Nat → Bool} {f : Nat → Nat} : ∀ n q, mb c f n = some q → q.2 < n ∧ c q.2 = true ∧ q.1 = f q.2 ∧ (∀ b, b < n → c b = true → q.1 ≤ f b) ∧ ∀ b, b < q.2 → c b = true → q.1 < f b := by
  intro n
  induction n with
  | zero => intro q h; cases h
  | succ n ih =>
    intro q h
    rw [mb] at h
    by_cases hc : c n = true
    · rw [if_pos hc] at h
      cases hq : mb c f n with
      | none =>
        rw [hq] at h
        cases h
        have hn := mb_none n hq
        refine ⟨Nat.lt_succ_self n, hc, rfl, fun b hb hcb => ?_, fun b hb hcb => absurd hcb (hn b hb)⟩
        by_cases e : b = n
        · rw [e]; exact Nat.le_refl _
        · exact absurd hcb (hn b (by omega))
      | some p =>
        rw [hq] at h
        dsimp only at h
        obtain ⟨a1, a2, a3, a4, a5⟩ := ih p hq
        by_cases hl : f n < p.1
        · rw [if_pos hl] at h
          cases h
          refine ⟨Nat.lt_succ_self n, hc, rfl, fun b hb hcb => ?_, fun b hb hcb => ?_⟩
          · show f n ≤ f b
            by_cases e : b = n
            · rw [e]; exact Nat.le_refl _
            · have := a4 b (by omega) hcb; omega
          · show f n < f b
            have := a4 b hb hcb
            omega
        · rw [if_neg hl] at h
          cases h
          refine ⟨by omega, a2, a3, fun b hb hcb => ?_, a5⟩
          by_cases e : b = n
          · rw [e]; omega
          · exact a4 b (by omega) hcb
    · rw [if_neg hc] at h
      obtain ⟨a1, a2, a3, a4, a5⟩ := ih q h
      refine ⟨by omega, a2, a3, fun b hb hcb => ?_, a5⟩
      by_cases e : b = n
      · rw [e] at hcb; exact absurd hcb hc
      · exact a4 b (by omega) hcb
/-- by sets: the least behind t, and who is next -/
def dlh (H : Nat → Nat → Nat) (u : Nat) : Nat → Nat → Nat × Nat
  | 0, _ => (0, 0)
  | n + 1, t => (mb (fun b => u.testBit b && !(t.testBit b)) (fun b => H t b + (dlh H u n (t ||| 2 ^ b)).1) 10).getD (0, 0)
/-- by orders -/
def cst (H : Nat → Nat → Nat) : Nat → Nat → Nat → Nat → Nat
  | 0, _, _, _ => 0
  | n + 1, t, r, l => H t (nf2 r (l / pp_fc n)) + cst H n (t ||| 2 ^ nf2 r (l / pp_fc n)) (pp_delN r (nf2 r (l / pp_fc n))) (l % pp_fc n)
def Lc (H : Nat → Nat → Nat) (u : Nat) : Nat → Nat → Nat → Nat
  | 0, _, _ => 0
  | n + 1, t, r => pp_cn r (dlh H u (n + 1) t).2 * pp_fc n + Lc H u n (t ||| 2 ^ (dlh H u (n + 1) t).2) (pp_delN r (dlh H u (n + 1) t).2)
def pth (H : Nat → Nat → Nat) (u : Nat) : Nat → Nat → Nat → Nat
  | 0, _, _ => 0
  | n + 1, t, 0 => (dlh H u (n + 1) t).2
  | n + 1, t, j + 1 => pth H u n (t ||| 2 ^ (dlh H u (n + 1) t).2) j
def rel (u t r : Nat) : Prop := ∀ x, x < 10 → r.testBit x = (u.testBit x && !(t.testBit x))
theorem rel_s {t r b : Nat} (h : rel u t r) (hb : b < 10) : rel u (t ||| 2 ^ b) (pp_delN r b) := fun x hx => by
  rw [pp_delN_tb (by omega) (by omega), h x hx, Nat.testBit_or, Nat.testBit_two_pow]
  by_cases e : x = b
  · rw [decide_eq_true e, decide_eq_true e.symm]; simp
  · rw [decide_eq_false e, decide_eq_false (fun z => e z.symm)]; simp
theorem dlh_spec {n t r : Nat} (h : rel u t r) (hr : pp_cn r 10 = n + 1) : (dlh H u (n + 1) t).2 < 10 ∧ r.testBit (dlh H u (n + 1) t).2 = true ∧ (dlh H u (n + 1) t).1 = H t (dlh H u (n + 1) t).2 + (dlh H u n (t ||| 2 ^ (dlh H u (n + 1) t).2)).1 ∧ (∀ b, b < 10 → r.testBit b = true → (dlh H u (n + 1) t).1 ≤ H t b + (dlh H u n (t ||| 2 ^ b)).1) ∧ ∀ b, b < (dlh H u (n + 1) t).2 → r.testBit b = true → (dlh H u (n + 1) t).1 < H t b + (dlh H u n (t ||| 2 ^ b)).1 := by
  obtain ⟨n1, n2, n3⟩ := nf2_in (f := r) (v := 0) (by omega)
  rw [dlh]
  cases hq : mb (fun b => u.testBit b && !(t.testBit b)) (fun b => H t b + (dlh H u n (t ||| 2 ^ b)).1) 10 with
  | none =>
    have := mb_none 10 hq _ n1
    rw [← h _ n1] at this
    exact absurd n2 this
  | some q =>
    obtain ⟨a1, a2, a3, a4, a5⟩ := mb_some 10 q hq
    rw [Option.getD_some]
    refine ⟨a1, by rw [h _ a1]; exact a2, a3, fun b hb hrb => a4 b hb (by rw [← h b hb]; exact hrb), fun b hb hrb => a5 b hb (by rw [← h b (by omega)]; exact hrb)⟩
theorem dlh_all : ∀ n t r, rel u t r → pp_cn r 10 = n → Lc H u n t r < pp_fc n ∧ cst H n t r (Lc H u n t r) = (dlh H u n t).1 ∧ (∀ l, l < pp_fc n → (dlh H u n t).1 ≤ cst H n t r l) ∧ (∀ l, l < Lc H u n t r → (dlh H u n t).1 < cst H n t r l) ∧ ∀ j, j < n → oi n r (Lc H u n t r) j = pth H u n t j := by
  intro n
  induction n with
  | zero =>
    intro t r _ _
    exact ⟨Nat.one_pos, rfl, fun l _ => Nat.zero_le _, fun l hl => absurd hl (Nat.not_lt_zero _), fun j hj => absurd hj (Nat.not_lt_zero _)⟩
  | succ n ih =>
    intro t r hrel hr
    obtain ⟨s1, s2, s3, s4, s5⟩ := dlh_spec (H := H) hrel hr
    have p0 : pth H u (n + 1) t 0 = (dlh H u (n + 1) t).2 := rfl
    have p1 : ∀ j, pth H u (n + 1) t (j + 1) = pth H u n (t ||| 2 ^ (dlh H u (n + 1) t).2) j := fun _ => rfl
    rw [Lc]
    generalize dlh H u (n + 1) t = q at s1 s2 s3 s4 s5 p0 p1 ⊢
    have hp := fc_pos n
    obtain ⟨d1, d2⟩ := cn_del10 s1 s2
    obtain ⟨i1, i2, i3, i4, i5⟩ := ih (t ||| 2 ^ q.2) (pp_delN r q.2) (rel_s hrel s1) (by omega)
    have hv := pp_cn_in (u := r) s1 s2
    have hF : pp_fc (n + 1) = (n + 1) * pp_fc n := by rw [pp_fc]
    generalize hL' : Lc H u n (t ||| 2 ^ q.2) (pp_delN r q.2) = L' at i1 i2 i4 i5
    have hdiv : (pp_cn r q.2 * pp_fc n + L') / pp_fc n = pp_cn r q.2 := by rw [Nat.mul_comm, Nat.mul_add_div hp, Nat.div_eq_of_lt i1, Nat.add_zero]
    have hmod : (pp_cn r q.2 * pp_fc n + L') % pp_fc n = L' := by rw [Nat.mul_comm, Nat.mul_add_mod, Nat.mod_eq_of_lt i1]
    have hnf : nf2 r (pp_cn r q.2) = q.2 := nf2_e s1 s2 rfl
    have hle : (pp_cn r q.2 + 1) * pp_fc n ≤ (n + 1) * pp_fc n := Nat.mul_le_mul_right _ (by omega)
    rw [Nat.add_mul, Nat.one_mul] at hle
    have step : ∀ l, l < pp_fc (n + 1) → nf2 r (l / pp_fc n) < 10 ∧ r.testBit (nf2 r (l / pp_fc n)) = true ∧ pp_cn r (nf2 r (l / pp_fc n)) = l / pp_fc n ∧ (dlh H u n (t ||| 2 ^ nf2 r (l / pp_fc n))).1 ≤ cst H n (t ||| 2 ^ nf2 r (l / pp_fc n)) (pp_delN r (nf2 r (l / pp_fc n))) (l % pp_fc n) := fun l hl => by
      have hq : l / pp_fc n < n + 1 := Nat.div_lt_of_lt_mul (by rw [Nat.mul_comm, ← hF]; exact hl)
      obtain ⟨n1, n2, n3⟩ := nf2_in (f := r) (v := l / pp_fc n) (by omega)
      obtain ⟨e1, e2⟩ := cn_del10 n1 n2
      obtain ⟨_, _, j3, _⟩ := ih (t ||| 2 ^ nf2 r (l / pp_fc n)) (pp_delN r (nf2 r (l / pp_fc n))) (rel_s hrel n1) (by omega)
      exact ⟨n1, n2, n3, j3 _ (Nat.mod_lt _ hp)⟩
    refine ⟨by rw [hF]; omega, ?_, fun l hl => ?_, fun l hl => ?_, fun j hj => ?_⟩
    · rw [cst, hdiv, hmod, hnf, i2, s3]
    · obtain ⟨n1, n2, n3, n4⟩ := step l hl
      rw [cst]
      have := s4 _ n1 n2
      omega
    · obtain ⟨n1, n2, n3, n4⟩ := step l (by rw [hF]; omega)
      rw [cst]
      have hq : l / pp_fc n < pp_cn r q.2 + 1 := Nat.div_lt_of_lt_mul (by rw [Nat.mul_comm, Nat.add_mul, Nat.one_mul]; omega)
      by_cases e : l / pp_fc n = pp_cn r q.2
      · have hl2 := Nat.div_add_mod l (pp_fc n)
        rw [e, Nat.mul_comm] at hl2
        rw [e, hnf]
        have := i4 (l % pp_fc n) (by omega)
        omega
      · have hlt : nf2 r (l / pp_fc n) < q.2 := by
          rcases Nat.lt_or_ge (nf2 r (l / pp_fc n)) q.2 with z | z
          · exact z
          · have := pp_cn_up r (b := q.2) (nf2 r (l / pp_fc n) - q.2)
            rw [show q.2 + (nf2 r (l / pp_fc n) - q.2) = nf2 r (l / pp_fc n) by omega, n3] at this
            omega
        have := s5 _ hlt n2
        omega
    · cases j with
      | zero =>
        show nf2 r ((pp_cn r q.2 * pp_fc n + L') / pp_fc n) = _
        rw [hdiv, hnf, p0]
      | succ j =>
        show oi n (pp_delN r (nf2 r ((pp_cn r q.2 * pp_fc n + L') / pp_fc n))) ((pp_cn r q.2 * pp_fc n + L') % pp_fc n) j = _
        rw [hdiv, hmod, hnf, i5 j (by omega), p1]
/-- the orders of a set, by the places of its members -/
theorem oi_w {w : Nat} : ∀ r f g l, (∀ x, x < 10 → f.testBit x = (w.testBit x && g.testBit (pp_cn w x))) → pp_cn f 10 = r → l < pp_fc r → ∀ j, j < r → nf2 w (oi r g l j) = oi r f l j := by
  intro r
  induction r with
  | zero => intro f g l _ _ _ j hj; omega
  | succ r ih =>
    intro f g l hfg hr1 hl j hj
    have hp := fc_pos r
    rw [pp_fc] at hl
    have hv : l / pp_fc r < r + 1 := Nat.div_lt_of_lt_mul (by rw [Nat.mul_comm]; exact hl)
    obtain ⟨n1, n2, n3⟩ := nf2_in (f := f) (v := l / pp_fc r) (by omega)
    have o0 : ∀ g, oi (r + 1) g l 0 = nf2 g (l / pp_fc r) := fun _ => rfl
    have o1 : ∀ g j, oi (r + 1) g l (j + 1) = oi r (pp_delN g (nf2 g (l / pp_fc r))) (l % pp_fc r) j := fun _ _ => rfl
    have hwy : w.testBit (nf2 f (l / pp_fc r)) = true ∧ g.testBit (pp_cn w (nf2 f (l / pp_fc r))) = true := by
      have := hfg _ n1
      rw [n2] at this
      simp only [Bool.true_eq, Bool.and_eq_true] at this
      exact this
    have hcw := pp_cn_le w 10
    have hcy := pp_cn_in (u := w) n1 hwy.1
    have hgq : nf2 g (l / pp_fc r) = pp_cn w (nf2 f (l / pp_fc r)) := nf2_e (by omega) hwy.2 (by rw [← fg_cn hfg _ (by omega)]; exact n3)
    have hwq : nf2 w (pp_cn w (nf2 f (l / pp_fc r))) = nf2 f (l / pp_fc r) := nf2_e n1 hwy.1 rfl
    obtain ⟨d1, d2⟩ := cn_del10 n1 n2
    cases j with
    | zero => rw [o0, o0, hgq, hwq]
    | succ j =>
      rw [o1, o1, hgq]
      generalize nf2 f (l / pp_fc r) = y at *
      refine ih _ _ _ (fun x hx => ?_) (by omega) (Nat.mod_lt _ hp) j (by omega)
      have hcx := pp_cn_le w x
      rw [pp_delN_tb (by omega) (by omega), pp_delN_tb (by omega) (by omega), hfg x hx]
      cases hwx : w.testBit x with
      | false => simp
      | true =>
        by_cases e : x = y
        · rw [decide_eq_true e, e, decide_eq_true rfl]; simp
        · rw [decide_eq_false e, decide_eq_false (fun z => e (by rw [← nf2_e hx hwx z, hwq]))]; simp
/-- sums -/
def nsum (f : Nat → Nat) : Nat → Nat
  | 0 => 0
  | n + 1 => nsum f n + f n
theorem nsum_ext {f g : Nat → Nat} : ∀ n, (∀ i, i < n → f i = g i) → nsum f n = nsum g n := by
  intro n
  induction n with
  | zero => intro _; rfl
  | succ n ih => intro h; rw [nsum, nsum, ih (fun i hi => h i (by omega)), h n (by omega)]
theorem nsum_2 {f g : Nat → Nat} : ∀ n, nsum (fun i => f i + g i) n = nsum f n + nsum g n := by
  intro n
  induction n with
  | zero => rfl
  | succ n ih => rw [nsum, nsum, nsum, ih]; omega
theorem nsum_add {f : Nat → Nat} (a : Nat) : ∀ b, nsum f (a + b) = nsum f a + nsum (fun i => f (a + i)) b := by
  intro b
  induction b with
  | zero => rfl
  | succ b ih => rw [show a + (b + 1) = (a + b) + 1 from rfl, nsum, nsum, ih]; omega
theorem nsum_le {f : Nat → Nat} {m : Nat} : ∀ n, (∀ i, i < n → f i ≤ m) → nsum f n ≤ m * n := by
  intro n
  induction n with
  | zero => intro _; exact Nat.zero_le _
  | succ n ih =>
    intro h
    have h1 := ih (fun i hi => h i (by omega))
    have h2 := h n (by omega)
    rw [nsum, Nat.mul_succ]
    omega
/-- along an order -/
def co3 (F : Nat → Nat → Nat) (O : Nat → Nat) : Nat → Nat → Nat → Nat
  | 0, _, _ => 0
  | q + 1, i, t => F t (O i) + co3 F O q (i + 1) (t ||| 2 ^ O i)
theorem co3_sum {F : Nat → Nat → Nat → Nat} {O : Nat → Nat} (n : Nat) : ∀ q i t, nsum (fun h => co3 (F h) O q i t) n = co3 (fun t b => nsum (fun h => F h t b) n) O q i t := by
  intro q
  induction q with
  | zero =>
    intro i t
    have : ∀ n, nsum (fun _ => 0) n = 0 := fun n => by
      induction n with
      | zero => rfl
      | succ n ih => rw [nsum, ih]
    exact this n
  | succ q ih =>
    intro i t
    rw [co3, ← ih (i + 1) (t ||| 2 ^ O i), ← nsum_2]
    rfl
theorem co3_cst {O : Nat → Nat} : ∀ q i t r l, (∀ j, j < q → O (i + j) = oi q r l j) → co3 H O q i t = cst H q t r l := by
  intro q
  induction q with
  | zero => intro i t r l _; rfl
  | succ q ih =>
    intro i t r l h
    have h0 : O i = nf2 r (l / pp_fc q) := h 0 (by omega)
    rw [co3, cst, h0, ih (i + 1) _ (pp_delN r (nf2 r (l / pp_fc q))) (l % pp_fc q) (fun j hj => by
      rw [show i + 1 + j = i + (j + 1) by omega]
      exact h (j + 1) (by omega))]
theorem cst_le {m : Nat} (hH : ∀ t b, H t b ≤ m) : ∀ n t r l, cst H n t r l ≤ m * n := by
  intro n
  induction n with
  | zero => intro t r l; exact Nat.zero_le _
  | succ n ih =>
    intro t r l
    rw [cst, Nat.mul_succ]
    have h1 := hH t (nf2 r (l / pp_fc n))
    have h2 := ih (t ||| 2 ^ nf2 r (l / pp_fc n)) (pp_delN r (nf2 r (l / pp_fc n))) (l % pp_fc n)
    omega
end DROUGHT
