/-! rooms: all orders, told once -/
section ROOMS
variable {u s : Nat}
/-- the v-th of a set -/
def nfx (f v : Nat) : Nat → Nat
  | 0 => 10
  | x + 1 => if f.testBit x = true ∧ pp_cn f x = v then x else nfx f v x
def nf2 (f v : Nat) : Nat := nfx f v 10
theorem nf2_e {f v x : Nat} (hx : x < 10) (h1 : f.testBit x = true) (h2 : pp_cn f x = v) : nf2 f v = x := by
  have key : ∀ n, x < n → n ≤ 10 → nfx f v n = x := by
    intro n
    induction n with
    | zero => intro h; omega
    | succ n ih =>
      intro h hn
      rw [nfx]
      by_cases e : n = x
      · subst e
        rw [if_pos ⟨h1, h2⟩]
      · have := pp_cn_in (u := f) (show x < n by omega) h1
        rw [if_neg (fun z => by omega)]
        exact ih (by omega) (by omega)
  exact key 10 hx (Nat.le_refl _)
theorem nf2_in {f v : Nat} (hv : v < pp_cn f 10) : nf2 f v < 10 ∧ f.testBit (nf2 f v) = true ∧ pp_cn f (nf2 f v) = v := by
  have key : ∀ n, n ≤ 10 → v < pp_cn f n → ∃ x, x < n ∧ f.testBit x = true ∧ pp_cn f x = v := by
    intro n
    induction n with
    | zero => intro _ h; have : v < 0 := h; omega
    | succ n ih =>
      intro hn h
      by_cases hc : v < pp_cn f n
      · obtain ⟨x, a, b⟩ := ih (by omega) hc
        exact ⟨x, by omega, b⟩
      · rw [pp_cn_s] at h
        by_cases hm : f.testBit n = true
        · rw [if_pos hm] at h
          exact ⟨n, by omega, hm, by omega⟩
        · rw [if_neg hm] at h; omega
  obtain ⟨x, a, b, c⟩ := key 10 (Nat.le_refl _) hv
  rw [nf2_e a b c]
  exact ⟨a, b, c⟩
theorem cn_dlo {f x : Nat} (hx : x < 10) : ∀ n, n ≤ x → pp_cn (pp_delN f x) n = pp_cn f n := by
  intro n
  induction n with
  | zero => intro _; rfl
  | succ n ih =>
    intro hn
    rw [pp_cn_s, pp_cn_s, ih (by omega), pp_delN_tb (by omega) (by omega), decide_eq_false (show ¬ n = x by omega), Bool.not_false, Bool.and_true]
theorem cn_dhi {f x : Nat} (hx : x < 10) (h : f.testBit x = true) : ∀ n, x < n → n ≤ 10 → pp_cn (pp_delN f x) n + 1 = pp_cn f n := by
  intro n
  induction n with
  | zero => intro h; omega
  | succ n ih =>
    intro hn hn2
    rw [pp_cn_s, pp_cn_s, pp_delN_tb (by omega) (by omega)]
    by_cases e : n = x
    · subst e
      rw [cn_dlo hx n (Nat.le_refl _), h, decide_eq_true rfl, if_pos rfl]
      rfl
    · have := ih (by omega) (by omega)
      rw [decide_eq_false e, Bool.not_false, Bool.and_true]
      omega
theorem cn_del10 {f x : Nat} (hx : x < 10) (h : f.testBit x = true) : pp_cn (pp_delN f x) 10 = pp_cn f 10 - 1 ∧ 1 ≤ pp_cn f 10 := by
  have := cn_dhi hx h 10 hx (Nat.le_refl _)
  omega
/-- the first of some -/
def cf (P : Nat → Option ss_S) : Nat → Nat → Option ss_S
  | 0, _ => none
  | n + 1, c => (P c).or (cf P n (c + 1))
theorem cf_add (P : Nat → Option ss_S) : ∀ a b c, cf P (a + b) c = (cf P a c).or (cf P b (c + a)) := by
  intro a
  induction a with
  | zero => intro b c; rw [Nat.zero_add, cf, Option.none_or, Nat.add_zero]
  | succ a ih => intro b c; rw [show a + 1 + b = (a + b) + 1 by omega, cf, ih, cf, Option.or_assoc, show c + 1 + a = c + (a + 1) by omega]
theorem cf_ext {P P' : Nat → Option ss_S} : ∀ n c c', (∀ j, j < n → P (c + j) = P' (c' + j)) → cf P n c = cf P' n c' := by
  intro n
  induction n with
  | zero => intro c c' _; rfl
  | succ n ih =>
    intro c c' h
    have h0 := h 0 (by omega)
    rw [Nat.add_zero, Nat.add_zero] at h0
    rw [cf, cf, h0, ih (c + 1) (c' + 1) (fun j hj => by rw [show c + 1 + j = c + (j + 1) by omega, show c' + 1 + j = c' + (j + 1) by omega]; exact h (j + 1) (by omega))]
def fq (g : Nat → Option ss_S) (f : Nat) : Nat → Nat → Option ss_S
  | 0, _ => none
  | q + 1, x => (if f.testBit x = true then g x else none).or (fq g f q (x + 1))
def fz (s : Nat) (T : ss_S) : Option ss_S := if (pp_fit T s true).isNone = true then some T else none
def FX (u s : Nat) : Nat → Nat → ss_S → Nat → Option ss_S
  | 0, _, T, _ => fz s T
  | n + 1, b, T, f => if u.testBit b = true then fq (fun x => FX u s n (b + 1) (ss_a T 6 b (nI x)) (pp_delN f x)) f 10 0 else FX u s n (b + 1) T f
def rmA (u : Nat) : Nat → Nat → ss_S → Nat → Nat → ss_S
  | 0, _, T, _, _ => T
  | n + 1, b, T, f, l => if u.testBit b = true then rmA u n (b + 1) (ss_a T 6 b (nI (nf2 f (l / pp_fc (pp_cn f 10 - 1))))) (pp_delN f (nf2 f (l / pp_fc (pp_cn f 10 - 1)))) (l % pp_fc (pp_cn f 10 - 1)) else rmA u n (b + 1) T f l
theorem fc_pos : ∀ n, 0 < pp_fc n := by
  intro n
  induction n with
  | zero => exact Nat.one_pos
  | succ n ih => rw [pp_fc]; exact Nat.mul_pos (by omega) ih
theorem FX_cf : ∀ n b T f, b + n = 10 → pp_cn f 10 = pp_cn u 10 - pp_cn u b → FX u s n b T f = cf (fun l => fz s (rmA u n b T f l)) (pp_fc (pp_cn f 10)) 0 := by
  intro n
  induction n with
  | zero =>
    intro b T f hb hc
    rw [show b = 10 by omega, Nat.sub_self] at hc
    rw [hc, FX, show pp_fc 0 = 0 + 1 from rfl, cf, cf, Option.or_none, rmA]
  | succ n ih =>
    intro b T f hb hc
    rw [FX]
    by_cases hm : u.testBit b = true
    · have hlt := pp_cn_in (u := u) (show b < 10 by omega) hm
      have hs1 : pp_cn u (b + 1) = pp_cn u b + 1 := by rw [pp_cn_s, if_pos hm]
      rw [if_pos hm]
      have hF := fc_pos (pp_cn f 10 - 1)
      have hfc : pp_fc (pp_cn f 10) = pp_cn f 10 * pp_fc (pp_cn f 10 - 1) := by
        obtain ⟨r, hr⟩ : ∃ r, pp_cn f 10 = r + 1 := ⟨pp_cn f 10 - 1, by omega⟩
        rw [hr, pp_fc, Nat.add_sub_cancel]
      have key : ∀ q x, x + q = 10 → fq (fun x => FX u s n (b + 1) (ss_a T 6 b (nI x)) (pp_delN f x)) f q x = cf (fun l => fz s (rmA u (n + 1) b T f l)) ((pp_cn f 10 - pp_cn f x) * pp_fc (pp_cn f 10 - 1)) (pp_cn f x * pp_fc (pp_cn f 10 - 1)) := by
        intro q
        induction q with
        | zero => intro x hx; rw [show x = 10 by omega, Nat.sub_self, Nat.zero_mul]; rfl
        | succ q ihq =>
          intro x hx
          have hx10 : x < 10 := by omega
          rw [fq, ihq (x + 1) (by omega)]
          by_cases hf : f.testBit x = true
          · have hin := pp_cn_in (u := f) hx10 hf
            have hsx : pp_cn f (x + 1) = pp_cn f x + 1 := by rw [pp_cn_s, if_pos hf]
            rw [hsx, if_pos hf, show (pp_cn f 10 - pp_cn f x) * pp_fc (pp_cn f 10 - 1) = pp_fc (pp_cn f 10 - 1) + (pp_cn f 10 - (pp_cn f x + 1)) * pp_fc (pp_cn f 10 - 1) from by
              obtain ⟨z, hz⟩ : ∃ z, pp_cn f 10 - pp_cn f x = z + 1 := ⟨pp_cn f 10 - pp_cn f x - 1, by omega⟩
              rw [hz, show pp_cn f 10 - (pp_cn f x + 1) = z by omega, Nat.add_mul, Nat.one_mul, Nat.add_comm], cf_add, show pp_cn f x * pp_fc (pp_cn f 10 - 1) + pp_fc (pp_cn f 10 - 1) = (pp_cn f x + 1) * pp_fc (pp_cn f 10 - 1) from by rw [Nat.add_mul, Nat.one_mul]]
            congr 1
            obtain ⟨d1, d2⟩ := cn_del10 hx10 hf
            rw [ih (b + 1) _ _ (by omega) (by rw [d1, hs1]; omega), d1]
            refine cf_ext _ _ _ (fun j hj => ?_)
            show fz s _ = fz s (rmA u (n + 1) b T f (pp_cn f x * pp_fc (pp_cn f 10 - 1) + j))
            rw [rmA, if_pos hm, show (pp_cn f x * pp_fc (pp_cn f 10 - 1) + j) / pp_fc (pp_cn f 10 - 1) = pp_cn f x from by rw [Nat.mul_comm, Nat.mul_add_div hF, Nat.div_eq_of_lt hj, Nat.add_zero], show (pp_cn f x * pp_fc (pp_cn f 10 - 1) + j) % pp_fc (pp_cn f 10 - 1) = j from by rw [Nat.mul_comm, Nat.mul_add_mod, Nat.mod_eq_of_lt hj], nf2_e hx10 hf rfl, Nat.zero_add]
          · have hsx : pp_cn f (x + 1) = pp_cn f x := by rw [pp_cn_s, if_neg hf, Nat.add_zero]
            rw [hsx, if_neg hf, Option.none_or]
      rw [key 10 0 rfl, show pp_cn f 0 = 0 from rfl, Nat.sub_zero, Nat.zero_mul, ← hfc]
    · have hs1 : pp_cn u (b + 1) = pp_cn u b := by rw [pp_cn_s, if_neg hm, Nat.add_zero]
      rw [if_neg hm, ih (b + 1) T f (by omega) (by rw [hs1]; exact hc)]
      refine cf_ext _ _ _ (fun j hj => ?_)
      show fz s _ = fz s (rmA u (n + 1) b T f (0 + j))
      rw [rmA, if_neg hm]
end ROOMS
