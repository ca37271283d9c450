/-! shifting: all codes, told once -/
section SHIFT
variable {S : ss_S} {u k s : Nat}
def zP (u K : Nat) : Nat → Nat
  | 0 => 1
  | n + 1 => (if u.testBit (9 - n) = true then K else 1) * zP u K n
def zp (u K b : Nat) : Nat := zP u K (10 - b)
theorem zp_10 (u K : Nat) : zp u K 10 = 1 := rfl
theorem zp_b {u K b : Nat} (hb : b < 10) : zp u K b = (if u.testBit b = true then K else 1) * zp u K (b + 1) := by
  unfold zp
  rw [show 10 - b = (10 - (b + 1)) + 1 by omega, zP, show 9 - (10 - (b + 1)) = b by omega]
theorem zP_pos {u K : Nat} (hK : 0 < K) : ∀ n, 0 < zP u K n := by
  intro n
  induction n with
  | zero => exact Nat.one_pos
  | succ n ih =>
    rw [zP]
    refine Nat.mul_pos ?_ ih
    split
    · exact hK
    · exact Nat.one_pos
theorem zp_pos {u K : Nat} (hK : 0 < K) (b : Nat) : 0 < zp u K b := zP_pos hK _
theorem zp_dvd {u K b : Nat} (hb : b ≤ 10) : ∀ n a, a + n = b → zp u K b ∣ zp u K a := by
  intro n
  induction n with
  | zero => intro a h; rw [show a = b by omega]; exact Nat.dvd_refl _
  | succ n ih =>
    intro a h
    rw [zp_b (show a < 10 by omega)]
    exact Nat.dvd_trans (ih (a + 1) (by omega)) (Nat.dvd_mul_left _ _)
def zd (u K b code : Nat) : Nat := code / zp u K (b + 1) % K
theorem zd_lt {u K b code : Nat} (hK : 0 < K) : zd u K b code < K := Nat.mod_lt _ hK
theorem zd_pre {u K x b c j : Nat} (hK : 0 < K) (hx : x < b) (hb : b ≤ 10) (hc : zp u K b ∣ c) (hj : j < zp u K b) : zd u K x (c + j) = zd u K x c := by
  obtain ⟨t, ht⟩ := zp_dvd (u := u) (K := K) hb (b - (x + 1)) (x + 1) (by omega)
  obtain ⟨q, hq⟩ := hc
  unfold zd
  rw [ht, ← Nat.div_div_eq_div_mul, ← Nat.div_div_eq_div_mul, hq, Nat.mul_add_div (zp_pos hK b), Nat.div_eq_of_lt hj, Nat.add_zero, Nat.mul_div_cancel_left _ (zp_pos hK b)]
theorem zd_at {u K b c v j : Nat} (hK : 0 < K) (hb : b < 10) (hm : u.testBit b = true) (hc : zp u K b ∣ c) (hv : v < K) (hj : j < zp u K (b + 1)) : zd u K b (c + v * zp u K (b + 1) + j) = v := by
  obtain ⟨q, hq⟩ := hc
  rw [zp_b hb, if_pos hm] at hq
  unfold zd
  have e : c + v * zp u K (b + 1) + j = zp u K (b + 1) * (K * q + v) + j := by
    rw [hq, Nat.mul_add, Nat.mul_comm v, ← Nat.mul_assoc, Nat.mul_comm K]
  rw [e, Nat.mul_add_div (zp_pos hK _), Nat.div_eq_of_lt hj, Nat.add_zero, Nat.mul_add_mod, Nat.mod_eq_of_lt hv]
def zA (S : ss_S) (u k code : Nat) : ss_S := (S.1, fun a j => if a = 9 ∧ j < 10 ∧ u.testBit j = true then S.2 9 j + (nI (zd u (2 * k + 1) j code) - nI k) else S.2 a j)
theorem zA_a {a j code : Nat} (h : a ≠ 9) : (zA S u k code).2 a j = S.2 a j := if_neg (fun q => h q.1)
theorem zA_9 {j code : Nat} (hj : j < 10) (hm : u.testBit j = true) : (zA S u k code).2 9 j = S.2 9 j + (nI (zd u (2 * k + 1) j code) - nI k) := if_pos ⟨rfl, hj, hm⟩
theorem zA_n {j code : Nat} (hm : ¬ u.testBit j = true) : (zA S u k code).2 9 j = S.2 9 j := if_neg (fun q => hm q.2.2)
/-- the shift that comes is one from -3 to 3 -/
def zr (S : ss_S) (k x d : Nat) : Prop := k ≤ pp_sf S x + d ∧ pp_sf S x + d ≤ 6 + k
def zv (k d : Nat) : Nat := if d ≤ k then k - d else d - k
def zc (S : ss_S) (u k x code : Nat) : Nat := if u.testBit x = true then zv k (zd u (2 * k + 1) x code) + (if k ≤ pp_sf S x + zd u (2 * k + 1) x code ∧ pp_sf S x + zd u (2 * k + 1) x code ≤ 6 + k then 0 else 100) else 0
def zH (S : ss_S) (u k : Nat) : Nat → Nat → Nat
  | 0, _ => 0
  | b + 1, code => zH S u k b code + zc S u k b code
theorem zH_mono {code : Nat} {b : Nat} : ∀ n, zH S u k b code ≤ zH S u k (b + n) code := by
  intro n
  induction n with
  | zero => exact Nat.le_refl _
  | succ n ih => rw [show b + (n + 1) = (b + n) + 1 from rfl, zH]; omega
theorem zH_pre {b c j : Nat} (hb : b ≤ 10) (hc : zp u (2 * k + 1) b ∣ c) (hj : j < zp u (2 * k + 1) b) : ∀ x, x ≤ b → zH S u k x (c + j) = zH S u k x c := by
  intro x
  induction x with
  | zero => intro _; rfl
  | succ x ih =>
    intro hx
    rw [zH, zH, ih (by omega)]
    unfold zc
    rw [zd_pre (by omega) (by omega) hb hc hj]
/-- in range up to b -/
theorem zH_in {code : Nat} : ∀ b, zH S u k b code < 100 → ∀ x, x < b → u.testBit x = true → k ≤ pp_sf S x + zd u (2 * k + 1) x code ∧ pp_sf S x + zd u (2 * k + 1) x code ≤ 6 + k := by
  intro b
  induction b with
  | zero => intro _ x hx; omega
  | succ b ih =>
    intro h x hx hm
    rw [zH] at h
    by_cases e : x = b
    · subst e
      unfold zc at h
      rw [if_pos hm] at h
      by_cases q : k ≤ pp_sf S x + zd u (2 * k + 1) x code ∧ pp_sf S x + zd u (2 * k + 1) x code ≤ 6 + k
      · exact q
      · rw [if_neg q] at h; omega
    · exact ih (by omega) x (by omega) hm
abbrev zX : Type := Nat × Nat
def zs (S : ss_S) (u k s code : Nat) (X : zX) : zX := if zH S u k 10 code < X.1 ∧ (pp_fit (zA S u k code) s true).isNone = true then (zH S u k 10 code, code) else X
def zf (S : ss_S) (u k s : Nat) : Nat → Nat → zX → zX
  | 0, _, X => X
  | n + 1, c, X => zf S u k s n (c + 1) (zs S u k s c X)
theorem zf_add : ∀ a b c X, zf S u k s (a + b) c X = zf S u k s b (c + a) (zf S u k s a c X) := by
  intro a
  induction a with
  | zero => intro b c X; rw [Nat.zero_add]; rfl
  | succ a ih => intro b c X; rw [show a + 1 + b = (a + b) + 1 by omega, zf, ih, zf, show c + 1 + a = c + (a + 1) by omega]
theorem zf_id : ∀ n c X, (∀ j, j < n → ¬ (zH S u k 10 (c + j) < X.1 ∧ (pp_fit (zA S u k (c + j)) s true).isNone = true)) → zf S u k s n c X = X := by
  intro n
  induction n with
  | zero => intro c X _; rfl
  | succ n ih =>
    intro c X h
    have e : zs S u k s c X = X := if_neg (h 0 (by omega))
    rw [zf, e]
    exact ih (c + 1) X (fun j hj => by rw [show c + 1 + j = c + (j + 1) by omega]; exact h (j + 1) (by omega))
theorem zs_le (c : Nat) (X : zX) : (zs S u k s c X).1 ≤ X.1 := by
  unfold zs
  split
  · rename_i h; exact Nat.le_of_lt h.1
  · exact Nat.le_refl _
theorem zf_le : ∀ n c X, (zf S u k s n c X).1 ≤ X.1 := by
  intro n
  induction n with
  | zero => intro c X; exact Nat.le_refl _
  | succ n ih => intro c X; rw [zf]; exact Nat.le_trans (ih _ _) (zs_le _ _)
/-- small numbers -/
theorem zn_sh : ∀ a, a < 7 → ∀ d, d < 5 → ∀ k, k < 3 → (nI a - 3 + (nI d - nI k)).toInt = (a : Int) - 3 + (d : Int) - (k : Int) := by decide +kernel
theorem zn_by : ∀ d, d < 5 → ∀ k, k < 3 → (if 0 ≤ nI d - nI k then nI d - nI k else -(nI d - nI k)) = nI (zv k d) := by decide +kernel
theorem zn_ab : ∀ a, a < 7 → ∀ d, d < 5 → ∀ k, k < 3 → ((3 : Int32) < (if 0 ≤ nI a - 3 + (nI d - nI k) then nI a - 3 + (nI d - nI k) else -(nI a - 3 + (nI d - nI k))) ↔ ¬ (k ≤ a + d ∧ a + d ≤ 6 + k)) := by decide +kernel
theorem zA_ok (ho : ss_Ok S) (hk : k < 3) {code : Nat} (h : zH S u k 10 code < 100) : ss_Ok (zA S u k code) := by
  refine ⟨ho.1, fun a ha j hj => ?_⟩
  show ss_lo a ≤ (if a = 9 ∧ j < 10 ∧ u.testBit j = true then S.2 9 j + (nI (zd u (2 * k + 1) j code) - nI k) else S.2 a j).toInt ∧ (if a = 9 ∧ j < 10 ∧ u.testBit j = true then S.2 9 j + (nI (zd u (2 * k + 1) j code) - nI k) else S.2 a j).toInt ≤ ss_hi a
  by_cases e : a = 9 ∧ j < 10 ∧ u.testBit j = true
  · obtain ⟨e1, e2, e3⟩ := e
    have hd := zd_lt (u := u) (K := 2 * k + 1) (b := j) (code := code) (by omega)
    have hi := zH_in 10 h j e2 e3
    have hs := pp_sf_e ho e2
    rw [if_pos ⟨e1, e2, e3⟩, hs.1, zn_sh _ hs.2 _ (by omega) k hk, e1]
    show (-3 : Int) ≤ _ ∧ _ ≤ (3 : Int)
    omega
  · rw [if_neg e]; exact ho.2 a ha j hj
/-- what is wanted depends on the shift alone -/
theorem zA_want {c1 c2 x kd h : Nat} (hx : (zA S u k c1).2 9 x = (zA S u k c2).2 9 x) : pp_want (zA S u k c1) x kd h = pp_want (zA S u k c2) x kd h := by
  unfold pp_want pp_dy pp_sf
  have e7 : ∀ c, (zA S u k c).2 7 x = S.2 7 x := fun c => zA_a (by decide)
  have e1 : ∀ c j, (zA S u k c).2 1 j = S.2 1 j := fun c j => zA_a (by decide)
  rw [hx, e7, e7, e1, e1]
theorem zA_can {sm fr : Nat → Nat → Int32} {pl : Bool} (code : Nat) : ∀ n h w, pp_can (zA S u k code) sm fr pl n h w = pp_can S sm fr pl n h w := by
  intro n
  induction n with
  | zero => intro h w; rfl
  | succ n ih =>
    intro h w
    rw [pp_can, pp_can]
    simp only [ih]
    rfl
theorem zA_fit {c1 c2 t : Nat} (h : ∀ x, x < 10 → t.testBit x = true → (zA S u k c1).2 9 x = (zA S u k c2).2 9 x) : pp_fit (zA S u k c1) t true = pp_fit (zA S u k c2) t true := by
  unfold pp_fit
  have e1 : pp_all (zA S u k c1) t = pp_all (zA S u k c2) t := by
    funext kd hr
    exact pp_sm_ext (fun b hb => by
      cases hq : t.testBit b with
      | false => rw [if_neg (show ¬ false = true by decide), if_neg (show ¬ false = true by decide)]
      | true => rw [if_pos rfl, if_pos rfl, zA_want (h b hb hq)])
  have e2 : pp_rain (zA S u k c1) t = pp_rain (zA S u k c2) t := by
    funext f hr
    exact pp_sm_ext (fun b hb => by
      cases hq : t.testBit b with
      | false => rw [Bool.false_and, Bool.false_and, if_neg (show ¬ false = true by decide), if_neg (show ¬ false = true by decide)]
      | true =>
        have : pp_fl (zA S u k c1) b = pp_fl (zA S u k c2) b := by
          have e6 : ∀ c, (zA S u k c).2 6 b = S.2 6 b := fun c => zA_a (by decide)
          have e2 : ∀ c j, (zA S u k c).2 2 j = S.2 2 j := fun c j => zA_a (by decide)
          unfold pp_fl pp_rm
          rw [e6, e6, e2, e2]
        rw [this, zA_want (h b hb hq)])
  rw [e1, e2, zA_can, zA_can, show (zA S u k c1).1 = S.1 from rfl, show (zA S u k c2).1 = S.1 from rfl]
end SHIFT
