/-! fair -/
theorem kk_toInt {n : Nat} (h : n < 2 ^ 63) : (lN n).toInt = n := lg_ofNat_toInt h
theorem kk_eq {a b : Nat} (ha : a < 2 ^ 63) (hb : b < 2 ^ 63) : lN a = lN b ↔ a = b := by
  rw [← Int64.toInt_inj, kk_toInt ha, kk_toInt hb]
  omega
theorem kk_div {a b : Nat} (ha : a < 2 ^ 63) (hb : b < 2 ^ 63) (h0 : 0 < b) : lN a / lN b = lN (a / b) := by
  apply Int64.toInt_inj.mp
  rw [lg_ldiv_nonneg (by rw [kk_toInt ha]; omega) (by rw [kk_toInt hb]; omega), kk_toInt ha, kk_toInt hb, kk_toInt (by have := Nat.div_le_self a b; omega)]
  rfl
theorem kk_rem {a b : Nat} (ha : a < 2 ^ 63) (hb : b < 2 ^ 63) (h0 : 0 < b) : mm_remL (lN a) (lN b) = lN (a % b) := by
  unfold mm_remL
  rw [kk_div ha hb h0, lN_mul, lN_sub (Nat.div_mul_le_self a b)]
  congr 1
  have := Nat.div_add_mod a b
  rw [Nat.mul_comm] at this
  omega
theorem kk_z {a : Nat} (ha : a < 2 ^ 63) : (lg_cmp (lN a) 0 = 0) ↔ a = 0 := by
  rw [lg_cmp_eq]
  exact kk_eq (b := 0) ha (by decide)
/-- Euclid's steps end -/
def pp_ge : Nat → Nat → Nat → Prop
  | 0, _, y => y = 0
  | n + 1, x, y => y = 0 ∨ pp_ge n y (x % y)
theorem pp_ge_of : ∀ (n x y : Nat), y < 2 ^ n → ∀ m, 2 * n ≤ m → pp_ge m x y := by
  intro n
  induction n with
  | zero =>
    intro x y hy m hm
    have : y = 0 := by omega
    subst this
    cases m with
    | zero => rfl
    | succ m => exact Or.inl rfl
  | succ n ih =>
    intro x y hy m hm
    obtain ⟨m, rfl⟩ : ∃ k, m = k + 1 + 1 := ⟨m - 2, by omega⟩
    by_cases h0 : y = 0
    · exact Or.inl h0
    · refine Or.inr ?_
      by_cases h1 : x % y = 0
      · exact Or.inl h1
      · refine Or.inr (ih _ _ ?_ m (by omega))
        have h2 : y % (x % y) < x % y := Nat.mod_lt _ (by omega)
        have h3 : x % y < y := Nat.mod_lt _ (by omega)
        have h4 : (x % y) * (y / (x % y)) + y % (x % y) = y := Nat.div_add_mod y (x % y)
        have h5 : 1 ≤ y / (x % y) := (Nat.le_div_iff_mul_le (by omega)).mpr (by omega)
        have h6 : x % y ≤ (x % y) * (y / (x % y)) := Nat.le_mul_of_pos_right _ h5
        rw [Nat.pow_succ] at hy
        omega
theorem pp_gcd1 (x y : Nat) : Nat.gcd x y = Nat.gcd y (x % y) := by rw [Nat.gcd_comm, Nat.gcd_rec, Nat.gcd_comm]
theorem sr_gcd {a b : Nat} (ha : a < 2 ^ 63) (hb : b < 2 ^ 16) (M : mm_M) : f_R_gcd (lN a) (lN b) M = some (lN (Nat.gcd a b), M) := by
  have key : ∀ n x y, x < 2 ^ 63 → y < 2 ^ 63 → ∀ m, n < m → pp_ge n x y → lp_R_gcd_6 (fun (v4 : Int64) (M_2 : mm_M) => some (v4, M_2)) m (lN x) (lN y) M = some (lN (Nat.gcd x y), M) := by
    intro n
    induction n with
    | zero =>
      intro x y hx hy m hm hg
      obtain ⟨m, rfl⟩ : ∃ k, m = k + 1 := ⟨m - 1, by omega⟩
      have hg : y = 0 := hg
      rw [lp_R_gcd_6, if_pos ((kk_z hy).mpr hg), hg, Nat.gcd_zero_right]
    | succ n ih =>
      intro x y hx hy m hm hg
      obtain ⟨m, rfl⟩ : ∃ k, m = k + 1 := ⟨m - 1, by omega⟩
      rw [lp_R_gcd_6]
      by_cases h0 : y = 0
      · rw [if_pos ((kk_z hy).mpr h0), h0, Nat.gcd_zero_right]
      · have h3 : x % y < y := Nat.mod_lt _ (by omega)
        rw [if_neg (fun q => h0 ((kk_z hy).mp q)), if_neg (show ¬ lN y = 0 from fun q => h0 ((kk_eq (b := 0) hy (by decide)).mp q)), kk_rem hx hy (by omega), pp_let, pp_gcd1]
        exact ih y (x % y) hy (by omega) m (by omega) (hg.resolve_left h0)
  unfold f_R_gcd
  exact key 32 a b ha (by omega) mm_fu (by decide) (pp_ge_of 16 a b hb 32 (by omega))
theorem sh_reduce {a b : Nat} (ha : a < 2 ^ 63) (hb : b < 2 ^ 16) (h0 : 0 < b) (M : mm_M) : ∃ M1, f_Chooser_reduce (lN a) (lN b) M = some ((), M1) ∧ M1.2.2 71 6 = lN (a / Nat.gcd a b) ∧ M1.2.2 71 7 = lN (b / Nat.gcd a b) ∧ M1.1 = M.1 ∧ M1.2.1 = M.2.1 ∧ ∀ o, o ≠ 71 → M1.2.2 o = M.2.2 o := by
  have key : ∀ (k : Int64 → mm_M → Option (Unit × mm_M)) n x y, x < 2 ^ 63 → y < 2 ^ 63 → ∀ m c, n < m → c + n ≤ 100 → pp_ge n x y → lp_Chooser_reduce_9 (lN a) (lN b) k m (lN x) (lN y) (nI c) M = k (lN (Nat.gcd x y)) M := by
    intro k n
    induction n with
    | zero =>
      intro x y hx hy m c hm hc hg
      obtain ⟨m, rfl⟩ : ∃ k, m = k + 1 := ⟨m - 1, by omega⟩
      have hg : y = 0 := hg
      rw [lp_Chooser_reduce_9]
      by_cases hc : (100 : Int32) ≤ nI c
      · rw [if_pos hc, hg, Nat.gcd_zero_right]
      · rw [if_neg hc, if_pos ((kk_z hy).mpr hg), hg, Nat.gcd_zero_right]
    | succ n ih =>
      intro x y hx hy m c hm hc hg
      obtain ⟨m, rfl⟩ : ∃ k, m = k + 1 := ⟨m - 1, by omega⟩
      rw [lp_Chooser_reduce_9, if_neg (show ¬ (100 : Int32) ≤ nI c from nI_ge (show c < 100 by omega) (by decide))]
      by_cases h0 : y = 0
      · rw [if_pos ((kk_z hy).mpr h0), h0, Nat.gcd_zero_right]
      · have h3 : x % y < y := Nat.mod_lt _ (by omega)
        rw [if_neg (fun q => h0 ((kk_z hy).mp q)), if_neg (show ¬ lN y = 0 from fun q => h0 ((kk_eq (b := 0) hy (by decide)).mp q)), kk_rem hx hy (by omega), pp_let, nI_1, pp_let, pp_gcd1]
        exact ih y (x % y) hy (by omega) m (c + 1) (by omega) (by omega) (hg.resolve_left h0)
  have hge : pp_ge 33 b a := by
    by_cases h : a = 0
    · exact Or.inl h
    · refine Or.inr (pp_ge_of 16 a (b % a) ?_ 32 (by omega))
      have := Nat.mod_le b a
      omega
  have hg0 : 0 < Nat.gcd b a := Nat.gcd_pos_of_pos_left a h0
  have hgb : Nat.gcd b a ≤ b := Nat.gcd_le_left a h0
  unfold f_Chooser_reduce
  rw [show (0 : Int32) = nI 0 from rfl, key _ 33 b a (by omega) ha mm_fu 0 (by decide) (by omega) hge, pp_let, pp_let, Nat.gcd_comm a b]
  by_cases h1 : Nat.gcd b a ≤ 1
  · have e1 : Nat.gcd b a = 1 := by omega
    rw [e1, if_pos (by decide), Nat.div_one, Nat.div_one]
    refine ⟨_, rfl, rfl, rfl, rfl, rfl, fun o ho => ?_⟩
    funext q
    show (if o = 71 ∧ q = 7 then _ else if o = 71 ∧ q = 6 then _ else M.2.2 o q) = _
    rw [if_neg (fun e => ho e.1), if_neg (fun e => ho e.1)]
  · have hz : ¬ lN (Nat.gcd b a) = 0 := fun q => by
      have := (kk_eq (b := 0) (by omega) (by decide)).mp q
      omega
    rw [if_neg (show ¬ lg_cmp (lN (Nat.gcd b a)) 1 ≤ nI 0 from fun q => by
      have q : lg_cmp (lN (Nat.gcd b a)) 1 ≤ 0 := q
      rw [lg_cmp_le, Int64.le_iff_toInt_le, kk_toInt (by omega)] at q
      have : (1 : Int64).toInt = 1 := rfl
      omega), if_neg hz, pp_let, if_neg hz, pp_let, kk_div ha (by omega) hg0, kk_div (by omega) (by omega) hg0]
    refine ⟨_, rfl, rfl, rfl, rfl, rfl, fun o ho => ?_⟩
    funext q
    show (if o = 71 ∧ q = 7 then _ else if o = 71 ∧ q = 6 then _ else if o = 71 ∧ q = 7 then _ else if o = 71 ∧ q = 6 then _ else M.2.2 o q) = _
    rw [if_neg (fun e => ho e.1), if_neg (fun e => ho e.1), if_neg (fun e => ho e.1), if_neg (fun e => ho e.1)]
def pp_fc : Nat → Nat
  | 0 => 1
  | n + 1 => (n + 1) * pp_fc n
theorem sh_factorial {n : Nat} (hn : n ≤ 8) (M : mm_M) : f_Chooser_factorial (nI n) M = some (lN (pp_fc n), M) := by
  unfold f_Chooser_factorial
  rw [pp_let]
  rcases Nat.eq_zero_or_pos n with rfl | h0
  · rw [show mm_fu = 4999 + 1 from rfl, lp_Chooser_factorial_4, if_pos (by decide)]
    rfl
  · refine pp_forj (lp := fun m (a : Int64 × Int32 × mm_M) => lp_Chooser_factorial_4 (nI n) _ m a.1 a.2.1 a.2.2) (fun i => (lN (pp_fc (i - 1)), nI i, M)) 2 (n + 1) (by omega) (by omega) (fun i h1 h2 m => ?_) (fun m => ?_)
    · show lp_Chooser_factorial_4 _ _ (m + 1) _ _ _ = lp_Chooser_factorial_4 _ _ m _ _ _
      rw [lp_Chooser_factorial_4, if_neg (nI_nlt (by omega) (by omega)), nI_l (by omega), lN_mul, pp_let, nI_1, pp_let, show i + 1 - 1 = (i - 1) + 1 by omega, pp_fc, show i - 1 + 1 = i by omega, Nat.mul_comm]
    · show lp_Chooser_factorial_4 _ _ (m + 1) _ _ _ = _
      rw [lp_Chooser_factorial_4, if_pos (nI_lt (by omega) (by omega))]
      rfl
theorem sr_orders {n : Nat} (hn : n ≤ 8) (M : mm_M) : f_R_orders (nI n) M = some (nI (pp_fc n), M) := by
  unfold f_R_orders
  rcases Nat.eq_zero_or_pos n with rfl | h0
  · rw [show mm_fu = 4999 + 1 from rfl, lp_R_orders_4, if_pos (by decide)]
    rfl
  · refine pp_forj (lp := fun m (a : Int32 × Int32 × mm_M) => lp_R_orders_4 (nI n) _ m a.1 a.2.1 a.2.2) (fun i => (nI (pp_fc (i - 1)), nI i, M)) 2 (n + 1) (by omega) (by omega) (fun i h1 h2 m => ?_) (fun m => ?_)
    · show lp_R_orders_4 _ _ (m + 1) _ _ _ = lp_R_orders_4 _ _ m _ _ _
      rw [lp_R_orders_4, if_neg (nI_nlt (by omega) (by omega)), pp_mulN, pp_let, nI_1, pp_let, show i + 1 - 1 = (i - 1) + 1 by omega, pp_fc, show i - 1 + 1 = i by omega, Nat.mul_comm]
    · show lp_R_orders_4 _ _ (m + 1) _ _ _ = _
      rw [lp_R_orders_4, if_pos (nI_lt (by omega) (by omega))]
      rfl
theorem pp_fc_le : ∀ n, n ≤ 8 → pp_fc n ≤ 40320 ∧ 0 < pp_fc n := by decide
theorem pp_fc2 : ∀ n, n ≤ 8 → ∀ a, a ≤ 7 → pp_fc a * pp_fc (n - 1 - a) ≤ 5040 * 5040 := by decide
/-- what the plant would cost -/
def pp_pm (S : ss_S) (t k : Nat) : Nat → Nat
  | 0 => 0
  | n + 1 => max (pp_pm S t k n) (pp_aN S t k n)
theorem pp_pm_e {S : ss_S} (ho : ss_Ok S) {k : Nat} (hk : k < 3) (t n : Nat) : pp_pk S t k n = nI (pp_pm S t k n) ∧ pp_pm S t k n ≤ 990 := by
  induction n with
  | zero => exact ⟨rfl, Nat.zero_le _⟩
  | succ n ih =>
    have h := pp_all_e ho hk t n
    rw [pp_pk, pp_pm, ih.1, h.1, pp_mxN (by omega) (by omega)]
    exact ⟨rfl, by omega⟩
theorem pp_pm_mono {S : ss_S} {t u : Nat} (h : pp_sub t u) (k n : Nat) : pp_pm S t k n ≤ pp_pm S u k n := by
  induction n with
  | zero => exact Nat.le_refl _
  | succ n ih =>
    have := pp_aN_mono (S := S) (k := k) (h := n) h
    rw [pp_pm, pp_pm]
    omega
def pp_pn (S : ss_S) (k : Nat) : Nat := (S.2 4 k).toInt.toNat
theorem pp_pn_e {S : ss_S} (ho : ss_Ok S) {k : Nat} (hk : k < 3) : S.2 4 k = nI (pp_pn S k) ∧ pp_pn S k ≤ 999 := by
  obtain ⟨n, hn, e⟩ := ho.m 4 (by decide) rfl (j := k) hk
  have hn : (n : Int) ≤ 999 := hn
  unfold pp_pn
  rw [e, nI_toInt (by omega)]
  exact ⟨rfl, by omega⟩
def pp_cs (S : ss_S) (t : Nat) : Nat → Nat
  | 0 => 0
  | n + 1 => pp_cs S t n + pp_pm S t n 24 * pp_pn S n
theorem pp_cs_le {S : ss_S} (ho : ss_Ok S) (t n : Nat) (hn : n ≤ 3) : pp_cs S t n ≤ 990 * 999 * n := by
  induction n with
  | zero => exact Nat.le_refl _
  | succ n ih =>
    have h1 := (pp_pm_e ho (k := n) (by omega) t 24).2
    have h2 := (pp_pn_e ho (k := n) (by omega)).2
    have := Nat.mul_le_mul h1 h2
    have := ih (by omega)
    rw [pp_cs]
    omega
theorem pp_cs_mono {S : ss_S} {t u : Nat} (h : pp_sub t u) (n : Nat) : pp_cs S t n ≤ pp_cs S u n := by
  induction n with
  | zero => exact Nat.le_refl _
  | succ n ih =>
    rw [pp_cs, pp_cs]
    have := Nat.mul_le_mul_right (pp_pn S n) (pp_pm_mono (S := S) h n 24)
    omega
theorem sh_plantCostOf {S : ss_S} {M : mm_M} {L : ld_L} {s u : Nat} (ho : ss_Ok S) (hs : s < 1024) (hH : ss_RH S M) (h : ld_W s L M) (hL : ld_of S s L) (hu : pp_sub u s) : ∃ M1, f_Chooser_plantCostOf (nI u) M = some (lN (pp_cs S u 3), M1) ∧ ld_W s L M1 ∧ ss_m 56 71 M M1 := by
  obtain ⟨t0, ht0, hI⟩ := h
  have hu1 : u < 1024 := by have := pp_sub_le hu; omega
  obtain ⟨M2, k1, k2, k3⟩ := sh_turnTo hI (t := u) hu1 (ld_of_F ho hL ht0) (ld_of_F ho hL hu)
  have hH2 := hH.lo k3 (by omega)
  refine ⟨M2, ?_, ⟨u, hu, k2⟩, k3⟩
  unfold f_Chooser_plantCostOf
  rw [k1, pp_bd, pp_let]
  refine pp_for (lp := fun m (a : Int64 × Int32 × mm_M) => lp_Chooser_plantCostOf_13 _ m a.1 a.2.1 a.2.2) (fun i => (lN (pp_cs S u i), nI i, M2)) 3 (by decide) (fun i hi m => ?_) (fun m => ?_)
  · show lp_Chooser_plantCostOf_13 _ (m + 1) _ _ _ = lp_Chooser_plantCostOf_13 _ m _ _ _
    have e1 := pp_pm_e ho hi u 24
    have e2 := pp_pn_e ho hi
    rw [lp_Chooser_plantCostOf_13, if_neg (show ¬ (3 : Int32) ≤ nI i from nI_ge hi (by decide)), sh_peakOf k2 hL hu hi, pp_bd, mm_al_25, pp_in hi (by decide), if_pos rfl, nI_clamp (by omega), show M2.2.1 25 i = S.2 4 i from hH2.2 4 (by decide) i hi, e1.1, e2.1, nI_l (by omega), nI_l (by omega), lN_mul, lN_add, pp_let, nI_1, pp_let]
    rfl
  · show lp_Chooser_plantCostOf_13 _ (m + 1) _ _ _ = _
    rw [lp_Chooser_plantCostOf_13, if_pos (show (3 : Int32) ≤ nI 3 by decide)]
theorem sr_plantCost {S : ss_S} {M : mm_M} (ho : ss_Ok S) (hR : ss_RR S M) {u : Nat} (hu : u < 2 ^ 31) : f_R_plantCost (nI u) M = some (nI (pp_cs S u 3), M) := by
  unfold f_R_plantCost
  refine pp_for (lp := fun m (a : Int32 × Int32 × mm_M) => lp_R_plantCost_4 (nI u) _ m a.1 a.2.1 a.2.2) (fun i => (nI (pp_cs S u i), nI i, M)) 3 (by decide) (fun i hi m => ?_) (fun m => ?_)
  · show lp_R_plantCost_4 _ _ (m + 1) _ _ _ = lp_R_plantCost_4 _ _ m _ _ _
    have e1 := pp_pm_e ho hi u 24
    have e2 := pp_pn_e ho hi
    rw [lp_R_plantCost_4, if_neg (show ¬ (3 : Int32) ≤ nI i from nI_ge hi (by decide)), sr_mostWanted ho hR hu hi, pp_bd, mm_al_103, pp_in hi (by decide), if_pos rfl, nI_clamp (by omega), show M.2.1 103 i = S.2 4 i from hR.2 4 (by decide) i hi, e1.1, e2.1, pp_mulN, nI_add, pp_let, nI_1, pp_let]
    rfl
  · show lp_R_plantCost_4 _ _ (m + 1) _ _ _ = _
    rw [lp_R_plantCost_4, if_pos (show (3 : Int32) ≤ nI 3 by decide)]
/-- sums of long numbers -/
def pp_ls (g : Nat → Int64) : Nat → Int64
  | 0 => 0
  | n + 1 => pp_ls g n + g n
theorem pp_ls_ext {f g : Nat → Int64} {n : Nat} (h : ∀ x, x < n → f x = g x) : pp_ls f n = pp_ls g n := by
  induction n with
  | zero => rfl
  | succ n ih => rw [pp_ls, pp_ls, ih (fun x hx => h x (by omega)), h n (by omega)]
theorem pp_ls_add (f g : Nat → Int64) (n : Nat) : pp_ls (fun x => f x + g x) n = pp_ls f n + pp_ls g n := by
  induction n with
  | zero => rfl
  | succ n ih =>
    rw [pp_ls, pp_ls, pp_ls, ih, Int64.add_assoc, Int64.add_assoc]
    congr 1
    rw [← Int64.add_assoc, ← Int64.add_assoc, Int64.add_comm (pp_ls g n) (f n)]
theorem pp_ls_two (g : Nat → Int64) (n m : Nat) : pp_ls g (n + m) = pp_ls g n + pp_ls (fun x => g (n + x)) m := by
  induction m with
  | zero => rw [pp_ls, Int64.add_zero]; rfl
  | succ m ih => rw [← Nat.add_assoc, pp_ls, pp_ls, ih, Int64.add_assoc]
theorem pp_tb_add {n b x : Nat} (hb : b < n) : (2 ^ n + x).testBit b = x.testBit b := by
  rw [Nat.testBit_eq_decide_div_mod_eq, Nat.testBit_eq_decide_div_mod_eq]
  have e : 2 ^ n = 2 ^ b * (2 * 2 ^ (n - b - 1)) := by
    rw [← Nat.pow_succ', ← Nat.pow_add]
    congr 1
    omega
  rw [e, Nat.add_comm, Nat.add_mul_div_left _ _ (Nat.two_pow_pos b), Nat.add_mul_mod_self_left]
theorem pp_or_add {n b x : Nat} (hb : b < n) (hx : x < 2 ^ n) : (2 ^ n + x) ||| 2 ^ b = 2 ^ n + (x ||| 2 ^ b) := by
  have h1 : 2 ^ b < 2 ^ n := Nat.pow_lt_pow_right (by decide) hb
  have h2 : x ||| 2 ^ b < 2 ^ n := Nat.or_lt_two_pow hx h1
  have e1 := Nat.two_pow_add_eq_or_of_lt hx 1
  have e2 := Nat.two_pow_add_eq_or_of_lt h2 1
  rw [Nat.mul_one] at e1 e2
  rw [e1, e2, Nat.or_assoc]
theorem pp_ls_pair (n : Nat) : ∀ (b : Nat) (G : Nat → Int64), b < n → pp_ls (fun x => if x.testBit b = true then G x else 0) (2 ^ n) = pp_ls (fun x => if x.testBit b = true then 0 else G (x ||| 2 ^ b)) (2 ^ n) := by
  induction n with
  | zero => intro b G hb; omega
  | succ n ih =>
    intro b G hb
    rw [Nat.pow_succ, Nat.mul_two, pp_ls_two, pp_ls_two]
    by_cases e : b = n
    · subst e
      rw [show pp_ls (fun x => if x.testBit b = true then G x else 0) (2 ^ b) = pp_ls (fun _ => 0) (2 ^ b) from pp_ls_ext (fun x hx => by rw [Nat.testBit_lt_two_pow hx]; rfl)]
      rw [show pp_ls (fun x => if (2 ^ b + x).testBit b = true then (0 : Int64) else G ((2 ^ b + x) ||| 2 ^ b)) (2 ^ b) = pp_ls (fun _ => 0) (2 ^ b) from pp_ls_ext (fun x hx => by
        rw [if_pos]
        rw [Nat.testBit_two_pow_add_eq, Nat.testBit_lt_two_pow hx]; rfl)]
      rw [Int64.add_comm]
      congr 1
      refine pp_ls_ext (fun x hx => ?_)
      rw [if_pos (by rw [Nat.testBit_two_pow_add_eq, Nat.testBit_lt_two_pow hx]; rfl), if_neg (by rw [Nat.testBit_lt_two_pow hx]; decide)]
      have := Nat.two_pow_add_eq_or_of_lt hx 1
      rw [Nat.mul_one] at this
      rw [this, Nat.or_comm]
    · have hb2 : b < n := by omega
      rw [ih b G hb2]
      congr 1
      rw [pp_ls_ext (g := fun x => if x.testBit b = true then G (2 ^ n + x) else 0) (fun x hx => by rw [pp_tb_add hb2]), ih b (fun x => G (2 ^ n + x)) hb2]
      refine pp_ls_ext (fun x hx => ?_)
      rw [pp_tb_add hb2, pp_or_add hb2 hx]
