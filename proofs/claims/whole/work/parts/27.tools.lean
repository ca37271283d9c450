/-! tools for loops -/
theorem zl0 : (0 : Int32) = nI 0 := rfl
theorem zl1 : (1 : Int32) = nI 1 := rfl
theorem zl2 : (2 : Int32) = nI 2 := rfl
theorem zl3 : (3 : Int32) = nI 3 := rfl
theorem zl4 : (4 : Int32) = nI 4 := rfl
theorem zl5 : (5 : Int32) = nI 5 := rfl
theorem zl6 : (6 : Int32) = nI 6 := rfl
theorem zl7 : (7 : Int32) = nI 7 := rfl
theorem zl8 : (8 : Int32) = nI 8 := rfl
theorem zl9 : (9 : Int32) = nI 9 := rfl
theorem zl10 : (10 : Int32) = nI 10 := rfl
theorem zl11 : (11 : Int32) = nI 11 := rfl
theorem zl12 : (12 : Int32) = nI 12 := rfl
theorem zl14 : (14 : Int32) = nI 14 := rfl
theorem zl20 : (20 : Int32) = nI 20 := rfl
theorem zl23 : (23 : Int32) = nI 23 := rfl
theorem zl24 : (24 : Int32) = nI 24 := rfl
theorem zl48 : (48 : Int32) = nI 48 := rfl
theorem zl60 : (60 : Int32) = nI 60 := rfl
theorem zl72 : (72 : Int32) = nI 72 := rfl
theorem zl96 : (96 : Int32) = nI 96 := rfl
theorem zl99 : (99 : Int32) = nI 99 := rfl
theorem zl100 : (100 : Int32) = nI 100 := rfl
theorem zl120 : (120 : Int32) = nI 120 := rfl
theorem zl160 : (160 : Int32) = nI 160 := rfl
theorem zl180 : (180 : Int32) = nI 180 := rfl
theorem zl200 : (200 : Int32) = nI 200 := rfl
theorem zl255 : (255 : Int32) = nI 255 := rfl
theorem zl720 : (720 : Int32) = nI 720 := rfl
theorem zl999 : (999 : Int32) = nI 999 := rfl
theorem zl1023 : (1023 : Int32) = nI 1023 := rfl
theorem zl1024 : (1024 : Int32) = nI 1024 := rfl
theorem zl4095 : (4095 : Int32) = nI 4095 := rfl
theorem zl9999 : (9999 : Int32) = nI 9999 := rfl
theorem zl65536 : (65536 : Int32) = nI 65536 := rfl
def pp_m1 : Int32 := -1
def pp_m2 : Int32 := -2
def pp_m3 : Int32 := -3
theorem zm1 : -nI 1 = pp_m1 := rfl
theorem zm2 : -nI 2 = pp_m2 := rfl
theorem zm3 : -nI 3 = pp_m3 := rfl
theorem pp_mulN (a b : Nat) : nI a * nI b = nI (a * b) := (Int32.ofNat_mul a b).symm
theorem pp_run {A R : Type} {lp : Nat → A → R} (P : Nat → A → Prop) (Q : R → Prop) (n : Nat) (h : ∀ i a, i < n → P i a → (∃ a', P (i + 1) a' ∧ ∀ m, lp (m + 1) a = lp m a') ∨ ∀ m, Q (lp (m + 1) a)) (he : ∀ a, P n a → ∀ m, Q (lp (m + 1) a)) : ∀ (d j : Nat), j + d = n → ∀ a, P j a → ∀ m, Q (lp (m + d + 1) a) := by
  intro d
  induction d with
  | zero =>
    intro j hj a ha m
    have e : j = n := by omega
    subst e
    exact he a ha m
  | succ d ih =>
    intro j hj a ha m
    rcases h j a (by omega) ha with ⟨a', h1, h2⟩ | h1
    · rw [show m + (d + 1) + 1 = (m + d + 1) + 1 from rfl, h2]
      exact ih (j + 1) (by omega) a' h1 m
    · exact h1 _
theorem pp_exj {A R : Type} {lp : Nat → A → R} (P : Nat → A → Prop) (Q : R → Prop) (j n : Nat) (hj : j ≤ n) (hn : n < 5000) (h : ∀ i a, i < n → P i a → (∃ a', P (i + 1) a' ∧ ∀ m, lp (m + 1) a = lp m a') ∨ ∀ m, Q (lp (m + 1) a)) (he : ∀ a, P n a → ∀ m, Q (lp (m + 1) a)) {a : A} (h0 : P j a) : Q (lp mm_fu a) := by
  have := pp_run P Q n h he (n - j) j (by omega) a h0 (4999 - (n - j))
  rw [show 4999 - (n - j) + (n - j) + 1 = mm_fu from by show _ = 5000; omega] at this
  exact this
theorem pp_ex {A R : Type} {lp : Nat → A → R} (P : Nat → A → Prop) (Q : R → Prop) (n : Nat) (hn : n < 5000) (h : ∀ i a, i < n → P i a → (∃ a', P (i + 1) a' ∧ ∀ m, lp (m + 1) a = lp m a') ∨ ∀ m, Q (lp (m + 1) a)) (he : ∀ a, P n a → ∀ m, Q (lp (m + 1) a)) {a : A} (h0 : P 0 a) : Q (lp mm_fu a) := pp_exj P Q 0 n (Nat.zero_le n) hn h he h0
/-- a loop without an early end, its states known -/
theorem pp_for {A R : Type} {lp : Nat → A → R} (st : Nat → A) (n : Nat) (hn : n < 5000) (h : ∀ i, i < n → ∀ m, lp (m + 1) (st i) = lp m (st (i + 1))) {r : R} (he : ∀ m, lp (m + 1) (st n) = r) : lp mm_fu (st 0) = r :=
  pp_ex (fun i a => a = st i) (fun x => x = r) n hn (fun i a hi ha => Or.inl ⟨st (i + 1), rfl, fun m => by rw [ha]; exact h i hi m⟩) (fun a ha m => by rw [ha]; exact he m) rfl
theorem pp_forj {A R : Type} {lp : Nat → A → R} (st : Nat → A) (j n : Nat) (hj : j ≤ n) (hn : n < 5000) (h : ∀ i, j ≤ i → i < n → ∀ m, lp (m + 1) (st i) = lp m (st (i + 1))) {r : R} (he : ∀ m, lp (m + 1) (st n) = r) : lp mm_fu (st j) = r :=
  pp_exj (fun i a => j ≤ i ∧ a = st i) (fun x => x = r) j n hj hn (fun i a hi ha => Or.inl ⟨st (i + 1), ⟨by omega, rfl⟩, fun m => by rw [ha.2]; exact h i ha.1 hi m⟩) (fun a ha m => by rw [ha.2]; exact he m) ⟨Nat.le_refl j, rfl⟩
/-- rows -/
theorem pp_sa (M : mm_M) (o k i q : Nat) (v : Int32) : (mm_setA M o k v).2.1 i q = if i = o ∧ q = k then v else M.2.1 i q := rfl
theorem pp_sa1 (M : mm_M) (o k i : Nat) (v : Int32) : (mm_setA M o k v).1 i = M.1 i := rfl
theorem pp_sr1 (M : mm_M) (o i : Nat) (f : Nat → Int32) : (mm_setR M o f).1 i = M.1 i := rfl
theorem pp_sr (M : mm_M) (o i q : Nat) (f : Nat → Int32) : (mm_setR M o f).2.1 i q = if i = o then f q else M.2.1 i q := rfl
theorem pp_sro (M : mm_M) (o q : Nat) (f : Nat → Int32) : (mm_setR M o f).2.1 o q = f q := if_pos rfl
theorem pp_srn {M : mm_M} {o i q : Nat} {f : Nat → Int32} (h : i ≠ o) : (mm_setR M o f).2.1 i q = M.2.1 i q := if_neg h
theorem pp_si (M : mm_M) (o k i q : Nat) (v : Int32) : (mm_setI M o k v).1 i q = if i = o ∧ q = k then v else M.1 i q := rfl
theorem pp_si2 (M : mm_M) (o k i q : Nat) (v : Int32) : (mm_setI M o k v).2.1 i q = M.2.1 i q := rfl
theorem pp_sasr (M : mm_M) (o k : Nat) (f : Nat → Int32) (v : Int32) : mm_setA (mm_setR M o f) o k v = mm_setR M o (fun j => if j = k then v else f j) := by
  refine Prod.ext rfl (Prod.ext ?_ rfl)
  funext i q
  show (if i = o ∧ q = k then v else if i = o then f q else M.2.1 i q) = if i = o then (if q = k then v else f q) else M.2.1 i q
  by_cases h : i = o
  · simp [h]
  · simp [h]
theorem pp_sr_id (M : mm_M) (o : Nat) : mm_setR M o (M.2.1 o) = M := by
  refine Prod.ext rfl (Prod.ext ?_ rfl)
  funext i q
  show (if i = o then M.2.1 o q else M.2.1 i q) = M.2.1 i q
  by_cases h : i = o
  · rw [if_pos h, h]
  · rw [if_neg h]
theorem pp_sr_if {M : mm_M} {o : Nat} {f : Nat → Int32} (h : ∀ q, f q = M.2.1 o q) : mm_setR M o f = M := by
  rw [show f = M.2.1 o from funext h, pp_sr_id]
/-- a loop that writes one row, from b on -/
theorem pp_fill {R : Type} {lp : Nat → Int32 → mm_M → R} {k : mm_M → R} (M : mm_M) (o b n : Nat) (hn : n < 5000) (g : Nat → Int32)
    (h : ∀ i, i < n → ∀ m M', M' = mm_setR M o (fun j => if b ≤ j ∧ j < b + i then g j else M.2.1 o j) → lp (m + 1) (nI i) M' = lp m (nI (i + 1)) (mm_setA M' o (b + i) (g (b + i))))
    (he : ∀ m M', lp (m + 1) (nI n) M' = k M') : lp mm_fu (nI 0) M = k (mm_setR M o (fun j => if b ≤ j ∧ j < b + n then g j else M.2.1 o j)) := by
  have := pp_for (lp := fun m (a : Int32 × mm_M) => lp m a.1 a.2) (fun i => (nI i, mm_setR M o (fun j => if b ≤ j ∧ j < b + i then g j else M.2.1 o j))) n hn (fun i hi m => by
    show lp (m + 1) (nI i) _ = lp m (nI (i + 1)) _
    rw [h i hi m _ rfl, pp_sasr]
    congr 2
    funext j
    by_cases h1 : j = b + i
    · rw [if_pos h1, if_pos (by omega), h1]
    · rw [if_neg h1]
      by_cases h2 : b ≤ j ∧ j < b + i
      · rw [if_pos h2, if_pos (by omega)]
      · rw [if_neg h2, if_neg (by omega)]) (r := k (mm_setR M o (fun j => if b ≤ j ∧ j < b + n then g j else M.2.1 o j))) (fun m => he m _)
  have e : mm_setR M o (fun j => if b ≤ j ∧ j < b + 0 then g j else M.2.1 o j) = M := pp_sr_if (fun q => if_neg (by omega))
  have t : lp mm_fu (nI 0) (mm_setR M o (fun j => if b ≤ j ∧ j < b + 0 then g j else M.2.1 o j)) = _ := this
  rw [e] at t
  exact t
/-- the state is untouched where the cells below 38 are -/
theorem ss_so_38 : ∀ k, k < 11 → (ss_so k).1 < 38 := by decide
theorem ss_ao_38 : ∀ a, a < 14 → ss_ao a < 38 := by decide
theorem ss_ha_38 {a j : Nat} (ha : a < 14) (hj : j < ss_len a) : (ss_ha a j).1 < 38 := by
  unfold ss_ha
  by_cases h1 : a = 1
  · subst h1
    have hj : j < 864 := hj
    rw [if_pos rfl]
    show 6 + j / 72 < 38
    omega
  · rw [if_neg h1]
    exact ss_ao_38 a ha
theorem ss_RH.lo {S : ss_S} {M M1 : mm_M} {lo hi : Nat} (h : ss_RH S M) (hm : ss_m lo hi M M1) (hl : 38 ≤ lo) : ss_RH S M1 := by
  refine ⟨fun k hk => ?_, fun a ha j hj => ?_⟩
  · rw [(hm _ (Or.inl (by have := ss_so_38 k hk; omega))).1]; exact h.1 k hk
  · rw [(hm _ (Or.inl (by have := ss_ha_38 ha hj; omega))).2.1]; exact h.2 a ha j hj
theorem ss_m.h {M M1 : mm_M} {lo hi : Nat} (hm : ss_m lo hi M M1) (hl : 44 ≤ lo) (hh : hi ≤ 97) : ss_h M M1 := ⟨fun o ho => hm o (by omega), fun o _ h2 => (hm o (Or.inl (by omega))).2.1⟩
theorem ss_m.wd {M M1 : mm_M} {lo hi lo2 hi2 : Nat} (hm : ss_m lo hi M M1) (hl : lo2 ≤ lo) (hh : hi ≤ hi2) : ss_m lo2 hi2 M M1 := fun o ho => hm o (by omega)
/-- sums over sets -/
def pp_sm (c : Nat → Bool) (f : Nat → Int32) : Nat → Int32
  | 0 => 0
  | n + 1 => pp_sm c f n + if c n = true then f n else 0
theorem pp_sm_ext {c d : Nat → Bool} {f g : Nat → Int32} {n : Nat} (h : ∀ b, b < n → (if c b = true then f b else 0) = if d b = true then g b else 0) : pp_sm c f n = pp_sm d g n := by
  induction n with
  | zero => rfl
  | succ n ih => rw [pp_sm, pp_sm, ih (fun b hb => h b (by omega)), h n (by omega)]
theorem pp_sm_0 {c : Nat → Bool} {f : Nat → Int32} {n : Nat} (h : ∀ b, b < n → c b = false) : pp_sm c f n = 0 := by
  induction n with
  | zero => rfl
  | succ n ih => rw [pp_sm, ih (fun b hb => h b (by omega)), h n (by omega)]; rfl
/-- one comes into the set, or goes -/
theorem pp_sm_in {c d : Nat → Bool} {f : Nat → Int32} {n b : Nat} (hb : b < n) (hc : c b = false) (hd : d b = true) (h : ∀ i, i < n → i ≠ b → d i = c i) : pp_sm d f n = pp_sm c f n + f b := by
  induction n with
  | zero => omega
  | succ n ih =>
    rw [pp_sm, pp_sm]
    by_cases e : b = n
    · subst e
      rw [hc, hd, pp_sm_ext (d := c) (g := f) (fun i hi => by rw [h i (by omega) (by omega)]), if_pos rfl, if_neg (by decide), Int32.add_zero]
    · rw [ih (by omega) (fun i hi hne => h i (by omega) hne), h n (by omega) (fun q => e q.symm), Int32.add_assoc, Int32.add_comm (f b), Int32.add_assoc]
theorem pp_sm_out {c d : Nat → Bool} {f : Nat → Int32} {n b : Nat} (hb : b < n) (hc : c b = true) (hd : d b = false) (h : ∀ i, i < n → i ≠ b → d i = c i) : pp_sm d f n = pp_sm c f n + (-1) * f b := by
  rw [pp_sm_in hb hd hc (fun i hi hne => (h i hi hne).symm)]
  rw [Int32.add_assoc]
  have : f b + (-1) * f b = 0 := by
    rw [show (-1 : Int32) * f b = - f b from by rw [Int32.neg_mul, Int32.one_mul], Int32.add_right_neg]
  rw [this, Int32.add_zero]
