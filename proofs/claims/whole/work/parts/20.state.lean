/-! L3: THE PURE SIDE. The hotel's state as numbers, told once; how the class holds it, how the reference holds it -/
theorem pp_bd {β γ : Type} (a : β) (M : mm_M) (f : β → mm_M → Option γ) : mm_bd (some (a, M)) f = f a M := rfl
theorem pp_let {β γ : Type} (a : β) (f : β → Option γ) : mm_let a f = f a := rfl
theorem pp_jn {β γ : Type} (a : β) (f : β → γ) : mm_jn a f = f a := rfl
theorem pp_bd_eq {β γ : Type} {x : Option (β × mm_M)} {a : β} {M : mm_M} (h : x = some (a, M)) (f : β → mm_M → Option γ) : mm_bd x f = f a M := by rw [h]; rfl
theorem pp_in {k n : Nat} (h : k < n) (hn : n < 2 ^ 31) : mm_in (nI k) n = true := by
  simp only [mm_in, Bool.not_eq_true', Bool.or_eq_false_iff, decide_eq_false_iff_not]
  exact ⟨nI_pos (by omega), by rw [nI_clamp (by omega)]; omega⟩
theorem pp_inv {i : Int32} {n : Nat} (h : mm_in i n = true) (hn : n < 2 ^ 31) : ∃ k : Nat, k < n ∧ i = nI k := vp_in_of (mm_in_vp h) hn
/-- whole numbers of 32 bits as whole numbers -/
theorem ii_lt (a b : Int32) : a < b ↔ a.toInt < b.toInt := Int32.lt_iff_toInt_lt
theorem ii_le (a b : Int32) : a ≤ b ↔ a.toInt ≤ b.toInt := Int32.le_iff_toInt_le
theorem ii_eq (a b : Int32) : a = b ↔ a.toInt = b.toInt := Int32.toInt_inj.symm
/-- a number between 0 and a bound is a natural one -/
theorem ii_nat {v : Int32} {n : Nat} (h0 : 0 ≤ v.toInt) (h : v.toInt < n) (hn : n ≤ 2 ^ 31) : ∃ k : Nat, k < n ∧ v = nI k := by
  refine ⟨v.toInt.toNat, by omega, ?_⟩
  rw [ii_eq, nI_toInt (by omega)]
  omega
abbrev ss_S : Type := (Nat → Int32) × (Nat → Nat → Int32)
/-- scalars: 0 bytes of the tape, 1 told days, 2 rooms, 3 water, 4 comes, 5 stays, 6 x, 7 kept, 8 kept stays, 9 kept x, 10 clauses -/
def ss_so : Nat → Nat × Nat
  | 0 => (1, 1) | 1 => (4, 3) | 2 => (22, 1) | 3 => (22, 5) | 4 => (22, 6) | 5 => (27, 0) | 6 => (27, 5) | 7 => (0, 5) | 8 => (32, 0) | 9 => (32, 5) | _ => (37, 7)
def ss_ro : Nat → Nat × Nat
  | 0 => (97, 1) | 1 => (97, 6) | 2 => (97, 9) | 3 => (97, 10) | 4 => (97, 11) | 5 => (97, 12) | 6 => (97, 13) | 7 => (97, 61) | 8 => (97, 62) | 9 => (97, 63) | _ => (97, 26)
/-- rows: 0 the tape, 1 days (72 each), 2 floors, 3 most, 4 pence, 5 pipes, 6 rooms, 7 days, 8 prices, 9 shifts of stays, 10 to 13 these as they were kept -/
def ss_len : Nat → Nat
  | 0 => 200 | 1 => 864 | 2 => 10 | 3 => 3 | 4 => 3 | 5 => 4 | _ => 10
def ss_ao : Nat → Nat
  | 0 => 2 | 2 => 23 | 3 => 24 | 4 => 25 | 5 => 26 | 6 => 28 | 7 => 29 | 8 => 30 | 9 => 31 | 10 => 33 | 11 => 34 | 12 => 35 | _ => 36
def ss_ha (a j : Nat) : Nat × Nat := if a = 1 then (6 + j / 72, j % 72) else (ss_ao a, j)
def ss_ra : Nat → Nat
  | 0 => 98 | 1 => 99 | 2 => 101 | 3 => 102 | 4 => 103 | 5 => 104 | 6 => 105 | 7 => 106 | 8 => 107 | 9 => 108 | 10 => 136 | 11 => 137 | 12 => 138 | _ => 139
/-- what the reference's tape holds of a byte -/
def ss_rv (a : Nat) (v : Int32) : Int32 := if a = 0 then v.toInt8.toInt32 else v
/-- what the class holds of a number: the x that was kept is 1 as long as nothing was kept -/
def ss_sk (S : ss_S) (k : Nat) : Int32 := if k = 9 then (if S.1 7 = 0 then 1 else S.1 9) else S.1 k
def ss_RH (S : ss_S) (M : mm_M) : Prop := (∀ k, k < 11 → M.1 (ss_so k).1 (ss_so k).2 = ss_sk S k) ∧ ∀ a, a < 14 → ∀ j, j < ss_len a → M.2.1 (ss_ha a j).1 (ss_ha a j).2 = S.2 a j
def ss_RR (S : ss_S) (M : mm_M) : Prop := (∀ k, k < 11 → M.1 (ss_ro k).1 (ss_ro k).2 = S.1 k) ∧ ∀ a, a < 14 → ∀ j, j < ss_len a → M.2.1 (ss_ra a) j = ss_rv a (S.2 a j)
def ss_s (S : ss_S) (k : Nat) (v : Int32) : ss_S := (fun i => if i = k then v else S.1 i, S.2)
def ss_a (S : ss_S) (a j : Nat) (v : Int32) : ss_S := (S.1, fun i q => if i = a ∧ q = j then v else S.2 i q)
theorem ss_so_inj : ∀ a, a < 11 → ∀ b, b < 11 → ss_so a = ss_so b → a = b := by decide
theorem ss_ro_inj : ∀ a, a < 11 → ∀ b, b < 11 → ss_ro a = ss_ro b → a = b := by decide
theorem ss_ra_inj : ∀ a, a < 14 → ∀ b, b < 14 → ss_ra a = ss_ra b → a = b := by decide
theorem ss_ao_inj : ∀ a, a < 14 → a ≠ 1 → ∀ b, b < 14 → b ≠ 1 → ss_ao a = ss_ao b → a = b := by decide
theorem ss_ao_far : ∀ a, a < 14 → a ≠ 1 → ss_ao a < 6 ∨ 18 ≤ ss_ao a := by decide
theorem ss_ha_inj {a b i j : Nat} (ha : a < 14) (hb : b < 14) (hi : i < ss_len a) (hj : j < ss_len b) (h : ss_ha a i = ss_ha b j) : a = b ∧ i = j := by
  unfold ss_ha at h
  by_cases h1 : a = 1
  · subst h1
    have hi : i < 864 := hi
    rw [if_pos rfl] at h
    by_cases h2 : b = 1
    · subst h2
      have hj : j < 864 := hj
      rw [if_pos rfl, Prod.mk.injEq] at h
      omega
    · rw [if_neg h2, Prod.mk.injEq] at h
      have := ss_ao_far b hb h2
      omega
  · rw [if_neg h1] at h
    by_cases h2 : b = 1
    · subst h2
      have hj : j < 864 := hj
      rw [if_pos rfl, Prod.mk.injEq] at h
      have := ss_ao_far a ha h1
      omega
    · rw [if_neg h2, Prod.mk.injEq] at h
      exact ⟨ss_ao_inj a ha h1 b hb h2 h.1, h.2⟩
/-- the class's scalar k is set -/
theorem ss_sk_s {S : ss_S} {k i : Nat} {v : Int32} (h7 : k ≠ 7) (h9 : k ≠ 9) : ss_sk (ss_s S k v) i = if i = k then v else ss_sk S i := by
  show (if i = 9 then (if (if 7 = k then v else S.1 7) = 0 then 1 else (if 9 = k then v else S.1 9)) else (if i = k then v else S.1 i)) = if i = k then v else (if i = 9 then (if S.1 7 = 0 then 1 else S.1 9) else S.1 i)
  rw [if_neg (show ¬ 7 = k from fun e => h7 e.symm), if_neg (show ¬ 9 = k from fun e => h9 e.symm)]
  by_cases e : i = k
  · subst e
    rw [if_neg h9, if_pos rfl, if_pos rfl]
  · rw [if_neg e, if_neg e]
theorem ss_RH.s {S : ss_S} {M : mm_M} (h : ss_RH S M) (k : Nat) (hk : k < 11 ∧ k ≠ 7 ∧ k ≠ 9) {o q : Nat} (ho : ss_so k = (o, q)) (v : Int32) : ss_RH (ss_s S k v) (mm_setI M o q v) := by
  refine ⟨fun i hi => ?_, fun a ha j hj => h.2 a ha j hj⟩
  rw [ss_sk_s hk.2.1 hk.2.2]
  show (if (ss_so i).1 = o ∧ (ss_so i).2 = q then v else M.1 (ss_so i).1 (ss_so i).2) = if i = k then v else ss_sk S i
  by_cases hik : i = k
  · subst hik
    rw [ho, if_pos ⟨rfl, rfl⟩, if_pos rfl]
  · rw [if_neg hik, if_neg, h.1 i hi]
    rintro ⟨e1, e2⟩
    exact hik (ss_so_inj i hi k hk.1 (by rw [ho]; exact Prod.ext e1 e2))
theorem ss_RR.s {S : ss_S} {M : mm_M} (h : ss_RR S M) (k : Nat) (hk : k < 11) {o q : Nat} (ho : ss_ro k = (o, q)) (v : Int32) : ss_RR (ss_s S k v) (mm_setI M o q v) := by
  refine ⟨fun i hi => ?_, fun a ha j hj => h.2 a ha j hj⟩
  show (if (ss_ro i).1 = o ∧ (ss_ro i).2 = q then v else M.1 (ss_ro i).1 (ss_ro i).2) = if i = k then v else S.1 i
  by_cases hik : i = k
  · subst hik
    rw [ho, if_pos ⟨rfl, rfl⟩, if_pos rfl]
  · rw [if_neg hik, if_neg, h.1 i hi]
    rintro ⟨e1, e2⟩
    exact hik (ss_ro_inj i hi k hk (by rw [ho]; exact Prod.ext e1 e2))
theorem ss_RH.a {S : ss_S} {M : mm_M} (h : ss_RH S M) (a : Nat) (ha : a < 14) {j : Nat} (hj : j < ss_len a) {o q : Nat} (ho : ss_ha a j = (o, q)) (v : Int32) : ss_RH (ss_a S a j v) (mm_setA M o q v) := by
  refine ⟨fun i hi => h.1 i hi, fun b hb i hi => ?_⟩
  show (if (ss_ha b i).1 = o ∧ (ss_ha b i).2 = q then v else M.2.1 (ss_ha b i).1 (ss_ha b i).2) = if b = a ∧ i = j then v else S.2 b i
  by_cases hc : b = a ∧ i = j
  · obtain ⟨rfl, rfl⟩ := hc
    rw [ho, if_pos ⟨rfl, rfl⟩, if_pos ⟨rfl, rfl⟩]
  · rw [if_neg hc, if_neg, h.2 b hb i hi]
    rintro ⟨e1, e2⟩
    exact hc (ss_ha_inj hb ha hi hj (by rw [ho]; exact Prod.ext e1 e2))
theorem ss_RR.a {S : ss_S} {M : mm_M} (h : ss_RR S M) (a : Nat) (ha : a < 14) {j : Nat} {o : Nat} (ho : ss_ra a = o) {v w : Int32} (hw : ss_rv a v = w) : ss_RR (ss_a S a j v) (mm_setA M o j w) := by
  refine ⟨fun i hi => h.1 i hi, fun b hb i hi => ?_⟩
  show (if ss_ra b = o ∧ i = j then w else M.2.1 (ss_ra b) i) = ss_rv b (if b = a ∧ i = j then v else S.2 b i)
  by_cases hc : b = a ∧ i = j
  · obtain ⟨rfl, rfl⟩ := hc
    rw [if_pos ⟨ho, rfl⟩, if_pos ⟨rfl, rfl⟩, hw]
  · rw [if_neg hc, if_neg, h.2 b hb i hi]
    rintro ⟨e1, e2⟩
    exact hc ⟨ss_ra_inj b hb a ha (by rw [e1, ho]), e2⟩
/-- nothing but cells from lo to hi has changed -/
def ss_m (lo hi : Nat) (M M1 : mm_M) : Prop := ∀ o, (o < lo ∨ hi ≤ o) → M1.1 o = M.1 o ∧ M1.2.1 o = M.2.1 o ∧ M1.2.2 o = M.2.2 o
theorem ss_m.rf {lo hi : Nat} {M : mm_M} : ss_m lo hi M M := fun _ _ => ⟨rfl, rfl, rfl⟩
theorem ss_m.tr {lo hi : Nat} {M M1 M2 : mm_M} (h1 : ss_m lo hi M M1) (h2 : ss_m lo hi M1 M2) : ss_m lo hi M M2 := fun o h => ⟨(h2 o h).1.trans (h1 o h).1, (h2 o h).2.1.trans (h1 o h).2.1, (h2 o h).2.2.trans (h1 o h).2.2⟩
theorem ss_m.s {lo hi o k : Nat} {v : Int32} {M M1 : mm_M} (h : ss_m lo hi M M1) (ho : lo ≤ o ∧ o < hi) : ss_m lo hi M (mm_setI M1 o k v) := fun i hi2 => ⟨by
  rw [← (h i hi2).1]
  funext q
  show (if i = o ∧ q = k then v else M1.1 i q) = _
  rw [if_neg (fun e => by omega)], (h i hi2).2.1, (h i hi2).2.2⟩
theorem ss_m.a {lo hi o k : Nat} {v : Int32} {M M1 : mm_M} (h : ss_m lo hi M M1) (ho : lo ≤ o ∧ o < hi) : ss_m lo hi M (mm_setA M1 o k v) := fun i hi2 => ⟨(h i hi2).1, by
  rw [← (h i hi2).2.1]
  funext q
  show (if i = o ∧ q = k then v else M1.2.1 i q) = _
  rw [if_neg (fun e => by omega)], (h i hi2).2.2⟩
theorem ss_m.r {lo hi o : Nat} {f : Nat → Int32} {M M1 : mm_M} (h : ss_m lo hi M M1) (ho : lo ≤ o ∧ o < hi) : ss_m lo hi M (mm_setR M1 o f) := fun i hi2 => ⟨(h i hi2).1, by
  rw [← (h i hi2).2.1]
  funext q
  show (if i = o then f q else M1.2.1 i q) = _
  rw [if_neg (fun e => by omega)], (h i hi2).2.2⟩
theorem ss_so_lt : ∀ k, k < 11 → (ss_so k).1 < 97 := by decide
theorem ss_ro_ge : ∀ k, k < 11 → 97 ≤ (ss_ro k).1 := by decide
theorem ss_ra_ge : ∀ a, a < 14 → 97 ≤ ss_ra a := by decide
theorem ss_ao_lt : ∀ a, a < 14 → ss_ao a < 97 := by decide
theorem ss_ha_lt {a j : Nat} (ha : a < 14) (hj : j < ss_len a) : (ss_ha a j).1 < 97 := by
  unfold ss_ha
  by_cases h1 : a = 1
  · subst h1
    have hj : j < 864 := hj
    rw [if_pos rfl]
    show 6 + j / 72 < 97
    omega
  · rw [if_neg h1]
    exact ss_ao_lt a ha
theorem ss_RH.m {S : ss_S} {M M1 : mm_M} (h : ss_RH S M) (hm : ss_m 97 140 M M1) : ss_RH S M1 := by
  refine ⟨fun k hk => ?_, fun a ha j hj => ?_⟩
  · rw [(hm _ (Or.inl (ss_so_lt k hk))).1]; exact h.1 k hk
  · rw [(hm _ (Or.inl (ss_ha_lt ha hj))).2.1]; exact h.2 a ha j hj
theorem ss_RR.m {S : ss_S} {M M1 : mm_M} (h : ss_RR S M) (hm : ss_m 0 97 M M1) : ss_RR S M1 := by
  refine ⟨fun k hk => ?_, fun a ha j hj => ?_⟩
  · rw [(hm _ (Or.inr (ss_ro_ge k hk))).1]; exact h.1 k hk
  · rw [(hm _ (Or.inr (ss_ra_ge a ha))).2.1]; exact h.2 a ha j hj
/-- cells that hold nothing of the state -/
theorem ss_RH.sx {S : ss_S} {M : mm_M} (h : ss_RH S M) {o q : Nat} {v : Int32} (ho : ∀ k, k < 11 → ss_so k ≠ (o, q)) : ss_RH S (mm_setI M o q v) := by
  refine ⟨fun i hi => ?_, fun a ha j hj => h.2 a ha j hj⟩
  show (if (ss_so i).1 = o ∧ (ss_so i).2 = q then v else M.1 (ss_so i).1 (ss_so i).2) = ss_sk S i
  rw [if_neg (fun e => ho i hi (Prod.ext e.1 e.2)), h.1 i hi]
theorem ss_RR.sx {S : ss_S} {M : mm_M} (h : ss_RR S M) {o q : Nat} {v : Int32} (ho : ∀ k, k < 11 → ss_ro k ≠ (o, q)) : ss_RR S (mm_setI M o q v) := by
  refine ⟨fun i hi => ?_, fun a ha j hj => h.2 a ha j hj⟩
  show (if (ss_ro i).1 = o ∧ (ss_ro i).2 = q then v else M.1 (ss_ro i).1 (ss_ro i).2) = S.1 i
  rw [if_neg (fun e => ho i hi (Prod.ext e.1 e.2)), h.1 i hi]
/-- how large the numbers may be -/
def ss_hs : Nat → Int
  | 0 => 200 | 1 => 4095 | 2 => 10 | 3 => 9999 | 4 => 99 | 5 => 1023 | 6 => 65535 | 7 => 1 | 8 => 1023 | 9 => 65535 | _ => 12
def ss_lo : Nat → Int
  | 9 => -3 | 13 => -3 | _ => 0
def ss_hi : Nat → Int
  | 0 => 255 | 1 => 99 | 2 => 3 | 3 => 999 | 4 => 999 | 5 => 999 | 6 => 9 | 7 => 11 | 8 => 999 | 9 => 3 | 10 => 9 | 11 => 11 | 12 => 999 | _ => 3
def ss_Ok (S : ss_S) : Prop := (∀ k, k < 11 → 0 ≤ (S.1 k).toInt ∧ (S.1 k).toInt ≤ ss_hs k) ∧ ∀ a, a < 14 → ∀ j, j < ss_len a → ss_lo a ≤ (S.2 a j).toInt ∧ (S.2 a j).toInt ≤ ss_hi a
theorem ss_Ok.s {S : ss_S} (h : ss_Ok S) (k : Nat) {v : Int32} (hv : 0 ≤ v.toInt ∧ v.toInt ≤ ss_hs k) : ss_Ok (ss_s S k v) := by
  refine ⟨fun i hi => ?_, h.2⟩
  show 0 ≤ (if i = k then v else S.1 i).toInt ∧ (if i = k then v else S.1 i).toInt ≤ ss_hs i
  by_cases e : i = k
  · subst e; rw [if_pos rfl]; exact hv
  · rw [if_neg e]; exact h.1 i hi
theorem ss_Ok.a {S : ss_S} (h : ss_Ok S) (a j : Nat) {v : Int32} (hv : ss_lo a ≤ v.toInt ∧ v.toInt ≤ ss_hi a) : ss_Ok (ss_a S a j v) := by
  refine ⟨h.1, fun b hb i hi => ?_⟩
  show ss_lo b ≤ (if b = a ∧ i = j then v else S.2 b i).toInt ∧ (if b = a ∧ i = j then v else S.2 b i).toInt ≤ ss_hi b
  by_cases e : b = a ∧ i = j
  · obtain ⟨rfl, rfl⟩ := e; rw [if_pos ⟨rfl, rfl⟩]; exact hv
  · rw [if_neg e]; exact h.2 b hb i hi
/-- a scalar as a natural number -/
theorem ss_Ok.n {S : ss_S} (h : ss_Ok S) (k : Nat) (hk : k < 11) : ∃ n : Nat, (n : Int) ≤ ss_hs k ∧ S.1 k = nI n := by
  have h1 := h.1 k hk
  have h2 : ss_hs k < 2 ^ 31 := by
    have : ∀ k, k < 11 → ss_hs k < 2 ^ 31 := by decide
    exact this k hk
  obtain ⟨n, hn, e⟩ := ii_nat (v := S.1 k) (n := (ss_hs k).toNat + 1) h1.1 (by omega) (by omega)
  exact ⟨n, by omega, e⟩
theorem ss_Ok.m {S : ss_S} (h : ss_Ok S) (a : Nat) (ha : a < 14) (hl : ss_lo a = 0) {j : Nat} (hj : j < ss_len a) : ∃ n : Nat, (n : Int) ≤ ss_hi a ∧ S.2 a j = nI n := by
  have h1 := h.2 a ha j hj
  have h2 : ss_hi a < 2 ^ 31 := by
    have : ∀ a, a < 14 → ss_hi a < 2 ^ 31 := by decide
    exact this a ha
  obtain ⟨n, hn, e⟩ := ii_nat (v := S.2 a j) (n := (ss_hi a).toNat + 1) (by omega) (by omega) (by omega)
  exact ⟨n, by omega, e⟩
