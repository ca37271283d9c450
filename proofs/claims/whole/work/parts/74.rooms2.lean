/-! rooms: what a floor's rooms have in common -/
section ROOMS2
variable {S : ss_S} {u s : Nat}
def rT (S : ss_S) (R : Nat → Int32) : ss_S := (S.1, fun a j => if a = 6 then R j else S.2 a j)
theorem rT_a (R : Nat → Int32) (b : Nat) (v : Int32) : ss_a (rT S R) 6 b v = rT S (up R b v) := by
  refine Prod.ext rfl ?_
  funext a j
  show (if a = 6 ∧ j = b then v else if a = 6 then R j else S.2 a j) = if a = 6 then (if j = b then v else R j) else S.2 a j
  by_cases h : a = 6
  · rw [if_pos h, if_pos h]
    by_cases e : j = b
    · rw [if_pos ⟨h, e⟩, if_pos e]
    · rw [if_neg (fun z => e z.2), if_neg e]
  · rw [if_neg h, if_neg h, if_neg (fun z => h z.1)]
theorem rT_6 (R : Nat → Int32) (j : Nat) : (rT S R).2 6 j = R j := by
  show (if 6 = 6 then R j else S.2 6 j) = R j
  rw [if_pos rfl]
theorem rT_n {R : Nat → Int32} {a j : Nat} (h : a ≠ 6) : (rT S R).2 a j = S.2 a j := if_neg h
theorem rT_id : rT S (S.2 6) = S := by
  refine Prod.ext rfl ?_
  funext a j
  show (if a = 6 then S.2 6 j else S.2 a j) = S.2 a j
  by_cases h : a = 6
  · rw [if_pos h, h]
  · rw [if_neg h]
theorem rT_want (R : Nat → Int32) (x kd h : Nat) : pp_want (rT S R) x kd h = pp_want S x kd h := by
  have e7 : (rT S R).2 7 x = S.2 7 x := rT_n (by decide)
  have e1 : ∀ j, (rT S R).2 1 j = S.2 1 j := fun j => rT_n (by decide)
  have e9 : (rT S R).2 9 x = S.2 9 x := rT_n (by decide)
  unfold pp_want pp_dy pp_sf
  rw [e7, e1, e9]
theorem rT_fl (R : Nat → Int32) (x : Nat) : pp_fl (rT S R) x = S.2 2 (R x).toInt.toNat := by
  have e2 : ∀ j, (rT S R).2 2 j = S.2 2 j := fun j => rT_n (by decide)
  unfold pp_fl pp_rm
  rw [rT_6, e2]
theorem rT_can {sm fr : Nat → Nat → Int32} {pl : Bool} (R : Nat → Int32) : ∀ n h w, pp_can (rT S R) sm fr pl n h w = pp_can S sm fr pl n h w := by
  intro n
  induction n with
  | zero => intro h w; rfl
  | succ n ih =>
    intro h w
    rw [pp_can, pp_can]
    simp only [ih]
    rfl
theorem rT_fit {R1 R2 : Nat → Int32} {t : Nat} (h : ∀ x, x < 10 → t.testBit x = true → pp_fl (rT S R1) x = pp_fl (rT S R2) x) : pp_fit (rT S R1) t true = pp_fit (rT S R2) t true := by
  unfold pp_fit
  have e1 : pp_all (rT S R1) t = pp_all (rT S R2) t := by
    funext kd hr
    exact pp_sm_ext (fun b hb => by rw [rT_want, rT_want])
  have e2 : pp_rain (rT S R1) t = pp_rain (rT S R2) t := by
    funext f hr
    exact pp_sm_ext (fun b hb => by
      cases hq : t.testBit b with
      | false => rw [Bool.false_and, Bool.false_and, if_neg (show ¬ false = true by decide), if_neg (show ¬ false = true by decide)]
      | true => rw [h b hb hq, rT_want, rT_want])
  rw [e1, e2, rT_can, rT_can, show (rT S R1).1 = S.1 from rfl, show (rT S R2).1 = S.1 from rfl]
def rok (R : Nat → Int32) : Prop := ∀ x, x < 10 → ∃ y : Nat, y < 10 ∧ R x = nI y
theorem rok.up {R : Nat → Int32} (h : rok R) {b y : Nat} (hy : y < 10) : rok (up R b (nI y)) := fun x hx => by
  by_cases e : x = b
  · exact ⟨y, hy, by rw [e, up_at]⟩
  · rw [up_ne e]; exact h x hx
theorem rT_ok (ho : ss_Ok S) {R : Nat → Int32} (h : rok R) : ss_Ok (rT S R) := by
  refine ⟨ho.1, fun a ha j hj => ?_⟩
  by_cases e : a = 6
  · subst e
    obtain ⟨y, hy, e⟩ := h j hj
    rw [rT_6, e, nI_toInt (by omega)]
    show (0 : Int) ≤ _ ∧ _ ≤ (9 : Int)
    omega
  · rw [rT_n e]; exact ho.2 a ha j hj
theorem rfl_e (ho : ss_Ok S) {y : Nat} (hy : y < 10) : ∃ f : Nat, f < 4 ∧ S.2 2 y = nI f := by
  obtain ⟨n, hn, e⟩ := ho.m 2 (by decide) rfl (j := y) hy
  have hn : (n : Int) ≤ 3 := hn
  exact ⟨n, by omega, e⟩
theorem rT_flu {R : Nat → Int32} {b y x : Nat} (hy : y < 10) : pp_fl (rT S (up R b (nI y))) x = if x = b then S.2 2 y else pp_fl (rT S R) x := by
  rw [rT_fl, rT_fl]
  by_cases e : x = b
  · rw [if_pos e, e, up_at, nI_toInt (by omega)]; rfl
  · rw [if_neg e, up_ne e]
/-- so many rooms of a floor -/
def fcn (S : ss_S) (f : Nat) (v : Int32) : Nat → Nat
  | 0 => 0
  | n + 1 => fcn S f v n + if f.testBit n = true ∧ S.2 2 n = v then 1 else 0
theorem fcn_in {f : Nat} {v : Int32} : ∀ n, 0 < fcn S f v n → ∃ x, x < n ∧ f.testBit x = true ∧ S.2 2 x = v := by
  intro n
  induction n with
  | zero => intro h; have : 0 < 0 := h; omega
  | succ n ih =>
    intro h
    rw [fcn] at h
    by_cases hc : f.testBit n = true ∧ S.2 2 n = v
    · exact ⟨n, by omega, hc.1, hc.2⟩
    · rw [if_neg hc] at h
      obtain ⟨x, a, b⟩ := ih (by omega)
      exact ⟨x, by omega, b⟩
theorem fcn_del {f x : Nat} {v : Int32} (hx : x < 10) (h : f.testBit x = true) : ∀ n, n ≤ 10 → fcn S (pp_delN f x) v n + (if x < n ∧ S.2 2 x = v then 1 else 0) = fcn S f v n := by
  intro n
  induction n with
  | zero => intro _; rw [if_neg (fun z => by omega)]; rfl
  | succ n ih =>
    intro hn
    have ih := ih (by omega)
    rw [fcn, fcn, pp_delN_tb (by omega) (by omega)]
    by_cases e : n = x
    · subst e
      rw [if_neg (show ¬ (n < n ∧ S.2 2 n = v) from fun z => by omega)] at ih
      rw [h, decide_eq_true rfl, if_neg (show ¬ ((true && !true) = true ∧ S.2 2 n = v) from fun z => by simp at z)]
      by_cases hv : S.2 2 n = v
      · rw [if_pos ⟨by omega, hv⟩, if_pos ⟨rfl, hv⟩]; omega
      · rw [if_neg (fun z => hv z.2), if_neg (fun z => hv z.2)]; omega
    · rw [decide_eq_false e, Bool.not_false, Bool.and_true, show (if x < n + 1 ∧ S.2 2 x = v then 1 else 0) = (if x < n ∧ S.2 2 x = v then 1 else 0) from by
        by_cases hc : x < n ∧ S.2 2 x = v
        · rw [if_pos hc, if_pos ⟨by omega, hc.2⟩]
        · rw [if_neg hc, if_neg (fun z => hc ⟨by omega, z.2⟩)]]
      omega
theorem fq_some {g : Nat → Option ss_S} {f : Nat} : ∀ q x, (fq g f q x).isSome = true ↔ ∃ y, x ≤ y ∧ y < x + q ∧ f.testBit y = true ∧ (g y).isSome = true := by
  intro q
  induction q with
  | zero => intro x; exact ⟨fun h => (by cases h), fun ⟨y, a, b, _⟩ => by omega⟩
  | succ q ih =>
    intro x
    rw [fq, Option.isSome_or, Bool.or_eq_true, ih]
    constructor
    · rintro (h | ⟨y, a, b, c⟩)
      · by_cases hf : f.testBit x = true
        · rw [if_pos hf] at h
          exact ⟨x, Nat.le_refl _, by omega, hf, h⟩
        · rw [if_neg hf] at h; cases h
      · exact ⟨y, by omega, by omega, c⟩
    · rintro ⟨y, a, b, c, d⟩
      by_cases e : y = x
      · subst e
        exact Or.inl (by rw [if_pos c]; exact d)
      · exact Or.inr ⟨y, by omega, by omega, c, d⟩
/-- only how many rooms there are on each floor counts -/
theorem FX_fl (ho : ss_Ok S) : ∀ n b R1 R2 f1 f2, b + n = 10 → (∀ x, x < 10 → pp_fl (rT S R1) x = pp_fl (rT S R2) x) → (∀ fl : Nat, fl < 4 → fcn S f1 (nI fl) 10 = fcn S f2 (nI fl) 10) → (FX u s n b (rT S R1) f1).isSome = true → (FX u s n b (rT S R2) f2).isSome = true := by
  intro n
  induction n with
  | zero =>
    intro b R1 R2 f1 f2 _ hR _ h
    rw [FX] at h ⊢
    unfold fz at h ⊢
    rw [rT_fit (fun x hx _ => hR x hx)] at h
    by_cases hc : (pp_fit (rT S R2) s true).isNone = true
    · rw [if_pos hc]; rfl
    · rw [if_neg hc] at h; cases h
  | succ n ih =>
    intro b R1 R2 f1 f2 hb hR hf h
    rw [FX] at h ⊢
    by_cases hm : u.testBit b = true
    · rw [if_pos hm] at h ⊢
      obtain ⟨x, _, hx, hfx, hgx⟩ := (fq_some 10 0).mp h
      have hx10 : x < 10 := by omega
      obtain ⟨fl, hfl, efl⟩ := rfl_e ho hx10
      have d1 := fcn_del (S := S) (v := nI fl) hx10 hfx 10 (Nat.le_refl _)
      rw [if_pos ⟨hx10, efl⟩] at d1
      obtain ⟨y, hy, hfy, ey⟩ := fcn_in (S := S) (f := f2) (v := nI fl) 10 (by rw [← hf fl hfl]; omega)
      refine (fq_some 10 0).mpr ⟨y, Nat.zero_le _, by omega, hfy, ?_⟩
      rw [rT_a] at hgx ⊢
      refine ih (b + 1) _ _ _ _ (by omega) (fun z hz => ?_) (fun f hf4 => ?_) hgx
      · rw [rT_flu hx10, rT_flu hy, efl, ey, hR z hz]
      · have e1 := fcn_del (S := S) (v := nI f) hx10 hfx 10 (Nat.le_refl _)
        have e2 := fcn_del (S := S) (v := nI f) hy hfy 10 (Nat.le_refl _)
        rw [efl] at e1
        rw [ey] at e2
        have e3 := hf f hf4
        have e4 : (if x < 10 ∧ nI fl = nI f then 1 else 0) = (if y < 10 ∧ nI fl = nI f then 1 else 0) := by
          by_cases hc : nI fl = nI f
          · rw [if_pos ⟨hx10, hc⟩, if_pos ⟨hy, hc⟩]
          · rw [if_neg (fun z => hc z.2), if_neg (fun z => hc z.2)]
        omega
    · rw [if_neg hm] at h ⊢
      exact ih (b + 1) R1 R2 f1 f2 (by omega) hR hf h
/-- where one is found -/
theorem FX_leaf (ho : ss_Ok S) : ∀ n b R f T', b + n = 10 → rok R → FX u s n b (rT S R) f = some T' → ∃ R', T' = rT S R' ∧ rok R' ∧ (∀ x, x < b ∨ ¬ u.testBit x = true → R' x = R x) ∧ pp_fit T' s true = none := by
  intro n
  induction n with
  | zero =>
    intro b R f T' _ hr h
    rw [FX] at h
    unfold fz at h
    by_cases hc : (pp_fit (rT S R) s true).isNone = true
    · rw [if_pos hc] at h
      cases h
      refine ⟨R, rfl, hr, fun _ _ => rfl, ?_⟩
      cases hq : pp_fit (rT S R) s true with
      | none => rfl
      | some z => rw [hq] at hc; cases hc
    · rw [if_neg hc] at h; cases h
  | succ n ih =>
    intro b R f T' hb hr h
    rw [FX] at h
    by_cases hm : u.testBit b = true
    · rw [if_pos hm] at h
      have key : ∀ q x, x + q = 10 → fq (fun x => FX u s n (b + 1) (ss_a (rT S R) 6 b (nI x)) (pp_delN f x)) f q x = some T' → ∃ y, y < 10 ∧ FX u s n (b + 1) (rT S (up R b (nI y))) (pp_delN f y) = some T' := by
        intro q
        induction q with
        | zero => intro x _ h; cases h
        | succ q ihq =>
          intro x hx h
          rw [fq] at h
          by_cases hf : f.testBit x = true
          · rw [if_pos hf] at h
            cases hg : FX u s n (b + 1) (ss_a (rT S R) 6 b (nI x)) (pp_delN f x) with
            | none => rw [hg, Option.none_or] at h; exact ihq (x + 1) (by omega) h
            | some z =>
              rw [hg, Option.some_or] at h
              rw [rT_a] at hg
              exact ⟨x, by omega, hg.trans h⟩
          · rw [if_neg hf, Option.none_or] at h
            exact ihq (x + 1) (by omega) h
      obtain ⟨y, hy, hg⟩ := key 10 0 rfl h
      obtain ⟨R', a1, a2, a3, a4⟩ := ih (b + 1) _ _ T' (by omega) (hr.up hy) hg
      refine ⟨R', a1, a2, fun x hx => ?_, a4⟩
      have hne : x ≠ b := fun e => by
        rcases hx with z | z
        · omega
        · rw [e] at z; exact z hm
      rw [a3 x (hx.imp (fun z => by omega) id), up_ne hne]
    · rw [if_neg hm] at h
      obtain ⟨R', a1, a2, a3, a4⟩ := ih (b + 1) R f T' (by omega) hr h
      exact ⟨R', a1, a2, fun x hx => a3 x (hx.imp (fun z => by omega) id), a4⟩
end ROOMS2
