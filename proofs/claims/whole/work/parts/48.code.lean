/-! the law: its code, as the class and as the reference hold it -/
section LAWCODE
variable {S : ss_S} {n p o c : Nat} {C C1 C2 : Nat → Nat × Nat} {M M1 M2 : mm_M} {ws : List Nat}
def cs (C : Nat → Nat × Nat) (c : Nat) (x : Nat × Nat) : Nat → Nat × Nat := fun i => if i = c then x else C i
theorem cs_at (C : Nat → Nat × Nat) (c : Nat) (x : Nat × Nat) : cs C c x c = x := if_pos rfl
theorem cs_ne {i : Nat} {x : Nat × Nat} (h : i ≠ c) : cs C c x i = C i := if_neg h
def dp (C : Nat → Nat × Nat) : Nat → Nat
  | 0 => 0
  | i + 1 => if (C i).1 ≤ 1 then dp C i + 1 else if (C i).1 = 10 then dp C i else dp C i - 1
theorem dp_ext (h : ∀ i, i < c → (C1 i).1 = (C i).1) : ∀ i, i ≤ c → dp C1 i = dp C i := by
  intro i
  induction i with
  | zero => intro _; rfl
  | succ i ih => intro hi; rw [dp, dp, ih (by omega), h i (by omega)]
theorem dp_le (C : Nat → Nat × Nat) : ∀ i, dp C i ≤ i := by
  intro i
  induction i with
  | zero => exact Nat.le_refl _
  | succ i ih =>
    rw [dp]
    split
    · omega
    · split <;> omega
/-- the step i is good: b is what lies below, e the end -/
def wi (C : Nat → Nat × Nat) (b e i : Nat) : Prop := (C i).1 ≤ 12 ∧ (C i).2 < 1048576 ∧ ((C i).1 = 1 → (C i).2 < 9) ∧ (2 ≤ (C i).1 → b + 1 ≤ dp C i) ∧ (2 ≤ (C i).1 → (C i).1 ≤ 9 → b + 2 ≤ dp C i) ∧ (11 ≤ (C i).1 → i < (C i).2 ∧ (C i).2 ≤ e ∧ dp C (C i).2 = dp C i)
theorem wi.mv {b b2 e e2 i : Nat} (h : wi C b e i) (hi : i < e) (he : e ≤ e2) (hb : b2 ≤ b) (hx : ∀ i, i < e → C1 i = C i) : wi C1 b2 e2 i := by
  have hd := dp_ext (C := C) (C1 := C1) (c := e) (fun i hi => by rw [hx i hi])
  obtain ⟨a1, a2, a3, a4, a5, a6⟩ := h
  unfold wi
  rw [hx i hi, hd i (by omega)]
  refine ⟨a1, a2, a3, fun q => by have := a4 q; omega, fun q r => by have := a5 q r; omega, fun q => ?_⟩
  obtain ⟨b1, b2, b3⟩ := a6 q
  exact ⟨b1, by omega, by rw [hd _ b2]; exact b3⟩
/-- from c to c1 something was told that comes to one number -/
def ext (C : Nat → Nat × Nat) (c : Nat) (C1 : Nat → Nat × Nat) (c1 : Nat) : Prop := c < c1 ∧ (∀ i, i < c → C1 i = C i) ∧ dp C1 c1 = dp C c + 1 ∧ ∀ i, c ≤ i → i < c1 → wi C1 (dp C c) c1 i
theorem ext_one {op a : Nat} (ho : op ≤ 1) (ha : a < 1048576) (h9 : op = 1 → a < 9) : ext C c (cs C c (op, a)) (c + 1) := by
  have e1 : ∀ i, i < c → cs C c (op, a) i = C i := fun i hi => cs_ne (by omega)
  have e2 : dp (cs C c (op, a)) c = dp C c := dp_ext (c := c) (fun i hi => by rw [e1 i hi]) c (Nat.le_refl _)
  refine ⟨by omega, e1, ?_, fun i h1 h2 => ?_⟩
  · rw [dp, cs_at, if_pos ho, e2]
  · have : i = c := by omega
    subst this
    unfold wi
    rw [cs_at]
    exact ⟨by show op ≤ 12; omega, ha, h9, fun q => by have q : 2 ≤ op := q; omega, fun q => by have q : 2 ≤ op := q; omega, fun q => by have q : 11 ≤ op := q; omega⟩
theorem ext_bin {c1 c2 op : Nat} (h1 : ext C c C1 c1) (h2 : ext C1 c1 C2 c2) (ho : 2 ≤ op ∧ op ≤ 9) : ext C c (cs C2 c2 (op, 0)) (c2 + 1) := by
  obtain ⟨a1, a2, a3, a4⟩ := h1
  obtain ⟨b1, b2, b3, b4⟩ := h2
  have e1 : ∀ i, i < c2 → cs C2 c2 (op, 0) i = C2 i := fun i hi => cs_ne (by omega)
  have e2 : ∀ i, i ≤ c2 → dp (cs C2 c2 (op, 0)) i = dp C2 i := dp_ext (fun i hi => by rw [e1 i hi])
  refine ⟨by omega, fun i hi => by rw [e1 i (by omega), b2 i (by omega), a2 i hi], ?_, fun i h1 h2 => ?_⟩
  · rw [dp, cs_at, if_neg (show ¬ op ≤ 1 by omega), if_neg (show ¬ op = 10 by omega), e2 c2 (Nat.le_refl _)]
    omega
  · by_cases h3 : i < c1
    · exact (a4 i h1 h3).mv h3 (by omega) (Nat.le_refl _) (fun i hi => by rw [e1 i (by omega), b2 i hi])
    · by_cases h4 : i < c2
      · exact (b4 i (by omega) h4).mv h4 (by omega) (by omega) e1
      · have : i = c2 := by omega
        subst this
        unfold wi
        rw [cs_at, e2 i (Nat.le_refl _)]
        exact ⟨by show op ≤ 12; omega, by show 0 < 1048576; decide, fun q => by have q : op = 1 := q; omega, fun q => by omega, fun q r => by omega, fun q => by have q : 11 ≤ op := q; omega⟩
/-- the class -/
def ch : Nat → Nat
  | 0 => 78 | 1 => 76 | 2 => 43 | 3 => 45 | 4 => 42 | 5 => 47 | 6 => 37 | 7 => 60 | 8 => 62 | 9 => 61 | 10 => 33 | 11 => 38 | _ => 124
def ca (C : Nat → Nat × Nat) (i : Nat) : Nat := if 11 ≤ (C i).1 ∧ (C i).2 = 0 then i else (C i).2
def lh (S : ss_S) (n p : Nat) (C : Nat → Nat × Nat) (c : Nat) (M : mm_M) : Prop := tx_H S n p M ∧ M.1 46 2 = nI c ∧ ∀ i, i < c → M.2.1 47 i = nI (ch (C i).1) ∧ M.2.1 48 i = nI (ca C i)
def lf (M M1 : mm_M) : Prop := M1.2.2 = M.2.2 ∧ (∀ o, o ≠ 47 → o ≠ 48 → M1.2.1 o = M.2.1 o) ∧ (∀ o, o ≠ 3 → o ≠ 46 → M1.1 o = M.1 o) ∧ M1.1 46 7 = M.1 46 7
theorem lf.rf : lf M M := ⟨rfl, fun _ _ _ => rfl, fun _ _ _ => rfl, rfl⟩
theorem lf.tr (h : lf M M1) (h2 : lf M1 M2) : lf M M2 := ⟨h2.1.trans h.1, fun o a b => (h2.2.1 o a b).trans (h.2.1 o a b), fun o a b => (h2.2.2.1 o a b).trans (h.2.2.1 o a b), h2.2.2.2.trans h.2.2.2⟩
theorem tf.l (h : tf M M1) : lf M M1 := ⟨by rw [h.1], fun o _ _ => by rw [h.1], fun o a _ => h.2 o a, by rw [h.2 46 (by decide)]⟩
theorem ss_so_46 : ∀ k, k < 11 → (ss_so k).1 ≠ 46 := by decide
theorem lf.RH (h : lf M M1) (hH : ss_RH S M) : ss_RH S M1 := ⟨fun k hk => by rw [h.2.2.1 _ (ss_so_3 k hk) (ss_so_46 k hk)]; exact hH.1 k hk, fun a ha j hj => by
  have := ss_ha_38 ha hj
  rw [h.2.1 _ (by omega) (by omega)]; exact hH.2 a ha j hj⟩
theorem lf.h (h : lf M M1) : ss_h M M1 := ⟨fun o ho => ⟨h.2.2.1 o (by omega) (by omega), h.2.1 o (by omega) (by omega), by rw [h.1]⟩, fun o _ _ => h.2.1 o (by omega) (by omega)⟩
theorem lh.t {q : Nat} (h : lh S n p C c M) (h2 : tx_H S n q M1) (hf : tf M M1) : lh S n q C c M1 := ⟨h2, by rw [hf.2 46 (by decide)]; exact h.2.1, fun i hi => by rw [hf.1]; exact h.2.2 i hi⟩
theorem ca_cs_ne {x : Nat × Nat} {i : Nat} (h : i ≠ c) : ca (cs C c x) i = ca C i := by unfold ca; rw [cs_ne h]
theorem sh_addStep (h : lh S n p C c M) (hc : c < 160) {op a : Nat} {v1 v2 : Int32} (h1 : v1 = nI (ch op)) (h2 : v2 = nI (if 11 ≤ op ∧ a = 0 then c else a)) : ∃ M1, f_Law_addStep_46 v1 v2 M = some ((), M1) ∧ lh S n p (cs C c (op, a)) (c + 1) M1 ∧ lf M M1 := by
  obtain ⟨t, l1, l2⟩ := h
  unfold f_Law_addStep_46
  have e2 : (mm_setA M 47 c v1).1 46 2 = nI c := l1
  have e3 : (mm_setA (mm_setA M 47 c v1) 48 c v2).1 46 2 = nI c := l1
  have hf : lf M (mm_setI (mm_setA (mm_setA M 47 c v1) 48 c v2) 46 2 (nI (c + 1))) := ⟨rfl, fun o a b => (ss_seta_ne b).trans (ss_seta_ne a), fun o a b => by
    funext q
    show (if o = 46 ∧ q = 2 then _ else M.1 o q) = _
    rw [if_neg (fun e => b e.1)], rfl⟩
  rw [l1, if_neg (show ¬ (160 : Int32) ≤ nI c from nI_ge (b := 160) hc (by decide)), show mm_al 47 = 160 from rfl, show mm_al 48 = 160 from rfl, pp_in hc (by decide), if_pos rfl, nI_clamp (by omega), pp_let, e2, pp_in hc (by decide), if_pos rfl, nI_clamp (by omega), pp_let, e3, nI_1, pp_let]
  refine ⟨_, rfl, ⟨⟨hf.RH t.1, t.2⟩, rfl, fun i hi => ?_⟩, hf⟩
  show (if 47 = 48 ∧ i = c then v2 else if 47 = 47 ∧ i = c then v1 else M.2.1 47 i) = _ ∧ (if 48 = 48 ∧ i = c then v2 else if 48 = 47 ∧ i = c then v1 else M.2.1 48 i) = _
  rw [if_neg (show ¬ (47 = 48 ∧ i = c) from fun e => by omega), if_neg (show ¬ (48 = 47 ∧ i = c) from fun e => by omega)]
  by_cases e : i = c
  · subst e
    rw [if_pos ⟨rfl, rfl⟩, if_pos ⟨rfl, rfl⟩]
    unfold ca
    rw [cs_at]
    exact ⟨h1, h2⟩
  · rw [if_neg (fun q => e q.2), if_neg (fun q => e q.2), cs_ne e, ca_cs_ne e]
    exact l2 i (by omega)
theorem sh_mayOpen (ho : ss_Ok S) (hn : n ≤ 200) (hp : p < 300) (h : lh S n p C c M) (hc : o ≤ 6) : (o < 6 → ∃ M1, f_LawReader_mayOpen (nI o) M = some (true, M1) ∧ lh S n (p + 1) C c M1 ∧ lf M M1) ∧ (¬ o < 6 → ∃ M1, f_LawReader_mayOpen (nI o) M = some (false, M1) ∧ M1.1 3 4 = ft 5 p ∧ lf M M1) := by
  unfold f_LawReader_mayOpen
  constructor
  · intro q
    obtain ⟨M1, g1, g2, g3⟩ := sh_step1 ho hn hp h.1
    rw [if_pos (show nI o < 6 from nI_lt (b := 6) q (by decide)), g1, pp_bd]
    exact ⟨M1, rfl, h.t g2 g3, g3.l⟩
  · intro q
    obtain ⟨M1, g1, g2, g3⟩ := sh_fail h.1 5
    rw [if_neg (show ¬ nI o < 6 from nI_nlt (b := 6) (by omega) (by omega)), show f_TextReader_failHere 5 M = _ from g1, pp_bd]
    exact ⟨M1, rfl, g2, g3.l⟩
/-- the reference: what waits, the last first -/
def tk : List Nat → mm_M → Prop
  | [], _ => True
  | x :: ws, M => (M.2.1 110 ws.length = nI x ∧ x < 16777216) ∧ tk ws M
theorem tk.mv (h : tk ws M) (hx : ∀ i, i < ws.length → M1.2.1 110 i = M.2.1 110 i) : tk ws M1 := by
  induction ws with
  | nil => trivial
  | cons x ws ih => exact ⟨⟨by rw [hx _ (by rw [List.length_cons]; omega)]; exact h.1.1, h.1.2⟩, ih h.2 (fun i hi => hx i (by rw [List.length_cons]; omega))⟩
def rg (M M1 : mm_M) : Prop := M1.2.2 = M.2.2 ∧ (∀ o, o ≠ 109 → o ≠ 110 → M1.2.1 o = M.2.1 o) ∧ ∀ o q, ¬ (o = 97 ∧ (2 ≤ q ∧ q ≤ 5 ∨ 22 ≤ q ∧ q ≤ 24)) → M1.1 o q = M.1 o q
theorem rg.rf : rg M M := ⟨rfl, fun _ _ _ => rfl, fun _ _ _ => rfl⟩
theorem rg.tr (h : rg M M1) (h2 : rg M1 M2) : rg M M2 := ⟨h2.1.trans h.1, fun o a b => (h2.2.1 o a b).trans (h.2.1 o a b), fun o q a => (h2.2.2 o q a).trans (h.2.2 o q a)⟩
theorem rg.s (h : rg M M1) {k : Nat} {v : Int32} (hk : 2 ≤ k ∧ k ≤ 5 ∨ 22 ≤ k ∧ k ≤ 24) : rg M (mm_setI M1 97 k v) := ⟨h.1, h.2.1, fun o q ho => by
  rw [← h.2.2 o q ho]
  show (if o = 97 ∧ q = k then v else M1.1 o q) = _
  rw [if_neg (fun e => ho ⟨e.1, by omega⟩)]⟩
theorem rg.a (h : rg M M1) {k x : Nat} {v : Int32} (hx : x = 109 ∨ x = 110) : rg M (mm_setA M1 x k v) := ⟨h.1, fun o a b => (ss_seta_ne (by omega)).trans (h.2.1 o a b), h.2.2⟩
theorem ss_ro_y : ∀ k, k < 11 → ¬ ((ss_ro k).1 = 97 ∧ (2 ≤ (ss_ro k).2 ∧ (ss_ro k).2 ≤ 5 ∨ 22 ≤ (ss_ro k).2 ∧ (ss_ro k).2 ≤ 24)) := by decide
theorem ss_ra_110 : ∀ a, a < 14 → ss_ra a ≠ 109 ∧ ss_ra a ≠ 110 := by decide
theorem rg.RR (h : rg M M1) (hR : ss_RR S M) : ss_RR S M1 := ⟨fun k hk => by rw [h.2.2 _ _ (ss_ro_y k hk)]; exact hR.1 k hk, fun a ha j hj => by rw [h.2.1 _ (ss_ra_110 a ha).1 (ss_ra_110 a ha).2]; exact hR.2 a ha j hj⟩
theorem rg.r (h : rg M M1) : ss_r M M1 := ⟨fun o ho => ⟨by funext q; exact h.2.2 o q (by omega), h.2.1 o (by omega) (by omega), by rw [h.1]⟩, fun o _ _ => h.2.1 o (by omega) (by omega)⟩
theorem rx.g (h : rx M M1) : rg M M1 := ⟨by rw [h.1], fun o _ _ => by rw [h.1], fun o q ho => h.2 o q (fun e => ho ⟨e.1, Or.inl e.2⟩)⟩
def lr (S : ss_S) (n p o : Nat) (ws : List Nat) (C : Nat → Nat × Nat) (c : Nat) (M : mm_M) : Prop := tx_R S n p M ∧ M.1 97 22 = nI o ∧ M.1 97 23 = nI c ∧ (∀ i, i < c → M.2.1 109 i = nI (1048576 * (C i).1 + (C i).2)) ∧ M.1 97 24 = nI ws.length ∧ tk ws M
theorem lr.x {q : Nat} (h : lr S n p o ws C c M) (h2 : tx_R S n q M1) (hf : rx M M1) : lr S n q o ws C c M1 := ⟨h2, by rw [hf.2 _ _ (by omega)]; exact h.2.1, by rw [hf.2 _ _ (by omega)]; exact h.2.2.1, fun i hi => by rw [hf.1]; exact h.2.2.2.1 i hi, by rw [hf.2 _ _ (by omega)]; exact h.2.2.2.2.1, h.2.2.2.2.2.mv (fun i _ => by rw [hf.1])⟩
theorem lr.to {q : Nat} (h : lr S n p o ws C c M) : lr S n q o ws C c (mm_setI M 97 2 (nI q)) := h.x h.1.to (rx.rf.s (by decide))
theorem lr.op {q : Nat} (h : lr S n p o ws C c M) : lr S n p q ws C c (mm_setI M 97 22 (nI q)) := ⟨⟨(rg.rf.s (by decide)).RR h.1.1, h.1.2⟩, rfl, h.2.2.1, h.2.2.2.1, h.2.2.2.2.1, h.2.2.2.2.2.mv (fun _ _ => rfl)⟩
theorem lr.push (h : lr S n p o ws C c M) (x : Nat) (hx : x < 16777216) : lr S n p o (x :: ws) C c (mm_setI (mm_setA M 110 ws.length (nI x)) 97 24 (nI (ws.length + 1))) := by
  obtain ⟨a1, a2, a3, a4, a5, a6⟩ := h
  refine ⟨⟨((rg.rf.a (Or.inr rfl)).s (by decide)).RR a1.1, a1.2⟩, a2, a3, fun i hi => a4 i hi, rfl, ?_, ?_⟩
  · refine ⟨?_, hx⟩
    show (if 110 = 110 ∧ ws.length = ws.length then _ else _) = _
    rw [if_pos ⟨rfl, rfl⟩]
  · exact a6.mv (fun i hi => by
      show (if 110 = 110 ∧ i = ws.length then _ else _) = _
      rw [if_neg (fun e => by omega)])
theorem lr.pop {x : Nat} (h : lr S n p o (x :: ws) C c M) : lr S n p o ws C c (mm_setI M 97 24 (nI ws.length)) := by
  obtain ⟨a1, a2, a3, a4, a5, a6⟩ := h
  exact ⟨⟨(rg.rf.s (by decide)).RR a1.1, a1.2⟩, a2, a3, a4, rfl, a6.2.mv (fun _ _ => rfl)⟩
theorem lr.note (h : lr S n p o ws C c M) (op a : Nat) : lr S n p o ws (cs C c (op, a)) (c + 1) (mm_setI (mm_setA M 109 c (nI (1048576 * op + a))) 97 23 (nI (c + 1))) := by
  obtain ⟨a1, a2, a3, a4, a5, a6⟩ := h
  refine ⟨⟨((rg.rf.a (Or.inl rfl)).s (by decide)).RR a1.1, a1.2⟩, a2, rfl, fun i hi => ?_, a5, a6.mv (fun _ _ => rfl)⟩
  show (if 109 = 109 ∧ i = c then _ else M.2.1 109 i) = _
  by_cases e : i = c
  · subst e
    rw [if_pos ⟨rfl, rfl⟩, cs_at]
  · rw [if_neg (fun q => e q.2), cs_ne e]
    exact a4 i (by omega)
theorem sr_notes (h : lr S n p o ws C c M) (hc : c < 180) {op a : Nat} {v1 v2 : Int32} (h1 : v1 = nI op) (h2 : v2 = nI a) : ∃ M1, f_R_notes v1 v2 M = some ((), M1) ∧ lr S n p o ws (cs C c (op, a)) (c + 1) M1 ∧ rg M M1 := by
  subst h1 h2
  unfold f_R_notes
  have e2 : ∀ v, (mm_setA M 109 c v).1 97 23 = nI c := fun v => h.2.2.1
  rw [h.2.2.1, show mm_al 109 = 180 from rfl, pp_in hc (by decide), if_pos rfl, nI_clamp (by omega), pp_let, e2, nI_1, pp_let, show (1048576 : Int32) = nI 1048576 from rfl, pp_mulN, nI_add]
  exact ⟨_, rfl, h.note op a, (rg.rf.a (Or.inl rfl)).s (by decide)⟩
/-- what waits last -/
def tp : List Nat → Nat
  | [] => 99
  | x :: _ => x / 1048576
def tpI : List Nat → Int32
  | [] => -1
  | x :: _ => nI (x / 1048576)
theorem sr_top (h : lr S n p o ws C c M) (hw : ws.length ≤ 180) : f_R_top M = some (tpI ws, M) := by
  unfold f_R_top
  rw [h.2.2.2.2.1]
  cases ws with
  | nil => rw [if_pos (by rfl)]; rfl
  | cons x ws =>
    rw [List.length_cons] at hw ⊢
    have hx := h.2.2.2.2.2.1
    rw [if_neg (nI_ne0 (by omega) (by omega)), nI_pred, show mm_al 110 = 180 from rfl, pp_in (by omega) (by decide), if_pos rfl, nI_clamp (by omega), hx.1, show (1048576 : Int32) = nI 1048576 from rfl, pk_div (by omega) (by decide) (by decide)]
    rfl
theorem tpI_eq {k : Nat} (hk : k < 99) (h : tk ws M) : tpI ws = nI k ↔ tp ws = k := by
  cases ws with
  | nil =>
    constructor
    · intro q; exact absurd q.symm (tx_ne (by omega))
    · intro q; have q : 99 = k := q; omega
  | cons x ws =>
    have hx := h.1.2
    show nI (x / 1048576) = nI k ↔ x / 1048576 = k
    rw [nI_eq (by omega) (by omega)]
end LAWCODE
