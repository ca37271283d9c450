/-! conditions, the reference's side -/
section CONDREF
variable {S : ss_S} {n p o c : Nat} {C C1 C2 B D : Nat → Nat × Nat} {M M1 M2 : mm_M} {ws : List Nat}
def bo (C : Nat → Nat × Nat) : Nat → Bool
  | 0 => false
  | i + 1 => decide (7 ≤ (C i).1 ∧ (C i).1 ≤ 9) || (decide ((C i).1 = 10) && bo C i)
theorem bo_ext (h : ∀ i, i < c → (C1 i).1 = (C i).1) : ∀ i, i ≤ c → bo C1 i = bo C i := by
  intro i
  induction i with
  | zero => intro _; rfl
  | succ i ih => intro hi; rw [bo, bo, ih (by omega), h i (by omega)]
theorem wi.mv2 {b b2 e e2 i : Nat} (h : wi C b e i) (hi : i < e) (he : e ≤ e2) (hb : b2 ≤ b) (hx : C1 i = C i) (ho : ∀ i, i < e → (C1 i).1 = (C i).1) : wi C1 b2 e2 i := by
  have hd := dp_ext (C := C) (C1 := C1) (c := e) ho
  obtain ⟨a1, a2, a3, a4, a5, a6⟩ := h
  unfold wi
  rw [hx, hd i (by omega)]
  refine ⟨a1, a2, a3, fun q => by have := a4 q; omega, fun q r => by have := a5 q r; omega, fun q => ?_⟩
  obtain ⟨b1, b2, b3⟩ := a6 q
  exact ⟨b1, by omega, by rw [hd _ b2]; exact b3⟩
theorem ext_cmp {c1 c2 op : Nat} (ho : 7 ≤ op ∧ op ≤ 9) : bo (cs C2 c2 (op, 0)) (c2 + 1) = true := by
  rw [bo, cs_at, decide_eq_true (show 7 ≤ (op, 0).1 ∧ (op, 0).1 ≤ 9 from ho), Bool.true_or]
theorem ext_not {c1 : Nat} (h : ext C c C1 c1) (hb : bo C1 c1 = true) : ext C c (cs C1 c1 (10, 0)) (c1 + 1) ∧ bo (cs C1 c1 (10, 0)) (c1 + 1) = true := by
  obtain ⟨a1, a2, a3, a4⟩ := h
  have e1 : ∀ i, i < c1 → cs C1 c1 (10, 0) i = C1 i := fun i hi => cs_ne (by omega)
  have e2 : ∀ i, i ≤ c1 → dp (cs C1 c1 (10, 0)) i = dp C1 i := dp_ext (fun i hi => by rw [e1 i hi])
  refine ⟨⟨by omega, fun i hi => by rw [e1 i (by omega), a2 i hi], ?_, fun i h1 h2 => ?_⟩, ?_⟩
  · rw [dp, cs_at, if_neg (by show ¬ 10 ≤ 1; decide), if_pos rfl, e2 c1 (Nat.le_refl _), a3]
  · by_cases h3 : i < c1
    · exact (a4 i h1 h3).mv h3 (by omega) (Nat.le_refl _) e1
    · have : i = c1 := by omega
      subst this
      unfold wi
      rw [cs_at, e2 i (Nat.le_refl _)]
      exact ⟨by show 10 ≤ 12; decide, by show 0 < 1048576; decide, fun q => (by cases q), fun _ => (by omega), fun _ q => absurd q (by show ¬ 10 ≤ 9; decide), fun q => absurd q (by show ¬ 11 ≤ 10; decide)⟩
  · rw [bo, cs_at, bo_ext (c := c1) (fun i hi => by rw [e1 i hi]) c1 (Nat.le_refl _), hb]
    rfl
theorem ext_jmp {c0 e c2 op : Nat} (h1 : ext B c0 D e) (h2 : ext (cs D e (op, 0)) (e + 1) C2 c2) (hb : bo C2 c2 = true) (ho : op = 11 ∨ op = 12) (hc : c2 < 1048576) : ext B c0 (cs C2 e (op, c2)) c2 ∧ bo (cs C2 e (op, c2)) c2 = true := by
  obtain ⟨a1, a2, a3, a4⟩ := h1
  obtain ⟨b1, b2, b3, b4⟩ := h2
  have ops : ∀ i, (cs C2 e (op, c2) i).1 = (C2 i).1 := fun i => by
    by_cases q : i = e
    · subst q; rw [cs_at, b2 i (by omega), cs_at]
    · rw [cs_ne q]
  have e2 : ∀ i, dp (cs C2 e (op, c2)) i = dp C2 i := fun i => dp_ext (c := i) (fun k _ => ops k) i (Nat.le_refl _)
  have eD : ∀ i, i < e → C2 i = D i := fun i hi => by rw [b2 i (by omega), cs_ne (by omega)]
  have d1 : ∀ i, i ≤ e → dp C2 i = dp D i := dp_ext (fun i hi => by rw [eD i hi])
  have d2 : dp (cs D e (op, 0)) (e + 1) = dp B c0 := by
    rw [dp, cs_at, if_neg (show ¬ op ≤ 1 by omega), if_neg (show ¬ op = 10 by omega), dp_ext (C := D) (c := e) (fun i hi => by rw [cs_ne (by omega)]) e (Nat.le_refl _), a3]
    omega
  rw [d2] at b3 b4
  refine ⟨⟨by omega, fun i hi => by rw [cs_ne (by omega), eD i (by omega), a2 i hi], by rw [e2, b3], fun i h1 h2 => ?_⟩, ?_⟩
  · by_cases h3 : i < e
    · exact (a4 i h1 h3).mv h3 (by omega) (Nat.le_refl _) (fun k hk => by rw [cs_ne (by omega), eD k hk])
    · by_cases h4 : i = e
      · subst h4
        unfold wi
        rw [e2, d1 i (Nat.le_refl _), cs_at, a3]
        refine ⟨by show op ≤ 12; omega, hc, fun q => by have q : op = 1 := q; omega, fun _ => by omega, fun _ q => by have q : op ≤ 9 := q; omega, fun _ => ⟨by show i < c2; omega, Nat.le_refl _, ?_⟩⟩
        show dp (cs C2 i (op, c2)) c2 = _
        rw [e2, b3]
      · exact (b4 i (by omega) h2).mv2 h2 (Nat.le_refl _) (Nat.le_refl _) (cs_ne h4) (fun k _ => ops k)
  · rw [bo_ext (c := c2) (fun k _ => ops k) c2 (Nat.le_refl _), hb]
/-- jumps that wait to land -/
def jv (x : Nat × Nat) : Nat := 1048576 * x.1 + x.2
def ld (C : Nat → Nat × Nat) (c : Nat) : List (Nat × Nat) → (Nat → Nat × Nat)
  | [] => C
  | x :: pj => ld (cs C x.2 (x.1, c)) c pj
def jo (pj : List (Nat × Nat)) (C : Nat → Nat × Nat) (c : Nat) : Prop := ∀ x, x ∈ pj → x.2 < c ∧ (C x.2).1 = x.1 ∧ (C x.2).2 < 1048576
theorem ld_app (q : List (Nat × Nat)) : ∀ (pj : List (Nat × Nat)) C, ld C c (pj ++ q) = ld (ld C c pj) c q := by
  intro pj
  induction pj with
  | nil => intro C; rfl
  | cons x pj ih => intro C; rw [List.cons_append, ld, ld, ih]
theorem jo.tl {x : Nat × Nat} {pj : List (Nat × Nat)} (h : jo (x :: pj) C c) (hc : c < 1048576) : jo pj (cs C x.2 (x.1, c)) c := fun y hy => by
  have h1 := h y (List.mem_cons_of_mem _ hy)
  have h2 := h x (List.mem_cons_self ..)
  refine ⟨h1.1, ?_⟩
  by_cases e : y.2 = x.2
  · rw [e, cs_at]
    rw [e] at h1
    exact ⟨h2.2.1.symm.trans h1.2.1, hc⟩
  · rw [cs_ne e]
    exact h1.2
theorem lr.land {e op : Nat} (h : lr S n p o ws C c M) (he : e < c) : lr S n p o ws (cs C e (op, c)) c (mm_setA M 109 e (nI (1048576 * op + c))) := by
  obtain ⟨a1, a2, a3, a4, a5, a6⟩ := h
  refine ⟨⟨(rg.rf.a (Or.inl rfl)).RR a1.1, a1.2⟩, a2, a3, fun i hi => ?_, a5, a6.mv (fun _ _ => rfl)⟩
  show (if 109 = 109 ∧ i = e then _ else M.2.1 109 i) = _
  by_cases q : i = e
  · subst q
    rw [if_pos ⟨rfl, rfl⟩, cs_at]
  · rw [if_neg (fun r => q r.2), cs_ne q]
    exact a4 i hi
theorem tp_jv (x : Nat × Nat) (ws : List Nat) (h : x.2 < 1048576) : tp (jv x :: ws) = x.1 := by
  show (1048576 * x.1 + x.2) / 1048576 = x.1
  omega
theorem sr_land1 {al : Bool} {k : mm_M → Option (Unit × mm_M)} {j : Nat} {x : Nat × Nat} (h : lr S n p o (jv x :: ws) C c M) (hw : ws.length < 180) (hc : c < 180) (hx : x.2 < c ∧ (C x.2).1 = x.1) (hx2 : (C x.2).2 < 1048576) (hop : x.1 = 11 ∨ al = true ∧ x.1 = 12) : ∃ M1, lp_R_lands_0 al k (j + 1) M = lp_R_lands_0 al k j M1 ∧ lr S n p o ws (cs C x.2 (x.1, c)) c M1 ∧ rg M M1 := by
  have hx1 : x.1 ≤ 12 := by rcases hop with q | q; omega; omega
  have ht : tpI (jv x :: ws) = nI x.1 := by
    show nI ((1048576 * x.1 + x.2) / 1048576) = nI x.1
    congr 1
    omega
  have h24 : M.1 97 24 = nI (ws.length + 1) := h.2.2.2.2.1
  have hv : M.2.1 110 ws.length = nI (1048576 * x.1 + x.2) := h.2.2.2.2.2.1.1
  have hs : M.2.1 109 x.2 = nI (1048576 * x.1 + (C x.2).2) := by rw [h.2.2.2.1 x.2 hx.1, hx.2]
  have hL := (h.land (op := x.1) hx.1).pop
  refine ⟨_, ?_, hL, (rg.rf.a (Or.inl rfl)).s (by decide)⟩
  have hJ : ∀ X Y : Option (Unit × mm_M), (if nI x.1 = 11 then X else if al = true then (if nI x.1 = 12 then X else Y) else Y) = X := fun X Y => by
    rcases hop with q | ⟨rfl, q⟩
    · rw [q, if_pos (by rfl)]
    · rw [q, if_neg (by decide), if_pos rfl, if_pos (by rfl)]
  have e5 : ∀ v, (mm_setA M 109 x.2 v).1 97 24 = nI (ws.length + 1) := fun v => h24
  rw [lp_R_lands_0]
  simp only [sr_top h (by rw [List.length_cons]; omega), pp_bd, pp_jn, ht, hJ, h24, nI_pred, show mm_al 110 = 180 from rfl, show mm_al 109 = 180 from rfl]
  rw [pp_in (by omega) (by decide), if_pos rfl, nI_clamp (by omega), hv, show (1048576 : Int32) = nI 1048576 from rfl, pp_rem (by omega) (by decide) (by decide), pp_let, show (1048576 * x.1 + x.2) % 1048576 = x.2 by omega, pp_in (by omega) (by decide), if_pos rfl, if_pos rfl, nI_clamp (by omega), hs, pk_div (by omega) (by decide) (by decide), show (1048576 * x.1 + (C x.2).2) / 1048576 = x.1 by omega, pp_mulN, h.2.2.1, nI_add, pp_let, e5, nI_pred, pp_let]
theorem sr_land0 {al : Bool} {k : mm_M → Option (Unit × mm_M)} {j : Nat} (h : lr S n p o ws C c M) (hw : ws.length ≤ 180) (ht : tp ws ≠ 11) (ht2 : al = true → tp ws ≠ 12) : lp_R_lands_0 al k (j + 1) M = k M := by
  have hk := h.2.2.2.2.2
  rw [lp_R_lands_0]
  simp only [sr_top h hw, pp_bd, pp_jn]
  rw [if_neg (show ¬ tpI ws = 11 from fun q => ht ((tpI_eq (k := 11) (by decide) hk).mp q))]
  cases al with
  | false => rfl
  | true => rw [if_pos rfl, if_neg (show ¬ tpI ws = 12 from fun q => ht2 rfl ((tpI_eq (k := 12) (by decide) hk).mp q))]
theorem sr_lands {al : Bool} (hw : ws.length ≤ 170) (hc : c < 180) (ht : tp ws ≠ 11) (ht2 : al = true → tp ws ≠ 12) : ∀ (pj : List (Nat × Nat)) (j : Nat) C M, (∀ x, x ∈ pj → x.1 = 11 ∨ al = true ∧ x.1 = 12) → jo pj C c → pj.length + ws.length < 180 → lr S n p o (pj.map jv ++ ws) C c M → ∃ M1, lp_R_lands_0 al (fun (M_9 : mm_M) => some ((), M_9)) (j + pj.length + 1) M = some ((), M1) ∧ lr S n p o ws (ld C c pj) c M1 ∧ rg M M1 := by
  intro pj
  induction pj with
  | nil => intro j C M _ _ _ h; exact ⟨M, sr_land0 h (by show ws.length ≤ 180; omega) ht ht2, h, rg.rf⟩
  | cons x pj ih =>
    intro j C M hp hj hl h
    have hj1 := hj x (List.mem_cons_self ..)
    rw [List.length_cons] at hl ⊢
    rw [List.map_cons, List.cons_append] at h
    obtain ⟨M1, g1, g2, g3⟩ := sr_land1 (al := al) (k := fun (M_9 : mm_M) => some ((), M_9)) (j := j + pj.length + 1) h (by rw [List.length_append, List.length_map]; omega) hc ⟨hj1.1, hj1.2.1⟩ hj1.2.2 (hp x (List.mem_cons_self ..))
    obtain ⟨M2, f1, f2, f3⟩ := ih j _ M1 (fun y hy => hp y (List.mem_cons_of_mem _ hy)) (hj.tl (by omega)) (by omega) g2
    exact ⟨M2, by rw [show j + (pj.length + 1) + 1 = (j + pj.length + 1) + 1 from rfl, g1, f1], f2, g3.tr f3⟩
theorem sr_landF {al : Bool} (hw : ws.length ≤ 170) (hc : c < 180) (ht : tp ws ≠ 11) (ht2 : al = true → tp ws ≠ 12) {pj : List (Nat × Nat)} (hp : ∀ x, x ∈ pj → x.1 = 11 ∨ al = true ∧ x.1 = 12) (hj : jo pj C c) (hl : pj.length + ws.length < 180) (h : lr S n p o (pj.map jv ++ ws) C c M) : ∃ M1, f_R_lands al M = some ((), M1) ∧ lr S n p o ws (ld C c pj) c M1 ∧ rg M M1 := by
  obtain ⟨M1, g1, g2, g3⟩ := sr_lands hw hc ht ht2 pj (4999 - pj.length) C M hp hj hl h
  refine ⟨M1, ?_, g2, g3⟩
  unfold f_R_lands
  rw [← g1]
  congr 1
  show 5000 = _
  omega
theorem sr_jumps {op : Nat} (hop : op ≤ 12) (hw : ws.length < 170) (hc : c < 170) (h : lr S n p o ws C c M) : ∃ M1, f_R_jumps (nI op) M = some ((), M1) ∧ lr S n (p + 1) o (jv (op, c) :: ws) (cs C c (op, 0)) (c + 1) M1 ∧ rg M M1 := by
  have h1 := h.push (jv (op, c)) (by show 1048576 * op + c < 16777216; omega)
  obtain ⟨M2, g1, g2, g3⟩ := sr_notes h1 (by omega) (op := op) (a := 0) (v1 := nI op) (v2 := 0) rfl rfl
  have e2 : ∀ v, (mm_setA M 110 ws.length v).1 97 24 = nI ws.length := fun v => h.2.2.2.2.1
  unfold f_R_jumps
  rw [h.2.2.2.2.1, show mm_al 110 = 180 from rfl, pp_in (by omega) (by decide), if_pos rfl, nI_clamp (by omega), h.2.2.1, show (1048576 : Int32) = nI 1048576 from rfl, pp_mulN, nI_add, pp_let, e2, nI_1, pp_let]
  have g1' : f_R_notes (nI op) 0 (mm_setI (mm_setA M 110 ws.length (nI (1048576 * op + c))) 97 24 (nI (ws.length + 1))) = some ((), M2) := g1
  rw [g1', pp_bd, g2.1.2.2, nI_1, pp_let]
  exact ⟨_, rfl, g2.to, ((((rg.rf.a (Or.inr rfl)).s (by decide)).tr g3).s (by decide))⟩
/-- the reference's walk through a condition -/
def rc_G : mm_M → Option (Bool × mm_M) := fun (M_48 : mm_M) => mm_bd (f_R_wrongAt 1 (M_48.1 97 2) M_48) fun b_49 M_50 => some (b_49, M_50)
def rc_0 (m : Nat) (M : mm_M) : Option (Bool × mm_M) := lp_R_readsCondition_40 (fun (M_45 : mm_M) => some (false, M_45)) (fun (M_46 : mm_M) => some (false, M_46)) (fun (M_47 : mm_M) => some (true, M_47)) rc_G m M
def rc_N (m : Nat) : mm_M → Option (Bool × mm_M) := fun (M_29 : mm_M) => mm_bd (f_R_here M_29) fun r_30 M_31 => mm_jn (fun (M_32 : mm_M) => mm_bd (f_R_here M_32) fun r_33 M_34 => mm_jn (fun (s1 : Bool) (M_35 : mm_M) => mm_bd (f_R_lands s1 M_35) fun u_36 M_37 => mm_bd (f_R_here M_37) fun r_38 M_39 => mm_jn (fun (s1 : Int32) (M_40 : mm_M) => mm_bd (f_R_jumps s1 M_40) fun u_41 M_42 => rc_0 m M_42) fun j215 => if r_38 = 38 then j215 11 M_39 else j215 12 M_39) fun j195 => if r_33 = 124 then j195 true M_34 else j195 false M_34) fun j180 => if r_30 = 38 then j180 M_31 else mm_bd (f_R_here M_31) fun r_43 M_44 => if r_43 = 124 then j180 M_44 else rc_G M_44
def rc_W (m j : Nat) (M : mm_M) : Option (Bool × mm_M) := lp_R_readsCondition_92 (fun (M_28 : mm_M) => some (true, M_28)) (rc_N m) j M
def rc_P (m j i : Nat) (M : mm_M) : Option (Bool × mm_M) := mm_bd (lp_R_endsPiece_0 (fun (M_7 : mm_M) => some ((), M_7)) i M) fun _ M' => rc_W m j M'
theorem tx_Ine (ho : ss_Ok S) (hn : n ≤ 160) {k : Nat} (hk : k < 256) (h : tx_g S n p ≠ k) : ¬ tx_I (tx_g S n p) = nI k := fun q => h ((tx_I_eq (tx_g_lt ho (show n ≤ 200 by omega) p) hk).mp q)
theorem rc_un (ho : ss_Ok S) (hn : n ≤ 160) (hp : p ≤ n) (h : lr S n p o ws C c M) {m what g : Nat} (hg : tx_g S n p = g) (hwh : g = 33 ∧ what = 10 ∨ g = 40 ∧ what = 13) : rc_0 (m + 1) M = mm_bd (f_R_opens (nI what) M) fun b_13 M_14 => if b_13 = true then rc_0 m M_14 else some (false, M_14) := by
  unfold rc_0
  rw [lp_R_readsCondition_40]
  simp only [sr_here ho (show n ≤ 200 by omega) (show p ≤ 300 by omega) h.1, pp_bd, pp_jn]
  rcases hwh with ⟨q, rfl⟩ | ⟨q, rfl⟩
  · rw [show tx_I (tx_g S n p) = 33 from by rw [hg, q]; rfl, if_pos rfl, if_pos rfl]
    rfl
  · rw [show tx_I (tx_g S n p) = 40 from by rw [hg, q]; rfl, if_neg (by decide), if_pos rfl, if_neg (by decide)]
    rfl
theorem sr_opens {what : Nat} (hwh : what ≤ 14) (hp : p ≤ 160) (hw : ws.length ≤ p) (h : lr S n p o ws C c M) (ho6 : o ≤ 6) : (o < 6 → ∃ M1, f_R_opens (nI what) M = some (true, M1) ∧ lr S n (p + 1) (o + 1) ((1048576 * what) :: ws) C c M1 ∧ rg M M1) ∧ (¬ o < 6 → ∃ M1, f_R_opens (nI what) M = some (false, M1) ∧ M1.1 97 4 = ft 5 p ∧ rg M M1) := by
  unfold f_R_opens
  constructor
  · intro q
    have h2 := ((h.op (q := o + 1)).push (1048576 * what) (by omega)).to (q := p + 1)
    have e1 : (mm_setI M 97 22 (nI (o + 1))).1 97 24 = nI ws.length := h.2.2.2.2.1
    have e2 : ∀ v, (mm_setA (mm_setI M 97 22 (nI (o + 1))) 110 ws.length v).1 97 24 = nI ws.length := fun v => h.2.2.2.2.1
    have e3 : ∀ v u, (mm_setI (mm_setA (mm_setI M 97 22 (nI (o + 1))) 110 ws.length v) 97 24 u).1 97 2 = nI p := fun v u => h.1.2.2
    rw [h.2.1, if_neg (fun e => by rw [show (6 : Int32) = nI 6 from rfl, nI_eq (by omega) (by decide)] at e; omega), nI_1, pp_let, e1, show mm_al 110 = 180 from rfl, pp_in (by omega) (by decide), if_pos rfl, nI_clamp (by omega), show (1048576 : Int32) = nI 1048576 from rfl, pp_mulN, pp_let, e2, nI_1, pp_let, e3, nI_1, pp_let]
    exact ⟨_, rfl, h2, ((((rg.rf.s (by decide)).a (Or.inr rfl)).s (by decide)).s (by decide))⟩
  · intro q
    have e6 : o = 6 := by omega
    subst e6
    rw [h.2.1, if_pos (by rfl), h.1.2.2, show f_R_wrongAt 5 (nI p) M = _ from sr_wrong 5 p M, pp_bd]
    exact ⟨_, rfl, rfl, rg.rf.s (by decide)⟩
/-- at the end of a piece -/
theorem rc_not (h : lr S n p (o + 1) ((1048576 * 10) :: ws) C c M) (hw : ws.length < 170) (hc : c < 170) {m j i : Nat} : ∃ M1, rc_P m j (i + 1) M = rc_P m j i M1 ∧ lr S n p o ws (cs C c (10, 0)) (c + 1) M1 ∧ rg M M1 := by
  obtain ⟨M1, g1, g2, g3⟩ := sr_notes h (by omega) (op := 10) (a := 0) (v1 := 10) (v2 := 0) rfl rfl
  have e1 : M1.1 97 24 = nI (ws.length + 1) := g2.2.2.2.2.1
  have e2 : ∀ v, (mm_setI M1 97 24 v).1 97 22 = nI (o + 1) := fun v => g2.2.1
  refine ⟨_, ?_, g2.pop.op, (g3.s (by decide)).s (by decide)⟩
  unfold rc_P
  rw [lp_R_endsPiece_0, sr_top h (by rw [List.length_cons]; omega), pp_bd, show tpI (1048576 * 10 :: ws) = 10 from rfl, if_pos rfl, g1, pp_bd, e1, nI_pred, pp_let, e2, nI_pred, pp_let]
theorem rc_stop (h : lr S n p o ws C c M) (hw : ws.length ≤ 180) (ht : tp ws ≠ 10) {m j i : Nat} : rc_P m j (i + 1) M = rc_W m j M := by
  unfold rc_P
  rw [lp_R_endsPiece_0, sr_top h hw, pp_bd, if_neg (show ¬ tpI ws = 10 from fun q => ht ((tpI_eq (k := 10) (by decide) h.2.2.2.2.2).mp q)), pp_bd]
/-- a closing bracket -/
theorem rc_cl (ho : ss_Ok S) (hn : n ≤ 160) (hp : p ≤ n) (hg : tx_g S n p = 41) {pj : List (Nat × Nat)} (h : lr S n p (o + 1) (pj.map jv ++ (1048576 * 13) :: ws) C c M) (hpj : ∀ x, x ∈ pj → x.1 = 11 ∨ x.1 = 12) (hj : jo pj C c) (hl : pj.length + ws.length < 160) (hc : c < 170) {m j : Nat} : ∃ M1, rc_W m (j + 1) M = (if ws = [] then some (true, M1) else rc_P m j mm_fu M1) ∧ lr S n (p + 1) o ws (ld C c pj) c M1 ∧ rg M M1 := by
  obtain ⟨M1, g1, g2, g3⟩ := sr_landF (al := true) (ws := (1048576 * 13) :: ws) (by rw [List.length_cons]; omega) (by omega) (by rw [show tp (1048576 * 13 :: ws) = 13 from rfl]; decide) (fun _ => by rw [show tp (1048576 * 13 :: ws) = 13 from rfl]; decide) (fun x hx => (hpj x hx).imp id (fun q => ⟨rfl, q⟩)) hj (by rw [List.length_cons]; omega) h
  have e1 : M1.1 97 24 = nI (ws.length + 1) := g2.2.2.2.2.1
  have e2 : ∀ v, (mm_setI M1 97 24 v).1 97 22 = nI (o + 1) := fun v => g2.2.1
  have e3 : ∀ v u, (mm_setI (mm_setI M1 97 24 v) 97 22 u).1 97 2 = nI p := fun v u => g2.1.2.2
  have e4 : ∀ v u, (mm_setI (mm_setI (mm_setI M1 97 24 (nI ws.length)) 97 22 v) 97 2 u).1 97 24 = nI ws.length := fun v u => rfl
  refine ⟨_, ?_, g2.pop.op.to, ((g3.s (by decide)).s (by decide)).s (by decide)⟩
  unfold rc_W
  rw [lp_R_readsCondition_92, sr_here ho (show n ≤ 200 by omega) (show p ≤ 300 by omega) h.1, pp_bd, show tx_I (tx_g S n p) = 41 from by rw [hg]; rfl, if_pos rfl, g1, pp_bd, e1, nI_pred, pp_let, e2, nI_pred, pp_let, e3, nI_1, pp_let, e4]
  cases ws with
  | nil => rw [if_pos rfl, if_pos (by rfl)]
  | cons x ws =>
    rw [List.length_cons] at hl ⊢
    rw [if_neg (nI_ne0 (by omega) (by omega)), if_neg (by intro q; cases q)]
    rfl
/-- a sign that joins -/
theorem rc_sg (ho : ss_Ok S) (hn : n ≤ 160) (hp : p ≤ n) {op : Nat} (hop : op = 11 ∨ op = 12) (hg : tx_g S n p = ch op) {pj : List (Nat × Nat)} (h : lr S n p o (pj.map jv ++ ws) C c M) (hpj : ∀ x, x ∈ pj → x.1 = 11 ∨ op = 12 ∧ x.1 = 12) (hj : jo pj C c) (hl : pj.length + ws.length < 165) (hc : c < 165) (ht : tp ws ≠ 11) (ht2 : op = 12 → tp ws ≠ 12) {m j : Nat} : ∃ M1, rc_W m (j + 1) M = rc_0 m M1 ∧ lr S n (p + 1) o (jv (op, c) :: ws) (cs (ld C c pj) c (op, 0)) (c + 1) M1 ∧ rg M M1 := by
  have hh : ∀ ws C c M, lr S n p o ws C c M → f_R_here M = some (tx_I (tx_g S n p), M) := fun ws C c M h => sr_here ho (show n ≤ 200 by omega) (show p ≤ 300 by omega) h.1
  unfold rc_W
  rw [lp_R_readsCondition_92, hh _ _ _ _ h, pp_bd]
  rcases hop with rfl | rfl
  · obtain ⟨M1, g1, g2, g3⟩ := sr_landF (al := false) (ws := ws) (by omega) (by omega) ht (fun q => by cases q) (fun x hx => (hpj x hx).imp id (fun q => absurd q.1 (by decide))) hj (by omega) h
    obtain ⟨M2, f1, f2, f3⟩ := sr_jumps (op := 11) (by decide) (by omega) (by omega) g2
    have f1' : f_R_jumps 11 M1 = _ := f1
    refine ⟨M2, ?_, f2, g3.tr f3⟩
    unfold rc_N
    simp only [hh _ _ _ _ h, hh _ _ _ _ g2, pp_bd, pp_jn, show tx_I (tx_g S n p) = 38 from by rw [hg]; rfl]
    rw [if_neg (show ¬ (38 : Int32) = 41 by decide), if_pos trivial, if_neg (show ¬ (38 : Int32) = 124 by decide), g1, pp_bd]
    simp only [hh _ _ _ _ g2, pp_bd, pp_jn, show tx_I (tx_g S n p) = 38 from by rw [hg]; rfl]
    rw [if_pos trivial, f1', pp_bd]
  · obtain ⟨M1, g1, g2, g3⟩ := sr_landF (al := true) (ws := ws) (by omega) (by omega) ht (fun _ => ht2 rfl) (fun x hx => (hpj x hx).imp id (fun q => ⟨rfl, q.2⟩)) hj (by omega) h
    obtain ⟨M2, f1, f2, f3⟩ := sr_jumps (op := 12) (by decide) (by omega) (by omega) g2
    have f1' : f_R_jumps 12 M1 = _ := f1
    refine ⟨M2, ?_, f2, g3.tr f3⟩
    unfold rc_N
    simp only [hh _ _ _ _ h, hh _ _ _ _ g2, pp_bd, pp_jn, show tx_I (tx_g S n p) = 124 from by rw [hg]; rfl]
    rw [if_neg (show ¬ (124 : Int32) = 41 by decide), if_neg (show ¬ (124 : Int32) = 38 by decide), if_pos trivial, if_pos trivial, g1, pp_bd]
    simp only [hh _ _ _ _ g2, pp_bd, pp_jn, show tx_I (tx_g S n p) = 124 from by rw [hg]; rfl]
    rw [if_neg (show ¬ (124 : Int32) = 38 by decide), f1', pp_bd]
/-- no sign that can stand here -/
theorem rc_bad (ho : ss_Ok S) (hn : n ≤ 160) (hp : p ≤ n) (h1 : tx_g S n p ≠ 41) (h2 : tx_g S n p ≠ 38) (h3 : tx_g S n p ≠ 124) (h : lr S n p o ws C c M) {m j : Nat} : ∃ M1, rc_W m (j + 1) M = some (false, M1) ∧ M1.1 97 4 = ft 1 p ∧ rg M M1 := by
  have hh := sr_here ho (show n ≤ 200 by omega) (show p ≤ 300 by omega) h.1
  refine ⟨mm_setI M 97 4 (ft 1 p), ?_, rfl, rg.rf.s (by decide)⟩
  unfold rc_W
  rw [lp_R_readsCondition_92, hh, pp_bd, if_neg (show ¬ tx_I (tx_g S n p) = 41 from tx_Ine ho hn (by decide) h1)]
  unfold rc_N rc_G
  simp only [hh, pp_bd, pp_jn]
  rw [if_neg (show ¬ tx_I (tx_g S n p) = 38 from tx_Ine ho hn (by decide) h2), if_neg (show ¬ tx_I (tx_g S n p) = 124 from tx_Ine ho hn (by decide) h3), h.1.2.2, show f_R_wrongAt 1 (nI p) M = _ from sr_wrong 1 p M, pp_bd]
end CONDREF
