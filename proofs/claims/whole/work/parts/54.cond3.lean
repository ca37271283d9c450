/-! conditions: pieces that are joined -/
section CONDLOOP
variable {S : ss_S} {n p o c : Nat} {C C1 C2 B D : Nat → Nat × Nat} {M M1 M2 : mm_M} {ws : List Nat}
def xv : List (Nat × Nat) → Int32
  | [] => -1
  | x :: _ => nI x.2
theorem ld_ops : ∀ (pj : List (Nat × Nat)) (C : Nat → Nat × Nat), jo pj C c → c < 1048576 → ∀ i, (ld C c pj i).1 = (C i).1 := by
  intro pj
  induction pj with
  | nil => intro C _ _ i; rfl
  | cons x pj ih =>
    intro C h hc i
    rw [ld, ih _ (h.tl hc) hc]
    by_cases e : i = x.2
    · subst e; rw [cs_at, (h x (List.mem_cons_self ..)).2.1]
    · rw [cs_ne e]
theorem ld_arg : ∀ (pj : List (Nat × Nat)) (C : Nat → Nat × Nat), jo pj C c → c < 1048576 → ∀ i, (ld C c pj i).2 < 1048576 → (C i).2 < 1048576 := by
  intro pj
  induction pj with
  | nil => intro C _ _ i h; exact h
  | cons x pj ih =>
    intro C h hc i hi
    have := ih _ (h.tl hc) hc i hi
    by_cases e : i = x.2
    · subst e; exact (h x (List.mem_cons_self ..)).2.2
    · rw [cs_ne e] at this; exact this
theorem sh_endExit (h : lh S n p C c M) (hc : c ≤ 160) {pe : List (Nat × Nat)} (hl : pe.length ≤ 1) (hj : jo pe C c) : ∃ M1, f_Law_endExit_46 (xv pe) M = some ((), M1) ∧ lh S n p (ld C c pe) c M1 ∧ lf M M1 := by
  unfold f_Law_endExit_46
  rw [h.2.1, sh_isBelow, pp_bd, nI_toInt (by omega)]
  cases pe with
  | nil =>
    rw [show (xv []).toInt = -1 from rfl, decide_eq_false (by omega), if_neg (by decide)]
    exact ⟨M, rfl, h, lf.rf⟩
  | cons x pe =>
    have : pe = [] := by
      cases pe with
      | nil => rfl
      | cons y pe => rw [List.length_cons, List.length_cons] at hl; omega
    subst this
    obtain ⟨h1, h2, h3⟩ := hj x (List.mem_cons_self ..)
    rw [show xv [x] = nI x.2 from rfl, nI_toInt (by omega), decide_eq_true (by omega), if_pos rfl, show mm_al 48 = 160 from rfl, pp_in (by omega) (by decide), if_pos rfl, nI_clamp (by omega), h.2.1, pp_let]
    have hf : lf M (mm_setA M 48 x.2 (nI c)) := ⟨rfl, fun o a b => ss_seta_ne b, fun _ _ _ => rfl, rfl⟩
    refine ⟨_, rfl, ⟨⟨hf.RH h.1.1, h.1.2⟩, h.2.1, fun i hi => ?_⟩, hf⟩
    show (if 47 = 48 ∧ i = x.2 then nI c else M.2.1 47 i) = nI (ch (cs C x.2 (x.1, c) i).1) ∧ (if 48 = 48 ∧ i = x.2 then nI c else M.2.1 48 i) = nI (ca (cs C x.2 (x.1, c)) i)
    rw [if_neg (show ¬ (47 = 48 ∧ i = x.2) from fun e => by omega)]
    by_cases e : i = x.2
    · subst e
      have := (h.2.2 x.2 hi).1
      rw [if_pos ⟨rfl, rfl⟩, cs_at, this, h2]
      refine ⟨rfl, ?_⟩
      unfold ca
      rw [cs_at, if_neg (fun q => by have q : c = 0 := q.2; omega)]
    · rw [if_neg (fun q => e q.2), cs_ne e, ca_cs_ne e]
      exact h.2.2 i hi
theorem sh_addExit (h : lh S n p C c M) (hc : c < 160) {pe : List (Nat × Nat)} (hl : pe.length ≤ 1) (hj : jo pe C c) {op : Nat} (hop : op = 11 ∨ op = 12) : ∃ M1, f_Law_addExit_46 (nI (ch op)) (xv pe) M = some (nI c, M1) ∧ lh S n p (cs (ld C c pe) c (op, 0)) (c + 1) M1 ∧ lf M M1 := by
  unfold f_Law_addExit_46
  obtain ⟨M1, g1, g2, g3⟩ := sh_endExit h (by omega) hl hj
  obtain ⟨M2, f1, f2, f3⟩ := sh_addStep g2 hc (op := op) (a := 0) (v1 := nI (ch op)) (v2 := nI c) rfl (by rw [if_pos ⟨by omega, rfl⟩])
  rw [g1, pp_bd, g2.2.1, f1, pp_bd, f2.2.1, nI_pred]
  exact ⟨M2, rfl, f2, g3.tr f3⟩
/-- at the head of the loop: what was told, and a jump that waits -/
def hv (op : Nat) (B : Nat → Nat × Nat) (c0 p0 : Nat) (pe : List (Nat × Nat)) (p : Nat) (C : Nat → Nat × Nat) (c : Nat) : Prop :=
  (pe = [] ∧ C = B ∧ c = c0 ∧ p = p0) ∨ (∃ D e, pe = [(op, e)] ∧ c = e + 1 ∧ C = cs D e (op, 0) ∧ ext B c0 D e ∧ p0 < p ∧ c + p0 ≤ p + c0)
theorem sf_jl (ho : ss_Ok S) (hn : n ≤ 160) {op : Nat} (hop : op = 11 ∨ op = 12) {lp : Nat → Int32 → Int32 → mm_M → Option (Bool × mm_M)} {G : mm_M → Option (Bool × mm_M)}
    (hlp : ∀ m v2 v3 M, lp (m + 1) v2 v3 M = if 160 ≤ v3 then (mm_bd (f_Law_endExit_46 v2 M) fun _ M_14 => some (true, M_14)) else mm_bd (G M) fun b_1 M_2 => if b_1 = true then if M_2.1 3 3 = nI (ch op) then mm_bd (f_TextReader_step M_2) fun _ M_4 => mm_bd (f_Law_addExit_46 (nI (ch op)) v2 M_4) fun r_5 M_6 => mm_let (v3 + 1) fun v3_7 => lp m r_5 v3_7 M_6 else (mm_bd (f_Law_endExit_46 v2 M_2) fun _ M_11 => some (true, M_11)) else some (false, M_2))
    {T T' : List Nat → Prop} {Z Z' : Nat → Prop} {V V' : List (Nat × Nat) → Prop}
    (ih : ∀ M p C c, p ≤ n → c ≤ p → lh S n p C c M → oY S n o p C c M (G M) T Z (iI S n o p C c T V))
    (hT : ∀ ws, T' ws → T ws ∧ (∀ e, e < 1048576 → T (jv (op, e) :: ws)) ∧ tp ws ≠ 11 ∧ (op = 12 → tp ws ≠ 12))
    (hV : ∀ pj, V pj → ∀ x, x ∈ pj → x.1 = 11) (hV' : ∀ pj, (∀ x, x ∈ pj → x.1 = 11 ∨ op = 12 ∧ x.1 = 12) → V' pj) (hZ : ∀ g, Z g → g ≠ ch op → Z' g) {B : Nat → Nat × Nat} {c0 p0 : Nat} {MB : mm_M} : ∀ f i p C c M pe, n < p + f → 2 * i ≤ p → p0 ≤ p → p ≤ n → c ≤ p → lh S n p C c M → lf MB M → hv op B c0 p0 pe p C c → ∀ g,
    (∃ w q M1, lp (g + f) (xv pe) (nI i) M = some (false, M1) ∧ M1.1 3 4 = ft w q ∧ w ≤ 9 ∧ q ≤ n ∧ lf MB M1 ∧ ∀ ws m MR, pe.length + ws.length ≤ p → T' ws → lr S n p o (pe.map jv ++ ws) C c MR → 200 ≤ m + p → ∃ MR1, rc_0 m MR = some (false, MR1) ∧ MR1.1 97 4 = ft w q ∧ rg MR MR1) ∨
    (∃ p1 C1 c1 M1, lp (g + f) (xv pe) (nI i) M = some (true, M1) ∧ lh S n p1 C1 c1 M1 ∧ lf MB M1 ∧ p0 < p1 ∧ p1 ≤ n ∧ c1 + p0 ≤ p1 + c0 ∧ ext B c0 C1 c1 ∧ bo C1 c1 = true ∧ Z' (tx_g S n p1) ∧ ∀ ws m MR, pe.length + ws.length ≤ p → T' ws → lr S n p o (pe.map jv ++ ws) C c MR → 200 ≤ m + p → ∃ pj m1 j1 MR1 C0, V' pj ∧ rc_0 m MR = rc_W m1 j1 MR1 ∧ lr S n p1 o (pj.map jv ++ ws) C0 c1 MR1 ∧ C1 = ld C0 c1 pj ∧ jo pj C0 c1 ∧ pj.length + ws.length ≤ p1 ∧ 200 ≤ m1 + p1 ∧ 200 ≤ j1 + p1 ∧ rg MR MR1) := by
  have hn2 : n ≤ 200 := by omega
  have hch : ch op < 256 := by rcases hop with q | q <;> rw [q] <;> decide
  intro f
  induction f with
  | zero => intro i p C c M pe h1 _ _ h2; omega
  | succ f ihf =>
    intro i p C c M pe hf hi hp0 hp hc h hfr hhv g
    have hpe1 : pe.length ≤ 1 := by
      rcases hhv with ⟨q, _⟩ | ⟨D, e, q, _⟩
      · rw [q]; decide
      · rw [q]; exact Nat.le_refl 1
    have hTw : ∀ ws, T' ws → T (pe.map jv ++ ws) := fun ws hTp => by
      rcases hhv with ⟨q, _⟩ | ⟨D, e, q, q2, _⟩
      · rw [q]; exact (hT ws hTp).1
      · rw [q]; exact (hT ws hTp).2.1 e (by omega)
    have hpx : ∀ x, x ∈ pe → x.1 = op := fun x hx => by
      rcases hhv with ⟨q, _⟩ | ⟨D, e, q, _⟩
      · rw [q] at hx; cases hx
      · rw [q, List.mem_singleton] at hx; rw [hx]
    rw [show g + (f + 1) = (g + f) + 1 from rfl, hlp, if_neg (show ¬ (160 : Int32) ≤ nI i from nI_ge (b := 160) (by omega) (by decide))]
    rcases ih M p C c hp hc h with ⟨w, q, M2, e1, e2, e3, e4, e5, e6⟩ | ⟨p1, C1, c1, M2, e1, e2, e3, e4, e5, e6, e7, e8, e9, e10⟩
    · rw [e1, pp_bd, if_neg (by decide)]
      refine Or.inl ⟨w, q, M2, rfl, e2, e3, e4, hfr.tr e5, fun ws m MR hw hTp hR hm => ?_⟩
      exact e6 _ m MR (by rw [List.length_append, List.length_map]; exact hw) (hTw ws hTp) hR hm
    · have hj : jo pe C1 c1 := fun x hx => by
        rcases hhv with ⟨q, _⟩ | ⟨D, e, q, q2, q3, _⟩
        · rw [q] at hx; cases hx
        · rw [q, List.mem_singleton] at hx
          have := e7.1
          rw [hx, e7.2.1 _ (by show e < c; omega), q3, cs_at]
          exact ⟨by show e < c1; omega, rfl, by show 0 < 1048576; decide⟩
      have hx : ext B c0 (ld C1 c1 pe) c1 ∧ bo (ld C1 c1 pe) c1 = true := by
        rcases hhv with ⟨q, q2, q3, _⟩ | ⟨D, e, q, q2, q3, q4, _⟩
        · rw [q, ← q2, ← q3]; exact ⟨e7, e8⟩
        · rw [q]
          rw [q3, q2] at e7
          exact ext_jmp q4 e7 e8 hop (by omega)
      have hcp : c1 + p0 ≤ p1 + c0 := by
        rcases hhv with ⟨q, q2, q3, q4⟩ | ⟨D, e, q, q2, q3, q4, q5, q6⟩ <;> omega
      have ref : ∀ ws m MR, pe.length + ws.length ≤ p → T' ws → lr S n p o (pe.map jv ++ ws) C c MR → 200 ≤ m + p → ∃ pj m1 j1 MR1 C0, (∀ x, x ∈ pj → x.1 = 11 ∨ op = 12 ∧ x.1 = 12) ∧ rc_0 m MR = rc_W m1 j1 MR1 ∧ lr S n p1 o (pj.map jv ++ ws) C0 c1 MR1 ∧ ld C1 c1 pe = ld C0 c1 pj ∧ jo pj C0 c1 ∧ pj.length + ws.length ≤ p1 ∧ 200 ≤ m1 + p1 ∧ 200 ≤ j1 + p1 ∧ rg MR MR1 := fun ws m MR hw hTp hR hm => by
        obtain ⟨pj, m1, j1, MR1, C0, s1, s2, s3, s4, s5, s6, s7, s8, s9⟩ := e10 _ m MR (by rw [List.length_append, List.length_map]; exact hw) (hTw ws hTp) hR hm
        rw [List.length_append, List.length_map] at s6
        refine ⟨pj ++ pe, m1, j1, MR1, C0, fun x hx => ?_, s2, ?_, ?_, ?_, ?_, s7, s8, s9⟩
        · rw [List.mem_append] at hx
          rcases hx with hx | hx
          · exact Or.inl (hV pj s1 x hx)
          · have := hpx x hx
            rcases hop with q | q
            · exact Or.inl (this.trans q)
            · exact Or.inr ⟨q, this.trans q⟩
        · rw [List.map_append, List.append_assoc]; exact s3
        · rw [ld_app, ← s4]
        · intro x hx
          rw [List.mem_append] at hx
          rcases hx with hx | hx
          · exact s5 x hx
          · obtain ⟨t1, t2, t3⟩ := hj x hx
            rw [s4] at t2 t3
            rw [ld_ops pj C0 s5 (by omega)] at t2
            exact ⟨t1, t2, ld_arg pj C0 s5 (by omega) _ t3⟩
        · rw [List.length_append]; omega
      rw [e1, pp_bd, if_pos rfl, e2.1.2.2.2]
      by_cases hs : tx_g S n p1 = ch op
      · have hpn : p1 < n := tx_g_in hs (by omega)
        obtain ⟨M3, g1, g2, g3⟩ := sh_step1 ho hn2 (show p1 < 300 by omega) e2.1
        obtain ⟨M4, f1, f2, f3⟩ := sh_addExit (e2.t g2 g3) (by omega) hpe1 hj hop
        rw [if_pos ((tx_I_eq (tx_g_lt ho hn2 p1) hch).mpr hs), g1, pp_bd, f1, pp_bd, nI_1, pp_let]
        rcases ihf (i + 1) (p1 + 1) _ _ M4 [(op, c1)] (by omega) (by omega) (by omega) (by omega) (by omega) f2 (((hfr.tr e3).tr g3.l).tr f3) (Or.inr ⟨_, c1, rfl, rfl, rfl, hx.1, by omega, by omega⟩) g with ⟨w, q, M5, a1, a2, a3, a4, a5, a6⟩ | ⟨p2, C2, c2, M5, a1, a2, a3, a4, a5, a6, a7, a8, a9, a10⟩
        · refine Or.inl ⟨w, q, M5, a1, a2, a3, a4, a5, fun ws m MR hw hTp hR hm => ?_⟩
          obtain ⟨pj, m1, j1, MR1, C0, s1, s2, s3, s4, s5, s6, s7, s8, s9⟩ := ref ws m MR hw hTp hR hm
          obtain ⟨j2, rfl⟩ : ∃ j2, j1 = j2 + 1 := ⟨j1 - 1, by omega⟩
          obtain ⟨MR2, t1, t2, t3⟩ := rc_sg (m := m1) (j := j2) ho hn e5 hop hs s3 s1 s5 (by omega) (by omega) (hT ws hTp).2.2.1 (hT ws hTp).2.2.2
          rw [← s4] at t2
          obtain ⟨MR3, u1, u2, u3⟩ := a6 ws m1 MR2 (by show 1 + ws.length ≤ p1 + 1; omega) hTp t2 (by omega)
          exact ⟨MR3, s2.trans (t1.trans u1), u2, (s9.tr t3).tr u3⟩
        · refine Or.inr ⟨p2, C2, c2, M5, a1, a2, a3, a4, a5, a6, a7, a8, a9, fun ws m MR hw hTp hR hm => ?_⟩
          obtain ⟨pj, m1, j1, MR1, C0, s1, s2, s3, s4, s5, s6, s7, s8, s9⟩ := ref ws m MR hw hTp hR hm
          obtain ⟨j2, rfl⟩ : ∃ j2, j1 = j2 + 1 := ⟨j1 - 1, by omega⟩
          obtain ⟨MR2, t1, t2, t3⟩ := rc_sg (m := m1) (j := j2) ho hn e5 hop hs s3 s1 s5 (by omega) (by omega) (hT ws hTp).2.2.1 (hT ws hTp).2.2.2
          rw [← s4] at t2
          obtain ⟨pj2, m3, j3, MR3, C3, u1, u2, u3, u4, u5, u6, u7, u8, u9⟩ := a10 ws m1 MR2 (by show 1 + ws.length ≤ p1 + 1; omega) hTp t2 (by omega)
          exact ⟨pj2, m3, j3, MR3, C3, u1, s2.trans (t1.trans u2), u3, u4, u5, u6, u7, u8, (s9.tr t3).tr u9⟩
      · obtain ⟨M3, g1, g2, g3⟩ := sh_endExit e2 (by omega) hpe1 hj
        rw [if_neg (fun q => hs ((tx_I_eq (tx_g_lt ho hn2 p1) hch).mp q)), g1, pp_bd]
        refine Or.inr ⟨p1, _, c1, M3, rfl, g2, (hfr.tr e3).tr g3, by omega, e5, hcp, hx.1, hx.2, hZ _ e9 hs, fun ws m MR hw hTp hR hm => ?_⟩
        obtain ⟨pj, m1, j1, MR1, C0, s1, s2, s3, s4, s5, s6, s7, s8, s9⟩ := ref ws m MR hw hTp hR hm
        exact ⟨pj, m1, j1, MR1, C0, hV' pj s1, s2, s3, s4, s5, s6, s7, s8, s9⟩
/-- pieces joined by & -/
theorem sf_pieces (ho : ss_Ok S) (hn : n ≤ 160) {d : Nat} (ih : ∀ M p C c, p ≤ n → c ≤ p → lh S n p C c M → oY S n o p C c M (g_LawReader_readCondition d 2 (nI o) M) TP ZI (iP S n o p C c TP)) (hp : p ≤ n) (hc : c ≤ p) (h : lh S n p C c M) : oY S n o p C c M (g_LawReader_readCondition (d + 1) 1 (nI o) M) TQ ZQ (iI S n o p C c TQ VQ) := by
  rw [gC1]
  unfold fb_LawReader_readPieces
  have item : ∀ M p C c, p ≤ n → c ≤ p → lh S n p C c M → oY S n o p C c M (g_LawReader_readCondition d 2 (nI o) M) TI ZI (iI S n o p C c TI VI) := fun M p C c hp hc h => by
    have hTT : ∀ ws, TI ws → TP ws ∧ tp ws ≠ 10 := fun ws q => by
      have q : 11 ≤ tp ws ∧ tp ws ≤ 13 := q
      exact ⟨⟨by omega, by omega⟩, by omega⟩
    rcases ih M p C c hp hc h with ⟨w, q, M2, e1, e2, e3, e4, e5, e6⟩ | ⟨p1, C1, c1, M2, e1, e2, e3, e4, e5, e6, e7, e8, e9, e10⟩
    · exact Or.inl ⟨w, q, M2, e1, e2, e3, e4, e5, fun ws m MR hw hT hR hm => e6 ws m MR hw (hTT ws hT).1 hR hm⟩
    · refine Or.inr ⟨p1, C1, c1, M2, e1, e2, e3, e4, e5, e6, e7, e8, e9, fun ws m MR hw hT hR hm => ?_⟩
      obtain ⟨m1, j1, i1, MR1, s1, s2, s3, s4, s5, s6⟩ := e10 ws m MR hw (hTT ws hT).1 hR hm
      obtain ⟨i2, rfl⟩ : ∃ i2, i1 = i2 + 1 := ⟨i1 - 1, by omega⟩
      exact ⟨[], m1, j1, MR1, C1, rfl, s1.trans (rc_stop s2 (by omega) (hTT ws hT).2), s2, rfl, fun x hx => (by cases hx), by show 0 + ws.length ≤ p1; omega, s3, s4, s6⟩
  have key := sf_jl (o := o) ho hn (op := 11) (Or.inl rfl) (lp := fun m v2 v3 M => lp_LawReader_readPieces_4 (g_LawReader_readCondition d) (nI o) (fun (M_8 : mm_M) => some (false, M_8)) (fun (v2 : Int32) (M_9 : mm_M) => mm_bd (f_Law_endExit_46 v2 M_9) fun _ M_11 => some (true, M_11)) (fun (v2 : Int32) (M_12 : mm_M) => mm_bd (f_Law_endExit_46 v2 M_12) fun _ M_14 => some (true, M_14)) m v2 v3 M) (G := g_LawReader_readCondition d 2 (nI o)) (fun m v2 v3 M => by rw [lp_LawReader_readPieces_4]; rfl) (T' := TQ) (Z' := ZQ) (V' := VQ) item (fun ws q => by
      have q : 12 ≤ tp ws ∧ tp ws ≤ 13 := q
      refine ⟨⟨by omega, by omega⟩, fun e he => ?_, by omega, fun r => by cases r⟩
      show 11 ≤ tp (jv (11, e) :: ws) ∧ tp (jv (11, e) :: ws) ≤ 13
      rw [tp_jv _ _ he]
      show 11 ≤ 11 ∧ 11 ≤ 13
      decide) (fun pj hV x hx => by have hV : pj = [] := hV; rw [hV] at hx; cases hx) (fun pj hV x hx => by
      rcases hV x hx with q | q
      · exact q
      · exact absurd q.1 (by decide)) (fun g _ q => q) (B := C) (c0 := c) (p0 := p) (MB := M) (n + 1) 0 p C c M [] (by omega) (by omega) (Nat.le_refl _) hp hc h lf.rf (Or.inl ⟨rfl, rfl, rfl, rfl⟩) (5000 - (n + 1))
  rw [show 5000 - (n + 1) + (n + 1) = mm_fu from by show _ = 5000; omega] at key
  rcases key with ⟨w, q, M5, a1, a2, a3, a4, a5, a6⟩ | ⟨p2, C2, c2, M5, a1, a2, a3, a4, a5, a6, a7, a8, a9, a10⟩
  · exact Or.inl ⟨w, q, M5, a1, a2, a3, a4, a5, fun ws m MR hw hT hR hm => a6 ws m MR (by show 0 + ws.length ≤ p; omega) hT hR hm⟩
  · exact Or.inr ⟨p2, C2, c2, M5, a1, a2, a3, a4, a5, a6, a7, a8, a9, fun ws m MR hw hT hR hm => a10 ws m MR (by show 0 + ws.length ≤ p; omega) hT hR hm⟩
/-- joined by | -/
theorem sf_cond1 (ho : ss_Ok S) (hn : n ≤ 160) {d : Nat} (ih : ∀ M p C c, p ≤ n → c ≤ p → lh S n p C c M → oY S n o p C c M (g_LawReader_readCondition d 1 (nI o) M) TQ ZQ (iI S n o p C c TQ VQ)) (hp : p ≤ n) (hc : c ≤ p) (h : lh S n p C c M) : oY S n o p C c M (g_LawReader_readCondition (d + 1) 0 (nI o) M) TR ZR (iI S n o p C c TR VR) := by
  rw [gC0]
  unfold fb_LawReader_readCondition
  have key := sf_jl (o := o) ho hn (op := 12) (Or.inr rfl) (lp := fun m v2 v3 M => lp_LawReader_readCondition_4 (g_LawReader_readCondition d) (nI o) (fun (M_8 : mm_M) => some (false, M_8)) (fun (v2 : Int32) (M_9 : mm_M) => mm_bd (f_Law_endExit_46 v2 M_9) fun _ M_11 => some (true, M_11)) (fun (v2 : Int32) (M_12 : mm_M) => mm_bd (f_Law_endExit_46 v2 M_12) fun _ M_14 => some (true, M_14)) m v2 v3 M) (G := g_LawReader_readCondition d 1 (nI o)) (fun m v2 v3 M => by rw [lp_LawReader_readCondition_4]; rfl) (T' := TR) (Z' := ZR) (V' := VR) ih (fun ws q => by
      have q : tp ws = 13 := q
      refine ⟨⟨by omega, by omega⟩, fun e he => ?_, by omega, fun r => by omega⟩
      show 12 ≤ tp (jv (12, e) :: ws) ∧ tp (jv (12, e) :: ws) ≤ 13
      rw [tp_jv _ _ he]
      show 12 ≤ 12 ∧ 12 ≤ 13
      decide) (fun pj hV x hx => hV x hx) (fun pj hV x hx => by
      rcases hV x hx with q | q
      · exact Or.inl q
      · exact Or.inr q.2) (fun g z q => ⟨z, q⟩) (B := C) (c0 := c) (p0 := p) (MB := M) (n + 1) 0 p C c M [] (by omega) (by omega) (Nat.le_refl _) hp hc h lf.rf (Or.inl ⟨rfl, rfl, rfl, rfl⟩) (5000 - (n + 1))
  rw [show 5000 - (n + 1) + (n + 1) = mm_fu from by show _ = 5000; omega] at key
  rcases key with ⟨w, q, M5, a1, a2, a3, a4, a5, a6⟩ | ⟨p2, C2, c2, M5, a1, a2, a3, a4, a5, a6, a7, a8, a9, a10⟩
  · exact Or.inl ⟨w, q, M5, a1, a2, a3, a4, a5, fun ws m MR hw hT hR hm => a6 ws m MR (by show 0 + ws.length ≤ p; omega) hT hR hm⟩
  · exact Or.inr ⟨p2, C2, c2, M5, a1, a2, a3, a4, a5, a6, a7, a8, a9, fun ws m MR hw hT hR hm => a10 ws m MR (by show 0 + ws.length ≤ p; omega) hT hR hm⟩
/-- however deep -/
theorem sf_deep (ho : ss_Ok S) (hn : n ≤ 160) : ∀ d, (∀ o M p C c, o ≤ 6 → 3 * (6 - o) + 1 ≤ d → p ≤ n → c ≤ p → lh S n p C c M → oY S n o p C c M (g_LawReader_readCondition d 2 (nI o) M) TP ZI (iP S n o p C c TP)) ∧ (∀ o M p C c, o ≤ 6 → 3 * (6 - o) + 2 ≤ d → p ≤ n → c ≤ p → lh S n p C c M → oY S n o p C c M (g_LawReader_readCondition d 1 (nI o) M) TQ ZQ (iI S n o p C c TQ VQ)) ∧ (∀ o M p C c, o ≤ 6 → 3 * (6 - o) + 3 ≤ d → p ≤ n → c ≤ p → lh S n p C c M → oY S n o p C c M (g_LawReader_readCondition d 0 (nI o) M) TR ZR (iI S n o p C c TR VR)) := by
  intro d
  induction d with
  | zero => exact ⟨fun o M p C c _ h => by omega, fun o M p C c _ h => by omega, fun o M p C c _ h => by omega⟩
  | succ d ih =>
    obtain ⟨i1, i2, i3⟩ := ih
    exact ⟨fun o M p C c h1 h2 h3 h4 h5 => sf_piece ho hn i1 i3 h1 (by omega) h3 h4 h5, fun o M p C c h1 h2 h3 h4 h5 => sf_pieces ho hn (fun M p C c a b q => i1 o M p C c h1 (by omega) a b q) h3 h4 h5, fun o M p C c h1 h2 h3 h4 h5 => sf_cond1 ho hn (fun M p C c a b q => i2 o M p C c h1 (by omega) a b q) h3 h4 h5⟩
end CONDLOOP
