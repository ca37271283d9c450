/-! clauses -/
section CLAUSE
variable {S : ss_S} {n p o c k : Nat} {C C1 C2 B D : Nat → Nat × Nat} {M M1 M2 : mm_M} {ws : List Nat} {L : Nat → Nat × Nat × Nat × Nat}
def cl (C : Nat → Nat × Nat) (c : Nat) (x : Nat × Nat × Nat × Nat) : Prop := (x.1 = 112 ∨ x.1 = 109) ∧ x.2.1 < x.2.2.1 ∧ x.2.2.1 < x.2.2.2 ∧ x.2.2.2 ≤ c ∧ dp C x.2.2.1 = dp C x.2.1 + 1 ∧ (∀ i, x.2.1 ≤ i → i < x.2.2.1 → wi C (dp C x.2.1) x.2.2.1 i) ∧ dp C x.2.2.2 = dp C x.2.2.1 + 1 ∧ (∀ i, x.2.2.1 ≤ i → i < x.2.2.2 → wi C (dp C x.2.2.1) x.2.2.2 i) ∧ bo C x.2.2.2 = true
theorem cl.mv {c1 : Nat} {x : Nat × Nat × Nat × Nat} (h : cl C c x) (hx : ∀ i, i < c → C1 i = C i) (hc : c ≤ c1) : cl C1 c1 x := by
  obtain ⟨a1, a2, a3, a4, a5, a6, a7, a8, a9⟩ := h
  have hd : ∀ i, i ≤ c → dp C1 i = dp C i := dp_ext (fun i hi => by rw [hx i hi])
  have hb : ∀ i, i ≤ c → bo C1 i = bo C i := bo_ext (fun i hi => by rw [hx i hi])
  refine ⟨a1, a2, a3, by omega, ?_, fun i h1 h2 => ?_, ?_, fun i h1 h2 => ?_, ?_⟩
  · rw [hd _ (by omega), hd _ (by omega)]; exact a5
  · rw [hd _ (by omega)]; exact (a6 i h1 h2).mv h2 (Nat.le_refl _) (Nat.le_refl _) (fun j hj => hx j (by omega))
  · rw [hd _ (by omega), hd _ (by omega)]; exact a7
  · rw [hd _ (by omega)]; exact (a8 i h1 h2).mv h2 (Nat.le_refl _) (Nat.le_refl _) (fun j hj => hx j (by omega))
  · rw [hb _ (by omega)]; exact a9
theorem cl_of {c0 c1 c2 l : Nat} (hl : l = 112 ∨ l = 109) (h1 : ext B c0 C1 c1) (h2 : ext C1 c1 C2 c2) (hb : bo C2 c2 = true) : cl C2 c2 (l, c0, c1, c2) := by
  obtain ⟨a1, a2, a3, a4⟩ := h1
  obtain ⟨b1, b2, b3, b4⟩ := h2
  have hd : ∀ i, i ≤ c1 → dp C2 i = dp C1 i := dp_ext (fun i hi => by rw [b2 i hi])
  have hd0 : dp C1 c0 = dp B c0 := dp_ext (c := c0) (fun i hi => by rw [a2 i hi]) c0 (Nat.le_refl _)
  refine ⟨hl, a1, b1, Nat.le_refl _, ?_, fun i h1 h2 => ?_, ?_, fun i h1 h2 => ?_, hb⟩
  · show dp C2 c1 = dp C2 c0 + 1
    rw [hd _ (Nat.le_refl _), hd _ (by omega), hd0]; exact a3
  · show wi C2 (dp C2 c0) c1 i
    rw [hd _ (by omega), hd0]; exact (a4 i h1 h2).mv h2 (Nat.le_refl _) (Nat.le_refl _) b2
  · show dp C2 c2 = dp C2 c1 + 1
    rw [hd _ (Nat.le_refl _)]; exact b3
  · show wi C2 (dp C2 c1) c2 i
    rw [hd _ (Nat.le_refl _)]; exact b4 i h1 h2
def lc (L : Nat → Nat × Nat × Nat × Nat) (k : Nat) (M : mm_M) : Prop := M.1 46 7 = nI k ∧ ∀ i, i < k → M.2.1 49 i = nI (L i).1 ∧ M.2.1 50 i = nI (L i).2.1 ∧ M.2.1 51 i = nI (L i).2.2.1 ∧ M.2.1 52 i = nI (L i).2.2.2
def lk (L : Nat → Nat × Nat × Nat × Nat) (k : Nat) (M : mm_M) : Prop := M.1 97 25 = nI k ∧ ∀ i, i < k → M.2.1 111 i = nI (L i).1 ∧ M.2.1 112 i = nI (L i).2.1 ∧ M.2.1 113 i = nI (L i).2.2.1 ∧ M.2.1 114 i = nI (L i).2.2.2
def lf2 (M M1 : mm_M) : Prop := M1.2.2 = M.2.2 ∧ (∀ o, (o < 47 ∨ 52 < o) → M1.2.1 o = M.2.1 o) ∧ ∀ o, o ≠ 3 → o ≠ 46 → M1.1 o = M.1 o
def rg2 (M M1 : mm_M) : Prop := M1.2.2 = M.2.2 ∧ (∀ o, (o < 109 ∨ 114 < o) → M1.2.1 o = M.2.1 o) ∧ ∀ o q, ¬ (o = 97 ∧ (2 ≤ q ∧ q ≤ 5 ∨ 22 ≤ q ∧ q ≤ 25)) → M1.1 o q = M.1 o q
theorem lf.l2 (h : lf M M1) : lf2 M M1 := ⟨h.1, fun o ho => h.2.1 o (by omega) (by omega), h.2.2.1⟩
theorem rg.g2 (h : rg M M1) : rg2 M M1 := ⟨h.1, fun o ho => h.2.1 o (by omega) (by omega), fun o q ho => h.2.2 o q (fun e => ho ⟨e.1, by omega⟩)⟩
theorem lf2.tr (h : lf2 M M1) (h2 : lf2 M1 M2) : lf2 M M2 := ⟨h2.1.trans h.1, fun o a => (h2.2.1 o a).trans (h.2.1 o a), fun o a b => (h2.2.2 o a b).trans (h.2.2 o a b)⟩
theorem rg2.tr (h : rg2 M M1) (h2 : rg2 M1 M2) : rg2 M M2 := ⟨h2.1.trans h.1, fun o a => (h2.2.1 o a).trans (h.2.1 o a), fun o q a => (h2.2.2 o q a).trans (h.2.2 o q a)⟩
theorem rg2.rf : rg2 M M := ⟨rfl, fun _ _ => rfl, fun _ _ _ => rfl⟩
theorem rg2.s (h : rg2 M M1) {k : Nat} {v : Int32} (hk : 2 ≤ k ∧ k ≤ 5 ∨ 22 ≤ k ∧ k ≤ 25) : rg2 M (mm_setI M1 97 k v) := ⟨h.1, h.2.1, fun o q ho => by
  rw [← h.2.2 o q ho]
  show (if o = 97 ∧ q = k then v else M1.1 o q) = _
  rw [if_neg (fun e => ho ⟨e.1, by omega⟩)]⟩
theorem rg2.a (h : rg2 M M1) {k x : Nat} {v : Int32} (hx : 109 ≤ x ∧ x ≤ 114) : rg2 M (mm_setA M1 x k v) := ⟨h.1, fun o a => (ss_seta_ne (by omega)).trans (h.2.1 o a), h.2.2⟩
theorem ss_ro_z : ∀ k, k < 11 → ¬ ((ss_ro k).1 = 97 ∧ (2 ≤ (ss_ro k).2 ∧ (ss_ro k).2 ≤ 5 ∨ 22 ≤ (ss_ro k).2 ∧ (ss_ro k).2 ≤ 25)) := by decide
theorem ss_ra_114 : ∀ a, a < 14 → ss_ra a < 109 ∨ 114 < ss_ra a := by decide
theorem rg2.RR (h : rg2 M M1) (hR : ss_RR S M) : ss_RR S M1 := ⟨fun k hk => by rw [h.2.2 _ _ (ss_ro_z k hk)]; exact hR.1 k hk, fun a ha j hj => by rw [h.2.1 _ (ss_ra_114 a ha)]; exact hR.2 a ha j hj⟩
theorem lf2.RH (h : lf2 M M1) (hH : ss_RH S M) : ss_RH S M1 := ⟨fun k hk => by rw [h.2.2 _ (ss_so_3 k hk) (ss_so_46 k hk)]; exact hH.1 k hk, fun a ha j hj => by
  have := ss_ha_38 ha hj
  rw [h.2.1 _ (by omega)]; exact hH.2 a ha j hj⟩
theorem lc.l (h : lc L k M) (hf : lf M M1) : lc L k M1 := ⟨by rw [hf.2.2.2]; exact h.1, fun i hi => by rw [hf.2.1 49 (by decide) (by decide), hf.2.1 50 (by decide) (by decide), hf.2.1 51 (by decide) (by decide), hf.2.1 52 (by decide) (by decide)]; exact h.2 i hi⟩
theorem lk.g (h : lk L k M) (hf : rg M M1) : lk L k M1 := ⟨by rw [hf.2.2 _ _ (by omega)]; exact h.1, fun i hi => by rw [hf.2.1 111 (by decide) (by decide), hf.2.1 112 (by decide) (by decide), hf.2.1 113 (by decide) (by decide), hf.2.1 114 (by decide) (by decide)]; exact h.2 i hi⟩
def lr0 (S : ss_S) (n p : Nat) (C : Nat → Nat × Nat) (c : Nat) (M : mm_M) : Prop := tx_R S n p M ∧ M.1 97 23 = nI c ∧ ∀ i, i < c → M.2.1 109 i = nI (1048576 * (C i).1 + (C i).2)
theorem lr.z (h : lr S n p o ws C c M) : lr0 S n p C c M := ⟨h.1, h.2.2.1, h.2.2.2.1⟩
def cu (L : Nat → Nat × Nat × Nat × Nat) (k : Nat) (x : Nat × Nat × Nat × Nat) : Nat → Nat × Nat × Nat × Nat := fun i => if i = k then x else L i
theorem sh_addClause (h : lh S n p C c M) (hl : lc L k M) (hk : k < 12) {l a b : Nat} : ∃ M1, f_Law_addClause_46 (nI l) (nI a) (nI b) M = some ((), M1) ∧ lh S n p C c M1 ∧ lc (cu L k (l, a, b, c)) (k + 1) M1 ∧ lf2 M M1 := by
  unfold f_Law_addClause_46
  have e1 : ∀ v, (mm_setA M 49 k v).1 46 7 = nI k := fun v => hl.1
  have e2 : ∀ v u, (mm_setA (mm_setA M 49 k v) 50 k u).1 46 7 = nI k := fun v u => hl.1
  have e3 : ∀ v u w, (mm_setA (mm_setA (mm_setA M 49 k v) 50 k u) 51 k w).1 46 7 = nI k := fun v u w => hl.1
  have e4 : ∀ v u w, (mm_setA (mm_setA (mm_setA M 49 k v) 50 k u) 51 k w).1 46 2 = nI c := fun v u w => h.2.1
  have e5 : ∀ v u w x, (mm_setA (mm_setA (mm_setA (mm_setA M 49 k v) 50 k u) 51 k w) 52 k x).1 46 7 = nI k := fun v u w x => hl.1
  rw [hl.1, if_neg (show ¬ (12 : Int32) ≤ nI k from nI_ge (b := 12) hk (by decide)), show mm_al 49 = 12 from rfl, show mm_al 50 = 12 from rfl, show mm_al 51 = 12 from rfl, show mm_al 52 = 12 from rfl, pp_in hk (by decide), if_pos rfl, nI_clamp (by omega), pp_let, e1, pp_in hk (by decide), if_pos rfl, nI_clamp (by omega), pp_let, e2, pp_in hk (by decide), if_pos rfl, nI_clamp (by omega), pp_let, e3, e4, pp_in hk (by decide), if_pos rfl, nI_clamp (by omega), pp_let, e5, nI_1, pp_let]
  have hf : lf2 M (mm_setI (mm_setA (mm_setA (mm_setA (mm_setA M 49 k (nI l)) 50 k (nI a)) 51 k (nI b)) 52 k (nI c)) 46 7 (nI (k + 1))) := ⟨rfl, fun o ho => (ss_seta_ne (by omega)).trans ((ss_seta_ne (by omega)).trans ((ss_seta_ne (by omega)).trans (ss_seta_ne (by omega)))), fun o a b => by
    funext q
    show (if o = 46 ∧ q = 7 then _ else M.1 o q) = _
    rw [if_neg (fun e => b e.1)]⟩
  refine ⟨_, rfl, ⟨⟨hf.RH h.1.1, h.1.2⟩, h.2.1, fun i hi => h.2.2 i hi⟩, ⟨rfl, fun i hi => ?_⟩, hf⟩
  unfold cu
  by_cases e : i = k
  · subst e
    rw [if_pos rfl]
    refine ⟨?_, ?_, ?_, ?_⟩
    · show (if 49 = 52 ∧ i = i then nI c else if 49 = 51 ∧ i = i then nI b else if 49 = 50 ∧ i = i then nI a else if 49 = 49 ∧ i = i then nI l else _) = _
      rw [if_neg (fun q => absurd q.1 (by decide)), if_neg (fun q => absurd q.1 (by decide)), if_neg (fun q => absurd q.1 (by decide)), if_pos ⟨rfl, rfl⟩]
    · show (if 50 = 52 ∧ i = i then nI c else if 50 = 51 ∧ i = i then nI b else if 50 = 50 ∧ i = i then nI a else _) = _
      rw [if_neg (fun q => absurd q.1 (by decide)), if_neg (fun q => absurd q.1 (by decide)), if_pos ⟨rfl, rfl⟩]
    · show (if 51 = 52 ∧ i = i then nI c else if 51 = 51 ∧ i = i then nI b else _) = _
      rw [if_neg (fun q => absurd q.1 (by decide)), if_pos ⟨rfl, rfl⟩]
    · show (if 52 = 52 ∧ i = i then nI c else _) = _
      rw [if_pos ⟨rfl, rfl⟩]
  · rw [if_neg e]
    have hne : ∀ x : Nat, ¬ (x = 52 ∧ i = k) ∧ ¬ (x = 51 ∧ i = k) ∧ ¬ (x = 50 ∧ i = k) ∧ ¬ (x = 49 ∧ i = k) := fun x => ⟨fun q => e q.2, fun q => e q.2, fun q => e q.2, fun q => e q.2⟩
    have hv : ∀ x : Nat, (mm_setI (mm_setA (mm_setA (mm_setA (mm_setA M 49 k (nI l)) 50 k (nI a)) 51 k (nI b)) 52 k (nI c)) 46 7 (nI (k + 1))).2.1 x i = M.2.1 x i := fun x => by
      show (if x = 52 ∧ i = k then _ else if x = 51 ∧ i = k then _ else if x = 50 ∧ i = k then _ else if x = 49 ∧ i = k then _ else M.2.1 x i) = _
      rw [if_neg (hne x).1, if_neg (hne x).2.1, if_neg (hne x).2.2.1, if_neg (hne x).2.2.2]
    rw [hv, hv, hv, hv]
    exact hl.2 i (by omega)
/-- the condition of a clause -/
theorem sf_cond (ho : ss_Ok S) (hn : n ≤ 160) (hp : p ≤ n) (hc : c ≤ p) (h : lh S n p C c M) (K : mm_M → Option (Bool × mm_M)) :
    (∃ w q M1, (mm_bd (f_TextReader_take 40 M) fun b_10 M_11 => if b_10 = true then mm_bd (f_LawReader_readCondition mm_rd 1 M_11) fun b_12 M_13 => if b_12 = true then mm_bd (f_TextReader_take 41 M_13) fun b_14 M_15 => if b_14 = true then K M_15 else some (false, M_15) else some (false, M_13) else some (false, M_11)) = some (false, M1) ∧ M1.1 3 4 = ft w q ∧ w ≤ 9 ∧ q ≤ n ∧ lf M M1 ∧ ∀ MR, lr0 S n p C c MR → ∃ MR1, f_R_readsCondition MR = some (false, MR1) ∧ MR1.1 97 4 = ft w q ∧ rg MR MR1) ∨
    (∃ p1 C1 c1 M1, (mm_bd (f_TextReader_take 40 M) fun b_10 M_11 => if b_10 = true then mm_bd (f_LawReader_readCondition mm_rd 1 M_11) fun b_12 M_13 => if b_12 = true then mm_bd (f_TextReader_take 41 M_13) fun b_14 M_15 => if b_14 = true then K M_15 else some (false, M_15) else some (false, M_13) else some (false, M_11)) = K M1 ∧ lh S n p1 C1 c1 M1 ∧ lf M M1 ∧ p < p1 ∧ p1 ≤ n ∧ c1 + p ≤ p1 + c ∧ ext C c C1 c1 ∧ bo C1 c1 = true ∧ ∀ MR, lr0 S n p C c MR → ∃ MR1, f_R_readsCondition MR = some (true, MR1) ∧ lr0 S n p1 C1 c1 MR1 ∧ rg MR MR1) := by
  have hn2 : n ≤ 200 := by omega
  obtain ⟨t1, t2⟩ := sh_take ho hn2 (show p < 300 by omega) (c := 40) (by decide) h.1
  by_cases h40 : tx_g S n p = 40
  · have hpn : p < n := tx_g_in h40 (by decide)
    obtain ⟨M1, u1, u2, u3⟩ := t1 h40
    rw [show f_TextReader_take 40 M = _ from u1, pp_bd, if_pos rfl]
    have ref : ∀ MR, lr0 S n p C c MR → ∃ MR1, f_R_readsCondition MR = rc_0 mm_fu MR1 ∧ lr S n (p + 1) 1 [1048576 * 13] C c MR1 ∧ rg MR MR1 := fun MR hR => by
      have hz : lr S n p 0 [] C c (mm_setI (mm_setI MR 97 22 0) 97 24 0) := ⟨⟨((rg.rf.s (by decide)).s (by decide)).RR hR.1.1, hR.1.2⟩, rfl, hR.2.1, hR.2.2, rfl, trivial⟩
      obtain ⟨MR1, r1, r2, r3⟩ := (sr_opens (what := 13) (by decide) (by omega) (by show 0 ≤ p; omega) hz (by decide)).1 (by decide)
      refine ⟨MR1, ?_, r2, ((rg.rf.s (by decide)).s (by decide)).tr r3⟩
      unfold f_R_readsCondition
      rw [sr_here ho hn2 (by omega) hR.1, pp_bd, if_pos (show tx_I (tx_g S n p) = 40 from by rw [h40]; rfl), pp_let, pp_let, show f_R_opens 13 _ = _ from r1, pp_bd, if_pos rfl]
      rfl
    have hT : TR [1048576 * 13] := rfl
    unfold f_LawReader_readCondition
    rcases (sf_deep ho hn mm_rd).2.2 1 M1 (p + 1) C c (by decide) (by decide) (by omega) (by omega) (h.t u2 u3) with ⟨w, q, M2, e1, e2, e3, e4, e5, e6⟩ | ⟨p1, C1, c1, M2, e1, e2, e3, e4, e5, e6, e7, e8, e9, e10⟩
    · rw [show g_LawReader_readCondition mm_rd 0 1 M1 = _ from e1, pp_bd, if_neg (by decide)]
      refine Or.inl ⟨w, q, M2, rfl, e2, e3, e4, u3.l.tr e5, fun MR hR => ?_⟩
      obtain ⟨MR1, r1, r2, r3⟩ := ref MR hR
      obtain ⟨MR2, s1, s2, s3⟩ := e6 _ mm_fu MR1 (by show 1 ≤ p + 1; omega) hT r2 (by show 200 ≤ 5000 + (p + 1); omega)
      exact ⟨MR2, r1.trans s1, s2, r3.tr s3⟩
    · rw [show g_LawReader_readCondition mm_rd 0 1 M1 = _ from e1, pp_bd, if_pos rfl]
      obtain ⟨v1, v2⟩ := sh_take ho hn2 (show p1 < 300 by omega) (c := 41) (by decide) e2.1
      by_cases h41 : tx_g S n p1 = 41
      · obtain ⟨M3, x1, x2, x3⟩ := v1 h41
        have hp1 : p1 < n := tx_g_in h41 (by decide)
        rw [show f_TextReader_take 41 M2 = _ from x1, pp_bd, if_pos rfl]
        refine Or.inr ⟨p1 + 1, C1, c1, M3, rfl, e2.t x2 x3, (u3.l.tr e3).tr x3.l, by omega, by omega, by omega, e7, e8, fun MR hR => ?_⟩
        obtain ⟨MR1, r1, r2, r3⟩ := ref MR hR
        obtain ⟨pj, m1, j1, MR2, C0, s1, s2, s3, s4, s5, s6, s7, s8, s9⟩ := e10 _ mm_fu MR1 (by show 1 ≤ p + 1; omega) hT r2 (by show 200 ≤ 5000 + (p + 1); omega)
        obtain ⟨j2, rfl⟩ : ∃ j2, j1 = j2 + 1 := ⟨j1 - 1, by omega⟩
        have s6 : pj.length + 1 ≤ p1 := s6
        obtain ⟨MR3, y1, y2, y3⟩ := rc_cl (m := m1) (j := j2) ho hn e5 h41 s3 s1 s5 (by show pj.length + 0 < 160; omega) (by omega)
        rw [if_pos rfl] at y1
        rw [← s4] at y2
        exact ⟨MR3, r1.trans (s2.trans y1), y2.z, (r3.tr s9).tr y3⟩
      · obtain ⟨M3, x1, x2, x3⟩ := v2 h41
        rw [show f_TextReader_take 41 M2 = _ from x1, pp_bd, if_neg (by decide)]
        refine Or.inl ⟨1, p1, M3, rfl, x2, by decide, e5, (u3.l.tr e3).tr x3.l, fun MR hR => ?_⟩
        obtain ⟨MR1, r1, r2, r3⟩ := ref MR hR
        obtain ⟨pj, m1, j1, MR2, C0, s1, s2, s3, s4, s5, s6, s7, s8, s9⟩ := e10 _ mm_fu MR1 (by show 1 ≤ p + 1; omega) hT r2 (by show 200 ≤ 5000 + (p + 1); omega)
        obtain ⟨j2, rfl⟩ : ∃ j2, j1 = j2 + 1 := ⟨j1 - 1, by omega⟩
        obtain ⟨MR3, y1, y2, y3⟩ := rc_bad (m := m1) (j := j2) ho hn e5 h41 e9.1 e9.2 s3
        exact ⟨MR3, r1.trans (s2.trans y1), y2, (r3.tr s9).tr y3⟩
  · obtain ⟨M1, u1, u2, u3⟩ := t2 h40
    rw [show f_TextReader_take 40 M = _ from u1, pp_bd, if_neg (by decide)]
    refine Or.inl ⟨1, p, M1, rfl, u2, by decide, hp, u3.l, fun MR hR => ?_⟩
    refine ⟨mm_setI MR 97 4 (ft 1 p), ?_, rfl, rg.rf.s (by decide)⟩
    unfold f_R_readsCondition
    rw [sr_here ho hn2 (by omega) hR.1, pp_bd, if_neg (show ¬ tx_I (tx_g S n p) = 40 from tx_Ine ho hn (by decide) h40), hR.1.2.2, show f_R_wrongAt 1 (nI p) MR = _ from sr_wrong 1 p MR, pp_bd]
/-- a clause -/
theorem sf_clause (ho : ss_Ok S) (hn : n ≤ 160) (hp : p ≤ n) (hc : c ≤ p) (hk : k ≤ 12) (h : lh S n p C c M) (hl : lc L k M) :
    (∃ w q M1, f_LawReader_readClause (nI k) M = some (false, M1) ∧ M1.1 3 4 = ft w q ∧ w ≤ 9 ∧ q ≤ n ∧ lf2 M M1 ∧ ∀ MR, lr0 S n p C c MR → lk L k MR → ∃ MR1, f_R_readsClause MR = some (false, MR1) ∧ MR1.1 97 4 = ft w q ∧ rg2 MR MR1) ∨
    (∃ p1 C1 c1 L1 M1, f_LawReader_readClause (nI k) M = some (true, M1) ∧ k < 12 ∧ lh S n p1 C1 c1 M1 ∧ lc L1 (k + 1) M1 ∧ lf2 M M1 ∧ p < p1 ∧ p1 ≤ n ∧ c1 ≤ p1 ∧ c ≤ c1 ∧ (∀ i, i < c → C1 i = C i) ∧ (∀ i, i < k → L1 i = L i) ∧ cl C1 c1 (L1 k) ∧ ∀ MR, lr0 S n p C c MR → lk L k MR → ∃ MR1, f_R_readsClause MR = some (true, MR1) ∧ lr0 S n p1 C1 c1 MR1 ∧ lk L1 (k + 1) MR1 ∧ rg2 MR MR1) := by
  have hn2 : n ≤ 200 := by omega
  have hlt := tx_g_lt ho hn2 p
  have hix : ∀ x, x < 257 → (pp_ix [112, 109] x 0 = -1 ↔ ¬ (x = 112 ∨ x = 109)) := by decide +kernel
  unfold f_LawReader_readClause
  rw [h.1.2.2.2, pp_let, sh_among_141 ho hn2 h.1, pp_bd]
  by_cases hg : tx_g S n p = 112 ∨ tx_g S n p = 109
  · have hpn : p < n := tx_g_in (c := tx_g S n p) rfl (by omega)
    rw [if_neg (fun q => (hix _ hlt).mp q hg)]
    have hJ : ∀ (X Y : Option (Bool × mm_M)), (if tx_I (tx_g S n p) = 112 then X else if tx_I (tx_g S n p) = 109 then X else Y) = X := fun X Y => by
      rcases hg with hg | hg <;> rw [hg] <;> rfl
    by_cases h12 : k < 12
    · rw [if_pos (show nI k < 12 from nI_lt (b := 12) h12 (by decide))]
      obtain ⟨Ma, g1, g2, g3⟩ := sh_step1 ho hn2 (show p < 300 by omega) h.1
      have ha := h.t g2 g3
      rw [g1, pp_bd, ha.2.1, pp_let]
      -- the reference, as far as the sum
      have ref : ∀ MR, lr0 S n p C c MR → lk L k MR → ∃ MR1, f_R_readsClause MR = (mm_bd (f_R_readsSum MR1) fun b_9 M_10 => if b_9 = true then if mm_in (M_10.1 97 25) (mm_al 113) = true then mm_let (mm_setA M_10 113 ((M_10.1 97 25).toNatClampNeg) (M_10.1 97 23)) fun M_11 => mm_bd (f_R_readsCondition M_11) fun b_12 M_13 => if b_12 = true then if mm_in (M_13.1 97 25) (mm_al 114) = true then mm_let (mm_setA M_13 114 ((M_13.1 97 25).toNatClampNeg) (M_13.1 97 23)) fun M_14 => mm_let (mm_setI M_14 97 25 ((M_14.1 97 25) + 1)) fun M_15 => some (true, M_15) else none else some (false, M_13) else none else some (false, M_10)) ∧ lr S n (p + 1) 0 [] C c MR1 ∧ lk L k MR1 ∧ MR1.2.1 111 k = nI (tx_g S n p) ∧ MR1.2.1 112 k = nI c ∧ rg2 MR MR1 := fun MR hR hL => by
        have e1 : ∀ v, (mm_setI (mm_setA MR 111 k v) 97 2 (nI (p + 1))).1 97 25 = nI k := fun v => hL.1
        have e2 : ∀ v, (mm_setI (mm_setA MR 111 k v) 97 2 (nI (p + 1))).1 97 23 = nI c := fun v => hR.2.1
        have e3 : ∀ v, (mm_setA MR 111 k v).1 97 2 = nI p := fun v => hR.1.2.2
        refine ⟨mm_setI (mm_setI (mm_setA (mm_setI (mm_setA MR 111 k (nI (tx_g S n p))) 97 2 (nI (p + 1))) 112 k (nI c)) 97 22 0) 97 24 0, ?_, ?_, ?_, ?_, ?_, ?_⟩
        · unfold f_R_readsClause
          rw [sr_here ho hn2 (by omega) hR.1, pp_bd, pp_jn]
          dsimp only
          rw [hJ, hL.1, if_neg (fun q => by rw [show (12 : Int32) = nI 12 from rfl, nI_eq (by omega) (by decide)] at q; omega), show mm_al 111 = 12 from rfl, show mm_al 112 = 12 from rfl, pp_in h12 (by decide), if_pos rfl, nI_clamp (by omega), pp_let, e3, nI_1, pp_let, e1, e2, pp_in h12 (by decide), if_pos rfl, nI_clamp (by omega), pp_let, pp_let, pp_let, tx_Ig (by omega)]
        · have hf : rg2 MR (mm_setI (mm_setI (mm_setA (mm_setI (mm_setA MR 111 k (nI (tx_g S n p))) 97 2 (nI (p + 1))) 112 k (nI c)) 97 22 0) 97 24 0) := ((((rg2.rf.a (by decide)).s (by decide)).a (by decide)).s (by decide)).s (by decide)
          exact ⟨⟨hf.RR hR.1.1, hR.1.2.1, rfl⟩, rfl, hR.2.1, fun i hi => hR.2.2 i hi, rfl, trivial⟩
        · refine ⟨hL.1, fun i hi => ?_⟩
          have := hL.2 i hi
          refine ⟨?_, ?_, this.2.2.1, this.2.2.2⟩
          · show (if 111 = 112 ∧ i = k then nI c else if 111 = 111 ∧ i = k then nI (tx_g S n p) else MR.2.1 111 i) = _
            rw [if_neg (fun q => absurd q.1 (by decide)), if_neg (fun q => by omega)]
            exact this.1
          · show (if 112 = 112 ∧ i = k then nI c else if 112 = 111 ∧ i = k then nI (tx_g S n p) else MR.2.1 112 i) = _
            rw [if_neg (fun q => by omega), if_neg (fun q => by omega)]
            exact this.2.1
        · show (if 111 = 112 ∧ k = k then nI c else if 111 = 111 ∧ k = k then nI (tx_g S n p) else _) = _
          rw [if_neg (fun q => absurd q.1 (by decide)), if_pos ⟨rfl, rfl⟩]
        · show (if 112 = 112 ∧ k = k then nI c else _) = _
          rw [if_pos ⟨rfl, rfl⟩]
        · exact ((((rg2.rf.a (by decide)).s (by decide)).a (by decide)).s (by decide)).s (by decide)
      rcases sf_top ho hn (o := 0) (by decide) (show p + 1 ≤ n by omega) (show c ≤ p + 1 by omega) ha with ⟨w, q, Mb, e1, e2, e3, e4, e5, e6⟩ | ⟨p1, C1, c1, Mb, e1, e2, e3, e4, e5, e6, e7, e8⟩
      · rw [show f_LawReader_readSum mm_rd 0 Ma = _ from e1, pp_bd, if_neg (by decide)]
        refine Or.inl ⟨w, q, Mb, rfl, e2, e3, e4, (g3.l.tr e5).l2, fun MR hR hL => ?_⟩
        obtain ⟨MR1, r1, r2, r3, r4, r5, r6⟩ := ref MR hR hL
        obtain ⟨MR2, s1, s2, s3⟩ := e6 [] MR1 (Nat.zero_le _) (by unfold T2; decide) r2
        refine ⟨MR2, ?_, s2, r6.tr s3.g2⟩
        rw [r1, s1, pp_bd, if_neg (by decide)]
      · rw [show f_LawReader_readSum mm_rd 0 Ma = _ from e1, pp_bd, if_pos rfl, e2.2.1, pp_let]
        -- the reference, as far as the condition
        have ref2 : ∀ MR, lr0 S n p C c MR → lk L k MR → ∃ MR1, f_R_readsClause MR = (mm_bd (f_R_readsCondition MR1) fun b_12 M_13 => if b_12 = true then if mm_in (M_13.1 97 25) (mm_al 114) = true then mm_let (mm_setA M_13 114 ((M_13.1 97 25).toNatClampNeg) (M_13.1 97 23)) fun M_14 => mm_let (mm_setI M_14 97 25 ((M_14.1 97 25) + 1)) fun M_15 => some (true, M_15) else none else some (false, M_13)) ∧ lr0 S n p1 C1 c1 MR1 ∧ lk L k MR1 ∧ MR1.2.1 111 k = nI (tx_g S n p) ∧ MR1.2.1 112 k = nI c ∧ MR1.2.1 113 k = nI c1 ∧ rg2 MR MR1 := fun MR hR hL => by
          obtain ⟨MR1, r1, r2, r3, r4, r5, r6⟩ := ref MR hR hL
          obtain ⟨MR2, s1, s2, s3⟩ := e8 [] MR1 (Nat.zero_le _) (by unfold T2; decide) r2
          have hL2 := r3.g s3
          refine ⟨mm_setA MR2 113 k (nI c1), ?_, ?_, ?_, ?_, ?_, ?_, (r6.tr s3.g2).a (by decide)⟩
          · rw [r1, s1, pp_bd, if_pos rfl, hL2.1, show mm_al 113 = 12 from rfl, pp_in h12 (by decide), if_pos rfl, nI_clamp (by omega), s2.2.2.1, pp_let]
          · exact ⟨⟨(rg2.rf.a (by decide)).RR s2.1.1, s2.1.2⟩, s2.2.2.1, s2.2.2.2.1⟩
          · refine ⟨hL2.1, fun i hi => ?_⟩
            have := hL2.2 i hi
            refine ⟨this.1, this.2.1, ?_, this.2.2.2⟩
            show (if 113 = 113 ∧ i = k then _ else MR2.2.1 113 i) = _
            rw [if_neg (fun q => by omega)]
            exact this.2.2.1
          · show MR2.2.1 111 k = _
            rw [s3.2.1 111 (by decide) (by decide)]; exact r4
          · show MR2.2.1 112 k = _
            rw [s3.2.1 112 (by decide) (by decide)]; exact r5
          · show (if 113 = 113 ∧ k = k then nI c1 else _) = _
            rw [if_pos ⟨rfl, rfl⟩]
        rcases sf_cond ho hn e5 (show c1 ≤ p1 by omega) e2 (fun M_15 => mm_bd (f_Law_addClause_46 (tx_I (tx_g S n p)) (nI c) (nI c1) M_15) fun _ M_17 => some (true, M_17)) with ⟨w, q, Mc, d1, d2, d3, d4, d5, d6⟩ | ⟨p2, C2, c2, Mc, d1, d2, d3, d4, d5, d6, d7, d8, d9⟩
        · refine Or.inl ⟨w, q, Mc, d1, d2, d3, d4, ((g3.l.tr e3).tr d5).l2, fun MR hR hL => ?_⟩
          obtain ⟨MR1, r1, r2, r3, r4, r5, r6, r7⟩ := ref2 MR hR hL
          obtain ⟨MR2, s1, s2, s3⟩ := d6 MR1 r2
          refine ⟨MR2, ?_, s2, r7.tr s3.g2⟩
          rw [r1, s1, pp_bd, if_neg (by decide)]
        · have hf3 := (g3.l.tr e3).tr d3
          obtain ⟨Md, f1, f2, f3, f4⟩ := sh_addClause (l := tx_g S n p) (a := c) (b := c1) d2 (hl.l hf3) h12
          have hLk : cu L k (tx_g S n p, c, c1, c2) k = (tx_g S n p, c, c1, c2) := if_pos rfl
          have hLi : ∀ i, i < k → cu L k (tx_g S n p, c, c1, c2) i = L i := fun i hi => if_neg (by omega)
          have x1 := e7.1
          have x2 := d7.1
          refine Or.inr ⟨p2, C2, c2, cu L k (tx_g S n p, c, c1, c2), Md, d1.trans (by rw [tx_Ig (by omega), f1, pp_bd]), h12, f2, f3, hf3.l2.tr f4, by omega, d5, by omega, by omega, fun i hi => by rw [d7.2.1 i (by omega), e7.2.1 i hi], hLi, by rw [hLk]; exact cl_of hg e7 d7 d8, fun MR hR hL => ?_⟩
          obtain ⟨MR1, r1, r2, r3, r4, r5, r6, r7⟩ := ref2 MR hR hL
          obtain ⟨MR2, s1, s2, s3⟩ := d9 MR1 r2
          have hL2 := r3.g s3
          have y1 : MR2.2.1 111 k = nI (tx_g S n p) := by rw [s3.2.1 111 (by decide) (by decide)]; exact r4
          have y2 : MR2.2.1 112 k = nI c := by rw [s3.2.1 112 (by decide) (by decide)]; exact r5
          have y3 : MR2.2.1 113 k = nI c1 := by rw [s3.2.1 113 (by decide) (by decide)]; exact r6
          have z1 : ∀ v, (mm_setA MR2 114 k v).1 97 25 = nI k := fun v => hL2.1
          refine ⟨mm_setI (mm_setA MR2 114 k (nI c2)) 97 25 (nI (k + 1)), ?_, ⟨⟨((rg2.rf.a (by decide)).s (by decide)).RR s2.1.1, s2.1.2⟩, s2.2.1, s2.2.2⟩, ⟨rfl, fun i hi => ?_⟩, ((r7.tr s3.g2).a (by decide)).s (by decide)⟩
          · rw [r1, s1, pp_bd, if_pos rfl, hL2.1, show mm_al 114 = 12 from rfl, pp_in h12 (by decide), if_pos rfl, nI_clamp (by omega), s2.2.1, pp_let, z1, nI_1, pp_let]
          · by_cases e : i = k
            · subst e
              rw [hLk]
              refine ⟨y1, y2, y3, ?_⟩
              show (if 114 = 114 ∧ i = i then nI c2 else _) = _
              rw [if_pos ⟨rfl, rfl⟩]
            · rw [hLi i (by omega)]
              have := hL2.2 i (by omega)
              refine ⟨this.1, this.2.1, this.2.2.1, ?_⟩
              show (if 114 = 114 ∧ i = k then nI c2 else MR2.2.1 114 i) = _
              rw [if_neg (fun q => e q.2)]
              exact this.2.2.2
    · obtain ⟨M1, g1, g2, g3⟩ := sh_fail h.1 4
      rw [if_neg (show ¬ nI k < 12 from nI_nlt (b := 12) (by omega) (by omega)), show f_TextReader_failHere 4 M = _ from g1, pp_bd]
      refine Or.inl ⟨4, p, M1, rfl, g2, by decide, hp, g3.l.l2, fun MR hR hL => ⟨mm_setI MR 97 4 (ft 4 p), ?_, rfl, rg2.rf.s (by decide)⟩⟩
      unfold f_R_readsClause
      rw [sr_here ho hn2 (by omega) hR.1, pp_bd, pp_jn]
      dsimp only
      rw [hJ, hL.1, if_pos (show nI k = 12 from by rw [show k = 12 by omega]; rfl), hR.1.2.2, show f_R_wrongAt 4 (nI p) MR = _ from sr_wrong 4 p MR, pp_bd]
  · obtain ⟨M1, g1, g2, g3⟩ := sh_fail h.1 1
    rw [if_pos ((hix _ hlt).mpr hg), show f_TextReader_failHere 1 M = _ from g1, pp_bd]
    refine Or.inl ⟨1, p, M1, rfl, g2, by decide, hp, g3.l.l2, fun MR hR hL => ⟨mm_setI MR 97 4 (ft 1 p), ?_, rfl, rg2.rf.s (by decide)⟩⟩
    unfold f_R_readsClause
    rw [sr_here ho hn2 (by omega) hR.1, pp_bd, pp_jn]
    dsimp only
    rw [if_neg (show ¬ tx_I (tx_g S n p) = 112 from tx_Ine ho hn (by decide) (fun q => hg (Or.inl q))), if_neg (show ¬ tx_I (tx_g S n p) = 109 from tx_Ine ho hn (by decide) (fun q => hg (Or.inr q))), hR.1.2.2, show f_R_wrongAt 1 (nI p) MR = _ from sr_wrong 1 p MR, pp_bd]
end CLAUSE
