/-! law -/
section LAWOP
variable {S : ss_S} {n p o c k : Nat} {C C1 C2 B D : Nat → Nat × Nat} {M M1 M2 : mm_M} {ws : List Nat} {L : Nat → Nat × Nat × Nat × Nat}
/-- both hold one law -/
def lwQ (v : Int32) (A : Nat → Nat → Int32) : Prop := ∃ (k c : Nat) (C : Nat → Nat × Nat) (L : Nat → Nat × Nat × Nat × Nat), v = nI k ∧ k ≤ 12 ∧ c ≤ 160 ∧ (∀ i, i < c → A 38 i = nI (ch (C i).1) ∧ A 39 i = nI (ca C i) ∧ A 115 i = nI (1048576 * (C i).1 + (C i).2)) ∧ ∀ i, i < k → (A 40 i = nI (L i).1 ∧ A 41 i = nI (L i).2.1 ∧ A 42 i = nI (L i).2.2.1 ∧ A 43 i = nI (L i).2.2.2) ∧ (A 116 i = nI (L i).1 ∧ A 117 i = nI (L i).2.1 ∧ A 118 i = nI (L i).2.2.1 ∧ A 119 i = nI (L i).2.2.2) ∧ cl C c (L i)
theorem sf_laws (ho : ss_Ok S) (hn : n ≤ 160) {k31 k65 k79 : mm_M → Option (Int32 × mm_M)} {k49 : Int32 → mm_M → Option (Int32 × mm_M)} {K : Bool → mm_M → Option (Int32 × mm_M)} : ∀ F k p C c L M, k + F = 12 → p ≤ n → c ≤ p → lh S n p C c M → lc L k M → (∀ i, i < k → cl C c (L i)) → ∀ m,
    (∃ w q M1, (lp_LawReader_read_17 k31 k49 k65 k79 (m + F + 1) (nI k) M = k31 M1 ∨ lp_LawReader_read_17 k31 k49 k65 k79 (m + F + 1) (nI k) M = k65 M1) ∧ M1.1 3 4 = ft w q ∧ w ≤ 9 ∧ q ≤ n ∧ lf2 M M1 ∧ ∀ MR m', lr0 S n p C c MR → lk L k MR → ∃ MR1, (mm_bd (f_R_readsClause MR) fun b M' => lp_R_law_46 K (m' + F + 1) b M') = K false MR1 ∧ MR1.1 97 4 = ft w q ∧ rg2 MR MR1) ∨
    (∃ k1 C1 c1 L1 p1 M1, lp_LawReader_read_17 k31 k49 k65 k79 (m + F + 1) (nI k) M = k49 (nI k1) M1 ∧ k1 < 12 ∧ lh S n p1 C1 c1 M1 ∧ c1 ≤ 160 ∧ lc L1 (k1 + 1) M1 ∧ (∀ i, i < k1 + 1 → cl C1 c1 (L1 i)) ∧ lf2 M M1 ∧ ∀ MR m', lr0 S n p C c MR → lk L k MR → ∃ MR1, (mm_bd (f_R_readsClause MR) fun b M' => lp_R_law_46 K (m' + F + 1) b M') = K true MR1 ∧ lr0 S n p1 C1 c1 MR1 ∧ lk L1 (k1 + 1) MR1 ∧ rg2 MR MR1) := by
  have hn2 : n ≤ 200 := by omega
  intro F
  induction F with
  | zero =>
    intro k p C c L M hk hp hc h hl hcl m
    rw [show m + 0 + 1 = m + 1 from rfl, lp_LawReader_read_17, if_neg (show ¬ (12 : Int32) < nI k from nI_nlt (a := 12) (by omega) (by decide))]
    rcases sf_clause ho hn hp hc (by omega) h hl with ⟨w, q, M1, e1, e2, e3, e4, e5, e6⟩ | ⟨p1, C1, c1, L1, M1, e1, e2, _⟩
    · rw [e1, pp_bd, if_neg (by decide)]
      refine Or.inl ⟨w, q, M1, Or.inl rfl, e2, e3, e4, e5, fun MR m' hR hL => ?_⟩
      obtain ⟨MR1, r1, r2, r3⟩ := e6 MR hR hL
      refine ⟨MR1, ?_, r2, r3⟩
      rw [r1, pp_bd, show m' + 0 + 1 = m' + 1 from rfl, lp_R_law_46, if_neg (by decide)]
    · omega
  | succ F ih =>
    intro k p C c L M hk hp hc h hl hcl m
    rw [show m + (F + 1) + 1 = (m + F + 1) + 1 from rfl, lp_LawReader_read_17, if_neg (show ¬ (12 : Int32) < nI k from nI_nlt (a := 12) (by omega) (by decide))]
    rcases sf_clause ho hn hp hc (by omega) h hl with ⟨w, q, M1, e1, e2, e3, e4, e5, e6⟩ | ⟨p1, C1, c1, L1, M1, e1, e2, e3, e4, e5, e6, e7, e8, e9, e10, e11, e12, e13⟩
    · rw [e1, pp_bd, if_neg (by decide)]
      refine Or.inl ⟨w, q, M1, Or.inl rfl, e2, e3, e4, e5, fun MR m' hR hL => ?_⟩
      obtain ⟨MR1, r1, r2, r3⟩ := e6 MR hR hL
      refine ⟨MR1, ?_, r2, r3⟩
      rw [r1, pp_bd, show m' + (F + 1) + 1 = (m' + F + 1) + 1 from rfl, lp_R_law_46, if_neg (by decide)]
    · have hcl1 : ∀ i, i < k + 1 → cl C1 c1 (L1 i) := fun i hi => by
        by_cases q : i = k
        · rw [q]; exact e12
        · rw [e11 i (by omega)]; exact (hcl i (by omega)).mv e10 e9
      rw [e1, pp_bd, if_pos rfl, sh_atEnd ho hn2 e3.1, pp_bd]
      by_cases hq : n ≤ p1
      · rw [decide_eq_true hq, if_pos rfl]
        refine Or.inr ⟨k, C1, c1, L1, p1, M1, rfl, e2, e3, by omega, e4, hcl1, e5, fun MR m' hR hL => ?_⟩
        obtain ⟨MR1, r1, r2, r3, r4⟩ := e13 MR hR hL
        refine ⟨MR1, ?_, r2, r3, r4⟩
        rw [r1, pp_bd, show m' + (F + 1) + 1 = (m' + F + 1) + 1 from rfl, lp_R_law_46, if_pos rfl, r2.1.2.1, r2.1.2.2, if_pos (nI_le hq (by omega))]
      · rw [decide_eq_false hq, if_neg (show ¬ false = true by decide)]
        obtain ⟨t1, t2⟩ := sh_take ho hn2 (show p1 < 300 by omega) (c := 59) (by decide) e3.1
        by_cases hs : tx_g S n p1 = 59
        · obtain ⟨M2, u1, u2, u3⟩ := t1 hs
          rw [show f_TextReader_take 59 M1 = _ from u1, pp_bd, if_pos rfl, nI_1, pp_let]
          have ref : ∀ MR m', lr0 S n p C c MR → lk L k MR → ∃ MR1, (mm_bd (f_R_readsClause MR) fun b M' => lp_R_law_46 K (m' + (F + 1) + 1) b M') = (mm_bd (f_R_readsClause MR1) fun b M' => lp_R_law_46 K (m' + F + 1) b M') ∧ lr0 S n (p1 + 1) C1 c1 MR1 ∧ lk L1 (k + 1) MR1 ∧ rg2 MR MR1 := fun MR m' hR hL => by
            obtain ⟨MR1, r1, r2, r3, r4⟩ := e13 MR hR hL
            obtain ⟨v1, v2⟩ := sr_takes ho hn2 (show p1 < 300 by omega) (c := 59) (by decide) r2.1
            refine ⟨mm_setI MR1 97 2 (nI (p1 + 1)), ?_, ⟨r2.1.to, r2.2⟩, r3.g (rg.rf.s (by decide)), r4.s (by decide)⟩
            have hb : ∀ (b : Bool) (X : mm_M), (if b = true then lp_R_law_46 K (m' + F + 1) true X else lp_R_law_46 K (m' + F + 1) false X) = lp_R_law_46 K (m' + F + 1) b X := fun b X => by cases b <;> rfl
            rw [r1, pp_bd, show m' + (F + 1) + 1 = (m' + F + 1) + 1 from rfl, lp_R_law_46, if_pos rfl, r2.1.2.1, r2.1.2.2, if_neg (nI_ge (by omega) (by omega)), show f_R_takes 59 MR1 = _ from v1 hs, pp_bd, pp_jn, pp_jn, if_pos rfl]
            simp only [hb]
          rcases ih (k + 1) (p1 + 1) C1 c1 L1 M2 (by omega) (by omega) (by omega) (e3.t u2 u3) (e4.l u3.l) hcl1 m with ⟨w, q, M3, a1, a2, a3, a4, a5, a6⟩ | ⟨k2, C2, c2, L2, p2, M3, a1, a2, a3, a4, a5, a6, a7, a8⟩
          · refine Or.inl ⟨w, q, M3, a1, a2, a3, a4, (e5.tr u3.l.l2).tr a5, fun MR m' hR hL => ?_⟩
            obtain ⟨MR1, r1, r2, r3, r4⟩ := ref MR m' hR hL
            obtain ⟨MR2, s1, s2, s3⟩ := a6 MR1 m' r2 r3
            exact ⟨MR2, r1.trans s1, s2, r4.tr s3⟩
          · refine Or.inr ⟨k2, C2, c2, L2, p2, M3, a1, a2, a3, a4, a5, a6, (e5.tr u3.l.l2).tr a7, fun MR m' hR hL => ?_⟩
            obtain ⟨MR1, r1, r2, r3, r4⟩ := ref MR m' hR hL
            obtain ⟨MR2, s1, s2, s3, s4⟩ := a8 MR1 m' r2 r3
            exact ⟨MR2, r1.trans s1, s2, s3, r4.tr s4⟩
        · obtain ⟨M2, u1, u2, u3⟩ := t2 hs
          rw [show f_TextReader_take 59 M1 = _ from u1, pp_bd, if_neg (by decide)]
          refine Or.inl ⟨1, p1, M2, Or.inr rfl, u2, by decide, e7, e5.tr u3.l.l2, fun MR m' hR hL => ?_⟩
          obtain ⟨MR1, r1, r2, r3, r4⟩ := e13 MR hR hL
          obtain ⟨v1, v2⟩ := sr_takes ho hn2 (show p1 < 300 by omega) (c := 59) (by decide) r2.1
          refine ⟨mm_setI MR1 97 4 (ft 1 p1), ?_, rfl, r4.s (by decide)⟩
          rw [r1, pp_bd, show m' + (F + 1) + 1 = (m' + F + 1) + 1 from rfl, lp_R_law_46, if_pos rfl, r2.1.2.1, r2.1.2.2, if_neg (nI_ge (by omega) (by omega)), show f_R_takes 59 MR1 = _ from v2 hs, pp_bd, pp_jn, pp_jn]
          dsimp only
          rw [if_neg (by decide), lp_R_law_46, if_neg (by decide)]
theorem ss_RH.rx {f : Nat → Int32} {x : Nat} (h : ss_RH S M) (hx : 38 ≤ x) : ss_RH S (mm_setR M x f) := ⟨h.1, fun a ha j hj => by
  have := ss_ha_38 ha hj
  rw [ss_setr_ne (by omega)]
  exact h.2 a ha j hj⟩
theorem cp_in (M : mm_M) (x y : Nat) (q : Int32) {i : Nat} (hi : i < q.toNatClampNeg) : (mm_cp M x y 0 0 q).2.1 y i = M.2.1 x i := by
  unfold mm_cp
  rw [pp_sro, show (0 : Int32).toNatClampNeg = 0 from rfl, pk_cpy_in (Nat.zero_le _) (by omega)]
  simp
theorem cp_ne (M : mm_M) (x y : Nat) (q : Int32) {i z : Nat} (hz : z ≠ y) : (mm_cp M x y 0 0 q).2.1 z i = M.2.1 z i := by
  unfold mm_cp
  exact pp_srn hz
/-- the class takes the law over -/
theorem sh_copyLaw (M : mm_M) : ∃ M1, f_Law_copyFrom_37_46 M = some ((), M1) ∧ (∀ i, i < 160 → M1.2.1 38 i = M.2.1 47 i ∧ M1.2.1 39 i = M.2.1 48 i) ∧ (∀ i, i < 12 → M1.2.1 40 i = M.2.1 49 i ∧ M1.2.1 41 i = M.2.1 50 i ∧ M1.2.1 42 i = M.2.1 51 i ∧ M1.2.1 43 i = M.2.1 52 i) ∧ (∀ S, ss_RH S M → ss_RH (ss_s S 10 (M.1 46 7)) M1) ∧ ss_m 37 44 M M1 := by
  unfold f_Law_copyFrom_37_46
  rw [show mm_cpok 47 38 0 0 160 = true from by decide, if_pos rfl, pp_let, show mm_cpok 48 39 0 0 160 = true from by decide, if_pos rfl, pp_let, pp_let, show mm_cpok 49 40 0 0 12 = true from by decide, if_pos rfl, pp_let, show mm_cpok 50 41 0 0 12 = true from by decide, if_pos rfl, pp_let, show mm_cpok 51 42 0 0 12 = true from by decide, if_pos rfl, pp_let, show mm_cpok 52 43 0 0 12 = true from by decide, if_pos rfl, pp_let, pp_let]
  have c160 : (160 : Int32).toNatClampNeg = 160 := rfl
  have c12 : (12 : Int32).toNatClampNeg = 12 := rfl
  refine ⟨_, rfl, fun i hi => ⟨?_, ?_⟩, fun i hi => ⟨?_, ?_, ?_, ?_⟩, fun S h => ?_, ?_⟩
  · rw [pp_si2, cp_ne _ _ _ _ (by decide), cp_ne _ _ _ _ (by decide), cp_ne _ _ _ _ (by decide), cp_ne _ _ _ _ (by decide), pp_si2, cp_ne _ _ _ _ (by decide), cp_in _ _ _ _ (by rw [c160]; exact hi)]
  · rw [pp_si2, cp_ne _ _ _ _ (by decide), cp_ne _ _ _ _ (by decide), cp_ne _ _ _ _ (by decide), cp_ne _ _ _ _ (by decide), pp_si2, cp_in _ _ _ _ (by rw [c160]; exact hi), cp_ne _ _ _ _ (by decide)]
  · rw [pp_si2, cp_ne _ _ _ _ (by decide), cp_ne _ _ _ _ (by decide), cp_ne _ _ _ _ (by decide), cp_in _ _ _ _ (by rw [c12]; exact hi), pp_si2, cp_ne _ _ _ _ (by decide), cp_ne _ _ _ _ (by decide)]
  · rw [pp_si2, cp_ne _ _ _ _ (by decide), cp_ne _ _ _ _ (by decide), cp_in _ _ _ _ (by rw [c12]; exact hi), cp_ne _ _ _ _ (by decide), pp_si2, cp_ne _ _ _ _ (by decide), cp_ne _ _ _ _ (by decide)]
  · rw [pp_si2, cp_ne _ _ _ _ (by decide), cp_in _ _ _ _ (by rw [c12]; exact hi), cp_ne _ _ _ _ (by decide), cp_ne _ _ _ _ (by decide), pp_si2, cp_ne _ _ _ _ (by decide), cp_ne _ _ _ _ (by decide)]
  · rw [pp_si2, cp_in _ _ _ _ (by rw [c12]; exact hi), cp_ne _ _ _ _ (by decide), cp_ne _ _ _ _ (by decide), cp_ne _ _ _ _ (by decide), pp_si2, cp_ne _ _ _ _ (by decide), cp_ne _ _ _ _ (by decide)]
  · exact (((((((h.rx (by decide)).rx (by decide)).sx (by decide)).rx (by decide)).rx (by decide)).rx (by decide)).rx (by decide)).s 10 (by decide) rfl _
  · exact (((((((ss_m.rf.r (by decide)).r (by decide)).s (by decide)).r (by decide)).r (by decide)).r (by decide)).r (by decide)).s (by decide)
/-- the reference takes the law over -/
def fr (lo hi : Nat) (M M1 : mm_M) : Prop := M1.1 = M.1 ∧ M1.2.2 = M.2.2 ∧ ∀ o, (o < lo ∨ hi < o) → M1.2.1 o = M.2.1 o
theorem fr.a {lo hi x i : Nat} {v : Int32} (h : fr lo hi M M1) (hx : lo ≤ x ∧ x ≤ hi) : fr lo hi M (mm_setA M1 x i v) := ⟨h.1, h.2.1, fun o ho => (ss_seta_ne (by omega)).trans (h.2.2 o ho)⟩
theorem sr_lawCodes (hc : c ≤ 180) (h : M.1 97 23 = nI c) (K : mm_M → Option (Int32 × mm_M)) : ∃ M1, lp_R_law_110 K mm_fu 0 M = K M1 ∧ fr 115 115 M M1 ∧ ∀ j, j < c → M1.2.1 115 j = M.2.1 109 j := by
  refine pp_ex (lp := fun m (a : Int32 × mm_M) => lp_R_law_110 K m a.1 a.2) (fun i a => a.1 = nI i ∧ fr 115 115 M a.2 ∧ ∀ j, j < i → a.2.2.1 115 j = M.2.1 109 j) (fun r => ∃ M1, r = K M1 ∧ fr 115 115 M M1 ∧ ∀ j, j < c → M1.2.1 115 j = M.2.1 109 j) c (by omega) (fun i a hi ha => Or.inl ?_) (fun a ha m => ?_) (a := (0, M)) ⟨rfl, ⟨rfl, rfl, fun _ _ => rfl⟩, fun j hj => by omega⟩
  · obtain ⟨v, M'⟩ := a
    obtain ⟨h1, h2, h3⟩ := ha
    have h1 : v = nI i := h1
    subst h1
    have e1 : M'.1 97 23 = nI c := by rw [h2.1]; exact h
    have e2 : M'.2.1 109 i = M.2.1 109 i := by rw [h2.2.2 109 (by decide)]
    refine ⟨(nI (i + 1), mm_setA M' 115 i (M.2.1 109 i)), ⟨rfl, h2.a (by decide), fun j hj => ?_⟩, fun m => ?_⟩
    · show (if 115 = 115 ∧ j = i then M.2.1 109 i else M'.2.1 115 j) = _
      by_cases e : j = i
      · rw [if_pos ⟨rfl, e⟩, e]
      · rw [if_neg (fun q => e q.2)]; exact h3 j (by omega)
    · show lp_R_law_110 K (m + 1) (nI i) M' = lp_R_law_110 K m (nI (i + 1)) _
      rw [lp_R_law_110, e1, if_neg (nI_ge hi (by omega)), show mm_al 109 = 180 from rfl, show mm_al 115 = 180 from rfl, pp_in (by omega) (by decide), if_pos rfl, if_pos rfl, nI_clamp (by omega), e2, pp_let, nI_1, pp_let]
  · obtain ⟨v, M'⟩ := a
    obtain ⟨h1, h2, h3⟩ := ha
    have h1 : v = nI c := h1
    subst h1
    have e1 : M'.1 97 23 = nI c := by rw [h2.1]; exact h
    refine ⟨M', ?_, h2, h3⟩
    show lp_R_law_110 K (m + 1) (nI c) M' = _
    rw [lp_R_law_110, e1, if_pos (nI_le (Nat.le_refl _) (by omega))]
theorem sr_clauses (hk : k ≤ 12) (h : M.1 97 25 = nI k) (K : mm_M → Option (Int32 × mm_M)) : ∃ M1, lp_R_law_138 K mm_fu 0 M = K M1 ∧ fr 116 119 M M1 ∧ ∀ j, j < k → M1.2.1 116 j = M.2.1 111 j ∧ M1.2.1 117 j = M.2.1 112 j ∧ M1.2.1 118 j = M.2.1 113 j ∧ M1.2.1 119 j = M.2.1 114 j := by
  refine pp_ex (lp := fun m (a : Int32 × mm_M) => lp_R_law_138 K m a.1 a.2) (fun i a => a.1 = nI i ∧ fr 116 119 M a.2 ∧ ∀ j, j < i → a.2.2.1 116 j = M.2.1 111 j ∧ a.2.2.1 117 j = M.2.1 112 j ∧ a.2.2.1 118 j = M.2.1 113 j ∧ a.2.2.1 119 j = M.2.1 114 j) (fun r => ∃ M1, r = K M1 ∧ fr 116 119 M M1 ∧ ∀ j, j < k → M1.2.1 116 j = M.2.1 111 j ∧ M1.2.1 117 j = M.2.1 112 j ∧ M1.2.1 118 j = M.2.1 113 j ∧ M1.2.1 119 j = M.2.1 114 j) k (by omega) (fun i a hi ha => Or.inl ?_) (fun a ha m => ?_) (a := (0, M)) ⟨rfl, ⟨rfl, rfl, fun _ _ => rfl⟩, fun j hj => by omega⟩
  · obtain ⟨v, M'⟩ := a
    obtain ⟨h1, h2, h3⟩ := ha
    have h1 : v = nI i := h1
    subst h1
    have e1 : M'.1 97 25 = nI k := by rw [h2.1]; exact h
    have e2 : M'.2.1 111 i = M.2.1 111 i := by rw [h2.2.2 111 (by decide)]
    have e3 : M'.2.1 112 i = M.2.1 112 i := by rw [h2.2.2 112 (by decide)]
    have e4 : M'.2.1 113 i = M.2.1 113 i := by rw [h2.2.2 113 (by decide)]
    have e5 : M'.2.1 114 i = M.2.1 114 i := by rw [h2.2.2 114 (by decide)]
    refine ⟨(nI (i + 1), mm_setA (mm_setA (mm_setA (mm_setA M' 116 i (M'.2.1 111 i)) 117 i (M'.2.1 112 i)) 118 i (M'.2.1 113 i)) 119 i (M'.2.1 114 i)), ⟨rfl, (((h2.a (by decide)).a (by decide)).a (by decide)).a (by decide), fun j hj => ?_⟩, fun m => ?_⟩
    · by_cases e : j = i
      · subst e
        rw [← e2, ← e3, ← e4, ← e5]
        refine ⟨?_, ?_, ?_, ?_⟩
        · show (if 116 = 119 ∧ j = j then M'.2.1 114 j else if 116 = 118 ∧ j = j then M'.2.1 113 j else if 116 = 117 ∧ j = j then M'.2.1 112 j else if 116 = 116 ∧ j = j then M'.2.1 111 j else M'.2.1 116 j) = _
          rw [if_neg (fun q => absurd q.1 (by decide)), if_neg (fun q => absurd q.1 (by decide)), if_neg (fun q => absurd q.1 (by decide)), if_pos ⟨rfl, rfl⟩]
        · show (if 117 = 119 ∧ j = j then M'.2.1 114 j else if 117 = 118 ∧ j = j then M'.2.1 113 j else if 117 = 117 ∧ j = j then M'.2.1 112 j else _) = _
          rw [if_neg (fun q => absurd q.1 (by decide)), if_neg (fun q => absurd q.1 (by decide)), if_pos ⟨rfl, rfl⟩]
        · show (if 118 = 119 ∧ j = j then M'.2.1 114 j else if 118 = 118 ∧ j = j then M'.2.1 113 j else _) = _
          rw [if_neg (fun q => absurd q.1 (by decide)), if_pos ⟨rfl, rfl⟩]
        · show (if 119 = 119 ∧ j = j then M'.2.1 114 j else _) = _
          rw [if_pos ⟨rfl, rfl⟩]
      · have hv : ∀ x : Nat, (mm_setA (mm_setA (mm_setA (mm_setA M' 116 i (M'.2.1 111 i)) 117 i (M'.2.1 112 i)) 118 i (M'.2.1 113 i)) 119 i (M'.2.1 114 i)).2.1 x j = M'.2.1 x j := fun x => by
          show (if x = 119 ∧ j = i then M'.2.1 114 i else if x = 118 ∧ j = i then M'.2.1 113 i else if x = 117 ∧ j = i then M'.2.1 112 i else if x = 116 ∧ j = i then M'.2.1 111 i else M'.2.1 x j) = _
          rw [if_neg (fun q => e q.2), if_neg (fun q => e q.2), if_neg (fun q => e q.2), if_neg (fun q => e q.2)]
        show (mm_setA (mm_setA (mm_setA (mm_setA M' 116 i (M'.2.1 111 i)) 117 i (M'.2.1 112 i)) 118 i (M'.2.1 113 i)) 119 i (M'.2.1 114 i)).2.1 116 j = _ ∧ (mm_setA (mm_setA (mm_setA (mm_setA M' 116 i (M'.2.1 111 i)) 117 i (M'.2.1 112 i)) 118 i (M'.2.1 113 i)) 119 i (M'.2.1 114 i)).2.1 117 j = _ ∧ (mm_setA (mm_setA (mm_setA (mm_setA M' 116 i (M'.2.1 111 i)) 117 i (M'.2.1 112 i)) 118 i (M'.2.1 113 i)) 119 i (M'.2.1 114 i)).2.1 118 j = _ ∧ (mm_setA (mm_setA (mm_setA (mm_setA M' 116 i (M'.2.1 111 i)) 117 i (M'.2.1 112 i)) 118 i (M'.2.1 113 i)) 119 i (M'.2.1 114 i)).2.1 119 j = _
        rw [hv, hv, hv, hv]
        exact h3 j (by omega)
    · show lp_R_law_138 K (m + 1) (nI i) M' = lp_R_law_138 K m (nI (i + 1)) _
      rw [lp_R_law_138, e1, if_neg (nI_ge hi (by omega)), show mm_al 111 = 12 from rfl, show mm_al 112 = 12 from rfl, show mm_al 113 = 12 from rfl, show mm_al 114 = 12 from rfl, show mm_al 116 = 12 from rfl, show mm_al 117 = 12 from rfl, show mm_al 118 = 12 from rfl, show mm_al 119 = 12 from rfl, pp_in (by omega) (by decide), if_pos rfl, if_pos rfl, nI_clamp (by omega), pp_let, if_pos rfl, if_pos rfl, pp_let, if_pos rfl, if_pos rfl, pp_let, if_pos rfl, if_pos rfl, pp_let, nI_1, pp_let]
      rfl
  · obtain ⟨v, M'⟩ := a
    obtain ⟨h1, h2, h3⟩ := ha
    have h1 : v = nI k := h1
    subst h1
    have e1 : M'.1 97 25 = nI k := by rw [h2.1]; exact h
    refine ⟨M', ?_, h2, h3⟩
    show lp_R_law_138 K (m + 1) (nI k) M' = _
    rw [lp_R_law_138, e1, if_pos (nI_le (Nat.le_refl _) (by omega))]
end LAWOP
