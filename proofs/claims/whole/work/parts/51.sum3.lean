/-! sums: both sides -/
section SUMBOTH
variable {S : ss_S} {n p o c : Nat} {C C1 C2 : Nat → Nat × Nat} {M M1 M2 : mm_M} {ws : List Nat}
def rA (S : ss_S) (n o p : Nat) (C : Nat → Nat × Nat) (c w q : Nat) (T : List Nat → Prop) : Prop := ∀ b ws j m MR, b ≤ ws.length → ws.length ≤ p → T ws → lr S n p o ws C c MR → 8 ≤ j + o → 200 ≤ m + p → ∃ MR1, rr_S b j m MR = some (false, MR1) ∧ MR1.1 97 4 = ft w q ∧ rg MR MR1
def rB (S : ss_S) (n o p : Nat) (C : Nat → Nat × Nat) (c p1 : Nat) (C1 : Nat → Nat × Nat) (c1 : Nat) (T V : List Nat → Prop) : Prop := ∀ b ws j m MR, b ≤ ws.length → ws.length ≤ p → T ws → lr S n p o ws C c MR → 8 ≤ j + o → 200 ≤ m + p → ∃ pn m1 MR1 C0 c0, V pn ∧ rr_S b j m MR = rr_L b m1 MR1 ∧ lr S n p1 o (pn.map (1048576 * ·) ++ ws) C0 c0 MR1 ∧ C1 = cn C0 c0 pn ∧ c1 = c0 + pn.length ∧ pn.length + ws.length ≤ p1 ∧ 200 ≤ m1 + p1 ∧ rg MR MR1
def oX (S : ss_S) (n o p : Nat) (C : Nat → Nat × Nat) (c : Nat) (M : mm_M) (r : Option (Bool × mm_M)) (T V : List Nat → Prop) (Z : Nat → Prop) : Prop :=
  (∃ w q M1, r = some (false, M1) ∧ M1.1 3 4 = ft w q ∧ w ≤ 9 ∧ q ≤ n ∧ lf M M1 ∧ rA S n o p C c w q T) ∨
  (∃ p1 C1 c1 M1, r = some (true, M1) ∧ lh S n p1 C1 c1 M1 ∧ lf M M1 ∧ p < p1 ∧ p1 ≤ n ∧ c1 + p ≤ p1 + c ∧ ext C c C1 c1 ∧ Z (tx_g S n p1) ∧ rB S n o p C c p1 C1 c1 T V)
def T0 : List Nat → Prop := fun _ => True
def T1 : List Nat → Prop := fun ws => ¬ (4 ≤ tp ws ∧ tp ws ≤ 6)
def T2 : List Nat → Prop := fun ws => ¬ (2 ≤ tp ws ∧ tp ws ≤ 6)
def V0 : List Nat → Prop := fun pn => pn = []
def V1 : List Nat → Prop := fun pn => ∀ y, y ∈ pn → 4 ≤ y ∧ y ≤ 6
def V2 : List Nat → Prop := fun pn => ∀ y, y ∈ pn → 2 ≤ y ∧ y ≤ 6
def Z0 : Nat → Prop := fun _ => True
def Z1 : Nat → Prop := fun g => ¬ 4 ≤ sg g
def Z2 : Nat → Prop := fun g => sg g = 0
theorem rr_at (b j m : Nat) (M : mm_M) (hg : tx_g S n p ≠ 91) (ho : ss_Ok S) (hn : n ≤ 160) (hp : p ≤ n) (h : lr S n p o ws C c M) : rr_S b (j + 1) m M = mm_bd (rr_K M) fun b2 M' => if b2 = true then rr_L b m M' else some (false, M') := by
  have hlt := tx_g_lt ho (show n ≤ 200 by omega) p
  unfold rr_S rr_F
  rw [lp_R_readsFactor_0, sr_here ho (by omega) (by omega) h.1, pp_bd, if_neg (show ¬ tx_I (tx_g S n p) = 91 from fun q => hg ((tx_I_eq (k := 91) hlt (by decide)).mp q))]
/-- a letter or a number -/
theorem sf_atom (ho : ss_Ok S) (ho6 : o ≤ 6) (hn : n ≤ 160) (hp : p ≤ n) (hc : c ≤ p) (h : lh S n p C c M) (hg : tx_g S n p ≠ 91) : oX S n o p C c M (mm_bd (f_TextReader_among_142 M) fun r_1 M_2 => if r_1 = (-1) then mm_bd (f_TextReader_number 5 M_2) fun r_3 M_4 => if r_3 = (-1) then some (false, M_4) else mm_bd (f_TextReader_atDigit M_4) fun b_5 M_6 => if b_5 = true then mm_bd (f_TextReader_failHere 2 M_6) fun b_9 M_10 => some (b_9, M_10) else mm_bd (f_Law_addStep_46 78 r_3 M_6) fun u_7 M_8 => some (true, M_8) else mm_bd (f_TextReader_step M_2) fun u_11 M_12 => mm_bd (f_Law_addStep_46 76 r_1 M_12) fun u_13 M_14 => some (true, M_14)) T0 V0 Z0 := by
  have hn2 : n ≤ 200 := by omega
  have hlt := tx_g_lt ho hn2 p
  rw [sh_among_142 ho hn2 h.1, pp_bd, lx_ix _ hlt]
  by_cases hl : lx (tx_g S n p) < 9
  · -- a letter
    obtain ⟨hd, _, h256⟩ := lx_no _ hlt hl
    have hpn : p < n := tx_g_in rfl h256
    obtain ⟨M1, g1, g2, g3⟩ := sh_step1 ho hn2 (show p < 300 by omega) h.1
    obtain ⟨M2, f1, f2, f3⟩ := sh_addStep (h.t g2 g3) (by omega) (op := 1) (a := lx (tx_g S n p)) (v1 := 76) (v2 := nI (lx (tx_g S n p))) rfl (by rw [if_neg (fun q => absurd q.1 (by decide))])
    rw [if_pos hl, if_neg (tx_ne (by omega)), g1, pp_bd, f1, pp_bd]
    refine Or.inr ⟨p + 1, _, c + 1, M2, rfl, f2, g3.l.tr f3, by omega, by omega, by omega, ext_one (by decide) (by omega) (fun _ => hl), trivial, ?_⟩
    intro b ws j m MR hb hw _ hR hj hm
    obtain ⟨j', rfl⟩ : ∃ j', j = j' + 1 := ⟨j - 1, by omega⟩
    obtain ⟨M3, k1, k2, k3⟩ := sr_notes hR (by omega) (op := 1) (a := lx (tx_g S n p)) (v1 := 1) (v2 := nI (lx (tx_g S n p))) rfl rfl
    have k4 : M3.1 97 2 = nI p := k2.1.2.2
    refine ⟨[], m, mm_setI M3 97 2 (nI (p + 1)), _, _, rfl, ?_, k2.to, rfl, rfl, by show 0 + ws.length ≤ p + 1; omega, by omega, k3.s (by decide)⟩
    rw [rr_at b j' m MR hg ho hn hp hR]
    unfold rr_K
    rw [sr_isDigit ho hn2 (by omega) hR.1, pp_bd, hd, if_neg (by decide), sr_here ho hn2 (by omega) hR.1, pp_bd, sr_factOf, pp_bd, lx_fo _ hlt, if_pos hl, if_neg (tx_ne (by omega)), k1, pp_bd, k4, nI_1, pp_let, pp_bd, if_pos rfl]
  · rw [if_neg hl, if_pos rfl]
    by_cases hd : tx_d (tx_g S n p) = true
    · obtain ⟨M1, g1, g2, g3⟩ := sh_num ho hn2 (k := 5) (by decide) hp h.1 hd
      have g1' : f_TextReader_number 5 M = _ := g1
      have hmv := tx_n5_mv hd
      obtain ⟨n1, n2⟩ := tx_n5 (S := S) hp
      rw [g1', pp_bd, if_neg (tx_ne (by omega)), sh_atDigit ho hn2 g2, pp_bd]
      have hnum : ∀ MR, tx_R S n p MR → _ := fun MR hR => sr_number ho hn2 hp hR
      generalize tx_n S n 5 0 p = e at g2 hmv n1 n2 hnum
      by_cases h6 : tx_d (tx_g S n e.2) = true
      · obtain ⟨M2, f1, f2, f3⟩ := sh_fail g2 2
        rw [if_pos h6, show f_TextReader_failHere 2 M1 = _ from f1, pp_bd]
        refine Or.inl ⟨2, e.2, M2, rfl, f2, by decide, n2, g3.l.tr f3.l, ?_⟩
        intro b ws j m MR hb hw _ hR hj hm
        obtain ⟨j', rfl⟩ : ∃ j', j = j' + 1 := ⟨j - 1, by omega⟩
        obtain ⟨M3, k1, k2, k3⟩ := (hnum MR hR.1).1 h6
        refine ⟨M3, ?_, k2, k3.g⟩
        rw [rr_at b j' m MR hg ho hn hp hR]
        unfold rr_K
        rw [sr_isDigit ho hn2 (by omega) hR.1, pp_bd, hd, if_pos rfl, k1, pp_bd, if_neg (by decide), pp_bd, if_neg (by decide)]
      · obtain ⟨M2, f1, f2, f3⟩ := sh_addStep (h.t g2 g3) (by omega) (op := 0) (a := e.1) (v1 := 78) (v2 := nI e.1) rfl (by rw [if_neg (fun q => absurd q.1 (by decide))])
        rw [if_neg h6, f1, pp_bd]
        refine Or.inr ⟨e.2, _, c + 1, M2, rfl, f2, g3.l.tr f3, hmv, n2, by omega, ext_one (by decide) (by omega) (fun q => by cases q), trivial, ?_⟩
        intro b ws j m MR hb hw _ hR hj hm
        obtain ⟨j', rfl⟩ : ∃ j', j = j' + 1 := ⟨j - 1, by omega⟩
        obtain ⟨M3, k1, k2, k3, k4⟩ := (hnum MR hR.1).2 (Bool.not_eq_true _ ▸ h6)
        obtain ⟨M4, i1, i2, i3⟩ := sr_notes (hR.x k2 k4) (by omega) (op := 0) (a := e.1) (v1 := 0) (v2 := nI e.1) rfl rfl
        refine ⟨[], m, M4, _, _, rfl, ?_, i2, rfl, rfl, by show 0 + ws.length ≤ e.2; omega, by omega, k4.g.tr i3⟩
        rw [rr_at b j' m MR hg ho hn hp hR]
        unfold rr_K
        rw [sr_isDigit ho hn2 (by omega) hR.1, pp_bd, hd, if_pos rfl, k1, pp_bd, if_pos rfl, k3, i1, pp_bd, pp_bd, if_pos rfl]
    · obtain ⟨M1, g1, g2, g3⟩ := sh_num_no ho hn2 5 h.1 (Bool.not_eq_true _ ▸ hd)
      rw [g1, pp_bd, if_pos rfl]
      refine Or.inl ⟨1, p, M1, rfl, g2, by decide, hp, g3.l, ?_⟩
      intro b ws j m MR hb hw _ hR hj hm
      obtain ⟨j', rfl⟩ : ∃ j', j = j' + 1 := ⟨j - 1, by omega⟩
      refine ⟨mm_setI MR 97 4 (ft 1 p), ?_, rfl, rg.rf.s (by decide)⟩
      rw [rr_at b j' m MR hg ho hn hp hR]
      unfold rr_K
      rw [sr_isDigit ho hn2 (by omega) hR.1, pp_bd, if_neg hd, sr_here ho hn2 (by omega) hR.1, pp_bd, sr_factOf, pp_bd, lx_fo _ hlt, if_neg hl, if_pos rfl, hR.1.2.2, show f_R_wrongAt 1 (nI p) MR = _ from sr_wrong 1 p MR, pp_bd, pp_bd, if_neg (by decide)]
theorem gS0 (d : Nat) (v : Int32) (M : mm_M) : g_LawReader_readSum (d + 1) 0 v M = fb_LawReader_readSum (g_LawReader_readSum d) v M := by rw [g_LawReader_readSum, if_pos rfl]
theorem gS1 (d : Nat) (v : Int32) (M : mm_M) : g_LawReader_readSum (d + 1) 1 v M = fb_LawReader_readTerm (g_LawReader_readSum d) v M := by rw [g_LawReader_readSum, if_neg (by decide), if_pos rfl]
theorem gS2 (d : Nat) (v : Int32) (M : mm_M) : g_LawReader_readSum (d + 1) 2 v M = fb_LawReader_readFactor (g_LawReader_readSum d) v M := by rw [g_LawReader_readSum, if_neg (by decide), if_neg (by decide), if_pos rfl]
/-- a factor -/
theorem sf_fac (ho : ss_Ok S) (hn : n ≤ 160) {d : Nat} (ih : ∀ o M p C c, o ≤ 6 → 3 * (6 - o) + 3 ≤ d → p ≤ n → c ≤ p → lh S n p C c M → oX S n o p C c M (g_LawReader_readSum d 0 (nI o) M) T2 V2 Z2) (ho6 : o ≤ 6) (hd : 3 * (6 - o) ≤ d) (hp : p ≤ n) (hc : c ≤ p) (h : lh S n p C c M) : oX S n o p C c M (g_LawReader_readSum (d + 1) 2 (nI o) M) T0 V0 Z0 := by
  have hn2 : n ≤ 200 := by omega
  have hlt := tx_g_lt ho hn2 p
  rw [gS2]
  unfold fb_LawReader_readFactor
  rw [h.1.2.2.2]
  by_cases hg : tx_g S n p = 91
  · have hpn : p < n := tx_g_in hg (by decide)
    obtain ⟨y1, y2⟩ := sh_mayOpen ho hn2 (show p < 300 by omega) h ho6
    rw [if_pos (show tx_I (tx_g S n p) = 91 from (tx_I_eq (k := 91) hlt (by decide)).mpr hg)]
    by_cases h6 : o < 6
    · obtain ⟨M1, g1, g2, g3⟩ := y1 h6
      rw [g1, pp_bd, if_pos rfl, nI_1]
      rcases ih (o + 1) M1 (p + 1) C c (by omega) (by omega) (by omega) (by omega) g2 with ⟨w, q, M2, e1, e2, e3, e4, e5, e6⟩ | ⟨p1, C1, c1, M2, e1, e2, e3, e4, e5, e6, e7, e8, e9⟩
      · rw [e1, pp_bd, if_neg (by decide)]
        refine Or.inl ⟨w, q, M2, rfl, e2, e3, e4, g3.tr e5, ?_⟩
        intro b ws j m MR hb hw _ hR hj hm
        obtain ⟨j', rfl⟩ : ∃ j', j = j' + 1 := ⟨j - 1, by omega⟩
        obtain ⟨MR1, r1, r2, r3⟩ := (sr_opn (b := b) (j := j') (m := m) ho hn hp hg hw hR ho6).1 h6
        obtain ⟨MR2, s1, s2, s3⟩ := e6 b (1048576 * 14 :: ws) j' m MR1 (by rw [List.length_cons]; omega) (by rw [List.length_cons]; omega) (by unfold T2; rw [show tp (1048576 * 14 :: ws) = 14 from rfl]; decide) r2 (by omega) (by omega)
        exact ⟨MR2, r1.trans s1, s2, r3.tr s3⟩
      · rw [e1, pp_bd, if_pos rfl]
        have hlt1 := tx_g_lt ho hn2 p1
        obtain ⟨t1, t2⟩ := sh_take ho hn2 (show p1 < 300 by omega) (c := 93) (by decide) e2.1
        by_cases h93 : tx_g S n p1 = 93
        · obtain ⟨M3, u1, u2, u3⟩ := t1 h93
          rw [show f_TextReader_take 93 M2 = _ from u1, pp_bd, if_pos rfl]
          have hp1 : p1 < n := tx_g_in h93 (by decide)
          refine Or.inr ⟨p1 + 1, C1, c1, M3, rfl, e2.t u2 u3, (g3.tr e3).tr u3.l, by omega, by omega, by omega, e7, trivial, ?_⟩
          intro b ws j m MR hb hw _ hR hj hm
          obtain ⟨j', rfl⟩ : ∃ j', j = j' + 1 := ⟨j - 1, by omega⟩
          obtain ⟨MR1, r1, r2, r3⟩ := (sr_opn (b := b) (j := j') (m := m) ho hn hp hg hw hR ho6).1 h6
          obtain ⟨pn, m1, MR2, C0, c0, s1, s2, s3, s4, s5, s6, s7, s8⟩ := e9 b (1048576 * 14 :: ws) j' m MR1 (by rw [List.length_cons]; omega) (by rw [List.length_cons]; omega) (by unfold T2; rw [show tp (1048576 * 14 :: ws) = 14 from rfl]; decide) r2 (by omega) (by omega)
          rw [List.length_cons] at s6
          obtain ⟨m2, rfl⟩ : ∃ m2, m1 = m2 + 1 := ⟨m1 - 1, by omega⟩
          obtain ⟨MR3, v1, v2, v3⟩ := sr_lbr (m := m2) ho hn (by omega) h93 hb s3 s1 (by omega) (by omega)
          refine ⟨[], m2, MR3, C1, c1, rfl, r1.trans (s2.trans v1), ?_, rfl, rfl, by show 0 + ws.length ≤ p1 + 1; omega, by omega, (r3.tr s8).tr v3⟩
          rw [s4, s5]
          exact v2
        · obtain ⟨M3, u1, u2, u3⟩ := t2 h93
          rw [show f_TextReader_take 93 M2 = _ from u1, pp_bd, if_neg (by decide)]
          refine Or.inl ⟨1, p1, M3, rfl, u2, by decide, e5, (g3.tr e3).tr u3.l, ?_⟩
          intro b ws j m MR hb hw _ hR hj hm
          obtain ⟨j', rfl⟩ : ∃ j', j = j' + 1 := ⟨j - 1, by omega⟩
          obtain ⟨MR1, r1, r2, r3⟩ := (sr_opn (b := b) (j := j') (m := m) ho hn hp hg hw hR ho6).1 h6
          obtain ⟨pn, m1, MR2, C0, c0, s1, s2, s3, s4, s5, s6, s7, s8⟩ := e9 b (1048576 * 14 :: ws) j' m MR1 (by rw [List.length_cons]; omega) (by rw [List.length_cons]; omega) (by unfold T2; rw [show tp (1048576 * 14 :: ws) = 14 from rfl]; decide) r2 (by omega) (by omega)
          rw [List.length_cons] at s6
          obtain ⟨m2, rfl⟩ : ∃ m2, m1 = m2 + 1 := ⟨m1 - 1, by omega⟩
          obtain ⟨MR3, v1, v2, v3⟩ := sr_lnb (m := m2) ho hn e5 h93 e8 hb s3 (by omega)
          exact ⟨MR3, r1.trans (s2.trans v1), v2, (r3.tr s8).tr v3⟩
    · obtain ⟨M1, g1, g2, g3⟩ := y2 h6
      rw [g1, pp_bd, if_neg (by decide)]
      refine Or.inl ⟨5, p, M1, rfl, g2, by decide, hp, g3, ?_⟩
      intro b ws j m MR hb hw _ hR hj hm
      obtain ⟨j', rfl⟩ : ∃ j', j = j' + 1 := ⟨j - 1, by omega⟩
      exact (sr_opn (b := b) (j := j') (m := m) ho hn hp hg hw hR ho6).2 h6
  · rw [if_neg (show ¬ tx_I (tx_g S n p) = 91 from fun q => hg ((tx_I_eq (k := 91) hlt (by decide)).mp q))]
    exact sf_atom ho ho6 hn hp hc h hg
/-- a term, behind its first factor -/
theorem sf_tl (ho : ss_Ok S) (hn : n ≤ 160) (ho6 : o ≤ 6) {F : Nat → Int32 → mm_M → Option (Bool × mm_M)} (ih : ∀ M p C c, p ≤ n → c ≤ p → lh S n p C c M → oX S n o p C c M (F 2 (nI o) M) T0 V0 Z0) {p0 c0' : Nat} {B : Nat → Nat × Nat} {MB : mm_M} : ∀ f i p C c M, n < p + f → 2 * i ≤ p → p0 < p → p ≤ n → c + p0 ≤ p + c0' → c ≤ p → lh S n p C c M → lf MB M → ext B c0' C c → ∀ g,
    (∃ w q M1, lp_LawReader_readTerm_12 F (nI o) (fun (M_13 : mm_M) => some (false, M_13)) (fun (M_14 : mm_M) => some (true, M_14)) (g + f) (nI i) M = some (false, M1) ∧ M1.1 3 4 = ft w q ∧ w ≤ 9 ∧ q ≤ n ∧ lf MB M1 ∧ ∀ b ws m MR pn C0 c0, b ≤ ws.length → pn.length + ws.length ≤ p → T1 ws → V1 pn → lr S n p o (pn.map (1048576 * ·) ++ ws) C0 c0 MR → C = cn C0 c0 pn → c = c0 + pn.length → 200 ≤ m + p → ∃ MR1, rr_L b m MR = some (false, MR1) ∧ MR1.1 97 4 = ft w q ∧ rg MR MR1) ∨
    (∃ p1 C1 c1 M1, lp_LawReader_readTerm_12 F (nI o) (fun (M_13 : mm_M) => some (false, M_13)) (fun (M_14 : mm_M) => some (true, M_14)) (g + f) (nI i) M = some (true, M1) ∧ lh S n p1 C1 c1 M1 ∧ lf MB M1 ∧ p0 < p1 ∧ p1 ≤ n ∧ c1 + p0 ≤ p1 + c0' ∧ ext B c0' C1 c1 ∧ Z1 (tx_g S n p1) ∧ ∀ b ws m MR pn C0 c0, b ≤ ws.length → pn.length + ws.length ≤ p → T1 ws → V1 pn → lr S n p o (pn.map (1048576 * ·) ++ ws) C0 c0 MR → C = cn C0 c0 pn → c = c0 + pn.length → 200 ≤ m + p → ∃ pn1 m1 MR1 D0 d0, V1 pn1 ∧ rr_L b m MR = rr_L b m1 MR1 ∧ lr S n p1 o (pn1.map (1048576 * ·) ++ ws) D0 d0 MR1 ∧ C1 = cn D0 d0 pn1 ∧ c1 = d0 + pn1.length ∧ pn1.length + ws.length ≤ p1 ∧ 200 ≤ m1 + p1 ∧ rg MR MR1) := by
  have hn2 : n ≤ 200 := by omega
  intro f
  induction f with
  | zero => intro i p C c M h1 _ _ h2; omega
  | succ f ihf =>
    intro i p C c M hf hi hp0 hp hcp hc h hfr hx g
    have hlt := tx_g_lt ho hn2 p
    rw [show g + (f + 1) = (g + f) + 1 from rfl, lp_LawReader_readTerm_12, if_neg (show ¬ (160 : Int32) ≤ nI i from nI_ge (b := 160) (by omega) (by decide)), sh_among_143 ho hn2 h.1, pp_bd]
    by_cases hs : 4 ≤ sg (tx_g S n p)
    · rw [if_neg (fun q => (sg_mul _ hlt).mp q hs), h.1.2.2.2, pp_let]
      obtain ⟨k1, k2, k3, k4⟩ := sg_ch _ hlt (by omega)
      have hpn : p < n := tx_g_in (c := tx_g S n p) rfl (by omega)
      obtain ⟨M1, g1, g2, g3⟩ := sh_step1 ho hn2 (show p < 300 by omega) h.1
      rw [g1, pp_bd]
      rcases ih M1 (p + 1) C c (by omega) (by omega) (h.t g2 g3) with ⟨w, q, M2, e1, e2, e3, e4, e5, e6⟩ | ⟨p1, C1, c1, M2, e1, e2, e3, e4, e5, e6, e7, e8, e9⟩
      · rw [e1, pp_bd, if_neg (by decide)]
        refine Or.inl ⟨w, q, M2, rfl, e2, e3, e4, (hfr.tr g3.l).tr e5, ?_⟩
        intro b ws m MR pn C0 c0 hb hw hT hV hR hC hcc hm
        obtain ⟨m', rfl⟩ : ∃ m', m = m' + 1 := ⟨m - 1, by omega⟩
        obtain ⟨MR1, r1, r2, r3⟩ := sr_lop (b := b) (m := m') ho hn hp rfl (by omega) hR (fun y hy => Or.inl (hV y hy)) hT (fun q => by omega) (by omega) (by omega)
        rw [← hC, ← hcc] at r2
        obtain ⟨MR2, s1, s2, s3⟩ := e6 b (1048576 * sg (tx_g S n p) :: ws) mm_fu m' MR1 (by rw [List.length_cons]; omega) (by rw [List.length_cons]; omega) trivial r2 (by show 8 ≤ 5000 + o; omega) (by omega)
        exact ⟨MR2, r1.trans s1, s2, r3.tr s3⟩
      · obtain ⟨M3, f1, f2, f3⟩ := sh_addStep e2 (by omega) (op := sg (tx_g S n p)) (a := 0) (v1 := tx_I (tx_g S n p)) (v2 := 0) (by rw [k1, tx_Ig (by omega)]) (by rw [if_neg (fun q => by omega)]; rfl)
        rw [e1, pp_bd, if_pos rfl, f1, pp_bd, nI_1, pp_let]
        have hext := ext_bin hx e7 (op := sg (tx_g S n p)) ⟨k3, by omega⟩
        have ref : ∀ b ws m MR pn C0 c0, b ≤ ws.length → pn.length + ws.length ≤ p → T1 ws → V1 pn → lr S n p o (pn.map (1048576 * ·) ++ ws) C0 c0 MR → C = cn C0 c0 pn → c = c0 + pn.length → 200 ≤ m + p → ∃ m1 MR1, rr_L b m MR = rr_L b m1 MR1 ∧ lr S n p1 o ([sg (tx_g S n p)].map (1048576 * ·) ++ ws) C1 c1 MR1 ∧ 200 ≤ m1 + p1 ∧ rg MR MR1 := by
          intro b ws m MR pn C0 c0 hb hw hT hV hR hC hcc hm
          obtain ⟨m', rfl⟩ : ∃ m', m = m' + 1 := ⟨m - 1, by omega⟩
          obtain ⟨MR1, r1, r2, r3⟩ := sr_lop (b := b) (m := m') ho hn hp rfl (by omega) hR (fun y hy => Or.inl (hV y hy)) hT (fun q => by omega) (by omega) (by omega)
          rw [← hC, ← hcc] at r2
          obtain ⟨pn, m1, MR2, D0, d0, s1, s2, s3, s4, s5, s6, s7, s8⟩ := e9 b (1048576 * sg (tx_g S n p) :: ws) mm_fu m' MR1 (by rw [List.length_cons]; omega) (by rw [List.length_cons]; omega) trivial r2 (by show 8 ≤ 5000 + o; omega) (by omega)
          have s1 : pn = [] := s1
          subst s1
          refine ⟨m1, MR2, r1.trans s2, ?_, s7, r3.tr s8⟩
          rw [s4, s5]
          exact s3
        rcases ihf (i + 1) p1 _ _ M3 (by omega) (by omega) (by omega) (by omega) (by omega) (by omega) f2 (((hfr.tr g3.l).tr e3).tr f3) hext g with ⟨w, q, M4, a1, a2, a3, a4, a5, a6⟩ | ⟨p2, C2, c2, M4, a1, a2, a3, a4, a5, a6, a7, a8, a9⟩
        · refine Or.inl ⟨w, q, M4, a1, a2, a3, a4, a5, ?_⟩
          intro b ws m MR pn C0 c0 hb hw hT hV hR hC hcc hm
          obtain ⟨m1, MR1, r1, r2, r3, r4⟩ := ref b ws m MR pn C0 c0 hb hw hT hV hR hC hcc hm
          obtain ⟨MR2, s1, s2, s3⟩ := a6 b ws m1 MR1 [sg (tx_g S n p)] C1 c1 hb (by show 1 + ws.length ≤ p1; omega) hT (fun y hy => by rw [List.mem_singleton] at hy; omega) r2 rfl rfl r3
          exact ⟨MR2, r1.trans s1, s2, r4.tr s3⟩
        · refine Or.inr ⟨p2, C2, c2, M4, a1, a2, a3, a4, a5, a6, a7, a8, ?_⟩
          intro b ws m MR pn C0 c0 hb hw hT hV hR hC hcc hm
          obtain ⟨m1, MR1, r1, r2, r3, r4⟩ := ref b ws m MR pn C0 c0 hb hw hT hV hR hC hcc hm
          obtain ⟨pn1, m2, MR2, D0, d0, s1, s2, s3, s4, s5, s6, s7, s8⟩ := a9 b ws m1 MR1 [sg (tx_g S n p)] C1 c1 hb (by show 1 + ws.length ≤ p1; omega) hT (fun y hy => by rw [List.mem_singleton] at hy; omega) r2 rfl rfl r3
          exact ⟨pn1, m2, MR2, D0, d0, s1, r1.trans s2, s3, s4, s5, s6, s7, r4.tr s8⟩
    · rw [if_pos ((sg_mul _ hlt).mpr hs)]
      refine Or.inr ⟨p, C, c, M, rfl, h, hfr, hp0, hp, hcp, hx, hs, ?_⟩
      intro b ws m MR pn C0 c0 hb hw hT hV hR hC hcc hm
      exact ⟨pn, m, MR, C0, c0, hV, rfl, hR, hC, hcc, hw, hm, rg.rf⟩
/-- a term -/
theorem sf_term (ho : ss_Ok S) (hn : n ≤ 160) (ho6 : o ≤ 6) {d : Nat} (ih : ∀ M p C c, p ≤ n → c ≤ p → lh S n p C c M → oX S n o p C c M (g_LawReader_readSum d 2 (nI o) M) T0 V0 Z0) (hp : p ≤ n) (hc : c ≤ p) (h : lh S n p C c M) : oX S n o p C c M (g_LawReader_readSum (d + 1) 1 (nI o) M) T1 V1 Z1 := by
  rw [gS1]
  unfold fb_LawReader_readTerm
  rcases ih M p C c hp hc h with ⟨w, q, M2, e1, e2, e3, e4, e5, e6⟩ | ⟨p1, C1, c1, M2, e1, e2, e3, e4, e5, e6, e7, e8, e9⟩
  · rw [e1, pp_bd, if_neg (by decide)]
    exact Or.inl ⟨w, q, M2, rfl, e2, e3, e4, e5, fun b ws j m MR hb hw _ hR hj hm => e6 b ws j m MR hb hw trivial hR hj hm⟩
  · rw [e1, pp_bd, if_pos rfl]
    have ref : ∀ b ws j m MR, b ≤ ws.length → ws.length ≤ p → T1 ws → lr S n p o ws C c MR → 8 ≤ j + o → 200 ≤ m + p → ∃ m1 MR1, rr_S b j m MR = rr_L b m1 MR1 ∧ lr S n p1 o (([] : List Nat).map (1048576 * ·) ++ ws) C1 c1 MR1 ∧ 200 ≤ m1 + p1 ∧ rg MR MR1 := by
      intro b ws j m MR hb hw hT hR hj hm
      obtain ⟨pn, m1, MR2, D0, d0, s1, s2, s3, s4, s5, s6, s7, s8⟩ := e9 b ws j m MR hb hw trivial hR hj hm
      have s1 : pn = [] := s1
      subst s1
      refine ⟨m1, MR2, s2, ?_, s7, s8⟩
      rw [s4, s5]
      exact s3
    have V : V1 [] := fun y hy => by cases hy
    rcases sf_tl ho hn ho6 ih (p0 := p) (c0' := c) (B := C) (MB := M) (n + 1) 0 p1 C1 c1 M2 (by omega) (by omega) e4 e5 e6 (by omega) e2 e3 e7 (5000 - (n + 1)) with ⟨w, q, M4, a1, a2, a3, a4, a5, a6⟩ | ⟨p2, C2, c2, M4, a1, a2, a3, a4, a5, a6, a7, a8, a9⟩
    · rw [show 5000 - (n + 1) + (n + 1) = mm_fu from by show _ = 5000; omega] at a1
      refine Or.inl ⟨w, q, M4, a1, a2, a3, a4, a5, ?_⟩
      intro b ws j m MR hb hw hT hR hj hm
      obtain ⟨m1, MR1, r1, r2, r3, r4⟩ := ref b ws j m MR hb hw hT hR hj hm
      obtain ⟨MR2, s1, s2, s3⟩ := a6 b ws m1 MR1 [] C1 c1 hb (by show 0 + ws.length ≤ p1; omega) hT V r2 rfl rfl r3
      exact ⟨MR2, r1.trans s1, s2, r4.tr s3⟩
    · rw [show 5000 - (n + 1) + (n + 1) = mm_fu from by show _ = 5000; omega] at a1
      refine Or.inr ⟨p2, C2, c2, M4, a1, a2, a3, a4, a5, a6, a7, a8, ?_⟩
      intro b ws j m MR hb hw hT hR hj hm
      obtain ⟨m1, MR1, r1, r2, r3, r4⟩ := ref b ws j m MR hb hw hT hR hj hm
      obtain ⟨pn1, m2, MR2, D0, d0, s1, s2, s3, s4, s5, s6, s7, s8⟩ := a9 b ws m1 MR1 [] C1 c1 hb (by show 0 + ws.length ≤ p1; omega) hT V r2 rfl rfl r3
      exact ⟨pn1, m2, MR2, D0, d0, s1, r1.trans s2, s3, s4, s5, s6, s7, r4.tr s8⟩
/-- a sum, behind its first term -/
theorem sf_sl (ho : ss_Ok S) (hn : n ≤ 160) (ho6 : o ≤ 6) {F : Nat → Int32 → mm_M → Option (Bool × mm_M)} (ih : ∀ M p C c, p ≤ n → c ≤ p → lh S n p C c M → oX S n o p C c M (F 1 (nI o) M) T1 V1 Z1) {p0 c0' : Nat} {B : Nat → Nat × Nat} {MB : mm_M} : ∀ f i p C c M, n < p + f → 2 * i ≤ p → p0 < p → p ≤ n → c + p0 ≤ p + c0' → c ≤ p → Z1 (tx_g S n p) → lh S n p C c M → lf MB M → ext B c0' C c → ∀ g,
    (∃ w q M1, lp_LawReader_readSum_12 F (nI o) (fun (M_13 : mm_M) => some (false, M_13)) (fun (M_14 : mm_M) => some (true, M_14)) (g + f) (nI i) M = some (false, M1) ∧ M1.1 3 4 = ft w q ∧ w ≤ 9 ∧ q ≤ n ∧ lf MB M1 ∧ ∀ b ws m MR pn C0 c0, b ≤ ws.length → pn.length + ws.length ≤ p → T2 ws → V2 pn → lr S n p o (pn.map (1048576 * ·) ++ ws) C0 c0 MR → C = cn C0 c0 pn → c = c0 + pn.length → 200 ≤ m + p → ∃ MR1, rr_L b m MR = some (false, MR1) ∧ MR1.1 97 4 = ft w q ∧ rg MR MR1) ∨
    (∃ p1 C1 c1 M1, lp_LawReader_readSum_12 F (nI o) (fun (M_13 : mm_M) => some (false, M_13)) (fun (M_14 : mm_M) => some (true, M_14)) (g + f) (nI i) M = some (true, M1) ∧ lh S n p1 C1 c1 M1 ∧ lf MB M1 ∧ p0 < p1 ∧ p1 ≤ n ∧ c1 + p0 ≤ p1 + c0' ∧ ext B c0' C1 c1 ∧ Z2 (tx_g S n p1) ∧ ∀ b ws m MR pn C0 c0, b ≤ ws.length → pn.length + ws.length ≤ p → T2 ws → V2 pn → lr S n p o (pn.map (1048576 * ·) ++ ws) C0 c0 MR → C = cn C0 c0 pn → c = c0 + pn.length → 200 ≤ m + p → ∃ pn1 m1 MR1 D0 d0, V2 pn1 ∧ rr_L b m MR = rr_L b m1 MR1 ∧ lr S n p1 o (pn1.map (1048576 * ·) ++ ws) D0 d0 MR1 ∧ C1 = cn D0 d0 pn1 ∧ c1 = d0 + pn1.length ∧ pn1.length + ws.length ≤ p1 ∧ 200 ≤ m1 + p1 ∧ rg MR MR1) := by
  have hn2 : n ≤ 200 := by omega
  intro f
  induction f with
  | zero => intro i p C c M h1 _ _ h2; omega
  | succ f ihf =>
    intro i p C c M hf hi hp0 hp hcp hc hz h hfr hx g
    have hlt := tx_g_lt ho hn2 p
    have hz : ¬ 4 ≤ sg (tx_g S n p) := hz
    rw [show g + (f + 1) = (g + f) + 1 from rfl, lp_LawReader_readSum_12, if_neg (show ¬ (160 : Int32) ≤ nI i from nI_ge (b := 160) (by omega) (by decide)), sh_among_144 ho hn2 h.1, pp_bd]
    by_cases hs : 2 ≤ sg (tx_g S n p) ∧ sg (tx_g S n p) ≤ 3
    · rw [if_neg (fun q => (sg_add _ hlt).mp q hs), h.1.2.2.2, pp_let]
      obtain ⟨k1, k2, k3, k4⟩ := sg_ch _ hlt (by omega)
      have hpn : p < n := tx_g_in (c := tx_g S n p) rfl (by omega)
      obtain ⟨M1, g1, g2, g3⟩ := sh_step1 ho hn2 (show p < 300 by omega) h.1
      have hT1 : ∀ ws, T1 (1048576 * sg (tx_g S n p) :: ws) := fun ws => by
        unfold T1
        rw [show tp (1048576 * sg (tx_g S n p) :: ws) = 1048576 * sg (tx_g S n p) / 1048576 from rfl, Nat.mul_div_cancel_left _ (by decide)]
        omega
      have hV : ∀ pn, V2 pn → ∀ y, y ∈ pn → 4 ≤ y ∧ y ≤ 6 ∨ sg (tx_g S n p) < 4 ∧ 2 ≤ y ∧ y ≤ 3 := fun pn hV y hy => by
        have := hV y hy
        omega
      rw [g1, pp_bd]
      rcases ih M1 (p + 1) C c (by omega) (by omega) (h.t g2 g3) with ⟨w, q, M2, e1, e2, e3, e4, e5, e6⟩ | ⟨p1, C1, c1, M2, e1, e2, e3, e4, e5, e6, e7, e8, e9⟩
      · rw [e1, pp_bd, if_neg (by decide)]
        refine Or.inl ⟨w, q, M2, rfl, e2, e3, e4, (hfr.tr g3.l).tr e5, ?_⟩
        intro b ws m MR pn C0 c0 hb hw hT hVp hR hC hcc hm
        have hT : ¬ (2 ≤ tp ws ∧ tp ws ≤ 6) := hT
        obtain ⟨m', rfl⟩ : ∃ m', m = m' + 1 := ⟨m - 1, by omega⟩
        obtain ⟨MR1, r1, r2, r3⟩ := sr_lop (b := b) (m := m') ho hn hp rfl (by omega) hR (hV pn hVp) (by omega) (fun q => by omega) (by omega) (by omega)
        rw [← hC, ← hcc] at r2
        obtain ⟨MR2, s1, s2, s3⟩ := e6 b (1048576 * sg (tx_g S n p) :: ws) mm_fu m' MR1 (by rw [List.length_cons]; omega) (by rw [List.length_cons]; omega) (hT1 ws) r2 (by show 8 ≤ 5000 + o; omega) (by omega)
        exact ⟨MR2, r1.trans s1, s2, r3.tr s3⟩
      · obtain ⟨M3, f1, f2, f3⟩ := sh_addStep e2 (by omega) (op := sg (tx_g S n p)) (a := 0) (v1 := tx_I (tx_g S n p)) (v2 := 0) (by rw [k1, tx_Ig (by omega)]) (by rw [if_neg (fun q => by omega)]; rfl)
        rw [e1, pp_bd, if_pos rfl, f1, pp_bd, nI_1, pp_let]
        have hext := ext_bin hx e7 (op := sg (tx_g S n p)) ⟨k3, by omega⟩
        have ref : ∀ b ws m MR pn C0 c0, b ≤ ws.length → pn.length + ws.length ≤ p → T2 ws → V2 pn → lr S n p o (pn.map (1048576 * ·) ++ ws) C0 c0 MR → C = cn C0 c0 pn → c = c0 + pn.length → 200 ≤ m + p → ∃ pn1 m1 MR1 D0 d0, V2 pn1 ∧ rr_L b m MR = rr_L b m1 MR1 ∧ lr S n p1 o (pn1.map (1048576 * ·) ++ ws) D0 d0 MR1 ∧ cs C1 c1 (sg (tx_g S n p), 0) = cn D0 d0 pn1 ∧ c1 + 1 = d0 + pn1.length ∧ pn1.length + ws.length ≤ p1 ∧ 200 ≤ m1 + p1 ∧ rg MR MR1 := by
          intro b ws m MR pn C0 c0 hb hw hT hVp hR hC hcc hm
          have hT : ¬ (2 ≤ tp ws ∧ tp ws ≤ 6) := hT
          obtain ⟨m', rfl⟩ : ∃ m', m = m' + 1 := ⟨m - 1, by omega⟩
          obtain ⟨MR1, r1, r2, r3⟩ := sr_lop (b := b) (m := m') ho hn hp rfl (by omega) hR (hV pn hVp) (by omega) (fun q => by omega) (by omega) (by omega)
          rw [← hC, ← hcc] at r2
          obtain ⟨pn1, m1, MR2, D0, d0, s1, s2, s3, s4, s5, s6, s7, s8⟩ := e9 b (1048576 * sg (tx_g S n p) :: ws) mm_fu m' MR1 (by rw [List.length_cons]; omega) (by rw [List.length_cons]; omega) (hT1 ws) r2 (by show 8 ≤ 5000 + o; omega) (by omega)
          rw [List.length_cons] at s6
          refine ⟨pn1 ++ [sg (tx_g S n p)], m1, MR2, D0, d0, ?_, r1.trans s2, ?_, ?_, ?_, ?_, s7, r3.tr s8⟩
          · intro y hy
            rw [List.mem_append, List.mem_singleton] at hy
            rcases hy with hy | hy
            · have := s1 y hy; omega
            · omega
          · rw [List.map_append, List.append_assoc]
            exact s3
          · rw [cn_app, ← s4, ← s5]
          · rw [List.length_append, List.length_singleton]; omega
          · rw [List.length_append, List.length_singleton]; omega
        rcases ihf (i + 1) p1 _ _ M3 (by omega) (by omega) (by omega) (by omega) (by omega) (by omega) e8 f2 (((hfr.tr g3.l).tr e3).tr f3) hext g with ⟨w, q, M4, a1, a2, a3, a4, a5, a6⟩ | ⟨p2, C2, c2, M4, a1, a2, a3, a4, a5, a6, a7, a8, a9⟩
        · refine Or.inl ⟨w, q, M4, a1, a2, a3, a4, a5, ?_⟩
          intro b ws m MR pn C0 c0 hb hw hT hVp hR hC hcc hm
          obtain ⟨pn1, m1, MR1, D0, d0, r0, r1, r2, r3, r4, r5, r6, r7⟩ := ref b ws m MR pn C0 c0 hb hw hT hVp hR hC hcc hm
          obtain ⟨MR2, s1, s2, s3⟩ := a6 b ws m1 MR1 pn1 D0 d0 hb r5 hT r0 r2 r3 r4 r6
          exact ⟨MR2, r1.trans s1, s2, r7.tr s3⟩
        · refine Or.inr ⟨p2, C2, c2, M4, a1, a2, a3, a4, a5, a6, a7, a8, ?_⟩
          intro b ws m MR pn C0 c0 hb hw hT hVp hR hC hcc hm
          obtain ⟨pn1, m1, MR1, D0, d0, r0, r1, r2, r3, r4, r5, r6, r7⟩ := ref b ws m MR pn C0 c0 hb hw hT hVp hR hC hcc hm
          obtain ⟨pn2, m2, MR2, E0, e0, s1, s2, s3, s4, s5, s6, s7, s8⟩ := a9 b ws m1 MR1 pn1 D0 d0 hb r5 hT r0 r2 r3 r4 r6
          exact ⟨pn2, m2, MR2, E0, e0, s1, r1.trans s2, s3, s4, s5, s6, s7, r7.tr s8⟩
    · rw [if_pos ((sg_add _ hlt).mpr hs)]
      have hz2 : sg (tx_g S n p) = 0 := by
        rcases Nat.eq_zero_or_pos (sg (tx_g S n p)) with q | q
        · exact q
        · obtain ⟨k1, k2, k3, k4⟩ := sg_ch _ hlt (by omega)
          omega
      refine Or.inr ⟨p, C, c, M, rfl, h, hfr, hp0, hp, hcp, hx, hz2, ?_⟩
      intro b ws m MR pn C0 c0 hb hw hT hV hR hC hcc hm
      exact ⟨pn, m, MR, C0, c0, hV, rfl, hR, hC, hcc, hw, hm, rg.rf⟩
theorem sf_sum1 (ho : ss_Ok S) (hn : n ≤ 160) (ho6 : o ≤ 6) {d : Nat} (ih : ∀ M p C c, p ≤ n → c ≤ p → lh S n p C c M → oX S n o p C c M (g_LawReader_readSum d 1 (nI o) M) T1 V1 Z1) (hp : p ≤ n) (hc : c ≤ p) (h : lh S n p C c M) : oX S n o p C c M (g_LawReader_readSum (d + 1) 0 (nI o) M) T2 V2 Z2 := by
  have hTT : ∀ ws, T2 ws → T1 ws := fun ws q => by
    have q : ¬ (2 ≤ tp ws ∧ tp ws ≤ 6) := q
    show ¬ (4 ≤ tp ws ∧ tp ws ≤ 6)
    omega
  rw [gS0]
  unfold fb_LawReader_readSum
  rcases ih M p C c hp hc h with ⟨w, q, M2, e1, e2, e3, e4, e5, e6⟩ | ⟨p1, C1, c1, M2, e1, e2, e3, e4, e5, e6, e7, e8, e9⟩
  · rw [e1, pp_bd, if_neg (by decide)]
    exact Or.inl ⟨w, q, M2, rfl, e2, e3, e4, e5, fun b ws j m MR hb hw hT hR hj hm => e6 b ws j m MR hb hw (hTT ws hT) hR hj hm⟩
  · rw [e1, pp_bd, if_pos rfl]
    rcases sf_sl ho hn ho6 ih (p0 := p) (c0' := c) (B := C) (MB := M) (n + 1) 0 p1 C1 c1 M2 (by omega) (by omega) e4 e5 e6 (by omega) e8 e2 e3 e7 (5000 - (n + 1)) with ⟨w, q, M4, a1, a2, a3, a4, a5, a6⟩ | ⟨p2, C2, c2, M4, a1, a2, a3, a4, a5, a6, a7, a8, a9⟩
    · rw [show 5000 - (n + 1) + (n + 1) = mm_fu from by show _ = 5000; omega] at a1
      refine Or.inl ⟨w, q, M4, a1, a2, a3, a4, a5, ?_⟩
      intro b ws j m MR hb hw hT hR hj hm
      obtain ⟨pn1, m1, MR1, D0, d0, r0, r1, r2, r3, r4, r5, r6, r7⟩ := e9 b ws j m MR hb hw (hTT ws hT) hR hj hm
      obtain ⟨MR2, s1, s2, s3⟩ := a6 b ws m1 MR1 pn1 D0 d0 hb r5 hT (fun y hy => by have := r0 y hy; omega) r2 r3 r4 r6
      exact ⟨MR2, r1.trans s1, s2, r7.tr s3⟩
    · rw [show 5000 - (n + 1) + (n + 1) = mm_fu from by show _ = 5000; omega] at a1
      refine Or.inr ⟨p2, C2, c2, M4, a1, a2, a3, a4, a5, a6, a7, a8, ?_⟩
      intro b ws j m MR hb hw hT hR hj hm
      obtain ⟨pn1, m1, MR1, D0, d0, r0, r1, r2, r3, r4, r5, r6, r7⟩ := e9 b ws j m MR hb hw (hTT ws hT) hR hj hm
      obtain ⟨pn2, m2, MR2, E0, e0, s1, s2, s3, s4, s5, s6, s7, s8⟩ := a9 b ws m1 MR1 pn1 D0 d0 hb r5 hT (fun y hy => by have := r0 y hy; omega) r2 r3 r4 r6
      exact ⟨pn2, m2, MR2, E0, e0, s1, r1.trans s2, s3, s4, s5, s6, s7, r7.tr s8⟩
/-- a sum, however deep -/
theorem sf_sum (ho : ss_Ok S) (hn : n ≤ 160) : ∀ d o M p C c, o ≤ 6 → 3 * (6 - o) + 3 ≤ d → p ≤ n → c ≤ p → lh S n p C c M → oX S n o p C c M (g_LawReader_readSum d 0 (nI o) M) T2 V2 Z2 := by
  intro d
  induction d using Nat.strongRecOn with
  | ind d ih =>
    intro o M p C c ho6 hd hp hc h
    obtain ⟨d', rfl⟩ : ∃ d', d = d' + 1 + 1 + 1 := ⟨d - 3, by omega⟩
    exact sf_sum1 ho hn ho6 (fun M p C c hp hc h => sf_term ho hn ho6 (fun M p C c hp hc h => sf_fac ho hn (ih d' (by omega)) ho6 (by omega) hp hc h) hp hc h) hp hc h
/-- a sum of both, to its end -/
theorem sf_top (ho : ss_Ok S) (hn : n ≤ 160) (ho6 : o ≤ 6) (hp : p ≤ n) (hc : c ≤ p) (h : lh S n p C c M) :
    (∃ w q M1, f_LawReader_readSum mm_rd (nI o) M = some (false, M1) ∧ M1.1 3 4 = ft w q ∧ w ≤ 9 ∧ q ≤ n ∧ lf M M1 ∧ ∀ ws MR, ws.length ≤ p → T2 ws → lr S n p o ws C c MR → ∃ MR1, f_R_readsSum MR = some (false, MR1) ∧ MR1.1 97 4 = ft w q ∧ rg MR MR1) ∨
    (∃ p1 C1 c1 M1, f_LawReader_readSum mm_rd (nI o) M = some (true, M1) ∧ lh S n p1 C1 c1 M1 ∧ lf M M1 ∧ p < p1 ∧ p1 ≤ n ∧ c1 + p ≤ p1 + c ∧ ext C c C1 c1 ∧ ∀ ws MR, ws.length ≤ p → T2 ws → lr S n p o ws C c MR → ∃ MR1, f_R_readsSum MR = some (true, MR1) ∧ lr S n p1 o ws C1 c1 MR1 ∧ rg MR MR1) := by
  unfold f_LawReader_readSum
  rcases sf_sum ho hn mm_rd o M p C c ho6 (by show _ ≤ 60; omega) hp hc h with ⟨w, q, M2, e1, e2, e3, e4, e5, e6⟩ | ⟨p1, C1, c1, M2, e1, e2, e3, e4, e5, e6, e7, e8, e9⟩
  · refine Or.inl ⟨w, q, M2, e1, e2, e3, e4, e5, fun ws MR hw hT hR => ?_⟩
    rw [rr_sum hR.2.2.2.2.1]
    exact e6 ws.length ws mm_fu mm_fu MR (Nat.le_refl _) hw hT hR (by show 8 ≤ 5000 + o; omega) (by show 200 ≤ 5000 + p; omega)
  · refine Or.inr ⟨p1, C1, c1, M2, e1, e2, e3, e4, e5, e6, e7, fun ws MR hw hT hR => ?_⟩
    rw [rr_sum hR.2.2.2.2.1]
    obtain ⟨pn1, m1, MR1, D0, d0, r0, r1, r2, r3, r4, r5, r6, r7⟩ := e9 ws.length ws mm_fu mm_fu MR (Nat.le_refl _) hw hT hR (by show 8 ≤ 5000 + o; omega) (by show 200 ≤ 5000 + p; omega)
    obtain ⟨m2, rfl⟩ : ∃ m2, m1 = m2 + 1 := ⟨m1 - 1, by omega⟩
    obtain ⟨MR2, s1, s2, s3⟩ := sr_lend (m := m2) ho hn e5 e8 r2 r0 hT (by omega) (by omega)
    refine ⟨MR2, r1.trans s1, ?_, r7.tr s3⟩
    rw [r3, r4]
    exact s2
end SUMBOTH
