/-! conditions: both sides -/
section CONDBOTH
variable {S : ss_S} {n p o c : Nat} {C C1 C2 B D : Nat → Nat × Nat} {M M1 M2 : mm_M} {ws : List Nat}
def iA (S : ss_S) (n o p : Nat) (C : Nat → Nat × Nat) (c w q : Nat) (T : List Nat → Prop) : Prop := ∀ ws m MR, ws.length ≤ p → T ws → lr S n p o ws C c MR → 200 ≤ m + p → ∃ MR1, rc_0 m MR = some (false, MR1) ∧ MR1.1 97 4 = ft w q ∧ rg MR MR1
def oY (S : ss_S) (n o p : Nat) (C : Nat → Nat × Nat) (c : Nat) (M : mm_M) (r : Option (Bool × mm_M)) (T : List Nat → Prop) (Z : Nat → Prop) (RB : Nat → (Nat → Nat × Nat) → Nat → Prop) : Prop :=
  (∃ w q M1, r = some (false, M1) ∧ M1.1 3 4 = ft w q ∧ w ≤ 9 ∧ q ≤ n ∧ lf M M1 ∧ iA S n o p C c w q T) ∨
  (∃ p1 C1 c1 M1, r = some (true, M1) ∧ lh S n p1 C1 c1 M1 ∧ lf M M1 ∧ p < p1 ∧ p1 ≤ n ∧ c1 + p ≤ p1 + c ∧ ext C c C1 c1 ∧ bo C1 c1 = true ∧ Z (tx_g S n p1) ∧ RB p1 C1 c1)
def iP (S : ss_S) (n o p : Nat) (C : Nat → Nat × Nat) (c : Nat) (T : List Nat → Prop) (p1 : Nat) (C1 : Nat → Nat × Nat) (c1 : Nat) : Prop := ∀ ws m MR, ws.length ≤ p → T ws → lr S n p o ws C c MR → 200 ≤ m + p → ∃ m1 j1 i1 MR1, rc_0 m MR = rc_P m1 j1 i1 MR1 ∧ lr S n p1 o ws C1 c1 MR1 ∧ 200 ≤ m1 + p1 ∧ 200 ≤ j1 + p1 ∧ 10 + o ≤ i1 ∧ rg MR MR1
def iI (S : ss_S) (n o p : Nat) (C : Nat → Nat × Nat) (c : Nat) (T : List Nat → Prop) (V : List (Nat × Nat) → Prop) (p1 : Nat) (C1 : Nat → Nat × Nat) (c1 : Nat) : Prop := ∀ ws m MR, ws.length ≤ p → T ws → lr S n p o ws C c MR → 200 ≤ m + p → ∃ pj m1 j1 MR1 C0, V pj ∧ rc_0 m MR = rc_W m1 j1 MR1 ∧ lr S n p1 o (pj.map jv ++ ws) C0 c1 MR1 ∧ C1 = ld C0 c1 pj ∧ jo pj C0 c1 ∧ pj.length + ws.length ≤ p1 ∧ 200 ≤ m1 + p1 ∧ 200 ≤ j1 + p1 ∧ rg MR MR1
def TP : List Nat → Prop := fun ws => 10 ≤ tp ws ∧ tp ws ≤ 13
def TI : List Nat → Prop := fun ws => 11 ≤ tp ws ∧ tp ws ≤ 13
def TQ : List Nat → Prop := fun ws => 12 ≤ tp ws ∧ tp ws ≤ 13
def TR : List Nat → Prop := fun ws => tp ws = 13
def VI : List (Nat × Nat) → Prop := fun pj => pj = []
def VQ : List (Nat × Nat) → Prop := fun pj => ∀ x, x ∈ pj → x.1 = 11
def VR : List (Nat × Nat) → Prop := fun pj => ∀ x, x ∈ pj → x.1 = 11 ∨ x.1 = 12
def ZI : Nat → Prop := fun _ => True
def ZQ : Nat → Prop := fun g => g ≠ 38
def ZR : Nat → Prop := fun g => g ≠ 38 ∧ g ≠ 124
def cg (c : Nat) : Nat := if c = 60 then 7 else if c = 62 then 8 else if c = 61 then 9 else 0
theorem cg_ix : ∀ c, c < 257 → (pp_ix [60, 62, 61] c 0 = -1 ↔ cg c = 0) := by decide +kernel
theorem cg_ch : ∀ c, c < 257 → cg c ≠ 0 → ch (cg c) = c ∧ 7 ≤ cg c ∧ cg c ≤ 9 ∧ c < 256 := by decide +kernel
def rc_B (s0 : Int32) (M_5 : mm_M) : Option (Bool × mm_M) := if s0 = (-1) then mm_bd (f_R_wrongAt 1 (M_5.1 97 2) M_5) fun b_13 M_14 => some (b_13, M_14) else mm_let (mm_setI M_5 97 2 ((M_5.1 97 2) + 1)) fun M_6 => mm_bd (f_R_readsSum M_6) fun b_7 M_8 => if b_7 = true then mm_bd (f_R_notes s0 0 M_8) fun u_9 M_10 => mm_bd (f_R_endsPiece M_10) fun u_11 M_12 => some (true, M_12) else some (false, M_8)
theorem rc_cmp (M : mm_M) : f_R_readsCompared M = mm_bd (f_R_readsSum M) fun b_1 M_2 => if b_1 = true then mm_bd (f_R_here M_2) fun r_3 M_4 => if r_3 = 60 then rc_B 7 M_4 else mm_bd (f_R_here M_4) fun r_15 M_16 => if r_15 = 62 then rc_B 8 M_16 else mm_bd (f_R_here M_16) fun r_17 M_18 => if r_17 = 61 then rc_B 9 M_18 else rc_B (-1) M_18 else some (false, M_2) := rfl
theorem rc_here (ho : ss_Ok S) (hn : n ≤ 160) (hp : p ≤ n) (h : lr S n p o ws C c M) : (mm_bd (f_R_here M) fun r_3 M_4 => if r_3 = 60 then rc_B 7 M_4 else mm_bd (f_R_here M_4) fun r_15 M_16 => if r_15 = 62 then rc_B 8 M_16 else mm_bd (f_R_here M_16) fun r_17 M_18 => if r_17 = 61 then rc_B 9 M_18 else rc_B (-1) M_18) = rc_B (if cg (tx_g S n p) = 0 then -1 else nI (cg (tx_g S n p))) M := by
  have hh := sr_here ho (show n ≤ 200 by omega) (show p ≤ 300 by omega) h.1
  rw [hh, pp_bd, hh, pp_bd, hh, pp_bd]
  unfold cg
  by_cases h1 : tx_g S n p = 60
  · rw [h1]; rfl
  · by_cases h2 : tx_g S n p = 62
    · rw [h2]; rfl
    · by_cases h3 : tx_g S n p = 61
      · rw [h3]; rfl
      · rw [if_neg (show ¬ tx_I (tx_g S n p) = 60 from tx_Ine ho hn (by decide) h1), if_neg (show ¬ tx_I (tx_g S n p) = 62 from tx_Ine ho hn (by decide) h2), if_neg (show ¬ tx_I (tx_g S n p) = 61 from tx_Ine ho hn (by decide) h3), if_neg h1, if_neg h2, if_neg h3, if_pos rfl]
theorem rc_go (ho : ss_Ok S) (hn : n ≤ 160) (hp : p ≤ n) (h : lr S n p o ws C c M) (h1 : tx_g S n p ≠ 33) (h2 : tx_g S n p ≠ 40) {m : Nat} : rc_0 (m + 1) M = mm_bd (f_R_readsCompared M) fun b M' => if b = true then rc_W m mm_fu M' else some (false, M') := by
  unfold rc_0
  rw [lp_R_readsCondition_40]
  simp only [sr_here ho (show n ≤ 200 by omega) (show p ≤ 300 by omega) h.1, pp_bd, pp_jn]
  rw [if_neg (show ¬ tx_I (tx_g S n p) = 33 from tx_Ine ho hn (by decide) h1), if_neg (show ¬ tx_I (tx_g S n p) = 40 from tx_Ine ho hn (by decide) h2)]
  rfl
/-- a comparison -/
theorem sf_cmp (ho : ss_Ok S) (hn : n ≤ 160) (ho6 : o ≤ 6) (hp : p ≤ n) (hc : c ≤ p) (h : lh S n p C c M) (h33 : tx_g S n p ≠ 33) (h40 : tx_g S n p ≠ 40) : oY S n o p C c M (f_LawReader_readComparison (nI o) M) TP ZI (iP S n o p C c TP) := by
  have hn2 : n ≤ 200 := by omega
  have hTT : ∀ ws, TP ws → T2 ws := fun ws q => by
    have q : 10 ≤ tp ws ∧ tp ws ≤ 13 := q
    show ¬ (2 ≤ tp ws ∧ tp ws ≤ 6)
    omega
  unfold f_LawReader_readComparison
  rcases sf_top ho hn ho6 hp hc h with ⟨w, q, M1, e1, e2, e3, e4, e5, e6⟩ | ⟨p1, C1, c1, M1, e1, e2, e3, e4, e5, e6, e7, e8⟩
  · rw [e1, pp_bd, if_neg (by decide)]
    refine Or.inl ⟨w, q, M1, rfl, e2, e3, e4, e5, fun ws m MR hw hT hR hm => ?_⟩
    obtain ⟨m', rfl⟩ : ∃ m', m = m' + 1 := ⟨m - 1, by omega⟩
    obtain ⟨MR1, r1, r2, r3⟩ := e6 ws MR hw (hTT ws hT) hR
    refine ⟨MR1, ?_, r2, r3⟩
    rw [rc_go ho hn hp hR h33 h40, rc_cmp, r1, pp_bd, if_neg (by decide), pp_bd, if_neg (by decide)]
  · have hlt := tx_g_lt ho hn2 p1
    rw [e1, pp_bd, if_pos rfl, e2.1.2.2.2, pp_let, sh_among_145 ho hn2 e2.1, pp_bd]
    by_cases hg : cg (tx_g S n p1) = 0
    · obtain ⟨M2, g1, g2, g3⟩ := sh_fail e2.1 1
      rw [if_pos ((cg_ix _ hlt).mpr hg), show f_TextReader_failHere 1 M1 = _ from g1, pp_bd]
      refine Or.inl ⟨1, p1, M2, rfl, g2, by decide, e5, e3.tr g3.l, fun ws m MR hw hT hR hm => ?_⟩
      obtain ⟨m', rfl⟩ : ∃ m', m = m' + 1 := ⟨m - 1, by omega⟩
      obtain ⟨MR1, r1, r2, r3⟩ := e8 ws MR hw (hTT ws hT) hR
      refine ⟨mm_setI MR1 97 4 (ft 1 p1), ?_, rfl, r3.s (by decide)⟩
      rw [rc_go ho hn hp hR h33 h40, rc_cmp, r1, pp_bd, if_pos rfl, rc_here ho hn e5 r2, hg, if_pos rfl]
      unfold rc_B
      rw [if_pos rfl, r2.1.2.2, show f_R_wrongAt 1 (nI p1) MR1 = _ from sr_wrong 1 p1 MR1, pp_bd, pp_bd, if_neg (by decide)]
    · obtain ⟨k1, k2, k3, k4⟩ := cg_ch _ hlt hg
      have hpn : p1 < n := tx_g_in (c := tx_g S n p1) rfl (by omega)
      obtain ⟨M2, g1, g2, g3⟩ := sh_step1 ho hn2 (show p1 < 300 by omega) e2.1
      rw [if_neg (fun q => hg ((cg_ix _ hlt).mp q)), g1, pp_bd]
      rcases sf_top ho hn ho6 (show p1 + 1 ≤ n by omega) (show c1 ≤ p1 + 1 by omega) (e2.t g2 g3) with ⟨w, q, M3, a1, a2, a3, a4, a5, a6⟩ | ⟨p2, C2, c2, M3, a1, a2, a3, a4, a5, a6, a7, a8⟩
      · rw [a1, pp_bd, if_neg (by decide)]
        refine Or.inl ⟨w, q, M3, rfl, a2, a3, a4, (e3.tr g3.l).tr a5, fun ws m MR hw hT hR hm => ?_⟩
        obtain ⟨m', rfl⟩ : ∃ m', m = m' + 1 := ⟨m - 1, by omega⟩
        obtain ⟨MR1, r1, r2, r3⟩ := e8 ws MR hw (hTT ws hT) hR
        obtain ⟨MR2, s1, s2, s3⟩ := a6 ws _ (by omega) (hTT ws hT) (r2.to (q := p1 + 1))
        refine ⟨MR2, ?_, s2, (r3.s (by decide)).tr s3⟩
        rw [rc_go ho hn hp hR h33 h40, rc_cmp, r1, pp_bd, if_pos rfl, rc_here ho hn e5 r2, if_neg hg]
        unfold rc_B
        rw [if_neg (tx_ne (by omega)), r2.1.2.2, nI_1, pp_let, s1, pp_bd, if_neg (by decide), pp_bd, if_neg (by decide)]
      · obtain ⟨M4, f1, f2, f3⟩ := sh_addStep a2 (by omega) (op := cg (tx_g S n p1)) (a := 0) (v1 := tx_I (tx_g S n p1)) (v2 := 0) (by rw [k1, tx_Ig (by omega)]) (by rw [if_neg (fun q => by omega)]; rfl)
        rw [a1, pp_bd, if_pos rfl, f1, pp_bd]
        refine Or.inr ⟨p2, _, c2 + 1, M4, rfl, f2, ((e3.tr g3.l).tr a3).tr f3, by omega, a5, by omega, ext_bin e7 a7 (op := cg (tx_g S n p1)) ⟨by omega, k3⟩, ext_cmp (c1 := 0) ⟨k2, k3⟩, trivial, fun ws m MR hw hT hR hm => ?_⟩
        obtain ⟨m', rfl⟩ : ∃ m', m = m' + 1 := ⟨m - 1, by omega⟩
        obtain ⟨MR1, r1, r2, r3⟩ := e8 ws MR hw (hTT ws hT) hR
        obtain ⟨MR2, s1, s2, s3⟩ := a8 ws _ (by omega) (hTT ws hT) (r2.to (q := p1 + 1))
        obtain ⟨MR3, t1, t2, t3⟩ := sr_notes s2 (by omega) (op := cg (tx_g S n p1)) (a := 0) (v1 := nI (cg (tx_g S n p1))) (v2 := 0) rfl rfl
        refine ⟨m', mm_fu, mm_fu, MR3, ?_, t2, by omega, by show 200 ≤ 5000 + p2; omega, by show 10 + o ≤ 5000; omega, ((r3.s (by decide)).tr s3).tr t3⟩
        rw [rc_go ho hn hp hR h33 h40, rc_cmp, r1, pp_bd, if_pos rfl, rc_here ho hn e5 r2, if_neg hg]
        unfold rc_B
        rw [if_neg (tx_ne (by omega)), r2.1.2.2, nI_1, pp_let, s1, pp_bd, if_pos rfl, t1, pp_bd]
        unfold rc_P f_R_endsPiece
        cases lp_R_endsPiece_0 (fun (M_7 : mm_M) => some ((), M_7)) mm_fu MR3 with
        | none => rfl
        | some x => rfl
theorem gC0 (d : Nat) (v : Int32) (M : mm_M) : g_LawReader_readCondition (d + 1) 0 v M = fb_LawReader_readCondition (g_LawReader_readCondition d) v M := by rw [g_LawReader_readCondition, if_pos rfl]
theorem gC1 (d : Nat) (v : Int32) (M : mm_M) : g_LawReader_readCondition (d + 1) 1 v M = fb_LawReader_readPieces (g_LawReader_readCondition d) v M := by rw [g_LawReader_readCondition, if_neg (by decide), if_pos rfl]
theorem gC2 (d : Nat) (v : Int32) (M : mm_M) : g_LawReader_readCondition (d + 1) 2 v M = fb_LawReader_readPiece (g_LawReader_readCondition d) v M := by rw [g_LawReader_readCondition, if_neg (by decide), if_neg (by decide), if_pos rfl]
/-- a piece -/
theorem sf_piece (ho : ss_Ok S) (hn : n ≤ 160) {d : Nat} (ihP : ∀ o M p C c, o ≤ 6 → 3 * (6 - o) + 1 ≤ d → p ≤ n → c ≤ p → lh S n p C c M → oY S n o p C c M (g_LawReader_readCondition d 2 (nI o) M) TP ZI (iP S n o p C c TP)) (ihC : ∀ o M p C c, o ≤ 6 → 3 * (6 - o) + 3 ≤ d → p ≤ n → c ≤ p → lh S n p C c M → oY S n o p C c M (g_LawReader_readCondition d 0 (nI o) M) TR ZR (iI S n o p C c TR VR)) (ho6 : o ≤ 6) (hd : 3 * (6 - o) ≤ d) (hp : p ≤ n) (hc : c ≤ p) (h : lh S n p C c M) : oY S n o p C c M (g_LawReader_readCondition (d + 1) 2 (nI o) M) TP ZI (iP S n o p C c TP) := by
  have hn2 : n ≤ 200 := by omega
  have hlt := tx_g_lt ho hn2 p
  rw [gC2]
  unfold fb_LawReader_readPiece
  rw [h.1.2.2.2]
  by_cases h33 : tx_g S n p = 33
  · have hpn : p < n := tx_g_in h33 (by decide)
    obtain ⟨y1, y2⟩ := sh_mayOpen ho hn2 (show p < 300 by omega) h ho6
    rw [if_pos (show tx_I (tx_g S n p) = 33 from by rw [h33]; rfl)]
    by_cases h6 : o < 6
    · obtain ⟨M1, g1, g2, g3⟩ := y1 h6
      rw [g1, pp_bd, if_pos rfl, nI_1]
      have ref : ∀ ws m MR, ws.length ≤ p → TP ws → lr S n p o ws C c MR → 200 ≤ m + 1 + p → ∃ MR1, rc_0 (m + 1) MR = rc_0 m MR1 ∧ lr S n (p + 1) (o + 1) ((1048576 * 10) :: ws) C c MR1 ∧ rg MR MR1 := fun ws m MR hw hT hR hm => by
        obtain ⟨MR1, r1, r2, r3⟩ := (sr_opens (what := 10) (by decide) (by omega) hw hR ho6).1 h6
        refine ⟨MR1, ?_, r2, r3⟩
        rw [rc_un ho hn hp hR h33 (Or.inl ⟨rfl, rfl⟩), r1, pp_bd, if_pos rfl]
      have hTn : ∀ ws, TP ((1048576 * 10) :: ws) := fun ws => by
        show 10 ≤ 10 ∧ 10 ≤ 13
        decide
      rcases ihP (o + 1) M1 (p + 1) C c (by omega) (by omega) (by omega) (by omega) g2 with ⟨w, q, M2, e1, e2, e3, e4, e5, e6⟩ | ⟨p1, C1, c1, M2, e1, e2, e3, e4, e5, e6, e7, e8, e9, e10⟩
      · rw [e1, pp_bd, if_neg (by decide)]
        refine Or.inl ⟨w, q, M2, rfl, e2, e3, e4, g3.tr e5, fun ws m MR hw hT hR hm => ?_⟩
        obtain ⟨m', rfl⟩ : ∃ m', m = m' + 1 := ⟨m - 1, by omega⟩
        obtain ⟨MR1, r1, r2, r3⟩ := ref ws m' MR hw hT hR hm
        obtain ⟨MR2, s1, s2, s3⟩ := e6 _ m' MR1 (by rw [List.length_cons]; omega) (hTn ws) r2 (by omega)
        exact ⟨MR2, r1.trans s1, s2, r3.tr s3⟩
      · obtain ⟨M3, f1, f2, f3⟩ := sh_addStep e2 (by omega) (op := 10) (a := 0) (v1 := 33) (v2 := 0) rfl rfl
        rw [e1, pp_bd, if_pos rfl, f1, pp_bd]
        obtain ⟨n1, n2⟩ := ext_not e7 e8
        refine Or.inr ⟨p1, _, c1 + 1, M3, rfl, f2, (g3.tr e3).tr f3, by omega, e5, by omega, n1, n2, trivial, fun ws m MR hw hT hR hm => ?_⟩
        obtain ⟨m', rfl⟩ : ∃ m', m = m' + 1 := ⟨m - 1, by omega⟩
        obtain ⟨MR1, r1, r2, r3⟩ := ref ws m' MR hw hT hR hm
        obtain ⟨m1, j1, i1, MR2, s1, s2, s3, s4, s5, s6⟩ := e10 _ m' MR1 (by rw [List.length_cons]; omega) (hTn ws) r2 (by omega)
        obtain ⟨i2, rfl⟩ : ∃ i2, i1 = i2 + 1 := ⟨i1 - 1, by omega⟩
        obtain ⟨MR3, t1, t2, t3⟩ := rc_not (m := m1) (j := j1) (i := i2) s2 (by omega) (by omega)
        exact ⟨m1, j1, i2, MR3, r1.trans (s1.trans t1), t2, s3, s4, by omega, (r3.tr s6).tr t3⟩
    · obtain ⟨M1, g1, g2, g3⟩ := y2 h6
      rw [g1, pp_bd, if_neg (by decide)]
      refine Or.inl ⟨5, p, M1, rfl, g2, by decide, hp, g3, fun ws m MR hw hT hR hm => ?_⟩
      obtain ⟨m', rfl⟩ : ∃ m', m = m' + 1 := ⟨m - 1, by omega⟩
      obtain ⟨MR1, r1, r2, r3⟩ := (sr_opens (what := 10) (by decide) (by omega) hw hR ho6).2 h6
      refine ⟨MR1, ?_, r2, r3⟩
      rw [rc_un ho hn hp hR h33 (Or.inl ⟨rfl, rfl⟩), r1, pp_bd, if_neg (by decide)]
  · rw [if_neg (show ¬ tx_I (tx_g S n p) = 33 from tx_Ine ho hn (by decide) h33)]
    by_cases h40 : tx_g S n p = 40
    · have hpn : p < n := tx_g_in h40 (by decide)
      obtain ⟨y1, y2⟩ := sh_mayOpen ho hn2 (show p < 300 by omega) h ho6
      rw [if_pos (show tx_I (tx_g S n p) = 40 from by rw [h40]; rfl)]
      by_cases h6 : o < 6
      · obtain ⟨M1, g1, g2, g3⟩ := y1 h6
        rw [g1, pp_bd, if_pos rfl, nI_1]
        have ref : ∀ ws m MR, ws.length ≤ p → TP ws → lr S n p o ws C c MR → 200 ≤ m + 1 + p → ∃ MR1, rc_0 (m + 1) MR = rc_0 m MR1 ∧ lr S n (p + 1) (o + 1) ((1048576 * 13) :: ws) C c MR1 ∧ rg MR MR1 := fun ws m MR hw hT hR hm => by
          obtain ⟨MR1, r1, r2, r3⟩ := (sr_opens (what := 13) (by decide) (by omega) hw hR ho6).1 h6
          refine ⟨MR1, ?_, r2, r3⟩
          rw [rc_un ho hn hp hR h40 (Or.inr ⟨rfl, rfl⟩), r1, pp_bd, if_pos rfl]
        have hTn : ∀ ws, TR ((1048576 * 13) :: ws) := fun ws => rfl
        rcases ihC (o + 1) M1 (p + 1) C c (by omega) (by omega) (by omega) (by omega) g2 with ⟨w, q, M2, e1, e2, e3, e4, e5, e6⟩ | ⟨p1, C1, c1, M2, e1, e2, e3, e4, e5, e6, e7, e8, e9, e10⟩
        · rw [e1, pp_bd, if_neg (by decide)]
          refine Or.inl ⟨w, q, M2, rfl, e2, e3, e4, g3.tr e5, fun ws m MR hw hT hR hm => ?_⟩
          obtain ⟨m', rfl⟩ : ∃ m', m = m' + 1 := ⟨m - 1, by omega⟩
          obtain ⟨MR1, r1, r2, r3⟩ := ref ws m' MR hw hT hR hm
          obtain ⟨MR2, s1, s2, s3⟩ := e6 _ m' MR1 (by rw [List.length_cons]; omega) (hTn ws) r2 (by omega)
          exact ⟨MR2, r1.trans s1, s2, r3.tr s3⟩
        · rw [e1, pp_bd, if_pos rfl]
          obtain ⟨t1, t2⟩ := sh_take ho hn2 (show p1 < 300 by omega) (c := 41) (by decide) e2.1
          by_cases h41 : tx_g S n p1 = 41
          · obtain ⟨M3, u1, u2, u3⟩ := t1 h41
            have hp1 : p1 < n := tx_g_in h41 (by decide)
            rw [show f_TextReader_take 41 M2 = _ from u1, pp_bd, if_pos rfl]
            refine Or.inr ⟨p1 + 1, C1, c1, M3, rfl, e2.t u2 u3, (g3.tr e3).tr u3.l, by omega, by omega, by omega, e7, e8, trivial, fun ws m MR hw hT hR hm => ?_⟩
            obtain ⟨m', rfl⟩ : ∃ m', m = m' + 1 := ⟨m - 1, by omega⟩
            obtain ⟨MR1, r1, r2, r3⟩ := ref ws m' MR hw hT hR hm
            obtain ⟨pj, m1, j1, MR2, C0, s1, s2, s3, s4, s5, s6, s7, s8, s9⟩ := e10 _ m' MR1 (by rw [List.length_cons]; omega) (hTn ws) r2 (by omega)
            rw [List.length_cons] at s6
            obtain ⟨j2, rfl⟩ : ∃ j2, j1 = j2 + 1 := ⟨j1 - 1, by omega⟩
            obtain ⟨MR3, v1, v2, v3⟩ := rc_cl (m := m1) (j := j2) ho hn e5 h41 s3 s1 s5 (by omega) (by omega)
            have hne : ws ≠ [] := fun q => by
              have hT : 10 ≤ tp ws ∧ tp ws ≤ 13 := hT
              rw [q] at hT
              exact absurd hT.2 (by decide)
            rw [if_neg hne] at v1
            rw [← s4] at v2
            exact ⟨m1, j2, mm_fu, MR3, r1.trans (s2.trans v1), v2, by omega, by omega, by show 10 + o ≤ 5000; omega, (r3.tr s9).tr v3⟩
          · obtain ⟨M3, u1, u2, u3⟩ := t2 h41
            rw [show f_TextReader_take 41 M2 = _ from u1, pp_bd, if_neg (by decide)]
            refine Or.inl ⟨1, p1, M3, rfl, u2, by decide, e5, (g3.tr e3).tr u3.l, fun ws m MR hw hT hR hm => ?_⟩
            obtain ⟨m', rfl⟩ : ∃ m', m = m' + 1 := ⟨m - 1, by omega⟩
            obtain ⟨MR1, r1, r2, r3⟩ := ref ws m' MR hw hT hR hm
            obtain ⟨pj, m1, j1, MR2, C0, s1, s2, s3, s4, s5, s6, s7, s8, s9⟩ := e10 _ m' MR1 (by rw [List.length_cons]; omega) (hTn ws) r2 (by omega)
            obtain ⟨j2, rfl⟩ : ∃ j2, j1 = j2 + 1 := ⟨j1 - 1, by omega⟩
            obtain ⟨MR3, v1, v2, v3⟩ := rc_bad (m := m1) (j := j2) ho hn e5 h41 e9.1 e9.2 s3
            exact ⟨MR3, r1.trans (s2.trans v1), v2, (r3.tr s9).tr v3⟩
      · obtain ⟨M1, g1, g2, g3⟩ := y2 h6
        rw [g1, pp_bd, if_neg (by decide)]
        refine Or.inl ⟨5, p, M1, rfl, g2, by decide, hp, g3, fun ws m MR hw hT hR hm => ?_⟩
        obtain ⟨m', rfl⟩ : ∃ m', m = m' + 1 := ⟨m - 1, by omega⟩
        obtain ⟨MR1, r1, r2, r3⟩ := (sr_opens (what := 13) (by decide) (by omega) hw hR ho6).2 h6
        refine ⟨MR1, ?_, r2, r3⟩
        rw [rc_un ho hn hp hR h40 (Or.inr ⟨rfl, rfl⟩), r1, pp_bd, if_neg (by decide)]
    · rw [if_neg (show ¬ tx_I (tx_g S n p) = 40 from tx_Ine ho hn (by decide) h40)]
      have := sf_cmp ho hn ho6 hp hc h h33 h40
      rw [show (mm_bd (f_LawReader_readComparison (nI o) M) fun b_1 M_2 => some (b_1, M_2)) = f_LawReader_readComparison (nI o) M from by
        cases f_LawReader_readComparison (nI o) M with
        | none => rfl
        | some x => rfl]
      exact this
end CONDBOTH
