/-! sums: the reference's loop -/
section SUMLOOP
variable {S : ss_S} {n p o c : Nat} {C C1 C2 : Nat → Nat × Nat} {M M1 M2 : mm_M} {ws : List Nat}
def rr_K : mm_M → Option (Bool × mm_M) := fun (M_6 : mm_M) => mm_bd (f_R_isDigit M_6) fun b_7 M_8 => if b_7 = true then mm_bd (f_R_readsNumber M_8) fun b_18 M_19 => if b_18 = true then mm_bd (f_R_notes 0 (M_19.1 97 5) M_19) fun u_20 M_21 => some (true, M_21) else some (false, M_19) else mm_bd (f_R_here M_8) fun r_9 M_10 => mm_bd (f_R_factOf r_9 M_10) fun r_11 M_12 => if r_11 = (-1) then mm_bd (f_R_wrongAt 1 (M_12.1 97 2) M_12) fun b_16 M_17 => some (b_16, M_17) else mm_bd (f_R_notes 1 r_11 M_12) fun u_13 M_14 => mm_let (mm_setI M_14 97 2 ((M_14.1 97 2) + 1)) fun M_15 => some (true, M_15)
def rr_F (j : Nat) (M : mm_M) : Option (Bool × mm_M) := lp_R_readsFactor_0 (fun (M_5 : mm_M) => some (false, M_5)) rr_K j M
def rr_E (b : Int32) : mm_M → Option (Bool × mm_M) := fun (M_27 : mm_M) => mm_bd (f_R_hasOpenSum b M_27) fun b_28 M_29 => if b_28 = true then mm_bd (f_R_wrongAt 1 (M_29.1 97 2) M_29) fun b_32 M_33 => some (b_32, M_33) else mm_bd (f_R_closesSums true M_29) fun u_30 M_31 => some (true, M_31)
def rr_L (b m : Nat) (M : mm_M) : Option (Bool × mm_M) := lp_R_readsSum_14 (nI b) (fun (M_26 : mm_M) => some (false, M_26)) (rr_E (nI b)) m M
def rr_S (b j m : Nat) (M : mm_M) : Option (Bool × mm_M) := mm_bd (rr_F j M) fun b2 M' => if b2 = true then rr_L b m M' else some (false, M')
theorem rr_sum {b : Nat} (h : M.1 97 24 = nI b) : f_R_readsSum M = rr_S b mm_fu mm_fu M := by
  unfold f_R_readsSum
  rw [h, pp_let]
  rfl
theorem sr_num_lp (ho : ss_Ok S) (hn : n ≤ 200) (hp : p ≤ n) {kA kB : mm_M → Option (Bool × mm_M)} : ∀ q i v M', i + q = 5 → tx_R S n (p + i) M' → M'.1 97 5 = nI v → rx M M' → ∀ m, ∃ M1, tx_R S n (tx_n S n q v (p + i)).2 M1 ∧ M1.1 97 5 = nI (tx_n S n q v (p + i)).1 ∧ rx M M1 ∧ lp_R_readsNumber_10 (nI p) kA kB (m + q + 1) M' = if tx_d (tx_g S n (tx_n S n q v (p + i)).2) = true then kA M1 else kB M1 := by
  intro q
  induction q with
  | zero =>
    intro i v M' hi h' hv hf m
    have : i = 5 := by omega
    subst this
    refine ⟨M', h', hv, hf, ?_⟩
    rw [lp_R_readsNumber_10, sr_isDigit ho hn (by omega) h', pp_bd, tx_n, h'.2.2, if_pos (show nI (p + 5) = nI p + 5 from (nI_add p 5).symm)]
  | succ q ih =>
    intro i v M' hi h' hv hf m
    rw [show m + (q + 1) + 1 = (m + q + 1) + 1 from rfl, lp_R_readsNumber_10, sr_isDigit ho hn (by omega) h', pp_bd, tx_n]
    by_cases hc : tx_d (tx_g S n (p + i)) = true
    · rw [if_pos hc, if_pos hc, h'.2.2, if_neg (fun e => by
        rw [show nI p + 5 = nI (p + 5) from nI_add p 5, nI_eq (by omega) (by omega)] at e
        omega), sr_here ho hn (by omega) h', pp_bd, hv, tx_Id hc, tx_val (tx_d_e hc).1, pp_let]
      rw [show (mm_setI M' 97 5 (nI (10 * v + (tx_g S n (p + i) - 48)))).1 97 2 = nI (p + i) from h'.2.2, nI_1, pp_let]
      have hpn := tx_d_in hc
      exact ih (i + 1) _ _ (by omega) (h'.v.to) rfl ((hf.s (by decide)).s (by decide)) m
    · rw [if_neg hc, if_neg hc]
      exact ⟨M', h', hv, hf, by rw [if_neg hc]⟩
theorem sr_number (ho : ss_Ok S) (hn : n ≤ 200) (hp : p ≤ n) (h : tx_R S n p M) : (tx_d (tx_g S n (tx_n S n 5 0 p).2) = true → ∃ M1, f_R_readsNumber M = some (false, M1) ∧ M1.1 97 4 = ft 2 (tx_n S n 5 0 p).2 ∧ rx M M1) ∧ (tx_d (tx_g S n (tx_n S n 5 0 p).2) = false → ∃ M1, f_R_readsNumber M = some (true, M1) ∧ tx_R S n (tx_n S n 5 0 p).2 M1 ∧ M1.1 97 5 = nI (tx_n S n 5 0 p).1 ∧ rx M M1) := by
  unfold f_R_readsNumber
  rw [h.2.2, pp_let, pp_let]
  obtain ⟨M1, g1, g2, g3, g4⟩ := sr_num_lp (M := M) ho hn hp (kA := fun (M_9 : mm_M) => mm_bd (f_R_wrongAt 2 (M_9.1 97 2) M_9) fun b_10 M_11 => some (b_10, M_11)) (kB := fun (M_12 : mm_M) => some (true, M_12)) 5 0 0 (mm_setI M 97 5 0) rfl h.v rfl (rx.rf.s (by decide)) 4994
  rw [show p + 0 = p from rfl] at g1 g2 g4
  rw [show (4994 : Nat) + 5 + 1 = mm_fu from rfl] at g4
  rw [g4]
  constructor
  · intro q
    rw [if_pos q, g1.2.2, show f_R_wrongAt 2 (nI _) M1 = _ from sr_wrong 2 _ M1, pp_bd]
    exact ⟨_, rfl, rfl, g3.s (by decide)⟩
  · intro q
    rw [q, if_neg (by decide)]
    exact ⟨_, rfl, g1, g2, g3⟩
theorem tx_n5 (hp : p ≤ n) : (tx_n S n 5 0 p).1 < 100000 ∧ (tx_n S n 5 0 p).2 ≤ n := by
  obtain ⟨a, b, c, d⟩ := tx_n_le S n 5 0 p
  exact ⟨by omega, c hp⟩
theorem tx_n5_mv (h : tx_d (tx_g S n p) = true) : p < (tx_n S n 5 0 p).2 := by
  rw [tx_n, if_pos h]
  exact (tx_n_le S n 4 _ (p + 1)).1
/-- an opening bracket -/
theorem sr_opn (ho : ss_Ok S) (hn : n ≤ 160) (hp : p ≤ n) (hg : tx_g S n p = 91) (hw : ws.length ≤ p) (h : lr S n p o ws C c M) {b j m : Nat} (ho6 : o ≤ 6) : (o < 6 → ∃ M1, rr_S b (j + 1) m M = rr_S b j m M1 ∧ lr S n (p + 1) (o + 1) ((1048576 * 14) :: ws) C c M1 ∧ rg M M1) ∧ (¬ o < 6 → ∃ M1, rr_S b (j + 1) m M = some (false, M1) ∧ M1.1 97 4 = ft 5 p ∧ rg M M1) := by
  have hpn : p < n := tx_g_in hg (by decide)
  have e91 : tx_I (tx_g S n p) = 91 := by rw [hg]; rfl
  unfold rr_S rr_F
  rw [lp_R_readsFactor_0, sr_here ho (by omega) (by omega) h.1, pp_bd, e91, if_pos rfl]
  unfold f_R_opens
  constructor
  · intro q
    have h1 := (h.op (q := o + 1)).push (1048576 * 14) (by decide)
    have h2 := h1.to (q := p + 1)
    have e1 : (mm_setI M 97 22 (nI (o + 1))).1 97 24 = nI ws.length := h.2.2.2.2.1
    have e2 : ∀ v, (mm_setA (mm_setI M 97 22 (nI (o + 1))) 110 ws.length v).1 97 24 = nI ws.length := fun v => h.2.2.2.2.1
    have e3 : ∀ v u, (mm_setI (mm_setA (mm_setI M 97 22 (nI (o + 1))) 110 ws.length v) 97 24 u).1 97 2 = nI p := fun v u => h.1.2.2
    rw [h.2.1, if_neg (fun e => by rw [show (6 : Int32) = nI 6 from rfl, nI_eq (by omega) (by decide)] at e; omega), nI_1, pp_let, e1, show mm_al 110 = 180 from rfl, pp_in (by omega) (by decide), if_pos rfl, nI_clamp (by omega), pp_let, e2, nI_1, pp_let, e3, nI_1, pp_let, pp_bd, if_pos rfl]
    exact ⟨_, rfl, h2, ((((rg.rf.s (by decide)).a (Or.inr rfl)).s (by decide)).s (by decide))⟩
  · intro q
    have e6 : o = 6 := by omega
    subst e6
    rw [h.2.1, if_pos (by rfl), h.1.2.2, show f_R_wrongAt 5 (nI p) M = _ from sr_wrong 5 p M, pp_bd, pp_bd, if_neg (by decide), pp_bd, if_neg (by decide)]
    exact ⟨_, rfl, rfl, rg.rf.s (by decide)⟩
/-- an operator -/
theorem sr_lop (ho : ss_Ok S) (hn : n ≤ 160) (hp : p ≤ n) {x : Nat} (hx : sg (tx_g S n p) = x) (hx0 : x ≠ 0) {pn : List Nat} {b m : Nat} (h : lr S n p o (pn.map (1048576 * ·) ++ ws) C c M) (hpn : ∀ y, y ∈ pn → 4 ≤ y ∧ y ≤ 6 ∨ x < 4 ∧ 2 ≤ y ∧ y ≤ 3) (ht : ¬ (4 ≤ tp ws ∧ tp ws ≤ 6)) (ht2 : x < 4 → ¬ (2 ≤ tp ws ∧ tp ws ≤ 3)) (hc : c + pn.length < 170) (hw : pn.length + ws.length < 170) : ∃ M1, rr_L b (m + 1) M = rr_S b mm_fu m M1 ∧ lr S n (p + 1) o ((1048576 * x) :: ws) (cn C c pn) (c + pn.length) M1 ∧ rg M M1 := by
  have hlt := tx_g_lt ho (show n ≤ 200 by omega) p
  have hc2 := sg_ch _ hlt (by rw [hx]; exact hx0)
  rw [hx] at hc2
  have hs : so (tx_I (tx_g S n p)) = nI x := by rw [sg_so _ hlt, hx, if_neg hx0]
  have hal : ∀ al : Bool, (al = true ↔ x < 4) → ∃ M1, f_R_closesSums al M = some ((), M1) ∧ lr S n p o ws (cn C c pn) (c + pn.length) M1 ∧ rg M M1 := fun al hal => by
    obtain ⟨M1, g1, g2, g3⟩ := sr_closes (S := S) (n := n) (p := p) (o := o) (al := al) (k := fun (M_16 : mm_M) => some ((), M_16)) (ws := ws) (by omega) ht (fun q => ht2 (hal.mp q)) pn (4999 - pn.length) c C M (fun y hy => by
      rcases hpn y hy with q | q
      · exact Or.inl q
      · exact Or.inr ⟨hal.mpr q.1, q.2⟩) (by omega) (by omega) h
    refine ⟨M1, ?_, g2, g3⟩
    unfold f_R_closesSums
    rw [← g1]
    congr 1
    show 5000 = _
    omega
  have fin : ∀ al : Bool, (al = true ↔ x < 4) → ∃ M1, (mm_bd (f_R_closesSums al M) fun u_19 M_20 => if mm_in (M_20.1 97 24) (mm_al 110) = true then mm_let (mm_setA M_20 110 ((M_20.1 97 24).toNatClampNeg) (1048576 * nI x)) fun M_21 => mm_let (mm_setI M_21 97 24 ((M_21.1 97 24) + 1)) fun M_22 => mm_let (mm_setI M_22 97 2 ((M_22.1 97 2) + 1)) fun M_23 => mm_bd (f_R_readsFactor M_23) fun b_24 M_25 => if b_24 = true then lp_R_readsSum_14 (nI b) (fun (M_26 : mm_M) => some (false, M_26)) (rr_E (nI b)) m M_25 else some (false, M_25) else none) = rr_S b mm_fu m M1 ∧ lr S n (p + 1) o ((1048576 * x) :: ws) (cn C c pn) (c + pn.length) M1 ∧ rg M M1 := fun al q => by
    obtain ⟨M1, g1, g2, g3⟩ := hal al q
    have e2 : ∀ v, (mm_setA M1 110 ws.length v).1 97 24 = nI ws.length := fun v => g2.2.2.2.2.1
    have e3 : ∀ v u, (mm_setI (mm_setA M1 110 ws.length v) 97 24 u).1 97 2 = nI p := fun v u => g2.1.2.2
    rw [g1, pp_bd, g2.2.2.2.2.1, show mm_al 110 = 180 from rfl, pp_in (by omega) (by decide), if_pos rfl, nI_clamp (by omega), pp_let, e2, nI_1, pp_let, e3, nI_1, pp_let, show (1048576 : Int32) = nI 1048576 from rfl, pp_mulN]
    exact ⟨_, rfl, (g2.push (1048576 * x) (by omega)).to, ((g3.a (Or.inr rfl)).s (by decide)).s (by decide)⟩
  unfold rr_L
  rw [lp_R_readsSum_14, sr_here ho (by omega) (by omega) h.1, pp_bd, sr_sumSign, pp_bd, hs, pp_jn, if_neg (tx_ne (by omega)), pp_jn]
  by_cases h4 : 4 ≤ x
  · rw [if_pos (show (4 : Int32) ≤ nI x from nI_le (a := 4) h4 (by omega))]
    exact fin false ⟨fun q => (by cases q), fun q => by omega⟩
  · rw [if_neg (show ¬ (4 : Int32) ≤ nI x from nI_ge (b := 4) (by omega) (by decide))]
    exact fin true ⟨fun _ => by omega, fun _ => rfl⟩
theorem pn26 {y : Nat} (h : 2 ≤ y ∧ y ≤ 6) : 4 ≤ y ∧ y ≤ 6 ∨ true = true ∧ 2 ≤ y ∧ y ≤ 3 := by
  by_cases h4 : 4 ≤ y
  · exact Or.inl ⟨h4, h.2⟩
  · exact Or.inr ⟨rfl, h.1, by omega⟩
/-- a closing bracket -/
theorem sr_lbr (ho : ss_Ok S) (hn : n ≤ 160) (hp : p ≤ n) (hg : tx_g S n p = 93) {pn : List Nat} {b m : Nat} (hb : b ≤ ws.length) (h : lr S n p (o + 1) (pn.map (1048576 * ·) ++ (1048576 * 14) :: ws) C c M) (hpn : ∀ y, y ∈ pn → 2 ≤ y ∧ y ≤ 6) (hc : c + pn.length < 170) (hw : pn.length + ws.length < 170) : ∃ M1, rr_L b (m + 1) M = rr_L b m M1 ∧ lr S n (p + 1) o ws (cn C c pn) (c + pn.length) M1 ∧ rg M M1 := by
  have e93 : tx_I (tx_g S n p) = 93 := by rw [hg]; rfl
  have hl : M.1 97 24 = nI (pn.length + (ws.length + 1)) := by
    have := h.2.2.2.2.1
    rw [List.length_append, List.length_map, List.length_cons] at this
    exact this
  have hos : f_R_hasOpenSum (nI b) M = some (true, M) := sr_hos_yes (i0 := ws.length) hl (by omega) hb (by omega) (tk_in _ h.2.2.2.2.2)
  obtain ⟨M1, g1, g2, g3⟩ := sr_closes (S := S) (n := n) (p := p) (o := o + 1) (al := true) (k := fun (M_16 : mm_M) => some ((), M_16)) (ws := (1048576 * 14) :: ws) (by rw [List.length_cons]; omega) (by rw [show tp (1048576 * 14 :: ws) = 14 from rfl]; decide) (fun _ => by rw [show tp (1048576 * 14 :: ws) = 14 from rfl]; decide) pn (4999 - pn.length) c C M (fun y hy => pn26 (hpn y hy)) (by omega) (by rw [List.length_cons]; omega) h
  have g1' : f_R_closesSums true M = some ((), M1) := by
    unfold f_R_closesSums
    rw [← g1]
    congr 1
    show 5000 = _
    omega
  have e1 : M1.1 97 24 = nI (ws.length + 1) := g2.2.2.2.2.1
  have e2 : ∀ v, (mm_setI M1 97 24 v).1 97 22 = nI (o + 1) := fun v => g2.2.1
  have e3 : ∀ v u, (mm_setI (mm_setI M1 97 24 v) 97 22 u).1 97 2 = nI p := fun v u => g2.1.2.2
  unfold rr_L
  rw [lp_R_readsSum_14, sr_here ho (by omega) (by omega) h.1, pp_bd, sr_sumSign, pp_bd, e93, pp_jn, if_pos (by decide), sr_here ho (by omega) (by omega) h.1, pp_bd, e93, if_pos rfl, hos, pp_bd, if_pos rfl, g1', pp_bd, e1, nI_pred, pp_let, e2, nI_pred, pp_let, e3, nI_1, pp_let]
  exact ⟨_, rfl, g2.pop.op.to, ((g3.s (by decide)).s (by decide)).s (by decide)⟩
/-- a bracket that does not close -/
theorem sr_lnb (ho : ss_Ok S) (hn : n ≤ 160) (hp : p ≤ n) (hg : tx_g S n p ≠ 93) (hs : sg (tx_g S n p) = 0) {pn : List Nat} {b m : Nat} (hb : b ≤ ws.length) (h : lr S n p (o + 1) (pn.map (1048576 * ·) ++ (1048576 * 14) :: ws) C c M) (hw : pn.length + ws.length < 170) : ∃ M1, rr_L b (m + 1) M = some (false, M1) ∧ M1.1 97 4 = ft 1 p ∧ rg M M1 := by
  have hlt := tx_g_lt ho (show n ≤ 200 by omega) p
  have hl : M.1 97 24 = nI (pn.length + (ws.length + 1)) := by
    have := h.2.2.2.2.1
    rw [List.length_append, List.length_map, List.length_cons] at this
    exact this
  have hos : f_R_hasOpenSum (nI b) M = some (true, M) := sr_hos_yes (i0 := ws.length) hl (by omega) hb (by omega) (tk_in _ h.2.2.2.2.2)
  unfold rr_L
  rw [lp_R_readsSum_14, sr_here ho (by omega) (by omega) h.1, pp_bd, sr_sumSign, pp_bd, sg_so _ hlt, hs, if_pos rfl, pp_jn, if_pos rfl, sr_here ho (by omega) (by omega) h.1, pp_bd, if_neg (show ¬ tx_I (tx_g S n p) = 93 from fun q => hg ((tx_I_eq (k := 93) hlt (by decide)).mp q))]
  unfold rr_E
  rw [hos, pp_bd, if_pos rfl, h.1.2.2, show f_R_wrongAt 1 (nI p) M = _ from sr_wrong 1 p M, pp_bd]
  exact ⟨_, rfl, rfl, rg.rf.s (by decide)⟩
/-- the end of a sum -/
theorem sr_lend (ho : ss_Ok S) (hn : n ≤ 160) (hp : p ≤ n) (hs : sg (tx_g S n p) = 0) {pn : List Nat} {m : Nat} (h : lr S n p o (pn.map (1048576 * ·) ++ ws) C c M) (hpn : ∀ y, y ∈ pn → 2 ≤ y ∧ y ≤ 6) (ht : ¬ (2 ≤ tp ws ∧ tp ws ≤ 6)) (hc : c + pn.length < 170) (hw : pn.length + ws.length < 170) : ∃ M1, rr_L ws.length (m + 1) M = some (true, M1) ∧ lr S n p o ws (cn C c pn) (c + pn.length) M1 ∧ rg M M1 := by
  have hlt := tx_g_lt ho (show n ≤ 200 by omega) p
  have hl : M.1 97 24 = nI (pn.length + ws.length) := by
    have := h.2.2.2.2.1
    rw [List.length_append, List.length_map] at this
    exact this
  have hos : f_R_hasOpenSum (nI ws.length) M = some (false, M) := sr_hos_no hl (by omega) (by omega) (fun i h1 h2 => by
    obtain ⟨x, hx, hv⟩ := tk_pn pn h.2.2.2.2.2 i h1 (by omega)
    exact ⟨x, by have := hpn x hx; omega, hv⟩)
  obtain ⟨M1, g1, g2, g3⟩ := sr_closes (S := S) (n := n) (p := p) (o := o) (al := true) (k := fun (M_16 : mm_M) => some ((), M_16)) (ws := ws) (by omega) (by omega) (fun _ => by omega) pn (4999 - pn.length) c C M (fun y hy => pn26 (hpn y hy)) (by omega) (by omega) h
  have g1' : f_R_closesSums true M = some ((), M1) := by
    unfold f_R_closesSums
    rw [← g1]
    congr 1
    show 5000 = _
    omega
  have hE : rr_E (nI ws.length) M = some (true, M1) := by
    unfold rr_E
    rw [hos, pp_bd, if_neg (by decide), g1', pp_bd]
  refine ⟨M1, ?_, g2, g3⟩
  unfold rr_L
  rw [lp_R_readsSum_14, sr_here ho (by omega) (by omega) h.1, pp_bd, sr_sumSign, pp_bd, sg_so _ hlt, hs, if_pos rfl, pp_jn, if_pos rfl, sr_here ho (by omega) (by omega) h.1, pp_bd, hos, pp_bd, if_neg (show ¬ false = true by decide), hE, ite_self]
end SUMLOOP
