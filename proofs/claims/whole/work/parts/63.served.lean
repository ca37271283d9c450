/-! serving: hours, the day; gets, served -/
section SERVED
variable {S : ss_S} {k c : Nat} {C : Nat → Nat × Nat} {L : Nat → Nat × Nat × Nat × Nat} {M M1 M2 : mm_M} {t : Nat × Nat × Nat}
def fln (S : ss_S) (b : Nat) : Nat := (pp_fl S b).toInt.toNat
theorem fln_e (ho : ss_Ok S) {b : Nat} (hb : b < 10) : pp_fl S b = nI (fln S b) ∧ fln S b < 4 := by
  obtain ⟨f, hf, e⟩ := pp_fl_e ho hb
  unfold fln
  rw [e, nI_toInt (by omega)]
  exact ⟨rfl, by omega⟩
def g1 (k : Nat) (C : Nat → Nat × Nat) (L : Nat → Nat × Nat × Nat × Nat) (S : ss_S) (t : Nat × Nat × Nat) (b h kd : Nat) (X : sv_X) : sv_X := gs (pp_want S b kd h) (fln S b) b kd (fun q => hmv k C L S b h kd (pp_want S b kd h) q) (decide (t = (b, kd, h))) X
def g3 (k : Nat) (C : Nat → Nat × Nat) (L : Nat → Nat × Nat × Nat × Nat) (S : ss_S) (t : Nat × Nat × Nat) (b h : Nat) (X : sv_X) : sv_X := g1 k C L S t b h 2 (g1 k C L S t b h 1 (g1 k C L S t b h 0 X))
def gq (k : Nat) (C : Nat → Nat × Nat) (L : Nat → Nat × Nat × Nat × Nat) (S : ss_S) (t : Nat × Nat × Nat) (O : Nat → Nat) (h : Nat) : Nat → Nat → sv_X → sv_X
  | 0, _, X => X
  | q + 1, i, X => gq k C L S t O h q (i + 1) (g3 k C L S t (O i) h X)
def gb (S : ss_S) (X : sv_X) : sv_X := (fun j => S.2 3 j, fun j => S.2 5 j, X.2.2.1, pp_mn 9999 (X.2.2.2.1 + S.1 4), X.2.2.2.2)
def gh (k : Nat) (C : Nat → Nat × Nat) (L : Nat → Nat × Nat × Nat × Nat) (S : ss_S) (t : Nat × Nat × Nat) (s h : Nat) (X : sv_X) : sv_X := gq k C L S t (oo (fun b => sn k C L S b h) s 10).2 h (oo (fun b => sn k C L S b h) s 10).1 0 (gb S X)
def gd (k : Nat) (C : Nat → Nat × Nat) (L : Nat → Nat × Nat × Nat × Nat) (S : ss_S) (t : Nat × Nat × Nat) (s : Nat) : Nat → Nat → sv_X → sv_X
  | 0, _, X => X
  | q + 1, h, X => gd k C L S t s q (h + 1) (gh k C L S t s h X)
def X0 (S : ss_S) : sv_X := (fun _ => 0, fun _ => 0, fun _ => 0, S.1 3, 0, 0, 0, false)
/-- what is missed of all -/
def ssum (f : Nat → Int32) : Nat → Int32
  | 0 => 0
  | n + 1 => ssum f n + f n
theorem ssum_lo {f : Nat → Int32} {b : Nat} {v : Int32} : ∀ n, n ≤ b → ssum (up f b v) n = ssum f n := by
  intro n
  induction n with
  | zero => intro _; rfl
  | succ n ih => intro h; rw [ssum, ssum, ih (by omega), up_ne (by omega)]
theorem ssum_up {f : Nat → Int32} {b : Nat} {x : Int32} : ∀ n, b < n → ssum (up f b (f b + x)) n = ssum f n + x := by
  intro n
  induction n with
  | zero => intro h; omega
  | succ n ih =>
    intro h
    rw [ssum, ssum]
    by_cases e : b = n
    · subst e
      rw [ssum_lo b (Nat.le_refl _), up_at, Int32.add_assoc]
    · rw [ih (by omega), up_ne (by omega), Int32.add_assoc, Int32.add_assoc, Int32.add_comm x]
def sv_ok (X : sv_X) : Prop := X.2.2.2.2.2.1 = ssum X.2.2.1 10
theorem gs_ok {w : Int32} {fl b kd : Nat} {hv : Int32 → Int32} {tg : Bool} {X : sv_X} (hb : b < 10) (h : sv_ok X) : sv_ok (gs w fl b kd hv tg X) := by
  unfold gs
  generalize gn w fl kd X = n
  have h2 : sv_ok (if kd = 0 then gr n fl X else X) := by
    split
    · exact h
    · exact h
  generalize (if kd = 0 then gr n fl X else X) = Y at h2
  show Y.2.2.2.2.2.1 + (w - n) = ssum (up Y.2.2.1 b (Y.2.2.1 b + (w - n))) 10
  rw [ssum_up 10 hb, show Y.2.2.2.2.2.1 = ssum Y.2.2.1 10 from h2]
theorem gs_d {w : Int32} {fl b kd : Nat} {hv : Int32 → Int32} {tg : Bool} {X : sv_X} (h : tg = true ∨ X.2.2.2.2.2.2.2 = true) : (gs w fl b kd hv tg X).2.2.2.2.2.2.2 = true := by
  unfold gs
  generalize gn w fl kd X = n
  have h2 : tg = true ∨ (if kd = 0 then gr n fl X else X).2.2.2.2.2.2.2 = true := by
    split
    · exact h
    · exact h
  generalize (if kd = 0 then gr n fl X else X) = Y at h2
  show (tg || Y.2.2.2.2.2.2.2) = true
  rcases h2 with q | q
  · rw [q]; rfl
  · rw [q, Bool.or_true]
theorem g3_ok {b h : Nat} {X : sv_X} (hb : b < 10) (hX : sv_ok X) : sv_ok (g3 k C L S t b h X) := gs_ok hb (gs_ok hb (gs_ok hb hX))
theorem g3_d {b h : Nat} {X : sv_X} (hX : X.2.2.2.2.2.2.2 = true ∨ (t.1 = b ∧ t.2.2 = h ∧ t.2.1 < 3)) : (g3 k C L S t b h X).2.2.2.2.2.2.2 = true := by
  rcases hX with q | ⟨q1, q2, q3⟩
  · exact gs_d (Or.inr (gs_d (Or.inr (gs_d (Or.inr q)))))
  · obtain ⟨t1, t2, t3⟩ := t
    have q1 : t1 = b := q1
    have q2 : t3 = h := q2
    have q3 : t2 < 3 := q3
    subst q1 q2
    rcases (show t2 = 0 ∨ t2 = 1 ∨ t2 = 2 by omega) with rfl | rfl | rfl
    · exact gs_d (Or.inr (gs_d (Or.inr (gs_d (Or.inl (decide_eq_true rfl))))))
    · exact gs_d (Or.inr (gs_d (Or.inl (decide_eq_true rfl))))
    · exact gs_d (Or.inl (decide_eq_true rfl))
theorem gq_ok {O : Nat → Nat} {h : Nat} : ∀ q i X, (∀ j, i ≤ j → j < i + q → O j < 10) → sv_ok X → sv_ok (gq k C L S t O h q i X) := by
  intro q
  induction q with
  | zero => intro i X _ h; exact h
  | succ q ih => intro i X hO h; exact ih (i + 1) _ (fun j a b => hO j (by omega) (by omega)) (g3_ok (hO i (by omega) (by omega)) h)
theorem gq_d {O : Nat → Nat} {h : Nat} (ht : t.2.1 < 3) : ∀ q i X, (X.2.2.2.2.2.2.2 = true ∨ (t.2.2 = h ∧ ∃ j, i ≤ j ∧ j < i + q ∧ O j = t.1)) → (gq k C L S t O h q i X).2.2.2.2.2.2.2 = true := by
  intro q
  induction q with
  | zero =>
    intro i X hX
    rcases hX with q | ⟨_, j, a, b, _⟩
    · exact q
    · omega
  | succ q ih =>
    intro i X hX
    refine ih (i + 1) _ ?_
    rcases hX with z | ⟨z, j, a, b, e⟩
    · exact Or.inl (g3_d (Or.inl z))
    · by_cases y : j = i
      · subst y
        exact Or.inl (g3_d (Or.inr ⟨e.symm, z, ht⟩))
      · exact Or.inr ⟨z, j, by omega, by omega, e⟩
theorem gh_ok {s h : Nat} {X : sv_X} (hX : sv_ok X) : sv_ok (gh k C L S t s h X) := gq_ok _ _ _ (fun j _ b => (oo_in _ s 10 j (by omega)).1) hX
theorem gh_d {s h : Nat} {X : sv_X} (ht : t.2.1 < 3) (ht1 : t.1 < 10) (hs : s.testBit t.1 = true) (hX : X.2.2.2.2.2.2.2 = true ∨ t.2.2 = h) : (gh k C L S t s h X).2.2.2.2.2.2.2 = true := by
  refine gq_d ht _ _ _ ?_
  rcases hX with q | q
  · exact Or.inl q
  · obtain ⟨i, a, b⟩ := oo_has (fun b => sn k C L S b h) s hs 10 ht1
    exact Or.inr ⟨q, i, by omega, by omega, b⟩
theorem gd_ok {s : Nat} : ∀ q h X, sv_ok X → sv_ok (gd k C L S t s q h X) := by
  intro q
  induction q with
  | zero => intro h X hX; exact hX
  | succ q ih => intro h X hX; exact ih (h + 1) _ (gh_ok hX)
theorem gd_d {s : Nat} (ht : t.2.1 < 3) (ht1 : t.1 < 10) (hs : s.testBit t.1 = true) : ∀ q h X, (X.2.2.2.2.2.2.2 = true ∨ (h ≤ t.2.2 ∧ t.2.2 < h + q)) → (gd k C L S t s q h X).2.2.2.2.2.2.2 = true := by
  intro q
  induction q with
  | zero =>
    intro h X hX
    rcases hX with z | z
    · exact z
    · omega
  | succ q ih =>
    intro h X hX
    refine ih (h + 1) _ ?_
    rcases hX with z | z
    · exact Or.inl (gh_d ht ht1 hs (Or.inl z))
    · by_cases y : t.2.2 = h
      · exact Or.inl (gh_d ht ht1 hs (Or.inr y))
      · exact Or.inr ⟨by omega, by omega⟩
/-- the class -/
def vH0 (t : Nat × Nat × Nat) (X : sv_X) (M : mm_M) : Prop := (∀ b, b < 10 → M.2.1 85 b = X.2.2.1 b) ∧ M.1 73 7 = X.2.2.2.1 ∧ M.1 73 6 = X.2.2.2.2.1 ∧ (X.2.2.2.2.2.2.2 = true → M.2.1 (75 + t.1) (24 * t.2.1 + t.2.2) = X.2.2.2.2.2.2.1)
def vR0 (t : Nat × Nat × Nat) (X : sv_X) (M : mm_M) : Prop := (∀ b, b < 10 → M.2.1 127 b = X.2.2.1 b) ∧ M.1 97 49 = X.2.2.2.1 ∧ M.1 97 47 = X.2.2.2.2.1 ∧ M.1 97 48 = X.2.2.2.2.2.1 ∧ (X.2.2.2.2.2.2.2 = true → M.2.1 126 (72 * t.1 + 24 * t.2.1 + t.2.2) = X.2.2.2.2.2.2.1)
/-- what the class's load holds -/
def ldw (S : ss_S) (s : Nat) (M : mm_M) : Prop := ∀ b, b < 10 → s.testBit b = true → M.2.1 68 b = pp_fl S b ∧ ∀ kd h, kd < 3 → h < 24 → M.2.1 (58 + b) (24 * kd + h) = pp_want S b kd h
theorem ldw.v {s : Nat} (h : ldw S s M) (hf : vf M M1) : ldw S s M1 := fun b hb hs => by
  obtain ⟨h1, h2⟩ := h b hb hs
  exact ⟨by rw [hf.2.1 68 (by decide) (by decide)]; exact h1, fun kd q a b => by rw [hf.2.1 _ (by omega) (by omega)]; exact h2 kd q a b⟩
theorem sh_g3 {s : Nat} (ho : ss_Ok S) (hH : ss_RH S M) (hl : lwH k c C L M) (hw : ldw S s M) {b h : Nat} (hb : b < 10) (hs : s.testBit b = true) (hh : h < 24) {X : sv_X} (hX : vH t X M) (ht : t.2.2 < 24 ∧ t.2.1 < 3 ∧ t.1 < 10) : ∃ M1, f_Service_serve (nI b) (nI h) M = some ((), M1) ∧ vH t (g3 k C L S t b h X) M1 ∧ vf M M1 ∧ ∀ i, M1.2.1 86 i = M.2.1 86 i := by
  obtain ⟨f1, f2⟩ := fln_e ho hb
  unfold f_Service_serve
  obtain ⟨Ma, a1, a2, a3, a4⟩ := sh_gs (kd := 0) (w := pp_want S b 0 h) (fl := fln S b) ho hH hl hb hh (by decide) ((hw b hb hs).2 0 h (by decide) hh) (((hw b hb hs).1).trans f1) f2 hX ht (fun (M_15 : mm_M) => some ((), M_15)) 4999
  have hwa := hw.v a3
  obtain ⟨Mb, b1, b2, b3, b4⟩ := sh_gs (kd := 1) (w := pp_want S b 1 h) (fl := fln S b) ho (a3.RH hH) (hl.v a3) hb hh (by decide) ((hwa b hb hs).2 1 h (by decide) hh) (((hwa b hb hs).1).trans f1) f2 a2 ht (fun (M_15 : mm_M) => some ((), M_15)) 4998
  have hwb := hwa.v b3
  obtain ⟨Mc, c1, c2, c3, c4⟩ := sh_gs (kd := 2) (w := pp_want S b 2 h) (fl := fln S b) ho (b3.RH (a3.RH hH)) ((hl.v a3).v b3) hb hh (by decide) ((hwb b hb hs).2 2 h (by decide) hh) (((hwb b hb hs).1).trans f1) f2 b2 ht (fun (M_15 : mm_M) => some ((), M_15)) 4997
  refine ⟨Mc, ?_, c2, (a3.tr b3).tr c3, fun i => (c4 i).trans ((b4 i).trans (a4 i))⟩
  rw [show mm_fu = 4999 + 1 from rfl, show (0 : Int32) = nI 0 from rfl, a1, show (4999 : Nat) = 4998 + 1 from rfl, b1, show (4998 : Nat) = 4997 + 1 from rfl, c1, show (4997 : Nat) = 4996 + 1 from rfl, lp_Service_serve_2, if_pos (by decide)]
theorem sh_hour {s : Nat} (ho : ss_Ok S) (hs : s < 1024) (h5 : S.1 5 = nI s) (hH : ss_RH S M) (hl : lwH k c C L M) (hw : ldw S s M) {h : Nat} (hh : h < 24) {X : sv_X} (hX : vH0 t X M) (ht : t.2.2 < 24 ∧ t.2.1 < 3 ∧ t.1 < 10) : ∃ M1, f_Service_serveHour (nI h) M = some ((), M1) ∧ vH0 t (gh k C L S t s h X) M1 ∧ vf M M1 := by
  obtain ⟨x1, x2, x3, x4⟩ := hX
  unfold f_Service_serveHour f_House_afterInflow
  rw [x2, show M.1 22 6 = S.1 4 from hH.1 4 (by decide), sh_min, pp_bd, pp_bd, pp_let, show mm_cpok 24 88 0 0 3 = true from by decide, if_pos rfl, pp_let, show mm_cpok 26 89 0 0 4 = true from by decide, if_pos rfl, pp_let]
  generalize hMa : mm_cp (mm_cp (mm_setI M 73 7 (pp_mn 9999 (X.2.2.2.1 + S.1 4))) 24 88 0 0 3) 26 89 0 0 4 = Ma
  have hva : vf M Ma := by rw [← hMa]; exact ((vf.rf.s).r (by decide)).r (by decide)
  have c3 : (3 : Int32).toNatClampNeg = 3 := rfl
  have c4 : (4 : Int32).toNatClampNeg = 4 := rfl
  have hXa : vH t (gb S X) Ma := by
    rw [← hMa]
    refine ⟨fun i hi => ?_, fun i hi => ?_, fun b hb => ?_, rfl, x3, fun hd => ?_⟩
    · rw [cp_ne _ _ _ _ (by decide), cp_in _ _ _ _ (by rw [c3]; exact hi)]
      exact hH.2 3 (by decide) i hi
    · rw [cp_in _ _ _ _ (by rw [c4]; exact hi), cp_ne _ _ _ _ (by decide)]
      exact hH.2 5 (by decide) i hi
    · rw [cp_ne _ _ _ _ (by decide), cp_ne _ _ _ _ (by decide)]
      exact x1 b hb
    · rw [cp_ne _ _ _ _ (by omega), cp_ne _ _ _ _ (by omega)]
      exact x4 hd
  obtain ⟨Mb, b1, b2, b3, b4, b5, b6⟩ := sh_order (h := h) ho hs h5 (hva.RH hH) (hl.v hva)
  rw [b1, pp_bd]
  have hXb : vH t (gb S X) Mb := by
    obtain ⟨y1, y2, y3, y4, y5, y6⟩ := hXa
    refine ⟨fun i hi => by rw [b5 88 (by decide)]; exact y1 i hi, fun i hi => by rw [b5 89 (by decide)]; exact y2 i hi, fun i hi => by rw [b4 85 (by decide) (by decide) (by decide)]; exact y3 i hi, by rw [b6]; exact y4, by rw [b6]; exact y5, fun hd => ?_⟩
    rw [b4 _ (by omega) (by omega) (by omega)]
    exact y6 hd
  have hin := oo_in (fun b => sn k C L S b h) s 10
  have hle := oo_le (fun b => sn k C L S b h) s 10
  unfold gh
  generalize oo (fun b => sn k C L S b h) s 10 = O at b2 hin hle
  have hvb := hva.tr b3
  have key : ∀ q i X' M', i + q = O.1 → vf M M' → vH t X' M' → (∀ j, M'.2.1 86 j = Mb.2.1 86 j) → ∀ m, ∃ M1, lp_Service_serveHour_57 (nI h) (nI O.1) (fun (M_11 : mm_M) => some ((), M_11)) (m + q + 1) (nI i) M' = some ((), M1) ∧ vH t (gq k C L S t O.2 h q i X') M1 ∧ vf M M1 := by
    intro q
    induction q with
    | zero =>
      intro i X' M' hq hv hX' _ m
      have : i = O.1 := by omega
      subst this
      refine ⟨M', ?_, hX', hv⟩
      rw [show m + 0 + 1 = m + 1 from rfl, lp_Service_serveHour_57, if_pos (nI_le (Nat.le_refl _) (by omega))]
    | succ q ih =>
      intro i X' M' hq hv hX' h86 m
      have hi := hin i (by omega)
      have e86 : M'.2.1 86 i = nI (O.2 i) := (h86 i).trans (b2 i (by omega))
      obtain ⟨Mc, c1, c2, c3, c4⟩ := sh_g3 ho (hv.RH hH) (hl.v hv) (hw.v hv) hi.1 hi.2 hh hX' ht
      rw [show m + (q + 1) + 1 = (m + q + 1) + 1 from rfl, lp_Service_serveHour_57, if_neg (nI_ge (by omega) (by omega)), show mm_al 86 = 10 from rfl, pp_in (by omega) (by decide), if_pos rfl, nI_clamp (by omega), e86, c1, pp_bd, nI_1, pp_let]
      exact ih (i + 1) _ Mc (by omega) (hv.tr c3) c2 (fun j => (c4 j).trans (h86 j)) m
  obtain ⟨Mc, c1, c2, c3⟩ := key O.1 0 (gb S X) Mb (by omega) hvb hXb (fun _ => rfl) (4999 - O.1)
  rw [show 4999 - O.1 + O.1 + 1 = mm_fu from by show _ = 5000; omega] at c1
  exact ⟨Mc, c1, ⟨c2.2.2.1, c2.2.2.2.1, c2.2.2.2.2.1, c2.2.2.2.2.2⟩, c3⟩
theorem sh_fill_85 (M : mm_M) : f_Arrays_fill_85 0 M = some ((), mm_setR M 85 (fun j => if 0 ≤ j ∧ j < 0 + 10 then 0 else M.2.1 85 j)) := by
  unfold f_Arrays_fill_85
  refine pp_fill (lp := fun m v M => lp_Arrays_fill_85_5 0 10 _ m v M) (k := fun M_4 => some ((), M_4)) M 85 0 10 (by decide) (fun j => 0) (fun i hi m M' e => ?_) (fun m M' => ?_)
  · show lp_Arrays_fill_85_5 _ _ _ (m + 1) (nI i) M' = lp_Arrays_fill_85_5 _ _ _ m (nI (i + 1)) _
    rw [lp_Arrays_fill_85_5, show mm_al 85 = 10 from rfl]
    simp (disch := omega) only [pp_bd, pp_let, pp_jn, zl0, zl1, zl2, zl3, zl4, zl5, zl6, zl7, zl8, zl9, zl10, zl11, zl12, zl14, zl20, zl23, zl24, zl48, zl60, zl72, zl96, zl99, zl100, zl120, zl160, zl180, zl200, zl255, zl720, zl999, zl1023, zl1024, zl4095, zl9999, zl65536, nI_add, pp_mulN, zm1, zm2, zm3, nI_leI, nI_ltI, nI_eq, pp_in, nI_clamp, ↓reduceIte, show ¬ 10 ≤ i from by omega, Nat.zero_add]
  · show lp_Arrays_fill_85_5 _ _ _ (m + 1) (nI 10) M' = _
    rw [lp_Arrays_fill_85_5, if_pos (by decide)]
theorem lwH.m {lo hi : Nat} (h : lwH k c C L M) (hm : ss_m lo hi M M1) (hl : 44 ≤ lo) : lwH k c C L M1 := ⟨h.1, h.2.1, by rw [(hm 37 (by omega)).1]; exact h.2.2.1, fun i hi => by rw [(hm 38 (by omega)).2.1, (hm 39 (by omega)).2.1]; exact h.2.2.2.1 i hi, fun i hi => by rw [(hm 40 (by omega)).2.1, (hm 41 (by omega)).2.1, (hm 42 (by omega)).2.1, (hm 43 (by omega)).2.1]; exact h.2.2.2.2 i hi⟩
/-- the class serves all -/
theorem sh_serveAll {s : Nat} (ho : ss_Ok S) (hs : s < 1024) (h5 : S.1 5 = nI s) (hH : ss_RH S M) (hl : lwH k c C L M) (ht : t.2.2 < 24 ∧ t.2.1 < 3 ∧ t.1 < 10) : ∃ M1, f_Service_serveAll M = some ((), M1) ∧ vH0 t (gd k C L S t s 24 0 (X0 S)) M1 ∧ ss_RH S M1 ∧ lwH k c C L M1 ∧ ss_h M M1 := by
  obtain ⟨Ld, Ma, a1, a2, a3, a4⟩ := sh_begin ho hH hs h5
  have hHa := hH.lo a3 (by decide)
  have hla := hl.m a3 (by decide)
  unfold f_Service_serveAll
  have e5 : (mm_setI Ma 73 6 0).1 22 5 = S.1 3 := hHa.1 3 (by decide)
  rw [a1, pp_bd, pp_let, e5, pp_let, sh_fill_85, pp_bd]
  generalize hMb : mm_setR (mm_setI (mm_setI Ma 73 6 0) 73 7 (S.1 3)) 85 (fun j => if 0 ≤ j ∧ j < 0 + 10 then 0 else (mm_setI (mm_setI Ma 73 6 0) 73 7 (S.1 3)).2.1 85 j) = Mb
  have hvb : vf Ma Mb := by rw [← hMb]; exact ((vf.rf.s).s).r (by decide)
  have hwa : ldw S s Ma := fun b hb hsb => by
    obtain ⟨q1, q2⟩ := a4 b hb hsb
    exact ⟨(a2.1.2.1 b hb).trans q1, fun kd h h1 h2 => (a2.1.1 b hb _ (by omega)).trans (q2 kd h h1 h2)⟩
  have hXb : vH0 t (X0 S) Mb := by
    rw [← hMb]
    refine ⟨fun b hb => ?_, rfl, rfl, fun hd => by cases hd⟩
    rw [pp_sro, if_pos (by omega)]
    rfl
  have key : ∀ q h X' M', h + q = 24 → vf Ma M' → vH0 t X' M' → ∀ m, ∃ M1, lp_Service_serveAll_33 (fun (M_10 : mm_M) => some ((), M_10)) (m + q + 1) (nI h) M' = some ((), M1) ∧ vH0 t (gd k C L S t s q h X') M1 ∧ vf Ma M1 := by
    intro q
    induction q with
    | zero =>
      intro h X' M' hq hv hX' m
      have : h = 24 := by omega
      subst this
      refine ⟨M', ?_, hX', hv⟩
      rw [show m + 0 + 1 = m + 1 from rfl, lp_Service_serveAll_33, if_pos (by decide)]
    | succ q ih =>
      intro h X' M' hq hv hX' m
      obtain ⟨Mc, c1, c2, c3⟩ := sh_hour (h := h) ho hs h5 (hv.RH hHa) (hla.v hv) (hwa.v hv) (by omega) hX' ht
      rw [show m + (q + 1) + 1 = (m + q + 1) + 1 from rfl, lp_Service_serveAll_33, if_neg (show ¬ (24 : Int32) ≤ nI h from nI_ge (b := 24) (by omega) (by decide)), c1, pp_bd, nI_1, pp_let]
      exact ih (h + 1) _ Mc (by omega) (hv.tr c3) c2 m
  obtain ⟨Mc, c1, c2, c3⟩ := key 24 0 (X0 S) Mb rfl hvb hXb 4975
  exact ⟨Mc, c1, c2, c3.RH hHa, hla.v c3, (a3.h (by decide) (by decide)).tr c3.h⟩
/-- the reference -/
theorem sr_g3 (ho : ss_Ok S) (hR : ss_RR S M) (hl : lwR k c C L M) {b h i : Nat} (hb : b < 10) (hi : i < 10) (h122 : M.2.1 122 i = nI b) (hh : h < 24) {X : sv_X} (hX : vR t X M) (ht : t.2.2 < 24 ∧ t.2.1 < 3 ∧ t.1 < 10) (K : mm_M → Option (Unit × mm_M)) : ∃ M1, lp_R_servesHour_81 (nI h) (nI i) K mm_fu 0 M = K M1 ∧ vR t (g3 k C L S t b h X) M1 ∧ vg M M1 ∧ (∀ i, M1.2.1 122 i = M.2.1 122 i) ∧ M1.1 97 46 = M.1 97 46 := by
  obtain ⟨f1, f2⟩ := fln_e ho hb
  obtain ⟨Ma, a1, a2, a3, a4, a5⟩ := sr_gs (kd := 0) (h := h) ho hR hl hb hh (by decide) f1 f2 hX ht
  obtain ⟨Mb, b1, b2, b3, b4, b5⟩ := sr_gs (kd := 1) (h := h) ho (a3.RR hR) (hl.v a3) hb hh (by decide) f1 f2 a2 ht
  obtain ⟨Mc, c1, c2, c3, c4, c5⟩ := sr_gs (kd := 2) (h := h) ho (b3.RR (a3.RR hR)) ((hl.v a3).v b3) hb hh (by decide) f1 f2 b2 ht
  refine ⟨Mc, ?_, c2, (a3.tr b3).tr c3, fun i => (c4 i).trans ((b4 i).trans (a4 i)), c5.trans (b5.trans a5)⟩
  have st : ∀ (kd : Nat) (M' M1 : mm_M) m, kd < 3 → M'.2.1 122 i = nI b → f_R_gives (nI b) (nI kd) (nI h) M' = some ((), M1) → lp_R_servesHour_81 (nI h) (nI i) K (m + 1) (nI kd) M' = lp_R_servesHour_81 (nI h) (nI i) K m (nI (kd + 1)) M1 := fun kd M' M1 m hk e g => by
    rw [lp_R_servesHour_81, if_neg (show ¬ (3 : Int32) ≤ nI kd from nI_ge (b := 3) hk (by decide)), show mm_al 122 = 10 from rfl, pp_in hi (by decide), if_pos rfl, nI_clamp (by omega), e, g, pp_bd, nI_1, pp_let]
  rw [show mm_fu = 4999 + 1 from rfl, show (0 : Int32) = nI 0 from rfl, st 0 M Ma 4999 (by decide) h122 a1, show (4999 : Nat) = 4998 + 1 from rfl, st 1 Ma Mb 4998 (by decide) ((a4 i).trans h122) b1, show (4998 : Nat) = 4997 + 1 from rfl, st 2 Mb Mc 4997 (by decide) ((b4 i).trans ((a4 i).trans h122)) c1, show (4997 : Nat) = 4996 + 1 from rfl, lp_R_servesHour_81, if_pos (by decide)]
theorem sr_21 (h : Int32) (K : mm_M → Option (Unit × mm_M)) (M : mm_M) : lp_R_servesHour_21 h K mm_fu 0 M = K (mm_setR M 124 (fun j => if 0 ≤ j ∧ j < 0 + 3 then M.2.1 102 j else M.2.1 124 j)) := by
  refine pp_fill (lp := fun m v M => lp_R_servesHour_21 h K m v M) (k := K) M 124 0 3 (by decide) (fun j => M.2.1 102 j) (fun i hi m M' e => ?_) (fun m M' => ?_)
  · show lp_R_servesHour_21 h K (m + 1) (nI i) M' = lp_R_servesHour_21 h K m (nI (i + 1)) _
    have e1 : M'.2.1 102 i = M.2.1 102 i := by rw [e]; rfl
    rw [lp_R_servesHour_21, if_neg (show ¬ (3 : Int32) ≤ nI i from nI_ge (b := 3) hi (by decide)), mm_al_102, show mm_al 124 = 3 from rfl, pp_in hi (by decide), if_pos rfl, if_pos rfl, nI_clamp (by omega), e1, nI_1, pp_let, pp_let, Nat.zero_add]
  · show lp_R_servesHour_21 h K (m + 1) (nI 3) M' = _
    rw [lp_R_servesHour_21, if_pos (by decide)]
theorem sr_46 (h : Int32) (K : mm_M → Option (Unit × mm_M)) (M : mm_M) : lp_R_servesHour_46 h K mm_fu 0 M = K (mm_setR M 125 (fun j => if 0 ≤ j ∧ j < 0 + 4 then M.2.1 104 j else M.2.1 125 j)) := by
  refine pp_fill (lp := fun m v M => lp_R_servesHour_46 h K m v M) (k := K) M 125 0 4 (by decide) (fun j => M.2.1 104 j) (fun i hi m M' e => ?_) (fun m M' => ?_)
  · show lp_R_servesHour_46 h K (m + 1) (nI i) M' = lp_R_servesHour_46 h K m (nI (i + 1)) _
    have e1 : M'.2.1 104 i = M.2.1 104 i := by rw [e]; rfl
    rw [lp_R_servesHour_46, if_neg (show ¬ (4 : Int32) ≤ nI i from nI_ge (b := 4) hi (by decide)), mm_al_104, show mm_al 125 = 4 from rfl, pp_in hi (by decide), if_pos rfl, if_pos rfl, nI_clamp (by omega), e1, nI_1, pp_let, pp_let, Nat.zero_add]
  · show lp_R_servesHour_46 h K (m + 1) (nI 4) M' = _
    rw [lp_R_servesHour_46, if_pos (by decide)]
/-- an hour, the order known -/
theorem sr_hourS (ho : ss_Ok S) (hR : ss_RR S M) (hl : lwR k c C L M) {h : Nat} (hh : h < 24) {O : Nat × (Nat → Nat)} (hO1 : O.1 ≤ 10) (hO2 : ∀ i, i < O.1 → O.2 i < 10) (h46 : M.1 97 46 = nI O.1) (h122 : ∀ i, i < O.1 → M.2.1 122 i = nI (O.2 i)) {X : sv_X} (hX : vR0 t X M) (ht : t.2.2 < 24 ∧ t.2.1 < 3 ∧ t.1 < 10) : ∃ M1, f_R_servesHour (nI h) M = some ((), M1) ∧ vR0 t (gq k C L S t O.2 h O.1 0 (gb S X)) M1 ∧ vg M M1 ∧ (∀ i, M1.2.1 122 i = M.2.1 122 i) ∧ M1.1 97 46 = M.1 97 46 := by
  obtain ⟨x1, x2, x3, x5, x4⟩ := hX
  unfold f_R_servesHour
  rw [x2, show M.1 97 11 = S.1 4 from hR.1 4 (by decide), sr_min, pp_bd, pp_let, sr_21, sr_46]
  generalize hMa : mm_setR (mm_setR (mm_setI M 97 49 (pp_mn 9999 (X.2.2.2.1 + S.1 4))) 124 (fun j => if 0 ≤ j ∧ j < 0 + 3 then (mm_setI M 97 49 (pp_mn 9999 (X.2.2.2.1 + S.1 4))).2.1 102 j else (mm_setI M 97 49 (pp_mn 9999 (X.2.2.2.1 + S.1 4))).2.1 124 j)) 125 _ = Ma
  have hva : vg M Ma := by rw [← hMa]; exact ((vg.rf.s (by decide)).r (by decide)).r (by decide)
  have a122 : ∀ i, Ma.2.1 122 i = M.2.1 122 i := fun i => by rw [← hMa, pp_srn (by decide), pp_srn (by decide)]; rfl
  have a46 : Ma.1 97 46 = M.1 97 46 := by rw [← hMa]; rfl
  have hXa : vR t (gb S X) Ma := by
    rw [← hMa]
    refine ⟨fun i hi => ?_, fun i hi => ?_, fun b hb => ?_, rfl, x3, x5, fun hd => ?_⟩
    · rw [pp_srn (by decide), pp_sro, if_pos (by omega)]
      exact hR.2 3 (by decide) i hi
    · rw [pp_sro, if_pos (by omega), pp_srn (by decide)]
      exact hR.2 5 (by decide) i hi
    · rw [pp_srn (by decide), pp_srn (by decide)]
      exact x1 b hb
    · rw [pp_srn (by decide), pp_srn (by decide)]
      exact x4 hd
  have key : ∀ q i X' M', i + q = O.1 → vg M M' → vR t X' M' → (∀ j, M'.2.1 122 j = M.2.1 122 j) → M'.1 97 46 = M.1 97 46 → ∀ m, ∃ M1, lp_R_servesHour_71 (nI h) (fun (M_15 : mm_M) => some ((), M_15)) (m + q + 1) (nI i) M' = some ((), M1) ∧ vR t (gq k C L S t O.2 h q i X') M1 ∧ vg M M1 ∧ (∀ j, M1.2.1 122 j = M.2.1 122 j) ∧ M1.1 97 46 = M.1 97 46 := by
    intro q
    induction q with
    | zero =>
      intro i X' M' hq hv hX' e1 e2 m
      have : i = O.1 := by omega
      subst this
      refine ⟨M', ?_, hX', hv, e1, e2⟩
      rw [show m + 0 + 1 = m + 1 from rfl, lp_R_servesHour_71, e2.trans h46, if_pos (nI_le (Nat.le_refl _) (by omega))]
    | succ q ih =>
      intro i X' M' hq hv hX' e1 e2 m
      obtain ⟨Mc, c1, c2, c3, c4, c5⟩ := sr_g3 ho (hv.RR hR) (hl.v hv) (hO2 i (by omega)) (show i < 10 by omega) ((e1 i).trans (h122 i (by omega))) hh hX' ht (fun (M_13 : mm_M) => mm_let (nI i + 1) fun v2_14 => lp_R_servesHour_71 (nI h) (fun (M_15 : mm_M) => some ((), M_15)) (m + q + 1) v2_14 M_13)
      rw [show m + (q + 1) + 1 = (m + q + 1) + 1 from rfl, lp_R_servesHour_71, e2.trans h46, if_neg (nI_ge (by omega) (by omega)), c1, nI_1, pp_let]
      exact ih (i + 1) _ Mc (by omega) (hv.tr c3) c2 (fun j => (c4 j).trans (e1 j)) (c5.trans e2) m
  obtain ⟨Mc, c1, c2, c3, c4, c5⟩ := key O.1 0 (gb S X) Ma (by omega) hva hXa a122 a46 (4999 - O.1)
  rw [show 4999 - O.1 + O.1 + 1 = mm_fu from by show _ = 5000; omega] at c1
  exact ⟨Mc, c1, ⟨c2.2.2.1, c2.2.2.2.1, c2.2.2.2.2.1, c2.2.2.2.2.2.1, c2.2.2.2.2.2.2⟩, c3, c4, c5⟩
theorem sr_starts (M : mm_M) {S : ss_S} (hR : ss_RR S M) : ∃ M1, f_R_startsDay M = some ((), M1) ∧ vR0 t (X0 S) M1 ∧ vg M M1 ∧ (∀ i, M1.2.1 122 i = M.2.1 122 i) ∧ M1.1 97 46 = M.1 97 46 := by
  unfold f_R_startsDay
  have e10 : (mm_setI (mm_setI M 97 47 0) 97 48 0).1 97 10 = S.1 3 := hR.1 3 (by decide)
  rw [pp_let, pp_let, e10, pp_let]
  have h20 : ∀ M', lp_R_startsDay_20 (fun (M_6 : mm_M) => some ((), M_6)) mm_fu 0 M' = some ((), mm_setR M' 127 (fun j => if 0 ≤ j ∧ j < 0 + 10 then 0 else M'.2.1 127 j)) := fun M' => by
    refine pp_fill (lp := fun m v M => lp_R_startsDay_20 (fun (M_6 : mm_M) => some ((), M_6)) m v M) (k := fun (M_6 : mm_M) => some ((), M_6)) M' 127 0 10 (by decide) (fun j => 0) (fun i hi m M'' e => ?_) (fun m M'' => ?_)
    · show lp_R_startsDay_20 _ (m + 1) (nI i) M'' = lp_R_startsDay_20 _ m (nI (i + 1)) _
      rw [lp_R_startsDay_20, if_neg (show ¬ (10 : Int32) ≤ nI i from nI_ge (b := 10) hi (by decide)), show mm_al 127 = 10 from rfl, pp_in hi (by decide), if_pos rfl, nI_clamp (by omega), nI_1, pp_let, pp_let, Nat.zero_add]
    · show lp_R_startsDay_20 _ (m + 1) (nI 10) M'' = _
      rw [lp_R_startsDay_20, if_pos (by decide)]
  rw [h20]
  refine ⟨_, rfl, ⟨fun b hb => ?_, rfl, rfl, rfl, fun hd => by cases hd⟩, (((vg.rf.s (by decide)).s (by decide)).s (by decide)).r (by decide), fun i => pp_srn (by decide), rfl⟩
  rw [pp_sro, if_pos (by omega)]
  rfl
theorem sr_serves {s : Nat} (ho : ss_Ok S) (hs : s < 1024) (h5 : S.1 5 = nI s) (hR : ss_RR S M) (hl : lwR k c C L M) (ht : t.2.2 < 24 ∧ t.2.1 < 3 ∧ t.1 < 10) : ∃ M1, f_R_serves M = some ((), M1) ∧ vR0 t (gd k C L S t s 24 0 (X0 S)) M1 ∧ vg M M1 := by
  unfold f_R_serves
  obtain ⟨Ma, a1, a2, a3, _, _⟩ := sr_starts (t := t) M hR
  rw [a1, pp_bd]
  have key : ∀ q h X' M', h + q = 24 → vg M M' → vR0 t X' M' → ∀ m, ∃ M1, lp_R_serves_6 (fun (M_8 : mm_M) => some ((), M_8)) (m + q + 1) (nI h) M' = some ((), M1) ∧ vR0 t (gd k C L S t s q h X') M1 ∧ vg M M1 := by
    intro q
    induction q with
    | zero =>
      intro h X' M' hq hv hX' m
      have : h = 24 := by omega
      subst this
      refine ⟨M', ?_, hX', hv⟩
      rw [show m + 0 + 1 = m + 1 from rfl, lp_R_serves_6, if_pos (by decide)]
    | succ q ih =>
      intro h X' M' hq hv hX' m
      obtain ⟨Mb, b1, b2, b3, b4, b5, b6⟩ := sr_order (h := h) ho hs h5 (hv.RR hR) (hl.v hv)
      have hvb := hv.tr b4
      have hXb : vR0 t X' Mb := by
        obtain ⟨y1, y2, y3, y4, y5⟩ := hX'
        exact ⟨fun b hb => by rw [b5 127 (by decide)]; exact y1 b hb, by rw [b6 49 (by decide)]; exact y2, by rw [b6 47 (by decide)]; exact y3, by rw [b6 48 (by decide)]; exact y4, fun hd => by rw [b5 126 (by decide)]; exact y5 hd⟩
      obtain ⟨Mc, c1, c2, c3, c4, c5⟩ := sr_hourS (h := h) (O := oo (fun b => sn k C L S b h) s 10) ho (hvb.RR hR) (hl.v hvb) (by omega) (oo_le _ s 10) (fun i hi => (oo_in _ s 10 i hi).1) b2 b3 hXb ht
      rw [show m + (q + 1) + 1 = (m + q + 1) + 1 from rfl, lp_R_serves_6, if_neg (show ¬ (24 : Int32) ≤ nI h from nI_ge (b := 24) (by omega) (by decide)), b1, pp_bd, c1, pp_bd, nI_1, pp_let]
      exact ih (h + 1) _ Mc (by omega) (hvb.tr c3) c2 m
  exact key 24 0 (X0 S) Ma rfl a3 a2 4975
end SERVED
