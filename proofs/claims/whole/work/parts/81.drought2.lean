/-! drought: what is left of the water -/
section DROUGHT2
variable {S : ss_S} {u : Nat} {k : Nat} {C : Nat → Nat × Nat} {L : Nat → Nat × Nat × Nat × Nat} {tt : Nat × Nat × Nat}
def dr_pi (S : ss_S) (f : Nat) : Nat := (S.2 5 f).toInt.toNat
def dr_mo (S : ss_S) (f : Nat) : Nat := (S.2 3 f).toInt.toNat
def dr_wa (S : ss_S) : Nat := (S.1 3).toInt.toNat
def dr_co (S : ss_S) : Nat := (S.1 4).toInt.toNat
theorem dr_pi_e (ho : ss_Ok S) {f : Nat} (hf : f < 4) : S.2 5 f = nI (dr_pi S f) ∧ dr_pi S f ≤ 999 := by
  obtain ⟨v, hv, e⟩ := ho.m 5 (by decide) rfl (j := f) hf
  have hv : (v : Int) ≤ 999 := hv
  unfold dr_pi
  rw [e, nI_toInt (by omega)]
  exact ⟨rfl, by omega⟩
theorem dr_mo_e (ho : ss_Ok S) {f : Nat} (hf : f < 3) : S.2 3 f = nI (dr_mo S f) ∧ dr_mo S f ≤ 999 := by
  obtain ⟨v, hv, e⟩ := ho.m 3 (by decide) rfl (j := f) hf
  have hv : (v : Int) ≤ 999 := hv
  unfold dr_mo
  rw [e, nI_toInt (by omega)]
  exact ⟨rfl, by omega⟩
theorem dr_wa_e (ho : ss_Ok S) : S.1 3 = nI (dr_wa S) ∧ dr_wa S ≤ 9999 := by
  obtain ⟨v, hv, e⟩ := ho.n 3 (by decide)
  have hv : (v : Int) ≤ 9999 := hv
  unfold dr_wa
  rw [e, nI_toInt (by omega)]
  exact ⟨rfl, by omega⟩
theorem dr_co_e (ho : ss_Ok S) : S.1 4 = nI (dr_co S) ∧ dr_co S ≤ 99 := by
  obtain ⟨v, hv, e⟩ := ho.n 4 (by decide)
  have hv : (v : Int) ≤ 99 := hv
  unfold dr_co
  rw [e, nI_toInt (by omega)]
  exact ⟨rfl, by omega⟩
/-- what the pipes let through -/
def dr_tp (S : ss_S) (t h : Nat) : Nat := min (dr_pi S 0) (pp_rN S t 0 h) + min (dr_pi S 1) (pp_rN S t 1 h) + min (dr_pi S 2) (pp_rN S t 2 h) + min (dr_pi S 3) (pp_rN S t 3 h)
/-- the cellar ahead of an hour -/
def dr_lv (S : ss_S) (u : Nat) : Nat → Nat
  | 0 => dr_wa S
  | h + 1 => min 9999 (dr_lv S u h + dr_co S) - min (min (dr_mo S 0) (min 9999 (dr_lv S u h + dr_co S))) (dr_tp S u h)
def dr_in (S : ss_S) (u h : Nat) : Nat := min 9999 (dr_lv S u h + dr_co S)
def dr_tq (S : ss_S) (u h : Nat) : Nat := min (dr_mo S 0) (dr_in S u h)
theorem dr_lv_s (h : Nat) : dr_lv S u (h + 1) = dr_in S u h - min (dr_tq S u h) (dr_tp S u h) := rfl
theorem dr_lv_le (ho : ss_Ok S) : ∀ h, dr_lv S u h ≤ 9999 := by
  intro h
  cases h with
  | zero => exact (dr_wa_e ho).2
  | succ h => rw [dr_lv_s]; unfold dr_in; omega
/-- what a stay is given behind a set -/
def dr_gv (S : ss_S) (u t b h kd : Nat) : Nat := if kd = 0 then min (pp_w S b 0 h) (min (dr_tq S u h - dr_tp S t h) (dr_pi S (fln S b) - pp_rN S t (fln S b) h)) else min (pp_w S b kd h) (dr_mo S kd - pp_aN S t kd h)
def dr_hN (k : Nat) (C : Nat → Nat × Nat) (L : Nat → Nat × Nat × Nat × Nat) (S : ss_S) (b h kd m : Nat) : Nat := if m = 0 then 0 else m * (hmv k C L S b h kd (nI (pp_w S b kd h)) (nI m)).toInt.toNat
def dr_h1 (k : Nat) (C : Nat → Nat × Nat) (L : Nat → Nat × Nat × Nat × Nat) (S : ss_S) (u t b h kd : Nat) : Nat := dr_hN k C L S b h kd (pp_w S b kd h - dr_gv S u t b h kd)
def dr_h3 (k : Nat) (C : Nat → Nat × Nat) (L : Nat → Nat × Nat × Nat × Nat) (S : ss_S) (u h t b : Nat) : Nat := dr_h1 k C L S u t b h 0 + dr_h1 k C L S u t b h 1 + dr_h1 k C L S u t b h 2
def dr_HB (k : Nat) (C : Nat → Nat × Nat) (L : Nat → Nat × Nat × Nat × Nat) (S : ss_S) (u t b : Nat) : Nat := if b < 10 then nsum (fun h => dr_h3 k C L S u h t b) 24 else 0
theorem an_99 (C : Nat → Nat × Nat) (φ : Nat → Int32) (L : Nat → Nat × Nat × Nat × Nat) (l : Nat) : ∀ q i, 0 ≤ (an C φ L l 99 1 q i).toInt ∧ (an C φ L l 99 1 q i).toInt ≤ 99 := by
  intro q
  induction q with
  | zero => intro i; exact ⟨by show (0 : Int) ≤ (1 : Int32).toInt; decide, by show (1 : Int32).toInt ≤ 99; decide⟩
  | succ q ih =>
    intro i
    rw [an]
    split
    · unfold cm
      split
      · rename_i h0
        rw [ii_le, i_0] at h0
        split
        · rename_i h1
          rw [ii_le, i_99] at h1
          exact ⟨h0, h1⟩
        · rw [i_99]; decide
      · rw [i_0]; decide
    · exact ih (i + 1)
theorem hmv_e (k : Nat) (C : Nat → Nat × Nat) (L : Nat → Nat × Nat × Nat × Nat) (S : ss_S) (b h kd : Nat) (w m : Int32) : hmv k C L S b h kd w m = nI (hmv k C L S b h kd w m).toInt.toNat ∧ (hmv k C L S b h kd w m).toInt.toNat ≤ 99 := by
  have := an_99 C (fx S b (nI h) (nI kd) w m) L 109 k 0
  unfold hmv
  refine ⟨?_, by omega⟩
  rw [ii_eq, nI_toInt (by omega)]
  omega
theorem dr_hN_le (b h kd m : Nat) (hm : m ≤ 99) : dr_hN k C L S b h kd m ≤ 9801 := by
  unfold dr_hN
  split
  · omega
  · have := (hmv_e k C L S b h kd (nI (pp_w S b kd h)) (nI m)).2
    exact Nat.le_trans (Nat.mul_le_mul hm this) (by decide)
theorem dr_hN_e (b h kd m : Nat) (hm : m ≤ 99) {w : Int32} (hw : w = nI (pp_w S b kd h)) : (if nI m = 0 then 0 else nI m * hmv k C L S b h kd w (nI m)) = nI (dr_hN k C L S b h kd m) := by
  unfold dr_hN
  subst hw
  by_cases e : m = 0
  · subst e; rfl
  · rw [if_neg e, if_neg (fun z => e (by rw [show (0 : Int32) = nI 0 from rfl, nI_eq (by omega) (by decide)] at z; exact z)), ← pp_mulN, ← (hmv_e k C L S b h kd (nI (pp_w S b kd h)) (nI m)).1]
theorem dr_h3_le (ho : ss_Ok S) {b : Nat} (hb : b < 10) (t h : Nat) : dr_h3 k C L S u h t b ≤ 29403 := by
  unfold dr_h3 dr_h1
  have h0 := (pp_w_e ho hb (show 0 < 3 by decide) h).2
  have h1 := (pp_w_e ho hb (show 1 < 3 by decide) h).2
  have h2 := (pp_w_e ho hb (show 2 < 3 by decide) h).2
  have a0 := dr_hN_le (k := k) (C := C) (L := L) (S := S) b h 0 (pp_w S b 0 h - dr_gv S u t b h 0) (by omega)
  have a1 := dr_hN_le (k := k) (C := C) (L := L) (S := S) b h 1 (pp_w S b 1 h - dr_gv S u t b h 1) (by omega)
  have a2 := dr_hN_le (k := k) (C := C) (L := L) (S := S) b h 2 (pp_w S b 2 h - dr_gv S u t b h 2) (by omega)
  omega
theorem dr_HB_le (ho : ss_Ok S) (t b : Nat) : dr_HB k C L S u t b ≤ 705672 := by
  unfold dr_HB
  split
  · rename_i hb
    exact Nat.le_trans (nsum_le (m := 29403) 24 (fun h _ => dr_h3_le ho hb t h)) (by decide)
  · omega
/-- one comes into the set -/
theorem pp_ns_in {c d : Nat → Bool} {f : Nat → Nat} {n b : Nat} (hb : b < n) (hc : c b = false) (hd : d b = true) (h : ∀ i, i < n → i ≠ b → d i = c i) : pp_ns d f n = pp_ns c f n + f b := by
  induction n with
  | zero => omega
  | succ n ih =>
    rw [pp_ns, pp_ns]
    by_cases e : b = n
    · subst e
      rw [hc, hd, pp_ns_ext (d := c) (g := f) (fun i hi => by rw [h i (by omega) (by omega)]), if_pos rfl, if_neg (by decide), Nat.add_zero]
    · rw [ih (by omega) (fun i hi hne => h i (by omega) hne), h n (by omega) (fun q => e q.symm)]
      omega
theorem tb_or {t b : Nat} (x : Nat) : (t ||| 2 ^ b).testBit x = (t.testBit x || decide (b = x)) := by rw [Nat.testBit_or, Nat.testBit_two_pow]
theorem aN_in {t b kd h : Nat} (hb : b < 10) (ht : t.testBit b = false) : pp_aN S (t ||| 2 ^ b) kd h = pp_aN S t kd h + pp_w S b kd h :=
  pp_ns_in (f := fun b => pp_w S b kd h) hb ht (by rw [tb_or, decide_eq_true rfl, Bool.or_true]) (fun i _ hne => by rw [tb_or, decide_eq_false (fun z => hne z.symm), Bool.or_false])
theorem rN_in (ho : ss_Ok S) {t b f h : Nat} (hb : b < 10) (ht : t.testBit b = false) (hf : f < 4) : pp_rN S (t ||| 2 ^ b) f h = pp_rN S t f h + if fln S b = f then pp_w S b 0 h else 0 := by
  obtain ⟨f1, f2⟩ := fln_e ho hb
  by_cases e : fln S b = f
  · rw [if_pos e]
    refine pp_ns_in (f := fun b => pp_w S b 0 h) hb ?_ ?_ (fun i _ hne => ?_)
    · show (t.testBit b && _) = false
      rw [ht]; rfl
    · show ((t ||| 2 ^ b).testBit b && decide (pp_fl S b = nI f)) = true
      rw [tb_or, decide_eq_true rfl, Bool.or_true, f1, e, decide_eq_true rfl]; rfl
    · show ((t ||| 2 ^ b).testBit i && _) = (t.testBit i && _)
      rw [tb_or, decide_eq_false (fun z => hne z.symm), Bool.or_false]
  · rw [if_neg e, Nat.add_zero]
    refine pp_ns_ext (fun i hi => ?_)
    show (if ((t ||| 2 ^ b).testBit i && decide (pp_fl S i = nI f)) = true then _ else 0) = if (t.testBit i && decide (pp_fl S i = nI f)) = true then _ else 0
    by_cases ei : b = i
    · subst ei
      rw [f1, decide_eq_false (fun z => e (by rw [nI_eq (by omega) (by omega)] at z; exact z)), Bool.and_false, Bool.and_false]
    · rw [tb_or, decide_eq_false ei, Bool.or_false]
theorem tp_in (ho : ss_Ok S) {t b h : Nat} (hb : b < 10) (ht : t.testBit b = false) : dr_tp S (t ||| 2 ^ b) h = dr_tp S t h + (min (dr_pi S (fln S b)) (pp_rN S t (fln S b) h + pp_w S b 0 h) - min (dr_pi S (fln S b)) (pp_rN S t (fln S b) h)) := by
  obtain ⟨f1, f2⟩ := fln_e ho hb
  unfold dr_tp
  rw [rN_in ho hb ht (show 0 < 4 by decide), rN_in ho hb ht (show 1 < 4 by decide), rN_in ho hb ht (show 2 < 4 by decide), rN_in ho hb ht (show 3 < 4 by decide)]
  rcases (show fln S b = 0 ∨ fln S b = 1 ∨ fln S b = 2 ∨ fln S b = 3 by omega) with e | e | e | e <;> rw [e] <;> simp <;> omega
theorem dr_tp_ext {t t' : Nat} (h : ∀ x, x < 10 → t.testBit x = t'.testBit x) (hr : Nat) : dr_tp S t hr = dr_tp S t' hr := by
  have : ∀ f, pp_rN S t f hr = pp_rN S t' f hr := fun f => pp_ns_ext (fun i hi => by
    show (if (t.testBit i && _) = true then _ else 0) = if (t'.testBit i && _) = true then _ else 0
    rw [h i hi])
  unfold dr_tp
  rw [this, this, this, this]
/-- the water goes down -/
theorem dr_st {P0 V0 T r p w P V pl : Nat} (h1 : P + min (min P0 V0) T = P0) (h2 : V + min (min P0 V0) T = V0) (h3 : T ≤ min P0 V0 → pl = p - r) :
    min (min w P) (min pl V) = min w (min (min P0 V0 - T) (p - r)) ∧
    P - min (min w P) (min pl V) + min (min P0 V0) (T + (min p (r + w) - min p r)) = P0 ∧
    V - min (min w P) (min pl V) + min (min P0 V0) (T + (min p (r + w) - min p r)) = V0 ∧
    (T + (min p (r + w) - min p r) ≤ min P0 V0 → pl - min (min w P) (min pl V) = p - (r + w)) := by
  rcases Nat.lt_or_ge (min P0 V0) T with hT | hT
  · have hz : min (min w P) (min pl V) = 0 := by omega
    rw [hz]
    omega
  · have e := h3 hT
    subst e
    omega
theorem gs_0 {w P p V : Nat} {fl b : Nat} {hv : Int32 → Int32} {tg : Bool} {X : sv_X} (hw : w ≤ 99) (hP : X.1 0 = nI P) (hp : X.2.1 fl = nI p) (hV : X.2.2.2.1 = nI V) (bP : P < 2 ^ 30) (bp : p < 2 ^ 30) (bV : V < 2 ^ 30) :
    (gs (nI w) fl b 0 hv tg X).1 = up X.1 0 (nI (P - min (min w P) (min p V))) ∧ (gs (nI w) fl b 0 hv tg X).2.1 = up X.2.1 fl (nI (p - min (min w P) (min p V))) ∧ (gs (nI w) fl b 0 hv tg X).2.2.2.1 = nI (V - min (min w P) (min p V)) ∧ (gs (nI w) fl b 0 hv tg X).2.2.2.2.1 = X.2.2.2.2.1 + (if nI (w - min (min w P) (min p V)) = 0 then 0 else nI (w - min (min w P) (min p V)) * hv (nI (w - min (min w P) (min p V)))) := by
  have e : gn (nI w) fl 0 X = nI (min (min w P) (min p V)) := by
    unfold gn
    rw [if_pos rfl, hP, hp, hV, pp_mnN (by omega) (by omega), pp_mnN (by omega) (by omega), pp_mnN (by omega) (by omega)]
  have e1 : X.1 0 - nI (min (min w P) (min p V)) = nI (P - min (min w P) (min p V)) := by rw [hP, pp_subN (by omega)]
  have e2 : X.2.1 fl - nI (min (min w P) (min p V)) = nI (p - min (min w P) (min p V)) := by rw [hp, pp_subN (by omega)]
  have e3 : X.2.2.2.1 - nI (min (min w P) (min p V)) = nI (V - min (min w P) (min p V)) := by rw [hV, pp_subN (by omega)]
  have e4 : nI w - nI (min (min w P) (min p V)) = nI (w - min (min w P) (min p V)) := by rw [pp_subN (by omega)]
  unfold gs
  rw [if_pos rfl, e]
  refine ⟨?_, ?_, ?_, ?_⟩
  · show up X.1 0 (X.1 0 - nI (min (min w P) (min p V))) = _
    rw [e1]
  · show up X.2.1 fl (X.2.1 fl - nI (min (min w P) (min p V))) = _
    rw [e2]
  · exact e3
  · show X.2.2.2.2.1 + (if nI w - nI (min (min w P) (min p V)) = 0 then 0 else (nI w - nI (min (min w P) (min p V))) * hv (nI w - nI (min (min w P) (min p V)))) = _
    rw [e4]
theorem gs_k {w P kd : Nat} {fl b : Nat} {hv : Int32 → Int32} {tg : Bool} {X : sv_X} (hk : kd ≠ 0) (hw : w ≤ 99) (hP : X.1 kd = nI P) (bP : P < 2 ^ 30) :
    (gs (nI w) fl b kd hv tg X).1 = up X.1 kd (nI (P - min w P)) ∧ (gs (nI w) fl b kd hv tg X).2.1 = X.2.1 ∧ (gs (nI w) fl b kd hv tg X).2.2.2.1 = X.2.2.2.1 ∧ (gs (nI w) fl b kd hv tg X).2.2.2.2.1 = X.2.2.2.2.1 + (if nI (w - min w P) = 0 then 0 else nI (w - min w P) * hv (nI (w - min w P))) := by
  have e : gn (nI w) fl kd X = nI (min w P) := by
    unfold gn
    rw [if_neg hk, hP, pp_mnN (by omega) (by omega)]
  have e1 : X.1 kd - nI (min w P) = nI (P - min w P) := by rw [hP, pp_subN (by omega)]
  have e4 : nI w - nI (min w P) = nI (w - min w P) := by rw [pp_subN (by omega)]
  unfold gs
  rw [if_neg hk, e]
  refine ⟨?_, rfl, rfl, ?_⟩
  · show up X.1 kd (X.1 kd - nI (min w P)) = _
    rw [e1]
  · show X.2.2.2.2.1 + (if nI w - nI (min w P) = 0 then 0 else (nI w - nI (min w P)) * hv (nI w - nI (min w P))) = _
    rw [e4]
def dr_V (S : ss_S) (u h t hm : Nat) (X : sv_X) : Prop := X.1 1 = nI (dr_mo S 1 - pp_aN S t 1 h) ∧ X.1 2 = nI (dr_mo S 2 - pp_aN S t 2 h) ∧ X.2.2.2.2.1 = nI hm ∧ ∃ (P V : Nat) (p : Nat → Nat), X.1 0 = nI P ∧ X.2.2.2.1 = nI V ∧ (∀ f, f < 4 → X.2.1 f = nI (p f) ∧ p f ≤ 999) ∧ P + min (dr_tq S u h) (dr_tp S t h) = dr_mo S 0 ∧ V + min (dr_tq S u h) (dr_tp S t h) = dr_in S u h ∧ (dr_tp S t h ≤ dr_tq S u h → ∀ f, f < 4 → p f = dr_pi S f - pp_rN S t f h)
theorem dr_step (ho : ss_Ok S) {h t hm b : Nat} {X : sv_X} (hb : b < 10) (ht : t.testBit b = false) (hX : dr_V S u h t hm X) : dr_V S u h (t ||| 2 ^ b) (hm + dr_h3 k C L S u h t b) (g3 k C L S tt b h X) := by
  obtain ⟨x1, x2, x3, P, V, p, x4, x5, x6, x7, x8, x9⟩ := hX
  obtain ⟨f1, f2⟩ := fln_e ho hb
  obtain ⟨w0, v0⟩ := pp_w_e ho hb (show 0 < 3 by decide) h
  obtain ⟨w1, v1⟩ := pp_w_e ho hb (show 1 < 3 by decide) h
  obtain ⟨w2, v2⟩ := pp_w_e ho hb (show 2 < 3 by decide) h
  have m0 := (dr_mo_e ho (show 0 < 3 by decide)).2
  have m1 := (dr_mo_e ho (show 1 < 3 by decide)).2
  have m2 := (dr_mo_e ho (show 2 < 3 by decide)).2
  have hin : dr_in S u h ≤ 9999 := by unfold dr_in; omega
  have hpf := (x6 _ f2).2
  obtain ⟨a1, a2, a3, a4⟩ := gs_0 (w := pp_w S b 0 h) (fl := fln S b) (b := b) (hv := fun q => hmv k C L S b h 0 (pp_want S b 0 h) q) (tg := decide (tt = (b, 0, h))) v0 x4 (x6 _ f2).1 x5 (by omega) (by omega) (by omega)
  rw [← w0] at a1 a2 a3 a4
  obtain ⟨d1, d2, d3, d4⟩ := dr_st (P0 := dr_mo S 0) (V0 := dr_in S u h) (T := dr_tp S t h) (r := pp_rN S t (fln S b) h) (p := dr_pi S (fln S b)) (w := pp_w S b 0 h) (P := P) (V := V) (pl := p (fln S b)) x7 x8 (fun z => x9 z _ f2)
  unfold g3
  have eX1 : g1 k C L S tt b h 0 X = gs (pp_want S b 0 h) (fln S b) b 0 (fun q => hmv k C L S b h 0 (pp_want S b 0 h) q) (decide (tt = (b, 0, h))) X := rfl
  rw [← eX1] at a1 a2 a3 a4
  generalize g1 k C L S tt b h 0 X = X1 at a1 a2 a3 a4
  obtain ⟨b1, b2, b3, b4⟩ := gs_k (kd := 1) (w := pp_w S b 1 h) (P := dr_mo S 1 - pp_aN S t 1 h) (fl := fln S b) (b := b) (hv := fun q => hmv k C L S b h 1 (pp_want S b 1 h) q) (tg := decide (tt = (b, 1, h))) (X := X1) (by decide) v1 (by rw [a1, up_ne (by decide)]; exact x1) (by omega)
  rw [← w1] at b1 b2 b3 b4
  have eX2 : g1 k C L S tt b h 1 X1 = gs (pp_want S b 1 h) (fln S b) b 1 (fun q => hmv k C L S b h 1 (pp_want S b 1 h) q) (decide (tt = (b, 1, h))) X1 := rfl
  rw [← eX2] at b1 b2 b3 b4
  generalize g1 k C L S tt b h 1 X1 = X2 at b1 b2 b3 b4
  obtain ⟨c1, c2, c3, c4⟩ := gs_k (kd := 2) (w := pp_w S b 2 h) (P := dr_mo S 2 - pp_aN S t 2 h) (fl := fln S b) (b := b) (hv := fun q => hmv k C L S b h 2 (pp_want S b 2 h) q) (tg := decide (tt = (b, 2, h))) (X := X2) (by decide) v2 (by rw [b1, up_ne (by decide), a1, up_ne (by decide)]; exact x2) (by omega)
  rw [← w2] at c1 c2 c3 c4
  have eX3 : g1 k C L S tt b h 2 X2 = gs (pp_want S b 2 h) (fln S b) b 2 (fun q => hmv k C L S b h 2 (pp_want S b 2 h) q) (decide (tt = (b, 2, h))) X2 := rfl
  rw [← eX3] at c1 c2 c3 c4
  generalize g1 k C L S tt b h 2 X2 = X3 at c1 c2 c3 c4
  rw [dr_hN_e b h 2 _ (by omega) w2, b4, dr_hN_e b h 1 _ (by omega) w1, a4, dr_hN_e b h 0 _ (by omega) w0, x3, nI_add, nI_add, nI_add] at c4
  have ha1 := aN_in (S := S) (kd := 1) (h := h) hb ht
  have ha2 := aN_in (S := S) (kd := 2) (h := h) hb ht
  have htp := tp_in (h := h) ho hb ht
  refine ⟨?_, ?_, ?_, P - min (min (pp_w S b 0 h) P) (min (p (fln S b)) V), V - min (min (pp_w S b 0 h) P) (min (p (fln S b)) V), fun f => if f = fln S b then p (fln S b) - min (min (pp_w S b 0 h) P) (min (p (fln S b)) V) else p f, ?_, ?_, fun f hf => ?_, ?_, ?_, fun hT f hf => ?_⟩
  · rw [c1, up_ne (by decide), b1, up_at, ha1]
    congr 1
    omega
  · rw [c1, up_at, ha2]
    congr 1
    omega
  · rw [c4]
    congr 1
    unfold dr_h3 dr_h1 dr_gv
    rw [if_pos rfl, if_neg (show ¬ (1 : Nat) = 0 by decide), if_neg (show ¬ (2 : Nat) = 0 by decide), ← show min (min (pp_w S b 0 h) P) (min (p (fln S b)) V) = min (pp_w S b 0 h) (min (dr_tq S u h - dr_tp S t h) (dr_pi S (fln S b) - pp_rN S t (fln S b) h)) from d1]
    omega
  · rw [c1, up_ne (by decide), b1, up_ne (by decide), a1, up_at]
  · rw [c3, b3, a3]
  · rw [c2, b2, a2]
    dsimp only
    by_cases e : f = fln S b
    · rw [e, up_at, if_pos rfl]
      exact ⟨rfl, by omega⟩
    · rw [up_ne e, if_neg e]
      exact x6 f hf
  · rw [htp]; exact d2
  · rw [htp]; exact d3
  · rw [htp] at hT
    rw [rN_in ho hb ht hf]
    dsimp only
    by_cases e : f = fln S b
    · rw [if_pos e, if_pos e.symm, e]
      exact d4 hT
    · rw [if_neg e, if_neg (fun z => e z.symm), Nat.add_zero]
      exact x9 (by omega) f hf
/-- an hour -/
theorem dr_hour (ho : ss_Ok S) {O : Nat → Nat} {h : Nat} : ∀ q i t r l hm X, rel u t r → (∀ x, x < 10 → t.testBit x = true → u.testBit x = true) → pp_cn r 10 = q → l < pp_fc q → (∀ j, j < q → O (i + j) = oi q r l j) → dr_V S u h t hm X → ∃ t', (∀ x, x < 10 → t'.testBit x = u.testBit x) ∧ dr_V S u h t' (hm + co3 (dr_h3 k C L S u h) O q i t) (gq k C L S tt O h q i X) := by
  intro q
  induction q with
  | zero =>
    intro i t r l hm X hrel hsub hr _ _ hX
    refine ⟨t, fun x hx => ?_, hX⟩
    have := hrel x hx
    cases hrx : r.testBit x with
    | true => have := pp_cn_in (u := r) hx hrx; omega
    | false =>
      rw [hrx] at this
      cases htx : t.testBit x with
      | true => rw [hsub x hx htx]
      | false =>
        rw [htx] at this
        cases hux : u.testBit x with
        | true => rw [hux] at this; cases this
        | false => rfl
  | succ q ih =>
    intro i t r l hm X hrel hsub hr hl hO hX
    have hp := fc_pos q
    have hv : l / pp_fc q < q + 1 := Nat.div_lt_of_lt_mul (by rw [Nat.mul_comm]; rw [pp_fc] at hl; exact hl)
    obtain ⟨n1, n2, n3⟩ := nf2_in (f := r) (v := l / pp_fc q) (by omega)
    have h0 : O i = nf2 r (l / pp_fc q) := hO 0 (by omega)
    have hO' : ∀ j, j < q → O (i + 1 + j) = oi q (pp_delN r (nf2 r (l / pp_fc q))) (l % pp_fc q) j := fun j hj => by
      rw [show i + 1 + j = i + (j + 1) by omega]
      exact hO (j + 1) (by omega)
    obtain ⟨d1, d2⟩ := cn_del10 n1 n2
    rw [gq, co3, h0, ← Nat.add_assoc]
    generalize nf2 r (l / pp_fc q) = b at n1 n2 d1 d2 hO'
    have hrb := hrel b n1
    rw [n2] at hrb
    simp only [Bool.true_eq, Bool.and_eq_true, Bool.not_eq_true'] at hrb
    exact ih (i + 1) (t ||| 2 ^ b) (pp_delN r b) (l % pp_fc q) _ _ (rel_s hrel n1) (fun x hx htx => by
      rw [tb_or] at htx
      simp only [Bool.or_eq_true, decide_eq_true_eq] at htx
      rcases htx with z | z
      · exact hsub x hx z
      · rw [← z]; exact hrb.1) (by omega) (Nat.mod_lt _ hp) hO' (dr_step ho n1 hrb.2 hX)
/-- the day by an order -/
def gdO (k : Nat) (C : Nat → Nat × Nat) (L : Nat → Nat × Nat × Nat × Nat) (S : ss_S) (tt : Nat × Nat × Nat) (O : Nat → Nat) (m : Nat) : Nat → Nat → sv_X → sv_X
  | 0, _, X => X
  | q + 1, h, X => gdO k C L S tt O m q (h + 1) (gq k C L S tt O h m 0 (gb S X))
theorem dr_day (ho : ss_Ok S) {O : Nat → Nat} {m l : Nat} (hm : pp_cn u 10 = m) (hl : l < pp_fc m) (hO : ∀ j, j < m → O j = oi m u l j) : ∀ q h hm X, X.2.2.2.1 = nI (dr_lv S u h) → X.2.2.2.2.1 = nI hm → (gdO k C L S tt O m q h X).2.2.2.2.1 = nI (hm + nsum (fun i => co3 (dr_h3 k C L S u (h + i)) O m 0 0) q) := by
  intro q
  induction q with
  | zero => intro h hm X _ h2; exact h2
  | succ q ih =>
    intro h hm' X h1 h2
    obtain ⟨c1, c2⟩ := dr_co_e ho
    have hlv := dr_lv_le (u := u) ho h
    have a0 : ∀ kd, pp_aN S 0 kd h = 0 := fun kd => by
      have : ∀ n, pp_ns (fun b => (0 : Nat).testBit b) (fun b => pp_w S b kd h) n = 0 := by
        intro n
        induction n with
        | zero => rfl
        | succ n ih => rw [pp_ns, ih, Nat.zero_testBit]; rfl
      exact this 10
    have r0 : ∀ f, pp_rN S 0 f h = 0 := fun f => by
      have : ∀ n, pp_ns (fun b => (0 : Nat).testBit b && decide (pp_fl S b = nI f)) (fun b => pp_w S b 0 h) n = 0 := by
        intro n
        induction n with
        | zero => rfl
        | succ n ih => rw [pp_ns, ih, Nat.zero_testBit]; rfl
      exact this 10
    have t0 : dr_tp S 0 h = 0 := by
      unfold dr_tp
      rw [r0, r0, r0, r0]
      omega
    have hV : dr_V S u h 0 hm' (gb S X) := by
      refine ⟨?_, ?_, h2, dr_mo S 0, dr_in S u h, dr_pi S, ?_, ?_, fun f hf => ?_, ?_, ?_, fun _ f hf => ?_⟩
      · rw [a0, Nat.sub_zero]; exact (dr_mo_e ho (by decide)).1
      · rw [a0, Nat.sub_zero]; exact (dr_mo_e ho (by decide)).1
      · exact (dr_mo_e ho (by decide)).1
      · show pp_mn 9999 (X.2.2.2.1 + S.1 4) = _
        rw [h1, c1, nI_add]
        exact pp_mnN (a := 9999) (by decide) (by omega)
      · exact dr_pi_e ho hf
      · rw [t0]; omega
      · rw [t0]; omega
      · rw [r0, Nat.sub_zero]
    obtain ⟨t', e1, e2⟩ := dr_hour (k := k) (C := C) (L := L) (tt := tt) (O := O) ho m 0 0 u l hm' (gb S X) (fun x hx => by rw [Nat.zero_testBit]; simp) (fun x hx h => by rw [Nat.zero_testBit] at h; cases h) hm hl (fun j hj => by rw [Nat.zero_add]; exact hO j hj) hV
    obtain ⟨_, _, y3, P, V, p, _, y5, _, _, y8, _⟩ := e2
    rw [gdO, ih (h + 1) _ _ ?_ y3]
    · congr 1
      rw [show q + 1 = 1 + q by omega, nsum_add, Nat.add_assoc]
      congr 1
      show co3 (dr_h3 k C L S u h) O m 0 0 + _ = 0 + co3 (dr_h3 k C L S u (h + 0)) O m 0 0 + _
      rw [Nat.zero_add, Nat.add_zero]
      congr 1
      exact nsum_ext q (fun i _ => by rw [Nat.add_assoc])
    · rw [y5, dr_lv_s, ← dr_tp_ext e1]
      congr 1
      omega
theorem dr_all (ho : ss_Ok S) {O : Nat → Nat} {m l : Nat} (hm : pp_cn u 10 = m) (hl : l < pp_fc m) (hO : ∀ j, j < m → O j = oi m u l j) : (gdO k C L S tt O m 24 0 (X0 S)).2.2.2.2.1 = nI (cst (dr_HB k C L S u) m 0 u l) := by
  rw [dr_day ho hm hl hO 24 0 0 (X0 S) (dr_wa_e ho).1 rfl, Nat.zero_add]
  congr 1
  rw [← co3_cst (H := dr_HB k C L S u) (O := O) m 0 0 u l (fun j hj => by rw [Nat.zero_add]; exact hO j hj)]
  rw [nsum_ext (g := fun h => co3 (dr_h3 k C L S u h) O m 0 0) 24 (fun i _ => by rw [Nat.zero_add]), co3_sum (F := fun h => dr_h3 k C L S u h)]
  have key : ∀ q i t, (∀ j, j < q → O (i + j) < 10) → co3 (fun t b => nsum (fun h => dr_h3 k C L S u h t b) 24) O q i t = co3 (dr_HB k C L S u) O q i t := by
    intro q
    induction q with
    | zero => intro i t _; rfl
    | succ q ih =>
      intro i t h
      rw [co3, co3, ih (i + 1) _ (fun j hj => by rw [show i + 1 + j = i + (j + 1) by omega]; exact h (j + 1) (by omega))]
      congr 1
      unfold dr_HB
      rw [if_pos (show O i < 10 from h 0 (by omega))]
  exact key m 0 0 (fun j hj => by rw [Nat.zero_add, hO j hj]; exact (oi_in m u l j hj hm hl).2)
end DROUGHT2
