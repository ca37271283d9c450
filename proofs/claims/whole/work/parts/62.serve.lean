/-! serving -/
section SERVE
variable {S : ss_S} {k c : Nat} {C : Nat → Nat × Nat} {L : Nat → Nat × Nat × Nat × Nat} {M M1 M2 : mm_M} {t : Nat × Nat × Nat}
/-- what is left of the plant, of pipes; missed of each; water, harm, missed of all; what the one that is asked about was given, and whether it was -/
abbrev sv_X : Type := (Nat → Int32) × (Nat → Int32) × (Nat → Int32) × Int32 × Int32 × Int32 × Int32 × Bool
def up (f : Nat → Int32) (i : Nat) (v : Int32) : Nat → Int32 := fun j => if j = i then v else f j
theorem up_at (f : Nat → Int32) (i : Nat) (v : Int32) : up f i v i = v := if_pos rfl
theorem up_ne {f : Nat → Int32} {i j : Nat} {v : Int32} (h : j ≠ i) : up f i v j = f j := if_neg h
def gn (w : Int32) (fl kd : Nat) (X : sv_X) : Int32 := if kd = 0 then pp_mn (pp_mn w (X.1 0)) (pp_mn (X.2.1 fl) X.2.2.2.1) else pp_mn w (X.1 kd)
theorem gn_0 (w : Int32) (fl : Nat) (X : sv_X) : pp_mn (pp_mn w (X.1 0)) (pp_mn (X.2.1 fl) X.2.2.2.1) = gn w fl 0 X := by unfold gn; rw [if_pos rfl]
def gr (n : Int32) (fl : Nat) (X : sv_X) : sv_X := (X.1, up X.2.1 fl (X.2.1 fl - n), X.2.2.1, X.2.2.2.1 - n, X.2.2.2.2)
def gt (n w : Int32) (b kd : Nat) (hv : Int32 → Int32) (tg : Bool) (X : sv_X) : sv_X := (up X.1 kd (X.1 kd - n), X.2.1, up X.2.2.1 b (X.2.2.1 b + (w - n)), X.2.2.2.1, X.2.2.2.2.1 + (if w - n = 0 then 0 else (w - n) * hv (w - n)), X.2.2.2.2.2.1 + (w - n), (if tg = true then n else X.2.2.2.2.2.2.1), tg || X.2.2.2.2.2.2.2)
def gs (w : Int32) (fl b kd : Nat) (hv : Int32 → Int32) (tg : Bool) (X : sv_X) : sv_X := gt (gn w fl kd X) w b kd hv tg (if kd = 0 then gr (gn w fl kd X) fl X else X)
def vH (t : Nat × Nat × Nat) (X : sv_X) (M : mm_M) : Prop := (∀ k, k < 3 → M.2.1 88 k = X.1 k) ∧ (∀ f, f < 4 → M.2.1 89 f = X.2.1 f) ∧ (∀ b, b < 10 → M.2.1 85 b = X.2.2.1 b) ∧ M.1 73 7 = X.2.2.2.1 ∧ M.1 73 6 = X.2.2.2.2.1 ∧ (X.2.2.2.2.2.2.2 = true → M.2.1 (75 + t.1) (24 * t.2.1 + t.2.2) = X.2.2.2.2.2.2.1)
def vR (t : Nat × Nat × Nat) (X : sv_X) (M : mm_M) : Prop := (∀ k, k < 3 → M.2.1 124 k = X.1 k) ∧ (∀ f, f < 4 → M.2.1 125 f = X.2.1 f) ∧ (∀ b, b < 10 → M.2.1 127 b = X.2.2.1 b) ∧ M.1 97 49 = X.2.2.2.1 ∧ M.1 97 47 = X.2.2.2.2.1 ∧ M.1 97 48 = X.2.2.2.2.2.1 ∧ (X.2.2.2.2.2.2.2 = true → M.2.1 126 (72 * t.1 + 24 * t.2.1 + t.2.2) = X.2.2.2.2.2.2.1)
def sv_T (b h kd : Nat) (w n : Int32) (K : mm_M → Option (Unit × mm_M)) (m : Nat) (M_3 : mm_M) : Option (Unit × mm_M) := if mm_in (nI kd) (mm_al 88) = true then if mm_in (nI kd) (mm_al 88) = true then mm_let (mm_setA M_3 88 ((nI kd).toNatClampNeg) ((M_3.2.1 88 (nI kd).toNatClampNeg) - n)) fun M_4 => if mm_in (nI b) 10 = true then if mm_in (nI (24 * kd + h)) (mm_al (75 + (nI b).toNatClampNeg)) = true then mm_let (mm_setA M_4 (75 + (nI b).toNatClampNeg) ((nI (24 * kd + h)).toNatClampNeg) n) fun M_5 => if mm_in (nI b) (mm_al 85) = true then if mm_in (nI b) (mm_al 85) = true then mm_let (mm_setA M_5 85 ((nI b).toNatClampNeg) ((M_5.2.1 85 (nI b).toNatClampNeg) + (w - n))) fun M_6 => mm_bd (f_Service_harmOf (nI b) (nI (24 * kd + h)) (w - n) M_6) fun r_7 M_8 => mm_let (mm_setI M_8 73 6 ((M_6.1 73 6) + r_7)) fun M_9 => mm_let (nI kd + 1) fun v3_10 => lp_Service_serve_2 (nI b) (nI h) K m v3_10 M_9 else none else none else none else none else none else none
theorem sv_st (b h kd : Nat) (hb : b < 10) (hh : h < 24) (hk : kd < 3) (w : Int32) (hw : M.2.1 (58 + b) (24 * kd + h) = w) (fl : Nat) (hfl : M.2.1 68 b = nI fl) (K : mm_M → Option (Unit × mm_M)) (m : Nat) : lp_Service_serve_2 (nI b) (nI h) K (m + 1) (nI kd) M = if kd = 0 then mm_bd (f_Service_giveRain (nI fl) w M) fun r M' => sv_T b h kd w r K m M' else sv_T b h kd w (pp_mn w (M.2.1 88 kd)) K m M := by
  rw [lp_Service_serve_2, if_neg (show ¬ (3 : Int32) ≤ nI kd from nI_ge (b := 3) hk (by decide)), show nI kd * 24 + nI h = nI (24 * kd + h) from by rw [show (24 : Int32) = nI 24 from rfl, pp_mulN, nI_add, Nat.mul_comm], pp_let, pp_in hb (by decide), if_pos rfl, nI_clamp (by omega), mm_al_want b hb, pp_in (by omega) (by decide), if_pos rfl, nI_clamp (by omega), hw, pp_let, pp_jn, mm_al_68, pp_in hb (by decide), if_pos rfl, hfl, show mm_al 88 = 3 from rfl, pp_in hk (by decide), if_pos rfl, sh_min, pp_bd]
  have hz : nI kd = 0 ↔ kd = 0 := by rw [show (0 : Int32) = nI 0 from rfl, nI_eq (by omega) (by decide)]
  simp only [hz]
  by_cases h0 : kd = 0
  · rw [if_pos h0, if_pos h0]
    unfold sv_T
    simp only [pp_in hk (show 3 < 2 ^ 31 by decide), pp_in hb (show 10 < 2 ^ 31 by decide), nI_clamp (show b < 2 ^ 31 by omega), nI_clamp (show kd < 2 ^ 31 by omega), nI_clamp (show 24 * kd + h < 2 ^ 31 by omega), show mm_al 88 = 3 from rfl]
  · rw [if_neg h0, if_neg h0]
    unfold sv_T
    simp only [pp_in hk (show 3 < 2 ^ 31 by decide), pp_in hb (show 10 < 2 ^ 31 by decide), nI_clamp (show b < 2 ^ 31 by omega), nI_clamp (show kd < 2 ^ 31 by omega), nI_clamp (show 24 * kd + h < 2 ^ 31 by omega), show mm_al 88 = 3 from rfl]
theorem sh_tail (ho : ss_Ok S) (hH : ss_RH S M) (hl : lwH k c C L M) {b h kd : Nat} (hb : b < 10) (hh : h < 24) (hk : kd < 3) {w : Int32} (hw : M.2.1 (58 + b) (24 * kd + h) = w) (n : Int32) {X : sv_X} (hX : vH t X M) (ht : t.2.2 < 24 ∧ t.2.1 < 3 ∧ t.1 < 10) (K : mm_M → Option (Unit × mm_M)) (m : Nat) : ∃ M1, sv_T b h kd w n K m M = lp_Service_serve_2 (nI b) (nI h) K m (nI (kd + 1)) M1 ∧ vH t (gt n w b kd (fun q => hmv k C L S b h kd w q) (decide (t = (b, kd, h))) X) M1 ∧ vf M M1 ∧ ∀ i, M1.2.1 86 i = M.2.1 86 i := by
  obtain ⟨x1, x2, x3, x4, x5, x6⟩ := hX
  generalize hMa : mm_setA (mm_setA (mm_setA M 88 kd (X.1 kd - n)) (75 + b) (24 * kd + h) n) 85 b (X.2.2.1 b + (w - n)) = Ma
  have hva : vf M Ma := by rw [← hMa]; exact ((vf.rf.a (by omega)).a (by omega)).a (by omega)
  have hwa : Ma.2.1 (58 + b) (24 * kd + h) = w := by rw [hva.2.1 _ (by omega) (by omega)]; exact hw
  obtain ⟨Mb, b1, b2⟩ := sh_harm ho (hva.RH hH) (hl.v hva) hb hh hk hwa (w - n)
  have e85 : ∀ v u, (mm_setA (mm_setA M 88 kd v) (75 + b) (24 * kd + h) u).2.1 85 b = X.2.2.1 b := fun v u => by
    rw [pp_sa, if_neg (fun q => by omega), pp_sa, if_neg (fun q => by omega)]
    exact x3 b hb
  have a73 : ∀ q, Ma.1 73 q = M.1 73 q := fun q => by rw [← hMa]; rfl
  refine ⟨mm_setI Mb 73 6 (X.2.2.2.2.1 + (if w - n = 0 then 0 else (w - n) * hmv k C L S b h kd w (w - n))), ?_, ⟨fun i hi => ?_, fun i hi => ?_, fun i hi => ?_, ?_, ?_, ?_⟩, (hva.tr b2.v).s, fun i => ?_⟩
  · unfold sv_T
    rw [show mm_al 88 = 3 from rfl, show mm_al 85 = 10 from rfl, pp_in hk (by decide), if_pos rfl, if_pos rfl, nI_clamp (show kd < 2 ^ 31 by omega), nI_clamp (show b < 2 ^ 31 by omega), nI_clamp (show 24 * kd + h < 2 ^ 31 by omega), x1 kd hk, pp_let, pp_in hb (by decide), if_pos rfl, mm_al_given b hb, pp_in (by omega) (by decide), if_pos rfl, pp_let, if_pos rfl, if_pos rfl, e85, hMa, pp_let, b1, pp_bd, a73 6, x5, pp_let, nI_1, pp_let]
  · show Mb.2.1 88 i = up X.1 kd (X.1 kd - n) i
    rw [b2.2.1 88 (by decide) (by decide), ← hMa, pp_sa, if_neg (fun q => absurd q.1 (by decide)), pp_sa, if_neg (fun q => by omega), pp_sa]
    by_cases e : i = kd
    · rw [if_pos ⟨rfl, e⟩, e, up_at]
    · rw [if_neg (fun q => e q.2), up_ne e]; exact x1 i hi
  · show Mb.2.1 89 i = X.2.1 i
    rw [b2.2.1 89 (by decide) (by decide), ← hMa, pp_sa, if_neg (fun q => absurd q.1 (by decide)), pp_sa, if_neg (fun q => by omega), pp_sa, if_neg (fun q => absurd q.1 (by decide))]
    exact x2 i hi
  · show Mb.2.1 85 i = up X.2.2.1 b (X.2.2.1 b + (w - n)) i
    rw [b2.2.1 85 (by decide) (by decide), ← hMa, pp_sa]
    by_cases e : i = b
    · rw [if_pos ⟨rfl, e⟩, e, up_at]
    · rw [if_neg (fun q => e q.2), up_ne e, pp_sa, if_neg (fun q => by omega), pp_sa, if_neg (fun q => by omega)]; exact x3 i hi
  · show Mb.1 73 7 = X.2.2.2.1
    rw [b2.2.2 _ _ (by omega), a73]; exact x4
  · rfl
  · intro hd
    show Mb.2.1 (75 + t.1) (24 * t.2.1 + t.2.2) = if decide (t = (b, kd, h)) = true then n else X.2.2.2.2.2.2.1
    rw [b2.2.1 _ (by omega) (by omega), ← hMa, pp_sa, if_neg (fun q => by omega), pp_sa]
    by_cases e : t = (b, kd, h)
    · rw [decide_eq_true e, if_pos rfl, e, if_pos ⟨rfl, rfl⟩]
    · rw [decide_eq_false e, if_neg (show ¬ false = true by decide), if_neg (fun q => e (by
        obtain ⟨t1, t2, t3⟩ := t
        have q1 : 75 + t1 = 75 + b := q.1
        have q2 : 24 * t2 + t3 = 24 * kd + h := q.2
        have z := ht
        have z1 : t3 < 24 := z.1
        rw [show t1 = b by omega, show t2 = kd by omega, show t3 = h by omega])), pp_sa, if_neg (fun q => by omega)]
      refine x6 ?_
      have hd : (decide (t = (b, kd, h)) || X.2.2.2.2.2.2.2) = true := hd
      rw [decide_eq_false e, Bool.false_or] at hd
      exact hd
  · show Mb.2.1 86 i = M.2.1 86 i
    rw [b2.2.1 86 (by decide) (by decide), ← hMa, pp_sa, if_neg (fun q => absurd q.1 (by decide)), pp_sa, if_neg (fun q => by omega), pp_sa, if_neg (fun q => absurd q.1 (by decide))]
theorem sh_rain {X : sv_X} (hX : vH t X M) (w : Int32) {fl : Nat} (hf : fl < 4) (h0 : t.1 < 10) : ∃ M1, f_Service_giveRain (nI fl) w M = some (gn w fl 0 X, M1) ∧ vH t (gr (gn w fl 0 X) fl X) M1 ∧ vf M M1 ∧ (∀ i, M1.2.1 86 i = M.2.1 86 i) := by
  obtain ⟨x1, x2, x3, x4, x5, x6⟩ := hX
  unfold f_Service_giveRain
  have e1 : M.2.1 88 (0 : Int32).toNatClampNeg = X.1 0 := x1 0 (by decide)
  have i0 : mm_in 0 3 = true := rfl
  have e7 : ∀ v, (mm_setA M 89 fl v).1 73 7 = X.2.2.2.1 := fun v => x4
  rw [show mm_al 88 = 3 from rfl, show mm_al 89 = 4 from rfl, i0, if_pos rfl, e1, sh_min, pp_bd, pp_in hf (by decide), if_pos rfl, nI_clamp (by omega), x2 fl hf, x4, sh_min, pp_bd, sh_min, pp_bd, if_pos rfl, if_pos rfl, gn_0, x2 fl hf, pp_let, e7, pp_let]
  refine ⟨_, rfl, ⟨x1, fun i hi => ?_, x3, rfl, x5, fun hd => ?_⟩, (vf.rf.a (by decide)).s, fun i => rfl⟩
  · show (if 89 = 89 ∧ i = fl then X.2.1 fl - gn w fl 0 X else M.2.1 89 i) = up X.2.1 fl (X.2.1 fl - gn w fl 0 X) i
    by_cases e : i = fl
    · rw [if_pos ⟨rfl, e⟩, e, up_at]
    · rw [if_neg (fun q => e q.2), up_ne e]; exact x2 i hi
  · show (if 75 + t.1 = 89 ∧ _ then _ else M.2.1 (75 + t.1) (24 * t.2.1 + t.2.2)) = _
    rw [if_neg (fun q => by omega)]
    exact x6 hd
theorem sh_gs (ho : ss_Ok S) (hH : ss_RH S M) (hl : lwH k c C L M) {b h kd : Nat} (hb : b < 10) (hh : h < 24) (hk : kd < 3) {w : Int32} (hw : M.2.1 (58 + b) (24 * kd + h) = w) {fl : Nat} (hfl : M.2.1 68 b = nI fl) (hf4 : fl < 4) {X : sv_X} (hX : vH t X M) (ht : t.2.2 < 24 ∧ t.2.1 < 3 ∧ t.1 < 10) (K : mm_M → Option (Unit × mm_M)) (m : Nat) : ∃ M1, lp_Service_serve_2 (nI b) (nI h) K (m + 1) (nI kd) M = lp_Service_serve_2 (nI b) (nI h) K m (nI (kd + 1)) M1 ∧ vH t (gs w fl b kd (fun q => hmv k C L S b h kd w q) (decide (t = (b, kd, h))) X) M1 ∧ vf M M1 ∧ ∀ i, M1.2.1 86 i = M.2.1 86 i := by
  rw [sv_st b h kd hb hh hk w hw fl hfl K m]
  unfold gs
  by_cases h0 : kd = 0
  · rw [if_pos h0, if_pos h0]
    obtain ⟨Ma, a1, a2, a3, a4⟩ := sh_rain hX w hf4 ht.2.2
    rw [h0] at hw ⊢
    rw [a1, pp_bd]
    obtain ⟨Mb, b1, b2, b3, b4⟩ := sh_tail ho (a3.RH hH) (hl.v a3) hb hh (show 0 < 3 by decide) (w := w) (by rw [a3.2.1 _ (by omega) (by omega)]; exact hw) (gn w fl 0 X) a2 ht K m
    exact ⟨Mb, b1, b2, a3.tr b3, fun i => (b4 i).trans (a4 i)⟩
  · rw [if_neg h0, if_neg h0]
    have e : pp_mn w (M.2.1 88 kd) = gn w fl kd X := by unfold gn; rw [if_neg h0, hX.1 kd hk]
    rw [e]
    exact sh_tail ho hH hl hb hh hk hw (gn w fl kd X) hX ht K m
/-- the reference -/
theorem ii_as (a b d : Int32) : a + b - d = a + (b - d) := by rw [Int32.sub_eq_add_neg, Int32.sub_eq_add_neg, Int32.add_assoc]
theorem ii_s0 (a b : Int32) : a - b = 0 ↔ b = a := by
  constructor
  · intro h
    have : a - b + b = 0 + b := by rw [h]
    rw [Int32.sub_add_cancel, Int32.zero_add] at this
    exact this.symm
  · intro h; rw [h, Int32.sub_self]
def sv_R (b h kd : Nat) (w n : Int32) (M_6 : mm_M) : Option (Unit × mm_M) := if mm_in (nI kd) (mm_al 124) = true then if mm_in (nI kd) (mm_al 124) = true then mm_let (mm_setA M_6 124 ((nI kd).toNatClampNeg) ((M_6.2.1 124 (nI kd).toNatClampNeg) - n)) fun M_7 => if mm_in (((72 * nI b) + (24 * nI kd)) + nI h) (mm_al 126) = true then mm_let (mm_setA M_7 126 ((((72 * nI b) + (24 * nI kd)) + nI h).toNatClampNeg) n) fun M_8 => if n = w then some ((), M_8) else if mm_in (nI b) (mm_al 127) = true then if mm_in (nI b) (mm_al 127) = true then mm_let (mm_setA M_8 127 ((nI b).toNatClampNeg) (((M_8.2.1 127 (nI b).toNatClampNeg) + w) - n)) fun M_9 => mm_let (mm_setI M_9 97 48 (((M_9.1 97 48) + w) - n)) fun M_10 => mm_bd (f_R_feels (nI b) (nI h) (nI kd) w (w - n) M_10) fun _ M_12 => mm_bd (f_R_byLaw 109 99 1 M_12) fun r_13 M_14 => mm_let (mm_setI M_14 97 47 ((M_12.1 97 47) + (r_13 * (w - n)))) fun M_15 => some ((), M_15) else none else none else none else none else none
theorem sr_tail (ho : ss_Ok S) (hR : ss_RR S M) (hl : lwR k c C L M) {b h kd : Nat} (hb : b < 10) (hh : h < 24) (hk : kd < 3) (w n : Int32) {X : sv_X} (hX : vR t X M) (ht : t.2.2 < 24 ∧ t.2.1 < 3 ∧ t.1 < 10) : ∃ M1, sv_R b h kd w n M = some ((), M1) ∧ vR t (gt n w b kd (fun q => hmv k C L S b h kd w q) (decide (t = (b, kd, h))) X) M1 ∧ vg M M1 ∧ (∀ i, M1.2.1 122 i = M.2.1 122 i) ∧ M1.1 97 46 = M.1 97 46 := by
  obtain ⟨x1, x2, x3, x4, x5, x7, x6⟩ := hX
  have eI : (72 : Int32) * nI b + 24 * nI kd + nI h = nI (72 * b + 24 * kd + h) := by rw [show (24 : Int32) = nI 24 from rfl, show (72 : Int32) = nI 72 from rfl, pp_mulN, pp_mulN, nI_add, nI_add]
  unfold sv_R
  rw [show mm_al 124 = 3 from rfl, show mm_al 126 = 720 from rfl, show mm_al 127 = 10 from rfl, pp_in hk (by decide), if_pos rfl, if_pos rfl, nI_clamp (show kd < 2 ^ 31 by omega), x1 kd hk, pp_let, eI, pp_in (by omega) (by decide), if_pos rfl, nI_clamp (by omega), pp_let, pp_in hb (by decide), nI_clamp (show b < 2 ^ 31 by omega)]
  generalize hMa : mm_setA (mm_setA M 124 kd (X.1 kd - n)) 126 (72 * b + 24 * kd + h) n = Ma
  have hva : vg M Ma := by rw [← hMa]; exact (vg.rf.a (by omega)).a (by omega)
  have a1 : ∀ i, i < 3 → Ma.2.1 124 i = up X.1 kd (X.1 kd - n) i := fun i hi => by
    rw [← hMa, pp_sa, if_neg (fun q => absurd q.1 (by decide)), pp_sa]
    by_cases e : i = kd
    · rw [if_pos ⟨rfl, e⟩, e, up_at]
    · rw [if_neg (fun q => e q.2), up_ne e]; exact x1 i hi
  have a2 : ∀ i, i < 4 → Ma.2.1 125 i = X.2.1 i := fun i hi => by
    rw [← hMa, pp_sa, if_neg (fun q => absurd q.1 (by decide)), pp_sa, if_neg (fun q => absurd q.1 (by decide))]; exact x2 i hi
  have a3 : ∀ i, i < 10 → Ma.2.1 127 i = X.2.2.1 i := fun i hi => by
    rw [← hMa, pp_sa, if_neg (fun q => absurd q.1 (by decide)), pp_sa, if_neg (fun q => absurd q.1 (by decide))]; exact x3 i hi
  have as : ∀ q, Ma.1 97 q = M.1 97 q := fun q => by rw [← hMa]; rfl
  have a122 : ∀ i, Ma.2.1 122 i = M.2.1 122 i := fun i => by rw [← hMa, pp_sa, if_neg (fun q => absurd q.1 (by decide)), pp_sa, if_neg (fun q => absurd q.1 (by decide))]
  have a6 : (decide (t = (b, kd, h)) || X.2.2.2.2.2.2.2) = true → Ma.2.1 126 (72 * t.1 + 24 * t.2.1 + t.2.2) = if decide (t = (b, kd, h)) = true then n else X.2.2.2.2.2.2.1 := fun hd => by
    rw [← hMa, pp_sa]
    by_cases e : t = (b, kd, h)
    · rw [decide_eq_true e, if_pos rfl, e, if_pos ⟨rfl, rfl⟩]
    · rw [decide_eq_false e, if_neg (show ¬ false = true by decide), if_neg (fun q => e (by
        obtain ⟨t1, t2, t3⟩ := t
        have q2 : 72 * t1 + 24 * t2 + t3 = 72 * b + 24 * kd + h := q.2
        have z1 : t3 < 24 := ht.1
        have z2 : t2 < 3 := ht.2.1
        rw [show t1 = b by omega, show t2 = kd by omega, show t3 = h by omega])), pp_sa, if_neg (fun q => absurd q.1 (by decide))]
      refine x6 ?_
      rw [decide_eq_false e, Bool.false_or] at hd
      exact hd
  by_cases hnw : n = w
  · have hz : w - n = 0 := (ii_s0 w n).mpr hnw
    rw [if_pos hnw]
    refine ⟨Ma, rfl, ⟨a1, a2, fun i hi => ?_, ?_, ?_, ?_, a6⟩, hva, a122, as 46⟩
    · show Ma.2.1 127 i = up X.2.2.1 b (X.2.2.1 b + (w - n)) i
      rw [a3 i hi, hz, Int32.add_zero]
      by_cases e : i = b
      · rw [e, up_at]
      · rw [up_ne e]
    · rw [as]; exact x4
    · show Ma.1 97 47 = X.2.2.2.2.1 + (if w - n = 0 then 0 else (w - n) * hmv k C L S b h kd w (w - n))
      rw [as, x5, if_pos hz, Int32.add_zero]
    · show Ma.1 97 48 = X.2.2.2.2.2.1 + (w - n)
      rw [as, x7, hz, Int32.add_zero]
  · have hz : ¬ w - n = 0 := fun q => hnw ((ii_s0 w n).mp q)
    have e48 : ∀ v, (mm_setA Ma 127 b v).1 97 48 = X.2.2.2.2.2.1 := fun v => (as 48).trans x7
    rw [if_neg hnw, if_pos rfl, if_pos rfl, a3 b hb, pp_let, e48, pp_let, ii_as, ii_as]
    generalize hMb : mm_setI (mm_setA Ma 127 b (X.2.2.1 b + (w - n))) 97 48 (X.2.2.2.2.2.1 + (w - n)) = Mb
    have hvb : vg M Mb := by rw [← hMb]; exact (hva.a (by decide)).s (by decide)
    obtain ⟨Mc, Md, c1, c2, c3⟩ := sr_harm (h := h) (kd := kd) ho (hvb.RR hR) (hl.v hvb) hb w (w - n) (fun r_13 M_12 M_14 => mm_let (mm_setI M_14 97 47 ((M_12.1 97 47) + (r_13 * (w - n)))) fun M_15 => some ((), M_15))
    have b47 : Mc.1 97 47 = X.2.2.2.2.1 := by rw [c2.1, ← hMb]; exact (as 47).trans x5
    rw [c1, b47, pp_let]
    refine ⟨_, rfl, ⟨fun i hi => ?_, fun i hi => ?_, fun i hi => ?_, ?_, ?_, ?_, fun hd => ?_⟩, (hvb.tr (c3.v (by decide) (by decide))).s (by decide), fun i => ?_, ?_⟩
    · show Md.2.1 124 i = _
      rw [c3.2.2 124 (by decide), ← hMb]
      show (mm_setA Ma 127 b (X.2.2.1 b + (w - n))).2.1 124 i = _
      rw [pp_sa, if_neg (fun q => absurd q.1 (by decide))]
      exact a1 i hi
    · show Md.2.1 125 i = _
      rw [c3.2.2 125 (by decide), ← hMb]
      show (mm_setA Ma 127 b (X.2.2.1 b + (w - n))).2.1 125 i = _
      rw [pp_sa, if_neg (fun q => absurd q.1 (by decide))]
      exact a2 i hi
    · show Md.2.1 127 i = up X.2.2.1 b (X.2.2.1 b + (w - n)) i
      rw [c3.2.2 127 (by decide), ← hMb]
      show (mm_setA Ma 127 b (X.2.2.1 b + (w - n))).2.1 127 i = _
      rw [pp_sa]
      by_cases e : i = b
      · rw [if_pos ⟨rfl, e⟩, e, up_at]
      · rw [if_neg (fun q => e q.2), up_ne e]; exact a3 i hi
    · show Md.1 97 49 = X.2.2.2.1
      rw [c3.1, ← hMb]; exact (as 49).trans x4
    · show X.2.2.2.2.1 + hmv k C L S b h kd w (w - n) * (w - n) = X.2.2.2.2.1 + (if w - n = 0 then 0 else (w - n) * hmv k C L S b h kd w (w - n))
      rw [if_neg hz, Int32.mul_comm]
    · show Md.1 97 48 = X.2.2.2.2.2.1 + (w - n)
      rw [c3.1, ← hMb]; rfl
    · show Md.2.1 126 (72 * t.1 + 24 * t.2.1 + t.2.2) = _
      rw [c3.2.2 126 (by decide), ← hMb]
      show (mm_setA Ma 127 b (X.2.2.1 b + (w - n))).2.1 126 _ = _
      rw [pp_sa, if_neg (fun q => absurd q.1 (by decide))]
      exact a6 hd
    · show Md.2.1 122 i = _
      rw [c3.2.2 122 (by decide), ← hMb]
      show (mm_setA Ma 127 b (X.2.2.1 b + (w - n))).2.1 122 i = _
      rw [pp_sa, if_neg (fun q => absurd q.1 (by decide))]
      exact a122 i
    · show Md.1 97 46 = _
      rw [c3.1, ← hMb]; exact as 46
theorem sr_gs (ho : ss_Ok S) (hR : ss_RR S M) (hl : lwR k c C L M) {b h kd : Nat} (hb : b < 10) (hh : h < 24) (hk : kd < 3) {fl : Nat} (hfl : pp_fl S b = nI fl) (hf4 : fl < 4) {X : sv_X} (hX : vR t X M) (ht : t.2.2 < 24 ∧ t.2.1 < 3 ∧ t.1 < 10) : ∃ M1, f_R_gives (nI b) (nI kd) (nI h) M = some ((), M1) ∧ vR t (gs (pp_want S b kd h) fl b kd (fun q => hmv k C L S b h kd (pp_want S b kd h) q) (decide (t = (b, kd, h))) X) M1 ∧ vg M M1 ∧ (∀ i, M1.2.1 122 i = M.2.1 122 i) ∧ M1.1 97 46 = M.1 97 46 := by
  have e6 : M.2.1 105 b = nI (pp_rm S b) := (hR.2 6 (by decide) b hb).trans (pp_rm_e ho hb).1
  have r10 := (pp_rm_e ho hb).2
  have e2 : M.2.1 101 (pp_rm S b) = nI fl := (hR.2 2 (by decide) _ r10).trans hfl
  have hz : nI kd = 0 ↔ kd = 0 := by rw [show (0 : Int32) = nI 0 from rfl, nI_eq (by omega) (by decide)]
  unfold f_R_gives
  rw [sr_wantOf ho hR hb hk hh, pp_bd, show mm_al 124 = 3 from rfl, pp_in hk (by decide), if_pos rfl, nI_clamp (show kd < 2 ^ 31 by omega), hX.1 kd hk, sr_min, pp_bd, mm_al_105, pp_in hb (by decide), if_pos rfl, nI_clamp (show b < 2 ^ 31 by omega), e6, mm_al_101, pp_in r10 (by decide), if_pos rfl, nI_clamp (by omega), e2, pp_let, pp_jn]
  generalize pp_want S b kd h = w
  unfold gs
  by_cases h0 : kd = 0
  · subst h0
    obtain ⟨x1, x2, x3, x4, x5, x7, x6⟩ := hX
    have e49 : ∀ v, (mm_setA M 125 fl v).1 97 49 = X.2.2.2.1 := fun v => x4
    have en := gn_0 w fl X
    rw [if_pos (show nI 0 = 0 from rfl), if_pos rfl, show mm_al 125 = 4 from rfl, pp_in hf4 (by decide), if_pos rfl, nI_clamp (by omega), x2 fl hf4, x4, sr_min, pp_bd, sr_min, pp_bd, if_pos rfl, if_pos rfl, en, x2 fl hf4, pp_let, e49, pp_let]
    have hX2 : vR t (gr (gn w fl 0 X) fl X) (mm_setI (mm_setA M 125 fl (X.2.1 fl - gn w fl 0 X)) 97 49 (X.2.2.2.1 - gn w fl 0 X)) := by
      refine ⟨x1, fun i hi => ?_, x3, rfl, x5, x7, x6⟩
      show (if 125 = 125 ∧ i = fl then X.2.1 fl - gn w fl 0 X else M.2.1 125 i) = up X.2.1 fl (X.2.1 fl - gn w fl 0 X) i
      by_cases e : i = fl
      · rw [if_pos ⟨rfl, e⟩, e, up_at]
      · rw [if_neg (fun q => e q.2), up_ne e]; exact x2 i hi
    have hv : vg M (mm_setI (mm_setA M 125 fl (X.2.1 fl - gn w fl 0 X)) 97 49 (X.2.2.2.1 - gn w fl 0 X)) := (vg.rf.a (by decide)).s (by decide)
    obtain ⟨Mb, b1, b2, b3, b4, b5⟩ := sr_tail ho (hv.RR hR) (hl.v hv) hb hh hk w (gn w fl 0 X) hX2 ht
    refine ⟨Mb, ?_, b2, hv.tr b3, fun i => (b4 i).trans rfl, b5.trans rfl⟩
    rw [← b1]
    unfold sv_R
    rw [show mm_al 124 = 3 from rfl, pp_in (show 0 < 3 by decide) (by decide), nI_clamp (show 0 < 2 ^ 31 by decide), nI_clamp (show b < 2 ^ 31 by omega)]
  · rw [if_neg (fun q => h0 (hz.mp q)), if_neg h0]
    have e : pp_mn w (X.1 kd) = gn w fl kd X := by unfold gn; rw [if_neg h0]
    rw [e]
    obtain ⟨Mb, b1, b2, b3, b4, b5⟩ := sr_tail ho hR hl hb hh hk w (gn w fl kd X) hX ht
    refine ⟨Mb, ?_, b2, b3, b4, b5⟩
    rw [← b1]
    unfold sv_R
    rw [show mm_al 124 = 3 from rfl, pp_in hk (by decide), nI_clamp (show kd < 2 ^ 31 by omega), nI_clamp (show b < 2 ^ 31 by omega)]
end SERVE
