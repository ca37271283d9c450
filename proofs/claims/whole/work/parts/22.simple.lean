/-! calls that set or read single numbers: seed, cellar, pipes, plant, room, leave, shift, dayIs -/
theorem i_0 : (0 : Int32).toInt = 0 := rfl
theorem i_3 : (3 : Int32).toInt = 3 := rfl
theorem i_4 : (4 : Int32).toInt = 4 := rfl
theorem i_10 : (10 : Int32).toInt = 10 := rfl
theorem i_24 : (24 : Int32).toInt = 24 := rfl
theorem i_99 : (99 : Int32).toInt = 99 := rfl
theorem i_999 : (999 : Int32).toInt = 999 := rfl
theorem i_9999 : (9999 : Int32).toInt = 9999 := rfl
theorem i_65535 : (65535 : Int32).toInt = 65535 := rfl
theorem i_m3 : (-3 : Int32).toInt = -3 := rfl
theorem pp_andN (a b : Nat) : nI a &&& nI b = nI (a &&& b) := by
  apply Int32.toBitVec_inj.mp
  rw [Int32.toBitVec_and]
  show BitVec.ofNat 32 a &&& BitVec.ofNat 32 b = BitVec.ofNat 32 (a &&& b)
  exact BitVec.ofNat_and.symm
theorem pp_orN (a b : Nat) : nI a ||| nI b = nI (a ||| b) := by
  apply Int32.toBitVec_inj.mp
  rw [Int32.toBitVec_or]
  show BitVec.ofNat 32 a ||| BitVec.ofNat 32 b = BitVec.ofNat 32 (a ||| b)
  exact BitVec.ofNat_or.symm
theorem pp_mask : ∀ k, k < 12 → ((1 : Int32) <<< (nI k &&& 31)) ^^^ (-1) = nI (4294967295 - 2 ^ k) := by decide +kernel
theorem pp_one : ∀ k, k < 12 → (1 : Int32) <<< (nI k &&& 31) = nI (2 ^ k) := by decide +kernel
/-- a set without one of its -/
def pp_delN (s k : Nat) : Nat := s &&& (4294967295 - 2 ^ k)
theorem pp_delN_le (s k : Nat) : pp_delN s k ≤ s := Nat.and_le_left
theorem pp_del {s k : Nat} (hs : s < 2 ^ 31) (hk : k < 12) : nI s &&& ((1 <<< (nI k &&& 31)) ^^^ (-1)) = nI (pp_delN s k) := by
  rw [pp_mask k hk, pp_andN]
  rfl
theorem pp_mask_tb : ∀ k, k < 12 → ∀ j, j < 12 → (4294967295 - 2 ^ k).testBit j = !(decide (j = k)) := by decide +kernel
theorem pp_delN_tb {s k j : Nat} (hk : k < 12) (hj : j < 12) : (pp_delN s k).testBit j = (s.testBit j && !(decide (j = k))) := by
  unfold pp_delN
  rw [Nat.testBit_and, pp_mask_tb k hk j hj]
section SIMPLE
variable {Q : Int32 → (Nat → Nat → Int32) → Prop}
theorem p_seed : ok_seed (ss_I Q) := by
  intro v M hI
  obtain ⟨S, hI⟩ := hI
  obtain ⟨ho, hH, hR, -⟩ := id hI
  by_cases hv : 0 ≤ v.toInt ∧ v.toInt ≤ 65535
  · refine ss_go (S' := ss_s S 6 v) (r := true) hI (ho.s 6 hv) rfl ⟨mm_setI M 27 5 v, ?_, hH.s 6 (by decide) rfl v, ss_h.rf.s (by decide)⟩ (fun M1 hR1 => ⟨mm_setI M1 97 13 v, ?_, hR1.s 6 (by decide) rfl v, ss_r.rf.s (by decide)⟩)
    · simp only [f_H_seed, sh_isUpTo, i_65535, pp_bd, decide_eq_true hv, if_pos, pp_let]
    · simp only [f_R_seed, sr_in, i_65535, i_0, pp_bd, decide_eq_true hv, if_pos, pp_let]
  · refine ss_same (r := false) hI ⟨M, ?_, hH, ss_h.rf⟩ (fun M1 hR1 => ⟨M1, ?_, hR1, ss_r.rf⟩)
    · simp [f_H_seed, sh_isUpTo, i_65535, pp_bd, decide_eq_false hv]
    · simp [f_R_seed, sr_in, i_65535, i_0, pp_bd, decide_eq_false hv]
theorem p_cellar : ok_cellar (ss_I Q) := by
  intro v w M hI
  obtain ⟨S, hI⟩ := hI
  obtain ⟨ho, hH, hR, -⟩ := id hI
  by_cases hv : 0 ≤ v.toInt ∧ v.toInt ≤ 9999
  · by_cases hw : 0 ≤ w.toInt ∧ w.toInt ≤ 99
    · refine ss_go (S' := ss_s (ss_s S 3 v) 4 w) (r := true) hI ((ho.s 3 hv).s 4 hw) rfl ⟨mm_setI (mm_setI M 22 5 v) 22 6 w, ?_, (hH.s 3 (by decide) rfl v).s 4 (by decide) rfl w, (ss_h.rf.s (by decide)).s (by decide)⟩ (fun M1 hR1 => ⟨mm_setI (mm_setI M1 97 10 v) 97 11 w, ?_, (hR1.s 3 (by decide) rfl v).s 4 (by decide) rfl w, (ss_r.rf.s (by decide)).s (by decide)⟩)
      · simp only [f_H_cellar, sh_isUpTo, i_9999, i_99, pp_bd, decide_eq_true hv, decide_eq_true hw, if_pos, pp_let]
      · simp only [f_R_cellar, sr_in, i_9999, i_99, i_0, pp_bd, decide_eq_true hv, decide_eq_true hw, if_pos, pp_let]
    · refine ss_same (r := false) hI ⟨M, ?_, hH, ss_h.rf⟩ (fun M1 hR1 => ⟨M1, ?_, hR1, ss_r.rf⟩)
      · simp [f_H_cellar, sh_isUpTo, i_9999, i_99, pp_bd, decide_eq_true hv, decide_eq_false hw]
      · simp [f_R_cellar, sr_in, i_9999, i_99, i_0, pp_bd, decide_eq_true hv, decide_eq_false hw]
  · refine ss_same (r := false) hI ⟨M, ?_, hH, ss_h.rf⟩ (fun M1 hR1 => ⟨M1, ?_, hR1, ss_r.rf⟩)
    · simp [f_H_cellar, sh_isUpTo, i_9999, pp_bd, decide_eq_false hv]
    · simp [f_R_cellar, sr_in, i_9999, i_0, pp_bd, decide_eq_false hv]
theorem p_pipes : ok_pipes (ss_I Q) := by
  intro v w M hI
  obtain ⟨S, hI⟩ := hI
  obtain ⟨ho, hH, hR, -⟩ := id hI
  by_cases hv : 0 ≤ v.toInt ∧ v.toInt < 4
  · obtain ⟨k, hk, rfl⟩ := ii_nat (n := 4) hv.1 (by omega) (by decide)
    have hv2 : 0 ≤ (nI k).toInt ∧ (nI k).toInt ≤ 3 := by omega
    by_cases hw : 0 ≤ w.toInt ∧ w.toInt ≤ 999
    · refine ss_go (S' := ss_a S 5 k w) (r := true) hI (ho.a 5 k hw) rfl ⟨mm_setA M 26 k w, ?_, hH.a 5 (by decide) hk rfl w, ss_h.rf.a (by decide)⟩ (fun M1 hR1 => ⟨mm_setA M1 104 k w, ?_, hR1.a 5 (by decide) rfl rfl, ss_r.rf.a (by decide)⟩)
      · simp only [f_H_pipes, sh_isBelow, sh_isUpTo, i_4, i_999, pp_bd, decide_eq_true hv, decide_eq_true hw, if_pos, show mm_al 26 = 4 from rfl, pp_in hk (by decide), pp_let, nI_clamp (show k < 2 ^ 31 by omega)]
      · simp only [f_R_pipes, sr_in, i_3, i_0, i_999, pp_bd, decide_eq_true hv2, decide_eq_true hw, if_pos, show mm_al 104 = 4 from rfl, pp_in hk (by decide), pp_let, nI_clamp (show k < 2 ^ 31 by omega)]
    · refine ss_same (r := false) hI ⟨M, ?_, hH, ss_h.rf⟩ (fun M1 hR1 => ⟨M1, ?_, hR1, ss_r.rf⟩)
      · simp [f_H_pipes, sh_isBelow, sh_isUpTo, i_4, i_999, pp_bd, decide_eq_true hv, decide_eq_false hw]
      · simp [f_R_pipes, sr_in, i_3, i_0, i_999, pp_bd, decide_eq_true hv2, decide_eq_false hw]
  · have hv2 : ¬ (0 ≤ v.toInt ∧ v.toInt ≤ 3) := by omega
    refine ss_same (r := false) hI ⟨M, ?_, hH, ss_h.rf⟩ (fun M1 hR1 => ⟨M1, ?_, hR1, ss_r.rf⟩)
    · simp [f_H_pipes, sh_isBelow, i_4, pp_bd, decide_eq_false hv]
    · simp [f_R_pipes, sr_in, i_3, i_0, pp_bd, decide_eq_false hv2]
theorem p_plant : ok_plant (ss_I Q) := by
  intro v w u M hI
  obtain ⟨S, hI⟩ := hI
  obtain ⟨ho, hH, hR, -⟩ := id hI
  by_cases hv : 0 ≤ v.toInt ∧ v.toInt < 3
  · obtain ⟨k, hk, rfl⟩ := ii_nat (n := 3) hv.1 (by omega) (by decide)
    by_cases hw : 0 ≤ w.toInt ∧ w.toInt ≤ 999
    · by_cases hu : 0 ≤ u.toInt ∧ u.toInt ≤ 999
      · refine ss_go (S' := ss_a (ss_a S 3 k w) 4 k u) (r := true) hI ((ho.a 3 k hw).a 4 k hu) rfl ⟨mm_setA (mm_setA M 24 k w) 25 k u, ?_, (hH.a 3 (by decide) hk rfl w).a 4 (by decide) hk rfl u, (ss_h.rf.a (by decide)).a (by decide)⟩ (fun M1 hR1 => ⟨mm_setA (mm_setA M1 102 k w) 103 k u, ?_, (hR1.a 3 (by decide) rfl rfl).a 4 (by decide) rfl rfl, (ss_r.rf.a (by decide)).a (by decide)⟩)
        · simp only [f_H_plant, sh_isBelow, sh_isUpTo, i_3, i_999, pp_bd, decide_eq_true hv, decide_eq_true hw, decide_eq_true hu, if_pos, show mm_al 24 = 3 from rfl, show mm_al 25 = 3 from rfl, pp_in hk (by decide), pp_let, nI_clamp (show k < 2 ^ 31 by omega)]
        · simp only [f_R_plant, sr_isKind, sr_in, i_0, i_999, pp_bd, decide_eq_true hv, decide_eq_true hw, decide_eq_true hu, if_pos, show mm_al 102 = 3 from rfl, show mm_al 103 = 3 from rfl, pp_in hk (by decide), pp_let, nI_clamp (show k < 2 ^ 31 by omega)]
      · refine ss_same (r := false) hI ⟨M, ?_, hH, ss_h.rf⟩ (fun M1 hR1 => ⟨M1, ?_, hR1, ss_r.rf⟩)
        · simp [f_H_plant, sh_isBelow, sh_isUpTo, i_3, i_999, pp_bd, decide_eq_true hv, decide_eq_true hw, decide_eq_false hu]
        · simp [f_R_plant, sr_isKind, sr_in, i_0, i_999, pp_bd, decide_eq_true hv, decide_eq_true hw, decide_eq_false hu]
    · refine ss_same (r := false) hI ⟨M, ?_, hH, ss_h.rf⟩ (fun M1 hR1 => ⟨M1, ?_, hR1, ss_r.rf⟩)
      · simp [f_H_plant, sh_isBelow, sh_isUpTo, i_3, i_999, pp_bd, decide_eq_true hv, decide_eq_false hw]
      · simp [f_R_plant, sr_isKind, sr_in, i_0, i_999, pp_bd, decide_eq_true hv, decide_eq_false hw]
  · refine ss_same (r := false) hI ⟨M, ?_, hH, ss_h.rf⟩ (fun M1 hR1 => ⟨M1, ?_, hR1, ss_r.rf⟩)
    · simp [f_H_plant, sh_isBelow, i_3, pp_bd, decide_eq_false hv]
    · simp [f_R_plant, sr_isKind, pp_bd, decide_eq_false hv]
theorem p_room : ok_room (ss_I Q) := by
  intro v M hI
  obtain ⟨S, hI⟩ := hI
  obtain ⟨ho, hH, hR, -⟩ := id hI
  obtain ⟨n, hn, h2⟩ := ho.n 2 (by decide)
  have hn : (n : Int) ≤ 10 := hn
  have eH : M.1 22 1 = nI n := (hH.1 2 (by decide)).trans h2
  have hv2 : (0 ≤ v.toInt ∧ v.toInt ≤ 3) ↔ (0 ≤ v.toInt ∧ v.toInt < 4) := by omega
  by_cases hv : 0 ≤ v.toInt ∧ v.toInt < 4
  · by_cases hf : n < 10
    · have lt : nI n < 10 := nI_lt (b := 10) hf (by decide)
      have ne : ¬ nI n = 10 := fun e => by
        have := (nI_eq (a := n) (b := 10) (by omega) (by decide)).mp e
        omega
      refine ss_go (S' := ss_s (ss_a S 2 n v) 2 (nI n + 1)) (r := nI n) hI ((ho.a 2 n (by show (0 : Int) ≤ _ ∧ _ ≤ (3 : Int); omega)).s 2 (by rw [nI_1, nI_toInt (by omega)]; show (0 : Int) ≤ _ ∧ _ ≤ (10 : Int); omega)) rfl ⟨mm_setI (mm_setA M 23 n v) 22 1 (nI n + 1), ?_, (hH.a 2 (by decide) hf rfl v).s 2 (by decide) rfl _, (ss_h.rf.a (by decide)).s (by decide)⟩ (fun M1 hR1 => ⟨mm_setI (mm_setA M1 101 n v) 97 9 (nI n + 1), ?_, (hR1.a 2 (by decide) rfl rfl).s 2 (by decide) rfl _, (ss_r.rf.a (by decide)).s (by decide)⟩)
      · have e2 : (mm_setA M 23 n v).1 22 1 = nI n := eH
        simp only [f_H_room, sh_isBelow, i_4, pp_bd, decide_eq_true hv, if_pos, eH, lt, show mm_al 23 = 10 from rfl, pp_in hf (by decide), pp_let, nI_clamp (show n < 2 ^ 31 by omega), e2]
        simp [mm_setI, nI_1, nI_pred]
      · have e1 : M1.1 97 9 = nI n := (hR1.1 2 (by decide)).trans h2
        have e2 : (mm_setA M1 101 n v).1 97 9 = nI n := e1
        simp only [f_R_room, sr_in, i_0, i_3, pp_bd, decide_eq_true (hv2.mpr hv), if_pos, e1, if_neg ne, show mm_al 101 = 10 from rfl, pp_in hf (by decide), pp_let, nI_clamp (show n < 2 ^ 31 by omega), e2]
        simp [mm_setI, nI_1, nI_pred]
    · have h10 : n = 10 := by omega
      subst h10
      refine ss_same (r := -1) hI ⟨M, ?_, hH, ss_h.rf⟩ (fun M1 hR1 => ⟨M1, ?_, hR1, ss_r.rf⟩)
      · simp only [f_H_room, sh_isBelow, i_4, pp_bd, decide_eq_true hv, if_pos, eH]
        rfl
      · have e1 : M1.1 97 9 = nI 10 := (hR1.1 2 (by decide)).trans h2
        simp only [f_R_room, sr_in, i_0, i_3, pp_bd, decide_eq_true (hv2.mpr hv), if_pos, e1]
        rfl
  · refine ss_same (r := -1) hI ⟨M, ?_, hH, ss_h.rf⟩ (fun M1 hR1 => ⟨M1, ?_, hR1, ss_r.rf⟩)
    · simp [f_H_room, sh_isBelow, i_4, pp_bd, decide_eq_false hv]
    · simp [f_R_room, sr_in, i_0, i_3, pp_bd, decide_eq_false (fun q => hv (hv2.mp q))]
theorem p_shift : ok_shift (ss_I Q) := by
  intro v w M hI
  obtain ⟨S, hI⟩ := hI
  obtain ⟨ho, hH, hR, -⟩ := id hI
  obtain ⟨s, hs, h5⟩ := ho.n 5 (by decide)
  have hs : (s : Int) ≤ 1023 := hs
  by_cases hb : pp_has s v = true
  · obtain ⟨k, hk, rfl, ht⟩ := pp_has_of hb
    have hk10 := pp_tb_lt (n := 10) (by omega) ht
    by_cases hw : -3 ≤ w.toInt ∧ w.toInt ≤ 3
    · refine ss_go (S' := ss_a S 9 k w) (r := true) hI (ho.a 9 k hw) rfl ⟨mm_setA M 31 k w, ?_, hH.a 9 (by decide) hk10 rfl w, ss_h.rf.a (by decide)⟩ (fun M1 hR1 => ⟨mm_setA M1 108 k w, ?_, hR1.a 9 (by decide) rfl rfl, ss_r.rf.a (by decide)⟩)
      · simp only [f_H_shift, sh_has hH (by omega) h5, hb, pp_bd, if_pos, ii_lt, ii_le, i_3, i_m3, if_neg (show ¬ w.toInt < -3 by omega), if_pos hw.2, show mm_al 31 = 10 from rfl, pp_in hk10 (by decide), pp_let, nI_clamp (show k < 2 ^ 31 by omega)]
      · simp only [f_R_shift, sr_isStay hR1 (by omega) h5, hb, pp_bd, if_pos, sr_in, i_3, i_m3, decide_eq_true hw, show mm_al 108 = 10 from rfl, pp_in hk10 (by decide), pp_let, nI_clamp (show k < 2 ^ 31 by omega)]
    · refine ss_same (r := false) hI ⟨M, ?_, hH, ss_h.rf⟩ (fun M1 hR1 => ⟨M1, ?_, hR1, ss_r.rf⟩)
      · simp only [f_H_shift, sh_has hH (by omega) h5, hb, pp_bd, if_pos, ii_lt, ii_le, i_3, i_m3]
        by_cases h1 : w.toInt < -3
        · rw [if_pos h1]
        · rw [if_neg h1, if_neg (by omega)]
      · simp [f_R_shift, sr_isStay hR1 (show s < 1024 by omega) h5, hb, pp_bd, sr_in, i_3, i_m3, decide_eq_false hw]
  · have hb : pp_has s v = false := by simpa using hb
    refine ss_same (r := false) hI ⟨M, ?_, hH, ss_h.rf⟩ (fun M1 hR1 => ⟨M1, ?_, hR1, ss_r.rf⟩)
    · simp [f_H_shift, sh_has hH (show s < 1024 by omega) h5, hb, pp_bd]
    · simp [f_R_shift, sr_isStay hR1 (show s < 1024 by omega) h5, hb, pp_bd]

theorem p_leave : ok_leave (ss_I Q) := by
  intro v M hI
  obtain ⟨S, hI⟩ := hI
  obtain ⟨ho, hH, hR, -⟩ := id hI
  obtain ⟨s, hs, h5⟩ := ho.n 5 (by decide)
  have hs : (s : Int) ≤ 1023 := hs
  by_cases hb : pp_has s v = true
  · obtain ⟨k, hk, rfl, ht⟩ := pp_has_of hb
    have eH : M.1 27 0 = nI s := (hH.1 5 (by decide)).trans h5
    refine ss_go (S' := ss_s S 5 (nI s &&& ((1 <<< (nI k &&& 31)) ^^^ (-1)))) (r := true) hI (ho.s 5 ?_) rfl ⟨mm_setI M 27 0 (nI s &&& ((1 <<< (nI k &&& 31)) ^^^ (-1))), ?_, hH.s 5 (by decide) rfl _, ss_h.rf.s (by decide)⟩ (fun M1 hR1 => ⟨mm_setI M1 97 12 (nI s &&& ((1 <<< (nI k &&& 31)) ^^^ (-1))), ?_, hR1.s 5 (by decide) rfl _, ss_r.rf.s (by decide)⟩)
    · rw [pp_del (by omega) hk, nI_toInt (by have := pp_delN_le s k; omega)]
      have := pp_delN_le s k
      show (0 : Int) ≤ _ ∧ _ ≤ (1023 : Int)
      omega
    · simp only [f_H_leave, sh_has hH (show s < 1024 by omega) h5, hb, pp_bd, if_pos, pp_let, eH]
    · have e1 : M1.1 97 12 = nI s := (hR1.1 5 (by decide)).trans h5
      simp only [f_R_leave, sr_isStay hR1 (show s < 1024 by omega) h5, hb, pp_bd, if_pos, pp_let, e1]
  · have hb : pp_has s v = false := by simpa using hb
    refine ss_same (r := false) hI ⟨M, ?_, hH, ss_h.rf⟩ (fun M1 hR1 => ⟨M1, ?_, hR1, ss_r.rf⟩)
    · simp [f_H_leave, sh_has hH (show s < 1024 by omega) h5, hb, pp_bd]
    · simp [f_R_leave, sr_isStay hR1 (show s < 1024 by omega) h5, hb, pp_bd]
end SIMPLE
