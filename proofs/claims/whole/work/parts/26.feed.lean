/-! feed -/
/-- one byte comes behind the tape -/
def pp_put (S : ss_S) (n : Nat) (b : Int32) : ss_S := ss_s (ss_a S 0 n b) 0 (nI (n + 1))
def pp_by (v : Int32) (c : Int32) : Int32 := (v >>> (c &&& 31)) &&& 255
theorem pp_by_ok (v c : Int32) : 0 ≤ (pp_by v c).toInt ∧ (pp_by v c).toInt ≤ 255 := by
  obtain ⟨j, hj, e⟩ := pk_andE (v >>> (c &&& 31)) (m := 255) 8 rfl
  unfold pp_by
  rw [e, nI_toInt (by omega)]
  omega
theorem pp_low (x : Int32) : (x &&& 255).toInt8 = x.toInt8 := by
  apply Int8.toBitVec_inj.mp
  rw [Int32.toBitVec_toInt8, Int32.toBitVec_toInt8, Int32.toBitVec_and]
  ext i hi
  rw [BitVec.signExtend_eq_setWidth_of_le _ (by decide), BitVec.signExtend_eq_setWidth_of_le _ (by decide)]
  simp only [BitVec.getElem_setWidth, BitVec.getLsbD_and]
  have : ∀ i, i < 8 → ((255 : Int32).toBitVec).getLsbD i = true := by decide
  rw [this i hi, Bool.and_true]
theorem pp_put_ok {S : ss_S} (h : ss_Ok S) {n : Nat} (hn : n < 200) (v c : Int32) : ss_Ok (pp_put S n (pp_by v c)) := by
  refine (h.a 0 n (pp_by_ok v c)).s 0 ?_
  rw [nI_toInt (by omega)]
  show (0 : Int) ≤ _ ∧ _ ≤ (200 : Int)
  omega
theorem sh_put {S : ss_S} {M : mm_M} (h : ss_RH S M) {n : Nat} (hn : n < 200) (b : Int32) : ss_RH (pp_put S n b) (mm_setI (mm_setA M 2 n b) 1 1 (nI (n + 1))) := (h.a 0 (by decide) hn rfl b).s 0 (by decide) rfl _
theorem sr_put {S : ss_S} {M : mm_M} (h : ss_RR S M) {n : Nat} (b w : Int32) (hw : b.toInt8.toInt32 = w) : ss_RR (pp_put S n b) (mm_setI (mm_setA M 98 n w) 97 1 (nI (n + 1))) := (h.a 0 (by decide) rfl hw).s 0 (by decide) rfl _
/-- a number comes behind the tape, the highest byte first -/
def pp_app (S : ss_S) (n : Nat) (v : Int32) : ss_S := pp_put (pp_put (pp_put (pp_put S n (pp_by v 24)) (n + 1) (pp_by v 16)) (n + 2) (pp_by v 8)) (n + 3) (pp_by v 0)
theorem pp_app_ok {S : ss_S} (h : ss_Ok S) {n : Nat} (hn : n + 4 ≤ 200) (v : Int32) : ss_Ok (pp_app S n v) := pp_put_ok (pp_put_ok (pp_put_ok (pp_put_ok h (by omega) v 24) (by omega) v 16) (by omega) v 8) (by omega) v 0
theorem sh_step {S : ss_S} {M : mm_M} (hH : ss_RH S M) {n m : Nat} (hn : n < 200) (h0 : S.1 0 = nI n) (v c c2 : Int32) (hc : ¬ c < 0) (hc2 : c + (-8) = c2) (k : mm_M → Option (Unit × mm_M)) : lp_Tape_append_3 v k (m + 1) c M = lp_Tape_append_3 v k m c2 (mm_setI (mm_setA M 2 n (pp_by v c)) 1 1 (nI (n + 1))) := by
  have e : M.1 1 1 = nI n := (hH.1 0 (by decide)).trans h0
  have e2 : (mm_setA M 2 n (pp_by v c)).1 1 1 = nI n := e
  rw [lp_Tape_append_3, if_neg hc, e, if_neg (show ¬ (200 : Int32) ≤ nI n from nI_ge (b := 200) hn (by decide)), show mm_al 2 = 200 from rfl, pp_in hn (by decide), if_pos rfl, pp_let, nI_clamp (by omega)]
  show mm_let (mm_setI (mm_setA M 2 n (pp_by v c)) 1 1 ((mm_setA M 2 n (pp_by v c)).1 1 1 + 1)) _ = _
  rw [e2, nI_1, pp_let, pp_let, hc2]
theorem sh_append {S : ss_S} {M : mm_M} (hH : ss_RH S M) {n : Nat} (hn : n + 4 ≤ 200) (h0 : S.1 0 = nI n) (v : Int32) : ∃ M1, f_Tape_append v M = some ((), M1) ∧ ss_RH (pp_app S n v) M1 ∧ ss_h M M1 := by
  have r1 := sh_put hH (n := n) (by omega) (pp_by v 24)
  have r2 := sh_put r1 (n := n + 1) (by omega) (pp_by v 16)
  have r3 := sh_put r2 (n := n + 2) (by omega) (pp_by v 8)
  have r4 := sh_put r3 (n := n + 3) (by omega) (pp_by v 0)
  refine ⟨_, ?_, r4, ((((((((ss_h.rf.a (by decide)).s (by decide)).a (by decide)).s (by decide)).a (by decide)).s (by decide)).a (by decide)).s (by decide))⟩
  unfold f_Tape_append
  rw [show mm_fu = 4996 + 1 + 1 + 1 + 1 from rfl]
  rw [sh_step hH (by omega) h0 v 24 16 (by decide) (by decide), sh_step r1 (n := n + 1) (by omega) rfl v 16 8 (by decide) (by decide), sh_step r2 (n := n + 2) (by omega) rfl v 8 0 (by decide) (by decide), sh_step r3 (n := n + 3) (by omega) rfl v 0 (-8) (by decide) (by decide)]
  rw [show 4996 = 4995 + 1 from rfl, lp_Tape_append_3, if_pos (by decide)]
theorem sr_step {S : ss_S} {M : mm_M} (hR : ss_RR S M) {n m : Nat} (hn : n < 200) (h0 : S.1 0 = nI n) (v c c2 : Int32) (hc : ¬ c < 0) (hc2 : c + (-1) = c2) (k : mm_M → Option (Unit × mm_M)) : lp_R_types_2 v k (m + 1) c M = lp_R_types_2 v k m c2 (mm_setI (mm_setA M 98 n (pp_by v (8 * c)).toInt8.toInt32) 97 1 (nI (n + 1))) := by
  have e : M.1 97 1 = nI n := (hR.1 0 (by decide)).trans h0
  have e2 : ∀ w : Int32, (mm_setA M 98 n w).1 97 1 = nI n := fun _ => e
  have e3 : ((v >>> ((8 * c) &&& 31)).toInt8.toInt32).toInt8.toInt32 = (pp_by v (8 * c)).toInt8.toInt32 := by
    unfold pp_by
    rw [pp_low, Int8.toInt8_toInt32]
  rw [lp_R_types_2, if_neg hc, e, show mm_bl 98 = 200 from rfl, pp_in hn (by decide), if_pos rfl, pp_let, nI_clamp (by omega), e3, e2, nI_1, pp_let, pp_let, hc2]
theorem sr_append {S : ss_S} {M : mm_M} (hR : ss_RR S M) {n : Nat} (hn : n + 4 ≤ 200) (h0 : S.1 0 = nI n) (v : Int32) : ∃ M1, f_R_types v M = some ((), M1) ∧ ss_RR (pp_app S n v) M1 ∧ ss_r M M1 := by
  have r1 := sr_put hR (n := n) (pp_by v 24) _ rfl
  have r2 := sr_put r1 (n := n + 1) (pp_by v 16) _ rfl
  have r3 := sr_put r2 (n := n + 2) (pp_by v 8) _ rfl
  have r4 := sr_put r3 (n := n + 3) (pp_by v 0) _ rfl
  refine ⟨_, ?_, r4, ((((((((ss_r.rf.a (by decide)).s (by decide)).a (by decide)).s (by decide)).a (by decide)).s (by decide)).a (by decide)).s (by decide))⟩
  unfold f_R_types
  rw [show mm_fu = 4996 + 1 + 1 + 1 + 1 from rfl]
  rw [sr_step hR (by omega) h0 v 3 2 (by decide) (by decide)]
  rw [show (8 : Int32) * 3 = 24 from rfl, sr_step r1 (n := n + 1) (by omega) rfl v 2 1 (by decide) (by decide)]
  rw [show (8 : Int32) * 2 = 16 from rfl, sr_step r2 (n := n + 2) (by omega) rfl v 1 0 (by decide) (by decide)]
  rw [show (8 : Int32) * 1 = 8 from rfl, sr_step r3 (n := n + 3) (by omega) rfl v 0 (-1) (by decide) (by decide)]
  rw [show (8 : Int32) * 0 = 0 from rfl, show 4996 = 4995 + 1 from rfl, lp_R_types_2, if_pos (by decide)]
section FEED
variable {Q : Int32 → (Nat → Nat → Int32) → Prop}
theorem p_feed : ok_feed (ss_I Q) := by
  intro a b c d e M hI
  obtain ⟨S, hI⟩ := hI
  obtain ⟨ho, hH, hR, -⟩ := id hI
  obtain ⟨n, hn, h0⟩ := ho.n 0 (by decide)
  have hn : (n : Int) ≤ 200 := hn
  have eH : M.1 1 1 = nI n := (hH.1 0 (by decide)).trans h0
  by_cases hf : n + 20 ≤ 200
  · have hle : nI n + 20 ≤ 200 := by
      rw [show nI n + 20 = nI (n + 20) from nI_add n 20]
      exact nI_le (b := 200) hf (by decide)
    refine ss_go (S' := pp_app (pp_app (pp_app (pp_app (pp_app S n a) (n + 4) b) (n + 8) c) (n + 12) d) (n + 16) e) (r := nI (n + 20)) hI (pp_app_ok (pp_app_ok (pp_app_ok (pp_app_ok (pp_app_ok ho (by omega) a) (by omega) b) (by omega) c) (by omega) d) (by omega) e) rfl ?_ (fun M1 hR1 => ?_)
    · obtain ⟨M1, f1, g1, k1⟩ := sh_append hH (by omega) h0 a
      obtain ⟨M2, f2, g2, k2⟩ := sh_append g1 (n := n + 4) (by omega) rfl b
      obtain ⟨M3, f3, g3, k3⟩ := sh_append g2 (n := n + 8) (by omega) rfl c
      obtain ⟨M4, f4, g4, k4⟩ := sh_append g3 (n := n + 12) (by omega) rfl d
      obtain ⟨M5, f5, g5, k5⟩ := sh_append g4 (n := n + 16) (by omega) rfl e
      refine ⟨M5, ?_, g5, (((k1.tr k2).tr k3).tr k4).tr k5⟩
      have e5 : M5.1 1 1 = nI (n + 20) := g5.1 0 (by decide)
      simp only [f_H_feed, f_Tape_size, pp_bd, eH, if_pos hle, f1, f2, f3, f4, f5, e5]
    · obtain ⟨M2, f1, g1, k1⟩ := sr_append hR1 (by omega) h0 a
      obtain ⟨M3, f2, g2, k2⟩ := sr_append g1 (n := n + 4) (by omega) rfl b
      obtain ⟨M4, f3, g3, k3⟩ := sr_append g2 (n := n + 8) (by omega) rfl c
      obtain ⟨M5, f4, g4, k4⟩ := sr_append g3 (n := n + 12) (by omega) rfl d
      obtain ⟨M6, f5, g5, k5⟩ := sr_append g4 (n := n + 16) (by omega) rfl e
      refine ⟨M6, ?_, g5, (((k1.tr k2).tr k3).tr k4).tr k5⟩
      have e0 : M1.1 97 1 = nI n := (hR1.1 0 (by decide)).trans h0
      have e5 : M6.1 97 1 = nI (n + 20) := g5.1 0 (by decide)
      simp only [f_R_feed, pp_bd, e0, if_pos hle, f1, f2, f3, f4, f5, e5]
  · have hle : ¬ nI n + 20 ≤ 200 := by
      rw [show nI n + 20 = nI (n + 20) from nI_add n 20]
      exact nI_ge (a := 200) (by omega) (by omega)
    refine ss_same (r := -1) hI ⟨M, ?_, hH, ss_h.rf⟩ (fun M1 hR1 => ⟨M1, ?_, hR1, ss_r.rf⟩)
    · simp only [f_H_feed, f_Tape_size, pp_bd, eH, if_neg hle]
    · have e0 : M1.1 97 1 = nI n := (hR1.1 0 (by decide)).trans h0
      simp only [f_R_feed, e0, if_neg hle]
end FEED
