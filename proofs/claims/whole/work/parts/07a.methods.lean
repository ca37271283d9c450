def f_Tape_size (M : mm_M) : Option (Int32 × mm_M) := some (M.1 1 1, M)
set_option maxHeartbeats 4000000 in
theorem c_Tape_size (E : mm_E) (M : mm_M) : ∀ (r : Int32) (M2 : mm_M), f_Tape_size M = some (r, M2) → mm_P E Y_X9_size 1 [.ref 1] M (some (.int r)) M2 := by
  refine mm_entry (em := (fun x : Int32 => some (.int x))) (by decide +kernel) (Nat.le_of_ble_eq_true rfl) ?_
  show mm_G _ E _ _ 0 [(0, .ref 1)] [] M _
  unfold f_Tape_size
  refine mm_aload_n 0 dX9_size_0 rfl ?_
  refine mm_getI dX9_size_1 fl_RX9_15 lo_1 rfl ?_
  exact mm_iret dX9_size_4 rfl
def lp_Tape_append_3 (v1 : Int32) (k51 : mm_M → Option (Unit × mm_M)) : Nat → Int32 → mm_M → Option (Unit × mm_M)
  | 0, _, _ => none
  | n + 1, v2, M => if v2 < 0 then k51 M else if 200 ≤ M.1 1 1 then k51 M else if mm_in (M.1 1 1) (mm_al 2) = true then mm_let (mm_setA M 2 ((M.1 1 1).toNatClampNeg) ((v1 >>> (v2 &&& 31)) &&& 255)) fun M_1 => mm_let (mm_setI M_1 1 1 ((M_1.1 1 1) + 1)) fun M_2 => mm_let (v2 + (-8)) fun v2_3 => lp_Tape_append_3 v1 k51 n v2_3 M_2 else none
set_option maxHeartbeats 4000000 in
theorem lp_Tape_append_3_ok (E : mm_E) (v1 : Int32) {k51 : mm_M → Option (Unit × mm_M)} (hk51 : ∀ (M : mm_M), mm_G (fun _ : Unit => none) E Y_X9_append 1 51 [] [] M (k51 M)) : ∀ (n : Nat) (v2 : Int32) (M : mm_M), mm_G (fun _ : Unit => none) E Y_X9_append 1 3 [(0, .ref 1), (1, .int v1), (2, .int v2)] [] M (lp_Tape_append_3 v1 k51 n v2 M) := by
  intro n
  induction n with
  | zero => intro v2 M r M2 he; cases he
  | succ n ih =>
    intro v2 M
    rw [lp_Tape_append_3]
    refine mm_iload_n 2 dX9_append_3 rfl ?_
    refine mm_if_lt 51 dX9_append_4 rfl ?_ ?_
    · refine mm_wk [] rfl ?_
      exact hk51  M
    · refine mm_aload_n 0 dX9_append_7 rfl ?_
      refine mm_getI dX9_append_8 fl_RX9_15 lo_1 rfl ?_
      refine mm_aload_n 0 dX9_append_11 rfl ?_
      refine mm_getR 2 dX9_append_12 fl_RX9_9 lo_1 rfl ?_
      refine mm_alen (v := 200) dX9_append_15 lo_2 rfl ?_
      refine mm_icmp_ge 51 dX9_append_16 rfl ?_ ?_
      · refine mm_wk [] rfl ?_
        exact hk51  M
      · refine mm_aload_n 0 dX9_append_19 rfl ?_
        refine mm_getR 2 dX9_append_20 fl_RX9_9 lo_1 rfl ?_
        refine mm_aload_n 0 dX9_append_23 rfl ?_
        refine mm_getI dX9_append_24 fl_RX9_15 lo_1 rfl ?_
        refine mm_iload_n 1 dX9_append_27 rfl ?_
        refine mm_iload_n 2 dX9_append_28 rfl ?_
        refine mm_ishr dX9_append_29 ?_
        refine mm_sipush (v := 255) dX9_append_30 rfl ?_
        refine mm_iand dX9_append_33 ?_
        refine mm_iastore dX9_append_34 ?_
        refine mm_nm_M (fun M_1 => ?_)
        refine mm_aload_n 0 dX9_append_35 rfl ?_
        refine mm_dup dX9_append_36 rfl ?_
        refine mm_getI dX9_append_37 fl_RX9_15 lo_1 rfl ?_
        refine mm_iconst (v := 1) dX9_append_40 rfl ?_
        refine mm_iadd dX9_append_41 ?_
        refine mm_putI dX9_append_42 fp_RX9_15 lo_1 rfl ?_
        refine mm_nm_M (fun M_2 => ?_)
        refine mm_iincN 2 [1, 2, 0] (v := v2 + (-8)) (lv2 := fun v2_3 => [(0, .ref 1), (1, .int v1), (2, .int v2_3)]) dX9_append_45 rfl rfl (by decide) (fun _ => rfl) (fun v2_3 => ?_)
        refine mm_goto 3 dX9_append_48 rfl ?_
        exact ih v2_3 M_2
def f_Tape_append (v1 : Int32) (M : mm_M) : Option (Unit × mm_M) := lp_Tape_append_3 v1 (fun (M_4 : mm_M) => some ((), M_4)) mm_fu 24 M
set_option maxHeartbeats 4000000 in
theorem c_Tape_append (E : mm_E) (v1 : Int32) (M : mm_M) : ∀ (r : Unit) (M2 : mm_M), f_Tape_append v1 M = some (r, M2) → mm_P E Y_X9_append 1 [.ref 1, .int v1] M none M2 := by
  refine mm_entry (em := (fun _ : Unit => none)) (by decide +kernel) (Nat.le_of_ble_eq_true rfl) ?_
  show mm_G _ E _ _ 0 [(0, .ref 1), (1, .int v1)] [] M _
  unfold f_Tape_append
  refine mm_bipush (v := 24) dX9_append_0 rfl ?_
  refine mm_istore_n [1, 2, 0] (lv2 := [(0, .ref 1), (1, .int v1), (2, .int 24)]) dX9_append_2 (by decide) rfl ?_
  refine lp_Tape_append_3_ok E v1 ?_ mm_fu 24 M
  · intro M_4
    exact mm_vret dX9_append_51 rfl
def f_H_feed (v1 : Int32) (v2 : Int32) (v3 : Int32) (v4 : Int32) (v5 : Int32) (M : mm_M) : Option (Int32 × mm_M) := mm_bd (f_Tape_size M) fun r_1 M_2 => if r_1 + 20 ≤ 200 then mm_bd (f_Tape_append v1 M_2) fun u_3 M_4 => mm_bd (f_Tape_append v2 M_4) fun u_5 M_6 => mm_bd (f_Tape_append v3 M_6) fun u_7 M_8 => mm_bd (f_Tape_append v4 M_8) fun u_9 M_10 => mm_bd (f_Tape_append v5 M_10) fun u_11 M_12 => mm_bd (f_Tape_size M_12) fun r_13 M_14 => some (r_13, M_14) else some ((-1), M_2)
set_option maxHeartbeats 4000000 in
theorem c_H_feed (E : mm_E) (v1 : Int32) (v2 : Int32) (v3 : Int32) (v4 : Int32) (v5 : Int32) (M : mm_M) : ∀ (r : Int32) (M2 : mm_M), f_H_feed v1 v2 v3 v4 v5 M = some (r, M2) → mm_P E Y_X11_feed 2 [.ref 0, .int v1, .int v2, .int v3, .int v4, .int v5] M (some (.int r)) M2 := by
  refine mm_entry (em := (fun x : Int32 => some (.int x))) (by decide +kernel) (Nat.le_of_ble_eq_true rfl) ?_
  show mm_G _ E _ _ 0 [(0, .ref 0), (1, .int v1), (2, .int v2), (3, .int v3), (4, .int v4), (5, .int v5)] [] M _
  unfold f_H_feed
  refine mm_aload_n 0 dX11_feed_0 rfl ?_
  refine mm_getR 1 dX11_feed_1 fl_RX11_12 lo_0 rfl ?_
  refine mm_callVi (as := []) (st := []) (c_Tape_size E M) dX11_feed_4 mz_X9_size lk_RX11_100 im_X9_size se_X9_size lo_1 rfl rfl rfl ⟨Nat.le_of_ble_eq_true rfl, Nat.le_of_ble_eq_true rfl⟩ (Nat.le_of_ble_eq_true rfl) (fun r_1 M_2 => ?_)
  refine mm_bipush (v := 20) dX11_feed_7 rfl ?_
  refine mm_iadd dX11_feed_9 ?_
  refine mm_sipush (v := 200) dX11_feed_10 rfl ?_
  refine mm_icmp_le 18 dX11_feed_13 rfl ?_ ?_
  · refine mm_aload_n 0 dX11_feed_18 rfl ?_
    refine mm_getR 1 dX11_feed_19 fl_RX11_12 lo_0 rfl ?_
    refine mm_iload_n 1 dX11_feed_22 rfl ?_
    refine mm_callVv (as := [.int v1]) (st := []) (c_Tape_append E v1 M_2) dX11_feed_23 mz_X9_append lk_RX11_104 im_X9_append se_X9_append lo_1 rfl rfl rfl ⟨Nat.le_of_ble_eq_true rfl, Nat.le_of_ble_eq_true rfl⟩ (Nat.le_of_ble_eq_true rfl) (fun u_3 M_4 => ?_)
    refine mm_aload_n 0 dX11_feed_26 rfl ?_
    refine mm_getR 1 dX11_feed_27 fl_RX11_12 lo_0 rfl ?_
    refine mm_iload_n 2 dX11_feed_30 rfl ?_
    refine mm_callVv (as := [.int v2]) (st := []) (c_Tape_append E v2 M_4) dX11_feed_31 mz_X9_append lk_RX11_104 im_X9_append se_X9_append lo_1 rfl rfl rfl ⟨Nat.le_of_ble_eq_true rfl, Nat.le_of_ble_eq_true rfl⟩ (Nat.le_of_ble_eq_true rfl) (fun u_5 M_6 => ?_)
    refine mm_aload_n 0 dX11_feed_34 rfl ?_
    refine mm_getR 1 dX11_feed_35 fl_RX11_12 lo_0 rfl ?_
    refine mm_iload_n 3 dX11_feed_38 rfl ?_
    refine mm_callVv (as := [.int v3]) (st := []) (c_Tape_append E v3 M_6) dX11_feed_39 mz_X9_append lk_RX11_104 im_X9_append se_X9_append lo_1 rfl rfl rfl ⟨Nat.le_of_ble_eq_true rfl, Nat.le_of_ble_eq_true rfl⟩ (Nat.le_of_ble_eq_true rfl) (fun u_7 M_8 => ?_)
    refine mm_aload_n 0 dX11_feed_42 rfl ?_
    refine mm_getR 1 dX11_feed_43 fl_RX11_12 lo_0 rfl ?_
    refine mm_iload 4 dX11_feed_46 rfl ?_
    refine mm_callVv (as := [.int v4]) (st := []) (c_Tape_append E v4 M_8) dX11_feed_48 mz_X9_append lk_RX11_104 im_X9_append se_X9_append lo_1 rfl rfl rfl ⟨Nat.le_of_ble_eq_true rfl, Nat.le_of_ble_eq_true rfl⟩ (Nat.le_of_ble_eq_true rfl) (fun u_9 M_10 => ?_)
    refine mm_aload_n 0 dX11_feed_51 rfl ?_
    refine mm_getR 1 dX11_feed_52 fl_RX11_12 lo_0 rfl ?_
    refine mm_iload 5 dX11_feed_55 rfl ?_
    refine mm_callVv (as := [.int v5]) (st := []) (c_Tape_append E v5 M_10) dX11_feed_57 mz_X9_append lk_RX11_104 im_X9_append se_X9_append lo_1 rfl rfl rfl ⟨Nat.le_of_ble_eq_true rfl, Nat.le_of_ble_eq_true rfl⟩ (Nat.le_of_ble_eq_true rfl) (fun u_11 M_12 => ?_)
    refine mm_aload_n 0 dX11_feed_60 rfl ?_
    refine mm_getR 1 dX11_feed_61 fl_RX11_12 lo_0 rfl ?_
    refine mm_callVi (as := []) (st := []) (c_Tape_size E M_12) dX11_feed_64 mz_X9_size lk_RX11_100 im_X9_size se_X9_size lo_1 rfl rfl rfl ⟨Nat.le_of_ble_eq_true rfl, Nat.le_of_ble_eq_true rfl⟩ (Nat.le_of_ble_eq_true rfl) (fun r_13 M_14 => ?_)
    exact mm_iret dX11_feed_67 rfl
  · refine mm_iconst (v := (-1)) dX11_feed_16 rfl ?_
    exact mm_iret dX11_feed_17 rfl
def f_H_isBelow (v0 : Int32) (v1 : Int32) (M : mm_M) : Option (Bool × mm_M) := if v0 < 0 then some (false, M) else if v1 ≤ v0 then some (false, M) else some (true, M)
set_option maxHeartbeats 4000000 in
theorem c_H_isBelow (E : mm_E) (v0 : Int32) (v1 : Int32) (M : mm_M) : ∀ (r : Bool) (M2 : mm_M), f_H_isBelow v0 v1 M = some (r, M2) → mm_P E Y_X11_isBelow 1 [.int v0, .int v1] M (some (.int (mm_b r))) M2 := by
  refine mm_entry (em := (fun x : Bool => some (.int (mm_b x)))) (by decide +kernel) (Nat.le_of_ble_eq_true rfl) ?_
  show mm_G _ E _ _ 0 [(0, .int v0), (1, .int v1)] [] M _
  unfold f_H_isBelow
  refine mm_iload_n 0 dX11_isBelow_0 rfl ?_
  refine mm_if_lt 13 dX11_isBelow_1 rfl ?_ ?_
  · refine mm_iconst (v := 0) dX11_isBelow_13 rfl ?_
    exact mm_zret (b := false) dX11_isBelow_14 rfl
  · refine mm_iload_n 0 dX11_isBelow_4 rfl ?_
    refine mm_iload_n 1 dX11_isBelow_5 rfl ?_
    refine mm_icmp_ge 13 dX11_isBelow_6 rfl ?_ ?_
    · refine mm_iconst (v := 0) dX11_isBelow_13 rfl ?_
      exact mm_zret (b := false) dX11_isBelow_14 rfl
    · refine mm_iconst (v := 1) dX11_isBelow_9 rfl ?_
      refine mm_goto 14 dX11_isBelow_10 rfl ?_
      exact mm_zret (b := true) dX11_isBelow_14 rfl
def f_Math_min (v0 : Int32) (v1 : Int32) (M : mm_M) : Option (Int32 × mm_M) := if v1 < v0 then some (v1, M) else some (v0, M)
set_option maxHeartbeats 4000000 in
theorem c_Math_min (E : mm_E) (v0 : Int32) (v1 : Int32) (M : mm_M) : ∀ (r : Int32) (M2 : mm_M), f_Math_min v0 v1 M = some (r, M2) → mm_P E Y_J9_min_7cf53 1 [.int v0, .int v1] M (some (.int r)) M2 := by
  refine mm_entry (em := (fun x : Int32 => some (.int x))) (by decide +kernel) (Nat.le_of_ble_eq_true rfl) ?_
  show mm_G _ E _ _ 0 [(0, .int v0), (1, .int v1)] [] M _
  unfold f_Math_min
  refine mm_iload_n 0 dJ9_min_7cf53_0 rfl ?_
  refine mm_iload_n 1 dJ9_min_7cf53_1 rfl ?_
  refine mm_icmp_gt 9 dJ9_min_7cf53_2 rfl ?_ ?_
  · refine mm_iload_n 1 dJ9_min_7cf53_9 rfl ?_
    exact mm_iret dJ9_min_7cf53_10 rfl
  · refine mm_iload_n 0 dJ9_min_7cf53_5 rfl ?_
    refine mm_goto 10 dJ9_min_7cf53_6 rfl ?_
    exact mm_iret dJ9_min_7cf53_10 rfl
def f_TextReader_step (M : mm_M) : Option (Unit × mm_M) := mm_let (mm_setI M 3 2 ((M.1 3 2) + 1)) fun M_1 => if M_1.1 3 1 ≤ M_1.1 3 2 then mm_let (mm_setI M_1 3 3 (-1)) fun M_2 => some ((), M_2) else if mm_in (M_1.1 3 2) (mm_al 2) = true then mm_let (mm_setI M_1 3 3 (M_1.2.1 2 (M_1.1 3 2).toNatClampNeg)) fun M_3 => some ((), M_3) else none
set_option maxHeartbeats 4000000 in
theorem c_TextReader_step (E : mm_E) (M : mm_M) : ∀ (r : Unit) (M2 : mm_M), f_TextReader_step M = some (r, M2) → mm_P E Y_X10_step 1 [.ref 3] M none M2 := by
  refine mm_entry (em := (fun _ : Unit => none)) (by decide +kernel) (Nat.le_of_ble_eq_true rfl) ?_
  show mm_G _ E _ _ 0 [(0, .ref 3)] [] M _
  unfold f_TextReader_step
  refine mm_aload_n 0 dX10_step_0 rfl ?_
  refine mm_dup dX10_step_1 rfl ?_
  refine mm_getI dX10_step_2 fl_RX10_28 lo_3 rfl ?_
  refine mm_iconst (v := 1) dX10_step_5 rfl ?_
  refine mm_iadd dX10_step_6 ?_
  refine mm_putI dX10_step_7 fp_RX10_28 lo_3 rfl ?_
  refine mm_nm_M (fun M_1 => ?_)
  refine mm_aload_n 0 dX10_step_10 rfl ?_
  refine mm_aload_n 0 dX10_step_11 rfl ?_
  refine mm_getI dX10_step_12 fl_RX10_28 lo_3 rfl ?_
  refine mm_aload_n 0 dX10_step_15 rfl ?_
  refine mm_getI dX10_step_16 fl_RX10_27 lo_3 rfl ?_
  refine mm_icmp_ge 37 dX10_step_19 rfl ?_ ?_
  · refine mm_iconst (v := (-1)) dX10_step_37 rfl ?_
    refine mm_putI dX10_step_38 fp_RX10_41 lo_3 rfl ?_
    refine mm_nm_M (fun M_2 => ?_)
    exact mm_vret dX10_step_41 rfl
  · refine mm_aload_n 0 dX10_step_22 rfl ?_
    refine mm_getR 1 dX10_step_23 fl_RX10_9 lo_3 rfl ?_
    refine mm_getR 2 dX10_step_26 fl_RX10_37 lo_1 rfl ?_
    refine mm_aload_n 0 dX10_step_29 rfl ?_
    refine mm_getI dX10_step_30 fl_RX10_28 lo_3 rfl ?_
    refine mm_iaload dX10_step_33 ?_
    refine mm_goto 38 dX10_step_34 rfl ?_
    refine mm_putI dX10_step_38 fp_RX10_41 lo_3 rfl ?_
    refine mm_nm_M (fun M_3 => ?_)
    exact mm_vret dX10_step_41 rfl
def f_TextReader_open (v1 : Int32) (M : mm_M) : Option (Unit × mm_M) := mm_bd (f_Math_min v1 (M.1 1 1) M) fun r_1 M_2 => mm_let (mm_setI M_2 3 1 r_1) fun M_3 => mm_let (mm_setI M_3 3 2 (-1)) fun M_4 => mm_let (mm_setI M_4 3 4 0) fun M_5 => mm_bd (f_TextReader_step M_5) fun u_6 M_7 => some ((), M_7)
set_option maxHeartbeats 4000000 in
theorem c_TextReader_open (E : mm_E) (v1 : Int32) (M : mm_M) : ∀ (r : Unit) (M2 : mm_M), f_TextReader_open v1 M = some (r, M2) → mm_P E Y_X10_open 2 [.ref 3, .int v1] M none M2 := by
  refine mm_entry (em := (fun _ : Unit => none)) (by decide +kernel) (Nat.le_of_ble_eq_true rfl) ?_
  show mm_G _ E _ _ 0 [(0, .ref 3), (1, .int v1)] [] M _
  unfold f_TextReader_open
  refine mm_aload_n 0 dX10_open_0 rfl ?_
  refine mm_iload_n 1 dX10_open_1 rfl ?_
  refine mm_aload_n 0 dX10_open_2 rfl ?_
  refine mm_getR 1 dX10_open_3 fl_RX10_9 lo_3 rfl ?_
  refine mm_getI dX10_open_6 fl_RX10_15 lo_1 rfl ?_
  refine mm_callSi (as := [.int v1, .int (M.1 1 1)]) (st := [.ref 3]) (c_Math_min E v1 (M.1 1 1) M) dX10_open_9 mz_J9_min_7cf53 lk_RX10_21 sm_J9_min_7cf53 rfl ⟨Nat.le_of_ble_eq_true rfl, Nat.le_of_ble_eq_true rfl⟩ (Nat.le_of_ble_eq_true rfl) (fun r_1 M_2 => ?_)
  refine mm_putI dX10_open_12 fp_RX10_27 lo_3 rfl ?_
  refine mm_nm_M (fun M_3 => ?_)
  refine mm_aload_n 0 dX10_open_15 rfl ?_
  refine mm_iconst (v := (-1)) dX10_open_16 rfl ?_
  refine mm_putI dX10_open_17 fp_RX10_28 lo_3 rfl ?_
  refine mm_nm_M (fun M_4 => ?_)
  refine mm_aload_n 0 dX10_open_20 rfl ?_
  refine mm_iconst (v := 0) dX10_open_21 rfl ?_
  refine mm_putI dX10_open_22 fp_RX10_31 lo_3 rfl ?_
  refine mm_nm_M (fun M_5 => ?_)
  refine mm_aload_n 0 dX10_open_25 rfl ?_
  refine mm_callVv (as := []) (st := []) (c_TextReader_step E M_5) dX10_open_26 mz_X10_step lk_RX10_34 im_X10_step se_X10_step lo_3 rfl rfl rfl ⟨Nat.le_of_ble_eq_true rfl, Nat.le_of_ble_eq_true rfl⟩ (Nat.le_of_ble_eq_true rfl) (fun u_6 M_7 => ?_)
  exact mm_vret dX10_open_29 rfl
def lp_Arrays_fill_18_5 (v1 : Int32) (v3 : Int32) (k20 : mm_M → Option (Unit × mm_M)) : Nat → Int32 → mm_M → Option (Unit × mm_M)
  | 0, _, _ => none
  | n + 1, v2, M => if v3 ≤ v2 then k20 M else if mm_in v2 (mm_al 18) = true then mm_let (mm_setA M 18 (v2.toNatClampNeg) v1) fun M_1 => mm_let (v2 + 1) fun v2_2 => lp_Arrays_fill_18_5 v1 v3 k20 n v2_2 M_1 else none
set_option maxHeartbeats 4000000 in
theorem lp_Arrays_fill_18_5_ok (E : mm_E) (v1 : Int32) (v3 : Int32) {k20 : mm_M → Option (Unit × mm_M)} (hk20 : ∀ (M : mm_M), mm_G (fun _ : Unit => none) E Y_J7_fill_53178 1 20 [] [] M (k20 M)) : ∀ (n : Nat) (v2 : Int32) (M : mm_M), mm_G (fun _ : Unit => none) E Y_J7_fill_53178 1 5 [(0, .ref 18), (1, .int v1), (2, .int v2), (3, .int v3)] [] M (lp_Arrays_fill_18_5 v1 v3 k20 n v2 M) := by
  intro n
  induction n with
  | zero => intro v2 M r M2 he; cases he
  | succ n ih =>
    intro v2 M
    rw [lp_Arrays_fill_18_5]
    refine mm_iload_n 2 dJ7_fill_53178_5 rfl ?_
    refine mm_iload_n 3 dJ7_fill_53178_6 rfl ?_
    refine mm_icmp_ge 20 dJ7_fill_53178_7 rfl ?_ ?_
    · refine mm_wk [] rfl ?_
      exact hk20  M
    · refine mm_aload_n 0 dJ7_fill_53178_10 rfl ?_
      refine mm_iload_n 2 dJ7_fill_53178_11 rfl ?_
      refine mm_iload_n 1 dJ7_fill_53178_12 rfl ?_
      refine mm_iastore dJ7_fill_53178_13 ?_
      refine mm_nm_M (fun M_1 => ?_)
      refine mm_iincN 2 [1, 2, 0, 3] (v := v2 + 1) (lv2 := fun v2_2 => [(0, .ref 18), (1, .int v1), (2, .int v2_2), (3, .int v3)]) dJ7_fill_53178_14 rfl rfl (by decide) (fun _ => rfl) (fun v2_2 => ?_)
      refine mm_goto 5 dJ7_fill_53178_17 rfl ?_
      exact ih v2_2 M_1
def f_Arrays_fill_18 (v1 : Int32) (M : mm_M) : Option (Unit × mm_M) := lp_Arrays_fill_18_5 v1 72 (fun (M_3 : mm_M) => some ((), M_3)) mm_fu 0 M
set_option maxHeartbeats 4000000 in
theorem c_Arrays_fill_18 (E : mm_E) (v1 : Int32) (M : mm_M) : ∀ (r : Unit) (M2 : mm_M), f_Arrays_fill_18 v1 M = some (r, M2) → mm_P E Y_J7_fill_53178 1 [.ref 18, .int v1] M none M2 := by
  refine mm_entry (em := (fun _ : Unit => none)) (by decide +kernel) (Nat.le_of_ble_eq_true rfl) ?_
  show mm_G _ E _ _ 0 [(0, .ref 18), (1, .int v1)] [] M _
  unfold f_Arrays_fill_18
  refine mm_iconst (v := 0) dJ7_fill_53178_0 rfl ?_
  refine mm_istore_n [1, 2, 0] (lv2 := [(0, .ref 18), (1, .int v1), (2, .int 0)]) dJ7_fill_53178_1 (by decide) rfl ?_
  refine mm_aload_n 0 dJ7_fill_53178_2 rfl ?_
  refine mm_alen (v := 72) dJ7_fill_53178_3 lo_18 rfl ?_
  refine mm_istore_n [1, 2, 3, 0] (lv2 := [(0, .ref 18), (1, .int v1), (2, .int 0), (3, .int 72)]) dJ7_fill_53178_4 (by decide) rfl ?_
  refine lp_Arrays_fill_18_5_ok E v1 72 ?_ mm_fu 0 M
  · intro M_3
    exact mm_vret dJ7_fill_53178_20 rfl
def f_TextReader_atEnd (M : mm_M) : Option (Bool × mm_M) := if M.1 3 3 = (-1) then some (true, M) else some (false, M)
set_option maxHeartbeats 4000000 in
theorem c_TextReader_atEnd (E : mm_E) (M : mm_M) : ∀ (r : Bool) (M2 : mm_M), f_TextReader_atEnd M = some (r, M2) → mm_P E Y_X10_atEnd 1 [.ref 3] M (some (.int (mm_b r))) M2 := by
  refine mm_entry (em := (fun x : Bool => some (.int (mm_b x)))) (by decide +kernel) (Nat.le_of_ble_eq_true rfl) ?_
  show mm_G _ E _ _ 0 [(0, .ref 3)] [] M _
  unfold f_TextReader_atEnd
  refine mm_aload_n 0 dX10_atEnd_0 rfl ?_
  refine mm_getI dX10_atEnd_1 fl_RX10_41 lo_3 rfl ?_
  refine mm_iconst (v := (-1)) dX10_atEnd_4 rfl ?_
  refine mm_icmp_ne 12 dX10_atEnd_5 rfl ?_ ?_
  · refine mm_iconst (v := 0) dX10_atEnd_12 rfl ?_
    exact mm_zret (b := false) dX10_atEnd_13 rfl
  · refine mm_iconst (v := 1) dX10_atEnd_8 rfl ?_
    refine mm_goto 13 dX10_atEnd_9 rfl ?_
    exact mm_zret (b := true) dX10_atEnd_13 rfl
def f_String_isLatin1_140 (M : mm_M) : Option (Bool × mm_M) := if (1 : Int32) = 0 then some (false, M) else if (0 : Int32) = 0 then some (true, M) else some (false, M)
set_option maxHeartbeats 4000000 in
theorem c_String_isLatin1_140 (E : mm_E) (M : mm_M) : ∀ (r : Bool) (M2 : mm_M), f_String_isLatin1_140 M = some (r, M2) → mm_P E Y_J0_isLatin1_aae02 1 [.ref 140] M (some (.int (mm_b r))) M2 := by
  refine mm_entry (em := (fun x : Bool => some (.int (mm_b x)))) (by decide +kernel) (Nat.le_of_ble_eq_true rfl) ?_
  show mm_G _ E _ _ 0 [(0, .ref 140)] [] M _
  unfold f_String_isLatin1_140
  refine mm_gets dJ0_isLatin1_aae02_0 wf_RJ0_38 ?_
  refine mm_if_eq 17 dJ0_isLatin1_aae02_3 rfl ?_ ?_
  · refine mm_iconst (v := 0) dJ0_isLatin1_aae02_17 rfl ?_
    exact mm_zret (b := false) dJ0_isLatin1_aae02_18 rfl
  · refine mm_aload_n 0 dJ0_isLatin1_aae02_6 rfl ?_
    refine mm_getSc (j := 0) dJ0_isLatin1_aae02_7 wf_RJ0_15 (by decide) rfl ?_
    refine mm_if_ne 17 dJ0_isLatin1_aae02_10 rfl ?_ ?_
    · refine mm_iconst (v := 0) dJ0_isLatin1_aae02_17 rfl ?_
      exact mm_zret (b := false) dJ0_isLatin1_aae02_18 rfl
    · refine mm_iconst (v := 1) dJ0_isLatin1_aae02_13 rfl ?_
      refine mm_goto 18 dJ0_isLatin1_aae02_14 rfl ?_
      exact mm_zret (b := true) dJ0_isLatin1_aae02_18 rfl
def f_String_coder_140 (M : mm_M) : Option (Int32 × mm_M) := if (1 : Int32) = 0 then some (1, M) else some (0, M)
set_option maxHeartbeats 4000000 in
theorem c_String_coder_140 (E : mm_E) (M : mm_M) : ∀ (r : Int32) (M2 : mm_M), f_String_coder_140 M = some (r, M2) → mm_P E Y_J0_coder_7d493 1 [.ref 140] M (some (.int r)) M2 := by
  refine mm_entry (em := (fun x : Int32 => some (.int x))) (by decide +kernel) (Nat.le_of_ble_eq_true rfl) ?_
  show mm_G _ E _ _ 0 [(0, .ref 140)] [] M _
  unfold f_String_coder_140
  refine mm_gets dJ0_coder_7d493_0 wf_RJ0_38 ?_
  refine mm_if_eq 13 dJ0_coder_7d493_3 rfl ?_ ?_
  · refine mm_iconst (v := 1) dJ0_coder_7d493_13 rfl ?_
    exact mm_nret dJ0_coder_7d493_14 rfl rfl
  · refine mm_aload_n 0 dJ0_coder_7d493_6 rfl ?_
    refine mm_getSc (j := 0) dJ0_coder_7d493_7 wf_RJ0_15 (by decide) rfl ?_
    refine mm_goto 14 dJ0_coder_7d493_10 rfl ?_
    exact mm_nret dJ0_coder_7d493_14 rfl rfl
def f_String_length_140 (M : mm_M) : Option (Int32 × mm_M) := mm_bd (f_String_coder_140 M) fun r_1 M_2 => some (3 >>> (r_1 &&& 31), M_2)
set_option maxHeartbeats 4000000 in
theorem c_String_length_140 (E : mm_E) (M : mm_M) : ∀ (r : Int32) (M2 : mm_M), f_String_length_140 M = some (r, M2) → mm_P E Y_J0_length_8abf5 2 [.ref 140] M (some (.int r)) M2 := by
  refine mm_entry (em := (fun x : Int32 => some (.int x))) (by decide +kernel) (Nat.le_of_ble_eq_true rfl) ?_
  show mm_G _ E _ _ 0 [(0, .ref 140)] [] M _
  unfold f_String_length_140
  refine mm_aload_n 0 dJ0_length_8abf5_0 rfl ?_
  refine mm_getSv (j := 0) dJ0_length_8abf5_1 wf_RJ0_9 (by decide) rfl rfl ?_
  refine mm_alenS (j := 0) (v := 3) dJ0_length_8abf5_4 (by decide) rfl rfl ?_
  refine mm_aload_n 0 dJ0_length_8abf5_5 rfl ?_
  refine mm_callTi (as := []) (st := [.int 3]) (c_String_coder_140 E M) dJ0_length_8abf5_6 mz_J0_coder_7d493 lk_RJ0_335 im_J0_coder_7d493 se_J0_coder_7d493 sl_140 rfl rfl ⟨Nat.le_of_ble_eq_true rfl, Nat.le_of_ble_eq_true rfl⟩ (Nat.le_of_ble_eq_true rfl) (fun r_1 M_2 => ?_)
  refine mm_ishr dJ0_length_8abf5_9 ?_
  exact mm_iret dJ0_length_8abf5_10 rfl
def f_StringLatin1_canEncode (v0 : Int32) (M : mm_M) : Option (Bool × mm_M) := if v0 < 0 then some (false, M) else if 255 < v0 then some (false, M) else some (true, M)
set_option maxHeartbeats 4000000 in
theorem c_StringLatin1_canEncode (E : mm_E) (v0 : Int32) (M : mm_M) : ∀ (r : Bool) (M2 : mm_M), f_StringLatin1_canEncode v0 M = some (r, M2) → mm_P E Y_J1_canEncode_9a6ad 1 [.int v0] M (some (.int (mm_b r))) M2 := by
  refine mm_entry (em := (fun x : Bool => some (.int (mm_b x)))) (by decide +kernel) (Nat.le_of_ble_eq_true rfl) ?_
  show mm_G _ E _ _ 0 [(0, .int v0)] [] M _
  unfold f_StringLatin1_canEncode
  refine mm_iload_n 0 dJ1_canEncode_9a6ad_0 rfl ?_
  refine mm_if_lt 15 dJ1_canEncode_9a6ad_1 rfl ?_ ?_
  · refine mm_iconst (v := 0) dJ1_canEncode_9a6ad_15 rfl ?_
    exact mm_zret (b := false) dJ1_canEncode_9a6ad_16 rfl
  · refine mm_iload_n 0 dJ1_canEncode_9a6ad_4 rfl ?_
    refine mm_sipush (v := 255) dJ1_canEncode_9a6ad_5 rfl ?_
    refine mm_icmp_gt 15 dJ1_canEncode_9a6ad_8 rfl ?_ ?_
    · refine mm_iconst (v := 0) dJ1_canEncode_9a6ad_15 rfl ?_
      exact mm_zret (b := false) dJ1_canEncode_9a6ad_16 rfl
    · refine mm_iconst (v := 1) dJ1_canEncode_9a6ad_11 rfl ?_
      refine mm_goto 16 dJ1_canEncode_9a6ad_12 rfl ?_
      exact mm_zret (b := true) dJ1_canEncode_9a6ad_16 rfl
def f_Math_max (v0 : Int32) (v1 : Int32) (M : mm_M) : Option (Int32 × mm_M) := if v0 < v1 then some (v1, M) else some (v0, M)
set_option maxHeartbeats 4000000 in
theorem c_Math_max (E : mm_E) (v0 : Int32) (v1 : Int32) (M : mm_M) : ∀ (r : Int32) (M2 : mm_M), f_Math_max v0 v1 M = some (r, M2) → mm_P E Y_J9_max_7cf53 1 [.int v0, .int v1] M (some (.int r)) M2 := by
  refine mm_entry (em := (fun x : Int32 => some (.int x))) (by decide +kernel) (Nat.le_of_ble_eq_true rfl) ?_
  show mm_G _ E _ _ 0 [(0, .int v0), (1, .int v1)] [] M _
  unfold f_Math_max
  refine mm_iload_n 0 dJ9_max_7cf53_0 rfl ?_
  refine mm_iload_n 1 dJ9_max_7cf53_1 rfl ?_
  refine mm_icmp_lt 9 dJ9_max_7cf53_2 rfl ?_ ?_
  · refine mm_iload_n 1 dJ9_max_7cf53_9 rfl ?_
    exact mm_iret dJ9_max_7cf53_10 rfl
  · refine mm_iload_n 0 dJ9_max_7cf53_5 rfl ?_
    refine mm_goto 10 dJ9_max_7cf53_6 rfl ?_
    exact mm_iret dJ9_max_7cf53_10 rfl
def lp_StringLatin1_indexOfChar_146_7 (v3 : Int32) (v4 : Int32) (k22 : Int32 → mm_M → Option (Int32 × mm_M)) (k31 : mm_M → Option (Int32 × mm_M)) : Nat → Int32 → mm_M → Option (Int32 × mm_M)
  | 0, _, _ => none
  | n + 1, v5, M => if v3 ≤ v5 then k31 M else if mm_in v5 (mm_len.getD 0 0) = true then if (mm_byt.getD 0 []).getD v5.toNatClampNeg 0 = v4 then k22 v5 M else mm_let (v5 + 1) fun v5_2 => lp_StringLatin1_indexOfChar_146_7 v3 v4 k22 k31 n v5_2 M else none
set_option maxHeartbeats 4000000 in
theorem lp_StringLatin1_indexOfChar_146_7_ok (E : mm_E) (v3 : Int32) (v4 : Int32) {k22 : Int32 → mm_M → Option (Int32 × mm_M)} {k31 : mm_M → Option (Int32 × mm_M)} (hk22 : ∀ (v5 : Int32) (M : mm_M), mm_G (fun x : Int32 => some (.int x)) E Y_J1_indexOfChar_4cfef 1 22 [(5, .int v5)] [] M (k22 v5 M)) (hk31 : ∀ (M : mm_M), mm_G (fun x : Int32 => some (.int x)) E Y_J1_indexOfChar_4cfef 1 31 [] [] M (k31 M)) : ∀ (n : Nat) (v5 : Int32) (M : mm_M), mm_G (fun x : Int32 => some (.int x)) E Y_J1_indexOfChar_4cfef 1 7 [(0, .ref 146), (3, .int v3), (4, .int v4), (5, .int v5)] [] M (lp_StringLatin1_indexOfChar_146_7 v3 v4 k22 k31 n v5 M) := by
  intro n
  induction n with
  | zero => intro v5 M r M2 he; cases he
  | succ n ih =>
    intro v5 M
    rw [lp_StringLatin1_indexOfChar_146_7]
    refine mm_iload 3 dJ1_indexOfChar_4cfef_7 rfl ?_
    refine mm_iload_n 1 dJ1_indexOfChar_4cfef_9 rfl ?_
    refine mm_icmp_ge 31 dJ1_indexOfChar_4cfef_10 rfl ?_ ?_
    · refine mm_wk [] rfl ?_
      exact hk31  M
    · refine mm_aload_n 0 dJ1_indexOfChar_4cfef_13 rfl ?_
      refine mm_iload 3 dJ1_indexOfChar_4cfef_14 rfl ?_
      refine mm_baloadS (j := 0) dJ1_indexOfChar_4cfef_16 (by decide) rfl ?_
      refine mm_iload 2 dJ1_indexOfChar_4cfef_17 rfl ?_
      refine mm_icmp_ne 25 dJ1_indexOfChar_4cfef_19 rfl ?_ ?_
      · refine mm_iincN 3 [1, 2, 3, 0] (v := v5 + 1) (lv2 := fun v5_2 => [(0, .ref 146), (3, .int v3), (4, .int v4), (5, .int v5_2)]) dJ1_indexOfChar_4cfef_25 rfl rfl (by decide) (fun _ => rfl) (fun v5_2 => ?_)
        refine mm_goto 7 dJ1_indexOfChar_4cfef_28 rfl ?_
        exact ih v5_2 M
      · refine mm_wk [3] rfl ?_
        exact hk22 v5 M
def f_StringLatin1_indexOfChar_146 (v1 : Int32) (v2 : Int32) (v3 : Int32) (M : mm_M) : Option (Int32 × mm_M) := mm_let (v1.toInt8.toInt32) fun v4_1 => lp_StringLatin1_indexOfChar_146_7 v3 v4_1 (fun (v5 : Int32) (M_3 : mm_M) => some (v5, M_3)) (fun (M_4 : mm_M) => some ((-1), M_4)) mm_fu v2 M
set_option maxHeartbeats 4000000 in
theorem c_StringLatin1_indexOfChar_146 (E : mm_E) (v1 : Int32) (v2 : Int32) (v3 : Int32) (M : mm_M) : ∀ (r : Int32) (M2 : mm_M), f_StringLatin1_indexOfChar_146 v1 v2 v3 M = some (r, M2) → mm_P E Y_J1_indexOfChar_4cfef 1 [.ref 146, .int v1, .int v2, .int v3] M (some (.int r)) M2 := by
  refine mm_entry (em := (fun x : Int32 => some (.int x))) (by decide +kernel) (Nat.le_of_ble_eq_true rfl) ?_
  show mm_G _ E _ _ 0 [(0, .ref 146), (1, .int v1), (2, .int v2), (3, .int v3)] [] M _
  unfold f_StringLatin1_indexOfChar_146
  refine mm_iload_n 1 dJ1_indexOfChar_4cfef_0 rfl ?_
  refine mm_i2b dJ1_indexOfChar_4cfef_1 ?_
  refine mm_nm_int (fun v4_1 => ?_)
  refine mm_istore [1, 2, 3, 4, 0] (lv2 := [(0, .ref 146), (1, .int v1), (2, .int v2), (3, .int v3), (4, .int v4_1)]) dJ1_indexOfChar_4cfef_2 (by decide) rfl ?_
  refine mm_iload_n 2 dJ1_indexOfChar_4cfef_4 rfl ?_
  refine mm_istore [1, 2, 3, 4, 5, 0] (lv2 := [(0, .ref 146), (1, .int v1), (2, .int v2), (3, .int v3), (4, .int v4_1), (5, .int v2)]) dJ1_indexOfChar_4cfef_5 (by decide) rfl ?_
  refine mm_wk [0, 3, 4, 5] rfl ?_
  refine lp_StringLatin1_indexOfChar_146_7_ok E v3 v4_1 ?_ ?_ mm_fu v2 M
  · intro v5 M_3
    refine mm_iload 0 dJ1_indexOfChar_4cfef_22 rfl ?_
    exact mm_iret dJ1_indexOfChar_4cfef_24 rfl
  · intro M_4
    refine mm_iconst (v := (-1)) dJ1_indexOfChar_4cfef_31 rfl ?_
    exact mm_iret dJ1_indexOfChar_4cfef_32 rfl
def f_StringLatin1_indexOf_146 (v1 : Int32) (v2 : Int32) (v3 : Int32) (M : mm_M) : Option (Int32 × mm_M) := mm_bd (f_StringLatin1_canEncode v1 M) fun b_1 M_2 => if b_1 = true then mm_bd (f_Math_max v2 0 M_2) fun r_3 M_4 => mm_bd (f_Math_min v3 3 M_4) fun r_5 M_6 => if r_3 < r_5 then mm_bd (f_StringLatin1_indexOfChar_146 v1 r_3 r_5 M_6) fun r_7 M_8 => some (r_7, M_8) else some ((-1), M_6) else some ((-1), M_2)
set_option maxHeartbeats 4000000 in
theorem c_StringLatin1_indexOf_146 (E : mm_E) (v1 : Int32) (v2 : Int32) (v3 : Int32) (M : mm_M) : ∀ (r : Int32) (M2 : mm_M), f_StringLatin1_indexOf_146 v1 v2 v3 M = some (r, M2) → mm_P E Y_J1_indexOf_4cfef 2 [.ref 146, .int v1, .int v2, .int v3] M (some (.int r)) M2 := by
  refine mm_entry (em := (fun x : Int32 => some (.int x))) (by decide +kernel) (Nat.le_of_ble_eq_true rfl) ?_
  show mm_G _ E _ _ 0 [(0, .ref 146), (1, .int v1), (2, .int v2), (3, .int v3)] [] M _
  unfold f_StringLatin1_indexOf_146
  refine mm_iload_n 1 dJ1_indexOf_4cfef_0 rfl ?_
  refine mm_callSz (as := [.int v1]) (st := []) (c_StringLatin1_canEncode E v1 M) dJ1_indexOf_4cfef_1 mz_J1_canEncode_9a6ad lk_RJ1_88 sm_J1_canEncode_9a6ad rfl ⟨Nat.le_of_ble_eq_true rfl, Nat.le_of_ble_eq_true rfl⟩ (Nat.le_of_ble_eq_true rfl) (fun b_1 M_2 => ?_)
  refine mm_if_ne_b 9 dJ1_indexOf_4cfef_4 rfl ?_ ?_
  · refine mm_iload_n 2 dJ1_indexOf_4cfef_9 rfl ?_
    refine mm_iconst (v := 0) dJ1_indexOf_4cfef_10 rfl ?_
    refine mm_callSi (as := [.int v2, .int 0]) (st := []) (c_Math_max E v2 0 M_2) dJ1_indexOf_4cfef_11 mz_J9_max_7cf53 lk_RJ1_92 sm_J9_max_7cf53 rfl ⟨Nat.le_of_ble_eq_true rfl, Nat.le_of_ble_eq_true rfl⟩ (Nat.le_of_ble_eq_true rfl) (fun r_3 M_4 => ?_)
    refine mm_istore_n [1, 2, 0, 3] (lv2 := [(0, .ref 146), (1, .int v1), (2, .int r_3), (3, .int v3)]) dJ1_indexOf_4cfef_14 (by decide) rfl ?_
    refine mm_iload_n 3 dJ1_indexOf_4cfef_15 rfl ?_
    refine mm_aload_n 0 dJ1_indexOf_4cfef_16 rfl ?_
    refine mm_alenS (j := 0) (v := 3) dJ1_indexOf_4cfef_17 (by decide) rfl rfl ?_
    refine mm_callSi (as := [.int v3, .int 3]) (st := []) (c_Math_min E v3 3 M_4) dJ1_indexOf_4cfef_18 mz_J9_min_7cf53 lk_RJ1_38 sm_J9_min_7cf53 rfl ⟨Nat.le_of_ble_eq_true rfl, Nat.le_of_ble_eq_true rfl⟩ (Nat.le_of_ble_eq_true rfl) (fun r_5 M_6 => ?_)
    refine mm_istore_n [1, 2, 3, 0] (lv2 := [(0, .ref 146), (1, .int v1), (2, .int r_3), (3, .int r_5)]) dJ1_indexOf_4cfef_21 (by decide) rfl ?_
    refine mm_iload_n 2 dJ1_indexOf_4cfef_22 rfl ?_
    refine mm_iload_n 3 dJ1_indexOf_4cfef_23 rfl ?_
    refine mm_icmp_lt 29 dJ1_indexOf_4cfef_24 rfl ?_ ?_
    · refine mm_aload_n 0 dJ1_indexOf_4cfef_29 rfl ?_
      refine mm_iload_n 1 dJ1_indexOf_4cfef_30 rfl ?_
      refine mm_iload_n 2 dJ1_indexOf_4cfef_31 rfl ?_
      refine mm_iload_n 3 dJ1_indexOf_4cfef_32 rfl ?_
      refine mm_callSi (as := [.ref 146, .int v1, .int r_3, .int r_5]) (st := []) (c_StringLatin1_indexOfChar_146 E v1 r_3 r_5 M_6) dJ1_indexOf_4cfef_33 mz_J1_indexOfChar_4cfef lk_RJ1_95 sm_J1_indexOfChar_4cfef rfl ⟨Nat.le_of_ble_eq_true rfl, Nat.le_of_ble_eq_true rfl⟩ (Nat.le_of_ble_eq_true rfl) (fun r_7 M_8 => ?_)
      exact mm_iret dJ1_indexOf_4cfef_36 rfl
    · refine mm_iconst (v := (-1)) dJ1_indexOf_4cfef_27 rfl ?_
      exact mm_iret dJ1_indexOf_4cfef_28 rfl
  · refine mm_iconst (v := (-1)) dJ1_indexOf_4cfef_7 rfl ?_
    exact mm_iret dJ1_indexOf_4cfef_8 rfl
def f_String_indexOf_2_140 (v1 : Int32) (v2 : Int32) (M : mm_M) : Option (Int32 × mm_M) := mm_bd (f_String_isLatin1_140 M) fun b_1 M_2 => if b_1 = true then mm_bd (f_String_length_140 M_2) fun r_3 M_4 => mm_bd (f_StringLatin1_indexOf_146 v1 v2 r_3 M_4) fun r_5 M_6 => some (r_5, M_6) else none
set_option maxHeartbeats 4000000 in
theorem c_String_indexOf_2_140 (E : mm_E) (v1 : Int32) (v2 : Int32) (M : mm_M) : ∀ (r : Int32) (M2 : mm_M), f_String_indexOf_2_140 v1 v2 M = some (r, M2) → mm_P E Y_J0_indexOf_7cf53 3 [.ref 140, .int v1, .int v2] M (some (.int r)) M2 := by
  refine mm_entry (em := (fun x : Int32 => some (.int x))) (by decide +kernel) (Nat.le_of_ble_eq_true rfl) ?_
  show mm_G _ E _ _ 0 [(0, .ref 140), (1, .int v1), (2, .int v2)] [] M _
  unfold f_String_indexOf_2_140
  refine mm_aload_n 0 dJ0_indexOf_7cf53_0 rfl ?_
  refine mm_callTz (as := []) (st := []) (c_String_isLatin1_140 E M) dJ0_indexOf_7cf53_1 mz_J0_isLatin1_aae02 lk_RJ0_492 im_J0_isLatin1_aae02 se_J0_isLatin1_aae02 sl_140 rfl rfl ⟨Nat.le_of_ble_eq_true rfl, Nat.le_of_ble_eq_true rfl⟩ (Nat.le_of_ble_eq_true rfl) (fun b_1 M_2 => ?_)
  refine mm_if_eq_b 23 dJ0_indexOf_7cf53_4 rfl ?_ ?_
  · exact mm_none
  · refine mm_aload_n 0 dJ0_indexOf_7cf53_7 rfl ?_
    refine mm_getSv (j := 0) dJ0_indexOf_7cf53_8 wf_RJ0_9 (by decide) rfl rfl ?_
    refine mm_iload_n 1 dJ0_indexOf_7cf53_11 rfl ?_
    refine mm_iload_n 2 dJ0_indexOf_7cf53_12 rfl ?_
    refine mm_aload_n 0 dJ0_indexOf_7cf53_13 rfl ?_
    refine mm_callTi (as := []) (st := [.int v2, .int v1, .ref 146]) (c_String_length_140 E M_2) dJ0_indexOf_7cf53_14 mz_J0_length_8abf5 lk_RJ0_505 im_J0_length_8abf5 se_J0_length_8abf5 sl_140 rfl rfl ⟨Nat.le_of_ble_eq_true rfl, Nat.le_of_ble_eq_true rfl⟩ (Nat.le_of_ble_eq_true rfl) (fun r_3 M_4 => ?_)
    refine mm_callSi (as := [.ref 146, .int v1, .int v2, .int r_3]) (st := []) (c_StringLatin1_indexOf_146 E v1 v2 r_3 M_4) dJ0_indexOf_7cf53_17 mz_J1_indexOf_4cfef lk_RJ0_637 sm_J1_indexOf_4cfef rfl ⟨Nat.le_of_ble_eq_true rfl, Nat.le_of_ble_eq_true rfl⟩ (Nat.le_of_ble_eq_true rfl) (fun r_5 M_6 => ?_)
    refine mm_goto 36 dJ0_indexOf_7cf53_20 rfl ?_
    exact mm_iret dJ0_indexOf_7cf53_36 rfl
def f_String_indexOf_1_140 (v1 : Int32) (M : mm_M) : Option (Int32 × mm_M) := mm_bd (f_String_indexOf_2_140 v1 0 M) fun r_1 M_2 => some (r_1, M_2)
set_option maxHeartbeats 4000000 in
theorem c_String_indexOf_1_140 (E : mm_E) (v1 : Int32) (M : mm_M) : ∀ (r : Int32) (M2 : mm_M), f_String_indexOf_1_140 v1 M = some (r, M2) → mm_P E Y_J0_indexOf_0f7a4 4 [.ref 140, .int v1] M (some (.int r)) M2 := by
  refine mm_entry (em := (fun x : Int32 => some (.int x))) (by decide +kernel) (Nat.le_of_ble_eq_true rfl) ?_
  show mm_G _ E _ _ 0 [(0, .ref 140), (1, .int v1)] [] M _
  unfold f_String_indexOf_1_140
  refine mm_aload_n 0 dJ0_indexOf_0f7a4_0 rfl ?_
  refine mm_iload_n 1 dJ0_indexOf_0f7a4_1 rfl ?_
  refine mm_iconst (v := 0) dJ0_indexOf_0f7a4_2 rfl ?_
  refine mm_callTi (as := [.int v1, .int 0]) (st := []) (c_String_indexOf_2_140 E v1 0 M) dJ0_indexOf_0f7a4_3 mz_J0_indexOf_7cf53 lk_RJ0_633 im_J0_indexOf_7cf53 se_J0_indexOf_7cf53 sl_140 rfl rfl ⟨Nat.le_of_ble_eq_true rfl, Nat.le_of_ble_eq_true rfl⟩ (Nat.le_of_ble_eq_true rfl) (fun r_1 M_2 => ?_)
  exact mm_iret dJ0_indexOf_0f7a4_6 rfl
def f_TextReader_among_140 (M : mm_M) : Option (Int32 × mm_M) := mm_bd (f_TextReader_atEnd M) fun b_1 M_2 => if b_1 = true then some ((-1), M_2) else mm_bd (f_String_indexOf_1_140 (((M_2.1 3 3).toUInt32 % 65536).toInt32) M_2) fun r_3 M_4 => some (r_3, M_4)
set_option maxHeartbeats 4000000 in
theorem c_TextReader_among_140 (E : mm_E) (M : mm_M) : ∀ (r : Int32) (M2 : mm_M), f_TextReader_among_140 M = some (r, M2) → mm_P E Y_X10_among 5 [.ref 3, .ref 140] M (some (.int r)) M2 := by
  refine mm_entry (em := (fun x : Int32 => some (.int x))) (by decide +kernel) (Nat.le_of_ble_eq_true rfl) ?_
  show mm_G _ E _ _ 0 [(0, .ref 3), (1, .ref 140)] [] M _
  unfold f_TextReader_among_140
  refine mm_aload_n 0 dX10_among_0 rfl ?_
  refine mm_callVz (as := []) (st := []) (c_TextReader_atEnd E M) dX10_among_1 mz_X10_atEnd lk_RX10_48 im_X10_atEnd se_X10_atEnd lo_3 rfl rfl rfl ⟨Nat.le_of_ble_eq_true rfl, Nat.le_of_ble_eq_true rfl⟩ (Nat.le_of_ble_eq_true rfl) (fun b_1 M_2 => ?_)
  refine mm_if_eq_b 11 dX10_among_4 rfl ?_ ?_
  · refine mm_aload_n 1 dX10_among_11 rfl ?_
    refine mm_aload_n 0 dX10_among_12 rfl ?_
    refine mm_getI dX10_among_13 fl_RX10_41 lo_3 rfl ?_
    refine mm_i2c dX10_among_16 ?_
    refine mm_callTi (as := [.int (((M_2.1 3 3).toUInt32 % 65536).toInt32)]) (st := []) (c_String_indexOf_1_140 E (((M_2.1 3 3).toUInt32 % 65536).toInt32) M_2) dX10_among_17 mz_J0_indexOf_0f7a4 lk_RX10_52 im_J0_indexOf_0f7a4 se_J0_indexOf_0f7a4 sl_140 rfl rfl ⟨Nat.le_of_ble_eq_true rfl, Nat.le_of_ble_eq_true rfl⟩ (Nat.le_of_ble_eq_true rfl) (fun r_3 M_4 => ?_)
    exact mm_iret dX10_among_20 rfl
  · refine mm_iconst (v := (-1)) dX10_among_7 rfl ?_
    refine mm_goto 20 dX10_among_8 rfl ?_
    exact mm_iret dX10_among_20 rfl
def f_TextReader_atDigit (M : mm_M) : Option (Bool × mm_M) := if M.1 3 3 < 48 then some (false, M) else if 57 < M.1 3 3 then some (false, M) else some (true, M)
set_option maxHeartbeats 4000000 in
theorem c_TextReader_atDigit (E : mm_E) (M : mm_M) : ∀ (r : Bool) (M2 : mm_M), f_TextReader_atDigit M = some (r, M2) → mm_P E Y_X10_atDigit 1 [.ref 3] M (some (.int (mm_b r))) M2 := by
  refine mm_entry (em := (fun x : Bool => some (.int (mm_b x)))) (by decide +kernel) (Nat.le_of_ble_eq_true rfl) ?_
  show mm_G _ E _ _ 0 [(0, .ref 3)] [] M _
  unfold f_TextReader_atDigit
  refine mm_aload_n 0 dX10_atDigit_0 rfl ?_
  refine mm_getI dX10_atDigit_1 fl_RX10_41 lo_3 rfl ?_
  refine mm_bipush (v := 48) dX10_atDigit_4 rfl ?_
  refine mm_icmp_lt 22 dX10_atDigit_6 rfl ?_ ?_
  · refine mm_iconst (v := 0) dX10_atDigit_22 rfl ?_
    exact mm_zret (b := false) dX10_atDigit_23 rfl
  · refine mm_aload_n 0 dX10_atDigit_9 rfl ?_
    refine mm_getI dX10_atDigit_10 fl_RX10_41 lo_3 rfl ?_
    refine mm_bipush (v := 57) dX10_atDigit_13 rfl ?_
    refine mm_icmp_gt 22 dX10_atDigit_15 rfl ?_ ?_
    · refine mm_iconst (v := 0) dX10_atDigit_22 rfl ?_
      exact mm_zret (b := false) dX10_atDigit_23 rfl
    · refine mm_iconst (v := 1) dX10_atDigit_18 rfl ?_
      refine mm_goto 23 dX10_atDigit_19 rfl ?_
      exact mm_zret (b := true) dX10_atDigit_23 rfl
def f_TextReader_failHere (v1 : Int32) (M : mm_M) : Option (Bool × mm_M) := mm_let (mm_setI M 3 4 (((-1000) * v1) - (M.1 3 2))) fun M_1 => some (false, M_1)
set_option maxHeartbeats 4000000 in
theorem c_TextReader_failHere (E : mm_E) (v1 : Int32) (M : mm_M) : ∀ (r : Bool) (M2 : mm_M), f_TextReader_failHere v1 M = some (r, M2) → mm_P E Y_X10_failHere 1 [.ref 3, .int v1] M (some (.int (mm_b r))) M2 := by
  refine mm_entry (em := (fun x : Bool => some (.int (mm_b x)))) (by decide +kernel) (Nat.le_of_ble_eq_true rfl) ?_
  show mm_G _ E _ _ 0 [(0, .ref 3), (1, .int v1)] [] M _
  unfold f_TextReader_failHere
  refine mm_aload_n 0 dX10_failHere_0 rfl ?_
  refine mm_sipush (v := (-1000)) dX10_failHere_1 rfl ?_
  refine mm_iload_n 1 dX10_failHere_4 rfl ?_
  refine mm_imul dX10_failHere_5 ?_
  refine mm_aload_n 0 dX10_failHere_6 rfl ?_
  refine mm_getI dX10_failHere_7 fl_RX10_28 lo_3 rfl ?_
  refine mm_isub dX10_failHere_10 ?_
  refine mm_putI dX10_failHere_11 fp_RX10_31 lo_3 rfl ?_
  refine mm_nm_M (fun M_1 => ?_)
  refine mm_iconst (v := 0) dX10_failHere_14 rfl ?_
  exact mm_zret (b := false) dX10_failHere_15 rfl
def lp_TextReader_number_19 (v1 : Int32) (k54 : Int32 → mm_M → Option (Int32 × mm_M)) : Nat → Int32 → Int32 → mm_M → Option (Int32 × mm_M)
  | 0, _, _, _ => none
  | n + 1, v2, v3, M => if v1 ≤ v3 then k54 v2 M else mm_bd (f_TextReader_atDigit M) fun b_3 M_4 => if b_3 = true then mm_let (((10 * v2) + (M_4.1 3 3)) - 48) fun v2_5 => mm_bd (f_TextReader_step M_4) fun u_6 M_7 => mm_let (v3 + 1) fun v3_8 => lp_TextReader_number_19 v1 k54 n v2_5 v3_8 M_7 else k54 v2 M_4
set_option maxHeartbeats 4000000 in
theorem lp_TextReader_number_19_ok (E : mm_E) (v1 : Int32) {k54 : Int32 → mm_M → Option (Int32 × mm_M)} (hk54 : ∀ (v2 : Int32) (M : mm_M), mm_G (fun x : Int32 => some (.int x)) E Y_X10_number 2 54 [(2, .int v2)] [] M (k54 v2 M)) : ∀ (n : Nat) (v2 : Int32) (v3 : Int32) (M : mm_M), mm_G (fun x : Int32 => some (.int x)) E Y_X10_number 2 19 [(0, .ref 3), (1, .int v1), (2, .int v2), (3, .int v3)] [] M (lp_TextReader_number_19 v1 k54 n v2 v3 M) := by
  intro n
  induction n with
  | zero => intro v2 v3 M r M2 he; cases he
  | succ n ih =>
    intro v2 v3 M
    rw [lp_TextReader_number_19]
    refine mm_iload_n 3 dX10_number_19 rfl ?_
    refine mm_iload_n 1 dX10_number_20 rfl ?_
    refine mm_icmp_ge 54 dX10_number_21 rfl ?_ ?_
    · refine mm_wk [2] rfl ?_
      exact hk54 v2 M
    · refine mm_aload_n 0 dX10_number_24 rfl ?_
      refine mm_callVz (as := []) (st := []) (c_TextReader_atDigit E M) dX10_number_25 mz_X10_atDigit lk_RX10_58 im_X10_atDigit se_X10_atDigit lo_3 rfl rfl rfl ⟨Nat.le_of_ble_eq_true rfl, Nat.le_of_ble_eq_true rfl⟩ (Nat.le_of_ble_eq_true rfl) (fun b_3 M_4 => ?_)
      refine mm_if_eq_b 54 dX10_number_28 rfl ?_ ?_
      · refine mm_wk [2] rfl ?_
        exact hk54 v2 M_4
      · refine mm_bipush (v := 10) dX10_number_31 rfl ?_
        refine mm_iload_n 2 dX10_number_33 rfl ?_
        refine mm_imul dX10_number_34 ?_
        refine mm_aload_n 0 dX10_number_35 rfl ?_
        refine mm_getI dX10_number_36 fl_RX10_41 lo_3 rfl ?_
        refine mm_iadd dX10_number_39 ?_
        refine mm_bipush (v := 48) dX10_number_40 rfl ?_
        refine mm_isub dX10_number_42 ?_
        refine mm_nm_int (fun v2_5 => ?_)
        refine mm_istore_n [1, 2, 0, 3] (lv2 := [(0, .ref 3), (1, .int v1), (2, .int v2_5), (3, .int v3)]) dX10_number_43 (by decide) rfl ?_
        refine mm_aload_n 0 dX10_number_44 rfl ?_
        refine mm_callVv (as := []) (st := []) (c_TextReader_step E M_4) dX10_number_45 mz_X10_step lk_RX10_34 im_X10_step se_X10_step lo_3 rfl rfl rfl ⟨Nat.le_of_ble_eq_true rfl, Nat.le_of_ble_eq_true rfl⟩ (Nat.le_of_ble_eq_true rfl) (fun u_6 M_7 => ?_)
        refine mm_iincN 3 [1, 2, 3, 0] (v := v3 + 1) (lv2 := fun v3_8 => [(0, .ref 3), (1, .int v1), (2, .int v2_5), (3, .int v3_8)]) dX10_number_48 rfl rfl (by decide) (fun _ => rfl) (fun v3_8 => ?_)
        refine mm_goto 19 dX10_number_51 rfl ?_
        exact ih v2_5 v3_8 M_7
def f_TextReader_number (v1 : Int32) (M : mm_M) : Option (Int32 × mm_M) := mm_bd (f_TextReader_atDigit M) fun b_1 M_2 => if b_1 = true then lp_TextReader_number_19 v1 (fun (v2 : Int32) (M_9 : mm_M) => some (v2, M_9)) mm_fu 0 0 M_2 else mm_bd (f_TextReader_failHere 1 M_2) fun b_10 M_11 => some ((-1), M_11)
set_option maxHeartbeats 4000000 in
theorem c_TextReader_number (E : mm_E) (v1 : Int32) (M : mm_M) : ∀ (r : Int32) (M2 : mm_M), f_TextReader_number v1 M = some (r, M2) → mm_P E Y_X10_number 2 [.ref 3, .int v1] M (some (.int r)) M2 := by
  refine mm_entry (em := (fun x : Int32 => some (.int x))) (by decide +kernel) (Nat.le_of_ble_eq_true rfl) ?_
  show mm_G _ E _ _ 0 [(0, .ref 3), (1, .int v1)] [] M _
  unfold f_TextReader_number
  refine mm_aload_n 0 dX10_number_0 rfl ?_
  refine mm_callVz (as := []) (st := []) (c_TextReader_atDigit E M) dX10_number_1 mz_X10_atDigit lk_RX10_58 im_X10_atDigit se_X10_atDigit lo_3 rfl rfl rfl ⟨Nat.le_of_ble_eq_true rfl, Nat.le_of_ble_eq_true rfl⟩ (Nat.le_of_ble_eq_true rfl) (fun b_1 M_2 => ?_)
  refine mm_if_ne_b 15 dX10_number_4 rfl ?_ ?_
  · refine mm_iconst (v := 0) dX10_number_15 rfl ?_
    refine mm_istore_n [1, 2, 0] (lv2 := [(0, .ref 3), (1, .int v1), (2, .int 0)]) dX10_number_16 (by decide) rfl ?_
    refine mm_iconst (v := 0) dX10_number_17 rfl ?_
    refine mm_istore_n [1, 2, 3, 0] (lv2 := [(0, .ref 3), (1, .int v1), (2, .int 0), (3, .int 0)]) dX10_number_18 (by decide) rfl ?_
    refine lp_TextReader_number_19_ok E v1 ?_ mm_fu 0 0 M_2
    · intro v2 M_9
      refine mm_iload_n 0 dX10_number_54 rfl ?_
      exact mm_iret dX10_number_55 rfl
  · refine mm_aload_n 0 dX10_number_7 rfl ?_
    refine mm_iconst (v := 1) dX10_number_8 rfl ?_
    refine mm_callVz (as := [.int 1]) (st := []) (c_TextReader_failHere E 1 M_2) dX10_number_9 mz_X10_failHere lk_RX10_44 im_X10_failHere se_X10_failHere lo_3 rfl rfl rfl ⟨Nat.le_of_ble_eq_true rfl, Nat.le_of_ble_eq_true rfl⟩ (Nat.le_of_ble_eq_true rfl) (fun b_10 M_11 => ?_)
    refine mm_pop dX10_number_12 rfl ?_
    refine mm_iconst (v := (-1)) dX10_number_13 rfl ?_
    exact mm_iret dX10_number_14 rfl
def f_TextReader_take (v1 : Int32) (M : mm_M) : Option (Bool × mm_M) := if M.1 3 3 = v1 then mm_bd (f_TextReader_step M) fun u_1 M_2 => some (true, M_2) else mm_bd (f_TextReader_failHere 1 M) fun b_3 M_4 => some (b_3, M_4)
set_option maxHeartbeats 4000000 in
theorem c_TextReader_take (E : mm_E) (v1 : Int32) (M : mm_M) : ∀ (r : Bool) (M2 : mm_M), f_TextReader_take v1 M = some (r, M2) → mm_P E Y_X10_take 2 [.ref 3, .int v1] M (some (.int (mm_b r))) M2 := by
  refine mm_entry (em := (fun x : Bool => some (.int (mm_b x)))) (by decide +kernel) (Nat.le_of_ble_eq_true rfl) ?_
  show mm_G _ E _ _ 0 [(0, .ref 3), (1, .int v1)] [] M _
  unfold f_TextReader_take
  refine mm_aload_n 0 dX10_take_0 rfl ?_
  refine mm_getI dX10_take_1 fl_RX10_41 lo_3 rfl ?_
  refine mm_iload_n 1 dX10_take_4 rfl ?_
  refine mm_icmp_eq 14 dX10_take_5 rfl ?_ ?_
  · refine mm_aload_n 0 dX10_take_14 rfl ?_
    refine mm_callVv (as := []) (st := []) (c_TextReader_step E M) dX10_take_15 mz_X10_step lk_RX10_34 im_X10_step se_X10_step lo_3 rfl rfl rfl ⟨Nat.le_of_ble_eq_true rfl, Nat.le_of_ble_eq_true rfl⟩ (Nat.le_of_ble_eq_true rfl) (fun u_1 M_2 => ?_)
    refine mm_iconst (v := 1) dX10_take_18 rfl ?_
    exact mm_zret (b := true) dX10_take_19 rfl
  · refine mm_aload_n 0 dX10_take_8 rfl ?_
    refine mm_iconst (v := 1) dX10_take_9 rfl ?_
    refine mm_callVz (as := [.int 1]) (st := []) (c_TextReader_failHere E 1 M) dX10_take_10 mz_X10_failHere lk_RX10_44 im_X10_failHere se_X10_failHere lo_3 rfl rfl rfl ⟨Nat.le_of_ble_eq_true rfl, Nat.le_of_ble_eq_true rfl⟩ (Nat.le_of_ble_eq_true rfl) (fun b_3 M_4 => ?_)
    exact mm_zret (b := b_3) dX10_take_13 rfl
def f_TextReader_failAt (v1 : Int32) (v2 : Int32) (M : mm_M) : Option (Unit × mm_M) := mm_let (mm_setI M 3 4 (((-1000) * v1) - v2)) fun M_1 => some ((), M_1)
set_option maxHeartbeats 4000000 in
theorem c_TextReader_failAt (E : mm_E) (v1 : Int32) (v2 : Int32) (M : mm_M) : ∀ (r : Unit) (M2 : mm_M), f_TextReader_failAt v1 v2 M = some (r, M2) → mm_P E Y_X10_failAt 1 [.ref 3, .int v1, .int v2] M none M2 := by
  refine mm_entry (em := (fun _ : Unit => none)) (by decide +kernel) (Nat.le_of_ble_eq_true rfl) ?_
  show mm_G _ E _ _ 0 [(0, .ref 3), (1, .int v1), (2, .int v2)] [] M _
  unfold f_TextReader_failAt
  refine mm_aload_n 0 dX10_failAt_0 rfl ?_
  refine mm_sipush (v := (-1000)) dX10_failAt_1 rfl ?_
  refine mm_iload_n 1 dX10_failAt_4 rfl ?_
  refine mm_imul dX10_failAt_5 ?_
  refine mm_iload_n 2 dX10_failAt_6 rfl ?_
  refine mm_isub dX10_failAt_7 ?_
  refine mm_putI dX10_failAt_8 fp_RX10_31 lo_3 rfl ?_
  refine mm_nm_M (fun M_1 => ?_)
  exact mm_vret dX10_failAt_11 rfl
def f_Days_readHour (v1 : Int32) (v2 : Int32) (M : mm_M) : Option (Int32 × mm_M) := mm_let (M.1 3 2) fun v3_1 => mm_bd (f_TextReader_number 2 M) fun r_2 M_3 => if r_2 = (-1) then some (r_2, M_3) else mm_jn (fun (v3 : Int32) (M_4 : mm_M) => mm_bd (f_TextReader_failAt 3 v3 M_4) fun u_5 M_6 => some ((-1), M_6)) fun j36 => if r_2 < v1 then j36 v3_1 M_3 else if r_2 ≤ v2 then some (r_2, M_3) else j36 v3_1 M_3
set_option maxHeartbeats 4000000 in
theorem c_Days_readHour (E : mm_E) (v1 : Int32) (v2 : Int32) (M : mm_M) : ∀ (r : Int32) (M2 : mm_M), f_Days_readHour v1 v2 M = some (r, M2) → mm_P E Y_X1_readHour 3 [.ref 4, .int v1, .int v2] M (some (.int r)) M2 := by
  refine mm_entry (em := (fun x : Int32 => some (.int x))) (by decide +kernel) (Nat.le_of_ble_eq_true rfl) ?_
  show mm_G _ E _ _ 0 [(0, .ref 4), (1, .int v1), (2, .int v2)] [] M _
  unfold f_Days_readHour
  refine mm_aload_n 0 dX1_readHour_0 rfl ?_
  refine mm_getR 3 dX1_readHour_1 fl_RX1_29 lo_4 rfl ?_
  refine mm_getI dX1_readHour_4 fl_RX1_102 lo_3 rfl ?_
  refine mm_nm_int (fun v3_1 => ?_)
  refine mm_istore_n [1, 2, 3, 0] (lv2 := [(0, .ref 4), (1, .int v1), (2, .int v2), (3, .int v3_1)]) dX1_readHour_7 (by decide) rfl ?_
  refine mm_aload_n 0 dX1_readHour_8 rfl ?_
  refine mm_getR 3 dX1_readHour_9 fl_RX1_29 lo_4 rfl ?_
  refine mm_iconst (v := 2) dX1_readHour_12 rfl ?_
  refine mm_callVi (as := [.int 2]) (st := []) (c_TextReader_number E 2 M) dX1_readHour_13 mz_X10_number lk_RX1_90 im_X10_number se_X10_number lo_3 rfl rfl rfl ⟨Nat.le_of_ble_eq_true rfl, Nat.le_of_ble_eq_true rfl⟩ (Nat.le_of_ble_eq_true rfl) (fun r_2 M_3 => ?_)
  refine mm_istore [1, 2, 3, 4, 0] (lv2 := [(0, .ref 4), (1, .int v1), (2, .int v2), (3, .int v3_1), (4, .int r_2)]) dX1_readHour_16 (by decide) rfl ?_
  refine mm_iload 4 dX1_readHour_18 rfl ?_
  refine mm_iconst (v := (-1)) dX1_readHour_20 rfl ?_
  refine mm_icmp_eq 47 dX1_readHour_21 rfl ?_ ?_
  · refine mm_iload 4 dX1_readHour_47 rfl ?_
    exact mm_iret dX1_readHour_49 rfl
  · refine mm_iload 4 dX1_readHour_24 rfl ?_
    refine mm_iload_n 1 dX1_readHour_26 rfl ?_
    refine mm_jnP (P := fun j => ∀ (v3 : Int32) (M : mm_M), mm_G (fun x : Int32 => some (.int x)) E Y_X1_readHour 3 36 [(0, .ref 4), (3, .int v3)] [] M (j v3 M)) ?_ (fun j36 hj36 => ?_)
    · intro v3 M_4
      refine mm_aload_n 0 dX1_readHour_36 rfl ?_
      refine mm_getR 3 dX1_readHour_37 fl_RX1_29 lo_4 rfl ?_
      refine mm_iconst (v := 3) dX1_readHour_40 rfl ?_
      refine mm_iload_n 1 dX1_readHour_41 rfl ?_
      refine mm_callVv (as := [.int 3, .int v3]) (st := []) (c_TextReader_failAt E 3 v3 M_4) dX1_readHour_42 mz_X10_failAt lk_RX1_105 im_X10_failAt se_X10_failAt lo_3 rfl rfl rfl ⟨Nat.le_of_ble_eq_true rfl, Nat.le_of_ble_eq_true rfl⟩ (Nat.le_of_ble_eq_true rfl) (fun u_5 M_6 => ?_)
      refine mm_iconst (v := (-1)) dX1_readHour_45 rfl ?_
      exact mm_iret dX1_readHour_46 rfl
    refine mm_icmp_lt 36 dX1_readHour_27 rfl ?_ ?_
    · refine mm_wk [0, 3] rfl ?_
      exact hj36 v3_1 M_3
    · refine mm_iload 4 dX1_readHour_30 rfl ?_
      refine mm_iload_n 2 dX1_readHour_32 rfl ?_
      refine mm_icmp_le 47 dX1_readHour_33 rfl ?_ ?_
      · refine mm_iload 4 dX1_readHour_47 rfl ?_
        exact mm_iret dX1_readHour_49 rfl
      · refine mm_wk [0, 3] rfl ?_
        exact hj36 v3_1 M_3
def lp_Days_readPart_144 (v2 : Int32) (v3 : Int32) (v5 : Int32) (k183 : mm_M → Option (Bool × mm_M)) : Nat → Int32 → mm_M → Option (Bool × mm_M)
  | 0, _, _ => none
  | n + 1, v6, M => if (v2 * 24) + v5 ≤ v6 then k183 M else if mm_in v6 (mm_al 18) = true then mm_bd (f_Math_min 99 ((M.2.1 18 v6.toNatClampNeg) + v3) M) fun r_18 M_19 => if mm_in v6 (mm_al 18) = true then mm_let (mm_setA M_19 18 (v6.toNatClampNeg) r_18) fun M_20 => mm_let (v6 + 1) fun v6_21 => lp_Days_readPart_144 v2 v3 v5 k183 n v6_21 M_20 else none else none
set_option maxHeartbeats 4000000 in
theorem lp_Days_readPart_144_ok (E : mm_E) (v2 : Int32) (v3 : Int32) (v5 : Int32) {k183 : mm_M → Option (Bool × mm_M)} (hk183 : ∀ (M : mm_M), mm_G (fun x : Bool => some (.int (mm_b x))) E Y_X1_readPart 6 183 [] [] M (k183 M)) : ∀ (n : Nat) (v6 : Int32) (M : mm_M), mm_G (fun x : Bool => some (.int (mm_b x))) E Y_X1_readPart 6 144 [(0, .ref 4), (2, .int v2), (3, .int v3), (5, .int v5), (6, .int v6)] [] M (lp_Days_readPart_144 v2 v3 v5 k183 n v6 M) := by
  intro n
  induction n with
  | zero => intro v6 M r M2 he; cases he
  | succ n ih =>
    intro v6 M
    rw [lp_Days_readPart_144]
    refine mm_iload 4 dX1_readPart_144 rfl ?_
    refine mm_iload_n 1 dX1_readPart_146 rfl ?_
    refine mm_bipush (v := 24) dX1_readPart_147 rfl ?_
    refine mm_imul dX1_readPart_149 ?_
    refine mm_iload 3 dX1_readPart_150 rfl ?_
    refine mm_iadd dX1_readPart_152 ?_
    refine mm_icmp_ge 183 dX1_readPart_153 rfl ?_ ?_
    · refine mm_wk [] rfl ?_
      exact hk183  M
    · refine mm_aload_n 0 dX1_readPart_156 rfl ?_
      refine mm_getR 18 dX1_readPart_157 fl_RX1_16 lo_4 rfl ?_
      refine mm_iload 4 dX1_readPart_160 rfl ?_
      refine mm_bipush (v := 99) dX1_readPart_162 rfl ?_
      refine mm_aload_n 0 dX1_readPart_164 rfl ?_
      refine mm_getR 18 dX1_readPart_165 fl_RX1_16 lo_4 rfl ?_
      refine mm_iload 4 dX1_readPart_168 rfl ?_
      refine mm_iaload dX1_readPart_170 ?_
      refine mm_iload_n 2 dX1_readPart_171 rfl ?_
      refine mm_iadd dX1_readPart_172 ?_
      refine mm_callSi (as := [.int 99, .int ((M.2.1 18 v6.toNatClampNeg) + v3)]) (st := [.int v6, .ref 18]) (c_Math_min E 99 ((M.2.1 18 v6.toNatClampNeg) + v3) M) dX1_readPart_173 mz_J9_min_7cf53 lk_RX1_97 sm_J9_min_7cf53 rfl ⟨Nat.le_of_ble_eq_true rfl, Nat.le_of_ble_eq_true rfl⟩ (Nat.le_of_ble_eq_true rfl) (fun r_18 M_19 => ?_)
      refine mm_iastore dX1_readPart_176 ?_
      refine mm_nm_M (fun M_20 => ?_)
      refine mm_iincN 4 [1, 2, 3, 4, 0] (v := v6 + 1) (lv2 := fun v6_21 => [(0, .ref 4), (2, .int v2), (3, .int v3), (5, .int v5), (6, .int v6_21)]) dX1_readPart_177 rfl rfl (by decide) (fun _ => rfl) (fun v6_21 => ?_)
      refine mm_goto 144 dX1_readPart_180 rfl ?_
      exact ih v6_21 M_20
def f_Days_readPart (v1 : Int32) (M : mm_M) : Option (Bool × mm_M) := mm_bd (f_TextReader_among_140 M) fun r_1 M_2 => if r_1 = (-1) then mm_bd (f_TextReader_failHere 1 M_2) fun b_25 M_26 => some (b_25, M_26) else if v1 < 14 then mm_bd (f_TextReader_step M_2) fun u_3 M_4 => mm_bd (f_TextReader_number 2 M_4) fun r_5 M_6 => if r_5 = (-1) then some (false, M_6) else mm_bd (f_TextReader_take 40 M_6) fun b_7 M_8 => if b_7 = true then mm_bd (f_Days_readHour 0 23 M_8) fun r_9 M_10 => if r_9 = (-1) then some (false, M_10) else mm_bd (f_TextReader_take 45 M_10) fun b_11 M_12 => if b_11 = true then mm_bd (f_Days_readHour (r_9 + 1) 24 M_12) fun r_13 M_14 => if r_13 = (-1) then some (false, M_14) else mm_bd (f_TextReader_take 41 M_14) fun b_15 M_16 => if b_15 = true then mm_let ((r_1 * 24) + r_9) fun v6_17 => lp_Days_readPart_144 r_1 r_5 r_13 (fun (M_22 : mm_M) => some (true, M_22)) mm_fu v6_17 M_16 else some (false, M_16) else some (false, M_12) else some (false, M_8) else mm_bd (f_TextReader_failHere 4 M_2) fun b_23 M_24 => some (b_23, M_24)
set_option maxHeartbeats 4000000 in
theorem c_Days_readPart (E : mm_E) (v1 : Int32) (M : mm_M) : ∀ (r : Bool) (M2 : mm_M), f_Days_readPart v1 M = some (r, M2) → mm_P E Y_X1_readPart 6 [.ref 4, .int v1] M (some (.int (mm_b r))) M2 := by
  refine mm_entry (em := (fun x : Bool => some (.int (mm_b x)))) (by decide +kernel) (Nat.le_of_ble_eq_true rfl) ?_
  show mm_G _ E _ _ 0 [(0, .ref 4), (1, .int v1)] [] M _
  unfold f_Days_readPart
  refine mm_aload_n 0 dX1_readPart_0 rfl ?_
  refine mm_getR 3 dX1_readPart_1 fl_RX1_29 lo_4 rfl ?_
  refine mm_ldcT (t := 140) dX1_readPart_4 ss_0 rfl ?_
  refine mm_callVi (as := [.ref 140]) (st := []) (c_TextReader_among_140 E M) dX1_readPart_6 mz_X10_among lk_RX1_80 im_X10_among se_X10_among lo_3 rfl rfl rfl ⟨Nat.le_of_ble_eq_true rfl, Nat.le_of_ble_eq_true rfl⟩ (Nat.le_of_ble_eq_true rfl) (fun r_1 M_2 => ?_)
  refine mm_istore_n [1, 2, 0] (lv2 := [(0, .ref 4), (1, .int v1), (2, .int r_1)]) dX1_readPart_9 (by decide) rfl ?_
  refine mm_iload_n 2 dX1_readPart_10 rfl ?_
  refine mm_iconst (v := (-1)) dX1_readPart_11 rfl ?_
  refine mm_icmp_ne 24 dX1_readPart_12 rfl ?_ ?_
  · refine mm_iload_n 1 dX1_readPart_24 rfl ?_
    refine mm_bipush (v := 14) dX1_readPart_25 rfl ?_
    refine mm_icmp_lt 39 dX1_readPart_27 rfl ?_ ?_
    · refine mm_aload_n 0 dX1_readPart_39 rfl ?_
      refine mm_getR 3 dX1_readPart_40 fl_RX1_29 lo_4 rfl ?_
      refine mm_callVv (as := []) (st := []) (c_TextReader_step E M_2) dX1_readPart_43 mz_X10_step lk_RX1_87 im_X10_step se_X10_step lo_3 rfl rfl rfl ⟨Nat.le_of_ble_eq_true rfl, Nat.le_of_ble_eq_true rfl⟩ (Nat.le_of_ble_eq_true rfl) (fun u_3 M_4 => ?_)
      refine mm_aload_n 0 dX1_readPart_46 rfl ?_
      refine mm_getR 3 dX1_readPart_47 fl_RX1_29 lo_4 rfl ?_
      refine mm_iconst (v := 2) dX1_readPart_50 rfl ?_
      refine mm_callVi (as := [.int 2]) (st := []) (c_TextReader_number E 2 M_4) dX1_readPart_51 mz_X10_number lk_RX1_90 im_X10_number se_X10_number lo_3 rfl rfl rfl ⟨Nat.le_of_ble_eq_true rfl, Nat.le_of_ble_eq_true rfl⟩ (Nat.le_of_ble_eq_true rfl) (fun r_5 M_6 => ?_)
      refine mm_istore_n [1, 2, 3, 0] (lv2 := [(0, .ref 4), (1, .int v1), (2, .int r_1), (3, .int r_5)]) dX1_readPart_54 (by decide) rfl ?_
      refine mm_iload_n 3 dX1_readPart_55 rfl ?_
      refine mm_iconst (v := (-1)) dX1_readPart_56 rfl ?_
      refine mm_icmp_eq 72 dX1_readPart_57 rfl ?_ ?_
      · refine mm_iconst (v := 0) dX1_readPart_72 rfl ?_
        exact mm_zret (b := false) dX1_readPart_73 rfl
      · refine mm_aload_n 0 dX1_readPart_60 rfl ?_
        refine mm_getR 3 dX1_readPart_61 fl_RX1_29 lo_4 rfl ?_
        refine mm_bipush (v := 40) dX1_readPart_64 rfl ?_
        refine mm_callVz (as := [.int 40]) (st := []) (c_TextReader_take E 40 M_6) dX1_readPart_66 mz_X10_take lk_RX1_74 im_X10_take se_X10_take lo_3 rfl rfl rfl ⟨Nat.le_of_ble_eq_true rfl, Nat.le_of_ble_eq_true rfl⟩ (Nat.le_of_ble_eq_true rfl) (fun b_7 M_8 => ?_)
        refine mm_if_ne_b 74 dX1_readPart_69 rfl ?_ ?_
        · refine mm_aload_n 0 dX1_readPart_74 rfl ?_
          refine mm_iconst (v := 0) dX1_readPart_75 rfl ?_
          refine mm_bipush (v := 23) dX1_readPart_76 rfl ?_
          refine mm_callVi (as := [.int 0, .int 23]) (st := []) (c_Days_readHour E 0 23 M_8) dX1_readPart_78 mz_X1_readHour lk_RX1_93 im_X1_readHour se_X1_readHour lo_4 rfl rfl rfl ⟨Nat.le_of_ble_eq_true rfl, Nat.le_of_ble_eq_true rfl⟩ (Nat.le_of_ble_eq_true rfl) (fun r_9 M_10 => ?_)
          refine mm_istore [1, 2, 3, 4, 0] (lv2 := [(0, .ref 4), (1, .int v1), (2, .int r_1), (3, .int r_5), (4, .int r_9)]) dX1_readPart_81 (by decide) rfl ?_
          refine mm_iload 4 dX1_readPart_83 rfl ?_
          refine mm_iconst (v := (-1)) dX1_readPart_85 rfl ?_
          refine mm_icmp_eq 101 dX1_readPart_86 rfl ?_ ?_
          · refine mm_iconst (v := 0) dX1_readPart_101 rfl ?_
            exact mm_zret (b := false) dX1_readPart_102 rfl
          · refine mm_aload_n 0 dX1_readPart_89 rfl ?_
            refine mm_getR 3 dX1_readPart_90 fl_RX1_29 lo_4 rfl ?_
            refine mm_bipush (v := 45) dX1_readPart_93 rfl ?_
            refine mm_callVz (as := [.int 45]) (st := []) (c_TextReader_take E 45 M_10) dX1_readPart_95 mz_X10_take lk_RX1_74 im_X10_take se_X10_take lo_3 rfl rfl rfl ⟨Nat.le_of_ble_eq_true rfl, Nat.le_of_ble_eq_true rfl⟩ (Nat.le_of_ble_eq_true rfl) (fun b_11 M_12 => ?_)
            refine mm_if_ne_b 103 dX1_readPart_98 rfl ?_ ?_
            · refine mm_aload_n 0 dX1_readPart_103 rfl ?_
              refine mm_iload 4 dX1_readPart_104 rfl ?_
              refine mm_iconst (v := 1) dX1_readPart_106 rfl ?_
              refine mm_iadd dX1_readPart_107 ?_
              refine mm_bipush (v := 24) dX1_readPart_108 rfl ?_
              refine mm_callVi (as := [.int (r_9 + 1), .int 24]) (st := []) (c_Days_readHour E (r_9 + 1) 24 M_12) dX1_readPart_110 mz_X1_readHour lk_RX1_93 im_X1_readHour se_X1_readHour lo_4 rfl rfl rfl ⟨Nat.le_of_ble_eq_true rfl, Nat.le_of_ble_eq_true rfl⟩ (Nat.le_of_ble_eq_true rfl) (fun r_13 M_14 => ?_)
              refine mm_istore [1, 2, 3, 4, 5, 0] (lv2 := [(0, .ref 4), (1, .int v1), (2, .int r_1), (3, .int r_5), (4, .int r_9), (5, .int r_13)]) dX1_readPart_113 (by decide) rfl ?_
              refine mm_iload 5 dX1_readPart_115 rfl ?_
              refine mm_iconst (v := (-1)) dX1_readPart_117 rfl ?_
              refine mm_icmp_eq 133 dX1_readPart_118 rfl ?_ ?_
              · refine mm_iconst (v := 0) dX1_readPart_133 rfl ?_
                exact mm_zret (b := false) dX1_readPart_134 rfl
              · refine mm_aload_n 0 dX1_readPart_121 rfl ?_
                refine mm_getR 3 dX1_readPart_122 fl_RX1_29 lo_4 rfl ?_
                refine mm_bipush (v := 41) dX1_readPart_125 rfl ?_
                refine mm_callVz (as := [.int 41]) (st := []) (c_TextReader_take E 41 M_14) dX1_readPart_127 mz_X10_take lk_RX1_74 im_X10_take se_X10_take lo_3 rfl rfl rfl ⟨Nat.le_of_ble_eq_true rfl, Nat.le_of_ble_eq_true rfl⟩ (Nat.le_of_ble_eq_true rfl) (fun b_15 M_16 => ?_)
                refine mm_if_ne_b 135 dX1_readPart_130 rfl ?_ ?_
                · refine mm_iload_n 2 dX1_readPart_135 rfl ?_
                  refine mm_bipush (v := 24) dX1_readPart_136 rfl ?_
                  refine mm_imul dX1_readPart_138 ?_
                  refine mm_iload 4 dX1_readPart_139 rfl ?_
                  refine mm_iadd dX1_readPart_141 ?_
                  refine mm_nm_int (fun v6_17 => ?_)
                  refine mm_istore [1, 2, 3, 4, 5, 6, 0] (lv2 := [(0, .ref 4), (1, .int v1), (2, .int r_1), (3, .int r_5), (4, .int r_9), (5, .int r_13), (6, .int v6_17)]) dX1_readPart_142 (by decide) rfl ?_
                  refine mm_wk [0, 2, 3, 5, 6] rfl ?_
                  refine lp_Days_readPart_144_ok E r_1 r_5 r_13 ?_ mm_fu v6_17 M_16
                  · intro M_22
                    refine mm_iconst (v := 1) dX1_readPart_183 rfl ?_
                    exact mm_zret (b := true) dX1_readPart_184 rfl
                · refine mm_iconst (v := 0) dX1_readPart_133 rfl ?_
                  exact mm_zret (b := false) dX1_readPart_134 rfl
            · refine mm_iconst (v := 0) dX1_readPart_101 rfl ?_
              exact mm_zret (b := false) dX1_readPart_102 rfl
        · refine mm_iconst (v := 0) dX1_readPart_72 rfl ?_
          exact mm_zret (b := false) dX1_readPart_73 rfl
    · refine mm_aload_n 0 dX1_readPart_30 rfl ?_
      refine mm_getR 3 dX1_readPart_31 fl_RX1_29 lo_4 rfl ?_
      refine mm_iconst (v := 4) dX1_readPart_34 rfl ?_
      refine mm_callVz (as := [.int 4]) (st := []) (c_TextReader_failHere E 4 M_2) dX1_readPart_35 mz_X10_failHere lk_RX1_84 im_X10_failHere se_X10_failHere lo_3 rfl rfl rfl ⟨Nat.le_of_ble_eq_true rfl, Nat.le_of_ble_eq_true rfl⟩ (Nat.le_of_ble_eq_true rfl) (fun b_23 M_24 => ?_)
      exact mm_zret (b := b_23) dX1_readPart_38 rfl
  · refine mm_aload_n 0 dX1_readPart_15 rfl ?_
    refine mm_getR 3 dX1_readPart_16 fl_RX1_29 lo_4 rfl ?_
    refine mm_iconst (v := 1) dX1_readPart_19 rfl ?_
    refine mm_callVz (as := [.int 1]) (st := []) (c_TextReader_failHere E 1 M_2) dX1_readPart_20 mz_X10_failHere lk_RX1_84 im_X10_failHere se_X10_failHere lo_3 rfl rfl rfl ⟨Nat.le_of_ble_eq_true rfl, Nat.le_of_ble_eq_true rfl⟩ (Nat.le_of_ble_eq_true rfl) (fun b_25 M_26 => ?_)
    exact mm_zret (b := b_25) dX1_readPart_23 rfl
def lp_Days_readParts_18 (k32 : mm_M → Option (Int32 × mm_M)) (k50 : Int32 → mm_M → Option (Int32 × mm_M)) (k66 : mm_M → Option (Int32 × mm_M)) (k80 : mm_M → Option (Int32 × mm_M)) : Nat → Int32 → mm_M → Option (Int32 × mm_M)
  | 0, _, _ => none
  | n + 1, v2, M => if 14 < v2 then k80 M else mm_bd (f_Days_readPart v2 M) fun b_5 M_6 => if b_5 = true then mm_bd (f_TextReader_atEnd M_6) fun b_7 M_8 => if b_7 = true then k50 v2 M_8 else mm_bd (f_TextReader_take 59 M_8) fun b_9 M_10 => if b_9 = true then mm_let (v2 + 1) fun v2_11 => lp_Days_readParts_18 k32 k50 k66 k80 n v2_11 M_10 else k66 M_10 else k32 M_6
set_option maxHeartbeats 4000000 in
theorem lp_Days_readParts_18_ok (E : mm_E) {k32 : mm_M → Option (Int32 × mm_M)} {k50 : Int32 → mm_M → Option (Int32 × mm_M)} {k66 : mm_M → Option (Int32 × mm_M)} {k80 : mm_M → Option (Int32 × mm_M)} (hk32 : ∀ (M : mm_M), mm_G (fun x : Int32 => some (.int x)) E Y_X1_readParts 7 32 [(0, .ref 4)] [] M (k32 M)) (hk50 : ∀ (v2 : Int32) (M : mm_M), mm_G (fun x : Int32 => some (.int x)) E Y_X1_readParts 7 50 [(2, .int v2)] [] M (k50 v2 M)) (hk66 : ∀ (M : mm_M), mm_G (fun x : Int32 => some (.int x)) E Y_X1_readParts 7 66 [(0, .ref 4)] [] M (k66 M)) (hk80 : ∀ (M : mm_M), mm_G (fun x : Int32 => some (.int x)) E Y_X1_readParts 7 80 [(0, .ref 4)] [] M (k80 M)) : ∀ (n : Nat) (v2 : Int32) (M : mm_M), mm_G (fun x : Int32 => some (.int x)) E Y_X1_readParts 7 18 [(0, .ref 4), (2, .int v2)] [] M (lp_Days_readParts_18 k32 k50 k66 k80 n v2 M) := by
  intro n
  induction n with
  | zero => intro v2 M r M2 he; cases he
  | succ n ih =>
    intro v2 M
    rw [lp_Days_readParts_18]
    refine mm_iload_n 1 dX1_readParts_18 rfl ?_
    refine mm_bipush (v := 14) dX1_readParts_19 rfl ?_
    refine mm_icmp_gt 80 dX1_readParts_21 rfl ?_ ?_
    · refine mm_wk [0] rfl ?_
      exact hk80  M
    · refine mm_aload_n 0 dX1_readParts_24 rfl ?_
      refine mm_iload_n 1 dX1_readParts_25 rfl ?_
      refine mm_callVz (as := [.int v2]) (st := []) (c_Days_readPart E v2 M) dX1_readParts_26 mz_X1_readPart lk_RX1_63 im_X1_readPart se_X1_readPart lo_4 rfl rfl rfl ⟨Nat.le_of_ble_eq_true rfl, Nat.le_of_ble_eq_true rfl⟩ (Nat.le_of_ble_eq_true rfl) (fun b_5 M_6 => ?_)
      refine mm_if_ne_b 40 dX1_readParts_29 rfl ?_ ?_
      · refine mm_aload_n 0 dX1_readParts_40 rfl ?_
        refine mm_getR 3 dX1_readParts_41 fl_RX1_29 lo_4 rfl ?_
        refine mm_callVz (as := []) (st := []) (c_TextReader_atEnd E M_6) dX1_readParts_44 mz_X10_atEnd lk_RX1_70 im_X10_atEnd se_X10_atEnd lo_3 rfl rfl rfl ⟨Nat.le_of_ble_eq_true rfl, Nat.le_of_ble_eq_true rfl⟩ (Nat.le_of_ble_eq_true rfl) (fun b_7 M_8 => ?_)
        refine mm_if_eq_b 54 dX1_readParts_47 rfl ?_ ?_
        · refine mm_aload_n 0 dX1_readParts_54 rfl ?_
          refine mm_getR 3 dX1_readParts_55 fl_RX1_29 lo_4 rfl ?_
          refine mm_bipush (v := 59) dX1_readParts_58 rfl ?_
          refine mm_callVz (as := [.int 59]) (st := []) (c_TextReader_take E 59 M_8) dX1_readParts_60 mz_X10_take lk_RX1_74 im_X10_take se_X10_take lo_3 rfl rfl rfl ⟨Nat.le_of_ble_eq_true rfl, Nat.le_of_ble_eq_true rfl⟩ (Nat.le_of_ble_eq_true rfl) (fun b_9 M_10 => ?_)
          refine mm_if_ne_b 74 dX1_readParts_63 rfl ?_ ?_
          · refine mm_iincN 1 [1, 0] (v := v2 + 1) (lv2 := fun v2_11 => [(0, .ref 4), (2, .int v2_11)]) dX1_readParts_74 rfl rfl (by decide) (fun _ => rfl) (fun v2_11 => ?_)
            refine mm_goto 18 dX1_readParts_77 rfl ?_
            exact ih v2_11 M_10
          · refine mm_wk [0] rfl ?_
            exact hk66  M_10
        · refine mm_wk [1] rfl ?_
          exact hk50 v2 M_8
      · refine mm_wk [0] rfl ?_
        exact hk32  M_6
def f_Days_readParts (v1 : Int32) (M : mm_M) : Option (Int32 × mm_M) := mm_bd (f_TextReader_open v1 M) fun u_1 M_2 => mm_bd (f_Arrays_fill_18 0 M_2) fun u_3 M_4 => lp_Days_readParts_18 (fun (M_12 : mm_M) => some (M_12.1 3 4, M_12)) (fun (v2 : Int32) (M_13 : mm_M) => some (v2 + 1, M_13)) (fun (M_14 : mm_M) => some (M_14.1 3 4, M_14)) (fun (M_15 : mm_M) => some (M_15.1 3 4, M_15)) mm_fu 0 M_4
set_option maxHeartbeats 4000000 in
theorem c_Days_readParts (E : mm_E) (v1 : Int32) (M : mm_M) : ∀ (r : Int32) (M2 : mm_M), f_Days_readParts v1 M = some (r, M2) → mm_P E Y_X1_readParts 7 [.ref 4, .int v1] M (some (.int r)) M2 := by
  refine mm_entry (em := (fun x : Int32 => some (.int x))) (by decide +kernel) (Nat.le_of_ble_eq_true rfl) ?_
  show mm_G _ E _ _ 0 [(0, .ref 4), (1, .int v1)] [] M _
  unfold f_Days_readParts
  refine mm_aload_n 0 dX1_readParts_0 rfl ?_
  refine mm_getR 3 dX1_readParts_1 fl_RX1_29 lo_4 rfl ?_
  refine mm_iload_n 1 dX1_readParts_4 rfl ?_
  refine mm_callVv (as := [.int v1]) (st := []) (c_TextReader_open E v1 M) dX1_readParts_5 mz_X10_open lk_RX1_51 im_X10_open se_X10_open lo_3 rfl rfl rfl ⟨Nat.le_of_ble_eq_true rfl, Nat.le_of_ble_eq_true rfl⟩ (Nat.le_of_ble_eq_true rfl) (fun u_1 M_2 => ?_)
  refine mm_aload_n 0 dX1_readParts_8 rfl ?_
  refine mm_getR 18 dX1_readParts_9 fl_RX1_16 lo_4 rfl ?_
  refine mm_iconst (v := 0) dX1_readParts_12 rfl ?_
  refine mm_callSv (as := [.ref 18, .int 0]) (st := []) (c_Arrays_fill_18 E 0 M_2) dX1_readParts_13 mz_J7_fill_53178 lk_RX1_57 sm_J7_fill_53178 rfl ⟨Nat.le_of_ble_eq_true rfl, Nat.le_of_ble_eq_true rfl⟩ (Nat.le_of_ble_eq_true rfl) (fun u_3 M_4 => ?_)
  refine mm_iconst (v := 0) dX1_readParts_16 rfl ?_
  refine mm_istore_n [1, 2, 0] (lv2 := [(0, .ref 4), (1, .int v1), (2, .int 0)]) dX1_readParts_17 (by decide) rfl ?_
  refine mm_wk [0, 2] rfl ?_
  refine lp_Days_readParts_18_ok E ?_ ?_ ?_ ?_ mm_fu 0 M_4
  · intro M_12
    refine mm_aload_n 0 dX1_readParts_32 rfl ?_
    refine mm_getR 3 dX1_readParts_33 fl_RX1_29 lo_4 rfl ?_
    refine mm_getI dX1_readParts_36 fl_RX1_67 lo_3 rfl ?_
    exact mm_iret dX1_readParts_39 rfl
  · intro v2 M_13
    refine mm_iload_n 0 dX1_readParts_50 rfl ?_
    refine mm_iconst (v := 1) dX1_readParts_51 rfl ?_
    refine mm_iadd dX1_readParts_52 ?_
    exact mm_iret dX1_readParts_53 rfl
  · intro M_14
    refine mm_aload_n 0 dX1_readParts_66 rfl ?_
    refine mm_getR 3 dX1_readParts_67 fl_RX1_29 lo_4 rfl ?_
    refine mm_getI dX1_readParts_70 fl_RX1_67 lo_3 rfl ?_
    exact mm_iret dX1_readParts_73 rfl
  · intro M_15
    refine mm_aload_n 0 dX1_readParts_80 rfl ?_
    refine mm_getR 3 dX1_readParts_81 fl_RX1_29 lo_4 rfl ?_
    refine mm_getI dX1_readParts_84 fl_RX1_67 lo_3 rfl ?_
    exact mm_iret dX1_readParts_87 rfl
def f_Days_tell (v1 : Int32) (v2 : Int32) (M : mm_M) : Option (Int32 × mm_M) := mm_bd (f_Days_readParts v2 M) fun r_1 M_2 => if r_1 ≤ 0 then some (r_1, M_2) else if mm_in v1 12 = true then if mm_cpok 18 (6 + v1.toNatClampNeg) 0 0 72 = true then mm_let (mm_cp M_2 18 (6 + v1.toNatClampNeg) 0 0 72) fun M_3 => mm_let (mm_setI M_3 4 3 ((M_3.1 4 3) ||| (1 <<< (v1 &&& 31)))) fun M_4 => some (r_1, M_4) else none else none
set_option maxHeartbeats 4000000 in
theorem c_Days_tell (E : mm_E) (v1 : Int32) (v2 : Int32) (M : mm_M) : ∀ (r : Int32) (M2 : mm_M), f_Days_tell v1 v2 M = some (r, M2) → mm_P E Y_X1_tell 8 [.ref 4, .int v1, .int v2] M (some (.int r)) M2 := by
  refine mm_entry (em := (fun x : Int32 => some (.int x))) (by decide +kernel) (Nat.le_of_ble_eq_true rfl) ?_
  show mm_G _ E _ _ 0 [(0, .ref 4), (1, .int v1), (2, .int v2)] [] M _
  unfold f_Days_tell
  refine mm_aload_n 0 dX1_tell_0 rfl ?_
  refine mm_iload_n 2 dX1_tell_1 rfl ?_
  refine mm_callVi (as := [.int v2]) (st := []) (c_Days_readParts E v2 M) dX1_tell_2 mz_X1_readParts lk_RX1_41 im_X1_readParts se_X1_readParts lo_4 rfl rfl rfl ⟨Nat.le_of_ble_eq_true rfl, Nat.le_of_ble_eq_true rfl⟩ (Nat.le_of_ble_eq_true rfl) (fun r_1 M_2 => ?_)
  refine mm_istore_n [1, 2, 3, 0] (lv2 := [(0, .ref 4), (1, .int v1), (2, .int v2), (3, .int r_1)]) dX1_tell_5 (by decide) rfl ?_
  refine mm_iload_n 3 dX1_tell_6 rfl ?_
  refine mm_if_le 39 dX1_tell_7 rfl ?_ ?_
  · refine mm_iload_n 3 dX1_tell_39 rfl ?_
    exact mm_iret dX1_tell_40 rfl
  · refine mm_aload_n 0 dX1_tell_10 rfl ?_
    refine mm_getR 18 dX1_tell_11 fl_RX1_16 lo_4 rfl ?_
    refine mm_iconst (v := 0) dX1_tell_14 rfl ?_
    refine mm_aload_n 0 dX1_tell_15 rfl ?_
    refine mm_getR 5 dX1_tell_16 fl_RX1_11 lo_4 rfl ?_
    refine mm_iload_n 1 dX1_tell_19 rfl ?_
    refine mm_aaload dX1_tell_20 lo_5 ?_
    refine mm_iconst (v := 0) dX1_tell_21 rfl ?_
    refine mm_bipush (v := 72) dX1_tell_22 rfl ?_
    refine mm_copy dX1_tell_24 lk_RX1_45 wd_copy ⟨Nat.le_of_ble_eq_true rfl, Nat.le_of_ble_eq_true rfl⟩ ?_
    refine mm_nm_M (fun M_3 => ?_)
    refine mm_aload_n 0 dX1_tell_27 rfl ?_
    refine mm_dup dX1_tell_28 rfl ?_
    refine mm_getI dX1_tell_29 fl_RX1_33 lo_4 rfl ?_
    refine mm_iconst (v := 1) dX1_tell_32 rfl ?_
    refine mm_iload_n 1 dX1_tell_33 rfl ?_
    refine mm_ishl dX1_tell_34 ?_
    refine mm_ior dX1_tell_35 ?_
    refine mm_putI dX1_tell_36 fp_RX1_33 lo_4 rfl ?_
    refine mm_nm_M (fun M_4 => ?_)
    refine mm_iload_n 3 dX1_tell_39 rfl ?_
    exact mm_iret dX1_tell_40 rfl
def f_Tape_clear (M : mm_M) : Option (Unit × mm_M) := mm_let (mm_setI M 1 1 0) fun M_1 => some ((), M_1)
set_option maxHeartbeats 4000000 in
theorem c_Tape_clear (E : mm_E) (M : mm_M) : ∀ (r : Unit) (M2 : mm_M), f_Tape_clear M = some (r, M2) → mm_P E Y_X9_clear 1 [.ref 1] M none M2 := by
  refine mm_entry (em := (fun _ : Unit => none)) (by decide +kernel) (Nat.le_of_ble_eq_true rfl) ?_
  show mm_G _ E _ _ 0 [(0, .ref 1)] [] M _
  unfold f_Tape_clear
  refine mm_aload_n 0 dX9_clear_0 rfl ?_
  refine mm_iconst (v := 0) dX9_clear_1 rfl ?_
  refine mm_putI dX9_clear_2 fp_RX9_15 lo_1 rfl ?_
  refine mm_nm_M (fun M_1 => ?_)
  exact mm_vret dX9_clear_5 rfl
def f_H_day (v1 : Int32) (v2 : Int32) (M : mm_M) : Option (Int32 × mm_M) := mm_bd (f_H_isBelow v1 12 M) fun b_1 M_2 => if b_1 = true then if v2 < 1 then some ((-1), M_2) else if 120 < v2 then some ((-1), M_2) else mm_bd (f_Tape_size M_2) fun r_3 M_4 => if v2 ≤ r_3 then mm_bd (f_Days_tell v1 v2 M_4) fun r_5 M_6 => mm_bd (f_Tape_clear M_6) fun u_7 M_8 => some (r_5, M_8) else some ((-1), M_4) else some ((-1), M_2)
set_option maxHeartbeats 4000000 in
theorem c_H_day (E : mm_E) (v1 : Int32) (v2 : Int32) (M : mm_M) : ∀ (r : Int32) (M2 : mm_M), f_H_day v1 v2 M = some (r, M2) → mm_P E Y_X11_day 9 [.ref 0, .int v1, .int v2] M (some (.int r)) M2 := by
  refine mm_entry (em := (fun x : Int32 => some (.int x))) (by decide +kernel) (Nat.le_of_ble_eq_true rfl) ?_
  show mm_G _ E _ _ 0 [(0, .ref 0), (1, .int v1), (2, .int v2)] [] M _
  unfold f_H_day
  refine mm_iload_n 1 dX11_day_0 rfl ?_
  refine mm_bipush (v := 12) dX11_day_1 rfl ?_
  refine mm_callSz (as := [.int v1, .int 12]) (st := []) (c_H_isBelow E v1 12 M) dX11_day_3 mz_X11_isBelow lk_RX11_108 sm_X11_isBelow rfl ⟨Nat.le_of_ble_eq_true rfl, Nat.le_of_ble_eq_true rfl⟩ (Nat.le_of_ble_eq_true rfl) (fun b_1 M_2 => ?_)
  refine mm_if_eq_b 31 dX11_day_6 rfl ?_ ?_
  · refine mm_iconst (v := (-1)) dX11_day_31 rfl ?_
    exact mm_iret dX11_day_32 rfl
  · refine mm_iload_n 2 dX11_day_9 rfl ?_
    refine mm_iconst (v := 1) dX11_day_10 rfl ?_
    refine mm_icmp_lt 31 dX11_day_11 rfl ?_ ?_
    · refine mm_iconst (v := (-1)) dX11_day_31 rfl ?_
      exact mm_iret dX11_day_32 rfl
    · refine mm_iload_n 2 dX11_day_14 rfl ?_
      refine mm_bipush (v := 120) dX11_day_15 rfl ?_
      refine mm_icmp_gt 31 dX11_day_17 rfl ?_ ?_
      · refine mm_iconst (v := (-1)) dX11_day_31 rfl ?_
        exact mm_iret dX11_day_32 rfl
      · refine mm_iload_n 2 dX11_day_20 rfl ?_
        refine mm_aload_n 0 dX11_day_21 rfl ?_
        refine mm_getR 1 dX11_day_22 fl_RX11_12 lo_0 rfl ?_
        refine mm_callVi (as := []) (st := [.int v2]) (c_Tape_size E M_2) dX11_day_25 mz_X9_size lk_RX11_100 im_X9_size se_X9_size lo_1 rfl rfl rfl ⟨Nat.le_of_ble_eq_true rfl, Nat.le_of_ble_eq_true rfl⟩ (Nat.le_of_ble_eq_true rfl) (fun r_3 M_4 => ?_)
        refine mm_icmp_le 33 dX11_day_28 rfl ?_ ?_
        · refine mm_aload_n 0 dX11_day_33 rfl ?_
          refine mm_getR 4 dX11_day_34 fl_RX11_26 lo_0 rfl ?_
          refine mm_iload_n 1 dX11_day_37 rfl ?_
          refine mm_iload_n 2 dX11_day_38 rfl ?_
          refine mm_callVi (as := [.int v1, .int v2]) (st := []) (c_Days_tell E v1 v2 M_4) dX11_day_39 mz_X1_tell lk_RX11_112 im_X1_tell se_X1_tell lo_4 rfl rfl rfl ⟨Nat.le_of_ble_eq_true rfl, Nat.le_of_ble_eq_true rfl⟩ (Nat.le_of_ble_eq_true rfl) (fun r_5 M_6 => ?_)
          refine mm_istore_n [1, 2, 3, 0] (lv2 := [(0, .ref 0), (1, .int v1), (2, .int v2), (3, .int r_5)]) dX11_day_42 (by decide) rfl ?_
          refine mm_aload_n 0 dX11_day_43 rfl ?_
          refine mm_getR 1 dX11_day_44 fl_RX11_12 lo_0 rfl ?_
          refine mm_callVv (as := []) (st := []) (c_Tape_clear E M_6) dX11_day_47 mz_X9_clear lk_RX11_116 im_X9_clear se_X9_clear lo_1 rfl rfl rfl ⟨Nat.le_of_ble_eq_true rfl, Nat.le_of_ble_eq_true rfl⟩ (Nat.le_of_ble_eq_true rfl) (fun u_7 M_8 => ?_)
          refine mm_iload_n 3 dX11_day_50 rfl ?_
          exact mm_iret dX11_day_51 rfl
        · refine mm_iconst (v := (-1)) dX11_day_31 rfl ?_
          exact mm_iret dX11_day_32 rfl
def f_H_isIn (v0 : Int32) (v1 : Int32) (M : mm_M) : Option (Bool × mm_M) := mm_bd (f_H_isBelow v1 12 M) fun b_1 M_2 => if b_1 = true then if (v0 >>> (v1 &&& 31)) &&& 1 = 0 then some (false, M_2) else some (true, M_2) else some (false, M_2)
set_option maxHeartbeats 4000000 in
theorem c_H_isIn (E : mm_E) (v0 : Int32) (v1 : Int32) (M : mm_M) : ∀ (r : Bool) (M2 : mm_M), f_H_isIn v0 v1 M = some (r, M2) → mm_P E Y_X11_isIn 2 [.int v0, .int v1] M (some (.int (mm_b r))) M2 := by
  refine mm_entry (em := (fun x : Bool => some (.int (mm_b x)))) (by decide +kernel) (Nat.le_of_ble_eq_true rfl) ?_
  show mm_G _ E _ _ 0 [(0, .int v0), (1, .int v1)] [] M _
  unfold f_H_isIn
  refine mm_iload_n 1 dX11_isIn_0 rfl ?_
  refine mm_bipush (v := 12) dX11_isIn_1 rfl ?_
  refine mm_callSz (as := [.int v1, .int 12]) (st := []) (c_H_isBelow E v1 12 M) dX11_isIn_3 mz_X11_isBelow lk_RX11_108 sm_X11_isBelow rfl ⟨Nat.le_of_ble_eq_true rfl, Nat.le_of_ble_eq_true rfl⟩ (Nat.le_of_ble_eq_true rfl) (fun b_1 M_2 => ?_)
  refine mm_if_eq_b 21 dX11_isIn_6 rfl ?_ ?_
  · refine mm_iconst (v := 0) dX11_isIn_21 rfl ?_
    exact mm_zret (b := false) dX11_isIn_22 rfl
  · refine mm_iload_n 0 dX11_isIn_9 rfl ?_
    refine mm_iload_n 1 dX11_isIn_10 rfl ?_
    refine mm_ishr dX11_isIn_11 ?_
    refine mm_iconst (v := 1) dX11_isIn_12 rfl ?_
    refine mm_iand dX11_isIn_13 ?_
    refine mm_if_eq 21 dX11_isIn_14 rfl ?_ ?_
    · refine mm_iconst (v := 0) dX11_isIn_21 rfl ?_
      exact mm_zret (b := false) dX11_isIn_22 rfl
    · refine mm_iconst (v := 1) dX11_isIn_17 rfl ?_
      refine mm_goto 22 dX11_isIn_18 rfl ?_
      exact mm_zret (b := true) dX11_isIn_22 rfl
def f_Days_isTold (v1 : Int32) (M : mm_M) : Option (Bool × mm_M) := mm_bd (f_H_isIn (M.1 4 3) v1 M) fun b_1 M_2 => some (b_1, M_2)
set_option maxHeartbeats 4000000 in
theorem c_Days_isTold (E : mm_E) (v1 : Int32) (M : mm_M) : ∀ (r : Bool) (M2 : mm_M), f_Days_isTold v1 M = some (r, M2) → mm_P E Y_X1_isTold 3 [.ref 4, .int v1] M (some (.int (mm_b r))) M2 := by
  refine mm_entry (em := (fun x : Bool => some (.int (mm_b x)))) (by decide +kernel) (Nat.le_of_ble_eq_true rfl) ?_
  show mm_G _ E _ _ 0 [(0, .ref 4), (1, .int v1)] [] M _
  unfold f_Days_isTold
  refine mm_aload_n 0 dX1_isTold_0 rfl ?_
  refine mm_getI dX1_isTold_1 fl_RX1_33 lo_4 rfl ?_
  refine mm_iload_n 1 dX1_isTold_4 rfl ?_
  refine mm_callSNz (as := [.int (M.1 4 3), .int v1]) (st := []) (c_H_isIn E (M.1 4 3) v1 M) dX1_isTold_5 mz_X11_isIn lk_RX1_37 sm_X11_isIn rfl ⟨Nat.le_of_ble_eq_true rfl, Nat.le_of_ble_eq_true rfl⟩ (Nat.le_of_ble_eq_true rfl) (fun b_1 M_2 => ?_)
  exact mm_zret (b := b_1) dX1_isTold_8 rfl
def f_Days_rowOf (v1 : Int32) (M : mm_M) : Option (Nat × mm_M) := if mm_in v1 12 = true then some ((6 + v1.toNatClampNeg), M) else none
set_option maxHeartbeats 4000000 in
theorem c_Days_rowOf (E : mm_E) (v1 : Int32) (M : mm_M) : ∀ (r : Nat) (M2 : mm_M), f_Days_rowOf v1 M = some (r, M2) → mm_P E Y_X1_rowOf 1 [.ref 4, .int v1] M (some (.ref r)) M2 := by
  refine mm_entry (em := (fun x : Nat => some (.ref x))) (by decide +kernel) (Nat.le_of_ble_eq_true rfl) ?_
  show mm_G _ E _ _ 0 [(0, .ref 4), (1, .int v1)] [] M _
  unfold f_Days_rowOf
  refine mm_aload_n 0 dX1_rowOf_0 rfl ?_
  refine mm_getR 5 dX1_rowOf_1 fl_RX1_11 lo_4 rfl ?_
  refine mm_iload_n 1 dX1_rowOf_4 rfl ?_
  refine mm_aaload dX1_rowOf_5 lo_5 ?_
  exact mm_aret (ty := .int) dX1_rowOf_6 rfl
def f_H_dayIs (v1 : Int32) (v2 : Int32) (v3 : Int32) (M : mm_M) : Option (Int32 × mm_M) := mm_bd (f_Days_isTold v1 M) fun b_1 M_2 => if b_1 = true then mm_bd (f_H_isBelow v2 3 M_2) fun b_3 M_4 => if b_3 = true then mm_bd (f_H_isBelow v3 24 M_4) fun b_5 M_6 => if b_5 = true then mm_bd (f_Days_rowOf v1 M_6) fun o_7 M_8 => if mm_in ((v2 * 24) + v3) (mm_al o_7) = true then some (M_8.2.1 o_7 ((v2 * 24) + v3).toNatClampNeg, M_8) else none else some ((-1), M_6) else some ((-1), M_4) else some ((-1), M_2)
set_option maxHeartbeats 4000000 in
theorem c_H_dayIs (E : mm_E) (v1 : Int32) (v2 : Int32) (v3 : Int32) (M : mm_M) : ∀ (r : Int32) (M2 : mm_M), f_H_dayIs v1 v2 v3 M = some (r, M2) → mm_P E Y_X11_dayIs 4 [.ref 0, .int v1, .int v2, .int v3] M (some (.int r)) M2 := by
  refine mm_entry (em := (fun x : Int32 => some (.int x))) (by decide +kernel) (Nat.le_of_ble_eq_true rfl) ?_
  show mm_G _ E _ _ 0 [(0, .ref 0), (1, .int v1), (2, .int v2), (3, .int v3)] [] M _
  unfold f_H_dayIs
  refine mm_aload_n 0 dX11_dayIs_0 rfl ?_
  refine mm_getR 4 dX11_dayIs_1 fl_RX11_26 lo_0 rfl ?_
  refine mm_iload_n 1 dX11_dayIs_4 rfl ?_
  refine mm_callVz (as := [.int v1]) (st := []) (c_Days_isTold E v1 M) dX11_dayIs_5 mz_X1_isTold lk_RX11_119 im_X1_isTold se_X1_isTold lo_4 rfl rfl rfl ⟨Nat.le_of_ble_eq_true rfl, Nat.le_of_ble_eq_true rfl⟩ (Nat.le_of_ble_eq_true rfl) (fun b_1 M_2 => ?_)
  refine mm_if_eq_b 28 dX11_dayIs_8 rfl ?_ ?_
  · refine mm_iconst (v := (-1)) dX11_dayIs_28 rfl ?_
    exact mm_iret dX11_dayIs_29 rfl
  · refine mm_iload_n 2 dX11_dayIs_11 rfl ?_
    refine mm_iconst (v := 3) dX11_dayIs_12 rfl ?_
    refine mm_callSz (as := [.int v2, .int 3]) (st := []) (c_H_isBelow E v2 3 M_2) dX11_dayIs_13 mz_X11_isBelow lk_RX11_108 sm_X11_isBelow rfl ⟨Nat.le_of_ble_eq_true rfl, Nat.le_of_ble_eq_true rfl⟩ (Nat.le_of_ble_eq_true rfl) (fun b_3 M_4 => ?_)
    refine mm_if_eq_b 28 dX11_dayIs_16 rfl ?_ ?_
    · refine mm_iconst (v := (-1)) dX11_dayIs_28 rfl ?_
      exact mm_iret dX11_dayIs_29 rfl
    · refine mm_iload_n 3 dX11_dayIs_19 rfl ?_
      refine mm_bipush (v := 24) dX11_dayIs_20 rfl ?_
      refine mm_callSz (as := [.int v3, .int 24]) (st := []) (c_H_isBelow E v3 24 M_4) dX11_dayIs_22 mz_X11_isBelow lk_RX11_108 sm_X11_isBelow rfl ⟨Nat.le_of_ble_eq_true rfl, Nat.le_of_ble_eq_true rfl⟩ (Nat.le_of_ble_eq_true rfl) (fun b_5 M_6 => ?_)
      refine mm_if_ne_b 30 dX11_dayIs_25 rfl ?_ ?_
      · refine mm_aload_n 0 dX11_dayIs_30 rfl ?_
        refine mm_getR 4 dX11_dayIs_31 fl_RX11_26 lo_0 rfl ?_
        refine mm_iload_n 1 dX11_dayIs_34 rfl ?_
        refine mm_callVr (as := [.int v1]) (st := []) (c_Days_rowOf E v1 M_6) dX11_dayIs_35 mz_X1_rowOf lk_RX11_123 im_X1_rowOf se_X1_rowOf lo_4 rfl rfl rfl ⟨Nat.le_of_ble_eq_true rfl, Nat.le_of_ble_eq_true rfl⟩ (Nat.le_of_ble_eq_true rfl) (fun o_7 M_8 => ?_)
        refine mm_iload_n 2 dX11_dayIs_38 rfl ?_
        refine mm_bipush (v := 24) dX11_dayIs_39 rfl ?_
        refine mm_imul dX11_dayIs_41 ?_
        refine mm_iload_n 3 dX11_dayIs_42 rfl ?_
        refine mm_iadd dX11_dayIs_43 ?_
        refine mm_iaload dX11_dayIs_44 ?_
        exact mm_iret dX11_dayIs_45 rfl
      · refine mm_iconst (v := (-1)) dX11_dayIs_28 rfl ?_
        exact mm_iret dX11_dayIs_29 rfl
def f_H_room (v1 : Int32) (M : mm_M) : Option (Int32 × mm_M) := mm_bd (f_H_isBelow v1 4 M) fun b_1 M_2 => if b_1 = true then if M_2.1 22 1 < 10 then if mm_in (M_2.1 22 1) (mm_al 23) = true then mm_let (mm_setA M_2 23 ((M_2.1 22 1).toNatClampNeg) v1) fun M_3 => mm_let (mm_setI M_3 22 1 ((M_3.1 22 1) + 1)) fun M_4 => some ((M_4.1 22 1) - 1, M_4) else none else some ((-1), M_2) else some ((-1), M_2)
set_option maxHeartbeats 4000000 in
theorem c_H_room (E : mm_E) (v1 : Int32) (M : mm_M) : ∀ (r : Int32) (M2 : mm_M), f_H_room v1 M = some (r, M2) → mm_P E Y_X11_room 2 [.ref 0, .int v1] M (some (.int r)) M2 := by
  refine mm_entry (em := (fun x : Int32 => some (.int x))) (by decide +kernel) (Nat.le_of_ble_eq_true rfl) ?_
  show mm_G _ E _ _ 0 [(0, .ref 0), (1, .int v1)] [] M _
  unfold f_H_room
  refine mm_iload_n 1 dX11_room_0 rfl ?_
  refine mm_iconst (v := 4) dX11_room_1 rfl ?_
  refine mm_callSz (as := [.int v1, .int 4]) (st := []) (c_H_isBelow E v1 4 M) dX11_room_2 mz_X11_isBelow lk_RX11_108 sm_X11_isBelow rfl ⟨Nat.le_of_ble_eq_true rfl, Nat.le_of_ble_eq_true rfl⟩ (Nat.le_of_ble_eq_true rfl) (fun b_1 M_2 => ?_)
  refine mm_if_eq_b 20 dX11_room_5 rfl ?_ ?_
  · refine mm_iconst (v := (-1)) dX11_room_20 rfl ?_
    exact mm_iret dX11_room_21 rfl
  · refine mm_aload_n 0 dX11_room_8 rfl ?_
    refine mm_getR 22 dX11_room_9 fl_RX11_33 lo_0 rfl ?_
    refine mm_getI dX11_room_12 fl_RX11_127 lo_22 rfl ?_
    refine mm_bipush (v := 10) dX11_room_15 rfl ?_
    refine mm_icmp_lt 22 dX11_room_17 rfl ?_ ?_
    · refine mm_aload_n 0 dX11_room_22 rfl ?_
      refine mm_getR 22 dX11_room_23 fl_RX11_33 lo_0 rfl ?_
      refine mm_getR 23 dX11_room_26 fl_RX11_131 lo_22 rfl ?_
      refine mm_aload_n 0 dX11_room_29 rfl ?_
      refine mm_getR 22 dX11_room_30 fl_RX11_33 lo_0 rfl ?_
      refine mm_getI dX11_room_33 fl_RX11_127 lo_22 rfl ?_
      refine mm_iload_n 1 dX11_room_36 rfl ?_
      refine mm_iastore dX11_room_37 ?_
      refine mm_nm_M (fun M_3 => ?_)
      refine mm_aload_n 0 dX11_room_38 rfl ?_
      refine mm_getR 22 dX11_room_39 fl_RX11_33 lo_0 rfl ?_
      refine mm_dup dX11_room_42 rfl ?_
      refine mm_getI dX11_room_43 fl_RX11_127 lo_22 rfl ?_
      refine mm_iconst (v := 1) dX11_room_46 rfl ?_
      refine mm_iadd dX11_room_47 ?_
      refine mm_putI dX11_room_48 fp_RX11_127 lo_22 rfl ?_
      refine mm_nm_M (fun M_4 => ?_)
      refine mm_aload_n 0 dX11_room_51 rfl ?_
      refine mm_getR 22 dX11_room_52 fl_RX11_33 lo_0 rfl ?_
      refine mm_getI dX11_room_55 fl_RX11_127 lo_22 rfl ?_
      refine mm_iconst (v := 1) dX11_room_58 rfl ?_
      refine mm_isub dX11_room_59 ?_
      exact mm_iret dX11_room_60 rfl
    · refine mm_iconst (v := (-1)) dX11_room_20 rfl ?_
      exact mm_iret dX11_room_21 rfl
def f_H_isUpTo (v0 : Int32) (v1 : Int32) (M : mm_M) : Option (Bool × mm_M) := if v0 < 0 then some (false, M) else if v1 < v0 then some (false, M) else some (true, M)
set_option maxHeartbeats 4000000 in
theorem c_H_isUpTo (E : mm_E) (v0 : Int32) (v1 : Int32) (M : mm_M) : ∀ (r : Bool) (M2 : mm_M), f_H_isUpTo v0 v1 M = some (r, M2) → mm_P E Y_X11_isUpTo 1 [.int v0, .int v1] M (some (.int (mm_b r))) M2 := by
  refine mm_entry (em := (fun x : Bool => some (.int (mm_b x)))) (by decide +kernel) (Nat.le_of_ble_eq_true rfl) ?_
  show mm_G _ E _ _ 0 [(0, .int v0), (1, .int v1)] [] M _
  unfold f_H_isUpTo
  refine mm_iload_n 0 dX11_isUpTo_0 rfl ?_
  refine mm_if_lt 13 dX11_isUpTo_1 rfl ?_ ?_
  · refine mm_iconst (v := 0) dX11_isUpTo_13 rfl ?_
    exact mm_zret (b := false) dX11_isUpTo_14 rfl
  · refine mm_iload_n 0 dX11_isUpTo_4 rfl ?_
    refine mm_iload_n 1 dX11_isUpTo_5 rfl ?_
    refine mm_icmp_gt 13 dX11_isUpTo_6 rfl ?_ ?_
    · refine mm_iconst (v := 0) dX11_isUpTo_13 rfl ?_
      exact mm_zret (b := false) dX11_isUpTo_14 rfl
    · refine mm_iconst (v := 1) dX11_isUpTo_9 rfl ?_
      refine mm_goto 14 dX11_isUpTo_10 rfl ?_
      exact mm_zret (b := true) dX11_isUpTo_14 rfl
def f_H_plant (v1 : Int32) (v2 : Int32) (v3 : Int32) (M : mm_M) : Option (Bool × mm_M) := mm_bd (f_H_isBelow v1 3 M) fun b_1 M_2 => if b_1 = true then mm_bd (f_H_isUpTo v2 999 M_2) fun b_3 M_4 => if b_3 = true then mm_bd (f_H_isUpTo v3 999 M_4) fun b_5 M_6 => if b_5 = true then if mm_in v1 (mm_al 24) = true then mm_let (mm_setA M_6 24 (v1.toNatClampNeg) v2) fun M_7 => if mm_in v1 (mm_al 25) = true then mm_let (mm_setA M_7 25 (v1.toNatClampNeg) v3) fun M_8 => some (true, M_8) else none else none else some (false, M_6) else some (false, M_4) else some (false, M_2)
set_option maxHeartbeats 4000000 in
theorem c_H_plant (E : mm_E) (v1 : Int32) (v2 : Int32) (v3 : Int32) (M : mm_M) : ∀ (r : Bool) (M2 : mm_M), f_H_plant v1 v2 v3 M = some (r, M2) → mm_P E Y_X11_plant 2 [.ref 0, .int v1, .int v2, .int v3] M (some (.int (mm_b r))) M2 := by
  refine mm_entry (em := (fun x : Bool => some (.int (mm_b x)))) (by decide +kernel) (Nat.le_of_ble_eq_true rfl) ?_
  show mm_G _ E _ _ 0 [(0, .ref 0), (1, .int v1), (2, .int v2), (3, .int v3)] [] M _
  unfold f_H_plant
  refine mm_iload_n 1 dX11_plant_0 rfl ?_
  refine mm_iconst (v := 3) dX11_plant_1 rfl ?_
  refine mm_callSz (as := [.int v1, .int 3]) (st := []) (c_H_isBelow E v1 3 M) dX11_plant_2 mz_X11_isBelow lk_RX11_108 sm_X11_isBelow rfl ⟨Nat.le_of_ble_eq_true rfl, Nat.le_of_ble_eq_true rfl⟩ (Nat.le_of_ble_eq_true rfl) (fun b_1 M_2 => ?_)
  refine mm_if_eq_b 28 dX11_plant_5 rfl ?_ ?_
  · refine mm_iconst (v := 0) dX11_plant_28 rfl ?_
    exact mm_zret (b := false) dX11_plant_29 rfl
  · refine mm_iload_n 2 dX11_plant_8 rfl ?_
    refine mm_sipush (v := 999) dX11_plant_9 rfl ?_
    refine mm_callSz (as := [.int v2, .int 999]) (st := []) (c_H_isUpTo E v2 999 M_2) dX11_plant_12 mz_X11_isUpTo lk_RX11_135 sm_X11_isUpTo rfl ⟨Nat.le_of_ble_eq_true rfl, Nat.le_of_ble_eq_true rfl⟩ (Nat.le_of_ble_eq_true rfl) (fun b_3 M_4 => ?_)
    refine mm_if_eq_b 28 dX11_plant_15 rfl ?_ ?_
    · refine mm_iconst (v := 0) dX11_plant_28 rfl ?_
      exact mm_zret (b := false) dX11_plant_29 rfl
    · refine mm_iload_n 3 dX11_plant_18 rfl ?_
      refine mm_sipush (v := 999) dX11_plant_19 rfl ?_
      refine mm_callSz (as := [.int v3, .int 999]) (st := []) (c_H_isUpTo E v3 999 M_4) dX11_plant_22 mz_X11_isUpTo lk_RX11_135 sm_X11_isUpTo rfl ⟨Nat.le_of_ble_eq_true rfl, Nat.le_of_ble_eq_true rfl⟩ (Nat.le_of_ble_eq_true rfl) (fun b_5 M_6 => ?_)
      refine mm_if_ne_b 30 dX11_plant_25 rfl ?_ ?_
      · refine mm_aload_n 0 dX11_plant_30 rfl ?_
        refine mm_getR 22 dX11_plant_31 fl_RX11_33 lo_0 rfl ?_
        refine mm_getR 24 dX11_plant_34 fl_RX11_138 lo_22 rfl ?_
        refine mm_iload_n 1 dX11_plant_37 rfl ?_
        refine mm_iload_n 2 dX11_plant_38 rfl ?_
        refine mm_iastore dX11_plant_39 ?_
        refine mm_nm_M (fun M_7 => ?_)
        refine mm_aload_n 0 dX11_plant_40 rfl ?_
        refine mm_getR 22 dX11_plant_41 fl_RX11_33 lo_0 rfl ?_
        refine mm_getR 25 dX11_plant_44 fl_RX11_141 lo_22 rfl ?_
        refine mm_iload_n 1 dX11_plant_47 rfl ?_
        refine mm_iload_n 3 dX11_plant_48 rfl ?_
        refine mm_iastore dX11_plant_49 ?_
        refine mm_nm_M (fun M_8 => ?_)
        refine mm_iconst (v := 1) dX11_plant_50 rfl ?_
        exact mm_zret (b := true) dX11_plant_51 rfl
      · refine mm_iconst (v := 0) dX11_plant_28 rfl ?_
        exact mm_zret (b := false) dX11_plant_29 rfl
def f_H_pipes (v1 : Int32) (v2 : Int32) (M : mm_M) : Option (Bool × mm_M) := mm_bd (f_H_isBelow v1 4 M) fun b_1 M_2 => if b_1 = true then mm_bd (f_H_isUpTo v2 999 M_2) fun b_3 M_4 => if b_3 = true then if mm_in v1 (mm_al 26) = true then mm_let (mm_setA M_4 26 (v1.toNatClampNeg) v2) fun M_5 => some (true, M_5) else none else some (false, M_4) else some (false, M_2)
set_option maxHeartbeats 4000000 in
theorem c_H_pipes (E : mm_E) (v1 : Int32) (v2 : Int32) (M : mm_M) : ∀ (r : Bool) (M2 : mm_M), f_H_pipes v1 v2 M = some (r, M2) → mm_P E Y_X11_pipes 2 [.ref 0, .int v1, .int v2] M (some (.int (mm_b r))) M2 := by
  refine mm_entry (em := (fun x : Bool => some (.int (mm_b x)))) (by decide +kernel) (Nat.le_of_ble_eq_true rfl) ?_
  show mm_G _ E _ _ 0 [(0, .ref 0), (1, .int v1), (2, .int v2)] [] M _
  unfold f_H_pipes
  refine mm_iload_n 1 dX11_pipes_0 rfl ?_
  refine mm_iconst (v := 4) dX11_pipes_1 rfl ?_
  refine mm_callSz (as := [.int v1, .int 4]) (st := []) (c_H_isBelow E v1 4 M) dX11_pipes_2 mz_X11_isBelow lk_RX11_108 sm_X11_isBelow rfl ⟨Nat.le_of_ble_eq_true rfl, Nat.le_of_ble_eq_true rfl⟩ (Nat.le_of_ble_eq_true rfl) (fun b_1 M_2 => ?_)
  refine mm_if_eq_b 18 dX11_pipes_5 rfl ?_ ?_
  · refine mm_iconst (v := 0) dX11_pipes_18 rfl ?_
    exact mm_zret (b := false) dX11_pipes_19 rfl
  · refine mm_iload_n 2 dX11_pipes_8 rfl ?_
    refine mm_sipush (v := 999) dX11_pipes_9 rfl ?_
    refine mm_callSz (as := [.int v2, .int 999]) (st := []) (c_H_isUpTo E v2 999 M_2) dX11_pipes_12 mz_X11_isUpTo lk_RX11_135 sm_X11_isUpTo rfl ⟨Nat.le_of_ble_eq_true rfl, Nat.le_of_ble_eq_true rfl⟩ (Nat.le_of_ble_eq_true rfl) (fun b_3 M_4 => ?_)
    refine mm_if_ne_b 20 dX11_pipes_15 rfl ?_ ?_
    · refine mm_aload_n 0 dX11_pipes_20 rfl ?_
      refine mm_getR 22 dX11_pipes_21 fl_RX11_33 lo_0 rfl ?_
      refine mm_getR 26 dX11_pipes_24 fl_RX11_144 lo_22 rfl ?_
      refine mm_iload_n 1 dX11_pipes_27 rfl ?_
      refine mm_iload_n 2 dX11_pipes_28 rfl ?_
      refine mm_iastore dX11_pipes_29 ?_
      refine mm_nm_M (fun M_5 => ?_)
      refine mm_iconst (v := 1) dX11_pipes_30 rfl ?_
      exact mm_zret (b := true) dX11_pipes_31 rfl
    · refine mm_iconst (v := 0) dX11_pipes_18 rfl ?_
      exact mm_zret (b := false) dX11_pipes_19 rfl
def f_H_cellar (v1 : Int32) (v2 : Int32) (M : mm_M) : Option (Bool × mm_M) := mm_bd (f_H_isUpTo v1 9999 M) fun b_1 M_2 => if b_1 = true then mm_bd (f_H_isUpTo v2 99 M_2) fun b_3 M_4 => if b_3 = true then mm_let (mm_setI M_4 22 5 v1) fun M_5 => mm_let (mm_setI M_5 22 6 v2) fun M_6 => some (true, M_6) else some (false, M_4) else some (false, M_2)
set_option maxHeartbeats 4000000 in
theorem c_H_cellar (E : mm_E) (v1 : Int32) (v2 : Int32) (M : mm_M) : ∀ (r : Bool) (M2 : mm_M), f_H_cellar v1 v2 M = some (r, M2) → mm_P E Y_X11_cellar 2 [.ref 0, .int v1, .int v2] M (some (.int (mm_b r))) M2 := by
  refine mm_entry (em := (fun x : Bool => some (.int (mm_b x)))) (by decide +kernel) (Nat.le_of_ble_eq_true rfl) ?_
  show mm_G _ E _ _ 0 [(0, .ref 0), (1, .int v1), (2, .int v2)] [] M _
  unfold f_H_cellar
  refine mm_iload_n 1 dX11_cellar_0 rfl ?_
  refine mm_sipush (v := 9999) dX11_cellar_1 rfl ?_
  refine mm_callSz (as := [.int v1, .int 9999]) (st := []) (c_H_isUpTo E v1 9999 M) dX11_cellar_4 mz_X11_isUpTo lk_RX11_135 sm_X11_isUpTo rfl ⟨Nat.le_of_ble_eq_true rfl, Nat.le_of_ble_eq_true rfl⟩ (Nat.le_of_ble_eq_true rfl) (fun b_1 M_2 => ?_)
  refine mm_if_eq_b 19 dX11_cellar_7 rfl ?_ ?_
  · refine mm_iconst (v := 0) dX11_cellar_19 rfl ?_
    exact mm_zret (b := false) dX11_cellar_20 rfl
  · refine mm_iload_n 2 dX11_cellar_10 rfl ?_
    refine mm_bipush (v := 99) dX11_cellar_11 rfl ?_
    refine mm_callSz (as := [.int v2, .int 99]) (st := []) (c_H_isUpTo E v2 99 M_2) dX11_cellar_13 mz_X11_isUpTo lk_RX11_135 sm_X11_isUpTo rfl ⟨Nat.le_of_ble_eq_true rfl, Nat.le_of_ble_eq_true rfl⟩ (Nat.le_of_ble_eq_true rfl) (fun b_3 M_4 => ?_)
    refine mm_if_ne_b 21 dX11_cellar_16 rfl ?_ ?_
    · refine mm_aload_n 0 dX11_cellar_21 rfl ?_
      refine mm_getR 22 dX11_cellar_22 fl_RX11_33 lo_0 rfl ?_
      refine mm_iload_n 1 dX11_cellar_25 rfl ?_
      refine mm_putI dX11_cellar_26 fp_RX11_147 lo_22 rfl ?_
      refine mm_nm_M (fun M_5 => ?_)
      refine mm_aload_n 0 dX11_cellar_29 rfl ?_
      refine mm_getR 22 dX11_cellar_30 fl_RX11_33 lo_0 rfl ?_
      refine mm_iload_n 2 dX11_cellar_33 rfl ?_
      refine mm_putI dX11_cellar_34 fp_RX11_150 lo_22 rfl ?_
      refine mm_nm_M (fun M_6 => ?_)
      refine mm_iconst (v := 1) dX11_cellar_37 rfl ?_
      exact mm_zret (b := true) dX11_cellar_38 rfl
    · refine mm_iconst (v := 0) dX11_cellar_19 rfl ?_
      exact mm_zret (b := false) dX11_cellar_20 rfl
def f_Register_has_27 (v1 : Int32) (M : mm_M) : Option (Bool × mm_M) := mm_bd (f_H_isIn (M.1 27 0) v1 M) fun b_1 M_2 => some (b_1, M_2)
set_option maxHeartbeats 4000000 in
theorem c_Register_has_27 (E : mm_E) (v1 : Int32) (M : mm_M) : ∀ (r : Bool) (M2 : mm_M), f_Register_has_27 v1 M = some (r, M2) → mm_P E Y_X7_has 3 [.ref 27, .int v1] M (some (.int (mm_b r))) M2 := by
  refine mm_entry (em := (fun x : Bool => some (.int (mm_b x)))) (by decide +kernel) (Nat.le_of_ble_eq_true rfl) ?_
  show mm_G _ E _ _ 0 [(0, .ref 27), (1, .int v1)] [] M _
  unfold f_Register_has_27
  refine mm_aload_n 0 dX7_has_0 rfl ?_
  refine mm_getI dX7_has_1 fl_RX7_28 lo_27 rfl ?_
  refine mm_iload_n 1 dX7_has_4 rfl ?_
  refine mm_callSNz (as := [.int (M.1 27 0), .int v1]) (st := []) (c_H_isIn E (M.1 27 0) v1 M) dX7_has_5 mz_X11_isIn lk_RX7_31 sm_X11_isIn rfl ⟨Nat.le_of_ble_eq_true rfl, Nat.le_of_ble_eq_true rfl⟩ (Nat.le_of_ble_eq_true rfl) (fun b_1 M_2 => ?_)
  exact mm_zret (b := b_1) dX7_has_8 rfl
def lp_Register_holderOf_27_2 (v1 : Int32) (k26 : Int32 → mm_M → Option (Int32 × mm_M)) (k34 : mm_M → Option (Int32 × mm_M)) : Nat → Int32 → mm_M → Option (Int32 × mm_M)
  | 0, _, _ => none
  | n + 1, v2, M => if 10 ≤ v2 then k34 M else mm_bd (f_Register_has_27 v2 M) fun b_1 M_2 => mm_jn (fun (v2 : Int32) (M_3 : mm_M) => mm_let (v2 + 1) fun v2_4 => lp_Register_holderOf_27_2 v1 k26 k34 n v2_4 M_3) fun j28 => if b_1 = true then if mm_in v2 (mm_al 28) = true then if M_2.2.1 28 v2.toNatClampNeg = v1 then k26 v2 M_2 else j28 v2 M_2 else none else j28 v2 M_2
set_option maxHeartbeats 4000000 in
theorem lp_Register_holderOf_27_2_ok (E : mm_E) (v1 : Int32) {k26 : Int32 → mm_M → Option (Int32 × mm_M)} {k34 : mm_M → Option (Int32 × mm_M)} (hk26 : ∀ (v2 : Int32) (M : mm_M), mm_G (fun x : Int32 => some (.int x)) E Y_X7_holderOf 4 26 [(2, .int v2)] [] M (k26 v2 M)) (hk34 : ∀ (M : mm_M), mm_G (fun x : Int32 => some (.int x)) E Y_X7_holderOf 4 34 [] [] M (k34 M)) : ∀ (n : Nat) (v2 : Int32) (M : mm_M), mm_G (fun x : Int32 => some (.int x)) E Y_X7_holderOf 4 2 [(0, .ref 27), (1, .int v1), (2, .int v2)] [] M (lp_Register_holderOf_27_2 v1 k26 k34 n v2 M) := by
  intro n
  induction n with
  | zero => intro v2 M r M2 he; cases he
  | succ n ih =>
    intro v2 M
    rw [lp_Register_holderOf_27_2]
    refine mm_iload_n 2 dX7_holderOf_2 rfl ?_
    refine mm_bipush (v := 10) dX7_holderOf_3 rfl ?_
    refine mm_icmp_ge 34 dX7_holderOf_5 rfl ?_ ?_
    · refine mm_wk [] rfl ?_
      exact hk34  M
    · refine mm_aload_n 0 dX7_holderOf_8 rfl ?_
      refine mm_iload_n 2 dX7_holderOf_9 rfl ?_
      refine mm_callVz (as := [.int v2]) (st := []) (c_Register_has_27 E v2 M) dX7_holderOf_10 mz_X7_has lk_RX7_35 im_X7_has se_X7_has lo_27 rfl rfl rfl ⟨Nat.le_of_ble_eq_true rfl, Nat.le_of_ble_eq_true rfl⟩ (Nat.le_of_ble_eq_true rfl) (fun b_1 M_2 => ?_)
      refine mm_jnP (P := fun j => ∀ (v2 : Int32) (M : mm_M), mm_G (fun x : Int32 => some (.int x)) E Y_X7_holderOf 4 28 [(0, .ref 27), (1, .int v1), (2, .int v2)] [] M (j v2 M)) ?_ (fun j28 hj28 => ?_)
      · intro v2 M_3
        refine mm_iincN 2 [1, 2, 0] (v := v2 + 1) (lv2 := fun v2_4 => [(0, .ref 27), (1, .int v1), (2, .int v2_4)]) dX7_holderOf_28 rfl rfl (by decide) (fun _ => rfl) (fun v2_4 => ?_)
        refine mm_goto 2 dX7_holderOf_31 rfl ?_
        exact ih v2_4 M_3
      refine mm_if_eq_b 28 dX7_holderOf_13 rfl ?_ ?_
      · exact hj28 v2 M_2
      · refine mm_aload_n 0 dX7_holderOf_16 rfl ?_
        refine mm_getR 28 dX7_holderOf_17 fl_RX7_9 lo_27 rfl ?_
        refine mm_iload_n 2 dX7_holderOf_20 rfl ?_
        refine mm_iaload dX7_holderOf_21 ?_
        refine mm_iload_n 1 dX7_holderOf_22 rfl ?_
        refine mm_icmp_ne 28 dX7_holderOf_23 rfl ?_ ?_
        · exact hj28 v2 M_2
        · refine mm_wk [2] rfl ?_
          exact hk26 v2 M_2
def f_Register_holderOf_27 (v1 : Int32) (M : mm_M) : Option (Int32 × mm_M) := lp_Register_holderOf_27_2 v1 (fun (v2 : Int32) (M_5 : mm_M) => some (v2, M_5)) (fun (M_6 : mm_M) => some ((-1), M_6)) mm_fu 0 M
set_option maxHeartbeats 4000000 in
theorem c_Register_holderOf_27 (E : mm_E) (v1 : Int32) (M : mm_M) : ∀ (r : Int32) (M2 : mm_M), f_Register_holderOf_27 v1 M = some (r, M2) → mm_P E Y_X7_holderOf 4 [.ref 27, .int v1] M (some (.int r)) M2 := by
  refine mm_entry (em := (fun x : Int32 => some (.int x))) (by decide +kernel) (Nat.le_of_ble_eq_true rfl) ?_
  show mm_G _ E _ _ 0 [(0, .ref 27), (1, .int v1)] [] M _
  unfold f_Register_holderOf_27
  refine mm_iconst (v := 0) dX7_holderOf_0 rfl ?_
  refine mm_istore_n [1, 2, 0] (lv2 := [(0, .ref 27), (1, .int v1), (2, .int 0)]) dX7_holderOf_1 (by decide) rfl ?_
  refine lp_Register_holderOf_27_2_ok E v1 ?_ ?_ mm_fu 0 M
  · intro v2 M_5
    refine mm_iload_n 0 dX7_holderOf_26 rfl ?_
    exact mm_iret dX7_holderOf_27 rfl
  · intro M_6
    refine mm_iconst (v := (-1)) dX7_holderOf_34 rfl ?_
    exact mm_iret dX7_holderOf_35 rfl
def f_Register_write_27 (v1 : Int32) (v2 : Int32) (v3 : Int32) (v4 : Int32) (M : mm_M) : Option (Unit × mm_M) := mm_let (mm_setI M 27 0 ((M.1 27 0) ||| (1 <<< (v1 &&& 31)))) fun M_1 => if mm_in v1 (mm_al 28) = true then mm_let (mm_setA M_1 28 (v1.toNatClampNeg) v2) fun M_2 => if mm_in v1 (mm_al 29) = true then mm_let (mm_setA M_2 29 (v1.toNatClampNeg) v3) fun M_3 => if mm_in v1 (mm_al 30) = true then mm_let (mm_setA M_3 30 (v1.toNatClampNeg) v4) fun M_4 => if mm_in v1 (mm_al 31) = true then mm_let (mm_setA M_4 31 (v1.toNatClampNeg) 0) fun M_5 => some ((), M_5) else none else none else none else none
set_option maxHeartbeats 4000000 in
theorem c_Register_write_27 (E : mm_E) (v1 : Int32) (v2 : Int32) (v3 : Int32) (v4 : Int32) (M : mm_M) : ∀ (r : Unit) (M2 : mm_M), f_Register_write_27 v1 v2 v3 v4 M = some (r, M2) → mm_P E Y_X7_write 1 [.ref 27, .int v1, .int v2, .int v3, .int v4] M none M2 := by
  refine mm_entry (em := (fun _ : Unit => none)) (by decide +kernel) (Nat.le_of_ble_eq_true rfl) ?_
  show mm_G _ E _ _ 0 [(0, .ref 27), (1, .int v1), (2, .int v2), (3, .int v3), (4, .int v4)] [] M _
  unfold f_Register_write_27
  refine mm_aload_n 0 dX7_write_0 rfl ?_
  refine mm_dup dX7_write_1 rfl ?_
  refine mm_getI dX7_write_2 fl_RX7_28 lo_27 rfl ?_
  refine mm_iconst (v := 1) dX7_write_5 rfl ?_
  refine mm_iload_n 1 dX7_write_6 rfl ?_
  refine mm_ishl dX7_write_7 ?_
  refine mm_ior dX7_write_8 ?_
  refine mm_putI dX7_write_9 fp_RX7_28 lo_27 rfl ?_
  refine mm_nm_M (fun M_1 => ?_)
  refine mm_aload_n 0 dX7_write_12 rfl ?_
  refine mm_getR 28 dX7_write_13 fl_RX7_9 lo_27 rfl ?_
  refine mm_iload_n 1 dX7_write_16 rfl ?_
  refine mm_iload_n 2 dX7_write_17 rfl ?_
  refine mm_iastore dX7_write_18 ?_
  refine mm_nm_M (fun M_2 => ?_)
  refine mm_aload_n 0 dX7_write_19 rfl ?_
  refine mm_getR 29 dX7_write_20 fl_RX7_15 lo_27 rfl ?_
  refine mm_iload_n 1 dX7_write_23 rfl ?_
  refine mm_iload_n 3 dX7_write_24 rfl ?_
  refine mm_iastore dX7_write_25 ?_
  refine mm_nm_M (fun M_3 => ?_)
  refine mm_aload_n 0 dX7_write_26 rfl ?_
  refine mm_getR 30 dX7_write_27 fl_RX7_18 lo_27 rfl ?_
  refine mm_iload_n 1 dX7_write_30 rfl ?_
  refine mm_iload 4 dX7_write_31 rfl ?_
  refine mm_iastore dX7_write_33 ?_
  refine mm_nm_M (fun M_4 => ?_)
  refine mm_aload_n 0 dX7_write_34 rfl ?_
  refine mm_getR 31 dX7_write_35 fl_RX7_21 lo_27 rfl ?_
  refine mm_iload_n 1 dX7_write_38 rfl ?_
  refine mm_iconst (v := 0) dX7_write_39 rfl ?_
  refine mm_iastore dX7_write_40 ?_
  refine mm_nm_M (fun M_5 => ?_)
  exact mm_vret dX7_write_41 rfl
def f_H_stay (v1 : Int32) (v2 : Int32) (v3 : Int32) (v4 : Int32) (M : mm_M) : Option (Bool × mm_M) := mm_bd (f_H_isBelow v1 10 M) fun b_1 M_2 => if b_1 = true then mm_bd (f_H_isBelow v2 (M_2.1 22 1) M_2) fun b_3 M_4 => if b_3 = true then mm_bd (f_Days_isTold v3 M_4) fun b_5 M_6 => if b_5 = true then mm_bd (f_H_isUpTo v4 999 M_6) fun b_7 M_8 => if b_7 = true then mm_bd (f_Register_holderOf_27 v2 M_8) fun r_9 M_10 => mm_jn (fun (M_11 : mm_M) => mm_bd (f_Register_write_27 v1 v2 v3 v4 M_11) fun u_12 M_13 => some (true, M_13)) fun j71 => if r_9 = (-1) then j71 M_10 else if r_9 = v1 then j71 M_10 else some (false, M_10) else some (false, M_8) else some (false, M_6) else some (false, M_4) else some (false, M_2)
set_option maxHeartbeats 4000000 in
theorem c_H_stay (E : mm_E) (v1 : Int32) (v2 : Int32) (v3 : Int32) (v4 : Int32) (M : mm_M) : ∀ (r : Bool) (M2 : mm_M), f_H_stay v1 v2 v3 v4 M = some (r, M2) → mm_P E Y_X11_stay 5 [.ref 0, .int v1, .int v2, .int v3, .int v4] M (some (.int (mm_b r))) M2 := by
  refine mm_entry (em := (fun x : Bool => some (.int (mm_b x)))) (by decide +kernel) (Nat.le_of_ble_eq_true rfl) ?_
  show mm_G _ E _ _ 0 [(0, .ref 0), (1, .int v1), (2, .int v2), (3, .int v3), (4, .int v4)] [] M _
  unfold f_H_stay
  refine mm_iload_n 1 dX11_stay_0 rfl ?_
  refine mm_bipush (v := 10) dX11_stay_1 rfl ?_
  refine mm_callSz (as := [.int v1, .int 10]) (st := []) (c_H_isBelow E v1 10 M) dX11_stay_3 mz_X11_isBelow lk_RX11_108 sm_X11_isBelow rfl ⟨Nat.le_of_ble_eq_true rfl, Nat.le_of_ble_eq_true rfl⟩ (Nat.le_of_ble_eq_true rfl) (fun b_1 M_2 => ?_)
  refine mm_if_eq_b 45 dX11_stay_6 rfl ?_ ?_
  · refine mm_iconst (v := 0) dX11_stay_45 rfl ?_
    exact mm_zret (b := false) dX11_stay_46 rfl
  · refine mm_iload_n 2 dX11_stay_9 rfl ?_
    refine mm_aload_n 0 dX11_stay_10 rfl ?_
    refine mm_getR 22 dX11_stay_11 fl_RX11_33 lo_0 rfl ?_
    refine mm_getI dX11_stay_14 fl_RX11_127 lo_22 rfl ?_
    refine mm_callSz (as := [.int v2, .int (M_2.1 22 1)]) (st := []) (c_H_isBelow E v2 (M_2.1 22 1) M_2) dX11_stay_17 mz_X11_isBelow lk_RX11_108 sm_X11_isBelow rfl ⟨Nat.le_of_ble_eq_true rfl, Nat.le_of_ble_eq_true rfl⟩ (Nat.le_of_ble_eq_true rfl) (fun b_3 M_4 => ?_)
    refine mm_if_eq_b 45 dX11_stay_20 rfl ?_ ?_
    · refine mm_iconst (v := 0) dX11_stay_45 rfl ?_
      exact mm_zret (b := false) dX11_stay_46 rfl
    · refine mm_aload_n 0 dX11_stay_23 rfl ?_
      refine mm_getR 4 dX11_stay_24 fl_RX11_26 lo_0 rfl ?_
      refine mm_iload_n 3 dX11_stay_27 rfl ?_
      refine mm_callVz (as := [.int v3]) (st := []) (c_Days_isTold E v3 M_4) dX11_stay_28 mz_X1_isTold lk_RX11_119 im_X1_isTold se_X1_isTold lo_4 rfl rfl rfl ⟨Nat.le_of_ble_eq_true rfl, Nat.le_of_ble_eq_true rfl⟩ (Nat.le_of_ble_eq_true rfl) (fun b_5 M_6 => ?_)
      refine mm_if_eq_b 45 dX11_stay_31 rfl ?_ ?_
      · refine mm_iconst (v := 0) dX11_stay_45 rfl ?_
        exact mm_zret (b := false) dX11_stay_46 rfl
      · refine mm_iload 4 dX11_stay_34 rfl ?_
        refine mm_sipush (v := 999) dX11_stay_36 rfl ?_
        refine mm_callSz (as := [.int v4, .int 999]) (st := []) (c_H_isUpTo E v4 999 M_6) dX11_stay_39 mz_X11_isUpTo lk_RX11_135 sm_X11_isUpTo rfl ⟨Nat.le_of_ble_eq_true rfl, Nat.le_of_ble_eq_true rfl⟩ (Nat.le_of_ble_eq_true rfl) (fun b_7 M_8 => ?_)
        refine mm_if_ne_b 47 dX11_stay_42 rfl ?_ ?_
        · refine mm_aload_n 0 dX11_stay_47 rfl ?_
          refine mm_getR 27 dX11_stay_48 fl_RX11_40 lo_0 rfl ?_
          refine mm_iload_n 2 dX11_stay_51 rfl ?_
          refine mm_callVi (as := [.int v2]) (st := []) (c_Register_holderOf_27 E v2 M_8) dX11_stay_52 mz_X7_holderOf lk_RX11_153 im_X7_holderOf se_X7_holderOf lo_27 rfl rfl rfl ⟨Nat.le_of_ble_eq_true rfl, Nat.le_of_ble_eq_true rfl⟩ (Nat.le_of_ble_eq_true rfl) (fun r_9 M_10 => ?_)
          refine mm_istore [1, 2, 3, 4, 5, 0] (lv2 := [(0, .ref 0), (1, .int v1), (2, .int v2), (3, .int v3), (4, .int v4), (5, .int r_9)]) dX11_stay_55 (by decide) rfl ?_
          refine mm_iload 5 dX11_stay_57 rfl ?_
          refine mm_iconst (v := (-1)) dX11_stay_59 rfl ?_
          refine mm_jnP (P := fun j => ∀ (M : mm_M), mm_G (fun x : Bool => some (.int (mm_b x))) E Y_X11_stay 5 71 [(0, .ref 0), (1, .int v1), (2, .int v2), (3, .int v3), (4, .int v4)] [] M (j M)) ?_ (fun j71 hj71 => ?_)
          · intro M_11
            refine mm_aload_n 0 dX11_stay_71 rfl ?_
            refine mm_getR 27 dX11_stay_72 fl_RX11_40 lo_0 rfl ?_
            refine mm_iload_n 1 dX11_stay_75 rfl ?_
            refine mm_iload_n 2 dX11_stay_76 rfl ?_
            refine mm_iload_n 3 dX11_stay_77 rfl ?_
            refine mm_iload 4 dX11_stay_78 rfl ?_
            refine mm_callVv (as := [.int v1, .int v2, .int v3, .int v4]) (st := []) (c_Register_write_27 E v1 v2 v3 v4 M_11) dX11_stay_80 mz_X7_write lk_RX11_157 im_X7_write se_X7_write lo_27 rfl rfl rfl ⟨Nat.le_of_ble_eq_true rfl, Nat.le_of_ble_eq_true rfl⟩ (Nat.le_of_ble_eq_true rfl) (fun u_12 M_13 => ?_)
            refine mm_iconst (v := 1) dX11_stay_83 rfl ?_
            exact mm_zret (b := true) dX11_stay_84 rfl
          refine mm_icmp_eq 71 dX11_stay_60 rfl ?_ ?_
          · refine mm_wk [0, 1, 2, 3, 4] rfl ?_
            exact hj71  M_10
          · refine mm_iload 5 dX11_stay_63 rfl ?_
            refine mm_iload_n 1 dX11_stay_65 rfl ?_
            refine mm_icmp_eq 71 dX11_stay_66 rfl ?_ ?_
            · refine mm_wk [0, 1, 2, 3, 4] rfl ?_
              exact hj71  M_10
            · refine mm_iconst (v := 0) dX11_stay_69 rfl ?_
              exact mm_zret (b := false) dX11_stay_70 rfl
        · refine mm_iconst (v := 0) dX11_stay_45 rfl ?_
          exact mm_zret (b := false) dX11_stay_46 rfl
def f_H_leave (v1 : Int32) (M : mm_M) : Option (Bool × mm_M) := mm_bd (f_Register_has_27 v1 M) fun b_1 M_2 => if b_1 = true then mm_let (mm_setI M_2 27 0 ((M_2.1 27 0) &&& ((1 <<< (v1 &&& 31)) ^^^ (-1)))) fun M_3 => some (true, M_3) else some (false, M_2)
set_option maxHeartbeats 4000000 in
theorem c_H_leave (E : mm_E) (v1 : Int32) (M : mm_M) : ∀ (r : Bool) (M2 : mm_M), f_H_leave v1 M = some (r, M2) → mm_P E Y_X11_leave 4 [.ref 0, .int v1] M (some (.int (mm_b r))) M2 := by
  refine mm_entry (em := (fun x : Bool => some (.int (mm_b x)))) (by decide +kernel) (Nat.le_of_ble_eq_true rfl) ?_
  show mm_G _ E _ _ 0 [(0, .ref 0), (1, .int v1)] [] M _
  unfold f_H_leave
  refine mm_aload_n 0 dX11_leave_0 rfl ?_
  refine mm_getR 27 dX11_leave_1 fl_RX11_40 lo_0 rfl ?_
  refine mm_iload_n 1 dX11_leave_4 rfl ?_
  refine mm_callVz (as := [.int v1]) (st := []) (c_Register_has_27 E v1 M) dX11_leave_5 mz_X7_has lk_RX11_161 im_X7_has se_X7_has lo_27 rfl rfl rfl ⟨Nat.le_of_ble_eq_true rfl, Nat.le_of_ble_eq_true rfl⟩ (Nat.le_of_ble_eq_true rfl) (fun b_1 M_2 => ?_)
  refine mm_if_ne_b 13 dX11_leave_8 rfl ?_ ?_
  · refine mm_aload_n 0 dX11_leave_13 rfl ?_
    refine mm_getR 27 dX11_leave_14 fl_RX11_40 lo_0 rfl ?_
    refine mm_dup dX11_leave_17 rfl ?_
    refine mm_getI dX11_leave_18 fl_RX11_164 lo_27 rfl ?_
    refine mm_iconst (v := 1) dX11_leave_21 rfl ?_
    refine mm_iload_n 1 dX11_leave_22 rfl ?_
    refine mm_ishl dX11_leave_23 ?_
    refine mm_iconst (v := (-1)) dX11_leave_24 rfl ?_
    refine mm_ixor dX11_leave_25 ?_
    refine mm_iand dX11_leave_26 ?_
    refine mm_putI dX11_leave_27 fp_RX11_164 lo_27 rfl ?_
    refine mm_nm_M (fun M_3 => ?_)
    refine mm_iconst (v := 1) dX11_leave_30 rfl ?_
    exact mm_zret (b := true) dX11_leave_31 rfl
  · refine mm_iconst (v := 0) dX11_leave_11 rfl ?_
    exact mm_zret (b := false) dX11_leave_12 rfl
def f_H_shift (v1 : Int32) (v2 : Int32) (M : mm_M) : Option (Bool × mm_M) := mm_bd (f_Register_has_27 v1 M) fun b_1 M_2 => if b_1 = true then if v2 < (-3) then some (false, M_2) else if v2 ≤ 3 then if mm_in v1 (mm_al 31) = true then mm_let (mm_setA M_2 31 (v1.toNatClampNeg) v2) fun M_3 => some (true, M_3) else none else some (false, M_2) else some (false, M_2)
set_option maxHeartbeats 4000000 in
theorem c_H_shift (E : mm_E) (v1 : Int32) (v2 : Int32) (M : mm_M) : ∀ (r : Bool) (M2 : mm_M), f_H_shift v1 v2 M = some (r, M2) → mm_P E Y_X11_shift 4 [.ref 0, .int v1, .int v2] M (some (.int (mm_b r))) M2 := by
  refine mm_entry (em := (fun x : Bool => some (.int (mm_b x)))) (by decide +kernel) (Nat.le_of_ble_eq_true rfl) ?_
  show mm_G _ E _ _ 0 [(0, .ref 0), (1, .int v1), (2, .int v2)] [] M _
  unfold f_H_shift
  refine mm_aload_n 0 dX11_shift_0 rfl ?_
  refine mm_getR 27 dX11_shift_1 fl_RX11_40 lo_0 rfl ?_
  refine mm_iload_n 1 dX11_shift_4 rfl ?_
  refine mm_callVz (as := [.int v1]) (st := []) (c_Register_has_27 E v1 M) dX11_shift_5 mz_X7_has lk_RX11_161 im_X7_has se_X7_has lo_27 rfl rfl rfl ⟨Nat.le_of_ble_eq_true rfl, Nat.le_of_ble_eq_true rfl⟩ (Nat.le_of_ble_eq_true rfl) (fun b_1 M_2 => ?_)
  refine mm_if_eq_b 22 dX11_shift_8 rfl ?_ ?_
  · refine mm_iconst (v := 0) dX11_shift_22 rfl ?_
    exact mm_zret (b := false) dX11_shift_23 rfl
  · refine mm_iload_n 2 dX11_shift_11 rfl ?_
    refine mm_bipush (v := (-3)) dX11_shift_12 rfl ?_
    refine mm_icmp_lt 22 dX11_shift_14 rfl ?_ ?_
    · refine mm_iconst (v := 0) dX11_shift_22 rfl ?_
      exact mm_zret (b := false) dX11_shift_23 rfl
    · refine mm_iload_n 2 dX11_shift_17 rfl ?_
      refine mm_iconst (v := 3) dX11_shift_18 rfl ?_
      refine mm_icmp_le 24 dX11_shift_19 rfl ?_ ?_
      · refine mm_aload_n 0 dX11_shift_24 rfl ?_
        refine mm_getR 27 dX11_shift_25 fl_RX11_40 lo_0 rfl ?_
        refine mm_getR 31 dX11_shift_28 fl_RX11_167 lo_27 rfl ?_
        refine mm_iload_n 1 dX11_shift_31 rfl ?_
        refine mm_iload_n 2 dX11_shift_32 rfl ?_
        refine mm_iastore dX11_shift_33 ?_
        refine mm_nm_M (fun M_3 => ?_)
        refine mm_iconst (v := 1) dX11_shift_34 rfl ?_
        exact mm_zret (b := true) dX11_shift_35 rfl
      · refine mm_iconst (v := 0) dX11_shift_22 rfl ?_
        exact mm_zret (b := false) dX11_shift_23 rfl
def f_Law_clear_46 (M : mm_M) : Option (Unit × mm_M) := mm_let (mm_setI M 46 2 0) fun M_1 => mm_let (mm_setI M_1 46 7 0) fun M_2 => some ((), M_2)
set_option maxHeartbeats 4000000 in
theorem c_Law_clear_46 (E : mm_E) (M : mm_M) : ∀ (r : Unit) (M2 : mm_M), f_Law_clear_46 M = some (r, M2) → mm_P E Y_X3_clear 1 [.ref 46] M none M2 := by
  refine mm_entry (em := (fun _ : Unit => none)) (by decide +kernel) (Nat.le_of_ble_eq_true rfl) ?_
  show mm_G _ E _ _ 0 [(0, .ref 46)] [] M _
  unfold f_Law_clear_46
  refine mm_aload_n 0 dX3_clear_0 rfl ?_
  refine mm_iconst (v := 0) dX3_clear_1 rfl ?_
  refine mm_putI dX3_clear_2 fp_RX3_36 lo_46 rfl ?_
  refine mm_nm_M (fun M_1 => ?_)
  refine mm_aload_n 0 dX3_clear_5 rfl ?_
  refine mm_iconst (v := 0) dX3_clear_6 rfl ?_
  refine mm_putI dX3_clear_7 fp_RX3_40 lo_46 rfl ?_
  refine mm_nm_M (fun M_2 => ?_)
  exact mm_vret dX3_clear_10 rfl
def f_String_isLatin1_141 (M : mm_M) : Option (Bool × mm_M) := if (1 : Int32) = 0 then some (false, M) else if (0 : Int32) = 0 then some (true, M) else some (false, M)
set_option maxHeartbeats 4000000 in
theorem c_String_isLatin1_141 (E : mm_E) (M : mm_M) : ∀ (r : Bool) (M2 : mm_M), f_String_isLatin1_141 M = some (r, M2) → mm_P E Y_J0_isLatin1_aae02 1 [.ref 141] M (some (.int (mm_b r))) M2 := by
  refine mm_entry (em := (fun x : Bool => some (.int (mm_b x)))) (by decide +kernel) (Nat.le_of_ble_eq_true rfl) ?_
  show mm_G _ E _ _ 0 [(0, .ref 141)] [] M _
  unfold f_String_isLatin1_141
  refine mm_gets dJ0_isLatin1_aae02_0 wf_RJ0_38 ?_
  refine mm_if_eq 17 dJ0_isLatin1_aae02_3 rfl ?_ ?_
  · refine mm_iconst (v := 0) dJ0_isLatin1_aae02_17 rfl ?_
    exact mm_zret (b := false) dJ0_isLatin1_aae02_18 rfl
  · refine mm_aload_n 0 dJ0_isLatin1_aae02_6 rfl ?_
    refine mm_getSc (j := 1) dJ0_isLatin1_aae02_7 wf_RJ0_15 (by decide) rfl ?_
    refine mm_if_ne 17 dJ0_isLatin1_aae02_10 rfl ?_ ?_
    · refine mm_iconst (v := 0) dJ0_isLatin1_aae02_17 rfl ?_
      exact mm_zret (b := false) dJ0_isLatin1_aae02_18 rfl
    · refine mm_iconst (v := 1) dJ0_isLatin1_aae02_13 rfl ?_
      refine mm_goto 18 dJ0_isLatin1_aae02_14 rfl ?_
      exact mm_zret (b := true) dJ0_isLatin1_aae02_18 rfl
def f_String_coder_141 (M : mm_M) : Option (Int32 × mm_M) := if (1 : Int32) = 0 then some (1, M) else some (0, M)
set_option maxHeartbeats 4000000 in
theorem c_String_coder_141 (E : mm_E) (M : mm_M) : ∀ (r : Int32) (M2 : mm_M), f_String_coder_141 M = some (r, M2) → mm_P E Y_J0_coder_7d493 1 [.ref 141] M (some (.int r)) M2 := by
  refine mm_entry (em := (fun x : Int32 => some (.int x))) (by decide +kernel) (Nat.le_of_ble_eq_true rfl) ?_
  show mm_G _ E _ _ 0 [(0, .ref 141)] [] M _
  unfold f_String_coder_141
  refine mm_gets dJ0_coder_7d493_0 wf_RJ0_38 ?_
  refine mm_if_eq 13 dJ0_coder_7d493_3 rfl ?_ ?_
  · refine mm_iconst (v := 1) dJ0_coder_7d493_13 rfl ?_
    exact mm_nret dJ0_coder_7d493_14 rfl rfl
  · refine mm_aload_n 0 dJ0_coder_7d493_6 rfl ?_
    refine mm_getSc (j := 1) dJ0_coder_7d493_7 wf_RJ0_15 (by decide) rfl ?_
    refine mm_goto 14 dJ0_coder_7d493_10 rfl ?_
    exact mm_nret dJ0_coder_7d493_14 rfl rfl
def f_String_length_141 (M : mm_M) : Option (Int32 × mm_M) := mm_bd (f_String_coder_141 M) fun r_1 M_2 => some (2 >>> (r_1 &&& 31), M_2)
set_option maxHeartbeats 4000000 in
theorem c_String_length_141 (E : mm_E) (M : mm_M) : ∀ (r : Int32) (M2 : mm_M), f_String_length_141 M = some (r, M2) → mm_P E Y_J0_length_8abf5 2 [.ref 141] M (some (.int r)) M2 := by
  refine mm_entry (em := (fun x : Int32 => some (.int x))) (by decide +kernel) (Nat.le_of_ble_eq_true rfl) ?_
  show mm_G _ E _ _ 0 [(0, .ref 141)] [] M _
  unfold f_String_length_141
  refine mm_aload_n 0 dJ0_length_8abf5_0 rfl ?_
  refine mm_getSv (j := 1) dJ0_length_8abf5_1 wf_RJ0_9 (by decide) rfl rfl ?_
  refine mm_alenS (j := 1) (v := 2) dJ0_length_8abf5_4 (by decide) rfl rfl ?_
  refine mm_aload_n 0 dJ0_length_8abf5_5 rfl ?_
  refine mm_callTi (as := []) (st := [.int 2]) (c_String_coder_141 E M) dJ0_length_8abf5_6 mz_J0_coder_7d493 lk_RJ0_335 im_J0_coder_7d493 se_J0_coder_7d493 sl_141 rfl rfl ⟨Nat.le_of_ble_eq_true rfl, Nat.le_of_ble_eq_true rfl⟩ (Nat.le_of_ble_eq_true rfl) (fun r_1 M_2 => ?_)
  refine mm_ishr dJ0_length_8abf5_9 ?_
  exact mm_iret dJ0_length_8abf5_10 rfl
def lp_StringLatin1_indexOfChar_147_7 (v3 : Int32) (v4 : Int32) (k22 : Int32 → mm_M → Option (Int32 × mm_M)) (k31 : mm_M → Option (Int32 × mm_M)) : Nat → Int32 → mm_M → Option (Int32 × mm_M)
  | 0, _, _ => none
  | n + 1, v5, M => if v3 ≤ v5 then k31 M else if mm_in v5 (mm_len.getD 1 0) = true then if (mm_byt.getD 1 []).getD v5.toNatClampNeg 0 = v4 then k22 v5 M else mm_let (v5 + 1) fun v5_2 => lp_StringLatin1_indexOfChar_147_7 v3 v4 k22 k31 n v5_2 M else none
set_option maxHeartbeats 4000000 in
theorem lp_StringLatin1_indexOfChar_147_7_ok (E : mm_E) (v3 : Int32) (v4 : Int32) {k22 : Int32 → mm_M → Option (Int32 × mm_M)} {k31 : mm_M → Option (Int32 × mm_M)} (hk22 : ∀ (v5 : Int32) (M : mm_M), mm_G (fun x : Int32 => some (.int x)) E Y_J1_indexOfChar_4cfef 1 22 [(5, .int v5)] [] M (k22 v5 M)) (hk31 : ∀ (M : mm_M), mm_G (fun x : Int32 => some (.int x)) E Y_J1_indexOfChar_4cfef 1 31 [] [] M (k31 M)) : ∀ (n : Nat) (v5 : Int32) (M : mm_M), mm_G (fun x : Int32 => some (.int x)) E Y_J1_indexOfChar_4cfef 1 7 [(0, .ref 147), (3, .int v3), (4, .int v4), (5, .int v5)] [] M (lp_StringLatin1_indexOfChar_147_7 v3 v4 k22 k31 n v5 M) := by
  intro n
  induction n with
  | zero => intro v5 M r M2 he; cases he
  | succ n ih =>
    intro v5 M
    rw [lp_StringLatin1_indexOfChar_147_7]
    refine mm_iload 3 dJ1_indexOfChar_4cfef_7 rfl ?_
    refine mm_iload_n 1 dJ1_indexOfChar_4cfef_9 rfl ?_
    refine mm_icmp_ge 31 dJ1_indexOfChar_4cfef_10 rfl ?_ ?_
    · refine mm_wk [] rfl ?_
      exact hk31  M
    · refine mm_aload_n 0 dJ1_indexOfChar_4cfef_13 rfl ?_
      refine mm_iload 3 dJ1_indexOfChar_4cfef_14 rfl ?_
      refine mm_baloadS (j := 1) dJ1_indexOfChar_4cfef_16 (by decide) rfl ?_
      refine mm_iload 2 dJ1_indexOfChar_4cfef_17 rfl ?_
      refine mm_icmp_ne 25 dJ1_indexOfChar_4cfef_19 rfl ?_ ?_
      · refine mm_iincN 3 [1, 2, 3, 0] (v := v5 + 1) (lv2 := fun v5_2 => [(0, .ref 147), (3, .int v3), (4, .int v4), (5, .int v5_2)]) dJ1_indexOfChar_4cfef_25 rfl rfl (by decide) (fun _ => rfl) (fun v5_2 => ?_)
        refine mm_goto 7 dJ1_indexOfChar_4cfef_28 rfl ?_
        exact ih v5_2 M
      · refine mm_wk [3] rfl ?_
        exact hk22 v5 M
def f_StringLatin1_indexOfChar_147 (v1 : Int32) (v2 : Int32) (v3 : Int32) (M : mm_M) : Option (Int32 × mm_M) := mm_let (v1.toInt8.toInt32) fun v4_1 => lp_StringLatin1_indexOfChar_147_7 v3 v4_1 (fun (v5 : Int32) (M_3 : mm_M) => some (v5, M_3)) (fun (M_4 : mm_M) => some ((-1), M_4)) mm_fu v2 M
set_option maxHeartbeats 4000000 in
theorem c_StringLatin1_indexOfChar_147 (E : mm_E) (v1 : Int32) (v2 : Int32) (v3 : Int32) (M : mm_M) : ∀ (r : Int32) (M2 : mm_M), f_StringLatin1_indexOfChar_147 v1 v2 v3 M = some (r, M2) → mm_P E Y_J1_indexOfChar_4cfef 1 [.ref 147, .int v1, .int v2, .int v3] M (some (.int r)) M2 := by
  refine mm_entry (em := (fun x : Int32 => some (.int x))) (by decide +kernel) (Nat.le_of_ble_eq_true rfl) ?_
  show mm_G _ E _ _ 0 [(0, .ref 147), (1, .int v1), (2, .int v2), (3, .int v3)] [] M _
  unfold f_StringLatin1_indexOfChar_147
  refine mm_iload_n 1 dJ1_indexOfChar_4cfef_0 rfl ?_
  refine mm_i2b dJ1_indexOfChar_4cfef_1 ?_
  refine mm_nm_int (fun v4_1 => ?_)
  refine mm_istore [1, 2, 3, 4, 0] (lv2 := [(0, .ref 147), (1, .int v1), (2, .int v2), (3, .int v3), (4, .int v4_1)]) dJ1_indexOfChar_4cfef_2 (by decide) rfl ?_
  refine mm_iload_n 2 dJ1_indexOfChar_4cfef_4 rfl ?_
  refine mm_istore [1, 2, 3, 4, 5, 0] (lv2 := [(0, .ref 147), (1, .int v1), (2, .int v2), (3, .int v3), (4, .int v4_1), (5, .int v2)]) dJ1_indexOfChar_4cfef_5 (by decide) rfl ?_
  refine mm_wk [0, 3, 4, 5] rfl ?_
  refine lp_StringLatin1_indexOfChar_147_7_ok E v3 v4_1 ?_ ?_ mm_fu v2 M
  · intro v5 M_3
    refine mm_iload 0 dJ1_indexOfChar_4cfef_22 rfl ?_
    exact mm_iret dJ1_indexOfChar_4cfef_24 rfl
  · intro M_4
    refine mm_iconst (v := (-1)) dJ1_indexOfChar_4cfef_31 rfl ?_
    exact mm_iret dJ1_indexOfChar_4cfef_32 rfl
