def lp_R_types_2 (v1 : Int32) (k38 : mm_M → Option (Unit × mm_M)) : Nat → Int32 → mm_M → Option (Unit × mm_M)
  | 0, _, _ => none
  | n + 1, v2, M => if v2 < 0 then k38 M else if mm_in (M.1 97 1) (mm_bl 98) = true then mm_let (mm_setA M 98 ((M.1 97 1).toNatClampNeg) (((v1 >>> ((8 * v2) &&& 31)).toInt8.toInt32).toInt8.toInt32)) fun M_1 => mm_let (mm_setI M_1 97 1 ((M_1.1 97 1) + 1)) fun M_2 => mm_let (v2 + (-1)) fun v2_3 => lp_R_types_2 v1 k38 n v2_3 M_2 else none
set_option maxHeartbeats 4000000 in
theorem lp_R_types_2_ok (E : mm_E) (v1 : Int32) {k38 : mm_M → Option (Unit × mm_M)} (hk38 : ∀ (M : mm_M), mm_G (fun _ : Unit => none) E Y_X12_types 1 38 [] [] M (k38 M)) : ∀ (n : Nat) (v2 : Int32) (M : mm_M), mm_G (fun _ : Unit => none) E Y_X12_types 1 2 [(0, .ref 97), (1, .int v1), (2, .int v2)] [] M (lp_R_types_2 v1 k38 n v2 M) := by
  intro n
  induction n with
  | zero => intro v2 M r M2 he; cases he
  | succ n ih =>
    intro v2 M
    rw [lp_R_types_2]
    refine mm_iload_n 2 dX12_types_2 rfl ?_
    refine mm_if_lt 38 dX12_types_3 rfl ?_ ?_
    · refine mm_wk [] rfl ?_
      exact hk38  M
    · refine mm_aload_n 0 dX12_types_6 rfl ?_
      refine mm_getR 98 dX12_types_7 fl_RX12_7 lo_97 rfl ?_
      refine mm_aload_n 0 dX12_types_10 rfl ?_
      refine mm_getI dX12_types_11 fl_RX12_144 lo_97 rfl ?_
      refine mm_iload_n 1 dX12_types_14 rfl ?_
      refine mm_bipush (v := 8) dX12_types_15 rfl ?_
      refine mm_iload_n 2 dX12_types_17 rfl ?_
      refine mm_imul dX12_types_18 ?_
      refine mm_ishr dX12_types_19 ?_
      refine mm_i2b dX12_types_20 ?_
      refine mm_bastore dX12_types_21 ?_
      refine mm_nm_M (fun M_1 => ?_)
      refine mm_aload_n 0 dX12_types_22 rfl ?_
      refine mm_aload_n 0 dX12_types_23 rfl ?_
      refine mm_getI dX12_types_24 fl_RX12_144 lo_97 rfl ?_
      refine mm_iconst (v := 1) dX12_types_27 rfl ?_
      refine mm_iadd dX12_types_28 ?_
      refine mm_putI dX12_types_29 fp_RX12_144 lo_97 rfl ?_
      refine mm_nm_M (fun M_2 => ?_)
      refine mm_iincN 2 [1, 2, 0] (v := v2 + (-1)) (lv2 := fun v2_3 => [(0, .ref 97), (1, .int v1), (2, .int v2_3)]) dX12_types_32 rfl rfl (by decide) (fun _ => rfl) (fun v2_3 => ?_)
      refine mm_goto 2 dX12_types_35 rfl ?_
      exact ih v2_3 M_2
def f_R_types (v1 : Int32) (M : mm_M) : Option (Unit × mm_M) := lp_R_types_2 v1 (fun (M_4 : mm_M) => some ((), M_4)) mm_fu 3 M
set_option maxHeartbeats 4000000 in
theorem c_R_types (E : mm_E) (v1 : Int32) (M : mm_M) : ∀ (r : Unit) (M2 : mm_M), f_R_types v1 M = some (r, M2) → mm_P E Y_X12_types 1 [.ref 97, .int v1] M none M2 := by
  refine mm_entry (em := (fun _ : Unit => none)) (by decide +kernel) (Nat.le_of_ble_eq_true rfl) ?_
  show mm_G _ E _ _ 0 [(0, .ref 97), (1, .int v1)] [] M _
  unfold f_R_types
  refine mm_iconst (v := 3) dX12_types_0 rfl ?_
  refine mm_istore_n [1, 2, 0] (lv2 := [(0, .ref 97), (1, .int v1), (2, .int 3)]) dX12_types_1 (by decide) rfl ?_
  refine lp_R_types_2_ok E v1 ?_ mm_fu 3 M
  · intro M_4
    exact mm_vret dX12_types_38 rfl
def f_R_feed (v1 : Int32) (v2 : Int32) (v3 : Int32) (v4 : Int32) (v5 : Int32) (M : mm_M) : Option (Int32 × mm_M) := if (M.1 97 1) + 20 ≤ 200 then mm_bd (f_R_types v1 M) fun u_1 M_2 => mm_bd (f_R_types v2 M_2) fun u_3 M_4 => mm_bd (f_R_types v3 M_4) fun u_5 M_6 => mm_bd (f_R_types v4 M_6) fun u_7 M_8 => mm_bd (f_R_types v5 M_8) fun u_9 M_10 => some (M_10.1 97 1, M_10) else some ((-1), M)
set_option maxHeartbeats 4000000 in
theorem c_R_feed (E : mm_E) (v1 : Int32) (v2 : Int32) (v3 : Int32) (v4 : Int32) (v5 : Int32) (M : mm_M) : ∀ (r : Int32) (M2 : mm_M), f_R_feed v1 v2 v3 v4 v5 M = some (r, M2) → mm_P E Y_X12_feed 2 [.ref 97, .int v1, .int v2, .int v3, .int v4, .int v5] M (some (.int r)) M2 := by
  refine mm_entry (em := (fun x : Int32 => some (.int x))) (by decide +kernel) (Nat.le_of_ble_eq_true rfl) ?_
  show mm_G _ E _ _ 0 [(0, .ref 97), (1, .int v1), (2, .int v2), (3, .int v3), (4, .int v4), (5, .int v5)] [] M _
  unfold f_R_feed
  refine mm_aload_n 0 dX12_feed_0 rfl ?_
  refine mm_getI dX12_feed_1 fl_RX12_144 lo_97 rfl ?_
  refine mm_bipush (v := 20) dX12_feed_4 rfl ?_
  refine mm_iadd dX12_feed_6 ?_
  refine mm_sipush (v := 200) dX12_feed_7 rfl ?_
  refine mm_icmp_le 15 dX12_feed_10 rfl ?_ ?_
  · refine mm_aload_n 0 dX12_feed_15 rfl ?_
    refine mm_iload_n 1 dX12_feed_16 rfl ?_
    refine mm_callVv (as := [.int v1]) (st := []) (c_R_types E v1 M) dX12_feed_17 mz_X12_types lk_RX12_147 im_X12_types se_X12_types lo_97 rfl rfl rfl ⟨Nat.le_of_ble_eq_true rfl, Nat.le_of_ble_eq_true rfl⟩ (Nat.le_of_ble_eq_true rfl) (fun u_1 M_2 => ?_)
    refine mm_aload_n 0 dX12_feed_20 rfl ?_
    refine mm_iload_n 2 dX12_feed_21 rfl ?_
    refine mm_callVv (as := [.int v2]) (st := []) (c_R_types E v2 M_2) dX12_feed_22 mz_X12_types lk_RX12_147 im_X12_types se_X12_types lo_97 rfl rfl rfl ⟨Nat.le_of_ble_eq_true rfl, Nat.le_of_ble_eq_true rfl⟩ (Nat.le_of_ble_eq_true rfl) (fun u_3 M_4 => ?_)
    refine mm_aload_n 0 dX12_feed_25 rfl ?_
    refine mm_iload_n 3 dX12_feed_26 rfl ?_
    refine mm_callVv (as := [.int v3]) (st := []) (c_R_types E v3 M_4) dX12_feed_27 mz_X12_types lk_RX12_147 im_X12_types se_X12_types lo_97 rfl rfl rfl ⟨Nat.le_of_ble_eq_true rfl, Nat.le_of_ble_eq_true rfl⟩ (Nat.le_of_ble_eq_true rfl) (fun u_5 M_6 => ?_)
    refine mm_aload_n 0 dX12_feed_30 rfl ?_
    refine mm_iload 4 dX12_feed_31 rfl ?_
    refine mm_callVv (as := [.int v4]) (st := []) (c_R_types E v4 M_6) dX12_feed_33 mz_X12_types lk_RX12_147 im_X12_types se_X12_types lo_97 rfl rfl rfl ⟨Nat.le_of_ble_eq_true rfl, Nat.le_of_ble_eq_true rfl⟩ (Nat.le_of_ble_eq_true rfl) (fun u_7 M_8 => ?_)
    refine mm_aload_n 0 dX12_feed_36 rfl ?_
    refine mm_iload 5 dX12_feed_37 rfl ?_
    refine mm_callVv (as := [.int v5]) (st := []) (c_R_types E v5 M_8) dX12_feed_39 mz_X12_types lk_RX12_147 im_X12_types se_X12_types lo_97 rfl rfl rfl ⟨Nat.le_of_ble_eq_true rfl, Nat.le_of_ble_eq_true rfl⟩ (Nat.le_of_ble_eq_true rfl) (fun u_9 M_10 => ?_)
    refine mm_aload_n 0 dX12_feed_42 rfl ?_
    refine mm_getI dX12_feed_43 fl_RX12_144 lo_97 rfl ?_
    exact mm_iret dX12_feed_46 rfl
  · refine mm_iconst (v := (-1)) dX12_feed_13 rfl ?_
    exact mm_iret dX12_feed_14 rfl
def f_R_in (v0 : Int32) (v1 : Int32) (v2 : Int32) (M : mm_M) : Option (Bool × mm_M) := if v0 < v1 then some (false, M) else if v2 < v0 then some (false, M) else some (true, M)
set_option maxHeartbeats 4000000 in
theorem c_R_in (E : mm_E) (v0 : Int32) (v1 : Int32) (v2 : Int32) (M : mm_M) : ∀ (r : Bool) (M2 : mm_M), f_R_in v0 v1 v2 M = some (r, M2) → mm_P E Y_X12_in 1 [.int v0, .int v1, .int v2] M (some (.int (mm_b r))) M2 := by
  refine mm_entry (em := (fun x : Bool => some (.int (mm_b x)))) (by decide +kernel) (Nat.le_of_ble_eq_true rfl) ?_
  show mm_G _ E _ _ 0 [(0, .int v0), (1, .int v1), (2, .int v2)] [] M _
  unfold f_R_in
  refine mm_iload_n 0 dX12_in_0 rfl ?_
  refine mm_iload_n 1 dX12_in_1 rfl ?_
  refine mm_icmp_lt 14 dX12_in_2 rfl ?_ ?_
  · refine mm_iconst (v := 0) dX12_in_14 rfl ?_
    exact mm_zret (b := false) dX12_in_15 rfl
  · refine mm_iload_n 0 dX12_in_5 rfl ?_
    refine mm_iload_n 2 dX12_in_6 rfl ?_
    refine mm_icmp_gt 14 dX12_in_7 rfl ?_ ?_
    · refine mm_iconst (v := 0) dX12_in_14 rfl ?_
      exact mm_zret (b := false) dX12_in_15 rfl
    · refine mm_iconst (v := 1) dX12_in_10 rfl ?_
      refine mm_goto 15 dX12_in_11 rfl ?_
      exact mm_zret (b := true) dX12_in_15 rfl
def f_R_here (M : mm_M) : Option (Int32 × mm_M) := if M.1 97 3 ≤ M.1 97 2 then some ((-1), M) else if mm_in (M.1 97 2) (mm_bl 98) = true then some ((M.2.1 98 (M.1 97 2).toNatClampNeg) &&& 255, M) else none
set_option maxHeartbeats 4000000 in
theorem c_R_here (E : mm_E) (M : mm_M) : ∀ (r : Int32) (M2 : mm_M), f_R_here M = some (r, M2) → mm_P E Y_X12_here 1 [.ref 97] M (some (.int r)) M2 := by
  refine mm_entry (em := (fun x : Int32 => some (.int x))) (by decide +kernel) (Nat.le_of_ble_eq_true rfl) ?_
  show mm_G _ E _ _ 0 [(0, .ref 97)] [] M _
  unfold f_R_here
  refine mm_aload_n 0 dX12_here_0 rfl ?_
  refine mm_getI dX12_here_1 fl_RX12_151 lo_97 rfl ?_
  refine mm_aload_n 0 dX12_here_4 rfl ?_
  refine mm_getI dX12_here_5 fl_RX12_187 lo_97 rfl ?_
  refine mm_icmp_ge 27 dX12_here_8 rfl ?_ ?_
  · refine mm_iconst (v := (-1)) dX12_here_27 rfl ?_
    exact mm_iret dX12_here_28 rfl
  · refine mm_aload_n 0 dX12_here_11 rfl ?_
    refine mm_getR 98 dX12_here_12 fl_RX12_7 lo_97 rfl ?_
    refine mm_aload_n 0 dX12_here_15 rfl ?_
    refine mm_getI dX12_here_16 fl_RX12_151 lo_97 rfl ?_
    refine mm_baload dX12_here_19 ?_
    refine mm_sipush (v := 255) dX12_here_20 rfl ?_
    refine mm_iand dX12_here_23 ?_
    refine mm_goto 28 dX12_here_24 rfl ?_
    exact mm_iret dX12_here_28 rfl
def f_R_isDigit (M : mm_M) : Option (Bool × mm_M) := mm_bd (f_R_here M) fun r_1 M_2 => if r_1 < 48 then some (false, M_2) else mm_bd (f_R_here M_2) fun r_3 M_4 => if 57 < r_3 then some (false, M_4) else some (true, M_4)
set_option maxHeartbeats 4000000 in
theorem c_R_isDigit (E : mm_E) (M : mm_M) : ∀ (r : Bool) (M2 : mm_M), f_R_isDigit M = some (r, M2) → mm_P E Y_X12_isDigit 2 [.ref 97] M (some (.int (mm_b r))) M2 := by
  refine mm_entry (em := (fun x : Bool => some (.int (mm_b x)))) (by decide +kernel) (Nat.le_of_ble_eq_true rfl) ?_
  show mm_G _ E _ _ 0 [(0, .ref 97)] [] M _
  unfold f_R_isDigit
  refine mm_aload_n 0 dX12_isDigit_0 rfl ?_
  refine mm_callVi (as := []) (st := []) (c_R_here E M) dX12_isDigit_1 mz_X12_here lk_RX12_165 im_X12_here se_X12_here lo_97 rfl rfl rfl ⟨Nat.le_of_ble_eq_true rfl, Nat.le_of_ble_eq_true rfl⟩ (Nat.le_of_ble_eq_true rfl) (fun r_1 M_2 => ?_)
  refine mm_bipush (v := 48) dX12_isDigit_4 rfl ?_
  refine mm_icmp_lt 22 dX12_isDigit_6 rfl ?_ ?_
  · refine mm_iconst (v := 0) dX12_isDigit_22 rfl ?_
    exact mm_zret (b := false) dX12_isDigit_23 rfl
  · refine mm_aload_n 0 dX12_isDigit_9 rfl ?_
    refine mm_callVi (as := []) (st := []) (c_R_here E M_2) dX12_isDigit_10 mz_X12_here lk_RX12_165 im_X12_here se_X12_here lo_97 rfl rfl rfl ⟨Nat.le_of_ble_eq_true rfl, Nat.le_of_ble_eq_true rfl⟩ (Nat.le_of_ble_eq_true rfl) (fun r_3 M_4 => ?_)
    refine mm_bipush (v := 57) dX12_isDigit_13 rfl ?_
    refine mm_icmp_gt 22 dX12_isDigit_15 rfl ?_ ?_
    · refine mm_iconst (v := 0) dX12_isDigit_22 rfl ?_
      exact mm_zret (b := false) dX12_isDigit_23 rfl
    · refine mm_iconst (v := 1) dX12_isDigit_18 rfl ?_
      refine mm_goto 23 dX12_isDigit_19 rfl ?_
      exact mm_zret (b := true) dX12_isDigit_23 rfl
def f_R_wrongAt (v1 : Int32) (v2 : Int32) (M : mm_M) : Option (Bool × mm_M) := mm_let (mm_setI M 97 4 (((-1000) * v1) - v2)) fun M_1 => some (false, M_1)
set_option maxHeartbeats 4000000 in
theorem c_R_wrongAt (E : mm_E) (v1 : Int32) (v2 : Int32) (M : mm_M) : ∀ (r : Bool) (M2 : mm_M), f_R_wrongAt v1 v2 M = some (r, M2) → mm_P E Y_X12_wrongAt 1 [.ref 97, .int v1, .int v2] M (some (.int (mm_b r))) M2 := by
  refine mm_entry (em := (fun x : Bool => some (.int (mm_b x)))) (by decide +kernel) (Nat.le_of_ble_eq_true rfl) ?_
  show mm_G _ E _ _ 0 [(0, .ref 97), (1, .int v1), (2, .int v2)] [] M _
  unfold f_R_wrongAt
  refine mm_aload_n 0 dX12_wrongAt_0 rfl ?_
  refine mm_sipush (v := (-1000)) dX12_wrongAt_1 rfl ?_
  refine mm_iload_n 1 dX12_wrongAt_4 rfl ?_
  refine mm_imul dX12_wrongAt_5 ?_
  refine mm_iload_n 2 dX12_wrongAt_6 rfl ?_
  refine mm_isub dX12_wrongAt_7 ?_
  refine mm_putI dX12_wrongAt_8 fp_RX12_193 lo_97 rfl ?_
  refine mm_nm_M (fun M_1 => ?_)
  refine mm_iconst (v := 0) dX12_wrongAt_11 rfl ?_
  exact mm_zret (b := false) dX12_wrongAt_12 rfl
def lp_R_readsTwo_10 (v1 : Int32) (k27 : mm_M → Option (Bool × mm_M)) (k69 : mm_M → Option (Bool × mm_M)) : Nat → mm_M → Option (Bool × mm_M)
  | 0, _ => none
  | n + 1, M => mm_bd (f_R_isDigit M) fun b_3 M_4 => if b_3 = true then if M_4.1 97 2 = v1 + 2 then k27 M_4 else mm_bd (f_R_here M_4) fun r_5 M_6 => mm_let (mm_setI M_6 97 5 (((10 * (M_4.1 97 5)) + r_5) - 48)) fun M_7 => mm_let (mm_setI M_7 97 2 ((M_7.1 97 2) + 1)) fun M_8 => lp_R_readsTwo_10 v1 k27 k69 n M_8 else k69 M_4
set_option maxHeartbeats 4000000 in
theorem lp_R_readsTwo_10_ok (E : mm_E) (v1 : Int32) {k27 : mm_M → Option (Bool × mm_M)} {k69 : mm_M → Option (Bool × mm_M)} (hk27 : ∀ (M : mm_M), mm_G (fun x : Bool => some (.int (mm_b x))) E Y_X12_readsTwo 3 27 [(0, .ref 97)] [] M (k27 M)) (hk69 : ∀ (M : mm_M), mm_G (fun x : Bool => some (.int (mm_b x))) E Y_X12_readsTwo 3 69 [(0, .ref 97), (1, .int v1)] [] M (k69 M)) : ∀ (n : Nat) (M : mm_M), mm_G (fun x : Bool => some (.int (mm_b x))) E Y_X12_readsTwo 3 10 [(0, .ref 97), (1, .int v1)] [] M (lp_R_readsTwo_10 v1 k27 k69 n M) := by
  intro n
  induction n with
  | zero => intro M r M2 he; cases he
  | succ n ih =>
    intro M
    rw [lp_R_readsTwo_10]
    refine mm_aload_n 0 dX12_readsTwo_10 rfl ?_
    refine mm_callVz (as := []) (st := []) (c_R_isDigit E M) dX12_readsTwo_11 mz_X12_isDigit lk_RX12_157 im_X12_isDigit se_X12_isDigit lo_97 rfl rfl rfl ⟨Nat.le_of_ble_eq_true rfl, Nat.le_of_ble_eq_true rfl⟩ (Nat.le_of_ble_eq_true rfl) (fun b_3 M_4 => ?_)
    refine mm_if_eq_b 69 dX12_readsTwo_14 rfl ?_ ?_
    · exact hk69  M_4
    · refine mm_aload_n 0 dX12_readsTwo_17 rfl ?_
      refine mm_getI dX12_readsTwo_18 fl_RX12_151 lo_97 rfl ?_
      refine mm_iload_n 1 dX12_readsTwo_21 rfl ?_
      refine mm_iconst (v := 2) dX12_readsTwo_22 rfl ?_
      refine mm_iadd dX12_readsTwo_23 ?_
      refine mm_icmp_ne 37 dX12_readsTwo_24 rfl ?_ ?_
      · refine mm_aload_n 0 dX12_readsTwo_37 rfl ?_
        refine mm_bipush (v := 10) dX12_readsTwo_38 rfl ?_
        refine mm_aload_n 0 dX12_readsTwo_40 rfl ?_
        refine mm_getI dX12_readsTwo_41 fl_RX12_154 lo_97 rfl ?_
        refine mm_imul dX12_readsTwo_44 ?_
        refine mm_aload_n 0 dX12_readsTwo_45 rfl ?_
        refine mm_callVi (as := []) (st := [.int (10 * (M_4.1 97 5)), .ref 97]) (c_R_here E M_4) dX12_readsTwo_46 mz_X12_here lk_RX12_165 im_X12_here se_X12_here lo_97 rfl rfl rfl ⟨Nat.le_of_ble_eq_true rfl, Nat.le_of_ble_eq_true rfl⟩ (Nat.le_of_ble_eq_true rfl) (fun r_5 M_6 => ?_)
        refine mm_iadd dX12_readsTwo_49 ?_
        refine mm_bipush (v := 48) dX12_readsTwo_50 rfl ?_
        refine mm_isub dX12_readsTwo_52 ?_
        refine mm_putI dX12_readsTwo_53 fp_RX12_154 lo_97 rfl ?_
        refine mm_nm_M (fun M_7 => ?_)
        refine mm_aload_n 0 dX12_readsTwo_56 rfl ?_
        refine mm_aload_n 0 dX12_readsTwo_57 rfl ?_
        refine mm_getI dX12_readsTwo_58 fl_RX12_151 lo_97 rfl ?_
        refine mm_iconst (v := 1) dX12_readsTwo_61 rfl ?_
        refine mm_iadd dX12_readsTwo_62 ?_
        refine mm_putI dX12_readsTwo_63 fp_RX12_151 lo_97 rfl ?_
        refine mm_nm_M (fun M_8 => ?_)
        refine mm_goto 10 dX12_readsTwo_66 rfl ?_
        exact ih  M_8
      · refine mm_wk [0] rfl ?_
        exact hk27  M_4
def f_R_readsTwo (M : mm_M) : Option (Bool × mm_M) := mm_let (M.1 97 2) fun v1_1 => mm_let (mm_setI M 97 5 0) fun M_2 => lp_R_readsTwo_10 v1_1 (fun (M_9 : mm_M) => mm_bd (f_R_wrongAt 1 (M_9.1 97 2) M_9) fun b_10 M_11 => some (b_10, M_11)) (fun (M_12 : mm_M) => mm_jn (fun (M_13 : mm_M) => some (true, M_13)) fun j89 => if v1_1 < M_12.1 97 2 then j89 M_12 else mm_bd (f_R_wrongAt 1 (M_12.1 97 2) M_12) fun b_14 M_15 => if b_14 = true then j89 M_15 else some (false, M_15)) mm_fu M_2
set_option maxHeartbeats 4000000 in
theorem c_R_readsTwo (E : mm_E) (M : mm_M) : ∀ (r : Bool) (M2 : mm_M), f_R_readsTwo M = some (r, M2) → mm_P E Y_X12_readsTwo 3 [.ref 97] M (some (.int (mm_b r))) M2 := by
  refine mm_entry (em := (fun x : Bool => some (.int (mm_b x)))) (by decide +kernel) (Nat.le_of_ble_eq_true rfl) ?_
  show mm_G _ E _ _ 0 [(0, .ref 97)] [] M _
  unfold f_R_readsTwo
  refine mm_aload_n 0 dX12_readsTwo_0 rfl ?_
  refine mm_getI dX12_readsTwo_1 fl_RX12_151 lo_97 rfl ?_
  refine mm_nm_int (fun v1_1 => ?_)
  refine mm_istore_n [1, 0] (lv2 := [(0, .ref 97), (1, .int v1_1)]) dX12_readsTwo_4 (by decide) rfl ?_
  refine mm_aload_n 0 dX12_readsTwo_5 rfl ?_
  refine mm_iconst (v := 0) dX12_readsTwo_6 rfl ?_
  refine mm_putI dX12_readsTwo_7 fp_RX12_154 lo_97 rfl ?_
  refine mm_nm_M (fun M_2 => ?_)
  refine lp_R_readsTwo_10_ok E v1_1 ?_ ?_ mm_fu M_2
  · intro M_9
    refine mm_aload_n 0 dX12_readsTwo_27 rfl ?_
    refine mm_iconst (v := 1) dX12_readsTwo_28 rfl ?_
    refine mm_aload_n 0 dX12_readsTwo_29 rfl ?_
    refine mm_getI dX12_readsTwo_30 fl_RX12_151 lo_97 rfl ?_
    refine mm_callVz (as := [.int 1, .int (M_9.1 97 2)]) (st := []) (c_R_wrongAt E 1 (M_9.1 97 2) M_9) dX12_readsTwo_33 mz_X12_wrongAt lk_RX12_161 im_X12_wrongAt se_X12_wrongAt lo_97 rfl rfl rfl ⟨Nat.le_of_ble_eq_true rfl, Nat.le_of_ble_eq_true rfl⟩ (Nat.le_of_ble_eq_true rfl) (fun b_10 M_11 => ?_)
    exact mm_zret (b := b_10) dX12_readsTwo_36 rfl
  · intro M_12
    refine mm_aload_n 0 dX12_readsTwo_69 rfl ?_
    refine mm_getI dX12_readsTwo_70 fl_RX12_151 lo_97 rfl ?_
    refine mm_iload_n 1 dX12_readsTwo_73 rfl ?_
    refine mm_jnP (P := fun j => ∀ (M : mm_M), mm_G (fun x : Bool => some (.int (mm_b x))) E Y_X12_readsTwo 3 89 [] [] M (j M)) ?_ (fun j89 hj89 => ?_)
    · intro M_13
      refine mm_iconst (v := 1) dX12_readsTwo_89 rfl ?_
      refine mm_goto 94 dX12_readsTwo_90 rfl ?_
      exact mm_zret (b := true) dX12_readsTwo_94 rfl
    refine mm_icmp_gt 89 dX12_readsTwo_74 rfl ?_ ?_
    · refine mm_wk [] rfl ?_
      exact hj89  M_12
    · refine mm_aload_n 0 dX12_readsTwo_77 rfl ?_
      refine mm_iconst (v := 1) dX12_readsTwo_78 rfl ?_
      refine mm_aload_n 0 dX12_readsTwo_79 rfl ?_
      refine mm_getI dX12_readsTwo_80 fl_RX12_151 lo_97 rfl ?_
      refine mm_callVz (as := [.int 1, .int (M_12.1 97 2)]) (st := []) (c_R_wrongAt E 1 (M_12.1 97 2) M_12) dX12_readsTwo_83 mz_X12_wrongAt lk_RX12_161 im_X12_wrongAt se_X12_wrongAt lo_97 rfl rfl rfl ⟨Nat.le_of_ble_eq_true rfl, Nat.le_of_ble_eq_true rfl⟩ (Nat.le_of_ble_eq_true rfl) (fun b_14 M_15 => ?_)
      refine mm_if_eq_b 93 dX12_readsTwo_86 rfl ?_ ?_
      · refine mm_iconst (v := 0) dX12_readsTwo_93 rfl ?_
        exact mm_zret (b := false) dX12_readsTwo_94 rfl
      · refine mm_wk [] rfl ?_
        exact hj89  M_15
def f_R_takes (v1 : Int32) (M : mm_M) : Option (Bool × mm_M) := mm_bd (f_R_here M) fun r_1 M_2 => if r_1 = v1 then mm_let (mm_setI M_2 97 2 ((M_2.1 97 2) + 1)) fun M_3 => some (true, M_3) else mm_bd (f_R_wrongAt 1 (M_2.1 97 2) M_2) fun b_4 M_5 => some (b_4, M_5)
set_option maxHeartbeats 4000000 in
theorem c_R_takes (E : mm_E) (v1 : Int32) (M : mm_M) : ∀ (r : Bool) (M2 : mm_M), f_R_takes v1 M = some (r, M2) → mm_P E Y_X12_takes 2 [.ref 97, .int v1] M (some (.int (mm_b r))) M2 := by
  refine mm_entry (em := (fun x : Bool => some (.int (mm_b x)))) (by decide +kernel) (Nat.le_of_ble_eq_true rfl) ?_
  show mm_G _ E _ _ 0 [(0, .ref 97), (1, .int v1)] [] M _
  unfold f_R_takes
  refine mm_aload_n 0 dX12_takes_0 rfl ?_
  refine mm_callVi (as := []) (st := []) (c_R_here E M) dX12_takes_1 mz_X12_here lk_RX12_165 im_X12_here se_X12_here lo_97 rfl rfl rfl ⟨Nat.le_of_ble_eq_true rfl, Nat.le_of_ble_eq_true rfl⟩ (Nat.le_of_ble_eq_true rfl) (fun r_1 M_2 => ?_)
  refine mm_iload_n 1 dX12_takes_4 rfl ?_
  refine mm_icmp_eq 18 dX12_takes_5 rfl ?_ ?_
  · refine mm_aload_n 0 dX12_takes_18 rfl ?_
    refine mm_aload_n 0 dX12_takes_19 rfl ?_
    refine mm_getI dX12_takes_20 fl_RX12_151 lo_97 rfl ?_
    refine mm_iconst (v := 1) dX12_takes_23 rfl ?_
    refine mm_iadd dX12_takes_24 ?_
    refine mm_putI dX12_takes_25 fp_RX12_151 lo_97 rfl ?_
    refine mm_nm_M (fun M_3 => ?_)
    refine mm_iconst (v := 1) dX12_takes_28 rfl ?_
    exact mm_zret (b := true) dX12_takes_29 rfl
  · refine mm_aload_n 0 dX12_takes_8 rfl ?_
    refine mm_iconst (v := 1) dX12_takes_9 rfl ?_
    refine mm_aload_n 0 dX12_takes_10 rfl ?_
    refine mm_getI dX12_takes_11 fl_RX12_151 lo_97 rfl ?_
    refine mm_callVz (as := [.int 1, .int (M_2.1 97 2)]) (st := []) (c_R_wrongAt E 1 (M_2.1 97 2) M_2) dX12_takes_14 mz_X12_wrongAt lk_RX12_161 im_X12_wrongAt se_X12_wrongAt lo_97 rfl rfl rfl ⟨Nat.le_of_ble_eq_true rfl, Nat.le_of_ble_eq_true rfl⟩ (Nat.le_of_ble_eq_true rfl) (fun b_4 M_5 => ?_)
    exact mm_zret (b := b_4) dX12_takes_17 rfl
def lp_R_readsHour_10 (v1 : Int32) (v2 : Int32) (v3 : Int32) (k59 : mm_M → Option (Bool × mm_M)) : Nat → mm_M → Option (Bool × mm_M)
  | 0, _ => none
  | n + 1, M => mm_bd (f_R_isDigit M) fun b_3 M_4 => if b_3 = true then if v3 + 2 ≤ M_4.1 97 2 then k59 M_4 else mm_bd (f_R_here M_4) fun r_5 M_6 => mm_let (mm_setI M_6 97 5 (((10 * (M_4.1 97 5)) + r_5) - 48)) fun M_7 => mm_let (mm_setI M_7 97 2 ((M_7.1 97 2) + 1)) fun M_8 => lp_R_readsHour_10 v1 v2 v3 k59 n M_8 else k59 M_4
set_option maxHeartbeats 4000000 in
theorem lp_R_readsHour_10_ok (E : mm_E) (v1 : Int32) (v2 : Int32) (v3 : Int32) {k59 : mm_M → Option (Bool × mm_M)} (hk59 : ∀ (M : mm_M), mm_G (fun x : Bool => some (.int (mm_b x))) E Y_X12_readsHour 3 59 [(0, .ref 97), (1, .int v1), (2, .int v2), (3, .int v3)] [] M (k59 M)) : ∀ (n : Nat) (M : mm_M), mm_G (fun x : Bool => some (.int (mm_b x))) E Y_X12_readsHour 3 10 [(0, .ref 97), (1, .int v1), (2, .int v2), (3, .int v3)] [] M (lp_R_readsHour_10 v1 v2 v3 k59 n M) := by
  intro n
  induction n with
  | zero => intro M r M2 he; cases he
  | succ n ih =>
    intro M
    rw [lp_R_readsHour_10]
    refine mm_aload_n 0 dX12_readsHour_10 rfl ?_
    refine mm_callVz (as := []) (st := []) (c_R_isDigit E M) dX12_readsHour_11 mz_X12_isDigit lk_RX12_157 im_X12_isDigit se_X12_isDigit lo_97 rfl rfl rfl ⟨Nat.le_of_ble_eq_true rfl, Nat.le_of_ble_eq_true rfl⟩ (Nat.le_of_ble_eq_true rfl) (fun b_3 M_4 => ?_)
    refine mm_if_eq_b 59 dX12_readsHour_14 rfl ?_ ?_
    · exact hk59  M_4
    · refine mm_aload_n 0 dX12_readsHour_17 rfl ?_
      refine mm_getI dX12_readsHour_18 fl_RX12_151 lo_97 rfl ?_
      refine mm_iload_n 3 dX12_readsHour_21 rfl ?_
      refine mm_iconst (v := 2) dX12_readsHour_22 rfl ?_
      refine mm_iadd dX12_readsHour_23 ?_
      refine mm_icmp_ge 59 dX12_readsHour_24 rfl ?_ ?_
      · exact hk59  M_4
      · refine mm_aload_n 0 dX12_readsHour_27 rfl ?_
        refine mm_bipush (v := 10) dX12_readsHour_28 rfl ?_
        refine mm_aload_n 0 dX12_readsHour_30 rfl ?_
        refine mm_getI dX12_readsHour_31 fl_RX12_154 lo_97 rfl ?_
        refine mm_imul dX12_readsHour_34 ?_
        refine mm_aload_n 0 dX12_readsHour_35 rfl ?_
        refine mm_callVi (as := []) (st := [.int (10 * (M_4.1 97 5)), .ref 97]) (c_R_here E M_4) dX12_readsHour_36 mz_X12_here lk_RX12_165 im_X12_here se_X12_here lo_97 rfl rfl rfl ⟨Nat.le_of_ble_eq_true rfl, Nat.le_of_ble_eq_true rfl⟩ (Nat.le_of_ble_eq_true rfl) (fun r_5 M_6 => ?_)
        refine mm_iadd dX12_readsHour_39 ?_
        refine mm_bipush (v := 48) dX12_readsHour_40 rfl ?_
        refine mm_isub dX12_readsHour_42 ?_
        refine mm_putI dX12_readsHour_43 fp_RX12_154 lo_97 rfl ?_
        refine mm_nm_M (fun M_7 => ?_)
        refine mm_aload_n 0 dX12_readsHour_46 rfl ?_
        refine mm_aload_n 0 dX12_readsHour_47 rfl ?_
        refine mm_getI dX12_readsHour_48 fl_RX12_151 lo_97 rfl ?_
        refine mm_iconst (v := 1) dX12_readsHour_51 rfl ?_
        refine mm_iadd dX12_readsHour_52 ?_
        refine mm_putI dX12_readsHour_53 fp_RX12_151 lo_97 rfl ?_
        refine mm_nm_M (fun M_8 => ?_)
        refine mm_goto 10 dX12_readsHour_56 rfl ?_
        exact ih  M_8
def f_R_readsHour (v1 : Int32) (v2 : Int32) (M : mm_M) : Option (Bool × mm_M) := mm_let (M.1 97 2) fun v3_1 => mm_let (mm_setI M 97 5 0) fun M_2 => lp_R_readsHour_10 v1 v2 v3_1 (fun (M_9 : mm_M) => if M_9.1 97 2 = v3_1 then mm_bd (f_R_wrongAt 1 (M_9.1 97 2) M_9) fun b_19 M_20 => some (b_19, M_20) else mm_bd (f_R_in (M_9.1 97 5) v1 v2 M_9) fun b_10 M_11 => if b_10 = true then mm_bd (f_R_isDigit M_11) fun b_12 M_13 => mm_jn (fun (M_14 : mm_M) => some (true, M_14)) fun j115 => if b_12 = true then mm_bd (f_R_wrongAt 1 (M_13.1 97 2) M_13) fun b_15 M_16 => if b_15 = true then j115 M_16 else some (false, M_16) else j115 M_13 else mm_bd (f_R_wrongAt 3 v3_1 M_11) fun b_17 M_18 => some (b_17, M_18)) mm_fu M_2
set_option maxHeartbeats 4000000 in
theorem c_R_readsHour (E : mm_E) (v1 : Int32) (v2 : Int32) (M : mm_M) : ∀ (r : Bool) (M2 : mm_M), f_R_readsHour v1 v2 M = some (r, M2) → mm_P E Y_X12_readsHour 3 [.ref 97, .int v1, .int v2] M (some (.int (mm_b r))) M2 := by
  refine mm_entry (em := (fun x : Bool => some (.int (mm_b x)))) (by decide +kernel) (Nat.le_of_ble_eq_true rfl) ?_
  show mm_G _ E _ _ 0 [(0, .ref 97), (1, .int v1), (2, .int v2)] [] M _
  unfold f_R_readsHour
  refine mm_aload_n 0 dX12_readsHour_0 rfl ?_
  refine mm_getI dX12_readsHour_1 fl_RX12_151 lo_97 rfl ?_
  refine mm_nm_int (fun v3_1 => ?_)
  refine mm_istore_n [1, 2, 3, 0] (lv2 := [(0, .ref 97), (1, .int v1), (2, .int v2), (3, .int v3_1)]) dX12_readsHour_4 (by decide) rfl ?_
  refine mm_aload_n 0 dX12_readsHour_5 rfl ?_
  refine mm_iconst (v := 0) dX12_readsHour_6 rfl ?_
  refine mm_putI dX12_readsHour_7 fp_RX12_154 lo_97 rfl ?_
  refine mm_nm_M (fun M_2 => ?_)
  refine lp_R_readsHour_10_ok E v1 v2 v3_1 ?_ mm_fu M_2
  · intro M_9
    refine mm_aload_n 0 dX12_readsHour_59 rfl ?_
    refine mm_getI dX12_readsHour_60 fl_RX12_151 lo_97 rfl ?_
    refine mm_iload_n 3 dX12_readsHour_63 rfl ?_
    refine mm_icmp_ne 77 dX12_readsHour_64 rfl ?_ ?_
    · refine mm_aload_n 0 dX12_readsHour_77 rfl ?_
      refine mm_getI dX12_readsHour_78 fl_RX12_154 lo_97 rfl ?_
      refine mm_iload_n 1 dX12_readsHour_81 rfl ?_
      refine mm_iload_n 2 dX12_readsHour_82 rfl ?_
      refine mm_callSz (as := [.int (M_9.1 97 5), .int v1, .int v2]) (st := []) (c_R_in E (M_9.1 97 5) v1 v2 M_9) dX12_readsHour_83 mz_X12_in lk_RX12_169 sm_X12_in rfl ⟨Nat.le_of_ble_eq_true rfl, Nat.le_of_ble_eq_true rfl⟩ (Nat.le_of_ble_eq_true rfl) (fun b_10 M_11 => ?_)
      refine mm_if_ne_b 96 dX12_readsHour_86 rfl ?_ ?_
      · refine mm_aload_n 0 dX12_readsHour_96 rfl ?_
        refine mm_callVz (as := []) (st := []) (c_R_isDigit E M_11) dX12_readsHour_97 mz_X12_isDigit lk_RX12_157 im_X12_isDigit se_X12_isDigit lo_97 rfl rfl rfl ⟨Nat.le_of_ble_eq_true rfl, Nat.le_of_ble_eq_true rfl⟩ (Nat.le_of_ble_eq_true rfl) (fun b_12 M_13 => ?_)
        refine mm_jnP (P := fun j => ∀ (M : mm_M), mm_G (fun x : Bool => some (.int (mm_b x))) E Y_X12_readsHour 3 115 [] [] M (j M)) ?_ (fun j115 hj115 => ?_)
        · intro M_14
          refine mm_iconst (v := 1) dX12_readsHour_115 rfl ?_
          refine mm_goto 120 dX12_readsHour_116 rfl ?_
          exact mm_zret (b := true) dX12_readsHour_120 rfl
        refine mm_if_eq_b 115 dX12_readsHour_100 rfl ?_ ?_
        · refine mm_wk [] rfl ?_
          exact hj115  M_13
        · refine mm_aload_n 0 dX12_readsHour_103 rfl ?_
          refine mm_iconst (v := 1) dX12_readsHour_104 rfl ?_
          refine mm_aload_n 0 dX12_readsHour_105 rfl ?_
          refine mm_getI dX12_readsHour_106 fl_RX12_151 lo_97 rfl ?_
          refine mm_callVz (as := [.int 1, .int (M_13.1 97 2)]) (st := []) (c_R_wrongAt E 1 (M_13.1 97 2) M_13) dX12_readsHour_109 mz_X12_wrongAt lk_RX12_161 im_X12_wrongAt se_X12_wrongAt lo_97 rfl rfl rfl ⟨Nat.le_of_ble_eq_true rfl, Nat.le_of_ble_eq_true rfl⟩ (Nat.le_of_ble_eq_true rfl) (fun b_15 M_16 => ?_)
          refine mm_if_eq_b 119 dX12_readsHour_112 rfl ?_ ?_
          · refine mm_iconst (v := 0) dX12_readsHour_119 rfl ?_
            exact mm_zret (b := false) dX12_readsHour_120 rfl
          · refine mm_wk [] rfl ?_
            exact hj115  M_16
      · refine mm_aload_n 0 dX12_readsHour_89 rfl ?_
        refine mm_iconst (v := 3) dX12_readsHour_90 rfl ?_
        refine mm_iload_n 3 dX12_readsHour_91 rfl ?_
        refine mm_callVz (as := [.int 3, .int v3_1]) (st := []) (c_R_wrongAt E 3 v3_1 M_11) dX12_readsHour_92 mz_X12_wrongAt lk_RX12_161 im_X12_wrongAt se_X12_wrongAt lo_97 rfl rfl rfl ⟨Nat.le_of_ble_eq_true rfl, Nat.le_of_ble_eq_true rfl⟩ (Nat.le_of_ble_eq_true rfl) (fun b_17 M_18 => ?_)
        exact mm_zret (b := b_17) dX12_readsHour_95 rfl
    · refine mm_aload_n 0 dX12_readsHour_67 rfl ?_
      refine mm_iconst (v := 1) dX12_readsHour_68 rfl ?_
      refine mm_aload_n 0 dX12_readsHour_69 rfl ?_
      refine mm_getI dX12_readsHour_70 fl_RX12_151 lo_97 rfl ?_
      refine mm_callVz (as := [.int 1, .int (M_9.1 97 2)]) (st := []) (c_R_wrongAt E 1 (M_9.1 97 2) M_9) dX12_readsHour_73 mz_X12_wrongAt lk_RX12_161 im_X12_wrongAt se_X12_wrongAt lo_97 rfl rfl rfl ⟨Nat.le_of_ble_eq_true rfl, Nat.le_of_ble_eq_true rfl⟩ (Nat.le_of_ble_eq_true rfl) (fun b_19 M_20 => ?_)
      exact mm_zret (b := b_19) dX12_readsHour_76 rfl
def f_R_min (v0 : Int32) (v1 : Int32) (M : mm_M) : Option (Int32 × mm_M) := if v1 ≤ v0 then some (v1, M) else some (v0, M)
set_option maxHeartbeats 4000000 in
theorem c_R_min (E : mm_E) (v0 : Int32) (v1 : Int32) (M : mm_M) : ∀ (r : Int32) (M2 : mm_M), f_R_min v0 v1 M = some (r, M2) → mm_P E Y_X12_min 1 [.int v0, .int v1] M (some (.int r)) M2 := by
  refine mm_entry (em := (fun x : Int32 => some (.int x))) (by decide +kernel) (Nat.le_of_ble_eq_true rfl) ?_
  show mm_G _ E _ _ 0 [(0, .int v0), (1, .int v1)] [] M _
  unfold f_R_min
  refine mm_iload_n 0 dX12_min_0 rfl ?_
  refine mm_iload_n 1 dX12_min_1 rfl ?_
  refine mm_icmp_ge 9 dX12_min_2 rfl ?_ ?_
  · refine mm_iload_n 1 dX12_min_9 rfl ?_
    exact mm_iret dX12_min_10 rfl
  · refine mm_iload_n 0 dX12_min_5 rfl ?_
    refine mm_goto 10 dX12_min_6 rfl ?_
    exact mm_iret dX12_min_10 rfl
def lp_R_readsPart_151 (v3 : Int32) (v4 : Int32) (k198 : mm_M → Option (Bool × mm_M)) : Nat → Int32 → mm_M → Option (Bool × mm_M)
  | 0, _, _ => none
  | n + 1, v6, M => if M.1 97 5 ≤ v6 then k198 M else if mm_in ((24 * v3) + v6) (mm_al 100) = true then mm_bd (f_R_min 99 ((M.2.1 100 ((24 * v3) + v6).toNatClampNeg) + v4) M) fun r_18 M_19 => if mm_in ((24 * v3) + v6) (mm_al 100) = true then mm_let (mm_setA M_19 100 (((24 * v3) + v6).toNatClampNeg) r_18) fun M_20 => mm_let (v6 + 1) fun v6_21 => lp_R_readsPart_151 v3 v4 k198 n v6_21 M_20 else none else none
set_option maxHeartbeats 4000000 in
theorem lp_R_readsPart_151_ok (E : mm_E) (v3 : Int32) (v4 : Int32) {k198 : mm_M → Option (Bool × mm_M)} (hk198 : ∀ (M : mm_M), mm_G (fun x : Bool => some (.int (mm_b x))) E Y_X12_readsPart 4 198 [(0, .ref 97)] [] M (k198 M)) : ∀ (n : Nat) (v6 : Int32) (M : mm_M), mm_G (fun x : Bool => some (.int (mm_b x))) E Y_X12_readsPart 4 151 [(0, .ref 97), (3, .int v3), (4, .int v4), (6, .int v6)] [] M (lp_R_readsPart_151 v3 v4 k198 n v6 M) := by
  intro n
  induction n with
  | zero => intro v6 M r M2 he; cases he
  | succ n ih =>
    intro v6 M
    rw [lp_R_readsPart_151]
    refine mm_iload 3 dX12_readsPart_151 rfl ?_
    refine mm_aload_n 0 dX12_readsPart_153 rfl ?_
    refine mm_getI dX12_readsPart_154 fl_RX12_154 lo_97 rfl ?_
    refine mm_icmp_ge 198 dX12_readsPart_157 rfl ?_ ?_
    · refine mm_wk [0] rfl ?_
      exact hk198  M
    · refine mm_aload_n 0 dX12_readsPart_160 rfl ?_
      refine mm_getR 100 dX12_readsPart_161 fl_RX12_17 lo_97 rfl ?_
      refine mm_bipush (v := 24) dX12_readsPart_164 rfl ?_
      refine mm_iload_n 1 dX12_readsPart_166 rfl ?_
      refine mm_imul dX12_readsPart_167 ?_
      refine mm_iload 3 dX12_readsPart_168 rfl ?_
      refine mm_iadd dX12_readsPart_170 ?_
      refine mm_bipush (v := 99) dX12_readsPart_171 rfl ?_
      refine mm_aload_n 0 dX12_readsPart_173 rfl ?_
      refine mm_getR 100 dX12_readsPart_174 fl_RX12_17 lo_97 rfl ?_
      refine mm_bipush (v := 24) dX12_readsPart_177 rfl ?_
      refine mm_iload_n 1 dX12_readsPart_179 rfl ?_
      refine mm_imul dX12_readsPart_180 ?_
      refine mm_iload 3 dX12_readsPart_181 rfl ?_
      refine mm_iadd dX12_readsPart_183 ?_
      refine mm_iaload dX12_readsPart_184 ?_
      refine mm_iload 2 dX12_readsPart_185 rfl ?_
      refine mm_iadd dX12_readsPart_187 ?_
      refine mm_callSi (as := [.int 99, .int ((M.2.1 100 ((24 * v3) + v6).toNatClampNeg) + v4)]) (st := [.int ((24 * v3) + v6), .ref 100]) (c_R_min E 99 ((M.2.1 100 ((24 * v3) + v6).toNatClampNeg) + v4) M) dX12_readsPart_188 mz_X12_min lk_RX12_183 sm_X12_min rfl ⟨Nat.le_of_ble_eq_true rfl, Nat.le_of_ble_eq_true rfl⟩ (Nat.le_of_ble_eq_true rfl) (fun r_18 M_19 => ?_)
      refine mm_iastore dX12_readsPart_191 ?_
      refine mm_nm_M (fun M_20 => ?_)
      refine mm_iincN 3 [1, 2, 3, 0] (v := v6 + 1) (lv2 := fun v6_21 => [(0, .ref 97), (3, .int v3), (4, .int v4), (6, .int v6_21)]) dX12_readsPart_192 rfl rfl (by decide) (fun _ => rfl) (fun v6_21 => ?_)
      refine mm_goto 151 dX12_readsPart_195 rfl ?_
      exact ih v6_21 M_20
def f_R_readsPart (v1 : Int32) (M : mm_M) : Option (Bool × mm_M) := mm_bd (f_R_here M) fun r_1 M_2 => mm_jn (fun (v2 : Int32) (M_3 : mm_M) => if v1 = 14 then mm_bd (f_R_wrongAt 4 (M_3.1 97 2) M_3) fun b_25 M_26 => some (b_25, M_26) else mm_let (mm_setI M_3 97 2 ((M_3.1 97 2) + 1)) fun M_4 => mm_jn (fun (s0 : Int32) (M_5 : mm_M) => mm_bd (f_R_readsTwo M_5) fun b_6 M_7 => if b_6 = true then mm_let (M_7.1 97 5) fun v4_8 => mm_bd (f_R_takes 40 M_7) fun b_9 M_10 => if b_9 = true then mm_bd (f_R_readsHour 0 23 M_10) fun b_11 M_12 => if b_11 = true then mm_let (M_12.1 97 5) fun v5_13 => mm_bd (f_R_takes 45 M_12) fun b_14 M_15 => if b_14 = true then mm_bd (f_R_readsHour (v5_13 + 1) 24 M_15) fun b_16 M_17 => if b_16 = true then lp_R_readsPart_151 s0 v4_8 (fun (M_22 : mm_M) => mm_bd (f_R_takes 41 M_22) fun b_23 M_24 => some (b_23, M_24)) mm_fu v5_13 M_17 else some (false, M_17) else some (false, M_15) else some (false, M_12) else some (false, M_10) else some (false, M_7)) fun j80 => if v2 = 114 then j80 0 M_4 else if v2 = 119 then j80 1 M_4 else j80 2 M_4) fun j33 => if r_1 = 114 then j33 r_1 M_2 else if r_1 = 119 then j33 r_1 M_2 else if r_1 = 108 then j33 r_1 M_2 else mm_bd (f_R_wrongAt 1 (M_2.1 97 2) M_2) fun b_27 M_28 => some (b_27, M_28)
set_option maxHeartbeats 4000000 in
theorem c_R_readsPart (E : mm_E) (v1 : Int32) (M : mm_M) : ∀ (r : Bool) (M2 : mm_M), f_R_readsPart v1 M = some (r, M2) → mm_P E Y_X12_readsPart 4 [.ref 97, .int v1] M (some (.int (mm_b r))) M2 := by
  refine mm_entry (em := (fun x : Bool => some (.int (mm_b x)))) (by decide +kernel) (Nat.le_of_ble_eq_true rfl) ?_
  show mm_G _ E _ _ 0 [(0, .ref 97), (1, .int v1)] [] M _
  unfold f_R_readsPart
  refine mm_aload_n 0 dX12_readsPart_0 rfl ?_
  refine mm_callVi (as := []) (st := []) (c_R_here E M) dX12_readsPart_1 mz_X12_here lk_RX12_165 im_X12_here se_X12_here lo_97 rfl rfl rfl ⟨Nat.le_of_ble_eq_true rfl, Nat.le_of_ble_eq_true rfl⟩ (Nat.le_of_ble_eq_true rfl) (fun r_1 M_2 => ?_)
  refine mm_istore_n [1, 2, 0] (lv2 := [(0, .ref 97), (1, .int v1), (2, .int r_1)]) dX12_readsPart_4 (by decide) rfl ?_
  refine mm_iload_n 2 dX12_readsPart_5 rfl ?_
  refine mm_bipush (v := 114) dX12_readsPart_6 rfl ?_
  refine mm_jnP (P := fun j => ∀ (v2 : Int32) (M : mm_M), mm_G (fun x : Bool => some (.int (mm_b x))) E Y_X12_readsPart 4 33 [(0, .ref 97), (1, .int v1), (2, .int v2)] [] M (j v2 M)) ?_ (fun j33 hj33 => ?_)
  · intro v2 M_3
    refine mm_iload_n 1 dX12_readsPart_33 rfl ?_
    refine mm_bipush (v := 14) dX12_readsPart_34 rfl ?_
    refine mm_icmp_ne 49 dX12_readsPart_36 rfl ?_ ?_
    · refine mm_aload_n 0 dX12_readsPart_49 rfl ?_
      refine mm_aload_n 0 dX12_readsPart_50 rfl ?_
      refine mm_getI dX12_readsPart_51 fl_RX12_151 lo_97 rfl ?_
      refine mm_iconst (v := 1) dX12_readsPart_54 rfl ?_
      refine mm_iadd dX12_readsPart_55 ?_
      refine mm_putI dX12_readsPart_56 fp_RX12_151 lo_97 rfl ?_
      refine mm_nm_M (fun M_4 => ?_)
      refine mm_iload_n 2 dX12_readsPart_59 rfl ?_
      refine mm_bipush (v := 114) dX12_readsPart_60 rfl ?_
      refine mm_jnP (P := fun j => ∀ (s0 : Int32) (M : mm_M), mm_G (fun x : Bool => some (.int (mm_b x))) E Y_X12_readsPart 4 80 [(0, .ref 97)] [.int s0] M (j s0 M)) ?_ (fun j80 hj80 => ?_)
      · intro s0 M_5
        refine mm_istore_n [1, 0] (lv2 := [(0, .ref 97), (3, .int s0)]) dX12_readsPart_80 (by decide) rfl ?_
        refine mm_aload_n 0 dX12_readsPart_81 rfl ?_
        refine mm_callVz (as := []) (st := []) (c_R_readsTwo E M_5) dX12_readsPart_82 mz_X12_readsTwo lk_RX12_173 im_X12_readsTwo se_X12_readsTwo lo_97 rfl rfl rfl ⟨Nat.le_of_ble_eq_true rfl, Nat.le_of_ble_eq_true rfl⟩ (Nat.le_of_ble_eq_true rfl) (fun b_6 M_7 => ?_)
        refine mm_if_ne_b 90 dX12_readsPart_85 rfl ?_ ?_
        · refine mm_aload_n 0 dX12_readsPart_90 rfl ?_
          refine mm_getI dX12_readsPart_91 fl_RX12_154 lo_97 rfl ?_
          refine mm_nm_int (fun v4_8 => ?_)
          refine mm_istore [1, 2, 0] (lv2 := [(0, .ref 97), (3, .int s0), (4, .int v4_8)]) dX12_readsPart_94 (by decide) rfl ?_
          refine mm_aload_n 0 dX12_readsPart_96 rfl ?_
          refine mm_bipush (v := 40) dX12_readsPart_97 rfl ?_
          refine mm_callVz (as := [.int 40]) (st := []) (c_R_takes E 40 M_7) dX12_readsPart_99 mz_X12_takes lk_RX12_176 im_X12_takes se_X12_takes lo_97 rfl rfl rfl ⟨Nat.le_of_ble_eq_true rfl, Nat.le_of_ble_eq_true rfl⟩ (Nat.le_of_ble_eq_true rfl) (fun b_9 M_10 => ?_)
          refine mm_if_eq_b 115 dX12_readsPart_102 rfl ?_ ?_
          · refine mm_iconst (v := 0) dX12_readsPart_115 rfl ?_
            exact mm_zret (b := false) dX12_readsPart_116 rfl
          · refine mm_aload_n 0 dX12_readsPart_105 rfl ?_
            refine mm_iconst (v := 0) dX12_readsPart_106 rfl ?_
            refine mm_bipush (v := 23) dX12_readsPart_107 rfl ?_
            refine mm_callVz (as := [.int 0, .int 23]) (st := []) (c_R_readsHour E 0 23 M_10) dX12_readsPart_109 mz_X12_readsHour lk_RX12_180 im_X12_readsHour se_X12_readsHour lo_97 rfl rfl rfl ⟨Nat.le_of_ble_eq_true rfl, Nat.le_of_ble_eq_true rfl⟩ (Nat.le_of_ble_eq_true rfl) (fun b_11 M_12 => ?_)
            refine mm_if_ne_b 117 dX12_readsPart_112 rfl ?_ ?_
            · refine mm_aload_n 0 dX12_readsPart_117 rfl ?_
              refine mm_getI dX12_readsPart_118 fl_RX12_154 lo_97 rfl ?_
              refine mm_nm_int (fun v5_13 => ?_)
              refine mm_istore [1, 2, 3, 0] (lv2 := [(0, .ref 97), (3, .int s0), (4, .int v4_8), (5, .int v5_13)]) dX12_readsPart_121 (by decide) rfl ?_
              refine mm_aload_n 0 dX12_readsPart_123 rfl ?_
              refine mm_bipush (v := 45) dX12_readsPart_124 rfl ?_
              refine mm_callVz (as := [.int 45]) (st := []) (c_R_takes E 45 M_12) dX12_readsPart_126 mz_X12_takes lk_RX12_176 im_X12_takes se_X12_takes lo_97 rfl rfl rfl ⟨Nat.le_of_ble_eq_true rfl, Nat.le_of_ble_eq_true rfl⟩ (Nat.le_of_ble_eq_true rfl) (fun b_14 M_15 => ?_)
              refine mm_if_eq_b 145 dX12_readsPart_129 rfl ?_ ?_
              · refine mm_iconst (v := 0) dX12_readsPart_145 rfl ?_
                exact mm_zret (b := false) dX12_readsPart_146 rfl
              · refine mm_aload_n 0 dX12_readsPart_132 rfl ?_
                refine mm_iload 3 dX12_readsPart_133 rfl ?_
                refine mm_iconst (v := 1) dX12_readsPart_135 rfl ?_
                refine mm_iadd dX12_readsPart_136 ?_
                refine mm_bipush (v := 24) dX12_readsPart_137 rfl ?_
                refine mm_callVz (as := [.int (v5_13 + 1), .int 24]) (st := []) (c_R_readsHour E (v5_13 + 1) 24 M_15) dX12_readsPart_139 mz_X12_readsHour lk_RX12_180 im_X12_readsHour se_X12_readsHour lo_97 rfl rfl rfl ⟨Nat.le_of_ble_eq_true rfl, Nat.le_of_ble_eq_true rfl⟩ (Nat.le_of_ble_eq_true rfl) (fun b_16 M_17 => ?_)
                refine mm_if_ne_b 147 dX12_readsPart_142 rfl ?_ ?_
                · refine mm_iload 3 dX12_readsPart_147 rfl ?_
                  refine mm_istore [1, 2, 3, 4, 0] (lv2 := [(0, .ref 97), (3, .int s0), (4, .int v4_8), (5, .int v5_13), (6, .int v5_13)]) dX12_readsPart_149 (by decide) rfl ?_
                  refine mm_wk [0, 1, 2, 4] rfl ?_
                  refine lp_R_readsPart_151_ok E s0 v4_8 ?_ mm_fu v5_13 M_17
                  · intro M_22
                    refine mm_aload_n 0 dX12_readsPart_198 rfl ?_
                    refine mm_bipush (v := 41) dX12_readsPart_199 rfl ?_
                    refine mm_callVz (as := [.int 41]) (st := []) (c_R_takes E 41 M_22) dX12_readsPart_201 mz_X12_takes lk_RX12_176 im_X12_takes se_X12_takes lo_97 rfl rfl rfl ⟨Nat.le_of_ble_eq_true rfl, Nat.le_of_ble_eq_true rfl⟩ (Nat.le_of_ble_eq_true rfl) (fun b_23 M_24 => ?_)
                    exact mm_zret (b := b_23) dX12_readsPart_204 rfl
                · refine mm_iconst (v := 0) dX12_readsPart_145 rfl ?_
                  exact mm_zret (b := false) dX12_readsPart_146 rfl
            · refine mm_iconst (v := 0) dX12_readsPart_115 rfl ?_
              exact mm_zret (b := false) dX12_readsPart_116 rfl
        · refine mm_iconst (v := 0) dX12_readsPart_88 rfl ?_
          exact mm_zret (b := false) dX12_readsPart_89 rfl
      refine mm_icmp_ne 69 dX12_readsPart_62 rfl ?_ ?_
      · refine mm_iload_n 2 dX12_readsPart_69 rfl ?_
        refine mm_bipush (v := 119) dX12_readsPart_70 rfl ?_
        refine mm_icmp_ne 79 dX12_readsPart_72 rfl ?_ ?_
        · refine mm_iconst (v := 2) dX12_readsPart_79 rfl ?_
          refine mm_wk [0] rfl ?_
          exact hj80 2 M_4
        · refine mm_iconst (v := 1) dX12_readsPart_75 rfl ?_
          refine mm_goto 80 dX12_readsPart_76 rfl ?_
          refine mm_wk [0] rfl ?_
          exact hj80 1 M_4
      · refine mm_iconst (v := 0) dX12_readsPart_65 rfl ?_
        refine mm_goto 80 dX12_readsPart_66 rfl ?_
        refine mm_wk [0] rfl ?_
        exact hj80 0 M_4
    · refine mm_aload_n 0 dX12_readsPart_39 rfl ?_
      refine mm_iconst (v := 4) dX12_readsPart_40 rfl ?_
      refine mm_aload_n 0 dX12_readsPart_41 rfl ?_
      refine mm_getI dX12_readsPart_42 fl_RX12_151 lo_97 rfl ?_
      refine mm_callVz (as := [.int 4, .int (M_3.1 97 2)]) (st := []) (c_R_wrongAt E 4 (M_3.1 97 2) M_3) dX12_readsPart_45 mz_X12_wrongAt lk_RX12_161 im_X12_wrongAt se_X12_wrongAt lo_97 rfl rfl rfl ⟨Nat.le_of_ble_eq_true rfl, Nat.le_of_ble_eq_true rfl⟩ (Nat.le_of_ble_eq_true rfl) (fun b_25 M_26 => ?_)
      exact mm_zret (b := b_25) dX12_readsPart_48 rfl
  refine mm_icmp_eq 33 dX12_readsPart_8 rfl ?_ ?_
  · exact hj33 r_1 M_2
  · refine mm_iload_n 2 dX12_readsPart_11 rfl ?_
    refine mm_bipush (v := 119) dX12_readsPart_12 rfl ?_
    refine mm_icmp_eq 33 dX12_readsPart_14 rfl ?_ ?_
    · exact hj33 r_1 M_2
    · refine mm_iload_n 2 dX12_readsPart_17 rfl ?_
      refine mm_bipush (v := 108) dX12_readsPart_18 rfl ?_
      refine mm_icmp_eq 33 dX12_readsPart_20 rfl ?_ ?_
      · exact hj33 r_1 M_2
      · refine mm_aload_n 0 dX12_readsPart_23 rfl ?_
        refine mm_iconst (v := 1) dX12_readsPart_24 rfl ?_
        refine mm_aload_n 0 dX12_readsPart_25 rfl ?_
        refine mm_getI dX12_readsPart_26 fl_RX12_151 lo_97 rfl ?_
        refine mm_callVz (as := [.int 1, .int (M_2.1 97 2)]) (st := []) (c_R_wrongAt E 1 (M_2.1 97 2) M_2) dX12_readsPart_29 mz_X12_wrongAt lk_RX12_161 im_X12_wrongAt se_X12_wrongAt lo_97 rfl rfl rfl ⟨Nat.le_of_ble_eq_true rfl, Nat.le_of_ble_eq_true rfl⟩ (Nat.le_of_ble_eq_true rfl) (fun b_27 M_28 => ?_)
        exact mm_zret (b := b_27) dX12_readsPart_32 rfl
def lp_R_day_42 (v1 : Int32) (k61 : mm_M → Option (Int32 × mm_M)) : Nat → Int32 → mm_M → Option (Int32 × mm_M)
  | 0, _, _ => none
  | n + 1, v3, M => if 72 ≤ v3 then k61 M else if mm_in v3 (mm_al 100) = true then mm_let (mm_setA M 100 (v3.toNatClampNeg) 0) fun M_7 => mm_let (v3 + 1) fun v3_8 => lp_R_day_42 v1 k61 n v3_8 M_7 else none
set_option maxHeartbeats 4000000 in
theorem lp_R_day_42_ok (E : mm_E) (v1 : Int32) {k61 : mm_M → Option (Int32 × mm_M)} (hk61 : ∀ (M : mm_M), mm_G (fun x : Int32 => some (.int x)) E Y_X12_day 5 61 [(0, .ref 97), (1, .int v1)] [] M (k61 M)) : ∀ (n : Nat) (v3 : Int32) (M : mm_M), mm_G (fun x : Int32 => some (.int x)) E Y_X12_day 5 42 [(0, .ref 97), (1, .int v1), (3, .int v3)] [] M (lp_R_day_42 v1 k61 n v3 M) := by
  intro n
  induction n with
  | zero => intro v3 M r M2 he; cases he
  | succ n ih =>
    intro v3 M
    rw [lp_R_day_42]
    refine mm_iload_n 2 dX12_day_42 rfl ?_
    refine mm_bipush (v := 72) dX12_day_43 rfl ?_
    refine mm_icmp_ge 61 dX12_day_45 rfl ?_ ?_
    · refine mm_wk [0, 1] rfl ?_
      exact hk61  M
    · refine mm_aload_n 0 dX12_day_48 rfl ?_
      refine mm_getR 100 dX12_day_49 fl_RX12_17 lo_97 rfl ?_
      refine mm_iload_n 2 dX12_day_52 rfl ?_
      refine mm_iconst (v := 0) dX12_day_53 rfl ?_
      refine mm_iastore dX12_day_54 ?_
      refine mm_nm_M (fun M_7 => ?_)
      refine mm_iincN 2 [1, 2, 0] (v := v3 + 1) (lv2 := fun v3_8 => [(0, .ref 97), (1, .int v1), (3, .int v3_8)]) dX12_day_55 rfl rfl (by decide) (fun _ => rfl) (fun v3_8 => ?_)
      refine mm_goto 42 dX12_day_58 rfl ?_
      exact ih v3_8 M_7
def lp_R_day_70 (v1 : Int32) (k117 : Int32 → Bool → mm_M → Option (Int32 × mm_M)) : Nat → Int32 → Bool → mm_M → Option (Int32 × mm_M)
  | 0, _, _, _ => none
  | n + 1, v3, v4, M => if v4 = true then if M.1 97 3 ≤ M.1 97 2 then k117 v3 v4 M else mm_let (v3 + 1) fun v3_12 => mm_bd (f_R_takes 59 M) fun b_13 M_14 => mm_jn (fun (v3 : Int32) (s0 : Bool) (M_15 : mm_M) => lp_R_day_70 v1 k117 n v3 s0 M_15) fun j112 => mm_jn (fun (v3 : Int32) (M_16 : mm_M) => j112 v3 false M_16) fun j111 => if b_13 = true then mm_bd (f_R_readsPart v3_12 M_14) fun b_17 M_18 => if b_17 = true then j112 v3_12 true M_18 else j111 v3_12 M_18 else j111 v3_12 M_14 else k117 v3 v4 M
set_option maxHeartbeats 4000000 in
theorem lp_R_day_70_ok (E : mm_E) (v1 : Int32) {k117 : Int32 → Bool → mm_M → Option (Int32 × mm_M)} (hk117 : ∀ (v3 : Int32) (v4 : Bool) (M : mm_M), mm_G (fun x : Int32 => some (.int x)) E Y_X12_day 5 117 [(0, .ref 97), (1, .int v1), (3, .int v3), (4, .int (mm_b v4))] [] M (k117 v3 v4 M)) : ∀ (n : Nat) (v3 : Int32) (v4 : Bool) (M : mm_M), mm_G (fun x : Int32 => some (.int x)) E Y_X12_day 5 70 [(0, .ref 97), (1, .int v1), (3, .int v3), (4, .int (mm_b v4))] [] M (lp_R_day_70 v1 k117 n v3 v4 M) := by
  intro n
  induction n with
  | zero => intro v3 v4 M r M2 he; cases he
  | succ n ih =>
    intro v3 v4 M
    rw [lp_R_day_70]
    refine mm_iload 3 dX12_day_70 rfl ?_
    refine mm_if_eq_b 117 dX12_day_72 rfl ?_ ?_
    · exact hk117 v3 v4 M
    · refine mm_aload_n 0 dX12_day_75 rfl ?_
      refine mm_getI dX12_day_76 fl_RX12_151 lo_97 rfl ?_
      refine mm_aload_n 0 dX12_day_79 rfl ?_
      refine mm_getI dX12_day_80 fl_RX12_187 lo_97 rfl ?_
      refine mm_icmp_ge 117 dX12_day_83 rfl ?_ ?_
      · exact hk117 v3 v4 M
      · refine mm_iload_n 2 dX12_day_86 rfl ?_
        refine mm_iconst (v := 1) dX12_day_87 rfl ?_
        refine mm_iadd dX12_day_88 ?_
        refine mm_nm_int (fun v3_12 => ?_)
        refine mm_istore_n [1, 2, 0, 3] (lv2 := [(0, .ref 97), (1, .int v1), (3, .int v3_12), (4, .int (mm_b v4))]) dX12_day_89 (by decide) rfl ?_
        refine mm_aload_n 0 dX12_day_90 rfl ?_
        refine mm_bipush (v := 59) dX12_day_91 rfl ?_
        refine mm_callVz (as := [.int 59]) (st := []) (c_R_takes E 59 M) dX12_day_93 mz_X12_takes lk_RX12_176 im_X12_takes se_X12_takes lo_97 rfl rfl rfl ⟨Nat.le_of_ble_eq_true rfl, Nat.le_of_ble_eq_true rfl⟩ (Nat.le_of_ble_eq_true rfl) (fun b_13 M_14 => ?_)
        refine mm_jnP (P := fun j => ∀ (v3 : Int32) (s0 : Bool) (M : mm_M), mm_G (fun x : Int32 => some (.int x)) E Y_X12_day 5 112 [(0, .ref 97), (1, .int v1), (3, .int v3)] [.int (mm_b s0)] M (j v3 s0 M)) ?_ (fun j112 hj112 => ?_)
        · intro v3 s0 M_15
          refine mm_istore [1, 2, 3, 0] (lv2 := [(0, .ref 97), (1, .int v1), (3, .int v3), (4, .int (mm_b s0))]) dX12_day_112 (by decide) rfl ?_
          refine mm_goto 70 dX12_day_114 rfl ?_
          exact ih v3 s0 M_15
        refine mm_jnP (P := fun j => ∀ (v3 : Int32) (M : mm_M), mm_G (fun x : Int32 => some (.int x)) E Y_X12_day 5 111 [(0, .ref 97), (1, .int v1), (3, .int v3)] [] M (j v3 M)) ?_ (fun j111 hj111 => ?_)
        · intro v3 M_16
          refine mm_iconst (v := 0) dX12_day_111 rfl ?_
          exact hj112 v3 false M_16
        refine mm_if_eq_b 111 dX12_day_96 rfl ?_ ?_
        · refine mm_wk [0, 1, 2] rfl ?_
          exact hj111 v3_12 M_14
        · refine mm_aload_n 0 dX12_day_99 rfl ?_
          refine mm_iload_n 2 dX12_day_100 rfl ?_
          refine mm_callVz (as := [.int v3_12]) (st := []) (c_R_readsPart E v3_12 M_14) dX12_day_101 mz_X12_readsPart lk_RX12_190 im_X12_readsPart se_X12_readsPart lo_97 rfl rfl rfl ⟨Nat.le_of_ble_eq_true rfl, Nat.le_of_ble_eq_true rfl⟩ (Nat.le_of_ble_eq_true rfl) (fun b_17 M_18 => ?_)
          refine mm_if_eq_b 111 dX12_day_104 rfl ?_ ?_
          · refine mm_wk [0, 1, 2] rfl ?_
            exact hj111 v3_12 M_18
          · refine mm_iconst (v := 1) dX12_day_107 rfl ?_
            refine mm_goto 112 dX12_day_108 rfl ?_
            refine mm_wk [0, 1, 2] rfl ?_
            exact hj112 v3_12 true M_18
def lp_R_day_135 (v1 : Int32) (v3 : Int32) (k167 : mm_M → Option (Int32 × mm_M)) : Nat → Int32 → mm_M → Option (Int32 × mm_M)
  | 0, _, _ => none
  | n + 1, v5, M => if 72 ≤ v5 then k167 M else if mm_in v5 (mm_al 100) = true then if mm_in ((72 * v1) + v5) (mm_al 99) = true then mm_let (mm_setA M 99 (((72 * v1) + v5).toNatClampNeg) (M.2.1 100 v5.toNatClampNeg)) fun M_21 => mm_let (v5 + 1) fun v5_22 => lp_R_day_135 v1 v3 k167 n v5_22 M_21 else none else none
set_option maxHeartbeats 4000000 in
theorem lp_R_day_135_ok (E : mm_E) (v1 : Int32) (v3 : Int32) {k167 : mm_M → Option (Int32 × mm_M)} (hk167 : ∀ (M : mm_M), mm_G (fun x : Int32 => some (.int x)) E Y_X12_day 5 167 [(0, .ref 97), (1, .int v1), (3, .int v3)] [] M (k167 M)) : ∀ (n : Nat) (v5 : Int32) (M : mm_M), mm_G (fun x : Int32 => some (.int x)) E Y_X12_day 5 135 [(0, .ref 97), (1, .int v1), (3, .int v3), (5, .int v5)] [] M (lp_R_day_135 v1 v3 k167 n v5 M) := by
  intro n
  induction n with
  | zero => intro v5 M r M2 he; cases he
  | succ n ih =>
    intro v5 M
    rw [lp_R_day_135]
    refine mm_iload 3 dX12_day_135 rfl ?_
    refine mm_bipush (v := 72) dX12_day_137 rfl ?_
    refine mm_icmp_ge 167 dX12_day_139 rfl ?_ ?_
    · refine mm_wk [0, 1, 2] rfl ?_
      exact hk167  M
    · refine mm_aload_n 0 dX12_day_142 rfl ?_
      refine mm_getR 99 dX12_day_143 fl_RX12_13 lo_97 rfl ?_
      refine mm_bipush (v := 72) dX12_day_146 rfl ?_
      refine mm_iload_n 1 dX12_day_148 rfl ?_
      refine mm_imul dX12_day_149 ?_
      refine mm_iload 3 dX12_day_150 rfl ?_
      refine mm_iadd dX12_day_152 ?_
      refine mm_aload_n 0 dX12_day_153 rfl ?_
      refine mm_getR 100 dX12_day_154 fl_RX12_17 lo_97 rfl ?_
      refine mm_iload 3 dX12_day_157 rfl ?_
      refine mm_iaload dX12_day_159 ?_
      refine mm_iastore dX12_day_160 ?_
      refine mm_nm_M (fun M_21 => ?_)
      refine mm_iincN 3 [1, 2, 3, 0] (v := v5 + 1) (lv2 := fun v5_22 => [(0, .ref 97), (1, .int v1), (3, .int v3), (5, .int v5_22)]) dX12_day_161 rfl rfl (by decide) (fun _ => rfl) (fun v5_22 => ?_)
      refine mm_goto 135 dX12_day_164 rfl ?_
      exact ih v5_22 M_21
def f_R_day (v1 : Int32) (v2 : Int32) (M : mm_M) : Option (Int32 × mm_M) := mm_bd (f_R_in v1 0 11 M) fun b_1 M_2 => if b_1 = true then mm_bd (f_R_in v2 1 120 M_2) fun b_3 M_4 => if b_3 = true then if v2 ≤ M_4.1 97 1 then mm_let (mm_setI M_4 97 2 0) fun M_5 => mm_let (mm_setI M_5 97 3 v2) fun M_6 => lp_R_day_42 v1 (fun (M_9 : mm_M) => mm_bd (f_R_readsPart 0 M_9) fun b_10 M_11 => lp_R_day_70 v1 (fun (v3 : Int32) (v4 : Bool) (M_19 : mm_M) => mm_let (mm_setI M_19 97 1 0) fun M_20 => if v4 = true then lp_R_day_135 v1 v3 (fun (M_23 : mm_M) => mm_let (mm_setI M_23 97 6 ((M_23.1 97 6) ||| (1 <<< (v1 &&& 31)))) fun M_24 => some (v3 + 1, M_24)) mm_fu 0 M_20 else some (M_20.1 97 4, M_20)) mm_fu 0 b_10 M_11) mm_fu 0 M_6 else some ((-1), M_4) else some ((-1), M_4) else some ((-1), M_2)
set_option maxHeartbeats 4000000 in
theorem c_R_day (E : mm_E) (v1 : Int32) (v2 : Int32) (M : mm_M) : ∀ (r : Int32) (M2 : mm_M), f_R_day v1 v2 M = some (r, M2) → mm_P E Y_X12_day 5 [.ref 97, .int v1, .int v2] M (some (.int r)) M2 := by
  refine mm_entry (em := (fun x : Int32 => some (.int x))) (by decide +kernel) (Nat.le_of_ble_eq_true rfl) ?_
  show mm_G _ E _ _ 0 [(0, .ref 97), (1, .int v1), (2, .int v2)] [] M _
  unfold f_R_day
  refine mm_iload_n 1 dX12_day_0 rfl ?_
  refine mm_iconst (v := 0) dX12_day_1 rfl ?_
  refine mm_bipush (v := 11) dX12_day_2 rfl ?_
  refine mm_callSz (as := [.int v1, .int 0, .int 11]) (st := []) (c_R_in E v1 0 11 M) dX12_day_4 mz_X12_in lk_RX12_169 sm_X12_in rfl ⟨Nat.le_of_ble_eq_true rfl, Nat.le_of_ble_eq_true rfl⟩ (Nat.le_of_ble_eq_true rfl) (fun b_1 M_2 => ?_)
  refine mm_if_eq_b 28 dX12_day_7 rfl ?_ ?_
  · refine mm_iconst (v := (-1)) dX12_day_28 rfl ?_
    exact mm_iret dX12_day_29 rfl
  · refine mm_iload_n 2 dX12_day_10 rfl ?_
    refine mm_iconst (v := 1) dX12_day_11 rfl ?_
    refine mm_bipush (v := 120) dX12_day_12 rfl ?_
    refine mm_callSz (as := [.int v2, .int 1, .int 120]) (st := []) (c_R_in E v2 1 120 M_2) dX12_day_14 mz_X12_in lk_RX12_169 sm_X12_in rfl ⟨Nat.le_of_ble_eq_true rfl, Nat.le_of_ble_eq_true rfl⟩ (Nat.le_of_ble_eq_true rfl) (fun b_3 M_4 => ?_)
    refine mm_if_eq_b 28 dX12_day_17 rfl ?_ ?_
    · refine mm_iconst (v := (-1)) dX12_day_28 rfl ?_
      exact mm_iret dX12_day_29 rfl
    · refine mm_iload_n 2 dX12_day_20 rfl ?_
      refine mm_aload_n 0 dX12_day_21 rfl ?_
      refine mm_getI dX12_day_22 fl_RX12_144 lo_97 rfl ?_
      refine mm_icmp_le 30 dX12_day_25 rfl ?_ ?_
      · refine mm_aload_n 0 dX12_day_30 rfl ?_
        refine mm_iconst (v := 0) dX12_day_31 rfl ?_
        refine mm_putI dX12_day_32 fp_RX12_151 lo_97 rfl ?_
        refine mm_nm_M (fun M_5 => ?_)
        refine mm_aload_n 0 dX12_day_35 rfl ?_
        refine mm_iload_n 2 dX12_day_36 rfl ?_
        refine mm_putI dX12_day_37 fp_RX12_187 lo_97 rfl ?_
        refine mm_nm_M (fun M_6 => ?_)
        refine mm_iconst (v := 0) dX12_day_40 rfl ?_
        refine mm_istore_n [1, 2, 3, 0] (lv2 := [(0, .ref 97), (1, .int v1), (2, .int v2), (3, .int 0)]) dX12_day_41 (by decide) rfl ?_
        refine mm_wk [0, 1, 3] rfl ?_
        refine lp_R_day_42_ok E v1 ?_ mm_fu 0 M_6
        · intro M_9
          refine mm_iconst (v := 0) dX12_day_61 rfl ?_
          refine mm_istore_n [1, 2, 0] (lv2 := [(0, .ref 97), (1, .int v1), (3, .int 0)]) dX12_day_62 (by decide) rfl ?_
          refine mm_aload_n 0 dX12_day_63 rfl ?_
          refine mm_iload_n 2 dX12_day_64 rfl ?_
          refine mm_callVz (as := [.int 0]) (st := []) (c_R_readsPart E 0 M_9) dX12_day_65 mz_X12_readsPart lk_RX12_190 im_X12_readsPart se_X12_readsPart lo_97 rfl rfl rfl ⟨Nat.le_of_ble_eq_true rfl, Nat.le_of_ble_eq_true rfl⟩ (Nat.le_of_ble_eq_true rfl) (fun b_10 M_11 => ?_)
          refine mm_istore [1, 2, 3, 0] (lv2 := [(0, .ref 97), (1, .int v1), (3, .int 0), (4, .int (mm_b b_10))]) dX12_day_68 (by decide) rfl ?_
          refine lp_R_day_70_ok E v1 ?_ mm_fu 0 b_10 M_11
          · intro v3 v4 M_19
            refine mm_aload_n 0 dX12_day_117 rfl ?_
            refine mm_iconst (v := 0) dX12_day_118 rfl ?_
            refine mm_putI dX12_day_119 fp_RX12_144 lo_97 rfl ?_
            refine mm_nm_M (fun M_20 => ?_)
            refine mm_iload 3 dX12_day_122 rfl ?_
            refine mm_if_ne_b 132 dX12_day_124 rfl ?_ ?_
            · refine mm_iconst (v := 0) dX12_day_132 rfl ?_
              refine mm_istore [1, 2, 3, 4, 0] (lv2 := [(0, .ref 97), (1, .int v1), (3, .int v3), (4, .int (mm_b v4)), (5, .int 0)]) dX12_day_133 (by decide) rfl ?_
              refine mm_wk [0, 1, 2, 4] rfl ?_
              refine lp_R_day_135_ok E v1 v3 ?_ mm_fu 0 M_20
              · intro M_23
                refine mm_aload_n 0 dX12_day_167 rfl ?_
                refine mm_aload_n 0 dX12_day_168 rfl ?_
                refine mm_getI dX12_day_169 fl_RX12_196 lo_97 rfl ?_
                refine mm_iconst (v := 1) dX12_day_172 rfl ?_
                refine mm_iload_n 1 dX12_day_173 rfl ?_
                refine mm_ishl dX12_day_174 ?_
                refine mm_ior dX12_day_175 ?_
                refine mm_putI dX12_day_176 fp_RX12_196 lo_97 rfl ?_
                refine mm_nm_M (fun M_24 => ?_)
                refine mm_iload_n 2 dX12_day_179 rfl ?_
                refine mm_iconst (v := 1) dX12_day_180 rfl ?_
                refine mm_iadd dX12_day_181 ?_
                exact mm_iret dX12_day_182 rfl
            · refine mm_aload_n 0 dX12_day_127 rfl ?_
              refine mm_getI dX12_day_128 fl_RX12_193 lo_97 rfl ?_
              exact mm_iret dX12_day_131 rfl
      · refine mm_iconst (v := (-1)) dX12_day_28 rfl ?_
        exact mm_iret dX12_day_29 rfl
def f_R_has (v0 : Int32) (v1 : Int32) (M : mm_M) : Option (Bool × mm_M) := if (v0 >>> (v1 &&& 31)) &&& 1 = 1 then some (true, M) else some (false, M)
set_option maxHeartbeats 4000000 in
theorem c_R_has (E : mm_E) (v0 : Int32) (v1 : Int32) (M : mm_M) : ∀ (r : Bool) (M2 : mm_M), f_R_has v0 v1 M = some (r, M2) → mm_P E Y_X12_has 1 [.int v0, .int v1] M (some (.int (mm_b r))) M2 := by
  refine mm_entry (em := (fun x : Bool => some (.int (mm_b x)))) (by decide +kernel) (Nat.le_of_ble_eq_true rfl) ?_
  show mm_G _ E _ _ 0 [(0, .int v0), (1, .int v1)] [] M _
  unfold f_R_has
  refine mm_iload_n 0 dX12_has_0 rfl ?_
  refine mm_iload_n 1 dX12_has_1 rfl ?_
  refine mm_ishr dX12_has_2 ?_
  refine mm_iconst (v := 1) dX12_has_3 rfl ?_
  refine mm_iand dX12_has_4 ?_
  refine mm_iconst (v := 1) dX12_has_5 rfl ?_
  refine mm_icmp_ne 13 dX12_has_6 rfl ?_ ?_
  · refine mm_iconst (v := 0) dX12_has_13 rfl ?_
    exact mm_zret (b := false) dX12_has_14 rfl
  · refine mm_iconst (v := 1) dX12_has_9 rfl ?_
    refine mm_goto 14 dX12_has_10 rfl ?_
    exact mm_zret (b := true) dX12_has_14 rfl
def f_R_isDay (v1 : Int32) (M : mm_M) : Option (Bool × mm_M) := if v1 < 0 then some (false, M) else if 12 ≤ v1 then some (false, M) else mm_bd (f_R_has (M.1 97 6) v1 M) fun b_1 M_2 => if b_1 = true then some (true, M_2) else some (false, M_2)
set_option maxHeartbeats 4000000 in
theorem c_R_isDay (E : mm_E) (v1 : Int32) (M : mm_M) : ∀ (r : Bool) (M2 : mm_M), f_R_isDay v1 M = some (r, M2) → mm_P E Y_X12_isDay 2 [.ref 97, .int v1] M (some (.int (mm_b r))) M2 := by
  refine mm_entry (em := (fun x : Bool => some (.int (mm_b x)))) (by decide +kernel) (Nat.le_of_ble_eq_true rfl) ?_
  show mm_G _ E _ _ 0 [(0, .ref 97), (1, .int v1)] [] M _
  unfold f_R_isDay
  refine mm_iload_n 1 dX12_isDay_0 rfl ?_
  refine mm_if_lt 25 dX12_isDay_1 rfl ?_ ?_
  · refine mm_iconst (v := 0) dX12_isDay_25 rfl ?_
    exact mm_zret (b := false) dX12_isDay_26 rfl
  · refine mm_iload_n 1 dX12_isDay_4 rfl ?_
    refine mm_bipush (v := 12) dX12_isDay_5 rfl ?_
    refine mm_icmp_ge 25 dX12_isDay_7 rfl ?_ ?_
    · refine mm_iconst (v := 0) dX12_isDay_25 rfl ?_
      exact mm_zret (b := false) dX12_isDay_26 rfl
    · refine mm_aload_n 0 dX12_isDay_10 rfl ?_
      refine mm_getI dX12_isDay_11 fl_RX12_196 lo_97 rfl ?_
      refine mm_iload_n 1 dX12_isDay_14 rfl ?_
      refine mm_callSz (as := [.int (M.1 97 6), .int v1]) (st := []) (c_R_has E (M.1 97 6) v1 M) dX12_isDay_15 mz_X12_has lk_RX12_199 sm_X12_has rfl ⟨Nat.le_of_ble_eq_true rfl, Nat.le_of_ble_eq_true rfl⟩ (Nat.le_of_ble_eq_true rfl) (fun b_1 M_2 => ?_)
      refine mm_if_eq_b 25 dX12_isDay_18 rfl ?_ ?_
      · refine mm_iconst (v := 0) dX12_isDay_25 rfl ?_
        exact mm_zret (b := false) dX12_isDay_26 rfl
      · refine mm_iconst (v := 1) dX12_isDay_21 rfl ?_
        refine mm_goto 26 dX12_isDay_22 rfl ?_
        exact mm_zret (b := true) dX12_isDay_26 rfl
def f_R_isKind (v0 : Int32) (M : mm_M) : Option (Bool × mm_M) := if v0 < 0 then some (false, M) else if 3 ≤ v0 then some (false, M) else some (true, M)
set_option maxHeartbeats 4000000 in
theorem c_R_isKind (E : mm_E) (v0 : Int32) (M : mm_M) : ∀ (r : Bool) (M2 : mm_M), f_R_isKind v0 M = some (r, M2) → mm_P E Y_X12_isKind 1 [.int v0] M (some (.int (mm_b r))) M2 := by
  refine mm_entry (em := (fun x : Bool => some (.int (mm_b x)))) (by decide +kernel) (Nat.le_of_ble_eq_true rfl) ?_
  show mm_G _ E _ _ 0 [(0, .int v0)] [] M _
  unfold f_R_isKind
  refine mm_iload_n 0 dX12_isKind_0 rfl ?_
  refine mm_if_lt 13 dX12_isKind_1 rfl ?_ ?_
  · refine mm_iconst (v := 0) dX12_isKind_13 rfl ?_
    exact mm_zret (b := false) dX12_isKind_14 rfl
  · refine mm_iload_n 0 dX12_isKind_4 rfl ?_
    refine mm_iconst (v := 3) dX12_isKind_5 rfl ?_
    refine mm_icmp_ge 13 dX12_isKind_6 rfl ?_ ?_
    · refine mm_iconst (v := 0) dX12_isKind_13 rfl ?_
      exact mm_zret (b := false) dX12_isKind_14 rfl
    · refine mm_iconst (v := 1) dX12_isKind_9 rfl ?_
      refine mm_goto 14 dX12_isKind_10 rfl ?_
      exact mm_zret (b := true) dX12_isKind_14 rfl
def f_R_isHour (v0 : Int32) (M : mm_M) : Option (Bool × mm_M) := if v0 < 0 then some (false, M) else if 24 ≤ v0 then some (false, M) else some (true, M)
set_option maxHeartbeats 4000000 in
theorem c_R_isHour (E : mm_E) (v0 : Int32) (M : mm_M) : ∀ (r : Bool) (M2 : mm_M), f_R_isHour v0 M = some (r, M2) → mm_P E Y_X12_isHour 1 [.int v0] M (some (.int (mm_b r))) M2 := by
  refine mm_entry (em := (fun x : Bool => some (.int (mm_b x)))) (by decide +kernel) (Nat.le_of_ble_eq_true rfl) ?_
  show mm_G _ E _ _ 0 [(0, .int v0)] [] M _
  unfold f_R_isHour
  refine mm_iload_n 0 dX12_isHour_0 rfl ?_
  refine mm_if_lt 14 dX12_isHour_1 rfl ?_ ?_
  · refine mm_iconst (v := 0) dX12_isHour_14 rfl ?_
    exact mm_zret (b := false) dX12_isHour_15 rfl
  · refine mm_iload_n 0 dX12_isHour_4 rfl ?_
    refine mm_bipush (v := 24) dX12_isHour_5 rfl ?_
    refine mm_icmp_ge 14 dX12_isHour_7 rfl ?_ ?_
    · refine mm_iconst (v := 0) dX12_isHour_14 rfl ?_
      exact mm_zret (b := false) dX12_isHour_15 rfl
    · refine mm_iconst (v := 1) dX12_isHour_10 rfl ?_
      refine mm_goto 15 dX12_isHour_11 rfl ?_
      exact mm_zret (b := true) dX12_isHour_15 rfl
def f_R_dayIs (v1 : Int32) (v2 : Int32) (v3 : Int32) (M : mm_M) : Option (Int32 × mm_M) := mm_bd (f_R_isDay v1 M) fun b_1 M_2 => if b_1 = true then mm_bd (f_R_isKind v2 M_2) fun b_3 M_4 => if b_3 = true then mm_bd (f_R_isHour v3 M_4) fun b_5 M_6 => if b_5 = true then if mm_in (((72 * v1) + (24 * v2)) + v3) (mm_al 99) = true then some (M_6.2.1 99 (((72 * v1) + (24 * v2)) + v3).toNatClampNeg, M_6) else none else some ((-1), M_6) else some ((-1), M_4) else some ((-1), M_2)
set_option maxHeartbeats 4000000 in
theorem c_R_dayIs (E : mm_E) (v1 : Int32) (v2 : Int32) (v3 : Int32) (M : mm_M) : ∀ (r : Int32) (M2 : mm_M), f_R_dayIs v1 v2 v3 M = some (r, M2) → mm_P E Y_X12_dayIs 3 [.ref 97, .int v1, .int v2, .int v3] M (some (.int r)) M2 := by
  refine mm_entry (em := (fun x : Int32 => some (.int x))) (by decide +kernel) (Nat.le_of_ble_eq_true rfl) ?_
  show mm_G _ E _ _ 0 [(0, .ref 97), (1, .int v1), (2, .int v2), (3, .int v3)] [] M _
  unfold f_R_dayIs
  refine mm_aload_n 0 dX12_dayIs_0 rfl ?_
  refine mm_iload_n 1 dX12_dayIs_1 rfl ?_
  refine mm_callVz (as := [.int v1]) (st := []) (c_R_isDay E v1 M) dX12_dayIs_2 mz_X12_isDay lk_RX12_202 im_X12_isDay se_X12_isDay lo_97 rfl rfl rfl ⟨Nat.le_of_ble_eq_true rfl, Nat.le_of_ble_eq_true rfl⟩ (Nat.le_of_ble_eq_true rfl) (fun b_1 M_2 => ?_)
  refine mm_if_eq_b 41 dX12_dayIs_5 rfl ?_ ?_
  · refine mm_iconst (v := (-1)) dX12_dayIs_41 rfl ?_
    exact mm_iret dX12_dayIs_42 rfl
  · refine mm_iload_n 2 dX12_dayIs_8 rfl ?_
    refine mm_callSz (as := [.int v2]) (st := []) (c_R_isKind E v2 M_2) dX12_dayIs_9 mz_X12_isKind lk_RX12_205 sm_X12_isKind rfl ⟨Nat.le_of_ble_eq_true rfl, Nat.le_of_ble_eq_true rfl⟩ (Nat.le_of_ble_eq_true rfl) (fun b_3 M_4 => ?_)
    refine mm_if_eq_b 41 dX12_dayIs_12 rfl ?_ ?_
    · refine mm_iconst (v := (-1)) dX12_dayIs_41 rfl ?_
      exact mm_iret dX12_dayIs_42 rfl
    · refine mm_iload_n 3 dX12_dayIs_15 rfl ?_
      refine mm_callSz (as := [.int v3]) (st := []) (c_R_isHour E v3 M_4) dX12_dayIs_16 mz_X12_isHour lk_RX12_208 sm_X12_isHour rfl ⟨Nat.le_of_ble_eq_true rfl, Nat.le_of_ble_eq_true rfl⟩ (Nat.le_of_ble_eq_true rfl) (fun b_5 M_6 => ?_)
      refine mm_if_eq_b 41 dX12_dayIs_19 rfl ?_ ?_
      · refine mm_iconst (v := (-1)) dX12_dayIs_41 rfl ?_
        exact mm_iret dX12_dayIs_42 rfl
      · refine mm_aload_n 0 dX12_dayIs_22 rfl ?_
        refine mm_getR 99 dX12_dayIs_23 fl_RX12_13 lo_97 rfl ?_
        refine mm_bipush (v := 72) dX12_dayIs_26 rfl ?_
        refine mm_iload_n 1 dX12_dayIs_28 rfl ?_
        refine mm_imul dX12_dayIs_29 ?_
        refine mm_bipush (v := 24) dX12_dayIs_30 rfl ?_
        refine mm_iload_n 2 dX12_dayIs_32 rfl ?_
        refine mm_imul dX12_dayIs_33 ?_
        refine mm_iadd dX12_dayIs_34 ?_
        refine mm_iload_n 3 dX12_dayIs_35 rfl ?_
        refine mm_iadd dX12_dayIs_36 ?_
        refine mm_iaload dX12_dayIs_37 ?_
        refine mm_goto 42 dX12_dayIs_38 rfl ?_
        exact mm_iret dX12_dayIs_42 rfl
def f_R_room (v1 : Int32) (M : mm_M) : Option (Int32 × mm_M) := mm_bd (f_R_in v1 0 3 M) fun b_1 M_2 => if b_1 = true then if M_2.1 97 9 = 10 then some ((-1), M_2) else if mm_in (M_2.1 97 9) (mm_al 101) = true then mm_let (mm_setA M_2 101 ((M_2.1 97 9).toNatClampNeg) v1) fun M_3 => mm_let (mm_setI M_3 97 9 ((M_3.1 97 9) + 1)) fun M_4 => some ((M_4.1 97 9) - 1, M_4) else none else some ((-1), M_2)
set_option maxHeartbeats 4000000 in
theorem c_R_room (E : mm_E) (v1 : Int32) (M : mm_M) : ∀ (r : Int32) (M2 : mm_M), f_R_room v1 M = some (r, M2) → mm_P E Y_X12_room 2 [.ref 97, .int v1] M (some (.int r)) M2 := by
  refine mm_entry (em := (fun x : Int32 => some (.int x))) (by decide +kernel) (Nat.le_of_ble_eq_true rfl) ?_
  show mm_G _ E _ _ 0 [(0, .ref 97), (1, .int v1)] [] M _
  unfold f_R_room
  refine mm_iload_n 1 dX12_room_0 rfl ?_
  refine mm_iconst (v := 0) dX12_room_1 rfl ?_
  refine mm_iconst (v := 3) dX12_room_2 rfl ?_
  refine mm_callSz (as := [.int v1, .int 0, .int 3]) (st := []) (c_R_in E v1 0 3 M) dX12_room_3 mz_X12_in lk_RX12_169 sm_X12_in rfl ⟨Nat.le_of_ble_eq_true rfl, Nat.le_of_ble_eq_true rfl⟩ (Nat.le_of_ble_eq_true rfl) (fun b_1 M_2 => ?_)
  refine mm_if_eq_b 18 dX12_room_6 rfl ?_ ?_
  · refine mm_iconst (v := (-1)) dX12_room_18 rfl ?_
    exact mm_iret dX12_room_19 rfl
  · refine mm_aload_n 0 dX12_room_9 rfl ?_
    refine mm_getI dX12_room_10 fl_RX12_211 lo_97 rfl ?_
    refine mm_bipush (v := 10) dX12_room_13 rfl ?_
    refine mm_icmp_ne 20 dX12_room_15 rfl ?_ ?_
    · refine mm_aload_n 0 dX12_room_20 rfl ?_
      refine mm_getR 101 dX12_room_21 fl_RX12_20 lo_97 rfl ?_
      refine mm_aload_n 0 dX12_room_24 rfl ?_
      refine mm_getI dX12_room_25 fl_RX12_211 lo_97 rfl ?_
      refine mm_iload_n 1 dX12_room_28 rfl ?_
      refine mm_iastore dX12_room_29 ?_
      refine mm_nm_M (fun M_3 => ?_)
      refine mm_aload_n 0 dX12_room_30 rfl ?_
      refine mm_aload_n 0 dX12_room_31 rfl ?_
      refine mm_getI dX12_room_32 fl_RX12_211 lo_97 rfl ?_
      refine mm_iconst (v := 1) dX12_room_35 rfl ?_
      refine mm_iadd dX12_room_36 ?_
      refine mm_putI dX12_room_37 fp_RX12_211 lo_97 rfl ?_
      refine mm_nm_M (fun M_4 => ?_)
      refine mm_aload_n 0 dX12_room_40 rfl ?_
      refine mm_getI dX12_room_41 fl_RX12_211 lo_97 rfl ?_
      refine mm_iconst (v := 1) dX12_room_44 rfl ?_
      refine mm_isub dX12_room_45 ?_
      exact mm_iret dX12_room_46 rfl
    · refine mm_iconst (v := (-1)) dX12_room_18 rfl ?_
      exact mm_iret dX12_room_19 rfl
def f_R_plant (v1 : Int32) (v2 : Int32) (v3 : Int32) (M : mm_M) : Option (Bool × mm_M) := mm_bd (f_R_isKind v1 M) fun b_1 M_2 => if b_1 = true then mm_bd (f_R_in v2 0 999 M_2) fun b_3 M_4 => if b_3 = true then mm_bd (f_R_in v3 0 999 M_4) fun b_5 M_6 => if b_5 = true then if mm_in v1 (mm_al 102) = true then mm_let (mm_setA M_6 102 (v1.toNatClampNeg) v2) fun M_7 => if mm_in v1 (mm_al 103) = true then mm_let (mm_setA M_7 103 (v1.toNatClampNeg) v3) fun M_8 => some (true, M_8) else none else none else some (false, M_6) else some (false, M_4) else some (false, M_2)
set_option maxHeartbeats 4000000 in
theorem c_R_plant (E : mm_E) (v1 : Int32) (v2 : Int32) (v3 : Int32) (M : mm_M) : ∀ (r : Bool) (M2 : mm_M), f_R_plant v1 v2 v3 M = some (r, M2) → mm_P E Y_X12_plant 2 [.ref 97, .int v1, .int v2, .int v3] M (some (.int (mm_b r))) M2 := by
  refine mm_entry (em := (fun x : Bool => some (.int (mm_b x)))) (by decide +kernel) (Nat.le_of_ble_eq_true rfl) ?_
  show mm_G _ E _ _ 0 [(0, .ref 97), (1, .int v1), (2, .int v2), (3, .int v3)] [] M _
  unfold f_R_plant
  refine mm_iload_n 1 dX12_plant_0 rfl ?_
  refine mm_callSz (as := [.int v1]) (st := []) (c_R_isKind E v1 M) dX12_plant_1 mz_X12_isKind lk_RX12_205 sm_X12_isKind rfl ⟨Nat.le_of_ble_eq_true rfl, Nat.le_of_ble_eq_true rfl⟩ (Nat.le_of_ble_eq_true rfl) (fun b_1 M_2 => ?_)
  refine mm_if_eq_b 29 dX12_plant_4 rfl ?_ ?_
  · refine mm_iconst (v := 0) dX12_plant_29 rfl ?_
    exact mm_zret (b := false) dX12_plant_30 rfl
  · refine mm_iload_n 2 dX12_plant_7 rfl ?_
    refine mm_iconst (v := 0) dX12_plant_8 rfl ?_
    refine mm_sipush (v := 999) dX12_plant_9 rfl ?_
    refine mm_callSz (as := [.int v2, .int 0, .int 999]) (st := []) (c_R_in E v2 0 999 M_2) dX12_plant_12 mz_X12_in lk_RX12_169 sm_X12_in rfl ⟨Nat.le_of_ble_eq_true rfl, Nat.le_of_ble_eq_true rfl⟩ (Nat.le_of_ble_eq_true rfl) (fun b_3 M_4 => ?_)
    refine mm_if_eq_b 29 dX12_plant_15 rfl ?_ ?_
    · refine mm_iconst (v := 0) dX12_plant_29 rfl ?_
      exact mm_zret (b := false) dX12_plant_30 rfl
    · refine mm_iload_n 3 dX12_plant_18 rfl ?_
      refine mm_iconst (v := 0) dX12_plant_19 rfl ?_
      refine mm_sipush (v := 999) dX12_plant_20 rfl ?_
      refine mm_callSz (as := [.int v3, .int 0, .int 999]) (st := []) (c_R_in E v3 0 999 M_4) dX12_plant_23 mz_X12_in lk_RX12_169 sm_X12_in rfl ⟨Nat.le_of_ble_eq_true rfl, Nat.le_of_ble_eq_true rfl⟩ (Nat.le_of_ble_eq_true rfl) (fun b_5 M_6 => ?_)
      refine mm_if_ne_b 31 dX12_plant_26 rfl ?_ ?_
      · refine mm_aload_n 0 dX12_plant_31 rfl ?_
        refine mm_getR 102 dX12_plant_32 fl_RX12_23 lo_97 rfl ?_
        refine mm_iload_n 1 dX12_plant_35 rfl ?_
        refine mm_iload_n 2 dX12_plant_36 rfl ?_
        refine mm_iastore dX12_plant_37 ?_
        refine mm_nm_M (fun M_7 => ?_)
        refine mm_aload_n 0 dX12_plant_38 rfl ?_
        refine mm_getR 103 dX12_plant_39 fl_RX12_26 lo_97 rfl ?_
        refine mm_iload_n 1 dX12_plant_42 rfl ?_
        refine mm_iload_n 3 dX12_plant_43 rfl ?_
        refine mm_iastore dX12_plant_44 ?_
        refine mm_nm_M (fun M_8 => ?_)
        refine mm_iconst (v := 1) dX12_plant_45 rfl ?_
        exact mm_zret (b := true) dX12_plant_46 rfl
      · refine mm_iconst (v := 0) dX12_plant_29 rfl ?_
        exact mm_zret (b := false) dX12_plant_30 rfl
def f_R_pipes (v1 : Int32) (v2 : Int32) (M : mm_M) : Option (Bool × mm_M) := mm_bd (f_R_in v1 0 3 M) fun b_1 M_2 => if b_1 = true then mm_bd (f_R_in v2 0 999 M_2) fun b_3 M_4 => if b_3 = true then if mm_in v1 (mm_al 104) = true then mm_let (mm_setA M_4 104 (v1.toNatClampNeg) v2) fun M_5 => some (true, M_5) else none else some (false, M_4) else some (false, M_2)
set_option maxHeartbeats 4000000 in
theorem c_R_pipes (E : mm_E) (v1 : Int32) (v2 : Int32) (M : mm_M) : ∀ (r : Bool) (M2 : mm_M), f_R_pipes v1 v2 M = some (r, M2) → mm_P E Y_X12_pipes 2 [.ref 97, .int v1, .int v2] M (some (.int (mm_b r))) M2 := by
  refine mm_entry (em := (fun x : Bool => some (.int (mm_b x)))) (by decide +kernel) (Nat.le_of_ble_eq_true rfl) ?_
  show mm_G _ E _ _ 0 [(0, .ref 97), (1, .int v1), (2, .int v2)] [] M _
  unfold f_R_pipes
  refine mm_iload_n 1 dX12_pipes_0 rfl ?_
  refine mm_iconst (v := 0) dX12_pipes_1 rfl ?_
  refine mm_iconst (v := 3) dX12_pipes_2 rfl ?_
  refine mm_callSz (as := [.int v1, .int 0, .int 3]) (st := []) (c_R_in E v1 0 3 M) dX12_pipes_3 mz_X12_in lk_RX12_169 sm_X12_in rfl ⟨Nat.le_of_ble_eq_true rfl, Nat.le_of_ble_eq_true rfl⟩ (Nat.le_of_ble_eq_true rfl) (fun b_1 M_2 => ?_)
  refine mm_if_eq_b 20 dX12_pipes_6 rfl ?_ ?_
  · refine mm_iconst (v := 0) dX12_pipes_20 rfl ?_
    exact mm_zret (b := false) dX12_pipes_21 rfl
  · refine mm_iload_n 2 dX12_pipes_9 rfl ?_
    refine mm_iconst (v := 0) dX12_pipes_10 rfl ?_
    refine mm_sipush (v := 999) dX12_pipes_11 rfl ?_
    refine mm_callSz (as := [.int v2, .int 0, .int 999]) (st := []) (c_R_in E v2 0 999 M_2) dX12_pipes_14 mz_X12_in lk_RX12_169 sm_X12_in rfl ⟨Nat.le_of_ble_eq_true rfl, Nat.le_of_ble_eq_true rfl⟩ (Nat.le_of_ble_eq_true rfl) (fun b_3 M_4 => ?_)
    refine mm_if_ne_b 22 dX12_pipes_17 rfl ?_ ?_
    · refine mm_aload_n 0 dX12_pipes_22 rfl ?_
      refine mm_getR 104 dX12_pipes_23 fl_RX12_29 lo_97 rfl ?_
      refine mm_iload_n 1 dX12_pipes_26 rfl ?_
      refine mm_iload_n 2 dX12_pipes_27 rfl ?_
      refine mm_iastore dX12_pipes_28 ?_
      refine mm_nm_M (fun M_5 => ?_)
      refine mm_iconst (v := 1) dX12_pipes_29 rfl ?_
      exact mm_zret (b := true) dX12_pipes_30 rfl
    · refine mm_iconst (v := 0) dX12_pipes_20 rfl ?_
      exact mm_zret (b := false) dX12_pipes_21 rfl
def f_R_cellar (v1 : Int32) (v2 : Int32) (M : mm_M) : Option (Bool × mm_M) := mm_bd (f_R_in v1 0 9999 M) fun b_1 M_2 => if b_1 = true then mm_bd (f_R_in v2 0 99 M_2) fun b_3 M_4 => if b_3 = true then mm_let (mm_setI M_4 97 10 v1) fun M_5 => mm_let (mm_setI M_5 97 11 v2) fun M_6 => some (true, M_6) else some (false, M_4) else some (false, M_2)
set_option maxHeartbeats 4000000 in
theorem c_R_cellar (E : mm_E) (v1 : Int32) (v2 : Int32) (M : mm_M) : ∀ (r : Bool) (M2 : mm_M), f_R_cellar v1 v2 M = some (r, M2) → mm_P E Y_X12_cellar 2 [.ref 97, .int v1, .int v2] M (some (.int (mm_b r))) M2 := by
  refine mm_entry (em := (fun x : Bool => some (.int (mm_b x)))) (by decide +kernel) (Nat.le_of_ble_eq_true rfl) ?_
  show mm_G _ E _ _ 0 [(0, .ref 97), (1, .int v1), (2, .int v2)] [] M _
  unfold f_R_cellar
  refine mm_iload_n 1 dX12_cellar_0 rfl ?_
  refine mm_iconst (v := 0) dX12_cellar_1 rfl ?_
  refine mm_sipush (v := 9999) dX12_cellar_2 rfl ?_
  refine mm_callSz (as := [.int v1, .int 0, .int 9999]) (st := []) (c_R_in E v1 0 9999 M) dX12_cellar_5 mz_X12_in lk_RX12_169 sm_X12_in rfl ⟨Nat.le_of_ble_eq_true rfl, Nat.le_of_ble_eq_true rfl⟩ (Nat.le_of_ble_eq_true rfl) (fun b_1 M_2 => ?_)
  refine mm_if_eq_b 21 dX12_cellar_8 rfl ?_ ?_
  · refine mm_iconst (v := 0) dX12_cellar_21 rfl ?_
    exact mm_zret (b := false) dX12_cellar_22 rfl
  · refine mm_iload_n 2 dX12_cellar_11 rfl ?_
    refine mm_iconst (v := 0) dX12_cellar_12 rfl ?_
    refine mm_bipush (v := 99) dX12_cellar_13 rfl ?_
    refine mm_callSz (as := [.int v2, .int 0, .int 99]) (st := []) (c_R_in E v2 0 99 M_2) dX12_cellar_15 mz_X12_in lk_RX12_169 sm_X12_in rfl ⟨Nat.le_of_ble_eq_true rfl, Nat.le_of_ble_eq_true rfl⟩ (Nat.le_of_ble_eq_true rfl) (fun b_3 M_4 => ?_)
    refine mm_if_ne_b 23 dX12_cellar_18 rfl ?_ ?_
    · refine mm_aload_n 0 dX12_cellar_23 rfl ?_
      refine mm_iload_n 1 dX12_cellar_24 rfl ?_
      refine mm_putI dX12_cellar_25 fp_RX12_141 lo_97 rfl ?_
      refine mm_nm_M (fun M_5 => ?_)
      refine mm_aload_n 0 dX12_cellar_28 rfl ?_
      refine mm_iload_n 2 dX12_cellar_29 rfl ?_
      refine mm_putI dX12_cellar_30 fp_RX12_214 lo_97 rfl ?_
      refine mm_nm_M (fun M_6 => ?_)
      refine mm_iconst (v := 1) dX12_cellar_33 rfl ?_
      exact mm_zret (b := true) dX12_cellar_34 rfl
    · refine mm_iconst (v := 0) dX12_cellar_21 rfl ?_
      exact mm_zret (b := false) dX12_cellar_22 rfl
def f_R_isRoom (v1 : Int32) (M : mm_M) : Option (Bool × mm_M) := if v1 < 0 then some (false, M) else if M.1 97 9 ≤ v1 then some (false, M) else some (true, M)
set_option maxHeartbeats 4000000 in
theorem c_R_isRoom (E : mm_E) (v1 : Int32) (M : mm_M) : ∀ (r : Bool) (M2 : mm_M), f_R_isRoom v1 M = some (r, M2) → mm_P E Y_X12_isRoom 1 [.ref 97, .int v1] M (some (.int (mm_b r))) M2 := by
  refine mm_entry (em := (fun x : Bool => some (.int (mm_b x)))) (by decide +kernel) (Nat.le_of_ble_eq_true rfl) ?_
  show mm_G _ E _ _ 0 [(0, .ref 97), (1, .int v1)] [] M _
  unfold f_R_isRoom
  refine mm_iload_n 1 dX12_isRoom_0 rfl ?_
  refine mm_if_lt 16 dX12_isRoom_1 rfl ?_ ?_
  · refine mm_iconst (v := 0) dX12_isRoom_16 rfl ?_
    exact mm_zret (b := false) dX12_isRoom_17 rfl
  · refine mm_iload_n 1 dX12_isRoom_4 rfl ?_
    refine mm_aload_n 0 dX12_isRoom_5 rfl ?_
    refine mm_getI dX12_isRoom_6 fl_RX12_211 lo_97 rfl ?_
    refine mm_icmp_ge 16 dX12_isRoom_9 rfl ?_ ?_
    · refine mm_iconst (v := 0) dX12_isRoom_16 rfl ?_
      exact mm_zret (b := false) dX12_isRoom_17 rfl
    · refine mm_iconst (v := 1) dX12_isRoom_12 rfl ?_
      refine mm_goto 17 dX12_isRoom_13 rfl ?_
      exact mm_zret (b := true) dX12_isRoom_17 rfl
def f_R_isStay (v1 : Int32) (M : mm_M) : Option (Bool × mm_M) := if v1 < 0 then some (false, M) else if 10 ≤ v1 then some (false, M) else mm_bd (f_R_has (M.1 97 12) v1 M) fun b_1 M_2 => if b_1 = true then some (true, M_2) else some (false, M_2)
set_option maxHeartbeats 4000000 in
theorem c_R_isStay (E : mm_E) (v1 : Int32) (M : mm_M) : ∀ (r : Bool) (M2 : mm_M), f_R_isStay v1 M = some (r, M2) → mm_P E Y_X12_isStay 2 [.ref 97, .int v1] M (some (.int (mm_b r))) M2 := by
  refine mm_entry (em := (fun x : Bool => some (.int (mm_b x)))) (by decide +kernel) (Nat.le_of_ble_eq_true rfl) ?_
  show mm_G _ E _ _ 0 [(0, .ref 97), (1, .int v1)] [] M _
  unfold f_R_isStay
  refine mm_iload_n 1 dX12_isStay_0 rfl ?_
  refine mm_if_lt 25 dX12_isStay_1 rfl ?_ ?_
  · refine mm_iconst (v := 0) dX12_isStay_25 rfl ?_
    exact mm_zret (b := false) dX12_isStay_26 rfl
  · refine mm_iload_n 1 dX12_isStay_4 rfl ?_
    refine mm_bipush (v := 10) dX12_isStay_5 rfl ?_
    refine mm_icmp_ge 25 dX12_isStay_7 rfl ?_ ?_
    · refine mm_iconst (v := 0) dX12_isStay_25 rfl ?_
      exact mm_zret (b := false) dX12_isStay_26 rfl
    · refine mm_aload_n 0 dX12_isStay_10 rfl ?_
      refine mm_getI dX12_isStay_11 fl_RX12_217 lo_97 rfl ?_
      refine mm_iload_n 1 dX12_isStay_14 rfl ?_
      refine mm_callSz (as := [.int (M.1 97 12), .int v1]) (st := []) (c_R_has E (M.1 97 12) v1 M) dX12_isStay_15 mz_X12_has lk_RX12_199 sm_X12_has rfl ⟨Nat.le_of_ble_eq_true rfl, Nat.le_of_ble_eq_true rfl⟩ (Nat.le_of_ble_eq_true rfl) (fun b_1 M_2 => ?_)
      refine mm_if_eq_b 25 dX12_isStay_18 rfl ?_ ?_
      · refine mm_iconst (v := 0) dX12_isStay_25 rfl ?_
        exact mm_zret (b := false) dX12_isStay_26 rfl
      · refine mm_iconst (v := 1) dX12_isStay_21 rfl ?_
        refine mm_goto 26 dX12_isStay_22 rfl ?_
        exact mm_zret (b := true) dX12_isStay_26 rfl
def lp_R_stayIn_2 (v1 : Int32) (k26 : Int32 → mm_M → Option (Int32 × mm_M)) (k34 : mm_M → Option (Int32 × mm_M)) : Nat → Int32 → mm_M → Option (Int32 × mm_M)
  | 0, _, _ => none
  | n + 1, v2, M => if 10 ≤ v2 then k34 M else mm_bd (f_R_isStay v2 M) fun b_1 M_2 => mm_jn (fun (v2 : Int32) (M_3 : mm_M) => mm_let (v2 + 1) fun v2_4 => lp_R_stayIn_2 v1 k26 k34 n v2_4 M_3) fun j28 => if b_1 = true then if mm_in v2 (mm_al 105) = true then if M_2.2.1 105 v2.toNatClampNeg = v1 then k26 v2 M_2 else j28 v2 M_2 else none else j28 v2 M_2
set_option maxHeartbeats 4000000 in
theorem lp_R_stayIn_2_ok (E : mm_E) (v1 : Int32) {k26 : Int32 → mm_M → Option (Int32 × mm_M)} {k34 : mm_M → Option (Int32 × mm_M)} (hk26 : ∀ (v2 : Int32) (M : mm_M), mm_G (fun x : Int32 => some (.int x)) E Y_X12_stayIn 3 26 [(2, .int v2)] [] M (k26 v2 M)) (hk34 : ∀ (M : mm_M), mm_G (fun x : Int32 => some (.int x)) E Y_X12_stayIn 3 34 [] [] M (k34 M)) : ∀ (n : Nat) (v2 : Int32) (M : mm_M), mm_G (fun x : Int32 => some (.int x)) E Y_X12_stayIn 3 2 [(0, .ref 97), (1, .int v1), (2, .int v2)] [] M (lp_R_stayIn_2 v1 k26 k34 n v2 M) := by
  intro n
  induction n with
  | zero => intro v2 M r M2 he; cases he
  | succ n ih =>
    intro v2 M
    rw [lp_R_stayIn_2]
    refine mm_iload_n 2 dX12_stayIn_2 rfl ?_
    refine mm_bipush (v := 10) dX12_stayIn_3 rfl ?_
    refine mm_icmp_ge 34 dX12_stayIn_5 rfl ?_ ?_
    · refine mm_wk [] rfl ?_
      exact hk34  M
    · refine mm_aload_n 0 dX12_stayIn_8 rfl ?_
      refine mm_iload_n 2 dX12_stayIn_9 rfl ?_
      refine mm_callVz (as := [.int v2]) (st := []) (c_R_isStay E v2 M) dX12_stayIn_10 mz_X12_isStay lk_RX12_220 im_X12_isStay se_X12_isStay lo_97 rfl rfl rfl ⟨Nat.le_of_ble_eq_true rfl, Nat.le_of_ble_eq_true rfl⟩ (Nat.le_of_ble_eq_true rfl) (fun b_1 M_2 => ?_)
      refine mm_jnP (P := fun j => ∀ (v2 : Int32) (M : mm_M), mm_G (fun x : Int32 => some (.int x)) E Y_X12_stayIn 3 28 [(0, .ref 97), (1, .int v1), (2, .int v2)] [] M (j v2 M)) ?_ (fun j28 hj28 => ?_)
      · intro v2 M_3
        refine mm_iincN 2 [1, 2, 0] (v := v2 + 1) (lv2 := fun v2_4 => [(0, .ref 97), (1, .int v1), (2, .int v2_4)]) dX12_stayIn_28 rfl rfl (by decide) (fun _ => rfl) (fun v2_4 => ?_)
        refine mm_goto 2 dX12_stayIn_31 rfl ?_
        exact ih v2_4 M_3
      refine mm_if_eq_b 28 dX12_stayIn_13 rfl ?_ ?_
      · exact hj28 v2 M_2
      · refine mm_aload_n 0 dX12_stayIn_16 rfl ?_
        refine mm_getR 105 dX12_stayIn_17 fl_RX12_32 lo_97 rfl ?_
        refine mm_iload_n 2 dX12_stayIn_20 rfl ?_
        refine mm_iaload dX12_stayIn_21 ?_
        refine mm_iload_n 1 dX12_stayIn_22 rfl ?_
        refine mm_icmp_ne 28 dX12_stayIn_23 rfl ?_ ?_
        · exact hj28 v2 M_2
        · refine mm_wk [2] rfl ?_
          exact hk26 v2 M_2
def f_R_stayIn (v1 : Int32) (M : mm_M) : Option (Int32 × mm_M) := lp_R_stayIn_2 v1 (fun (v2 : Int32) (M_5 : mm_M) => some (v2, M_5)) (fun (M_6 : mm_M) => some ((-1), M_6)) mm_fu 0 M
set_option maxHeartbeats 4000000 in
theorem c_R_stayIn (E : mm_E) (v1 : Int32) (M : mm_M) : ∀ (r : Int32) (M2 : mm_M), f_R_stayIn v1 M = some (r, M2) → mm_P E Y_X12_stayIn 3 [.ref 97, .int v1] M (some (.int r)) M2 := by
  refine mm_entry (em := (fun x : Int32 => some (.int x))) (by decide +kernel) (Nat.le_of_ble_eq_true rfl) ?_
  show mm_G _ E _ _ 0 [(0, .ref 97), (1, .int v1)] [] M _
  unfold f_R_stayIn
  refine mm_iconst (v := 0) dX12_stayIn_0 rfl ?_
  refine mm_istore_n [1, 2, 0] (lv2 := [(0, .ref 97), (1, .int v1), (2, .int 0)]) dX12_stayIn_1 (by decide) rfl ?_
  refine lp_R_stayIn_2_ok E v1 ?_ ?_ mm_fu 0 M
  · intro v2 M_5
    refine mm_iload_n 0 dX12_stayIn_26 rfl ?_
    exact mm_iret dX12_stayIn_27 rfl
  · intro M_6
    refine mm_iconst (v := (-1)) dX12_stayIn_34 rfl ?_
    exact mm_iret dX12_stayIn_35 rfl
def f_R_stay (v1 : Int32) (v2 : Int32) (v3 : Int32) (v4 : Int32) (M : mm_M) : Option (Bool × mm_M) := mm_bd (f_R_in v1 0 9 M) fun b_1 M_2 => if b_1 = true then mm_bd (f_R_isRoom v2 M_2) fun b_3 M_4 => if b_3 = true then mm_bd (f_R_isDay v3 M_4) fun b_5 M_6 => if b_5 = true then mm_bd (f_R_in v4 0 999 M_6) fun b_7 M_8 => if b_7 = true then mm_bd (f_R_stayIn v2 M_8) fun r_9 M_10 => mm_jn (fun (M_11 : mm_M) => if mm_in v1 (mm_al 105) = true then mm_let (mm_setA M_11 105 (v1.toNatClampNeg) v2) fun M_12 => if mm_in v1 (mm_al 106) = true then mm_let (mm_setA M_12 106 (v1.toNatClampNeg) v3) fun M_13 => if mm_in v1 (mm_al 107) = true then mm_let (mm_setA M_13 107 (v1.toNatClampNeg) v4) fun M_14 => if mm_in v1 (mm_al 108) = true then mm_let (mm_setA M_14 108 (v1.toNatClampNeg) 0) fun M_15 => mm_let (mm_setI M_15 97 12 ((M_15.1 97 12) ||| (1 <<< (v1 &&& 31)))) fun M_16 => some (true, M_16) else none else none else none else none) fun j58 => if r_9 = (-1) then j58 M_10 else mm_bd (f_R_stayIn v2 M_10) fun r_17 M_18 => if r_17 = v1 then j58 M_18 else some (false, M_18) else some (false, M_8) else some (false, M_6) else some (false, M_4) else some (false, M_2)
set_option maxHeartbeats 4000000 in
theorem c_R_stay (E : mm_E) (v1 : Int32) (v2 : Int32) (v3 : Int32) (v4 : Int32) (M : mm_M) : ∀ (r : Bool) (M2 : mm_M), f_R_stay v1 v2 v3 v4 M = some (r, M2) → mm_P E Y_X12_stay 4 [.ref 97, .int v1, .int v2, .int v3, .int v4] M (some (.int (mm_b r))) M2 := by
  refine mm_entry (em := (fun x : Bool => some (.int (mm_b x)))) (by decide +kernel) (Nat.le_of_ble_eq_true rfl) ?_
  show mm_G _ E _ _ 0 [(0, .ref 97), (1, .int v1), (2, .int v2), (3, .int v3), (4, .int v4)] [] M _
  unfold f_R_stay
  refine mm_iload_n 1 dX12_stay_0 rfl ?_
  refine mm_iconst (v := 0) dX12_stay_1 rfl ?_
  refine mm_bipush (v := 9) dX12_stay_2 rfl ?_
  refine mm_callSz (as := [.int v1, .int 0, .int 9]) (st := []) (c_R_in E v1 0 9 M) dX12_stay_4 mz_X12_in lk_RX12_169 sm_X12_in rfl ⟨Nat.le_of_ble_eq_true rfl, Nat.le_of_ble_eq_true rfl⟩ (Nat.le_of_ble_eq_true rfl) (fun b_1 M_2 => ?_)
  refine mm_if_eq_b 56 dX12_stay_7 rfl ?_ ?_
  · refine mm_iconst (v := 0) dX12_stay_56 rfl ?_
    exact mm_zret (b := false) dX12_stay_57 rfl
  · refine mm_aload_n 0 dX12_stay_10 rfl ?_
    refine mm_iload_n 2 dX12_stay_11 rfl ?_
    refine mm_callVz (as := [.int v2]) (st := []) (c_R_isRoom E v2 M_2) dX12_stay_12 mz_X12_isRoom lk_RX12_223 im_X12_isRoom se_X12_isRoom lo_97 rfl rfl rfl ⟨Nat.le_of_ble_eq_true rfl, Nat.le_of_ble_eq_true rfl⟩ (Nat.le_of_ble_eq_true rfl) (fun b_3 M_4 => ?_)
    refine mm_if_eq_b 56 dX12_stay_15 rfl ?_ ?_
    · refine mm_iconst (v := 0) dX12_stay_56 rfl ?_
      exact mm_zret (b := false) dX12_stay_57 rfl
    · refine mm_aload_n 0 dX12_stay_18 rfl ?_
      refine mm_iload_n 3 dX12_stay_19 rfl ?_
      refine mm_callVz (as := [.int v3]) (st := []) (c_R_isDay E v3 M_4) dX12_stay_20 mz_X12_isDay lk_RX12_202 im_X12_isDay se_X12_isDay lo_97 rfl rfl rfl ⟨Nat.le_of_ble_eq_true rfl, Nat.le_of_ble_eq_true rfl⟩ (Nat.le_of_ble_eq_true rfl) (fun b_5 M_6 => ?_)
      refine mm_if_eq_b 56 dX12_stay_23 rfl ?_ ?_
      · refine mm_iconst (v := 0) dX12_stay_56 rfl ?_
        exact mm_zret (b := false) dX12_stay_57 rfl
      · refine mm_iload 4 dX12_stay_26 rfl ?_
        refine mm_iconst (v := 0) dX12_stay_28 rfl ?_
        refine mm_sipush (v := 999) dX12_stay_29 rfl ?_
        refine mm_callSz (as := [.int v4, .int 0, .int 999]) (st := []) (c_R_in E v4 0 999 M_6) dX12_stay_32 mz_X12_in lk_RX12_169 sm_X12_in rfl ⟨Nat.le_of_ble_eq_true rfl, Nat.le_of_ble_eq_true rfl⟩ (Nat.le_of_ble_eq_true rfl) (fun b_7 M_8 => ?_)
        refine mm_if_eq_b 56 dX12_stay_35 rfl ?_ ?_
        · refine mm_iconst (v := 0) dX12_stay_56 rfl ?_
          exact mm_zret (b := false) dX12_stay_57 rfl
        · refine mm_aload_n 0 dX12_stay_38 rfl ?_
          refine mm_iload_n 2 dX12_stay_39 rfl ?_
          refine mm_callVi (as := [.int v2]) (st := []) (c_R_stayIn E v2 M_8) dX12_stay_40 mz_X12_stayIn lk_RX12_226 im_X12_stayIn se_X12_stayIn lo_97 rfl rfl rfl ⟨Nat.le_of_ble_eq_true rfl, Nat.le_of_ble_eq_true rfl⟩ (Nat.le_of_ble_eq_true rfl) (fun r_9 M_10 => ?_)
          refine mm_iconst (v := (-1)) dX12_stay_43 rfl ?_
          refine mm_jnP (P := fun j => ∀ (M : mm_M), mm_G (fun x : Bool => some (.int (mm_b x))) E Y_X12_stay 4 58 [(0, .ref 97), (1, .int v1), (2, .int v2), (3, .int v3), (4, .int v4)] [] M (j M)) ?_ (fun j58 hj58 => ?_)
          · intro M_11
            refine mm_aload_n 0 dX12_stay_58 rfl ?_
            refine mm_getR 105 dX12_stay_59 fl_RX12_32 lo_97 rfl ?_
            refine mm_iload_n 1 dX12_stay_62 rfl ?_
            refine mm_iload_n 2 dX12_stay_63 rfl ?_
            refine mm_iastore dX12_stay_64 ?_
            refine mm_nm_M (fun M_12 => ?_)
            refine mm_aload_n 0 dX12_stay_65 rfl ?_
            refine mm_getR 106 dX12_stay_66 fl_RX12_35 lo_97 rfl ?_
            refine mm_iload_n 1 dX12_stay_69 rfl ?_
            refine mm_iload_n 3 dX12_stay_70 rfl ?_
            refine mm_iastore dX12_stay_71 ?_
            refine mm_nm_M (fun M_13 => ?_)
            refine mm_aload_n 0 dX12_stay_72 rfl ?_
            refine mm_getR 107 dX12_stay_73 fl_RX12_38 lo_97 rfl ?_
            refine mm_iload_n 1 dX12_stay_76 rfl ?_
            refine mm_iload 4 dX12_stay_77 rfl ?_
            refine mm_iastore dX12_stay_79 ?_
            refine mm_nm_M (fun M_14 => ?_)
            refine mm_aload_n 0 dX12_stay_80 rfl ?_
            refine mm_getR 108 dX12_stay_81 fl_RX12_41 lo_97 rfl ?_
            refine mm_iload_n 1 dX12_stay_84 rfl ?_
            refine mm_iconst (v := 0) dX12_stay_85 rfl ?_
            refine mm_iastore dX12_stay_86 ?_
            refine mm_nm_M (fun M_15 => ?_)
            refine mm_aload_n 0 dX12_stay_87 rfl ?_
            refine mm_aload_n 0 dX12_stay_88 rfl ?_
            refine mm_getI dX12_stay_89 fl_RX12_217 lo_97 rfl ?_
            refine mm_iconst (v := 1) dX12_stay_92 rfl ?_
            refine mm_iload_n 1 dX12_stay_93 rfl ?_
            refine mm_ishl dX12_stay_94 ?_
            refine mm_ior dX12_stay_95 ?_
            refine mm_putI dX12_stay_96 fp_RX12_217 lo_97 rfl ?_
            refine mm_nm_M (fun M_16 => ?_)
            refine mm_iconst (v := 1) dX12_stay_99 rfl ?_
            exact mm_zret (b := true) dX12_stay_100 rfl
          refine mm_icmp_eq 58 dX12_stay_44 rfl ?_ ?_
          · exact hj58  M_10
          · refine mm_aload_n 0 dX12_stay_47 rfl ?_
            refine mm_iload_n 2 dX12_stay_48 rfl ?_
            refine mm_callVi (as := [.int v2]) (st := []) (c_R_stayIn E v2 M_10) dX12_stay_49 mz_X12_stayIn lk_RX12_226 im_X12_stayIn se_X12_stayIn lo_97 rfl rfl rfl ⟨Nat.le_of_ble_eq_true rfl, Nat.le_of_ble_eq_true rfl⟩ (Nat.le_of_ble_eq_true rfl) (fun r_17 M_18 => ?_)
            refine mm_iload_n 1 dX12_stay_52 rfl ?_
            refine mm_icmp_eq 58 dX12_stay_53 rfl ?_ ?_
            · exact hj58  M_18
            · refine mm_iconst (v := 0) dX12_stay_56 rfl ?_
              exact mm_zret (b := false) dX12_stay_57 rfl
def f_R_leave (v1 : Int32) (M : mm_M) : Option (Bool × mm_M) := mm_bd (f_R_isStay v1 M) fun b_1 M_2 => if b_1 = true then mm_let (mm_setI M_2 97 12 ((M_2.1 97 12) &&& ((1 <<< (v1 &&& 31)) ^^^ (-1)))) fun M_3 => some (true, M_3) else some (false, M_2)
set_option maxHeartbeats 4000000 in
theorem c_R_leave (E : mm_E) (v1 : Int32) (M : mm_M) : ∀ (r : Bool) (M2 : mm_M), f_R_leave v1 M = some (r, M2) → mm_P E Y_X12_leave 3 [.ref 97, .int v1] M (some (.int (mm_b r))) M2 := by
  refine mm_entry (em := (fun x : Bool => some (.int (mm_b x)))) (by decide +kernel) (Nat.le_of_ble_eq_true rfl) ?_
  show mm_G _ E _ _ 0 [(0, .ref 97), (1, .int v1)] [] M _
  unfold f_R_leave
  refine mm_aload_n 0 dX12_leave_0 rfl ?_
  refine mm_iload_n 1 dX12_leave_1 rfl ?_
  refine mm_callVz (as := [.int v1]) (st := []) (c_R_isStay E v1 M) dX12_leave_2 mz_X12_isStay lk_RX12_220 im_X12_isStay se_X12_isStay lo_97 rfl rfl rfl ⟨Nat.le_of_ble_eq_true rfl, Nat.le_of_ble_eq_true rfl⟩ (Nat.le_of_ble_eq_true rfl) (fun b_1 M_2 => ?_)
  refine mm_if_ne_b 10 dX12_leave_5 rfl ?_ ?_
  · refine mm_aload_n 0 dX12_leave_10 rfl ?_
    refine mm_aload_n 0 dX12_leave_11 rfl ?_
    refine mm_getI dX12_leave_12 fl_RX12_217 lo_97 rfl ?_
    refine mm_iconst (v := 1) dX12_leave_15 rfl ?_
    refine mm_iload_n 1 dX12_leave_16 rfl ?_
    refine mm_ishl dX12_leave_17 ?_
    refine mm_iconst (v := (-1)) dX12_leave_18 rfl ?_
    refine mm_ixor dX12_leave_19 ?_
    refine mm_iand dX12_leave_20 ?_
    refine mm_putI dX12_leave_21 fp_RX12_217 lo_97 rfl ?_
    refine mm_nm_M (fun M_3 => ?_)
    refine mm_iconst (v := 1) dX12_leave_24 rfl ?_
    exact mm_zret (b := true) dX12_leave_25 rfl
  · refine mm_iconst (v := 0) dX12_leave_8 rfl ?_
    exact mm_zret (b := false) dX12_leave_9 rfl
def f_R_shift (v1 : Int32) (v2 : Int32) (M : mm_M) : Option (Bool × mm_M) := mm_bd (f_R_isStay v1 M) fun b_1 M_2 => if b_1 = true then mm_bd (f_R_in v2 (-3) 3 M_2) fun b_3 M_4 => if b_3 = true then if mm_in v1 (mm_al 108) = true then mm_let (mm_setA M_4 108 (v1.toNatClampNeg) v2) fun M_5 => some (true, M_5) else none else some (false, M_4) else some (false, M_2)
set_option maxHeartbeats 4000000 in
theorem c_R_shift (E : mm_E) (v1 : Int32) (v2 : Int32) (M : mm_M) : ∀ (r : Bool) (M2 : mm_M), f_R_shift v1 v2 M = some (r, M2) → mm_P E Y_X12_shift 3 [.ref 97, .int v1, .int v2] M (some (.int (mm_b r))) M2 := by
  refine mm_entry (em := (fun x : Bool => some (.int (mm_b x)))) (by decide +kernel) (Nat.le_of_ble_eq_true rfl) ?_
  show mm_G _ E _ _ 0 [(0, .ref 97), (1, .int v1), (2, .int v2)] [] M _
  unfold f_R_shift
  refine mm_aload_n 0 dX12_shift_0 rfl ?_
  refine mm_iload_n 1 dX12_shift_1 rfl ?_
  refine mm_callVz (as := [.int v1]) (st := []) (c_R_isStay E v1 M) dX12_shift_2 mz_X12_isStay lk_RX12_220 im_X12_isStay se_X12_isStay lo_97 rfl rfl rfl ⟨Nat.le_of_ble_eq_true rfl, Nat.le_of_ble_eq_true rfl⟩ (Nat.le_of_ble_eq_true rfl) (fun b_1 M_2 => ?_)
  refine mm_if_eq_b 18 dX12_shift_5 rfl ?_ ?_
  · refine mm_iconst (v := 0) dX12_shift_18 rfl ?_
    exact mm_zret (b := false) dX12_shift_19 rfl
  · refine mm_iload_n 2 dX12_shift_8 rfl ?_
    refine mm_bipush (v := (-3)) dX12_shift_9 rfl ?_
    refine mm_iconst (v := 3) dX12_shift_11 rfl ?_
    refine mm_callSz (as := [.int v2, .int (-3), .int 3]) (st := []) (c_R_in E v2 (-3) 3 M_2) dX12_shift_12 mz_X12_in lk_RX12_169 sm_X12_in rfl ⟨Nat.le_of_ble_eq_true rfl, Nat.le_of_ble_eq_true rfl⟩ (Nat.le_of_ble_eq_true rfl) (fun b_3 M_4 => ?_)
    refine mm_if_ne_b 20 dX12_shift_15 rfl ?_ ?_
    · refine mm_aload_n 0 dX12_shift_20 rfl ?_
      refine mm_getR 108 dX12_shift_21 fl_RX12_41 lo_97 rfl ?_
      refine mm_iload_n 1 dX12_shift_24 rfl ?_
      refine mm_iload_n 2 dX12_shift_25 rfl ?_
      refine mm_iastore dX12_shift_26 ?_
      refine mm_nm_M (fun M_5 => ?_)
      refine mm_iconst (v := 1) dX12_shift_27 rfl ?_
      exact mm_zret (b := true) dX12_shift_28 rfl
    · refine mm_iconst (v := 0) dX12_shift_18 rfl ?_
      exact mm_zret (b := false) dX12_shift_19 rfl
def f_R_wantOf (v1 : Int32) (v2 : Int32) (v3 : Int32) (M : mm_M) : Option (Int32 × mm_M) := if mm_in v1 (mm_al 106) = true then if mm_in v1 (mm_al 108) = true then if mm_in (((72 * (M.2.1 106 v1.toNatClampNeg)) + (24 * v2)) + (mm_rem ((v3 + 24) - (M.2.1 108 v1.toNatClampNeg)) 24)) (mm_al 99) = true then some (M.2.1 99 (((72 * (M.2.1 106 v1.toNatClampNeg)) + (24 * v2)) + (mm_rem ((v3 + 24) - (M.2.1 108 v1.toNatClampNeg)) 24)).toNatClampNeg, M) else none else none else none
set_option maxHeartbeats 4000000 in
theorem c_R_wantOf (E : mm_E) (v1 : Int32) (v2 : Int32) (v3 : Int32) (M : mm_M) : ∀ (r : Int32) (M2 : mm_M), f_R_wantOf v1 v2 v3 M = some (r, M2) → mm_P E Y_X12_wantOf 1 [.ref 97, .int v1, .int v2, .int v3] M (some (.int r)) M2 := by
  refine mm_entry (em := (fun x : Int32 => some (.int x))) (by decide +kernel) (Nat.le_of_ble_eq_true rfl) ?_
  show mm_G _ E _ _ 0 [(0, .ref 97), (1, .int v1), (2, .int v2), (3, .int v3)] [] M _
  unfold f_R_wantOf
  refine mm_aload_n 0 dX12_wantOf_0 rfl ?_
  refine mm_getR 99 dX12_wantOf_1 fl_RX12_13 lo_97 rfl ?_
  refine mm_bipush (v := 72) dX12_wantOf_4 rfl ?_
  refine mm_aload_n 0 dX12_wantOf_6 rfl ?_
  refine mm_getR 106 dX12_wantOf_7 fl_RX12_35 lo_97 rfl ?_
  refine mm_iload_n 1 dX12_wantOf_10 rfl ?_
  refine mm_iaload dX12_wantOf_11 ?_
  refine mm_imul dX12_wantOf_12 ?_
  refine mm_bipush (v := 24) dX12_wantOf_13 rfl ?_
  refine mm_iload_n 2 dX12_wantOf_15 rfl ?_
  refine mm_imul dX12_wantOf_16 ?_
  refine mm_iadd dX12_wantOf_17 ?_
  refine mm_iload_n 3 dX12_wantOf_18 rfl ?_
  refine mm_bipush (v := 24) dX12_wantOf_19 rfl ?_
  refine mm_iadd dX12_wantOf_21 ?_
  refine mm_aload_n 0 dX12_wantOf_22 rfl ?_
  refine mm_getR 108 dX12_wantOf_23 fl_RX12_41 lo_97 rfl ?_
  refine mm_iload_n 1 dX12_wantOf_26 rfl ?_
  refine mm_iaload dX12_wantOf_27 ?_
  refine mm_isub dX12_wantOf_28 ?_
  refine mm_bipush (v := 24) dX12_wantOf_29 rfl ?_
  refine mm_irem_c dX12_wantOf_31 (by decide) ?_
  refine mm_iadd dX12_wantOf_32 ?_
  refine mm_iaload dX12_wantOf_33 ?_
  exact mm_iret dX12_wantOf_34 rfl
