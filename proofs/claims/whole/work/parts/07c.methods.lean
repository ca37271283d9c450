def f_Law_addClause_46 (v1 : Int32) (v2 : Int32) (v3 : Int32) (M : mm_M) : Option (Unit × mm_M) := if 12 ≤ M.1 46 7 then some ((), M) else if mm_in (M.1 46 7) (mm_al 49) = true then mm_let (mm_setA M 49 ((M.1 46 7).toNatClampNeg) v1) fun M_1 => if mm_in (M_1.1 46 7) (mm_al 50) = true then mm_let (mm_setA M_1 50 ((M_1.1 46 7).toNatClampNeg) v2) fun M_2 => if mm_in (M_2.1 46 7) (mm_al 51) = true then mm_let (mm_setA M_2 51 ((M_2.1 46 7).toNatClampNeg) v3) fun M_3 => if mm_in (M_3.1 46 7) (mm_al 52) = true then mm_let (mm_setA M_3 52 ((M_3.1 46 7).toNatClampNeg) (M_3.1 46 2)) fun M_4 => mm_let (mm_setI M_4 46 7 ((M_4.1 46 7) + 1)) fun M_5 => some ((), M_5) else none else none else none else none
set_option maxHeartbeats 4000000 in
theorem c_Law_addClause_46 (E : mm_E) (v1 : Int32) (v2 : Int32) (v3 : Int32) (M : mm_M) : ∀ (r : Unit) (M2 : mm_M), f_Law_addClause_46 v1 v2 v3 M = some (r, M2) → mm_P E Y_X3_addClause 1 [.ref 46, .int v1, .int v2, .int v3] M none M2 := by
  refine mm_entry (em := (fun _ : Unit => none)) (by decide +kernel) (Nat.le_of_ble_eq_true rfl) ?_
  show mm_G _ E _ _ 0 [(0, .ref 46), (1, .int v1), (2, .int v2), (3, .int v3)] [] M _
  unfold f_Law_addClause_46
  refine mm_aload_n 0 dX3_addClause_0 rfl ?_
  refine mm_getI dX3_addClause_1 fl_RX3_40 lo_46 rfl ?_
  refine mm_bipush (v := 12) dX3_addClause_4 rfl ?_
  refine mm_icmp_ge 62 dX3_addClause_6 rfl ?_ ?_
  · exact mm_vret dX3_addClause_62 rfl
  · refine mm_aload_n 0 dX3_addClause_9 rfl ?_
    refine mm_getR 49 dX3_addClause_10 fl_RX3_18 lo_46 rfl ?_
    refine mm_aload_n 0 dX3_addClause_13 rfl ?_
    refine mm_getI dX3_addClause_14 fl_RX3_40 lo_46 rfl ?_
    refine mm_iload_n 1 dX3_addClause_17 rfl ?_
    refine mm_iastore dX3_addClause_18 ?_
    refine mm_nm_M (fun M_1 => ?_)
    refine mm_aload_n 0 dX3_addClause_19 rfl ?_
    refine mm_getR 50 dX3_addClause_20 fl_RX3_21 lo_46 rfl ?_
    refine mm_aload_n 0 dX3_addClause_23 rfl ?_
    refine mm_getI dX3_addClause_24 fl_RX3_40 lo_46 rfl ?_
    refine mm_iload_n 2 dX3_addClause_27 rfl ?_
    refine mm_iastore dX3_addClause_28 ?_
    refine mm_nm_M (fun M_2 => ?_)
    refine mm_aload_n 0 dX3_addClause_29 rfl ?_
    refine mm_getR 51 dX3_addClause_30 fl_RX3_24 lo_46 rfl ?_
    refine mm_aload_n 0 dX3_addClause_33 rfl ?_
    refine mm_getI dX3_addClause_34 fl_RX3_40 lo_46 rfl ?_
    refine mm_iload_n 3 dX3_addClause_37 rfl ?_
    refine mm_iastore dX3_addClause_38 ?_
    refine mm_nm_M (fun M_3 => ?_)
    refine mm_aload_n 0 dX3_addClause_39 rfl ?_
    refine mm_getR 52 dX3_addClause_40 fl_RX3_27 lo_46 rfl ?_
    refine mm_aload_n 0 dX3_addClause_43 rfl ?_
    refine mm_getI dX3_addClause_44 fl_RX3_40 lo_46 rfl ?_
    refine mm_aload_n 0 dX3_addClause_47 rfl ?_
    refine mm_getI dX3_addClause_48 fl_RX3_36 lo_46 rfl ?_
    refine mm_iastore dX3_addClause_51 ?_
    refine mm_nm_M (fun M_4 => ?_)
    refine mm_aload_n 0 dX3_addClause_52 rfl ?_
    refine mm_dup dX3_addClause_53 rfl ?_
    refine mm_getI dX3_addClause_54 fl_RX3_40 lo_46 rfl ?_
    refine mm_iconst (v := 1) dX3_addClause_57 rfl ?_
    refine mm_iadd dX3_addClause_58 ?_
    refine mm_putI dX3_addClause_59 fp_RX3_40 lo_46 rfl ?_
    refine mm_nm_M (fun M_5 => ?_)
    exact mm_vret dX3_addClause_62 rfl
def f_LawReader_readClause (v1 : Int32) (M : mm_M) : Option (Bool × mm_M) := mm_let (M.1 3 3) fun v2_1 => mm_bd (f_TextReader_among_141 M) fun r_2 M_3 => if r_2 = (-1) then mm_bd (f_TextReader_failHere 1 M_3) fun b_20 M_21 => some (b_20, M_21) else if v1 < 12 then mm_bd (f_TextReader_step M_3) fun u_4 M_5 => mm_let (M_5.1 46 2) fun v3_6 => mm_bd (f_LawReader_readSum mm_rd 0 M_5) fun b_7 M_8 => if b_7 = true then mm_let (M_8.1 46 2) fun v4_9 => mm_bd (f_TextReader_take 40 M_8) fun b_10 M_11 => if b_10 = true then mm_bd (f_LawReader_readCondition mm_rd 1 M_11) fun b_12 M_13 => if b_12 = true then mm_bd (f_TextReader_take 41 M_13) fun b_14 M_15 => if b_14 = true then mm_bd (f_Law_addClause_46 v2_1 v3_6 v4_9 M_15) fun u_16 M_17 => some (true, M_17) else some (false, M_15) else some (false, M_13) else some (false, M_11) else some (false, M_8) else mm_bd (f_TextReader_failHere 4 M_3) fun b_18 M_19 => some (b_18, M_19)
set_option maxHeartbeats 4000000 in
theorem c_LawReader_readClause (E : mm_E) (v1 : Int32) (M : mm_M) : ∀ (r : Bool) (M2 : mm_M), f_LawReader_readClause v1 M = some (r, M2) → mm_P E Y_X4_readClause 127 [.ref 55, .int v1] M (some (.int (mm_b r))) M2 := by
  refine mm_entry (em := (fun x : Bool => some (.int (mm_b x)))) (by decide +kernel) (Nat.le_of_ble_eq_true rfl) ?_
  show mm_G _ E _ _ 0 [(0, .ref 55), (1, .int v1)] [] M _
  unfold f_LawReader_readClause
  refine mm_aload_n 0 dX4_readClause_0 rfl ?_
  refine mm_getR 3 dX4_readClause_1 fl_RX4_9 lo_55 rfl ?_
  refine mm_getI dX4_readClause_4 fl_RX4_46 lo_3 rfl ?_
  refine mm_nm_int (fun v2_1 => ?_)
  refine mm_istore_n [1, 2, 0] (lv2 := [(0, .ref 55), (1, .int v1), (2, .int v2_1)]) dX4_readClause_7 (by decide) rfl ?_
  refine mm_aload_n 0 dX4_readClause_8 rfl ?_
  refine mm_getR 3 dX4_readClause_9 fl_RX4_9 lo_55 rfl ?_
  refine mm_ldcT (t := 141) dX4_readClause_12 ss_1 rfl ?_
  refine mm_callVi (as := [.ref 141]) (st := []) (c_TextReader_among_141 E M) dX4_readClause_14 mz_X10_among lk_RX4_51 im_X10_among se_X10_among lo_3 rfl rfl rfl ⟨Nat.le_of_ble_eq_true rfl, Nat.le_of_ble_eq_true rfl⟩ (Nat.le_of_ble_eq_true rfl) (fun r_2 M_3 => ?_)
  refine mm_iconst (v := (-1)) dX4_readClause_17 rfl ?_
  refine mm_icmp_ne 30 dX4_readClause_18 rfl ?_ ?_
  · refine mm_iload_n 1 dX4_readClause_30 rfl ?_
    refine mm_bipush (v := 12) dX4_readClause_31 rfl ?_
    refine mm_icmp_lt 45 dX4_readClause_33 rfl ?_ ?_
    · refine mm_aload_n 0 dX4_readClause_45 rfl ?_
      refine mm_getR 3 dX4_readClause_46 fl_RX4_9 lo_55 rfl ?_
      refine mm_callVv (as := []) (st := []) (c_TextReader_step E M_3) dX4_readClause_49 mz_X10_step lk_RX4_58 im_X10_step se_X10_step lo_3 rfl rfl rfl ⟨Nat.le_of_ble_eq_true rfl, Nat.le_of_ble_eq_true rfl⟩ (Nat.le_of_ble_eq_true rfl) (fun u_4 M_5 => ?_)
      refine mm_aload_n 0 dX4_readClause_52 rfl ?_
      refine mm_getR 46 dX4_readClause_53 fl_RX4_15 lo_55 rfl ?_
      refine mm_getI dX4_readClause_56 fl_RX4_61 lo_46 rfl ?_
      refine mm_nm_int (fun v3_6 => ?_)
      refine mm_istore_n [1, 2, 3, 0] (lv2 := [(0, .ref 55), (1, .int v1), (2, .int v2_1), (3, .int v3_6)]) dX4_readClause_59 (by decide) rfl ?_
      refine mm_aload_n 0 dX4_readClause_60 rfl ?_
      refine mm_iconst (v := 0) dX4_readClause_61 rfl ?_
      refine mm_callVz (as := [.int 0]) (st := []) (c_LawReader_readSum E mm_rd 0 M_5) dX4_readClause_62 mz_X4_readSum lk_RX4_64 im_X4_readSum se_X4_readSum lo_55 rfl rfl rfl ⟨Nat.le_of_ble_eq_true rfl, Nat.le_of_ble_eq_true rfl⟩ (Nat.le_of_ble_eq_true rfl) (fun b_7 M_8 => ?_)
      refine mm_if_ne_b 70 dX4_readClause_65 rfl ?_ ?_
      · refine mm_aload_n 0 dX4_readClause_70 rfl ?_
        refine mm_getR 46 dX4_readClause_71 fl_RX4_15 lo_55 rfl ?_
        refine mm_getI dX4_readClause_74 fl_RX4_61 lo_46 rfl ?_
        refine mm_nm_int (fun v4_9 => ?_)
        refine mm_istore [1, 2, 3, 4, 0] (lv2 := [(0, .ref 55), (1, .int v1), (2, .int v2_1), (3, .int v3_6), (4, .int v4_9)]) dX4_readClause_77 (by decide) rfl ?_
        refine mm_aload_n 0 dX4_readClause_79 rfl ?_
        refine mm_getR 3 dX4_readClause_80 fl_RX4_9 lo_55 rfl ?_
        refine mm_bipush (v := 40) dX4_readClause_83 rfl ?_
        refine mm_callVz (as := [.int 40]) (st := []) (c_TextReader_take E 40 M_8) dX4_readClause_85 mz_X10_take lk_RX4_42 im_X10_take se_X10_take lo_3 rfl rfl rfl ⟨Nat.le_of_ble_eq_true rfl, Nat.le_of_ble_eq_true rfl⟩ (Nat.le_of_ble_eq_true rfl) (fun b_10 M_11 => ?_)
        refine mm_if_eq_b 111 dX4_readClause_88 rfl ?_ ?_
        · refine mm_iconst (v := 0) dX4_readClause_111 rfl ?_
          exact mm_zret (b := false) dX4_readClause_112 rfl
        · refine mm_aload_n 0 dX4_readClause_91 rfl ?_
          refine mm_iconst (v := 1) dX4_readClause_92 rfl ?_
          refine mm_callVz (as := [.int 1]) (st := []) (c_LawReader_readCondition E mm_rd 1 M_11) dX4_readClause_93 mz_X4_readCondition lk_RX4_67 im_X4_readCondition se_X4_readCondition lo_55 rfl rfl rfl ⟨Nat.le_of_ble_eq_true rfl, Nat.le_of_ble_eq_true rfl⟩ (Nat.le_of_ble_eq_true rfl) (fun b_12 M_13 => ?_)
          refine mm_if_eq_b 111 dX4_readClause_96 rfl ?_ ?_
          · refine mm_iconst (v := 0) dX4_readClause_111 rfl ?_
            exact mm_zret (b := false) dX4_readClause_112 rfl
          · refine mm_aload_n 0 dX4_readClause_99 rfl ?_
            refine mm_getR 3 dX4_readClause_100 fl_RX4_9 lo_55 rfl ?_
            refine mm_bipush (v := 41) dX4_readClause_103 rfl ?_
            refine mm_callVz (as := [.int 41]) (st := []) (c_TextReader_take E 41 M_13) dX4_readClause_105 mz_X10_take lk_RX4_42 im_X10_take se_X10_take lo_3 rfl rfl rfl ⟨Nat.le_of_ble_eq_true rfl, Nat.le_of_ble_eq_true rfl⟩ (Nat.le_of_ble_eq_true rfl) (fun b_14 M_15 => ?_)
            refine mm_if_ne_b 113 dX4_readClause_108 rfl ?_ ?_
            · refine mm_aload_n 0 dX4_readClause_113 rfl ?_
              refine mm_getR 46 dX4_readClause_114 fl_RX4_15 lo_55 rfl ?_
              refine mm_iload_n 2 dX4_readClause_117 rfl ?_
              refine mm_iload_n 3 dX4_readClause_118 rfl ?_
              refine mm_iload 4 dX4_readClause_119 rfl ?_
              refine mm_callVv (as := [.int v2_1, .int v3_6, .int v4_9]) (st := []) (c_Law_addClause_46 E v2_1 v3_6 v4_9 M_15) dX4_readClause_121 mz_X3_addClause lk_RX4_70 im_X3_addClause se_X3_addClause lo_46 rfl rfl rfl ⟨Nat.le_of_ble_eq_true rfl, Nat.le_of_ble_eq_true rfl⟩ (Nat.le_of_ble_eq_true rfl) (fun u_16 M_17 => ?_)
              refine mm_iconst (v := 1) dX4_readClause_124 rfl ?_
              exact mm_zret (b := true) dX4_readClause_125 rfl
            · refine mm_iconst (v := 0) dX4_readClause_111 rfl ?_
              exact mm_zret (b := false) dX4_readClause_112 rfl
      · refine mm_iconst (v := 0) dX4_readClause_68 rfl ?_
        exact mm_zret (b := false) dX4_readClause_69 rfl
    · refine mm_aload_n 0 dX4_readClause_36 rfl ?_
      refine mm_getR 3 dX4_readClause_37 fl_RX4_9 lo_55 rfl ?_
      refine mm_iconst (v := 4) dX4_readClause_40 rfl ?_
      refine mm_callVz (as := [.int 4]) (st := []) (c_TextReader_failHere E 4 M_3) dX4_readClause_41 mz_X10_failHere lk_RX4_55 im_X10_failHere se_X10_failHere lo_3 rfl rfl rfl ⟨Nat.le_of_ble_eq_true rfl, Nat.le_of_ble_eq_true rfl⟩ (Nat.le_of_ble_eq_true rfl) (fun b_18 M_19 => ?_)
      exact mm_zret (b := b_18) dX4_readClause_44 rfl
  · refine mm_aload_n 0 dX4_readClause_21 rfl ?_
    refine mm_getR 3 dX4_readClause_22 fl_RX4_9 lo_55 rfl ?_
    refine mm_iconst (v := 1) dX4_readClause_25 rfl ?_
    refine mm_callVz (as := [.int 1]) (st := []) (c_TextReader_failHere E 1 M_3) dX4_readClause_26 mz_X10_failHere lk_RX4_55 im_X10_failHere se_X10_failHere lo_3 rfl rfl rfl ⟨Nat.le_of_ble_eq_true rfl, Nat.le_of_ble_eq_true rfl⟩ (Nat.le_of_ble_eq_true rfl) (fun b_20 M_21 => ?_)
    exact mm_zret (b := b_20) dX4_readClause_29 rfl
def lp_LawReader_read_17 (k31 : mm_M → Option (Int32 × mm_M)) (k49 : Int32 → mm_M → Option (Int32 × mm_M)) (k65 : mm_M → Option (Int32 × mm_M)) (k79 : mm_M → Option (Int32 × mm_M)) : Nat → Int32 → mm_M → Option (Int32 × mm_M)
  | 0, _, _ => none
  | n + 1, v2, M => if 12 < v2 then k79 M else mm_bd (f_LawReader_readClause v2 M) fun b_5 M_6 => if b_5 = true then mm_bd (f_TextReader_atEnd M_6) fun b_7 M_8 => if b_7 = true then k49 v2 M_8 else mm_bd (f_TextReader_take 59 M_8) fun b_9 M_10 => if b_9 = true then mm_let (v2 + 1) fun v2_11 => lp_LawReader_read_17 k31 k49 k65 k79 n v2_11 M_10 else k65 M_10 else k31 M_6
set_option maxHeartbeats 4000000 in
theorem lp_LawReader_read_17_ok (E : mm_E) {k31 : mm_M → Option (Int32 × mm_M)} {k49 : Int32 → mm_M → Option (Int32 × mm_M)} {k65 : mm_M → Option (Int32 × mm_M)} {k79 : mm_M → Option (Int32 × mm_M)} (hk31 : ∀ (M : mm_M), mm_G (fun x : Int32 => some (.int x)) E Y_X4_read 128 31 [(0, .ref 55)] [] M (k31 M)) (hk49 : ∀ (v2 : Int32) (M : mm_M), mm_G (fun x : Int32 => some (.int x)) E Y_X4_read 128 49 [(2, .int v2)] [] M (k49 v2 M)) (hk65 : ∀ (M : mm_M), mm_G (fun x : Int32 => some (.int x)) E Y_X4_read 128 65 [(0, .ref 55)] [] M (k65 M)) (hk79 : ∀ (M : mm_M), mm_G (fun x : Int32 => some (.int x)) E Y_X4_read 128 79 [(0, .ref 55)] [] M (k79 M)) : ∀ (n : Nat) (v2 : Int32) (M : mm_M), mm_G (fun x : Int32 => some (.int x)) E Y_X4_read 128 17 [(0, .ref 55), (2, .int v2)] [] M (lp_LawReader_read_17 k31 k49 k65 k79 n v2 M) := by
  intro n
  induction n with
  | zero => intro v2 M r M2 he; cases he
  | succ n ih =>
    intro v2 M
    rw [lp_LawReader_read_17]
    refine mm_iload_n 1 dX4_read_17 rfl ?_
    refine mm_bipush (v := 12) dX4_read_18 rfl ?_
    refine mm_icmp_gt 79 dX4_read_20 rfl ?_ ?_
    · refine mm_wk [0] rfl ?_
      exact hk79  M
    · refine mm_aload_n 0 dX4_read_23 rfl ?_
      refine mm_iload_n 1 dX4_read_24 rfl ?_
      refine mm_callVz (as := [.int v2]) (st := []) (c_LawReader_readClause E v2 M) dX4_read_25 mz_X4_readClause lk_RX4_30 im_X4_readClause se_X4_readClause lo_55 rfl rfl rfl ⟨Nat.le_of_ble_eq_true rfl, Nat.le_of_ble_eq_true rfl⟩ (Nat.le_of_ble_eq_true rfl) (fun b_5 M_6 => ?_)
      refine mm_if_ne_b 39 dX4_read_28 rfl ?_ ?_
      · refine mm_aload_n 0 dX4_read_39 rfl ?_
        refine mm_getR 3 dX4_read_40 fl_RX4_9 lo_55 rfl ?_
        refine mm_callVz (as := []) (st := []) (c_TextReader_atEnd E M_6) dX4_read_43 mz_X10_atEnd lk_RX4_38 im_X10_atEnd se_X10_atEnd lo_3 rfl rfl rfl ⟨Nat.le_of_ble_eq_true rfl, Nat.le_of_ble_eq_true rfl⟩ (Nat.le_of_ble_eq_true rfl) (fun b_7 M_8 => ?_)
        refine mm_if_eq_b 53 dX4_read_46 rfl ?_ ?_
        · refine mm_aload_n 0 dX4_read_53 rfl ?_
          refine mm_getR 3 dX4_read_54 fl_RX4_9 lo_55 rfl ?_
          refine mm_bipush (v := 59) dX4_read_57 rfl ?_
          refine mm_callVz (as := [.int 59]) (st := []) (c_TextReader_take E 59 M_8) dX4_read_59 mz_X10_take lk_RX4_42 im_X10_take se_X10_take lo_3 rfl rfl rfl ⟨Nat.le_of_ble_eq_true rfl, Nat.le_of_ble_eq_true rfl⟩ (Nat.le_of_ble_eq_true rfl) (fun b_9 M_10 => ?_)
          refine mm_if_ne_b 73 dX4_read_62 rfl ?_ ?_
          · refine mm_iincN 1 [1, 0] (v := v2 + 1) (lv2 := fun v2_11 => [(0, .ref 55), (2, .int v2_11)]) dX4_read_73 rfl rfl (by decide) (fun _ => rfl) (fun v2_11 => ?_)
            refine mm_goto 17 dX4_read_76 rfl ?_
            exact ih v2_11 M_10
          · refine mm_wk [0] rfl ?_
            exact hk65  M_10
        · refine mm_wk [1] rfl ?_
          exact hk49 v2 M_8
      · refine mm_wk [0] rfl ?_
        exact hk31  M_6
def f_LawReader_read (v1 : Int32) (M : mm_M) : Option (Int32 × mm_M) := mm_bd (f_TextReader_open v1 M) fun u_1 M_2 => mm_bd (f_Law_clear_46 M_2) fun u_3 M_4 => lp_LawReader_read_17 (fun (M_12 : mm_M) => some (M_12.1 3 4, M_12)) (fun (v2 : Int32) (M_13 : mm_M) => some (v2 + 1, M_13)) (fun (M_14 : mm_M) => some (M_14.1 3 4, M_14)) (fun (M_15 : mm_M) => some (M_15.1 3 4, M_15)) mm_fu 0 M_4
set_option maxHeartbeats 4000000 in
theorem c_LawReader_read (E : mm_E) (v1 : Int32) (M : mm_M) : ∀ (r : Int32) (M2 : mm_M), f_LawReader_read v1 M = some (r, M2) → mm_P E Y_X4_read 128 [.ref 55, .int v1] M (some (.int r)) M2 := by
  refine mm_entry (em := (fun x : Int32 => some (.int x))) (by decide +kernel) (Nat.le_of_ble_eq_true rfl) ?_
  show mm_G _ E _ _ 0 [(0, .ref 55), (1, .int v1)] [] M _
  unfold f_LawReader_read
  refine mm_aload_n 0 dX4_read_0 rfl ?_
  refine mm_getR 3 dX4_read_1 fl_RX4_9 lo_55 rfl ?_
  refine mm_iload_n 1 dX4_read_4 rfl ?_
  refine mm_callVv (as := [.int v1]) (st := []) (c_TextReader_open E v1 M) dX4_read_5 mz_X10_open lk_RX4_19 im_X10_open se_X10_open lo_3 rfl rfl rfl ⟨Nat.le_of_ble_eq_true rfl, Nat.le_of_ble_eq_true rfl⟩ (Nat.le_of_ble_eq_true rfl) (fun u_1 M_2 => ?_)
  refine mm_aload_n 0 dX4_read_8 rfl ?_
  refine mm_getR 46 dX4_read_9 fl_RX4_15 lo_55 rfl ?_
  refine mm_callVv (as := []) (st := []) (c_Law_clear_46 E M_2) dX4_read_12 mz_X3_clear lk_RX4_25 im_X3_clear se_X3_clear lo_46 rfl rfl rfl ⟨Nat.le_of_ble_eq_true rfl, Nat.le_of_ble_eq_true rfl⟩ (Nat.le_of_ble_eq_true rfl) (fun u_3 M_4 => ?_)
  refine mm_iconst (v := 0) dX4_read_15 rfl ?_
  refine mm_istore_n [1, 2, 0] (lv2 := [(0, .ref 55), (1, .int v1), (2, .int 0)]) dX4_read_16 (by decide) rfl ?_
  refine mm_wk [0, 2] rfl ?_
  refine lp_LawReader_read_17_ok E ?_ ?_ ?_ ?_ mm_fu 0 M_4
  · intro M_12
    refine mm_aload_n 0 dX4_read_31 rfl ?_
    refine mm_getR 3 dX4_read_32 fl_RX4_9 lo_55 rfl ?_
    refine mm_getI dX4_read_35 fl_RX4_34 lo_3 rfl ?_
    exact mm_iret dX4_read_38 rfl
  · intro v2 M_13
    refine mm_iload_n 0 dX4_read_49 rfl ?_
    refine mm_iconst (v := 1) dX4_read_50 rfl ?_
    refine mm_iadd dX4_read_51 ?_
    exact mm_iret dX4_read_52 rfl
  · intro M_14
    refine mm_aload_n 0 dX4_read_65 rfl ?_
    refine mm_getR 3 dX4_read_66 fl_RX4_9 lo_55 rfl ?_
    refine mm_getI dX4_read_69 fl_RX4_34 lo_3 rfl ?_
    exact mm_iret dX4_read_72 rfl
  · intro M_15
    refine mm_aload_n 0 dX4_read_79 rfl ?_
    refine mm_getR 3 dX4_read_80 fl_RX4_9 lo_55 rfl ?_
    refine mm_getI dX4_read_83 fl_RX4_34 lo_3 rfl ?_
    exact mm_iret dX4_read_86 rfl
def f_Law_copyFrom_37_46 (M : mm_M) : Option (Unit × mm_M) := if mm_cpok 47 38 0 0 160 = true then mm_let (mm_cp M 47 38 0 0 160) fun M_1 => if mm_cpok 48 39 0 0 160 = true then mm_let (mm_cp M_1 48 39 0 0 160) fun M_2 => mm_let (mm_setI M_2 37 2 (M_2.1 46 2)) fun M_3 => if mm_cpok 49 40 0 0 12 = true then mm_let (mm_cp M_3 49 40 0 0 12) fun M_4 => if mm_cpok 50 41 0 0 12 = true then mm_let (mm_cp M_4 50 41 0 0 12) fun M_5 => if mm_cpok 51 42 0 0 12 = true then mm_let (mm_cp M_5 51 42 0 0 12) fun M_6 => if mm_cpok 52 43 0 0 12 = true then mm_let (mm_cp M_6 52 43 0 0 12) fun M_7 => mm_let (mm_setI M_7 37 7 (M_7.1 46 7)) fun M_8 => some ((), M_8) else none else none else none else none else none else none
set_option maxHeartbeats 4000000 in
theorem c_Law_copyFrom_37_46 (E : mm_E) (M : mm_M) : ∀ (r : Unit) (M2 : mm_M), f_Law_copyFrom_37_46 M = some (r, M2) → mm_P E Y_X3_copyFrom 1 [.ref 37, .ref 46] M none M2 := by
  refine mm_entry (em := (fun _ : Unit => none)) (by decide +kernel) (Nat.le_of_ble_eq_true rfl) ?_
  show mm_G _ E _ _ 0 [(0, .ref 37), (1, .ref 46)] [] M _
  unfold f_Law_copyFrom_37_46
  refine mm_aload_n 1 dX3_copyFrom_0 rfl ?_
  refine mm_getR 47 dX3_copyFrom_1 fl_RX3_9 lo_46 rfl ?_
  refine mm_iconst (v := 0) dX3_copyFrom_4 rfl ?_
  refine mm_aload_n 0 dX3_copyFrom_5 rfl ?_
  refine mm_getR 38 dX3_copyFrom_6 fl_RX3_9 lo_37 rfl ?_
  refine mm_iconst (v := 0) dX3_copyFrom_9 rfl ?_
  refine mm_sipush (v := 160) dX3_copyFrom_10 rfl ?_
  refine mm_copy dX3_copyFrom_13 lk_RX3_43 wd_copy ⟨Nat.le_of_ble_eq_true rfl, Nat.le_of_ble_eq_true rfl⟩ ?_
  refine mm_nm_M (fun M_1 => ?_)
  refine mm_aload_n 1 dX3_copyFrom_16 rfl ?_
  refine mm_getR 48 dX3_copyFrom_17 fl_RX3_15 lo_46 rfl ?_
  refine mm_iconst (v := 0) dX3_copyFrom_20 rfl ?_
  refine mm_aload_n 0 dX3_copyFrom_21 rfl ?_
  refine mm_getR 39 dX3_copyFrom_22 fl_RX3_15 lo_37 rfl ?_
  refine mm_iconst (v := 0) dX3_copyFrom_25 rfl ?_
  refine mm_sipush (v := 160) dX3_copyFrom_26 rfl ?_
  refine mm_copy dX3_copyFrom_29 lk_RX3_43 wd_copy ⟨Nat.le_of_ble_eq_true rfl, Nat.le_of_ble_eq_true rfl⟩ ?_
  refine mm_nm_M (fun M_2 => ?_)
  refine mm_aload_n 0 dX3_copyFrom_32 rfl ?_
  refine mm_aload_n 1 dX3_copyFrom_33 rfl ?_
  refine mm_getI dX3_copyFrom_34 fl_RX3_36 lo_46 rfl ?_
  refine mm_putI dX3_copyFrom_37 fp_RX3_36 lo_37 rfl ?_
  refine mm_nm_M (fun M_3 => ?_)
  refine mm_aload_n 1 dX3_copyFrom_40 rfl ?_
  refine mm_getR 49 dX3_copyFrom_41 fl_RX3_18 lo_46 rfl ?_
  refine mm_iconst (v := 0) dX3_copyFrom_44 rfl ?_
  refine mm_aload_n 0 dX3_copyFrom_45 rfl ?_
  refine mm_getR 40 dX3_copyFrom_46 fl_RX3_18 lo_37 rfl ?_
  refine mm_iconst (v := 0) dX3_copyFrom_49 rfl ?_
  refine mm_bipush (v := 12) dX3_copyFrom_50 rfl ?_
  refine mm_copy dX3_copyFrom_52 lk_RX3_43 wd_copy ⟨Nat.le_of_ble_eq_true rfl, Nat.le_of_ble_eq_true rfl⟩ ?_
  refine mm_nm_M (fun M_4 => ?_)
  refine mm_aload_n 1 dX3_copyFrom_55 rfl ?_
  refine mm_getR 50 dX3_copyFrom_56 fl_RX3_21 lo_46 rfl ?_
  refine mm_iconst (v := 0) dX3_copyFrom_59 rfl ?_
  refine mm_aload_n 0 dX3_copyFrom_60 rfl ?_
  refine mm_getR 41 dX3_copyFrom_61 fl_RX3_21 lo_37 rfl ?_
  refine mm_iconst (v := 0) dX3_copyFrom_64 rfl ?_
  refine mm_bipush (v := 12) dX3_copyFrom_65 rfl ?_
  refine mm_copy dX3_copyFrom_67 lk_RX3_43 wd_copy ⟨Nat.le_of_ble_eq_true rfl, Nat.le_of_ble_eq_true rfl⟩ ?_
  refine mm_nm_M (fun M_5 => ?_)
  refine mm_aload_n 1 dX3_copyFrom_70 rfl ?_
  refine mm_getR 51 dX3_copyFrom_71 fl_RX3_24 lo_46 rfl ?_
  refine mm_iconst (v := 0) dX3_copyFrom_74 rfl ?_
  refine mm_aload_n 0 dX3_copyFrom_75 rfl ?_
  refine mm_getR 42 dX3_copyFrom_76 fl_RX3_24 lo_37 rfl ?_
  refine mm_iconst (v := 0) dX3_copyFrom_79 rfl ?_
  refine mm_bipush (v := 12) dX3_copyFrom_80 rfl ?_
  refine mm_copy dX3_copyFrom_82 lk_RX3_43 wd_copy ⟨Nat.le_of_ble_eq_true rfl, Nat.le_of_ble_eq_true rfl⟩ ?_
  refine mm_nm_M (fun M_6 => ?_)
  refine mm_aload_n 1 dX3_copyFrom_85 rfl ?_
  refine mm_getR 52 dX3_copyFrom_86 fl_RX3_27 lo_46 rfl ?_
  refine mm_iconst (v := 0) dX3_copyFrom_89 rfl ?_
  refine mm_aload_n 0 dX3_copyFrom_90 rfl ?_
  refine mm_getR 43 dX3_copyFrom_91 fl_RX3_27 lo_37 rfl ?_
  refine mm_iconst (v := 0) dX3_copyFrom_94 rfl ?_
  refine mm_bipush (v := 12) dX3_copyFrom_95 rfl ?_
  refine mm_copy dX3_copyFrom_97 lk_RX3_43 wd_copy ⟨Nat.le_of_ble_eq_true rfl, Nat.le_of_ble_eq_true rfl⟩ ?_
  refine mm_nm_M (fun M_7 => ?_)
  refine mm_aload_n 0 dX3_copyFrom_100 rfl ?_
  refine mm_aload_n 1 dX3_copyFrom_101 rfl ?_
  refine mm_getI dX3_copyFrom_102 fl_RX3_40 lo_46 rfl ?_
  refine mm_putI dX3_copyFrom_105 fp_RX3_40 lo_37 rfl ?_
  refine mm_nm_M (fun M_8 => ?_)
  exact mm_vret dX3_copyFrom_108 rfl
def f_H_law (v1 : Int32) (M : mm_M) : Option (Int32 × mm_M) := if v1 < 1 then some ((-1), M) else if 160 < v1 then some ((-1), M) else mm_bd (f_Tape_size M) fun r_1 M_2 => if v1 ≤ r_1 then mm_bd (f_LawReader_read v1 M_2) fun r_3 M_4 => mm_jn (fun (v2 : Int32) (M_5 : mm_M) => mm_bd (f_Tape_clear M_5) fun u_6 M_7 => some (v2, M_7)) fun j49 => if r_3 ≤ 0 then j49 r_3 M_4 else mm_bd (f_Law_copyFrom_37_46 M_4) fun u_8 M_9 => j49 r_3 M_9 else some ((-1), M_2)
set_option maxHeartbeats 4000000 in
theorem c_H_law (E : mm_E) (v1 : Int32) (M : mm_M) : ∀ (r : Int32) (M2 : mm_M), f_H_law v1 M = some (r, M2) → mm_P E Y_X11_law 129 [.ref 0, .int v1] M (some (.int r)) M2 := by
  refine mm_entry (em := (fun x : Int32 => some (.int x))) (by decide +kernel) (Nat.le_of_ble_eq_true rfl) ?_
  show mm_G _ E _ _ 0 [(0, .ref 0), (1, .int v1)] [] M _
  unfold f_H_law
  refine mm_iload_n 1 dX11_law_0 rfl ?_
  refine mm_iconst (v := 1) dX11_law_1 rfl ?_
  refine mm_icmp_lt 23 dX11_law_2 rfl ?_ ?_
  · refine mm_iconst (v := (-1)) dX11_law_23 rfl ?_
    exact mm_iret dX11_law_24 rfl
  · refine mm_iload_n 1 dX11_law_5 rfl ?_
    refine mm_sipush (v := 160) dX11_law_6 rfl ?_
    refine mm_icmp_gt 23 dX11_law_9 rfl ?_ ?_
    · refine mm_iconst (v := (-1)) dX11_law_23 rfl ?_
      exact mm_iret dX11_law_24 rfl
    · refine mm_iload_n 1 dX11_law_12 rfl ?_
      refine mm_aload_n 0 dX11_law_13 rfl ?_
      refine mm_getR 1 dX11_law_14 fl_RX11_12 lo_0 rfl ?_
      refine mm_callVi (as := []) (st := [.int v1]) (c_Tape_size E M) dX11_law_17 mz_X9_size lk_RX11_100 im_X9_size se_X9_size lo_1 rfl rfl rfl ⟨Nat.le_of_ble_eq_true rfl, Nat.le_of_ble_eq_true rfl⟩ (Nat.le_of_ble_eq_true rfl) (fun r_1 M_2 => ?_)
      refine mm_icmp_le 25 dX11_law_20 rfl ?_ ?_
      · refine mm_aload_n 0 dX11_law_25 rfl ?_
        refine mm_getR 55 dX11_law_26 fl_RX11_62 lo_0 rfl ?_
        refine mm_iload_n 1 dX11_law_29 rfl ?_
        refine mm_callVi (as := [.int v1]) (st := []) (c_LawReader_read E v1 M_2) dX11_law_30 mz_X4_read lk_RX11_170 im_X4_read se_X4_read lo_55 rfl rfl rfl ⟨Nat.le_of_ble_eq_true rfl, Nat.le_of_ble_eq_true rfl⟩ (Nat.le_of_ble_eq_true rfl) (fun r_3 M_4 => ?_)
        refine mm_istore_n [1, 2, 0] (lv2 := [(0, .ref 0), (1, .int v1), (2, .int r_3)]) dX11_law_33 (by decide) rfl ?_
        refine mm_iload_n 2 dX11_law_34 rfl ?_
        refine mm_jnP (P := fun j => ∀ (v2 : Int32) (M : mm_M), mm_G (fun x : Int32 => some (.int x)) E Y_X11_law 129 49 [(0, .ref 0), (2, .int v2)] [] M (j v2 M)) ?_ (fun j49 hj49 => ?_)
        · intro v2 M_5
          refine mm_aload_n 0 dX11_law_49 rfl ?_
          refine mm_getR 1 dX11_law_50 fl_RX11_12 lo_0 rfl ?_
          refine mm_callVv (as := []) (st := []) (c_Tape_clear E M_5) dX11_law_53 mz_X9_clear lk_RX11_116 im_X9_clear se_X9_clear lo_1 rfl rfl rfl ⟨Nat.le_of_ble_eq_true rfl, Nat.le_of_ble_eq_true rfl⟩ (Nat.le_of_ble_eq_true rfl) (fun u_6 M_7 => ?_)
          refine mm_iload_n 1 dX11_law_56 rfl ?_
          exact mm_iret dX11_law_57 rfl
        refine mm_if_le 49 dX11_law_35 rfl ?_ ?_
        · refine mm_wk [0, 2] rfl ?_
          exact hj49 r_3 M_4
        · refine mm_aload_n 0 dX11_law_38 rfl ?_
          refine mm_getR 37 dX11_law_39 fl_RX11_50 lo_0 rfl ?_
          refine mm_aload_n 0 dX11_law_42 rfl ?_
          refine mm_getR 46 dX11_law_43 fl_RX11_54 lo_0 rfl ?_
          refine mm_callVv (as := [.ref 46]) (st := []) (c_Law_copyFrom_37_46 E M_4) dX11_law_46 mz_X3_copyFrom lk_RX11_173 im_X3_copyFrom se_X3_copyFrom lo_37 rfl rfl rfl ⟨Nat.le_of_ble_eq_true rfl, Nat.le_of_ble_eq_true rfl⟩ (Nat.le_of_ble_eq_true rfl) (fun u_8 M_9 => ?_)
          refine mm_wk [0, 2] rfl ?_
          exact hj49 r_3 M_9
      · refine mm_iconst (v := (-1)) dX11_law_23 rfl ?_
        exact mm_iret dX11_law_24 rfl
def lp_Arrays_fill_69_5 (v1 : Int32) (v3 : Int32) (k20 : mm_M → Option (Unit × mm_M)) : Nat → Int32 → mm_M → Option (Unit × mm_M)
  | 0, _, _ => none
  | n + 1, v2, M => if v3 ≤ v2 then k20 M else if mm_in v2 (mm_al 69) = true then mm_let (mm_setA M 69 (v2.toNatClampNeg) v1) fun M_1 => mm_let (v2 + 1) fun v2_2 => lp_Arrays_fill_69_5 v1 v3 k20 n v2_2 M_1 else none
set_option maxHeartbeats 4000000 in
theorem lp_Arrays_fill_69_5_ok (E : mm_E) (v1 : Int32) (v3 : Int32) {k20 : mm_M → Option (Unit × mm_M)} (hk20 : ∀ (M : mm_M), mm_G (fun _ : Unit => none) E Y_J7_fill_53178 1 20 [] [] M (k20 M)) : ∀ (n : Nat) (v2 : Int32) (M : mm_M), mm_G (fun _ : Unit => none) E Y_J7_fill_53178 1 5 [(0, .ref 69), (1, .int v1), (2, .int v2), (3, .int v3)] [] M (lp_Arrays_fill_69_5 v1 v3 k20 n v2 M) := by
  intro n
  induction n with
  | zero => intro v2 M r M2 he; cases he
  | succ n ih =>
    intro v2 M
    rw [lp_Arrays_fill_69_5]
    refine mm_iload_n 2 dJ7_fill_53178_5 rfl ?_
    refine mm_iload_n 3 dJ7_fill_53178_6 rfl ?_
    refine mm_icmp_ge 20 dJ7_fill_53178_7 rfl ?_ ?_
    · refine mm_wk [] rfl ?_
      exact hk20  M
    · refine mm_aload_n 0 dJ7_fill_53178_10 rfl ?_
      refine mm_iload_n 2 dJ7_fill_53178_11 rfl ?_
      refine mm_iload_n 1 dJ7_fill_53178_12 rfl ?_
      refine mm_iastore dJ7_fill_53178_13 ?_
      refine mm_nm_M (fun M_1 => ?_)
      refine mm_iincN 2 [1, 2, 0, 3] (v := v2 + 1) (lv2 := fun v2_2 => [(0, .ref 69), (1, .int v1), (2, .int v2_2), (3, .int v3)]) dJ7_fill_53178_14 rfl rfl (by decide) (fun _ => rfl) (fun v2_2 => ?_)
      refine mm_goto 5 dJ7_fill_53178_17 rfl ?_
      exact ih v2_2 M_1
def f_Arrays_fill_69 (v1 : Int32) (M : mm_M) : Option (Unit × mm_M) := lp_Arrays_fill_69_5 v1 72 (fun (M_3 : mm_M) => some ((), M_3)) mm_fu 0 M
set_option maxHeartbeats 4000000 in
theorem c_Arrays_fill_69 (E : mm_E) (v1 : Int32) (M : mm_M) : ∀ (r : Unit) (M2 : mm_M), f_Arrays_fill_69 v1 M = some (r, M2) → mm_P E Y_J7_fill_53178 1 [.ref 69, .int v1] M none M2 := by
  refine mm_entry (em := (fun _ : Unit => none)) (by decide +kernel) (Nat.le_of_ble_eq_true rfl) ?_
  show mm_G _ E _ _ 0 [(0, .ref 69), (1, .int v1)] [] M _
  unfold f_Arrays_fill_69
  refine mm_iconst (v := 0) dJ7_fill_53178_0 rfl ?_
  refine mm_istore_n [1, 2, 0] (lv2 := [(0, .ref 69), (1, .int v1), (2, .int 0)]) dJ7_fill_53178_1 (by decide) rfl ?_
  refine mm_aload_n 0 dJ7_fill_53178_2 rfl ?_
  refine mm_alen (v := 72) dJ7_fill_53178_3 lo_69 rfl ?_
  refine mm_istore_n [1, 2, 3, 0] (lv2 := [(0, .ref 69), (1, .int v1), (2, .int 0), (3, .int 72)]) dJ7_fill_53178_4 (by decide) rfl ?_
  refine lp_Arrays_fill_69_5_ok E v1 72 ?_ mm_fu 0 M
  · intro M_3
    exact mm_vret dJ7_fill_53178_20 rfl
def lp_Arrays_fill_70_5 (v1 : Int32) (v3 : Int32) (k20 : mm_M → Option (Unit × mm_M)) : Nat → Int32 → mm_M → Option (Unit × mm_M)
  | 0, _, _ => none
  | n + 1, v2, M => if v3 ≤ v2 then k20 M else if mm_in v2 (mm_al 70) = true then mm_let (mm_setA M 70 (v2.toNatClampNeg) v1) fun M_1 => mm_let (v2 + 1) fun v2_2 => lp_Arrays_fill_70_5 v1 v3 k20 n v2_2 M_1 else none
set_option maxHeartbeats 4000000 in
theorem lp_Arrays_fill_70_5_ok (E : mm_E) (v1 : Int32) (v3 : Int32) {k20 : mm_M → Option (Unit × mm_M)} (hk20 : ∀ (M : mm_M), mm_G (fun _ : Unit => none) E Y_J7_fill_53178 1 20 [] [] M (k20 M)) : ∀ (n : Nat) (v2 : Int32) (M : mm_M), mm_G (fun _ : Unit => none) E Y_J7_fill_53178 1 5 [(0, .ref 70), (1, .int v1), (2, .int v2), (3, .int v3)] [] M (lp_Arrays_fill_70_5 v1 v3 k20 n v2 M) := by
  intro n
  induction n with
  | zero => intro v2 M r M2 he; cases he
  | succ n ih =>
    intro v2 M
    rw [lp_Arrays_fill_70_5]
    refine mm_iload_n 2 dJ7_fill_53178_5 rfl ?_
    refine mm_iload_n 3 dJ7_fill_53178_6 rfl ?_
    refine mm_icmp_ge 20 dJ7_fill_53178_7 rfl ?_ ?_
    · refine mm_wk [] rfl ?_
      exact hk20  M
    · refine mm_aload_n 0 dJ7_fill_53178_10 rfl ?_
      refine mm_iload_n 2 dJ7_fill_53178_11 rfl ?_
      refine mm_iload_n 1 dJ7_fill_53178_12 rfl ?_
      refine mm_iastore dJ7_fill_53178_13 ?_
      refine mm_nm_M (fun M_1 => ?_)
      refine mm_iincN 2 [1, 2, 0, 3] (v := v2 + 1) (lv2 := fun v2_2 => [(0, .ref 70), (1, .int v1), (2, .int v2_2), (3, .int v3)]) dJ7_fill_53178_14 rfl rfl (by decide) (fun _ => rfl) (fun v2_2 => ?_)
      refine mm_goto 5 dJ7_fill_53178_17 rfl ?_
      exact ih v2_2 M_1
def f_Arrays_fill_70 (v1 : Int32) (M : mm_M) : Option (Unit × mm_M) := lp_Arrays_fill_70_5 v1 96 (fun (M_3 : mm_M) => some ((), M_3)) mm_fu 0 M
set_option maxHeartbeats 4000000 in
theorem c_Arrays_fill_70 (E : mm_E) (v1 : Int32) (M : mm_M) : ∀ (r : Unit) (M2 : mm_M), f_Arrays_fill_70 v1 M = some (r, M2) → mm_P E Y_J7_fill_53178 1 [.ref 70, .int v1] M none M2 := by
  refine mm_entry (em := (fun _ : Unit => none)) (by decide +kernel) (Nat.le_of_ble_eq_true rfl) ?_
  show mm_G _ E _ _ 0 [(0, .ref 70), (1, .int v1)] [] M _
  unfold f_Arrays_fill_70
  refine mm_iconst (v := 0) dJ7_fill_53178_0 rfl ?_
  refine mm_istore_n [1, 2, 0] (lv2 := [(0, .ref 70), (1, .int v1), (2, .int 0)]) dJ7_fill_53178_1 (by decide) rfl ?_
  refine mm_aload_n 0 dJ7_fill_53178_2 rfl ?_
  refine mm_alen (v := 96) dJ7_fill_53178_3 lo_70 rfl ?_
  refine mm_istore_n [1, 2, 3, 0] (lv2 := [(0, .ref 70), (1, .int v1), (2, .int 0), (3, .int 96)]) dJ7_fill_53178_4 (by decide) rfl ?_
  refine lp_Arrays_fill_70_5_ok E v1 96 ?_ mm_fu 0 M
  · intro M_3
    exact mm_vret dJ7_fill_53178_20 rfl
def f_Load_setFloor (v1 : Int32) (v2 : Int32) (M : mm_M) : Option (Unit × mm_M) := if mm_in v1 (mm_al 68) = true then mm_let (mm_setA M 68 (v1.toNatClampNeg) v2) fun M_1 => some ((), M_1) else none
set_option maxHeartbeats 4000000 in
theorem c_Load_setFloor (E : mm_E) (v1 : Int32) (v2 : Int32) (M : mm_M) : ∀ (r : Unit) (M2 : mm_M), f_Load_setFloor v1 v2 M = some (r, M2) → mm_P E Y_X5_setFloor 1 [.ref 56, .int v1, .int v2] M none M2 := by
  refine mm_entry (em := (fun _ : Unit => none)) (by decide +kernel) (Nat.le_of_ble_eq_true rfl) ?_
  show mm_G _ E _ _ 0 [(0, .ref 56), (1, .int v1), (2, .int v2)] [] M _
  unfold f_Load_setFloor
  refine mm_aload_n 0 dX5_setFloor_0 rfl ?_
  refine mm_getR 68 dX5_setFloor_1 fl_RX5_16 lo_56 rfl ?_
  refine mm_iload_n 1 dX5_setFloor_4 rfl ?_
  refine mm_iload_n 2 dX5_setFloor_5 rfl ?_
  refine mm_iastore dX5_setFloor_6 ?_
  refine mm_nm_M (fun M_1 => ?_)
  exact mm_vret dX5_setFloor_7 rfl
def f_Math_floorMod (v0 : Int32) (v1 : Int32) (M : mm_M) : Option (Int32 × mm_M) := if v1 = 0 then none else mm_let (mm_rem v0 v1) fun v2_1 => if 0 ≤ v0 ^^^ v1 then some (v2_1, M) else if v2_1 = 0 then some (v2_1, M) else some (v2_1 + v1, M)
set_option maxHeartbeats 4000000 in
theorem c_Math_floorMod (E : mm_E) (v0 : Int32) (v1 : Int32) (M : mm_M) : ∀ (r : Int32) (M2 : mm_M), f_Math_floorMod v0 v1 M = some (r, M2) → mm_P E Y_J9_floorMod_7cf53 1 [.int v0, .int v1] M (some (.int r)) M2 := by
  refine mm_entry (em := (fun x : Int32 => some (.int x))) (by decide +kernel) (Nat.le_of_ble_eq_true rfl) ?_
  show mm_G _ E _ _ 0 [(0, .int v0), (1, .int v1)] [] M _
  unfold f_Math_floorMod
  refine mm_iload_n 0 dJ9_floorMod_7cf53_0 rfl ?_
  refine mm_iload_n 1 dJ9_floorMod_7cf53_1 rfl ?_
  refine mm_irem dJ9_floorMod_7cf53_2 ?_
  refine mm_nm_int (fun v2_1 => ?_)
  refine mm_istore_n [1, 2, 0] (lv2 := [(0, .int v0), (1, .int v1), (2, .int v2_1)]) dJ9_floorMod_7cf53_3 (by decide) rfl ?_
  refine mm_iload_n 0 dJ9_floorMod_7cf53_4 rfl ?_
  refine mm_iload_n 1 dJ9_floorMod_7cf53_5 rfl ?_
  refine mm_ixor dJ9_floorMod_7cf53_6 ?_
  refine mm_if_ge 18 dJ9_floorMod_7cf53_7 rfl ?_ ?_
  · refine mm_iload_n 2 dJ9_floorMod_7cf53_18 rfl ?_
    exact mm_iret dJ9_floorMod_7cf53_19 rfl
  · refine mm_iload_n 2 dJ9_floorMod_7cf53_10 rfl ?_
    refine mm_if_eq 18 dJ9_floorMod_7cf53_11 rfl ?_ ?_
    · refine mm_iload_n 2 dJ9_floorMod_7cf53_18 rfl ?_
      exact mm_iret dJ9_floorMod_7cf53_19 rfl
    · refine mm_iload_n 2 dJ9_floorMod_7cf53_14 rfl ?_
      refine mm_iload_n 1 dJ9_floorMod_7cf53_15 rfl ?_
      refine mm_iadd dJ9_floorMod_7cf53_16 ?_
      exact mm_iret dJ9_floorMod_7cf53_17 rfl
def lp_Load_setShift_41 (v1 : Int32) (v2 : Int32) (v3 : Nat) (v4 : Int32) (v5 : Int32) (k78 : mm_M → Option (Unit × mm_M)) : Nat → Int32 → mm_M → Option (Unit × mm_M)
  | 0, _, _ => none
  | n + 1, v6, M => if 3 ≤ v6 then k78 M else if mm_in v1 10 = true then if mm_in ((v6 * 24) + v4) (mm_al v3) = true then if mm_in ((v6 * 24) + v5) (mm_al (58 + v1.toNatClampNeg)) = true then mm_let (mm_setA M (58 + v1.toNatClampNeg) (((v6 * 24) + v5).toNatClampNeg) (M.2.1 v3 ((v6 * 24) + v4).toNatClampNeg)) fun M_5 => mm_let (v6 + 1) fun v6_6 => lp_Load_setShift_41 v1 v2 v3 v4 v5 k78 n v6_6 M_5 else none else none else none
set_option maxHeartbeats 4000000 in
theorem lp_Load_setShift_41_ok (E : mm_E) (v1 : Int32) (v2 : Int32) (v3 : Nat) (v4 : Int32) (v5 : Int32) {k78 : mm_M → Option (Unit × mm_M)} (hk78 : ∀ (M : mm_M), mm_G (fun _ : Unit => none) E Y_X5_setShift 2 78 [(0, .ref 56), (1, .int v1), (2, .int v2), (3, .ref v3), (4, .int v4)] [] M (k78 M)) : ∀ (n : Nat) (v6 : Int32) (M : mm_M), mm_G (fun _ : Unit => none) E Y_X5_setShift 2 41 [(0, .ref 56), (1, .int v1), (2, .int v2), (3, .ref v3), (4, .int v4), (5, .int v5), (6, .int v6)] [] M (lp_Load_setShift_41 v1 v2 v3 v4 v5 k78 n v6 M) := by
  intro n
  induction n with
  | zero => intro v6 M r M2 he; cases he
  | succ n ih =>
    intro v6 M
    rw [lp_Load_setShift_41]
    refine mm_iload 6 dX5_setShift_41 rfl ?_
    refine mm_iconst (v := 3) dX5_setShift_43 rfl ?_
    refine mm_icmp_ge 78 dX5_setShift_44 rfl ?_ ?_
    · refine mm_wk [0, 1, 2, 3, 4] rfl ?_
      exact hk78  M
    · refine mm_aload_n 0 dX5_setShift_47 rfl ?_
      refine mm_getR 57 dX5_setShift_48 fl_RX5_11 lo_56 rfl ?_
      refine mm_iload_n 1 dX5_setShift_51 rfl ?_
      refine mm_aaload dX5_setShift_52 lo_57 ?_
      refine mm_iload 6 dX5_setShift_53 rfl ?_
      refine mm_bipush (v := 24) dX5_setShift_55 rfl ?_
      refine mm_imul dX5_setShift_57 ?_
      refine mm_iload 5 dX5_setShift_58 rfl ?_
      refine mm_iadd dX5_setShift_60 ?_
      refine mm_aload_n 3 dX5_setShift_61 rfl ?_
      refine mm_iload 6 dX5_setShift_62 rfl ?_
      refine mm_bipush (v := 24) dX5_setShift_64 rfl ?_
      refine mm_imul dX5_setShift_66 ?_
      refine mm_iload 4 dX5_setShift_67 rfl ?_
      refine mm_iadd dX5_setShift_69 ?_
      refine mm_iaload dX5_setShift_70 ?_
      refine mm_iastore dX5_setShift_71 ?_
      refine mm_nm_M (fun M_5 => ?_)
      refine mm_iincN 6 [1, 2, 3, 4, 5, 6, 0] (v := v6 + 1) (lv2 := fun v6_6 => [(0, .ref 56), (1, .int v1), (2, .int v2), (3, .ref v3), (4, .int v4), (5, .int v5), (6, .int v6_6)]) dX5_setShift_72 rfl rfl (by decide) (fun _ => rfl) (fun v6_6 => ?_)
      refine mm_goto 41 dX5_setShift_75 rfl ?_
      exact ih v6_6 M_5
def lp_Load_setShift_20 (v1 : Int32) (v2 : Int32) (v3 : Nat) (k84 : mm_M → Option (Unit × mm_M)) : Nat → Int32 → mm_M → Option (Unit × mm_M)
  | 0, _, _ => none
  | n + 1, v4, M => if 24 ≤ v4 then k84 M else mm_bd (f_Math_floorMod (v4 + v2) 24 M) fun r_3 M_4 => lp_Load_setShift_41 v1 v2 v3 v4 r_3 (fun (M_7 : mm_M) => mm_let (v4 + 1) fun v4_8 => lp_Load_setShift_20 v1 v2 v3 k84 n v4_8 M_7) mm_fu 0 M_4
set_option maxHeartbeats 4000000 in
theorem lp_Load_setShift_20_ok (E : mm_E) (v1 : Int32) (v2 : Int32) (v3 : Nat) {k84 : mm_M → Option (Unit × mm_M)} (hk84 : ∀ (M : mm_M), mm_G (fun _ : Unit => none) E Y_X5_setShift 2 84 [] [] M (k84 M)) : ∀ (n : Nat) (v4 : Int32) (M : mm_M), mm_G (fun _ : Unit => none) E Y_X5_setShift 2 20 [(0, .ref 56), (1, .int v1), (2, .int v2), (3, .ref v3), (4, .int v4)] [] M (lp_Load_setShift_20 v1 v2 v3 k84 n v4 M) := by
  intro n
  induction n with
  | zero => intro v4 M r M2 he; cases he
  | succ n ih =>
    intro v4 M
    rw [lp_Load_setShift_20]
    refine mm_iload 4 dX5_setShift_20 rfl ?_
    refine mm_bipush (v := 24) dX5_setShift_22 rfl ?_
    refine mm_icmp_ge 84 dX5_setShift_24 rfl ?_ ?_
    · refine mm_wk [] rfl ?_
      exact hk84  M
    · refine mm_iload 4 dX5_setShift_27 rfl ?_
      refine mm_iload_n 2 dX5_setShift_29 rfl ?_
      refine mm_iadd dX5_setShift_30 ?_
      refine mm_bipush (v := 24) dX5_setShift_31 rfl ?_
      refine mm_callSi (as := [.int (v4 + v2), .int 24]) (st := []) (c_Math_floorMod E (v4 + v2) 24 M) dX5_setShift_33 mz_J9_floorMod_7cf53 lk_RX5_79 sm_J9_floorMod_7cf53 rfl ⟨Nat.le_of_ble_eq_true rfl, Nat.le_of_ble_eq_true rfl⟩ (Nat.le_of_ble_eq_true rfl) (fun r_3 M_4 => ?_)
      refine mm_istore [1, 2, 3, 4, 5, 0] (lv2 := [(0, .ref 56), (1, .int v1), (2, .int v2), (3, .ref v3), (4, .int v4), (5, .int r_3)]) dX5_setShift_36 (by decide) rfl ?_
      refine mm_iconst (v := 0) dX5_setShift_38 rfl ?_
      refine mm_istore [1, 2, 3, 4, 5, 6, 0] (lv2 := [(0, .ref 56), (1, .int v1), (2, .int v2), (3, .ref v3), (4, .int v4), (5, .int r_3), (6, .int 0)]) dX5_setShift_39 (by decide) rfl ?_
      refine lp_Load_setShift_41_ok E v1 v2 v3 v4 r_3 ?_ mm_fu 0 M_4
      · intro M_7
        refine mm_iincN 4 [1, 2, 3, 4, 0] (v := v4 + 1) (lv2 := fun v4_8 => [(0, .ref 56), (1, .int v1), (2, .int v2), (3, .ref v3), (4, .int v4_8)]) dX5_setShift_78 rfl rfl (by decide) (fun _ => rfl) (fun v4_8 => ?_)
        refine mm_goto 20 dX5_setShift_81 rfl ?_
        exact ih v4_8 M_7
def f_Load_setShift (v1 : Int32) (v2 : Int32) (M : mm_M) : Option (Unit × mm_M) := if mm_in v1 (mm_al 29) = true then mm_bd (f_Days_rowOf (M.2.1 29 v1.toNatClampNeg) M) fun o_1 M_2 => lp_Load_setShift_20 v1 v2 o_1 (fun (M_9 : mm_M) => some ((), M_9)) mm_fu 0 M_2 else none
set_option maxHeartbeats 4000000 in
theorem c_Load_setShift (E : mm_E) (v1 : Int32) (v2 : Int32) (M : mm_M) : ∀ (r : Unit) (M2 : mm_M), f_Load_setShift v1 v2 M = some (r, M2) → mm_P E Y_X5_setShift 2 [.ref 56, .int v1, .int v2] M none M2 := by
  refine mm_entry (em := (fun _ : Unit => none)) (by decide +kernel) (Nat.le_of_ble_eq_true rfl) ?_
  show mm_G _ E _ _ 0 [(0, .ref 56), (1, .int v1), (2, .int v2)] [] M _
  unfold f_Load_setShift
  refine mm_aload_n 0 dX5_setShift_0 rfl ?_
  refine mm_getR 4 dX5_setShift_1 fl_RX5_34 lo_56 rfl ?_
  refine mm_aload_n 0 dX5_setShift_4 rfl ?_
  refine mm_getR 27 dX5_setShift_5 fl_RX5_30 lo_56 rfl ?_
  refine mm_getR 29 dX5_setShift_8 fl_RX5_70 lo_27 rfl ?_
  refine mm_iload_n 1 dX5_setShift_11 rfl ?_
  refine mm_iaload dX5_setShift_12 ?_
  refine mm_callVr (as := [.int (M.2.1 29 v1.toNatClampNeg)]) (st := []) (c_Days_rowOf E (M.2.1 29 v1.toNatClampNeg) M) dX5_setShift_13 mz_X1_rowOf lk_RX5_73 im_X1_rowOf se_X1_rowOf lo_4 rfl rfl rfl ⟨Nat.le_of_ble_eq_true rfl, Nat.le_of_ble_eq_true rfl⟩ (Nat.le_of_ble_eq_true rfl) (fun o_1 M_2 => ?_)
  refine mm_astore_n [1, 2, 3, 0] (lv2 := [(0, .ref 56), (1, .int v1), (2, .int v2), (3, .ref o_1)]) dX5_setShift_16 (by decide) rfl ?_
  refine mm_iconst (v := 0) dX5_setShift_17 rfl ?_
  refine mm_istore [1, 2, 3, 4, 0] (lv2 := [(0, .ref 56), (1, .int v1), (2, .int v2), (3, .ref o_1), (4, .int 0)]) dX5_setShift_18 (by decide) rfl ?_
  refine lp_Load_setShift_20_ok E v1 v2 o_1 ?_ mm_fu 0 M_2
  · intro M_9
    exact mm_vret dX5_setShift_84 rfl
def lp_Load_begin_23 (k82 : mm_M → Option (Unit × mm_M)) : Nat → Int32 → mm_M → Option (Unit × mm_M)
  | 0, _, _ => none
  | n + 1, v1, M => if 10 ≤ v1 then k82 M else mm_bd (f_Register_has_27 v1 M) fun b_6 M_7 => mm_jn (fun (v1 : Int32) (M_8 : mm_M) => mm_let (v1 + 1) fun v1_9 => lp_Load_begin_23 k82 n v1_9 M_8) fun j76 => if b_6 = true then if mm_in v1 (mm_al 28) = true then if mm_in (M_7.2.1 28 v1.toNatClampNeg) (mm_al 23) = true then mm_bd (f_Load_setFloor v1 (M_7.2.1 23 (M_7.2.1 28 v1.toNatClampNeg).toNatClampNeg) M_7) fun u_10 M_11 => if mm_in v1 (mm_al 31) = true then mm_bd (f_Load_setShift v1 (M_11.2.1 31 v1.toNatClampNeg) M_11) fun u_12 M_13 => j76 v1 M_13 else none else none else none else j76 v1 M_7
set_option maxHeartbeats 4000000 in
theorem lp_Load_begin_23_ok (E : mm_E) {k82 : mm_M → Option (Unit × mm_M)} (hk82 : ∀ (M : mm_M), mm_G (fun _ : Unit => none) E Y_X5_begin 4 82 [] [] M (k82 M)) : ∀ (n : Nat) (v1 : Int32) (M : mm_M), mm_G (fun _ : Unit => none) E Y_X5_begin 4 23 [(0, .ref 56), (1, .int v1)] [] M (lp_Load_begin_23 k82 n v1 M) := by
  intro n
  induction n with
  | zero => intro v1 M r M2 he; cases he
  | succ n ih =>
    intro v1 M
    rw [lp_Load_begin_23]
    refine mm_iload_n 1 dX5_begin_23 rfl ?_
    refine mm_bipush (v := 10) dX5_begin_24 rfl ?_
    refine mm_icmp_ge 82 dX5_begin_26 rfl ?_ ?_
    · refine mm_wk [] rfl ?_
      exact hk82  M
    · refine mm_aload_n 0 dX5_begin_29 rfl ?_
      refine mm_getR 27 dX5_begin_30 fl_RX5_30 lo_56 rfl ?_
      refine mm_iload_n 1 dX5_begin_33 rfl ?_
      refine mm_callVz (as := [.int v1]) (st := []) (c_Register_has_27 E v1 M) dX5_begin_34 mz_X7_has lk_RX5_48 im_X7_has se_X7_has lo_27 rfl rfl rfl ⟨Nat.le_of_ble_eq_true rfl, Nat.le_of_ble_eq_true rfl⟩ (Nat.le_of_ble_eq_true rfl) (fun b_6 M_7 => ?_)
      refine mm_jnP (P := fun j => ∀ (v1 : Int32) (M : mm_M), mm_G (fun _ : Unit => none) E Y_X5_begin 4 76 [(0, .ref 56), (1, .int v1)] [] M (j v1 M)) ?_ (fun j76 hj76 => ?_)
      · intro v1 M_8
        refine mm_iincN 1 [1, 0] (v := v1 + 1) (lv2 := fun v1_9 => [(0, .ref 56), (1, .int v1_9)]) dX5_begin_76 rfl rfl (by decide) (fun _ => rfl) (fun v1_9 => ?_)
        refine mm_goto 23 dX5_begin_79 rfl ?_
        exact ih v1_9 M_8
      refine mm_if_eq_b 76 dX5_begin_37 rfl ?_ ?_
      · exact hj76 v1 M_7
      · refine mm_aload_n 0 dX5_begin_40 rfl ?_
        refine mm_iload_n 1 dX5_begin_41 rfl ?_
        refine mm_aload_n 0 dX5_begin_42 rfl ?_
        refine mm_getR 22 dX5_begin_43 fl_RX5_26 lo_56 rfl ?_
        refine mm_getR 23 dX5_begin_46 fl_RX5_54 lo_22 rfl ?_
        refine mm_aload_n 0 dX5_begin_49 rfl ?_
        refine mm_getR 27 dX5_begin_50 fl_RX5_30 lo_56 rfl ?_
        refine mm_getR 28 dX5_begin_53 fl_RX5_57 lo_27 rfl ?_
        refine mm_iload_n 1 dX5_begin_56 rfl ?_
        refine mm_iaload dX5_begin_57 ?_
        refine mm_iaload dX5_begin_58 ?_
        refine mm_callVv (as := [.int v1, .int (M_7.2.1 23 (M_7.2.1 28 v1.toNatClampNeg).toNatClampNeg)]) (st := []) (c_Load_setFloor E v1 (M_7.2.1 23 (M_7.2.1 28 v1.toNatClampNeg).toNatClampNeg) M_7) dX5_begin_59 mz_X5_setFloor lk_RX5_60 im_X5_setFloor se_X5_setFloor lo_56 rfl rfl rfl ⟨Nat.le_of_ble_eq_true rfl, Nat.le_of_ble_eq_true rfl⟩ (Nat.le_of_ble_eq_true rfl) (fun u_10 M_11 => ?_)
        refine mm_aload_n 0 dX5_begin_62 rfl ?_
        refine mm_iload_n 1 dX5_begin_63 rfl ?_
        refine mm_aload_n 0 dX5_begin_64 rfl ?_
        refine mm_getR 27 dX5_begin_65 fl_RX5_30 lo_56 rfl ?_
        refine mm_getR 31 dX5_begin_68 fl_RX5_64 lo_27 rfl ?_
        refine mm_iload_n 1 dX5_begin_71 rfl ?_
        refine mm_iaload dX5_begin_72 ?_
        refine mm_callVv (as := [.int v1, .int (M_11.2.1 31 v1.toNatClampNeg)]) (st := []) (c_Load_setShift E v1 (M_11.2.1 31 v1.toNatClampNeg) M_11) dX5_begin_73 mz_X5_setShift lk_RX5_67 im_X5_setShift se_X5_setShift lo_56 rfl rfl rfl ⟨Nat.le_of_ble_eq_true rfl, Nat.le_of_ble_eq_true rfl⟩ (Nat.le_of_ble_eq_true rfl) (fun u_12 M_13 => ?_)
        exact hj76 v1 M_13
def f_Load_begin (M : mm_M) : Option (Unit × mm_M) := mm_let (mm_setI M 56 7 0) fun M_1 => mm_bd (f_Arrays_fill_69 0 M_1) fun u_2 M_3 => mm_bd (f_Arrays_fill_70 0 M_3) fun u_4 M_5 => lp_Load_begin_23 (fun (M_14 : mm_M) => some ((), M_14)) mm_fu 0 M_5
set_option maxHeartbeats 4000000 in
theorem c_Load_begin (E : mm_E) (M : mm_M) : ∀ (r : Unit) (M2 : mm_M), f_Load_begin M = some (r, M2) → mm_P E Y_X5_begin 4 [.ref 56] M none M2 := by
  refine mm_entry (em := (fun _ : Unit => none)) (by decide +kernel) (Nat.le_of_ble_eq_true rfl) ?_
  show mm_G _ E _ _ 0 [(0, .ref 56)] [] M _
  unfold f_Load_begin
  refine mm_aload_n 0 dX5_begin_0 rfl ?_
  refine mm_iconst (v := 0) dX5_begin_1 rfl ?_
  refine mm_putI dX5_begin_2 fp_RX5_38 lo_56 rfl ?_
  refine mm_nm_M (fun M_1 => ?_)
  refine mm_aload_n 0 dX5_begin_5 rfl ?_
  refine mm_getR 69 dX5_begin_6 fl_RX5_20 lo_56 rfl ?_
  refine mm_iconst (v := 0) dX5_begin_9 rfl ?_
  refine mm_callSv (as := [.ref 69, .int 0]) (st := []) (c_Arrays_fill_69 E 0 M_1) dX5_begin_10 mz_J7_fill_53178 lk_RX5_42 sm_J7_fill_53178 rfl ⟨Nat.le_of_ble_eq_true rfl, Nat.le_of_ble_eq_true rfl⟩ (Nat.le_of_ble_eq_true rfl) (fun u_2 M_3 => ?_)
  refine mm_aload_n 0 dX5_begin_13 rfl ?_
  refine mm_getR 70 dX5_begin_14 fl_RX5_23 lo_56 rfl ?_
  refine mm_iconst (v := 0) dX5_begin_17 rfl ?_
  refine mm_callSv (as := [.ref 70, .int 0]) (st := []) (c_Arrays_fill_70 E 0 M_3) dX5_begin_18 mz_J7_fill_53178 lk_RX5_42 sm_J7_fill_53178 rfl ⟨Nat.le_of_ble_eq_true rfl, Nat.le_of_ble_eq_true rfl⟩ (Nat.le_of_ble_eq_true rfl) (fun u_4 M_5 => ?_)
  refine mm_iconst (v := 0) dX5_begin_21 rfl ?_
  refine mm_istore_n [1, 0] (lv2 := [(0, .ref 56), (1, .int 0)]) dX5_begin_22 (by decide) rfl ?_
  refine lp_Load_begin_23_ok E ?_ mm_fu 0 M_5
  · intro M_14
    exact mm_vret dX5_begin_82 rfl
def lp_Load_change_21 (v2 : Int32) (v3 : Nat) (v4 : Int32) (k50 : mm_M → Option (Unit × mm_M)) : Nat → Int32 → mm_M → Option (Unit × mm_M)
  | 0, _, _ => none
  | n + 1, v5, M => if 72 ≤ v5 then k50 M else if mm_in v5 (mm_al 69) = true then if mm_in v5 (mm_al v3) = true then if mm_in v5 (mm_al 69) = true then mm_let (mm_setA M 69 (v5.toNatClampNeg) ((M.2.1 69 v5.toNatClampNeg) + (v2 * (M.2.1 v3 v5.toNatClampNeg)))) fun M_2 => mm_let (v5 + 1) fun v5_3 => lp_Load_change_21 v2 v3 v4 k50 n v5_3 M_2 else none else none else none
set_option maxHeartbeats 4000000 in
theorem lp_Load_change_21_ok (E : mm_E) (v2 : Int32) (v3 : Nat) (v4 : Int32) {k50 : mm_M → Option (Unit × mm_M)} (hk50 : ∀ (M : mm_M), mm_G (fun _ : Unit => none) E Y_X5_change 1 50 [(0, .ref 56), (2, .int v2), (3, .ref v3), (4, .int v4)] [] M (k50 M)) : ∀ (n : Nat) (v5 : Int32) (M : mm_M), mm_G (fun _ : Unit => none) E Y_X5_change 1 21 [(0, .ref 56), (2, .int v2), (3, .ref v3), (4, .int v4), (5, .int v5)] [] M (lp_Load_change_21 v2 v3 v4 k50 n v5 M) := by
  intro n
  induction n with
  | zero => intro v5 M r M2 he; cases he
  | succ n ih =>
    intro v5 M
    rw [lp_Load_change_21]
    refine mm_iload 4 dX5_change_21 rfl ?_
    refine mm_bipush (v := 72) dX5_change_23 rfl ?_
    refine mm_icmp_ge 50 dX5_change_25 rfl ?_ ?_
    · refine mm_wk [0, 1, 2, 3] rfl ?_
      exact hk50  M
    · refine mm_aload_n 0 dX5_change_28 rfl ?_
      refine mm_getR 69 dX5_change_29 fl_RX5_20 lo_56 rfl ?_
      refine mm_iload 4 dX5_change_32 rfl ?_
      refine mm_dup2 dX5_change_34 rfl rfl ?_
      refine mm_iaload dX5_change_35 ?_
      refine mm_iload_n 1 dX5_change_36 rfl ?_
      refine mm_aload_n 2 dX5_change_37 rfl ?_
      refine mm_iload 4 dX5_change_38 rfl ?_
      refine mm_iaload dX5_change_40 ?_
      refine mm_imul dX5_change_41 ?_
      refine mm_iadd dX5_change_42 ?_
      refine mm_iastore dX5_change_43 ?_
      refine mm_nm_M (fun M_2 => ?_)
      refine mm_iincN 4 [1, 2, 3, 4, 0] (v := v5 + 1) (lv2 := fun v5_3 => [(0, .ref 56), (2, .int v2), (3, .ref v3), (4, .int v4), (5, .int v5_3)]) dX5_change_44 rfl rfl (by decide) (fun _ => rfl) (fun v5_3 => ?_)
      refine mm_goto 21 dX5_change_47 rfl ?_
      exact ih v5_3 M_2
def lp_Load_change_53 (v2 : Int32) (v3 : Nat) (v4 : Int32) (k85 : mm_M → Option (Unit × mm_M)) : Nat → Int32 → mm_M → Option (Unit × mm_M)
  | 0, _, _ => none
  | n + 1, v5, M => if 24 ≤ v5 then k85 M else mm_let (v4 + v5) fun t_5 => if mm_in t_5 (mm_al 70) = true then if mm_in v5 (mm_al v3) = true then if mm_in t_5 (mm_al 70) = true then mm_let (mm_setA M 70 (t_5.toNatClampNeg) ((M.2.1 70 t_5.toNatClampNeg) + (v2 * (M.2.1 v3 v5.toNatClampNeg)))) fun M_6 => mm_let (v5 + 1) fun v5_7 => lp_Load_change_53 v2 v3 v4 k85 n v5_7 M_6 else none else none else none
set_option maxHeartbeats 4000000 in
theorem lp_Load_change_53_ok (E : mm_E) (v2 : Int32) (v3 : Nat) (v4 : Int32) {k85 : mm_M → Option (Unit × mm_M)} (hk85 : ∀ (M : mm_M), mm_G (fun _ : Unit => none) E Y_X5_change 1 85 [] [] M (k85 M)) : ∀ (n : Nat) (v5 : Int32) (M : mm_M), mm_G (fun _ : Unit => none) E Y_X5_change 1 53 [(0, .ref 56), (2, .int v2), (3, .ref v3), (4, .int v4), (5, .int v5)] [] M (lp_Load_change_53 v2 v3 v4 k85 n v5 M) := by
  intro n
  induction n with
  | zero => intro v5 M r M2 he; cases he
  | succ n ih =>
    intro v5 M
    rw [lp_Load_change_53]
    refine mm_iload 4 dX5_change_53 rfl ?_
    refine mm_bipush (v := 24) dX5_change_55 rfl ?_
    refine mm_icmp_ge 85 dX5_change_57 rfl ?_ ?_
    · refine mm_wk [] rfl ?_
      exact hk85  M
    · refine mm_aload_n 0 dX5_change_60 rfl ?_
      refine mm_getR 70 dX5_change_61 fl_RX5_23 lo_56 rfl ?_
      refine mm_iload 3 dX5_change_64 rfl ?_
      refine mm_iload 4 dX5_change_66 rfl ?_
      refine mm_iadd dX5_change_68 ?_
      refine mm_nm_int (fun t_5 => ?_)
      refine mm_dup2 dX5_change_69 rfl rfl ?_
      refine mm_iaload dX5_change_70 ?_
      refine mm_iload_n 1 dX5_change_71 rfl ?_
      refine mm_aload_n 2 dX5_change_72 rfl ?_
      refine mm_iload 4 dX5_change_73 rfl ?_
      refine mm_iaload dX5_change_75 ?_
      refine mm_imul dX5_change_76 ?_
      refine mm_iadd dX5_change_77 ?_
      refine mm_iastore dX5_change_78 ?_
      refine mm_nm_M (fun M_6 => ?_)
      refine mm_iincN 4 [1, 2, 3, 4, 0] (v := v5 + 1) (lv2 := fun v5_7 => [(0, .ref 56), (2, .int v2), (3, .ref v3), (4, .int v4), (5, .int v5_7)]) dX5_change_79 rfl rfl (by decide) (fun _ => rfl) (fun v5_7 => ?_)
      refine mm_goto 53 dX5_change_82 rfl ?_
      exact ih v5_7 M_6
def f_Load_change (v1 : Int32) (v2 : Int32) (M : mm_M) : Option (Unit × mm_M) := if mm_in v1 10 = true then if mm_in v1 (mm_al 68) = true then mm_let ((M.2.1 68 v1.toNatClampNeg) * 24) fun v4_1 => lp_Load_change_21 v2 (58 + v1.toNatClampNeg) v4_1 (fun (M_4 : mm_M) => lp_Load_change_53 v2 ((58 + v1.toNatClampNeg)) v4_1 (fun (M_8 : mm_M) => some ((), M_8)) mm_fu 0 M_4) mm_fu 0 M else none else none
set_option maxHeartbeats 4000000 in
theorem c_Load_change (E : mm_E) (v1 : Int32) (v2 : Int32) (M : mm_M) : ∀ (r : Unit) (M2 : mm_M), f_Load_change v1 v2 M = some (r, M2) → mm_P E Y_X5_change 1 [.ref 56, .int v1, .int v2] M none M2 := by
  refine mm_entry (em := (fun _ : Unit => none)) (by decide +kernel) (Nat.le_of_ble_eq_true rfl) ?_
  show mm_G _ E _ _ 0 [(0, .ref 56), (1, .int v1), (2, .int v2)] [] M _
  unfold f_Load_change
  refine mm_aload_n 0 dX5_change_0 rfl ?_
  refine mm_getR 57 dX5_change_1 fl_RX5_11 lo_56 rfl ?_
  refine mm_iload_n 1 dX5_change_4 rfl ?_
  refine mm_aaload dX5_change_5 lo_57 ?_
  refine mm_astore_n [1, 2, 3, 0] (lv2 := [(0, .ref 56), (1, .int v1), (2, .int v2), (3, .ref (58 + v1.toNatClampNeg))]) dX5_change_6 (by decide) rfl ?_
  refine mm_aload_n 0 dX5_change_7 rfl ?_
  refine mm_getR 68 dX5_change_8 fl_RX5_16 lo_56 rfl ?_
  refine mm_iload_n 1 dX5_change_11 rfl ?_
  refine mm_iaload dX5_change_12 ?_
  refine mm_bipush (v := 24) dX5_change_13 rfl ?_
  refine mm_imul dX5_change_15 ?_
  refine mm_nm_int (fun v4_1 => ?_)
  refine mm_istore [1, 2, 3, 4, 0] (lv2 := [(0, .ref 56), (1, .int v1), (2, .int v2), (3, .ref (58 + v1.toNatClampNeg)), (4, .int v4_1)]) dX5_change_16 (by decide) rfl ?_
  refine mm_iconst (v := 0) dX5_change_18 rfl ?_
  refine mm_istore [1, 2, 3, 4, 5, 0] (lv2 := [(0, .ref 56), (1, .int v1), (2, .int v2), (3, .ref (58 + v1.toNatClampNeg)), (4, .int v4_1), (5, .int 0)]) dX5_change_19 (by decide) rfl ?_
  refine mm_wk [0, 2, 3, 4, 5] rfl ?_
  refine lp_Load_change_21_ok E v2 (58 + v1.toNatClampNeg) v4_1 ?_ mm_fu 0 M
  · intro M_4
    refine mm_iconst (v := 0) dX5_change_50 rfl ?_
    refine mm_istore [1, 2, 3, 4, 0] (lv2 := [(0, .ref 56), (2, .int v2), (3, .ref ((58 + v1.toNatClampNeg))), (4, .int v4_1), (5, .int 0)]) dX5_change_51 (by decide) rfl ?_
    refine lp_Load_change_53_ok E v2 ((58 + v1.toNatClampNeg)) v4_1 ?_ mm_fu 0 M_4
    · intro M_8
      exact mm_vret dX5_change_85 rfl
def lp_Load_turnTo_9 (v1 : Int32) (v2 : Int32) (k47 : mm_M → Option (Unit × mm_M)) : Nat → Int32 → mm_M → Option (Unit × mm_M)
  | 0, _, _ => none
  | n + 1, v3, M => if 10 ≤ v3 then k47 M else mm_bd (f_H_isIn v2 v3 M) fun b_2 M_3 => mm_jn (fun (v3 : Int32) (M_4 : mm_M) => mm_let (v3 + 1) fun v3_5 => lp_Load_turnTo_9 v1 v2 k47 n v3_5 M_4) fun j41 => if b_2 = true then mm_bd (f_H_isIn v1 v3 M_3) fun b_6 M_7 => mm_jn (fun (v3 : Int32) (s1 : Int32) (s2 : Int32) (M_8 : mm_M) => mm_bd (f_Load_change s1 s2 M_8) fun u_9 M_10 => j41 v3 M_10) fun j38 => if b_6 = true then j38 v3 v3 1 M_7 else j38 v3 v3 (-1) M_7 else j41 v3 M_3
set_option maxHeartbeats 4000000 in
theorem lp_Load_turnTo_9_ok (E : mm_E) (v1 : Int32) (v2 : Int32) {k47 : mm_M → Option (Unit × mm_M)} (hk47 : ∀ (M : mm_M), mm_G (fun _ : Unit => none) E Y_X5_turnTo 3 47 [(0, .ref 56), (1, .int v1)] [] M (k47 M)) : ∀ (n : Nat) (v3 : Int32) (M : mm_M), mm_G (fun _ : Unit => none) E Y_X5_turnTo 3 9 [(0, .ref 56), (1, .int v1), (2, .int v2), (3, .int v3)] [] M (lp_Load_turnTo_9 v1 v2 k47 n v3 M) := by
  intro n
  induction n with
  | zero => intro v3 M r M2 he; cases he
  | succ n ih =>
    intro v3 M
    rw [lp_Load_turnTo_9]
    refine mm_iload_n 3 dX5_turnTo_9 rfl ?_
    refine mm_bipush (v := 10) dX5_turnTo_10 rfl ?_
    refine mm_icmp_ge 47 dX5_turnTo_12 rfl ?_ ?_
    · refine mm_wk [0, 1] rfl ?_
      exact hk47  M
    · refine mm_iload_n 2 dX5_turnTo_15 rfl ?_
      refine mm_iload_n 3 dX5_turnTo_16 rfl ?_
      refine mm_callSNz (as := [.int v2, .int v3]) (st := []) (c_H_isIn E v2 v3 M) dX5_turnTo_17 mz_X11_isIn lk_RX5_85 sm_X11_isIn rfl ⟨Nat.le_of_ble_eq_true rfl, Nat.le_of_ble_eq_true rfl⟩ (Nat.le_of_ble_eq_true rfl) (fun b_2 M_3 => ?_)
      refine mm_jnP (P := fun j => ∀ (v3 : Int32) (M : mm_M), mm_G (fun _ : Unit => none) E Y_X5_turnTo 3 41 [(0, .ref 56), (1, .int v1), (2, .int v2), (3, .int v3)] [] M (j v3 M)) ?_ (fun j41 hj41 => ?_)
      · intro v3 M_4
        refine mm_iincN 3 [1, 2, 3, 0] (v := v3 + 1) (lv2 := fun v3_5 => [(0, .ref 56), (1, .int v1), (2, .int v2), (3, .int v3_5)]) dX5_turnTo_41 rfl rfl (by decide) (fun _ => rfl) (fun v3_5 => ?_)
        refine mm_goto 9 dX5_turnTo_44 rfl ?_
        exact ih v3_5 M_4
      refine mm_if_eq_b 41 dX5_turnTo_20 rfl ?_ ?_
      · exact hj41 v3 M_3
      · refine mm_aload_n 0 dX5_turnTo_23 rfl ?_
        refine mm_iload_n 3 dX5_turnTo_24 rfl ?_
        refine mm_iload_n 1 dX5_turnTo_25 rfl ?_
        refine mm_iload_n 3 dX5_turnTo_26 rfl ?_
        refine mm_callSNz (as := [.int v1, .int v3]) (st := [.int v3, .ref 56]) (c_H_isIn E v1 v3 M_3) dX5_turnTo_27 mz_X11_isIn lk_RX5_85 sm_X11_isIn rfl ⟨Nat.le_of_ble_eq_true rfl, Nat.le_of_ble_eq_true rfl⟩ (Nat.le_of_ble_eq_true rfl) (fun b_6 M_7 => ?_)
        refine mm_jnP (P := fun j => ∀ (v3 : Int32) (s1 : Int32) (s2 : Int32) (M : mm_M), mm_G (fun _ : Unit => none) E Y_X5_turnTo 3 38 [(0, .ref 56), (1, .int v1), (2, .int v2), (3, .int v3)] [.int s2, .int s1, .ref 56] M (j v3 s1 s2 M)) ?_ (fun j38 hj38 => ?_)
        · intro v3 s1 s2 M_8
          refine mm_callVv (as := [.int s1, .int s2]) (st := []) (c_Load_change E s1 s2 M_8) dX5_turnTo_38 mz_X5_change lk_RX5_89 im_X5_change se_X5_change lo_56 rfl rfl rfl ⟨Nat.le_of_ble_eq_true rfl, Nat.le_of_ble_eq_true rfl⟩ (Nat.le_of_ble_eq_true rfl) (fun u_9 M_10 => ?_)
          exact hj41 v3 M_10
        refine mm_if_eq_b 37 dX5_turnTo_30 rfl ?_ ?_
        · refine mm_iconst (v := (-1)) dX5_turnTo_37 rfl ?_
          exact hj38 v3 v3 (-1) M_7
        · refine mm_iconst (v := 1) dX5_turnTo_33 rfl ?_
          refine mm_goto 38 dX5_turnTo_34 rfl ?_
          exact hj38 v3 v3 1 M_7
def f_Load_turnTo (v1 : Int32) (M : mm_M) : Option (Unit × mm_M) := mm_let ((M.1 56 7) ^^^ v1) fun v2_1 => lp_Load_turnTo_9 v1 v2_1 (fun (M_11 : mm_M) => mm_let (mm_setI M_11 56 7 v1) fun M_12 => some ((), M_12)) mm_fu 0 M
set_option maxHeartbeats 4000000 in
theorem c_Load_turnTo (E : mm_E) (v1 : Int32) (M : mm_M) : ∀ (r : Unit) (M2 : mm_M), f_Load_turnTo v1 M = some (r, M2) → mm_P E Y_X5_turnTo 3 [.ref 56, .int v1] M none M2 := by
  refine mm_entry (em := (fun _ : Unit => none)) (by decide +kernel) (Nat.le_of_ble_eq_true rfl) ?_
  show mm_G _ E _ _ 0 [(0, .ref 56), (1, .int v1)] [] M _
  unfold f_Load_turnTo
  refine mm_aload_n 0 dX5_turnTo_0 rfl ?_
  refine mm_getI dX5_turnTo_1 fl_RX5_38 lo_56 rfl ?_
  refine mm_iload_n 1 dX5_turnTo_4 rfl ?_
  refine mm_ixor dX5_turnTo_5 ?_
  refine mm_nm_int (fun v2_1 => ?_)
  refine mm_istore_n [1, 2, 0] (lv2 := [(0, .ref 56), (1, .int v1), (2, .int v2_1)]) dX5_turnTo_6 (by decide) rfl ?_
  refine mm_iconst (v := 0) dX5_turnTo_7 rfl ?_
  refine mm_istore_n [1, 2, 3, 0] (lv2 := [(0, .ref 56), (1, .int v1), (2, .int v2_1), (3, .int 0)]) dX5_turnTo_8 (by decide) rfl ?_
  refine lp_Load_turnTo_9_ok E v1 v2_1 ?_ mm_fu 0 M
  · intro M_11
    refine mm_aload_n 0 dX5_turnTo_47 rfl ?_
    refine mm_iload_n 1 dX5_turnTo_48 rfl ?_
    refine mm_putI dX5_turnTo_49 fp_RX5_38 lo_56 rfl ?_
    refine mm_nm_M (fun M_12 => ?_)
    exact mm_vret dX5_turnTo_52 rfl
def f_H_wants (v1 : Int32) (v2 : Int32) (M : mm_M) : Option (Int32 × mm_M) := mm_bd (f_H_isBelow v1 3 M) fun b_1 M_2 => if b_1 = true then mm_bd (f_H_isBelow v2 24 M_2) fun b_3 M_4 => if b_3 = true then mm_bd (f_Load_begin M_4) fun u_5 M_6 => mm_bd (f_Load_turnTo (M_6.1 27 0) M_6) fun u_7 M_8 => if mm_in ((v1 * 24) + v2) (mm_al 69) = true then some (M_8.2.1 69 ((v1 * 24) + v2).toNatClampNeg, M_8) else none else some ((-1), M_4) else some ((-1), M_2)
set_option maxHeartbeats 4000000 in
theorem c_H_wants (E : mm_E) (v1 : Int32) (v2 : Int32) (M : mm_M) : ∀ (r : Int32) (M2 : mm_M), f_H_wants v1 v2 M = some (r, M2) → mm_P E Y_X11_wants 5 [.ref 0, .int v1, .int v2] M (some (.int r)) M2 := by
  refine mm_entry (em := (fun x : Int32 => some (.int x))) (by decide +kernel) (Nat.le_of_ble_eq_true rfl) ?_
  show mm_G _ E _ _ 0 [(0, .ref 0), (1, .int v1), (2, .int v2)] [] M _
  unfold f_H_wants
  refine mm_iload_n 1 dX11_wants_0 rfl ?_
  refine mm_iconst (v := 3) dX11_wants_1 rfl ?_
  refine mm_callSz (as := [.int v1, .int 3]) (st := []) (c_H_isBelow E v1 3 M) dX11_wants_2 mz_X11_isBelow lk_RX11_108 sm_X11_isBelow rfl ⟨Nat.le_of_ble_eq_true rfl, Nat.le_of_ble_eq_true rfl⟩ (Nat.le_of_ble_eq_true rfl) (fun b_1 M_2 => ?_)
  refine mm_if_eq_b 17 dX11_wants_5 rfl ?_ ?_
  · refine mm_iconst (v := (-1)) dX11_wants_17 rfl ?_
    exact mm_iret dX11_wants_18 rfl
  · refine mm_iload_n 2 dX11_wants_8 rfl ?_
    refine mm_bipush (v := 24) dX11_wants_9 rfl ?_
    refine mm_callSz (as := [.int v2, .int 24]) (st := []) (c_H_isBelow E v2 24 M_2) dX11_wants_11 mz_X11_isBelow lk_RX11_108 sm_X11_isBelow rfl ⟨Nat.le_of_ble_eq_true rfl, Nat.le_of_ble_eq_true rfl⟩ (Nat.le_of_ble_eq_true rfl) (fun b_3 M_4 => ?_)
    refine mm_if_ne_b 19 dX11_wants_14 rfl ?_ ?_
    · refine mm_aload_n 0 dX11_wants_19 rfl ?_
      refine mm_getR 56 dX11_wants_20 fl_RX11_71 lo_0 rfl ?_
      refine mm_callVv (as := []) (st := []) (c_Load_begin E M_4) dX11_wants_23 mz_X5_begin lk_RX11_177 im_X5_begin se_X5_begin lo_56 rfl rfl rfl ⟨Nat.le_of_ble_eq_true rfl, Nat.le_of_ble_eq_true rfl⟩ (Nat.le_of_ble_eq_true rfl) (fun u_5 M_6 => ?_)
      refine mm_aload_n 0 dX11_wants_26 rfl ?_
      refine mm_getR 56 dX11_wants_27 fl_RX11_71 lo_0 rfl ?_
      refine mm_aload_n 0 dX11_wants_30 rfl ?_
      refine mm_getR 27 dX11_wants_31 fl_RX11_40 lo_0 rfl ?_
      refine mm_getI dX11_wants_34 fl_RX11_164 lo_27 rfl ?_
      refine mm_callVv (as := [.int (M_6.1 27 0)]) (st := []) (c_Load_turnTo E (M_6.1 27 0) M_6) dX11_wants_37 mz_X5_turnTo lk_RX11_180 im_X5_turnTo se_X5_turnTo lo_56 rfl rfl rfl ⟨Nat.le_of_ble_eq_true rfl, Nat.le_of_ble_eq_true rfl⟩ (Nat.le_of_ble_eq_true rfl) (fun u_7 M_8 => ?_)
      refine mm_aload_n 0 dX11_wants_40 rfl ?_
      refine mm_getR 56 dX11_wants_41 fl_RX11_71 lo_0 rfl ?_
      refine mm_getR 69 dX11_wants_44 fl_RX11_183 lo_56 rfl ?_
      refine mm_iload_n 1 dX11_wants_47 rfl ?_
      refine mm_bipush (v := 24) dX11_wants_48 rfl ?_
      refine mm_imul dX11_wants_50 ?_
      refine mm_iload_n 2 dX11_wants_51 rfl ?_
      refine mm_iadd dX11_wants_52 ?_
      refine mm_iaload dX11_wants_53 ?_
      exact mm_iret dX11_wants_54 rfl
    · refine mm_iconst (v := (-1)) dX11_wants_17 rfl ?_
      exact mm_iret dX11_wants_18 rfl
def lp_Arrays_fill_85_5 (v1 : Int32) (v3 : Int32) (k20 : mm_M → Option (Unit × mm_M)) : Nat → Int32 → mm_M → Option (Unit × mm_M)
  | 0, _, _ => none
  | n + 1, v2, M => if v3 ≤ v2 then k20 M else if mm_in v2 (mm_al 85) = true then mm_let (mm_setA M 85 (v2.toNatClampNeg) v1) fun M_1 => mm_let (v2 + 1) fun v2_2 => lp_Arrays_fill_85_5 v1 v3 k20 n v2_2 M_1 else none
set_option maxHeartbeats 4000000 in
theorem lp_Arrays_fill_85_5_ok (E : mm_E) (v1 : Int32) (v3 : Int32) {k20 : mm_M → Option (Unit × mm_M)} (hk20 : ∀ (M : mm_M), mm_G (fun _ : Unit => none) E Y_J7_fill_53178 1 20 [] [] M (k20 M)) : ∀ (n : Nat) (v2 : Int32) (M : mm_M), mm_G (fun _ : Unit => none) E Y_J7_fill_53178 1 5 [(0, .ref 85), (1, .int v1), (2, .int v2), (3, .int v3)] [] M (lp_Arrays_fill_85_5 v1 v3 k20 n v2 M) := by
  intro n
  induction n with
  | zero => intro v2 M r M2 he; cases he
  | succ n ih =>
    intro v2 M
    rw [lp_Arrays_fill_85_5]
    refine mm_iload_n 2 dJ7_fill_53178_5 rfl ?_
    refine mm_iload_n 3 dJ7_fill_53178_6 rfl ?_
    refine mm_icmp_ge 20 dJ7_fill_53178_7 rfl ?_ ?_
    · refine mm_wk [] rfl ?_
      exact hk20  M
    · refine mm_aload_n 0 dJ7_fill_53178_10 rfl ?_
      refine mm_iload_n 2 dJ7_fill_53178_11 rfl ?_
      refine mm_iload_n 1 dJ7_fill_53178_12 rfl ?_
      refine mm_iastore dJ7_fill_53178_13 ?_
      refine mm_nm_M (fun M_1 => ?_)
      refine mm_iincN 2 [1, 2, 0, 3] (v := v2 + 1) (lv2 := fun v2_2 => [(0, .ref 85), (1, .int v1), (2, .int v2_2), (3, .int v3)]) dJ7_fill_53178_14 rfl rfl (by decide) (fun _ => rfl) (fun v2_2 => ?_)
      refine mm_goto 5 dJ7_fill_53178_17 rfl ?_
      exact ih v2_2 M_1
def f_Arrays_fill_85 (v1 : Int32) (M : mm_M) : Option (Unit × mm_M) := lp_Arrays_fill_85_5 v1 10 (fun (M_3 : mm_M) => some ((), M_3)) mm_fu 0 M
set_option maxHeartbeats 4000000 in
theorem c_Arrays_fill_85 (E : mm_E) (v1 : Int32) (M : mm_M) : ∀ (r : Unit) (M2 : mm_M), f_Arrays_fill_85 v1 M = some (r, M2) → mm_P E Y_J7_fill_53178 1 [.ref 85, .int v1] M none M2 := by
  refine mm_entry (em := (fun _ : Unit => none)) (by decide +kernel) (Nat.le_of_ble_eq_true rfl) ?_
  show mm_G _ E _ _ 0 [(0, .ref 85), (1, .int v1)] [] M _
  unfold f_Arrays_fill_85
  refine mm_iconst (v := 0) dJ7_fill_53178_0 rfl ?_
  refine mm_istore_n [1, 2, 0] (lv2 := [(0, .ref 85), (1, .int v1), (2, .int 0)]) dJ7_fill_53178_1 (by decide) rfl ?_
  refine mm_aload_n 0 dJ7_fill_53178_2 rfl ?_
  refine mm_alen (v := 10) dJ7_fill_53178_3 lo_85 rfl ?_
  refine mm_istore_n [1, 2, 3, 0] (lv2 := [(0, .ref 85), (1, .int v1), (2, .int 0), (3, .int 10)]) dJ7_fill_53178_4 (by decide) rfl ?_
  refine lp_Arrays_fill_85_5_ok E v1 10 ?_ mm_fu 0 M
  · intro M_3
    exact mm_vret dJ7_fill_53178_20 rfl
def f_House_afterInflow (v1 : Int32) (M : mm_M) : Option (Int32 × mm_M) := mm_bd (f_Math_min 9999 (v1 + (M.1 22 6)) M) fun r_1 M_2 => some (r_1, M_2)
set_option maxHeartbeats 4000000 in
theorem c_House_afterInflow (E : mm_E) (v1 : Int32) (M : mm_M) : ∀ (r : Int32) (M2 : mm_M), f_House_afterInflow v1 M = some (r, M2) → mm_P E Y_X2_afterInflow 2 [.ref 22, .int v1] M (some (.int r)) M2 := by
  refine mm_entry (em := (fun x : Int32 => some (.int x))) (by decide +kernel) (Nat.le_of_ble_eq_true rfl) ?_
  show mm_G _ E _ _ 0 [(0, .ref 22), (1, .int v1)] [] M _
  unfold f_House_afterInflow
  refine mm_sipush (v := 9999) dX2_afterInflow_0 rfl ?_
  refine mm_iload_n 1 dX2_afterInflow_3 rfl ?_
  refine mm_aload_n 0 dX2_afterInflow_4 rfl ?_
  refine mm_getI dX2_afterInflow_5 fl_RX2_34 lo_22 rfl ?_
  refine mm_iadd dX2_afterInflow_8 ?_
  refine mm_callSi (as := [.int 9999, .int (v1 + (M.1 22 6))]) (st := []) (c_Math_min E 9999 (v1 + (M.1 22 6)) M) dX2_afterInflow_9 mz_J9_min_7cf53 lk_RX2_37 sm_J9_min_7cf53 rfl ⟨Nat.le_of_ble_eq_true rfl, Nat.le_of_ble_eq_true rfl⟩ (Nat.le_of_ble_eq_true rfl) (fun r_1 M_2 => ?_)
  exact mm_iret dX2_afterInflow_12 rfl
def f_Law_askAbout_37_27_22 (v1 : Int32) (M : mm_M) : Option (Unit × mm_M) := if mm_in 0 (mm_al 44) = true then mm_let (mm_setA M 44 ((0 : Int32).toNatClampNeg) v1) fun M_1 => if mm_in v1 (mm_al 28) = true then if mm_in 1 (mm_al 44) = true then mm_let (mm_setA M_1 44 ((1 : Int32).toNatClampNeg) (M_1.2.1 28 v1.toNatClampNeg)) fun M_2 => if mm_in v1 (mm_al 28) = true then if mm_in (M_2.2.1 28 v1.toNatClampNeg) (mm_al 23) = true then if mm_in 2 (mm_al 44) = true then mm_let (mm_setA M_2 44 ((2 : Int32).toNatClampNeg) (M_2.2.1 23 (M_2.2.1 28 v1.toNatClampNeg).toNatClampNeg)) fun M_3 => if mm_in v1 (mm_al 29) = true then if mm_in 3 (mm_al 44) = true then mm_let (mm_setA M_3 44 ((3 : Int32).toNatClampNeg) (M_3.2.1 29 v1.toNatClampNeg)) fun M_4 => if mm_in v1 (mm_al 30) = true then if mm_in 4 (mm_al 44) = true then mm_let (mm_setA M_4 44 ((4 : Int32).toNatClampNeg) (M_4.2.1 30 v1.toNatClampNeg)) fun M_5 => some ((), M_5) else none else none else none else none else none else none else none else none else none else none
set_option maxHeartbeats 4000000 in
theorem c_Law_askAbout_37_27_22 (E : mm_E) (v1 : Int32) (M : mm_M) : ∀ (r : Unit) (M2 : mm_M), f_Law_askAbout_37_27_22 v1 M = some (r, M2) → mm_P E Y_X3_askAbout 1 [.ref 37, .int v1, .ref 27, .ref 22] M none M2 := by
  refine mm_entry (em := (fun _ : Unit => none)) (by decide +kernel) (Nat.le_of_ble_eq_true rfl) ?_
  show mm_G _ E _ _ 0 [(0, .ref 37), (1, .int v1), (2, .ref 27), (3, .ref 22)] [] M _
  unfold f_Law_askAbout_37_27_22
  refine mm_aload_n 0 dX3_askAbout_0 rfl ?_
  refine mm_getR 44 dX3_askAbout_1 fl_RX3_30 lo_37 rfl ?_
  refine mm_iconst (v := 0) dX3_askAbout_4 rfl ?_
  refine mm_iload_n 1 dX3_askAbout_5 rfl ?_
  refine mm_iastore dX3_askAbout_6 ?_
  refine mm_nm_M (fun M_1 => ?_)
  refine mm_aload_n 0 dX3_askAbout_7 rfl ?_
  refine mm_getR 44 dX3_askAbout_8 fl_RX3_30 lo_37 rfl ?_
  refine mm_iconst (v := 1) dX3_askAbout_11 rfl ?_
  refine mm_aload_n 2 dX3_askAbout_12 rfl ?_
  refine mm_getR 28 dX3_askAbout_13 fl_RX3_61 lo_27 rfl ?_
  refine mm_iload_n 1 dX3_askAbout_16 rfl ?_
  refine mm_iaload dX3_askAbout_17 ?_
  refine mm_iastore dX3_askAbout_18 ?_
  refine mm_nm_M (fun M_2 => ?_)
  refine mm_aload_n 0 dX3_askAbout_19 rfl ?_
  refine mm_getR 44 dX3_askAbout_20 fl_RX3_30 lo_37 rfl ?_
  refine mm_iconst (v := 2) dX3_askAbout_23 rfl ?_
  refine mm_aload_n 3 dX3_askAbout_24 rfl ?_
  refine mm_getR 23 dX3_askAbout_25 fl_RX3_66 lo_22 rfl ?_
  refine mm_aload_n 2 dX3_askAbout_28 rfl ?_
  refine mm_getR 28 dX3_askAbout_29 fl_RX3_61 lo_27 rfl ?_
  refine mm_iload_n 1 dX3_askAbout_32 rfl ?_
  refine mm_iaload dX3_askAbout_33 ?_
  refine mm_iaload dX3_askAbout_34 ?_
  refine mm_iastore dX3_askAbout_35 ?_
  refine mm_nm_M (fun M_3 => ?_)
  refine mm_aload_n 0 dX3_askAbout_36 rfl ?_
  refine mm_getR 44 dX3_askAbout_37 fl_RX3_30 lo_37 rfl ?_
  refine mm_iconst (v := 3) dX3_askAbout_40 rfl ?_
  refine mm_aload_n 2 dX3_askAbout_41 rfl ?_
  refine mm_getR 29 dX3_askAbout_42 fl_RX3_71 lo_27 rfl ?_
  refine mm_iload_n 1 dX3_askAbout_45 rfl ?_
  refine mm_iaload dX3_askAbout_46 ?_
  refine mm_iastore dX3_askAbout_47 ?_
  refine mm_nm_M (fun M_4 => ?_)
  refine mm_aload_n 0 dX3_askAbout_48 rfl ?_
  refine mm_getR 44 dX3_askAbout_49 fl_RX3_30 lo_37 rfl ?_
  refine mm_iconst (v := 4) dX3_askAbout_52 rfl ?_
  refine mm_aload_n 2 dX3_askAbout_53 rfl ?_
  refine mm_getR 30 dX3_askAbout_54 fl_RX3_74 lo_27 rfl ?_
  refine mm_iload_n 1 dX3_askAbout_57 rfl ?_
  refine mm_iaload dX3_askAbout_58 ?_
  refine mm_iastore dX3_askAbout_59 ?_
  refine mm_nm_M (fun M_5 => ?_)
  exact mm_vret dX3_askAbout_60 rfl
def f_Law_askAt_37 (v1 : Int32) (v2 : Int32) (v3 : Int32) (v4 : Int32) (M : mm_M) : Option (Unit × mm_M) := if mm_in 5 (mm_al 44) = true then mm_let (mm_setA M 44 ((5 : Int32).toNatClampNeg) v1) fun M_1 => if mm_in 6 (mm_al 44) = true then mm_let (mm_setA M_1 44 ((6 : Int32).toNatClampNeg) v2) fun M_2 => if mm_in 7 (mm_al 44) = true then mm_let (mm_setA M_2 44 ((7 : Int32).toNatClampNeg) v3) fun M_3 => if mm_in 8 (mm_al 44) = true then mm_let (mm_setA M_3 44 ((8 : Int32).toNatClampNeg) v4) fun M_4 => some ((), M_4) else none else none else none else none
set_option maxHeartbeats 4000000 in
theorem c_Law_askAt_37 (E : mm_E) (v1 : Int32) (v2 : Int32) (v3 : Int32) (v4 : Int32) (M : mm_M) : ∀ (r : Unit) (M2 : mm_M), f_Law_askAt_37 v1 v2 v3 v4 M = some (r, M2) → mm_P E Y_X3_askAt 1 [.ref 37, .int v1, .int v2, .int v3, .int v4] M none M2 := by
  refine mm_entry (em := (fun _ : Unit => none)) (by decide +kernel) (Nat.le_of_ble_eq_true rfl) ?_
  show mm_G _ E _ _ 0 [(0, .ref 37), (1, .int v1), (2, .int v2), (3, .int v3), (4, .int v4)] [] M _
  unfold f_Law_askAt_37
  refine mm_aload_n 0 dX3_askAt_0 rfl ?_
  refine mm_getR 44 dX3_askAt_1 fl_RX3_30 lo_37 rfl ?_
  refine mm_iconst (v := 5) dX3_askAt_4 rfl ?_
  refine mm_iload_n 1 dX3_askAt_5 rfl ?_
  refine mm_iastore dX3_askAt_6 ?_
  refine mm_nm_M (fun M_1 => ?_)
  refine mm_aload_n 0 dX3_askAt_7 rfl ?_
  refine mm_getR 44 dX3_askAt_8 fl_RX3_30 lo_37 rfl ?_
  refine mm_bipush (v := 6) dX3_askAt_11 rfl ?_
  refine mm_iload_n 2 dX3_askAt_13 rfl ?_
  refine mm_iastore dX3_askAt_14 ?_
  refine mm_nm_M (fun M_2 => ?_)
  refine mm_aload_n 0 dX3_askAt_15 rfl ?_
  refine mm_getR 44 dX3_askAt_16 fl_RX3_30 lo_37 rfl ?_
  refine mm_bipush (v := 7) dX3_askAt_19 rfl ?_
  refine mm_iload_n 3 dX3_askAt_21 rfl ?_
  refine mm_iastore dX3_askAt_22 ?_
  refine mm_nm_M (fun M_3 => ?_)
  refine mm_aload_n 0 dX3_askAt_23 rfl ?_
  refine mm_getR 44 dX3_askAt_24 fl_RX3_30 lo_37 rfl ?_
  refine mm_bipush (v := 8) dX3_askAt_27 rfl ?_
  refine mm_iload 4 dX3_askAt_29 rfl ?_
  refine mm_iastore dX3_askAt_31 ?_
  refine mm_nm_M (fun M_4 => ?_)
  exact mm_vret dX3_askAt_32 rfl
def f_Law_pop_37 (M : mm_M) : Option (Int32 × mm_M) := if 1 ≤ M.1 37 10 then mm_let (mm_setI M 37 10 ((M.1 37 10) - 1)) fun M_1 => if mm_in (M_1.1 37 10) (mm_al 45) = true then some (M_1.2.1 45 (M_1.1 37 10).toNatClampNeg, M_1) else none else some (0, M)
set_option maxHeartbeats 4000000 in
theorem c_Law_pop_37 (E : mm_E) (M : mm_M) : ∀ (r : Int32) (M2 : mm_M), f_Law_pop_37 M = some (r, M2) → mm_P E Y_X3_pop 1 [.ref 37] M (some (.int r)) M2 := by
  refine mm_entry (em := (fun x : Int32 => some (.int x))) (by decide +kernel) (Nat.le_of_ble_eq_true rfl) ?_
  show mm_G _ E _ _ 0 [(0, .ref 37)] [] M _
  unfold f_Law_pop_37
  refine mm_aload_n 0 dX3_pop_0 rfl ?_
  refine mm_getI dX3_pop_1 fl_RX3_89 lo_37 rfl ?_
  refine mm_iconst (v := 1) dX3_pop_4 rfl ?_
  refine mm_icmp_ge 10 dX3_pop_5 rfl ?_ ?_
  · refine mm_aload_n 0 dX3_pop_10 rfl ?_
    refine mm_dup dX3_pop_11 rfl ?_
    refine mm_getI dX3_pop_12 fl_RX3_89 lo_37 rfl ?_
    refine mm_iconst (v := 1) dX3_pop_15 rfl ?_
    refine mm_isub dX3_pop_16 ?_
    refine mm_putI dX3_pop_17 fp_RX3_89 lo_37 rfl ?_
    refine mm_nm_M (fun M_1 => ?_)
    refine mm_aload_n 0 dX3_pop_20 rfl ?_
    refine mm_getR 45 dX3_pop_21 fl_RX3_33 lo_37 rfl ?_
    refine mm_aload_n 0 dX3_pop_24 rfl ?_
    refine mm_getI dX3_pop_25 fl_RX3_89 lo_37 rfl ?_
    refine mm_iaload dX3_pop_28 ?_
    exact mm_iret dX3_pop_29 rfl
  · refine mm_iconst (v := 0) dX3_pop_8 rfl ?_
    exact mm_iret dX3_pop_9 rfl
def f_Law_push_37 (v1 : Int32) (M : mm_M) : Option (Unit × mm_M) := if 160 ≤ M.1 37 10 then some ((), M) else if mm_in (M.1 37 10) (mm_al 45) = true then mm_let (mm_setA M 45 ((M.1 37 10).toNatClampNeg) v1) fun M_1 => mm_let (mm_setI M_1 37 10 ((M_1.1 37 10) + 1)) fun M_2 => some ((), M_2) else none
set_option maxHeartbeats 4000000 in
theorem c_Law_push_37 (E : mm_E) (v1 : Int32) (M : mm_M) : ∀ (r : Unit) (M2 : mm_M), f_Law_push_37 v1 M = some (r, M2) → mm_P E Y_X3_push 1 [.ref 37, .int v1] M none M2 := by
  refine mm_entry (em := (fun _ : Unit => none)) (by decide +kernel) (Nat.le_of_ble_eq_true rfl) ?_
  show mm_G _ E _ _ 0 [(0, .ref 37), (1, .int v1)] [] M _
  unfold f_Law_push_37
  refine mm_aload_n 0 dX3_push_0 rfl ?_
  refine mm_getI dX3_push_1 fl_RX3_89 lo_37 rfl ?_
  refine mm_aload_n 0 dX3_push_4 rfl ?_
  refine mm_getR 45 dX3_push_5 fl_RX3_33 lo_37 rfl ?_
  refine mm_alen (v := 160) dX3_push_8 lo_45 rfl ?_
  refine mm_icmp_ge 32 dX3_push_9 rfl ?_ ?_
  · exact mm_vret dX3_push_32 rfl
  · refine mm_aload_n 0 dX3_push_12 rfl ?_
    refine mm_getR 45 dX3_push_13 fl_RX3_33 lo_37 rfl ?_
    refine mm_aload_n 0 dX3_push_16 rfl ?_
    refine mm_getI dX3_push_17 fl_RX3_89 lo_37 rfl ?_
    refine mm_iload_n 1 dX3_push_20 rfl ?_
    refine mm_iastore dX3_push_21 ?_
    refine mm_nm_M (fun M_1 => ?_)
    refine mm_aload_n 0 dX3_push_22 rfl ?_
    refine mm_dup dX3_push_23 rfl ?_
    refine mm_getI dX3_push_24 fl_RX3_89 lo_37 rfl ?_
    refine mm_iconst (v := 1) dX3_push_27 rfl ?_
    refine mm_iadd dX3_push_28 ?_
    refine mm_putI dX3_push_29 fp_RX3_89 lo_37 rfl ?_
    refine mm_nm_M (fun M_2 => ?_)
    exact mm_vret dX3_push_32 rfl
def f_Law_join_37 (v1 : Int32) (v2 : Int32) (v3 : Int32) (M : mm_M) : Option (Int32 × mm_M) := if v1 = 42 then some (v2 * v3, M) else if v1 = 43 then some (v2 + v3, M) else if v1 = 45 then some (v2 - v3, M) else if v1 = 60 then if v3 ≤ v2 then some (0, M) else some (1, M) else if v1 = 61 then if v2 = v3 then some (1, M) else some (0, M) else if v1 = 62 then if v2 ≤ v3 then some (0, M) else some (1, M) else if v3 = 0 then mm_let (mm_setI M 37 11 (mm_b true)) fun M_1 => some (0, M_1) else if v1 = 47 then if v3 = 0 then none else some (v2 / v3, M) else if v3 = 0 then none else some (mm_rem v2 v3, M)
set_option maxHeartbeats 4000000 in
theorem c_Law_join_37 (E : mm_E) (v1 : Int32) (v2 : Int32) (v3 : Int32) (M : mm_M) : ∀ (r : Int32) (M2 : mm_M), f_Law_join_37 v1 v2 v3 M = some (r, M2) → mm_P E Y_X3_join 1 [.ref 37, .int v1, .int v2, .int v3] M (some (.int r)) M2 := by
  refine mm_entry (em := (fun x : Int32 => some (.int x))) (by decide +kernel) (Nat.le_of_ble_eq_true rfl) ?_
  show mm_G _ E _ _ 0 [(0, .ref 37), (1, .int v1), (2, .int v2), (3, .int v3)] [] M _
  unfold f_Law_join_37
  refine mm_iload_n 1 dX3_join_0 rfl ?_
  refine mm_lkC 42 68 dX3_join_1 (by decide) rfl rfl ?_ (fun h42 => ?_)
  · refine mm_iload_n 2 dX3_join_68 rfl ?_
    refine mm_iload_n 3 dX3_join_69 rfl ?_
    refine mm_imul dX3_join_70 ?_
    exact mm_iret dX3_join_71 rfl
  refine mm_lkC 43 60 dX3_join_1 (by decide) rfl rfl ?_ (fun h43 => ?_)
  · refine mm_iload_n 2 dX3_join_60 rfl ?_
    refine mm_iload_n 3 dX3_join_61 rfl ?_
    refine mm_iadd dX3_join_62 ?_
    exact mm_iret dX3_join_63 rfl
  refine mm_lkC 45 64 dX3_join_1 (by decide) rfl rfl ?_ (fun h45 => ?_)
  · refine mm_iload_n 2 dX3_join_64 rfl ?_
    refine mm_iload_n 3 dX3_join_65 rfl ?_
    refine mm_isub dX3_join_66 ?_
    exact mm_iret dX3_join_67 rfl
  refine mm_lkC 60 72 dX3_join_1 (by decide) rfl rfl ?_ (fun h60 => ?_)
  · refine mm_iload_n 2 dX3_join_72 rfl ?_
    refine mm_iload_n 3 dX3_join_73 rfl ?_
    refine mm_icmp_ge 81 dX3_join_74 rfl ?_ ?_
    · refine mm_iconst (v := 0) dX3_join_81 rfl ?_
      exact mm_iret dX3_join_82 rfl
    · refine mm_iconst (v := 1) dX3_join_77 rfl ?_
      refine mm_goto 82 dX3_join_78 rfl ?_
      exact mm_iret dX3_join_82 rfl
  refine mm_lkC 61 94 dX3_join_1 (by decide) rfl rfl ?_ (fun h61 => ?_)
  · refine mm_iload_n 2 dX3_join_94 rfl ?_
    refine mm_iload_n 3 dX3_join_95 rfl ?_
    refine mm_icmp_ne 103 dX3_join_96 rfl ?_ ?_
    · refine mm_iconst (v := 0) dX3_join_103 rfl ?_
      exact mm_iret dX3_join_104 rfl
    · refine mm_iconst (v := 1) dX3_join_99 rfl ?_
      refine mm_goto 104 dX3_join_100 rfl ?_
      exact mm_iret dX3_join_104 rfl
  refine mm_lkC 62 83 dX3_join_1 (by decide) rfl rfl ?_ (fun h62 => ?_)
  · refine mm_iload_n 2 dX3_join_83 rfl ?_
    refine mm_iload_n 3 dX3_join_84 rfl ?_
    refine mm_icmp_le 92 dX3_join_85 rfl ?_ ?_
    · refine mm_iconst (v := 0) dX3_join_92 rfl ?_
      exact mm_iret dX3_join_93 rfl
    · refine mm_iconst (v := 1) dX3_join_88 rfl ?_
      refine mm_goto 93 dX3_join_89 rfl ?_
      exact mm_iret dX3_join_93 rfl
  refine mm_lkD (off := 104) 105 dX3_join_1 (by decide) ?_ rfl ?_
  · exact (lv_osw h42 rfl).trans ((lv_osw h43 rfl).trans ((lv_osw h45 rfl).trans ((lv_osw h60 rfl).trans ((lv_osw h61 rfl).trans ((lv_osw h62 rfl).trans (rfl))))))
  refine mm_iload_n 3 dX3_join_105 rfl ?_
  refine mm_if_ne 116 dX3_join_106 rfl ?_ ?_
  · refine mm_iload_n 1 dX3_join_116 rfl ?_
    refine mm_bipush (v := 47) dX3_join_117 rfl ?_
    refine mm_icmp_ne 128 dX3_join_119 rfl ?_ ?_
    · refine mm_iload_n 2 dX3_join_128 rfl ?_
      refine mm_iload_n 3 dX3_join_129 rfl ?_
      refine mm_irem dX3_join_130 ?_
      exact mm_iret dX3_join_131 rfl
    · refine mm_iload_n 2 dX3_join_122 rfl ?_
      refine mm_iload_n 3 dX3_join_123 rfl ?_
      refine mm_idiv dX3_join_124 ?_
      refine mm_goto 131 dX3_join_125 rfl ?_
      exact mm_iret dX3_join_131 rfl
  · refine mm_aload_n 0 dX3_join_109 rfl ?_
    refine mm_iconst (v := 1) dX3_join_110 rfl ?_
    refine mm_putZ (b := true) dX3_join_111 fp_RX3_92 lo_37 rfl ?_
    refine mm_nm_M (fun M_1 => ?_)
    refine mm_iconst (v := 0) dX3_join_114 rfl ?_
    exact mm_iret dX3_join_115 rfl
def lp_Law_reckon_37_12 (v2 : Int32) (k184 : mm_M → Option (Int32 × mm_M)) : Nat → Int32 → mm_M → Option (Int32 × mm_M)
  | 0, _, _ => none
  | n + 1, v3, M => if v2 ≤ v3 then k184 M else if M.1 37 11 = 0 then if mm_in v3 (mm_al 38) = true then mm_let (M.2.1 38 v3.toNatClampNeg) fun v4_3 => mm_jn (fun (v3 : Int32) (M_4 : mm_M) => mm_let (v3 + 1) fun v3_5 => lp_Law_reckon_37_12 v2 k184 n v3_5 M_4) fun j178 => if v4_3 = 78 then if mm_in v3 (mm_al 39) = true then mm_bd (f_Law_push_37 (M.2.1 39 v3.toNatClampNeg) M) fun u_29 M_30 => j178 v3 M_30 else none else if v4_3 = 76 then if mm_in v3 (mm_al 39) = true then if mm_in (M.2.1 39 v3.toNatClampNeg) (mm_al 44) = true then mm_bd (f_Law_push_37 (M.2.1 44 (M.2.1 39 v3.toNatClampNeg).toNatClampNeg) M) fun u_27 M_28 => j178 v3 M_28 else none else none else if v4_3 = 33 then mm_bd (f_Law_pop_37 M) fun r_23 M_24 => mm_bd (f_Law_push_37 (1 - r_23) M_24) fun u_25 M_26 => j178 v3 M_26 else mm_jn (fun (v3 : Int32) (v4 : Int32) (M_6 : mm_M) => mm_bd (f_Law_pop_37 M_6) fun r_7 M_8 => mm_jn (fun (v3 : Int32) (v5 : Int32) (s0 : Int32) (s1 : Bool) (M_9 : mm_M) => mm_jn (fun (v3 : Int32) (M_10 : mm_M) => j178 v3 M_10) fun j153 => if s0 = mm_b s1 then mm_bd (f_Law_push_37 v5 M_9) fun u_11 M_12 => if mm_in v3 (mm_al 39) = true then mm_bd (f_Math_max v3 ((M_12.2.1 39 v3.toNatClampNeg) - 1) M_12) fun r_13 M_14 => j153 r_13 M_14 else none else j153 v3 M_9) fun j131 => if v4 = 124 then j131 v3 r_7 r_7 true M_8 else j131 v3 r_7 r_7 false M_8) fun j111 => if v4_3 = 38 then j111 v3 v4_3 M else if v4_3 = 124 then j111 v3 v4_3 M else mm_bd (f_Law_pop_37 M) fun r_15 M_16 => mm_bd (f_Law_pop_37 M_16) fun r_17 M_18 => mm_bd (f_Law_join_37 v4_3 r_17 r_15 M_18) fun r_19 M_20 => mm_bd (f_Law_push_37 r_19 M_20) fun u_21 M_22 => j178 v3 M_22 else none else k184 M
set_option maxHeartbeats 4000000 in
theorem lp_Law_reckon_37_12_ok (E : mm_E) (v2 : Int32) {k184 : mm_M → Option (Int32 × mm_M)} (hk184 : ∀ (M : mm_M), mm_G (fun x : Int32 => some (.int x)) E Y_X3_reckon 2 184 [(0, .ref 37)] [] M (k184 M)) : ∀ (n : Nat) (v3 : Int32) (M : mm_M), mm_G (fun x : Int32 => some (.int x)) E Y_X3_reckon 2 12 [(0, .ref 37), (2, .int v2), (3, .int v3)] [] M (lp_Law_reckon_37_12 v2 k184 n v3 M) := by
  intro n
  induction n with
  | zero => intro v3 M r M2 he; cases he
  | succ n ih =>
    intro v3 M
    rw [lp_Law_reckon_37_12]
    refine mm_iload_n 2 dX3_reckon_12 rfl ?_
    refine mm_iload_n 1 dX3_reckon_13 rfl ?_
    refine mm_icmp_ge 184 dX3_reckon_14 rfl ?_ ?_
    · refine mm_wk [0] rfl ?_
      exact hk184  M
    · refine mm_aload_n 0 dX3_reckon_17 rfl ?_
      refine mm_getI dX3_reckon_18 fl_RX3_92 lo_37 rfl ?_
      refine mm_if_ne 184 dX3_reckon_21 rfl ?_ ?_
      · refine mm_wk [0] rfl ?_
        exact hk184  M
      · refine mm_aload_n 0 dX3_reckon_24 rfl ?_
        refine mm_getR 38 dX3_reckon_25 fl_RX3_9 lo_37 rfl ?_
        refine mm_iload_n 2 dX3_reckon_28 rfl ?_
        refine mm_iaload dX3_reckon_29 ?_
        refine mm_nm_int (fun v4_3 => ?_)
        refine mm_istore [1, 2, 3, 0] (lv2 := [(0, .ref 37), (2, .int v2), (3, .int v3), (4, .int v4_3)]) dX3_reckon_30 (by decide) rfl ?_
        refine mm_iload 3 dX3_reckon_32 rfl ?_
        refine mm_bipush (v := 78) dX3_reckon_34 rfl ?_
        refine mm_jnP (P := fun j => ∀ (v3 : Int32) (M : mm_M), mm_G (fun x : Int32 => some (.int x)) E Y_X3_reckon 2 178 [(0, .ref 37), (2, .int v2), (3, .int v3)] [] M (j v3 M)) ?_ (fun j178 hj178 => ?_)
        · intro v3 M_4
          refine mm_iincN 2 [1, 2, 0] (v := v3 + 1) (lv2 := fun v3_5 => [(0, .ref 37), (2, .int v2), (3, .int v3_5)]) dX3_reckon_178 rfl rfl (by decide) (fun _ => rfl) (fun v3_5 => ?_)
          refine mm_goto 12 dX3_reckon_181 rfl ?_
          exact ih v3_5 M_4
        refine mm_icmp_ne 52 dX3_reckon_36 rfl ?_ ?_
        · refine mm_iload 3 dX3_reckon_52 rfl ?_
          refine mm_bipush (v := 76) dX3_reckon_54 rfl ?_
          refine mm_icmp_ne 77 dX3_reckon_56 rfl ?_ ?_
          · refine mm_iload 3 dX3_reckon_77 rfl ?_
            refine mm_bipush (v := 33) dX3_reckon_79 rfl ?_
            refine mm_icmp_ne 97 dX3_reckon_81 rfl ?_ ?_
            · refine mm_iload 3 dX3_reckon_97 rfl ?_
              refine mm_bipush (v := 38) dX3_reckon_99 rfl ?_
              refine mm_jnP (P := fun j => ∀ (v3 : Int32) (v4 : Int32) (M : mm_M), mm_G (fun x : Int32 => some (.int x)) E Y_X3_reckon 2 111 [(0, .ref 37), (2, .int v2), (3, .int v3), (4, .int v4)] [] M (j v3 v4 M)) ?_ (fun j111 hj111 => ?_)
              · intro v3 v4 M_6
                refine mm_aload_n 0 dX3_reckon_111 rfl ?_
                refine mm_callVi (as := []) (st := []) (c_Law_pop_37 E M_6) dX3_reckon_112 mz_X3_pop lk_RX3_99 im_X3_pop se_X3_pop lo_37 rfl rfl rfl ⟨Nat.le_of_ble_eq_true rfl, Nat.le_of_ble_eq_true rfl⟩ (Nat.le_of_ble_eq_true rfl) (fun r_7 M_8 => ?_)
                refine mm_istore [1, 2, 3, 4, 0] (lv2 := [(0, .ref 37), (2, .int v2), (3, .int v3), (4, .int v4), (5, .int r_7)]) dX3_reckon_115 (by decide) rfl ?_
                refine mm_iload 4 dX3_reckon_117 rfl ?_
                refine mm_iload 3 dX3_reckon_119 rfl ?_
                refine mm_bipush (v := 124) dX3_reckon_121 rfl ?_
                refine mm_jnP (P := fun j => ∀ (v3 : Int32) (v5 : Int32) (s0 : Int32) (s1 : Bool) (M : mm_M), mm_G (fun x : Int32 => some (.int x)) E Y_X3_reckon 2 131 [(0, .ref 37), (2, .int v2), (3, .int v3), (5, .int v5)] [.int (mm_b s1), .int s0] M (j v3 v5 s0 s1 M)) ?_ (fun j131 hj131 => ?_)
                · intro v3 v5 s0 s1 M_9
                  refine mm_jnP (P := fun j => ∀ (v3 : Int32) (M : mm_M), mm_G (fun x : Int32 => some (.int x)) E Y_X3_reckon 2 153 [(0, .ref 37), (2, .int v2), (3, .int v3)] [] M (j v3 M)) ?_ (fun j153 hj153 => ?_)
                  · intro v3 M_10
                    refine mm_goto 178 dX3_reckon_153 rfl ?_
                    exact hj178 v3 M_10
                  refine mm_icmp_ne 153 dX3_reckon_131 rfl ?_ ?_
                  · refine mm_wk [0, 1, 2] rfl ?_
                    exact hj153 v3 M_9
                  · refine mm_aload_n 0 dX3_reckon_134 rfl ?_
                    refine mm_iload 3 dX3_reckon_135 rfl ?_
                    refine mm_callVv (as := [.int v5]) (st := []) (c_Law_push_37 E v5 M_9) dX3_reckon_137 mz_X3_push lk_RX3_96 im_X3_push se_X3_push lo_37 rfl rfl rfl ⟨Nat.le_of_ble_eq_true rfl, Nat.le_of_ble_eq_true rfl⟩ (Nat.le_of_ble_eq_true rfl) (fun u_11 M_12 => ?_)
                    refine mm_iload_n 2 dX3_reckon_140 rfl ?_
                    refine mm_aload_n 0 dX3_reckon_141 rfl ?_
                    refine mm_getR 39 dX3_reckon_142 fl_RX3_15 lo_37 rfl ?_
                    refine mm_iload_n 2 dX3_reckon_145 rfl ?_
                    refine mm_iaload dX3_reckon_146 ?_
                    refine mm_iconst (v := 1) dX3_reckon_147 rfl ?_
                    refine mm_isub dX3_reckon_148 ?_
                    refine mm_callSi (as := [.int v3, .int ((M_12.2.1 39 v3.toNatClampNeg) - 1)]) (st := []) (c_Math_max E v3 ((M_12.2.1 39 v3.toNatClampNeg) - 1) M_12) dX3_reckon_149 mz_J9_max_7cf53 lk_RX3_86 sm_J9_max_7cf53 rfl ⟨Nat.le_of_ble_eq_true rfl, Nat.le_of_ble_eq_true rfl⟩ (Nat.le_of_ble_eq_true rfl) (fun r_13 M_14 => ?_)
                    refine mm_istore_n [1, 2, 0, 3] (lv2 := [(0, .ref 37), (2, .int v2), (3, .int r_13), (5, .int v5)]) dX3_reckon_152 (by decide) rfl ?_
                    refine mm_wk [0, 1, 2] rfl ?_
                    exact hj153 r_13 M_14
                refine mm_icmp_ne 130 dX3_reckon_123 rfl ?_ ?_
                · refine mm_iconst (v := 0) dX3_reckon_130 rfl ?_
                  refine mm_wk [0, 1, 2, 4] rfl ?_
                  exact hj131 v3 r_7 r_7 false M_8
                · refine mm_iconst (v := 1) dX3_reckon_126 rfl ?_
                  refine mm_goto 131 dX3_reckon_127 rfl ?_
                  refine mm_wk [0, 1, 2, 4] rfl ?_
                  exact hj131 v3 r_7 r_7 true M_8
              refine mm_icmp_eq 111 dX3_reckon_101 rfl ?_ ?_
              · exact hj111 v3 v4_3 M
              · refine mm_iload 3 dX3_reckon_104 rfl ?_
                refine mm_bipush (v := 124) dX3_reckon_106 rfl ?_
                refine mm_icmp_ne 156 dX3_reckon_108 rfl ?_ ?_
                · refine mm_aload_n 0 dX3_reckon_156 rfl ?_
                  refine mm_callVi (as := []) (st := []) (c_Law_pop_37 E M) dX3_reckon_157 mz_X3_pop lk_RX3_99 im_X3_pop se_X3_pop lo_37 rfl rfl rfl ⟨Nat.le_of_ble_eq_true rfl, Nat.le_of_ble_eq_true rfl⟩ (Nat.le_of_ble_eq_true rfl) (fun r_15 M_16 => ?_)
                  refine mm_istore [1, 2, 3, 4, 0] (lv2 := [(0, .ref 37), (2, .int v2), (3, .int v3), (4, .int v4_3), (5, .int r_15)]) dX3_reckon_160 (by decide) rfl ?_
                  refine mm_aload_n 0 dX3_reckon_162 rfl ?_
                  refine mm_aload_n 0 dX3_reckon_163 rfl ?_
                  refine mm_iload 3 dX3_reckon_164 rfl ?_
                  refine mm_aload_n 0 dX3_reckon_166 rfl ?_
                  refine mm_callVi (as := []) (st := [.int v4_3, .ref 37, .ref 37]) (c_Law_pop_37 E M_16) dX3_reckon_167 mz_X3_pop lk_RX3_99 im_X3_pop se_X3_pop lo_37 rfl rfl rfl ⟨Nat.le_of_ble_eq_true rfl, Nat.le_of_ble_eq_true rfl⟩ (Nat.le_of_ble_eq_true rfl) (fun r_17 M_18 => ?_)
                  refine mm_iload 4 dX3_reckon_170 rfl ?_
                  refine mm_callVi (as := [.int v4_3, .int r_17, .int r_15]) (st := [.ref 37]) (c_Law_join_37 E v4_3 r_17 r_15 M_18) dX3_reckon_172 mz_X3_join lk_RX3_103 im_X3_join se_X3_join lo_37 rfl rfl rfl ⟨Nat.le_of_ble_eq_true rfl, Nat.le_of_ble_eq_true rfl⟩ (Nat.le_of_ble_eq_true rfl) (fun r_19 M_20 => ?_)
                  refine mm_callVv (as := [.int r_19]) (st := []) (c_Law_push_37 E r_19 M_20) dX3_reckon_175 mz_X3_push lk_RX3_96 im_X3_push se_X3_push lo_37 rfl rfl rfl ⟨Nat.le_of_ble_eq_true rfl, Nat.le_of_ble_eq_true rfl⟩ (Nat.le_of_ble_eq_true rfl) (fun u_21 M_22 => ?_)
                  refine mm_wk [0, 1, 2] rfl ?_
                  exact hj178 v3 M_22
                · exact hj111 v3 v4_3 M
            · refine mm_aload_n 0 dX3_reckon_84 rfl ?_
              refine mm_iconst (v := 1) dX3_reckon_85 rfl ?_
              refine mm_aload_n 0 dX3_reckon_86 rfl ?_
              refine mm_callVi (as := []) (st := [.int 1, .ref 37]) (c_Law_pop_37 E M) dX3_reckon_87 mz_X3_pop lk_RX3_99 im_X3_pop se_X3_pop lo_37 rfl rfl rfl ⟨Nat.le_of_ble_eq_true rfl, Nat.le_of_ble_eq_true rfl⟩ (Nat.le_of_ble_eq_true rfl) (fun r_23 M_24 => ?_)
              refine mm_isub dX3_reckon_90 ?_
              refine mm_callVv (as := [.int (1 - r_23)]) (st := []) (c_Law_push_37 E (1 - r_23) M_24) dX3_reckon_91 mz_X3_push lk_RX3_96 im_X3_push se_X3_push lo_37 rfl rfl rfl ⟨Nat.le_of_ble_eq_true rfl, Nat.le_of_ble_eq_true rfl⟩ (Nat.le_of_ble_eq_true rfl) (fun u_25 M_26 => ?_)
              refine mm_goto 178 dX3_reckon_94 rfl ?_
              refine mm_wk [0, 1, 2] rfl ?_
              exact hj178 v3 M_26
          · refine mm_aload_n 0 dX3_reckon_59 rfl ?_
            refine mm_aload_n 0 dX3_reckon_60 rfl ?_
            refine mm_getR 44 dX3_reckon_61 fl_RX3_30 lo_37 rfl ?_
            refine mm_aload_n 0 dX3_reckon_64 rfl ?_
            refine mm_getR 39 dX3_reckon_65 fl_RX3_15 lo_37 rfl ?_
            refine mm_iload_n 2 dX3_reckon_68 rfl ?_
            refine mm_iaload dX3_reckon_69 ?_
            refine mm_iaload dX3_reckon_70 ?_
            refine mm_callVv (as := [.int (M.2.1 44 (M.2.1 39 v3.toNatClampNeg).toNatClampNeg)]) (st := []) (c_Law_push_37 E (M.2.1 44 (M.2.1 39 v3.toNatClampNeg).toNatClampNeg) M) dX3_reckon_71 mz_X3_push lk_RX3_96 im_X3_push se_X3_push lo_37 rfl rfl rfl ⟨Nat.le_of_ble_eq_true rfl, Nat.le_of_ble_eq_true rfl⟩ (Nat.le_of_ble_eq_true rfl) (fun u_27 M_28 => ?_)
            refine mm_goto 178 dX3_reckon_74 rfl ?_
            refine mm_wk [0, 1, 2] rfl ?_
            exact hj178 v3 M_28
        · refine mm_aload_n 0 dX3_reckon_39 rfl ?_
          refine mm_aload_n 0 dX3_reckon_40 rfl ?_
          refine mm_getR 39 dX3_reckon_41 fl_RX3_15 lo_37 rfl ?_
          refine mm_iload_n 2 dX3_reckon_44 rfl ?_
          refine mm_iaload dX3_reckon_45 ?_
          refine mm_callVv (as := [.int (M.2.1 39 v3.toNatClampNeg)]) (st := []) (c_Law_push_37 E (M.2.1 39 v3.toNatClampNeg) M) dX3_reckon_46 mz_X3_push lk_RX3_96 im_X3_push se_X3_push lo_37 rfl rfl rfl ⟨Nat.le_of_ble_eq_true rfl, Nat.le_of_ble_eq_true rfl⟩ (Nat.le_of_ble_eq_true rfl) (fun u_29 M_30 => ?_)
          refine mm_goto 178 dX3_reckon_49 rfl ?_
          refine mm_wk [0, 1, 2] rfl ?_
          exact hj178 v3 M_30
def f_Law_reckon_37 (v1 : Int32) (v2 : Int32) (M : mm_M) : Option (Int32 × mm_M) := mm_let (mm_setI M 37 10 0) fun M_1 => mm_let (mm_setI M_1 37 11 (mm_b false)) fun M_2 => lp_Law_reckon_37_12 v2 (fun (M_31 : mm_M) => if M_31.1 37 11 = 0 then mm_bd (f_Law_pop_37 M_31) fun r_32 M_33 => some (r_32, M_33) else some (0, M_31)) mm_fu v1 M_2
set_option maxHeartbeats 4000000 in
theorem c_Law_reckon_37 (E : mm_E) (v1 : Int32) (v2 : Int32) (M : mm_M) : ∀ (r : Int32) (M2 : mm_M), f_Law_reckon_37 v1 v2 M = some (r, M2) → mm_P E Y_X3_reckon 2 [.ref 37, .int v1, .int v2] M (some (.int r)) M2 := by
  refine mm_entry (em := (fun x : Int32 => some (.int x))) (by decide +kernel) (Nat.le_of_ble_eq_true rfl) ?_
  show mm_G _ E _ _ 0 [(0, .ref 37), (1, .int v1), (2, .int v2)] [] M _
  unfold f_Law_reckon_37
  refine mm_aload_n 0 dX3_reckon_0 rfl ?_
  refine mm_iconst (v := 0) dX3_reckon_1 rfl ?_
  refine mm_putI dX3_reckon_2 fp_RX3_89 lo_37 rfl ?_
  refine mm_nm_M (fun M_1 => ?_)
  refine mm_aload_n 0 dX3_reckon_5 rfl ?_
  refine mm_iconst (v := 0) dX3_reckon_6 rfl ?_
  refine mm_putZ (b := false) dX3_reckon_7 fp_RX3_92 lo_37 rfl ?_
  refine mm_nm_M (fun M_2 => ?_)
  refine mm_iload_n 1 dX3_reckon_10 rfl ?_
  refine mm_istore_n [1, 2, 3, 0] (lv2 := [(0, .ref 37), (1, .int v1), (2, .int v2), (3, .int v1)]) dX3_reckon_11 (by decide) rfl ?_
  refine mm_wk [0, 2, 3] rfl ?_
  refine lp_Law_reckon_37_12_ok E v2 ?_ mm_fu v1 M_2
  · intro M_31
    refine mm_aload_n 0 dX3_reckon_184 rfl ?_
    refine mm_getI dX3_reckon_185 fl_RX3_92 lo_37 rfl ?_
    refine mm_if_eq 195 dX3_reckon_188 rfl ?_ ?_
    · refine mm_aload_n 0 dX3_reckon_195 rfl ?_
      refine mm_callVi (as := []) (st := []) (c_Law_pop_37 E M_31) dX3_reckon_196 mz_X3_pop lk_RX3_99 im_X3_pop se_X3_pop lo_37 rfl rfl rfl ⟨Nat.le_of_ble_eq_true rfl, Nat.le_of_ble_eq_true rfl⟩ (Nat.le_of_ble_eq_true rfl) (fun r_32 M_33 => ?_)
      exact mm_iret dX3_reckon_199 rfl
    · refine mm_iconst (v := 0) dX3_reckon_191 rfl ?_
      refine mm_goto 199 dX3_reckon_192 rfl ?_
      exact mm_iret dX3_reckon_199 rfl
def lp_Law_answerBy_37_17 (v1 : Int32) (v2 : Int32) (k54 : Int32 → mm_M → Option (Int32 × mm_M)) (k85 : mm_M → Option (Int32 × mm_M)) : Nat → Int32 → mm_M → Option (Int32 × mm_M)
  | 0, _, _ => none
  | n + 1, v3, M => if M.1 37 7 ≤ v3 then k85 M else if mm_in v3 (mm_al 40) = true then mm_jn (fun (v3 : Int32) (M_2 : mm_M) => mm_let (v3 + 1) fun v3_3 => lp_Law_answerBy_37_17 v1 v2 k54 k85 n v3_3 M_2) fun j79 => if M.2.1 40 v3.toNatClampNeg = v1 then if mm_in v3 (mm_al 42) = true then if mm_in v3 (mm_al 43) = true then mm_bd (f_Law_reckon_37 (M.2.1 42 v3.toNatClampNeg) (M.2.1 43 v3.toNatClampNeg) M) fun r_4 M_5 => if r_4 = 0 then j79 v3 M_5 else k54 v3 M_5 else none else none else j79 v3 M else none
set_option maxHeartbeats 4000000 in
theorem lp_Law_answerBy_37_17_ok (E : mm_E) (v1 : Int32) (v2 : Int32) {k54 : Int32 → mm_M → Option (Int32 × mm_M)} {k85 : mm_M → Option (Int32 × mm_M)} (hk54 : ∀ (v3 : Int32) (M : mm_M), mm_G (fun x : Int32 => some (.int x)) E Y_X3_answerBy 3 54 [(0, .ref 37), (2, .int v2), (3, .int v3)] [] M (k54 v3 M)) (hk85 : ∀ (M : mm_M), mm_G (fun x : Int32 => some (.int x)) E Y_X3_answerBy 3 85 [(1, .int v1)] [] M (k85 M)) : ∀ (n : Nat) (v3 : Int32) (M : mm_M), mm_G (fun x : Int32 => some (.int x)) E Y_X3_answerBy 3 17 [(0, .ref 37), (1, .int v1), (2, .int v2), (3, .int v3)] [] M (lp_Law_answerBy_37_17 v1 v2 k54 k85 n v3 M) := by
  intro n
  induction n with
  | zero => intro v3 M r M2 he; cases he
  | succ n ih =>
    intro v3 M
    rw [lp_Law_answerBy_37_17]
    refine mm_iload_n 3 dX3_answerBy_17 rfl ?_
    refine mm_aload_n 0 dX3_answerBy_18 rfl ?_
    refine mm_getI dX3_answerBy_19 fl_RX3_40 lo_37 rfl ?_
    refine mm_icmp_ge 85 dX3_answerBy_22 rfl ?_ ?_
    · refine mm_wk [1] rfl ?_
      exact hk85  M
    · refine mm_aload_n 0 dX3_answerBy_25 rfl ?_
      refine mm_getR 40 dX3_answerBy_26 fl_RX3_18 lo_37 rfl ?_
      refine mm_iload_n 3 dX3_answerBy_29 rfl ?_
      refine mm_iaload dX3_answerBy_30 ?_
      refine mm_iload_n 1 dX3_answerBy_31 rfl ?_
      refine mm_jnP (P := fun j => ∀ (v3 : Int32) (M : mm_M), mm_G (fun x : Int32 => some (.int x)) E Y_X3_answerBy 3 79 [(0, .ref 37), (1, .int v1), (2, .int v2), (3, .int v3)] [] M (j v3 M)) ?_ (fun j79 hj79 => ?_)
      · intro v3 M_2
        refine mm_iincN 3 [1, 2, 3, 0] (v := v3 + 1) (lv2 := fun v3_3 => [(0, .ref 37), (1, .int v1), (2, .int v2), (3, .int v3_3)]) dX3_answerBy_79 rfl rfl (by decide) (fun _ => rfl) (fun v3_3 => ?_)
        refine mm_goto 17 dX3_answerBy_82 rfl ?_
        exact ih v3_3 M_2
      refine mm_icmp_ne 79 dX3_answerBy_32 rfl ?_ ?_
      · exact hj79 v3 M
      · refine mm_aload_n 0 dX3_answerBy_35 rfl ?_
        refine mm_aload_n 0 dX3_answerBy_36 rfl ?_
        refine mm_getR 42 dX3_answerBy_37 fl_RX3_24 lo_37 rfl ?_
        refine mm_iload_n 3 dX3_answerBy_40 rfl ?_
        refine mm_iaload dX3_answerBy_41 ?_
        refine mm_aload_n 0 dX3_answerBy_42 rfl ?_
        refine mm_getR 43 dX3_answerBy_43 fl_RX3_27 lo_37 rfl ?_
        refine mm_iload_n 3 dX3_answerBy_46 rfl ?_
        refine mm_iaload dX3_answerBy_47 ?_
        refine mm_callVi (as := [.int (M.2.1 42 v3.toNatClampNeg), .int (M.2.1 43 v3.toNatClampNeg)]) (st := []) (c_Law_reckon_37 E (M.2.1 42 v3.toNatClampNeg) (M.2.1 43 v3.toNatClampNeg) M) dX3_answerBy_48 mz_X3_reckon lk_RX3_77 im_X3_reckon se_X3_reckon lo_37 rfl rfl rfl ⟨Nat.le_of_ble_eq_true rfl, Nat.le_of_ble_eq_true rfl⟩ (Nat.le_of_ble_eq_true rfl) (fun r_4 M_5 => ?_)
        refine mm_if_eq 79 dX3_answerBy_51 rfl ?_ ?_
        · exact hj79 v3 M_5
        · refine mm_wk [0, 2, 3] rfl ?_
          exact hk54 v3 M_5
def f_Law_answerBy_37 (v1 : Int32) (M : mm_M) : Option (Int32 × mm_M) := mm_jn (fun (s0 : Int32) (M_1 : mm_M) => lp_Law_answerBy_37_17 v1 s0 (fun (v3 : Int32) (M_6 : mm_M) => if mm_in v3 (mm_al 41) = true then if mm_in v3 (mm_al 42) = true then mm_bd (f_Law_reckon_37 (M_6.2.1 41 v3.toNatClampNeg) (M_6.2.1 42 v3.toNatClampNeg) M_6) fun r_7 M_8 => mm_bd (f_Math_min s0 r_7 M_8) fun r_9 M_10 => mm_bd (f_Math_max 0 r_9 M_10) fun r_11 M_12 => some (r_11, M_12) else none else none) (fun (M_13 : mm_M) => if v1 = 112 then some (0, M_13) else some (1, M_13)) mm_fu 0 M_1) fun j14 => if v1 = 112 then j14 999 M else j14 99 M
set_option maxHeartbeats 4000000 in
theorem c_Law_answerBy_37 (E : mm_E) (v1 : Int32) (M : mm_M) : ∀ (r : Int32) (M2 : mm_M), f_Law_answerBy_37 v1 M = some (r, M2) → mm_P E Y_X3_answerBy 3 [.ref 37, .int v1] M (some (.int r)) M2 := by
  refine mm_entry (em := (fun x : Int32 => some (.int x))) (by decide +kernel) (Nat.le_of_ble_eq_true rfl) ?_
  show mm_G _ E _ _ 0 [(0, .ref 37), (1, .int v1)] [] M _
  unfold f_Law_answerBy_37
  refine mm_iload_n 1 dX3_answerBy_0 rfl ?_
  refine mm_bipush (v := 112) dX3_answerBy_1 rfl ?_
  refine mm_jnP (P := fun j => ∀ (s0 : Int32) (M : mm_M), mm_G (fun x : Int32 => some (.int x)) E Y_X3_answerBy 3 14 [(0, .ref 37), (1, .int v1)] [.int s0] M (j s0 M)) ?_ (fun j14 hj14 => ?_)
  · intro s0 M_1
    refine mm_istore_n [1, 2, 0] (lv2 := [(0, .ref 37), (1, .int v1), (2, .int s0)]) dX3_answerBy_14 (by decide) rfl ?_
    refine mm_iconst (v := 0) dX3_answerBy_15 rfl ?_
    refine mm_istore_n [1, 2, 3, 0] (lv2 := [(0, .ref 37), (1, .int v1), (2, .int s0), (3, .int 0)]) dX3_answerBy_16 (by decide) rfl ?_
    refine lp_Law_answerBy_37_17_ok E v1 s0 ?_ ?_ mm_fu 0 M_1
    · intro v3 M_6
      refine mm_iconst (v := 0) dX3_answerBy_54 rfl ?_
      refine mm_iload_n 1 dX3_answerBy_55 rfl ?_
      refine mm_aload_n 0 dX3_answerBy_56 rfl ?_
      refine mm_aload_n 0 dX3_answerBy_57 rfl ?_
      refine mm_getR 41 dX3_answerBy_58 fl_RX3_21 lo_37 rfl ?_
      refine mm_iload_n 2 dX3_answerBy_61 rfl ?_
      refine mm_iaload dX3_answerBy_62 ?_
      refine mm_aload_n 0 dX3_answerBy_63 rfl ?_
      refine mm_getR 42 dX3_answerBy_64 fl_RX3_24 lo_37 rfl ?_
      refine mm_iload_n 2 dX3_answerBy_67 rfl ?_
      refine mm_iaload dX3_answerBy_68 ?_
      refine mm_callVi (as := [.int (M_6.2.1 41 v3.toNatClampNeg), .int (M_6.2.1 42 v3.toNatClampNeg)]) (st := [.int s0, .int 0]) (c_Law_reckon_37 E (M_6.2.1 41 v3.toNatClampNeg) (M_6.2.1 42 v3.toNatClampNeg) M_6) dX3_answerBy_69 mz_X3_reckon lk_RX3_77 im_X3_reckon se_X3_reckon lo_37 rfl rfl rfl ⟨Nat.le_of_ble_eq_true rfl, Nat.le_of_ble_eq_true rfl⟩ (Nat.le_of_ble_eq_true rfl) (fun r_7 M_8 => ?_)
      refine mm_callSi (as := [.int s0, .int r_7]) (st := [.int 0]) (c_Math_min E s0 r_7 M_8) dX3_answerBy_72 mz_J9_min_7cf53 lk_RX3_81 sm_J9_min_7cf53 rfl ⟨Nat.le_of_ble_eq_true rfl, Nat.le_of_ble_eq_true rfl⟩ (Nat.le_of_ble_eq_true rfl) (fun r_9 M_10 => ?_)
      refine mm_callSi (as := [.int 0, .int r_9]) (st := []) (c_Math_max E 0 r_9 M_10) dX3_answerBy_75 mz_J9_max_7cf53 lk_RX3_86 sm_J9_max_7cf53 rfl ⟨Nat.le_of_ble_eq_true rfl, Nat.le_of_ble_eq_true rfl⟩ (Nat.le_of_ble_eq_true rfl) (fun r_11 M_12 => ?_)
      exact mm_iret dX3_answerBy_78 rfl
    · intro M_13
      refine mm_iload_n 0 dX3_answerBy_85 rfl ?_
      refine mm_bipush (v := 112) dX3_answerBy_86 rfl ?_
      refine mm_icmp_ne 95 dX3_answerBy_88 rfl ?_ ?_
      · refine mm_iconst (v := 1) dX3_answerBy_95 rfl ?_
        exact mm_iret dX3_answerBy_96 rfl
      · refine mm_iconst (v := 0) dX3_answerBy_91 rfl ?_
        refine mm_goto 96 dX3_answerBy_92 rfl ?_
        exact mm_iret dX3_answerBy_96 rfl
  refine mm_icmp_ne 12 dX3_answerBy_3 rfl ?_ ?_
  · refine mm_bipush (v := 99) dX3_answerBy_12 rfl ?_
    exact hj14 99 M
  · refine mm_sipush (v := 999) dX3_answerBy_6 rfl ?_
    refine mm_goto 14 dX3_answerBy_9 rfl ?_
    exact hj14 999 M
def lp_Service_orderStays_66 (v1 : Int32) (v2 : Int32) (v3 : Int32) (k116 : Int32 → mm_M → Option (Int32 × mm_M)) : Nat → Int32 → mm_M → Option (Int32 × mm_M)
  | 0, _, _ => none
  | n + 1, v4, M => if v4 ≤ 0 then k116 v4 M else if mm_in (v4 - 1) (mm_al 86) = true then if mm_in (M.2.1 86 (v4 - 1).toNatClampNeg) (mm_al 87) = true then if mm_in v3 (mm_al 87) = true then if M.2.1 87 v3.toNatClampNeg ≤ M.2.1 87 (M.2.1 86 (v4 - 1).toNatClampNeg).toNatClampNeg then k116 v4 M else if mm_in (v4 - 1) (mm_al 86) = true then if mm_in v4 (mm_al 86) = true then mm_let (mm_setA M 86 (v4.toNatClampNeg) (M.2.1 86 (v4 - 1).toNatClampNeg)) fun M_12 => mm_let (v4 + (-1)) fun v4_13 => lp_Service_orderStays_66 v1 v2 v3 k116 n v4_13 M_12 else none else none else none else none else none
set_option maxHeartbeats 4000000 in
theorem lp_Service_orderStays_66_ok (E : mm_E) (v1 : Int32) (v2 : Int32) (v3 : Int32) {k116 : Int32 → mm_M → Option (Int32 × mm_M)} (hk116 : ∀ (v4 : Int32) (M : mm_M), mm_G (fun x : Int32 => some (.int x)) E Y_X8_orderStays 4 116 [(0, .ref 73), (1, .int v1), (2, .int v2), (3, .int v3), (4, .int v4)] [] M (k116 v4 M)) : ∀ (n : Nat) (v4 : Int32) (M : mm_M), mm_G (fun x : Int32 => some (.int x)) E Y_X8_orderStays 4 66 [(0, .ref 73), (1, .int v1), (2, .int v2), (3, .int v3), (4, .int v4)] [] M (lp_Service_orderStays_66 v1 v2 v3 k116 n v4 M) := by
  intro n
  induction n with
  | zero => intro v4 M r M2 he; cases he
  | succ n ih =>
    intro v4 M
    rw [lp_Service_orderStays_66]
    refine mm_iload 4 dX8_orderStays_66 rfl ?_
    refine mm_if_le 116 dX8_orderStays_68 rfl ?_ ?_
    · exact hk116 v4 M
    · refine mm_aload_n 0 dX8_orderStays_71 rfl ?_
      refine mm_getR 87 dX8_orderStays_72 fl_RX8_23 lo_73 rfl ?_
      refine mm_aload_n 0 dX8_orderStays_75 rfl ?_
      refine mm_getR 86 dX8_orderStays_76 fl_RX8_20 lo_73 rfl ?_
      refine mm_iload 4 dX8_orderStays_79 rfl ?_
      refine mm_iconst (v := 1) dX8_orderStays_81 rfl ?_
      refine mm_isub dX8_orderStays_82 ?_
      refine mm_iaload dX8_orderStays_83 ?_
      refine mm_iaload dX8_orderStays_84 ?_
      refine mm_aload_n 0 dX8_orderStays_85 rfl ?_
      refine mm_getR 87 dX8_orderStays_86 fl_RX8_23 lo_73 rfl ?_
      refine mm_iload_n 3 dX8_orderStays_89 rfl ?_
      refine mm_iaload dX8_orderStays_90 ?_
      refine mm_icmp_ge 116 dX8_orderStays_91 rfl ?_ ?_
      · exact hk116 v4 M
      · refine mm_aload_n 0 dX8_orderStays_94 rfl ?_
        refine mm_getR 86 dX8_orderStays_95 fl_RX8_20 lo_73 rfl ?_
        refine mm_iload 4 dX8_orderStays_98 rfl ?_
        refine mm_aload_n 0 dX8_orderStays_100 rfl ?_
        refine mm_getR 86 dX8_orderStays_101 fl_RX8_20 lo_73 rfl ?_
        refine mm_iload 4 dX8_orderStays_104 rfl ?_
        refine mm_iconst (v := 1) dX8_orderStays_106 rfl ?_
        refine mm_isub dX8_orderStays_107 ?_
        refine mm_iaload dX8_orderStays_108 ?_
        refine mm_iastore dX8_orderStays_109 ?_
        refine mm_nm_M (fun M_12 => ?_)
        refine mm_iincN 4 [1, 2, 3, 4, 0] (v := v4 + (-1)) (lv2 := fun v4_13 => [(0, .ref 73), (1, .int v1), (2, .int v2), (3, .int v3), (4, .int v4_13)]) dX8_orderStays_110 rfl rfl (by decide) (fun _ => rfl) (fun v4_13 => ?_)
        refine mm_goto 66 dX8_orderStays_113 rfl ?_
        exact ih v4_13 M_12
def lp_Service_orderStays_4 (v1 : Int32) (k133 : Int32 → mm_M → Option (Int32 × mm_M)) : Nat → Int32 → Int32 → mm_M → Option (Int32 × mm_M)
  | 0, _, _, _ => none
  | n + 1, v2, v3, M => if 10 ≤ v3 then k133 v2 M else mm_bd (f_Register_has_27 v3 M) fun b_1 M_2 => mm_jn (fun (v2 : Int32) (v3 : Int32) (M_3 : mm_M) => mm_let (v3 + 1) fun v3_4 => lp_Service_orderStays_4 v1 k133 n v2 v3_4 M_3) fun j127 => if b_1 = true then mm_bd (f_Law_askAbout_37_27_22 v3 M_2) fun u_5 M_6 => mm_bd (f_Law_askAt_37 v1 0 0 0 M_6) fun u_7 M_8 => mm_bd (f_Law_answerBy_37 112 M_8) fun r_9 M_10 => if mm_in v3 (mm_al 87) = true then mm_let (mm_setA M_10 87 (v3.toNatClampNeg) r_9) fun M_11 => lp_Service_orderStays_66 v1 v2 v3 (fun (v4 : Int32) (M_14 : mm_M) => if mm_in v4 (mm_al 86) = true then mm_let (mm_setA M_14 86 (v4.toNatClampNeg) v3) fun M_15 => mm_let (v2 + 1) fun v2_16 => j127 v2_16 v3 M_15 else none) mm_fu v2 M_11 else none else j127 v2 v3 M_2
set_option maxHeartbeats 4000000 in
theorem lp_Service_orderStays_4_ok (E : mm_E) (v1 : Int32) {k133 : Int32 → mm_M → Option (Int32 × mm_M)} (hk133 : ∀ (v2 : Int32) (M : mm_M), mm_G (fun x : Int32 => some (.int x)) E Y_X8_orderStays 4 133 [(2, .int v2)] [] M (k133 v2 M)) : ∀ (n : Nat) (v2 : Int32) (v3 : Int32) (M : mm_M), mm_G (fun x : Int32 => some (.int x)) E Y_X8_orderStays 4 4 [(0, .ref 73), (1, .int v1), (2, .int v2), (3, .int v3)] [] M (lp_Service_orderStays_4 v1 k133 n v2 v3 M) := by
  intro n
  induction n with
  | zero => intro v2 v3 M r M2 he; cases he
  | succ n ih =>
    intro v2 v3 M
    rw [lp_Service_orderStays_4]
    refine mm_iload_n 3 dX8_orderStays_4 rfl ?_
    refine mm_bipush (v := 10) dX8_orderStays_5 rfl ?_
    refine mm_icmp_ge 133 dX8_orderStays_7 rfl ?_ ?_
    · refine mm_wk [2] rfl ?_
      exact hk133 v2 M
    · refine mm_aload_n 0 dX8_orderStays_10 rfl ?_
      refine mm_getR 27 dX8_orderStays_11 fl_RX8_45 lo_73 rfl ?_
      refine mm_iload_n 3 dX8_orderStays_14 rfl ?_
      refine mm_callVz (as := [.int v3]) (st := []) (c_Register_has_27 E v3 M) dX8_orderStays_15 mz_X7_has lk_RX8_105 im_X7_has se_X7_has lo_27 rfl rfl rfl ⟨Nat.le_of_ble_eq_true rfl, Nat.le_of_ble_eq_true rfl⟩ (Nat.le_of_ble_eq_true rfl) (fun b_1 M_2 => ?_)
      refine mm_jnP (P := fun j => ∀ (v2 : Int32) (v3 : Int32) (M : mm_M), mm_G (fun x : Int32 => some (.int x)) E Y_X8_orderStays 4 127 [(0, .ref 73), (1, .int v1), (2, .int v2), (3, .int v3)] [] M (j v2 v3 M)) ?_ (fun j127 hj127 => ?_)
      · intro v2 v3 M_3
        refine mm_iincN 3 [1, 2, 3, 0] (v := v3 + 1) (lv2 := fun v3_4 => [(0, .ref 73), (1, .int v1), (2, .int v2), (3, .int v3_4)]) dX8_orderStays_127 rfl rfl (by decide) (fun _ => rfl) (fun v3_4 => ?_)
        refine mm_goto 4 dX8_orderStays_130 rfl ?_
        exact ih v2 v3_4 M_3
      refine mm_if_eq_b 127 dX8_orderStays_18 rfl ?_ ?_
      · exact hj127 v2 v3 M_2
      · refine mm_aload_n 0 dX8_orderStays_21 rfl ?_
        refine mm_getR 37 dX8_orderStays_22 fl_RX8_49 lo_73 rfl ?_
        refine mm_iload_n 3 dX8_orderStays_25 rfl ?_
        refine mm_aload_n 0 dX8_orderStays_26 rfl ?_
        refine mm_getR 27 dX8_orderStays_27 fl_RX8_45 lo_73 rfl ?_
        refine mm_aload_n 0 dX8_orderStays_30 rfl ?_
        refine mm_getR 22 dX8_orderStays_31 fl_RX8_41 lo_73 rfl ?_
        refine mm_callVv (as := [.int v3, .ref 27, .ref 22]) (st := []) (c_Law_askAbout_37_27_22 E v3 M_2) dX8_orderStays_34 mz_X3_askAbout lk_RX8_111 im_X3_askAbout se_X3_askAbout lo_37 rfl rfl rfl ⟨Nat.le_of_ble_eq_true rfl, Nat.le_of_ble_eq_true rfl⟩ (Nat.le_of_ble_eq_true rfl) (fun u_5 M_6 => ?_)
        refine mm_aload_n 0 dX8_orderStays_37 rfl ?_
        refine mm_getR 37 dX8_orderStays_38 fl_RX8_49 lo_73 rfl ?_
        refine mm_iload_n 1 dX8_orderStays_41 rfl ?_
        refine mm_iconst (v := 0) dX8_orderStays_42 rfl ?_
        refine mm_iconst (v := 0) dX8_orderStays_43 rfl ?_
        refine mm_iconst (v := 0) dX8_orderStays_44 rfl ?_
        refine mm_callVv (as := [.int v1, .int 0, .int 0, .int 0]) (st := []) (c_Law_askAt_37 E v1 0 0 0 M_6) dX8_orderStays_45 mz_X3_askAt lk_RX8_117 im_X3_askAt se_X3_askAt lo_37 rfl rfl rfl ⟨Nat.le_of_ble_eq_true rfl, Nat.le_of_ble_eq_true rfl⟩ (Nat.le_of_ble_eq_true rfl) (fun u_7 M_8 => ?_)
        refine mm_aload_n 0 dX8_orderStays_48 rfl ?_
        refine mm_getR 87 dX8_orderStays_49 fl_RX8_23 lo_73 rfl ?_
        refine mm_iload_n 3 dX8_orderStays_52 rfl ?_
        refine mm_aload_n 0 dX8_orderStays_53 rfl ?_
        refine mm_getR 37 dX8_orderStays_54 fl_RX8_49 lo_73 rfl ?_
        refine mm_bipush (v := 112) dX8_orderStays_57 rfl ?_
        refine mm_callVi (as := [.int 112]) (st := [.int v3, .ref 87]) (c_Law_answerBy_37 E 112 M_8) dX8_orderStays_59 mz_X3_answerBy lk_RX8_121 im_X3_answerBy se_X3_answerBy lo_37 rfl rfl rfl ⟨Nat.le_of_ble_eq_true rfl, Nat.le_of_ble_eq_true rfl⟩ (Nat.le_of_ble_eq_true rfl) (fun r_9 M_10 => ?_)
        refine mm_iastore dX8_orderStays_62 ?_
        refine mm_nm_M (fun M_11 => ?_)
        refine mm_iload_n 2 dX8_orderStays_63 rfl ?_
        refine mm_istore [1, 2, 3, 4, 0] (lv2 := [(0, .ref 73), (1, .int v1), (2, .int v2), (3, .int v3), (4, .int v2)]) dX8_orderStays_64 (by decide) rfl ?_
        refine lp_Service_orderStays_66_ok E v1 v2 v3 ?_ mm_fu v2 M_11
        · intro v4 M_14
          refine mm_aload_n 0 dX8_orderStays_116 rfl ?_
          refine mm_getR 86 dX8_orderStays_117 fl_RX8_20 lo_73 rfl ?_
          refine mm_iload 4 dX8_orderStays_120 rfl ?_
          refine mm_iload_n 3 dX8_orderStays_122 rfl ?_
          refine mm_iastore dX8_orderStays_123 ?_
          refine mm_nm_M (fun M_15 => ?_)
          refine mm_iincN 2 [1, 2, 0, 3, 4] (v := v2 + 1) (lv2 := fun v2_16 => [(0, .ref 73), (1, .int v1), (2, .int v2_16), (3, .int v3), (4, .int v4)]) dX8_orderStays_124 rfl rfl (by decide) (fun _ => rfl) (fun v2_16 => ?_)
          refine mm_wk [0, 1, 2, 3] rfl ?_
          exact hj127 v2_16 v3 M_15
def f_Service_orderStays (v1 : Int32) (M : mm_M) : Option (Int32 × mm_M) := lp_Service_orderStays_4 v1 (fun (v2 : Int32) (M_17 : mm_M) => some (v2, M_17)) mm_fu 0 0 M
set_option maxHeartbeats 4000000 in
theorem c_Service_orderStays (E : mm_E) (v1 : Int32) (M : mm_M) : ∀ (r : Int32) (M2 : mm_M), f_Service_orderStays v1 M = some (r, M2) → mm_P E Y_X8_orderStays 4 [.ref 73, .int v1] M (some (.int r)) M2 := by
  refine mm_entry (em := (fun x : Int32 => some (.int x))) (by decide +kernel) (Nat.le_of_ble_eq_true rfl) ?_
  show mm_G _ E _ _ 0 [(0, .ref 73), (1, .int v1)] [] M _
  unfold f_Service_orderStays
  refine mm_iconst (v := 0) dX8_orderStays_0 rfl ?_
  refine mm_istore_n [1, 2, 0] (lv2 := [(0, .ref 73), (1, .int v1), (2, .int 0)]) dX8_orderStays_1 (by decide) rfl ?_
  refine mm_iconst (v := 0) dX8_orderStays_2 rfl ?_
  refine mm_istore_n [1, 2, 3, 0] (lv2 := [(0, .ref 73), (1, .int v1), (2, .int 0), (3, .int 0)]) dX8_orderStays_3 (by decide) rfl ?_
  refine lp_Service_orderStays_4_ok E v1 ?_ mm_fu 0 0 M
  · intro v2 M_17
    refine mm_iload_n 0 dX8_orderStays_133 rfl ?_
    exact mm_iret dX8_orderStays_134 rfl
def f_Service_harmOf (v1 : Int32) (v2 : Int32) (v3 : Int32) (M : mm_M) : Option (Int32 × mm_M) := if v3 = 0 then some (0, M) else mm_bd (f_Law_askAbout_37_27_22 v1 M) fun u_1 M_2 => if mm_in v1 10 = true then if mm_in v2 (mm_al (58 + v1.toNatClampNeg)) = true then mm_bd (f_Law_askAt_37 (mm_rem v2 24) (v2 / 24) (M_2.2.1 (58 + v1.toNatClampNeg) v2.toNatClampNeg) v3 M_2) fun u_3 M_4 => mm_bd (f_Law_answerBy_37 109 M_4) fun r_5 M_6 => some (v3 * r_5, M_6) else none else none
set_option maxHeartbeats 4000000 in
theorem c_Service_harmOf (E : mm_E) (v1 : Int32) (v2 : Int32) (v3 : Int32) (M : mm_M) : ∀ (r : Int32) (M2 : mm_M), f_Service_harmOf v1 v2 v3 M = some (r, M2) → mm_P E Y_X8_harmOf 4 [.ref 73, .int v1, .int v2, .int v3] M (some (.int r)) M2 := by
  refine mm_entry (em := (fun x : Int32 => some (.int x))) (by decide +kernel) (Nat.le_of_ble_eq_true rfl) ?_
  show mm_G _ E _ _ 0 [(0, .ref 73), (1, .int v1), (2, .int v2), (3, .int v3)] [] M _
  unfold f_Service_harmOf
  refine mm_iload_n 3 dX8_harmOf_0 rfl ?_
  refine mm_if_ne 6 dX8_harmOf_1 rfl ?_ ?_
  · refine mm_aload_n 0 dX8_harmOf_6 rfl ?_
    refine mm_getR 37 dX8_harmOf_7 fl_RX8_49 lo_73 rfl ?_
    refine mm_iload_n 1 dX8_harmOf_10 rfl ?_
    refine mm_aload_n 0 dX8_harmOf_11 rfl ?_
    refine mm_getR 27 dX8_harmOf_12 fl_RX8_45 lo_73 rfl ?_
    refine mm_aload_n 0 dX8_harmOf_15 rfl ?_
    refine mm_getR 22 dX8_harmOf_16 fl_RX8_41 lo_73 rfl ?_
    refine mm_callVv (as := [.int v1, .ref 27, .ref 22]) (st := []) (c_Law_askAbout_37_27_22 E v1 M) dX8_harmOf_19 mz_X3_askAbout lk_RX8_111 im_X3_askAbout se_X3_askAbout lo_37 rfl rfl rfl ⟨Nat.le_of_ble_eq_true rfl, Nat.le_of_ble_eq_true rfl⟩ (Nat.le_of_ble_eq_true rfl) (fun u_1 M_2 => ?_)
    refine mm_aload_n 0 dX8_harmOf_22 rfl ?_
    refine mm_getR 37 dX8_harmOf_23 fl_RX8_49 lo_73 rfl ?_
    refine mm_iload_n 2 dX8_harmOf_26 rfl ?_
    refine mm_bipush (v := 24) dX8_harmOf_27 rfl ?_
    refine mm_irem_c dX8_harmOf_29 (by decide) ?_
    refine mm_iload_n 2 dX8_harmOf_30 rfl ?_
    refine mm_bipush (v := 24) dX8_harmOf_31 rfl ?_
    refine mm_idiv_c dX8_harmOf_33 (by decide) ?_
    refine mm_aload_n 0 dX8_harmOf_34 rfl ?_
    refine mm_getR 56 dX8_harmOf_35 fl_RX8_53 lo_73 rfl ?_
    refine mm_getR 57 dX8_harmOf_38 fl_RX8_125 lo_56 rfl ?_
    refine mm_iload_n 1 dX8_harmOf_41 rfl ?_
    refine mm_aaload dX8_harmOf_42 lo_57 ?_
    refine mm_iload_n 2 dX8_harmOf_43 rfl ?_
    refine mm_iaload dX8_harmOf_44 ?_
    refine mm_iload_n 3 dX8_harmOf_45 rfl ?_
    refine mm_callVv (as := [.int (mm_rem v2 24), .int (v2 / 24), .int (M_2.2.1 (58 + v1.toNatClampNeg) v2.toNatClampNeg), .int v3]) (st := []) (c_Law_askAt_37 E (mm_rem v2 24) (v2 / 24) (M_2.2.1 (58 + v1.toNatClampNeg) v2.toNatClampNeg) v3 M_2) dX8_harmOf_46 mz_X3_askAt lk_RX8_117 im_X3_askAt se_X3_askAt lo_37 rfl rfl rfl ⟨Nat.le_of_ble_eq_true rfl, Nat.le_of_ble_eq_true rfl⟩ (Nat.le_of_ble_eq_true rfl) (fun u_3 M_4 => ?_)
    refine mm_iload_n 3 dX8_harmOf_49 rfl ?_
    refine mm_aload_n 0 dX8_harmOf_50 rfl ?_
    refine mm_getR 37 dX8_harmOf_51 fl_RX8_49 lo_73 rfl ?_
    refine mm_bipush (v := 109) dX8_harmOf_54 rfl ?_
    refine mm_callVi (as := [.int 109]) (st := [.int v3]) (c_Law_answerBy_37 E 109 M_4) dX8_harmOf_56 mz_X3_answerBy lk_RX8_121 im_X3_answerBy se_X3_answerBy lo_37 rfl rfl rfl ⟨Nat.le_of_ble_eq_true rfl, Nat.le_of_ble_eq_true rfl⟩ (Nat.le_of_ble_eq_true rfl) (fun r_5 M_6 => ?_)
    refine mm_imul dX8_harmOf_59 ?_
    exact mm_iret dX8_harmOf_60 rfl
  · refine mm_iconst (v := 0) dX8_harmOf_4 rfl ?_
    exact mm_iret dX8_harmOf_5 rfl
def f_Service_giveRain (v1 : Int32) (v2 : Int32) (M : mm_M) : Option (Int32 × mm_M) := if mm_in 0 (mm_al 88) = true then mm_bd (f_Math_min v2 (M.2.1 88 (0 : Int32).toNatClampNeg) M) fun r_1 M_2 => if mm_in v1 (mm_al 89) = true then mm_bd (f_Math_min (M_2.2.1 89 v1.toNatClampNeg) (M_2.1 73 7) M_2) fun r_3 M_4 => mm_bd (f_Math_min r_1 r_3 M_4) fun r_5 M_6 => if mm_in v1 (mm_al 89) = true then if mm_in v1 (mm_al 89) = true then mm_let (mm_setA M_6 89 (v1.toNatClampNeg) ((M_6.2.1 89 v1.toNatClampNeg) - r_5)) fun M_7 => mm_let (mm_setI M_7 73 7 ((M_7.1 73 7) - r_5)) fun M_8 => some (r_5, M_8) else none else none else none else none
set_option maxHeartbeats 4000000 in
theorem c_Service_giveRain (E : mm_E) (v1 : Int32) (v2 : Int32) (M : mm_M) : ∀ (r : Int32) (M2 : mm_M), f_Service_giveRain v1 v2 M = some (r, M2) → mm_P E Y_X8_giveRain 2 [.ref 73, .int v1, .int v2] M (some (.int r)) M2 := by
  refine mm_entry (em := (fun x : Int32 => some (.int x))) (by decide +kernel) (Nat.le_of_ble_eq_true rfl) ?_
  show mm_G _ E _ _ 0 [(0, .ref 73), (1, .int v1), (2, .int v2)] [] M _
  unfold f_Service_giveRain
  refine mm_iload_n 2 dX8_giveRain_0 rfl ?_
  refine mm_aload_n 0 dX8_giveRain_1 rfl ?_
  refine mm_getR 88 dX8_giveRain_2 fl_RX8_26 lo_73 rfl ?_
  refine mm_iconst (v := 0) dX8_giveRain_5 rfl ?_
  refine mm_iaload dX8_giveRain_6 ?_
  refine mm_callSi (as := [.int v2, .int (M.2.1 88 (0 : Int32).toNatClampNeg)]) (st := []) (c_Math_min E v2 (M.2.1 88 (0 : Int32).toNatClampNeg) M) dX8_giveRain_7 mz_J9_min_7cf53 lk_RX8_135 sm_J9_min_7cf53 rfl ⟨Nat.le_of_ble_eq_true rfl, Nat.le_of_ble_eq_true rfl⟩ (Nat.le_of_ble_eq_true rfl) (fun r_1 M_2 => ?_)
  refine mm_aload_n 0 dX8_giveRain_10 rfl ?_
  refine mm_getR 89 dX8_giveRain_11 fl_RX8_29 lo_73 rfl ?_
  refine mm_iload_n 1 dX8_giveRain_14 rfl ?_
  refine mm_iaload dX8_giveRain_15 ?_
  refine mm_aload_n 0 dX8_giveRain_16 rfl ?_
  refine mm_getI dX8_giveRain_17 fl_RX8_71 lo_73 rfl ?_
  refine mm_callSi (as := [.int (M_2.2.1 89 v1.toNatClampNeg), .int (M_2.1 73 7)]) (st := [.int r_1]) (c_Math_min E (M_2.2.1 89 v1.toNatClampNeg) (M_2.1 73 7) M_2) dX8_giveRain_20 mz_J9_min_7cf53 lk_RX8_135 sm_J9_min_7cf53 rfl ⟨Nat.le_of_ble_eq_true rfl, Nat.le_of_ble_eq_true rfl⟩ (Nat.le_of_ble_eq_true rfl) (fun r_3 M_4 => ?_)
  refine mm_callSi (as := [.int r_1, .int r_3]) (st := []) (c_Math_min E r_1 r_3 M_4) dX8_giveRain_23 mz_J9_min_7cf53 lk_RX8_135 sm_J9_min_7cf53 rfl ⟨Nat.le_of_ble_eq_true rfl, Nat.le_of_ble_eq_true rfl⟩ (Nat.le_of_ble_eq_true rfl) (fun r_5 M_6 => ?_)
  refine mm_istore_n [1, 2, 3, 0] (lv2 := [(0, .ref 73), (1, .int v1), (2, .int v2), (3, .int r_5)]) dX8_giveRain_26 (by decide) rfl ?_
  refine mm_aload_n 0 dX8_giveRain_27 rfl ?_
  refine mm_getR 89 dX8_giveRain_28 fl_RX8_29 lo_73 rfl ?_
  refine mm_iload_n 1 dX8_giveRain_31 rfl ?_
  refine mm_dup2 dX8_giveRain_32 rfl rfl ?_
  refine mm_iaload dX8_giveRain_33 ?_
  refine mm_iload_n 3 dX8_giveRain_34 rfl ?_
  refine mm_isub dX8_giveRain_35 ?_
  refine mm_iastore dX8_giveRain_36 ?_
  refine mm_nm_M (fun M_7 => ?_)
  refine mm_aload_n 0 dX8_giveRain_37 rfl ?_
  refine mm_dup dX8_giveRain_38 rfl ?_
  refine mm_getI dX8_giveRain_39 fl_RX8_71 lo_73 rfl ?_
  refine mm_iload_n 3 dX8_giveRain_42 rfl ?_
  refine mm_isub dX8_giveRain_43 ?_
  refine mm_putI dX8_giveRain_44 fp_RX8_71 lo_73 rfl ?_
  refine mm_nm_M (fun M_8 => ?_)
  refine mm_iload_n 3 dX8_giveRain_47 rfl ?_
  exact mm_iret dX8_giveRain_48 rfl
