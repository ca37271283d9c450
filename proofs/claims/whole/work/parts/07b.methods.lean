def f_TextReader_among_143 (M : mm_M) : Option (Int32 × mm_M) := mm_bd (f_TextReader_atEnd M) fun b_1 M_2 => if b_1 = true then some ((-1), M_2) else mm_bd (f_String_indexOf_1_143 (((M_2.1 2 3).toUInt32 % 65536).toInt32) M_2) fun r_3 M_4 => some (r_3, M_4)
set_option maxHeartbeats 4000000 in
theorem c_TextReader_among_143 (E : mm_E) (M : mm_M) : ∀ (r : Int32) (M2 : mm_M), f_TextReader_among_143 M = some (r, M2) → mm_P E Y_X10_among 7 [.ref 2, .ref 143] M (some (.int r)) M2 := by
  refine mm_entry (em := (fun x : Int32 => some (.int x))) (by decide +kernel) (Nat.le_of_ble_eq_true rfl) ?_
  show mm_G _ E _ _ 0 [(0, .ref 2), (1, .ref 143)] [] M _
  unfold f_TextReader_among_143
  refine mm_aload_n 0 dX10_among_0 rfl ?_
  refine mm_callVz (as := []) (st := []) (c_TextReader_atEnd E M) dX10_among_1 mz_X10_atEnd lk_RX10_48 im_X10_atEnd se_X10_atEnd lo_2 rfl rfl rfl ⟨Nat.le_of_ble_eq_true rfl, Nat.le_of_ble_eq_true rfl⟩ (Nat.le_of_ble_eq_true rfl) (fun b_1 M_2 => ?_)
  refine mm_if_eq_b 11 dX10_among_4 rfl ?_ ?_
  · refine mm_aload_n 1 dX10_among_11 rfl ?_
    refine mm_aload_n 0 dX10_among_12 rfl ?_
    refine mm_getI dX10_among_13 fl_RX10_41 lo_2 rfl ?_
    refine mm_i2c dX10_among_16 ?_
    refine mm_callTi (as := [.int (((M_2.1 2 3).toUInt32 % 65536).toInt32)]) (st := []) (c_String_indexOf_1_143 E (((M_2.1 2 3).toUInt32 % 65536).toInt32) M_2) dX10_among_17 mz_J0_indexOf_0f7a4 lk_RX10_52 im_J0_indexOf_0f7a4 se_J0_indexOf_0f7a4 sl_143 rfl rfl ⟨Nat.le_of_ble_eq_true rfl, Nat.le_of_ble_eq_true rfl⟩ (Nat.le_of_ble_eq_true rfl) (fun r_3 M_4 => ?_)
    exact mm_iret dX10_among_20 rfl
  · refine mm_iconst (v := (-1)) dX10_among_7 rfl ?_
    refine mm_goto 20 dX10_among_8 rfl ?_
    exact mm_iret dX10_among_20 rfl
def f_TextReader_among_144 (M : mm_M) : Option (Int32 × mm_M) := mm_bd (f_TextReader_atEnd M) fun b_1 M_2 => if b_1 = true then some ((-1), M_2) else mm_bd (f_String_indexOf_1_144 (((M_2.1 2 3).toUInt32 % 65536).toInt32) M_2) fun r_3 M_4 => some (r_3, M_4)
set_option maxHeartbeats 4000000 in
theorem c_TextReader_among_144 (E : mm_E) (M : mm_M) : ∀ (r : Int32) (M2 : mm_M), f_TextReader_among_144 M = some (r, M2) → mm_P E Y_X10_among 7 [.ref 2, .ref 144] M (some (.int r)) M2 := by
  refine mm_entry (em := (fun x : Int32 => some (.int x))) (by decide +kernel) (Nat.le_of_ble_eq_true rfl) ?_
  show mm_G _ E _ _ 0 [(0, .ref 2), (1, .ref 144)] [] M _
  unfold f_TextReader_among_144
  refine mm_aload_n 0 dX10_among_0 rfl ?_
  refine mm_callVz (as := []) (st := []) (c_TextReader_atEnd E M) dX10_among_1 mz_X10_atEnd lk_RX10_48 im_X10_atEnd se_X10_atEnd lo_2 rfl rfl rfl ⟨Nat.le_of_ble_eq_true rfl, Nat.le_of_ble_eq_true rfl⟩ (Nat.le_of_ble_eq_true rfl) (fun b_1 M_2 => ?_)
  refine mm_if_eq_b 11 dX10_among_4 rfl ?_ ?_
  · refine mm_aload_n 1 dX10_among_11 rfl ?_
    refine mm_aload_n 0 dX10_among_12 rfl ?_
    refine mm_getI dX10_among_13 fl_RX10_41 lo_2 rfl ?_
    refine mm_i2c dX10_among_16 ?_
    refine mm_callTi (as := [.int (((M_2.1 2 3).toUInt32 % 65536).toInt32)]) (st := []) (c_String_indexOf_1_144 E (((M_2.1 2 3).toUInt32 % 65536).toInt32) M_2) dX10_among_17 mz_J0_indexOf_0f7a4 lk_RX10_52 im_J0_indexOf_0f7a4 se_J0_indexOf_0f7a4 sl_144 rfl rfl ⟨Nat.le_of_ble_eq_true rfl, Nat.le_of_ble_eq_true rfl⟩ (Nat.le_of_ble_eq_true rfl) (fun r_3 M_4 => ?_)
    exact mm_iret dX10_among_20 rfl
  · refine mm_iconst (v := (-1)) dX10_among_7 rfl ?_
    refine mm_goto 20 dX10_among_8 rfl ?_
    exact mm_iret dX10_among_20 rfl
def lp_LawReader_readSum_12 (F : Nat → Int32 → mm_M → Option (Bool × mm_M)) (v1 : Int32) (k55 : mm_M → Option (Bool × mm_M)) (k72 : mm_M → Option (Bool × mm_M)) : Nat → Int32 → mm_M → Option (Bool × mm_M)
  | 0, _, _ => none
  | n + 1, v2, M => if 160 ≤ v2 then k72 M else mm_bd (f_TextReader_among_144 M) fun r_3 M_4 => if r_3 = (-1) then k72 M_4 else mm_let (M_4.1 2 3) fun v3_5 => mm_bd (f_TextReader_step M_4) fun u_6 M_7 => mm_bd (F 1 v1 M_7) fun b_8 M_9 => if b_8 = true then mm_bd (f_Law_addStep_8 v3_5 0 M_9) fun u_10 M_11 => mm_let (v2 + 1) fun v2_12 => lp_LawReader_readSum_12 F v1 k55 k72 n v2_12 M_11 else k55 M_9
set_option maxHeartbeats 4000000 in
theorem lp_LawReader_readSum_12_ok (E : mm_E) {nd : Nat} {F : Nat → Int32 → mm_M → Option (Bool × mm_M)} (hF : 7 ≤ nd ∧ (∀ (v1 : Int32) (M : mm_M) (r : Bool) (M2 : mm_M), F 0 v1 M = some (r, M2) → mm_P E Y_X4_readSum nd [.ref 9, .int v1] M (some (.int (mm_b r))) M2) ∧ (∀ (v1 : Int32) (M : mm_M) (r : Bool) (M2 : mm_M), F 1 v1 M = some (r, M2) → mm_P E Y_X4_readTerm nd [.ref 9, .int v1] M (some (.int (mm_b r))) M2) ∧ (∀ (v1 : Int32) (M : mm_M) (r : Bool) (M2 : mm_M), F 2 v1 M = some (r, M2) → mm_P E Y_X4_readFactor nd [.ref 9, .int v1] M (some (.int (mm_b r))) M2)) (v1 : Int32) {k55 : mm_M → Option (Bool × mm_M)} {k72 : mm_M → Option (Bool × mm_M)} (hk55 : ∀ (M : mm_M), mm_G (fun x : Bool => some (.int (mm_b x))) E Y_X4_readSum (nd + 1) 55 [] [] M (k55 M)) (hk72 : ∀ (M : mm_M), mm_G (fun x : Bool => some (.int (mm_b x))) E Y_X4_readSum (nd + 1) 72 [] [] M (k72 M)) : ∀ (n : Nat) (v2 : Int32) (M : mm_M), mm_G (fun x : Bool => some (.int (mm_b x))) E Y_X4_readSum (nd + 1) 12 [(0, .ref 9), (1, .int v1), (2, .int v2)] [] M (lp_LawReader_readSum_12 F v1 k55 k72 n v2 M) := by
  have hB := hF.1
  intro n
  induction n with
  | zero => intro v2 M r M2 he; cases he
  | succ n ih =>
    intro v2 M
    rw [lp_LawReader_readSum_12]
    refine mm_iload_n 2 dX4_readSum_12 rfl ?_
    refine mm_sipush (v := 160) dX4_readSum_13 rfl ?_
    refine mm_icmp_ge 72 dX4_readSum_16 rfl ?_ ?_
    · refine mm_wk [] rfl ?_
      exact hk72  M
    · refine mm_aload_n 0 dX4_readSum_19 rfl ?_
      refine mm_getR 2 dX4_readSum_20 fl_RX4_9 lo_9 rfl ?_
      refine mm_ldcT (t := 144) dX4_readSum_23 ss_4 rfl ?_
      refine mm_callVi (as := [.ref 144]) (st := []) (c_TextReader_among_144 E M) dX4_readSum_25 mz_X10_among lk_RX4_51 im_X10_among se_X10_among lo_2 rfl rfl rfl ⟨by omega, by show 8 + (2 + 11) + _ ≤ _; omega⟩ (Nat.le_of_ble_eq_true rfl) (fun r_3 M_4 => ?_)
      refine mm_iconst (v := (-1)) dX4_readSum_28 rfl ?_
      refine mm_icmp_eq 72 dX4_readSum_29 rfl ?_ ?_
      · refine mm_wk [] rfl ?_
        exact hk72  M_4
      · refine mm_aload_n 0 dX4_readSum_32 rfl ?_
        refine mm_getR 2 dX4_readSum_33 fl_RX4_9 lo_9 rfl ?_
        refine mm_getI dX4_readSum_36 fl_RX4_46 lo_2 rfl ?_
        refine mm_nm_int (fun v3_5 => ?_)
        refine mm_istore_n [1, 2, 3, 0] (lv2 := [(0, .ref 9), (1, .int v1), (2, .int v2), (3, .int v3_5)]) dX4_readSum_39 (by decide) rfl ?_
        refine mm_aload_n 0 dX4_readSum_40 rfl ?_
        refine mm_getR 2 dX4_readSum_41 fl_RX4_9 lo_9 rfl ?_
        refine mm_callVv (as := []) (st := []) (c_TextReader_step E M_4) dX4_readSum_44 mz_X10_step lk_RX4_58 im_X10_step se_X10_step lo_2 rfl rfl rfl ⟨by omega, by show 8 + (1 + 11) + _ ≤ _; omega⟩ (Nat.le_of_ble_eq_true rfl) (fun u_6 M_7 => ?_)
        refine mm_aload_n 0 dX4_readSum_47 rfl ?_
        refine mm_iload_n 1 dX4_readSum_48 rfl ?_
        refine mm_callVz (as := [.int v1]) (st := []) (hF.2.2.1 v1 M_7) dX4_readSum_49 mz_X4_readTerm lk_RX4_99 im_X4_readTerm se_X4_readTerm lo_9 rfl rfl rfl ⟨by omega, by show 8 + (4 + 11) + _ ≤ _; omega⟩ (Nat.le_of_ble_eq_true rfl) (fun b_8 M_9 => ?_)
        refine mm_if_ne_b 57 dX4_readSum_52 rfl ?_ ?_
        · refine mm_aload_n 0 dX4_readSum_57 rfl ?_
          refine mm_getR 8 dX4_readSum_58 fl_RX4_15 lo_9 rfl ?_
          refine mm_iload_n 3 dX4_readSum_61 rfl ?_
          refine mm_iconst (v := 0) dX4_readSum_62 rfl ?_
          refine mm_callVv (as := [.int v3_5, .int 0]) (st := []) (c_Law_addStep_8 E v3_5 0 M_9) dX4_readSum_63 mz_X3_addStep lk_RX4_90 im_X3_addStep se_X3_addStep lo_8 rfl rfl rfl ⟨by omega, by show 8 + (3 + 11) + _ ≤ _; omega⟩ (Nat.le_of_ble_eq_true rfl) (fun u_10 M_11 => ?_)
          refine mm_iincN 2 [1, 2, 0, 3] (v := v2 + 1) (lv2 := fun v2_12 => [(0, .ref 9), (1, .int v1), (2, .int v2_12), (3, .int v3_5)]) dX4_readSum_66 rfl rfl (by decide) (fun _ => rfl) (fun v2_12 => ?_)
          refine mm_goto 12 dX4_readSum_69 rfl ?_
          refine mm_wk [0, 1, 2] rfl ?_
          exact ih v2_12 M_11
        · refine mm_wk [] rfl ?_
          exact hk55  M_9
def fb_LawReader_readSum (F : Nat → Int32 → mm_M → Option (Bool × mm_M)) (v1 : Int32) (M : mm_M) : Option (Bool × mm_M) := mm_bd (F 1 v1 M) fun b_1 M_2 => if b_1 = true then lp_LawReader_readSum_12 F v1 (fun (M_13 : mm_M) => some (false, M_13)) (fun (M_14 : mm_M) => some (true, M_14)) mm_fu 0 M_2 else some (false, M_2)
set_option maxHeartbeats 4000000 in
theorem cb_LawReader_readSum (E : mm_E) {nd : Nat} {F : Nat → Int32 → mm_M → Option (Bool × mm_M)} (hF : 7 ≤ nd ∧ (∀ (v1 : Int32) (M : mm_M) (r : Bool) (M2 : mm_M), F 0 v1 M = some (r, M2) → mm_P E Y_X4_readSum nd [.ref 9, .int v1] M (some (.int (mm_b r))) M2) ∧ (∀ (v1 : Int32) (M : mm_M) (r : Bool) (M2 : mm_M), F 1 v1 M = some (r, M2) → mm_P E Y_X4_readTerm nd [.ref 9, .int v1] M (some (.int (mm_b r))) M2) ∧ (∀ (v1 : Int32) (M : mm_M) (r : Bool) (M2 : mm_M), F 2 v1 M = some (r, M2) → mm_P E Y_X4_readFactor nd [.ref 9, .int v1] M (some (.int (mm_b r))) M2)) (v1 : Int32) (M : mm_M) : ∀ (r : Bool) (M2 : mm_M), fb_LawReader_readSum F v1 M = some (r, M2) → mm_P E Y_X4_readSum (nd + 1) [.ref 9, .int v1] M (some (.int (mm_b r))) M2 := by
  have hB := hF.1
  refine mm_entry (em := (fun x : Bool => some (.int (mm_b x)))) (by decide +kernel) (Nat.le_of_ble_eq_true rfl) ?_
  show mm_G _ E _ _ 0 [(0, .ref 9), (1, .int v1)] [] M _
  unfold fb_LawReader_readSum
  refine mm_aload_n 0 dX4_readSum_0 rfl ?_
  refine mm_iload_n 1 dX4_readSum_1 rfl ?_
  refine mm_callVz (as := [.int v1]) (st := []) (hF.2.2.1 v1 M) dX4_readSum_2 mz_X4_readTerm lk_RX4_99 im_X4_readTerm se_X4_readTerm lo_9 rfl rfl rfl ⟨by omega, by show 8 + (4 + 11) + _ ≤ _; omega⟩ (Nat.le_of_ble_eq_true rfl) (fun b_1 M_2 => ?_)
  refine mm_if_ne_b 10 dX4_readSum_5 rfl ?_ ?_
  · refine mm_iconst (v := 0) dX4_readSum_10 rfl ?_
    refine mm_istore_n [1, 2, 0] (lv2 := [(0, .ref 9), (1, .int v1), (2, .int 0)]) dX4_readSum_11 (by decide) rfl ?_
    refine lp_LawReader_readSum_12_ok E hF v1 ?_ ?_ mm_fu 0 M_2
    · intro M_13
      refine mm_iconst (v := 0) dX4_readSum_55 rfl ?_
      exact mm_zret (b := false) dX4_readSum_56 rfl
    · intro M_14
      refine mm_iconst (v := 1) dX4_readSum_72 rfl ?_
      exact mm_zret (b := true) dX4_readSum_73 rfl
  · refine mm_iconst (v := 0) dX4_readSum_8 rfl ?_
    exact mm_zret (b := false) dX4_readSum_9 rfl
def lp_LawReader_readTerm_12 (F : Nat → Int32 → mm_M → Option (Bool × mm_M)) (v1 : Int32) (k55 : mm_M → Option (Bool × mm_M)) (k72 : mm_M → Option (Bool × mm_M)) : Nat → Int32 → mm_M → Option (Bool × mm_M)
  | 0, _, _ => none
  | n + 1, v2, M => if 160 ≤ v2 then k72 M else mm_bd (f_TextReader_among_143 M) fun r_3 M_4 => if r_3 = (-1) then k72 M_4 else mm_let (M_4.1 2 3) fun v3_5 => mm_bd (f_TextReader_step M_4) fun u_6 M_7 => mm_bd (F 2 v1 M_7) fun b_8 M_9 => if b_8 = true then mm_bd (f_Law_addStep_8 v3_5 0 M_9) fun u_10 M_11 => mm_let (v2 + 1) fun v2_12 => lp_LawReader_readTerm_12 F v1 k55 k72 n v2_12 M_11 else k55 M_9
set_option maxHeartbeats 4000000 in
theorem lp_LawReader_readTerm_12_ok (E : mm_E) {nd : Nat} {F : Nat → Int32 → mm_M → Option (Bool × mm_M)} (hF : 7 ≤ nd ∧ (∀ (v1 : Int32) (M : mm_M) (r : Bool) (M2 : mm_M), F 0 v1 M = some (r, M2) → mm_P E Y_X4_readSum nd [.ref 9, .int v1] M (some (.int (mm_b r))) M2) ∧ (∀ (v1 : Int32) (M : mm_M) (r : Bool) (M2 : mm_M), F 1 v1 M = some (r, M2) → mm_P E Y_X4_readTerm nd [.ref 9, .int v1] M (some (.int (mm_b r))) M2) ∧ (∀ (v1 : Int32) (M : mm_M) (r : Bool) (M2 : mm_M), F 2 v1 M = some (r, M2) → mm_P E Y_X4_readFactor nd [.ref 9, .int v1] M (some (.int (mm_b r))) M2)) (v1 : Int32) {k55 : mm_M → Option (Bool × mm_M)} {k72 : mm_M → Option (Bool × mm_M)} (hk55 : ∀ (M : mm_M), mm_G (fun x : Bool => some (.int (mm_b x))) E Y_X4_readTerm (nd + 1) 55 [] [] M (k55 M)) (hk72 : ∀ (M : mm_M), mm_G (fun x : Bool => some (.int (mm_b x))) E Y_X4_readTerm (nd + 1) 72 [] [] M (k72 M)) : ∀ (n : Nat) (v2 : Int32) (M : mm_M), mm_G (fun x : Bool => some (.int (mm_b x))) E Y_X4_readTerm (nd + 1) 12 [(0, .ref 9), (1, .int v1), (2, .int v2)] [] M (lp_LawReader_readTerm_12 F v1 k55 k72 n v2 M) := by
  have hB := hF.1
  intro n
  induction n with
  | zero => intro v2 M r M2 he; cases he
  | succ n ih =>
    intro v2 M
    rw [lp_LawReader_readTerm_12]
    refine mm_iload_n 2 dX4_readTerm_12 rfl ?_
    refine mm_sipush (v := 160) dX4_readTerm_13 rfl ?_
    refine mm_icmp_ge 72 dX4_readTerm_16 rfl ?_ ?_
    · refine mm_wk [] rfl ?_
      exact hk72  M
    · refine mm_aload_n 0 dX4_readTerm_19 rfl ?_
      refine mm_getR 2 dX4_readTerm_20 fl_RX4_9 lo_9 rfl ?_
      refine mm_ldcT (t := 143) dX4_readTerm_23 ss_3 rfl ?_
      refine mm_callVi (as := [.ref 143]) (st := []) (c_TextReader_among_143 E M) dX4_readTerm_25 mz_X10_among lk_RX4_51 im_X10_among se_X10_among lo_2 rfl rfl rfl ⟨by omega, by show 8 + (2 + 11) + _ ≤ _; omega⟩ (Nat.le_of_ble_eq_true rfl) (fun r_3 M_4 => ?_)
      refine mm_iconst (v := (-1)) dX4_readTerm_28 rfl ?_
      refine mm_icmp_eq 72 dX4_readTerm_29 rfl ?_ ?_
      · refine mm_wk [] rfl ?_
        exact hk72  M_4
      · refine mm_aload_n 0 dX4_readTerm_32 rfl ?_
        refine mm_getR 2 dX4_readTerm_33 fl_RX4_9 lo_9 rfl ?_
        refine mm_getI dX4_readTerm_36 fl_RX4_46 lo_2 rfl ?_
        refine mm_nm_int (fun v3_5 => ?_)
        refine mm_istore_n [1, 2, 3, 0] (lv2 := [(0, .ref 9), (1, .int v1), (2, .int v2), (3, .int v3_5)]) dX4_readTerm_39 (by decide) rfl ?_
        refine mm_aload_n 0 dX4_readTerm_40 rfl ?_
        refine mm_getR 2 dX4_readTerm_41 fl_RX4_9 lo_9 rfl ?_
        refine mm_callVv (as := []) (st := []) (c_TextReader_step E M_4) dX4_readTerm_44 mz_X10_step lk_RX4_58 im_X10_step se_X10_step lo_2 rfl rfl rfl ⟨by omega, by show 8 + (1 + 11) + _ ≤ _; omega⟩ (Nat.le_of_ble_eq_true rfl) (fun u_6 M_7 => ?_)
        refine mm_aload_n 0 dX4_readTerm_47 rfl ?_
        refine mm_iload_n 1 dX4_readTerm_48 rfl ?_
        refine mm_callVz (as := [.int v1]) (st := []) (hF.2.2.2 v1 M_7) dX4_readTerm_49 mz_X4_readFactor lk_RX4_104 im_X4_readFactor se_X4_readFactor lo_9 rfl rfl rfl ⟨by omega, by show 8 + (4 + 11) + _ ≤ _; omega⟩ (Nat.le_of_ble_eq_true rfl) (fun b_8 M_9 => ?_)
        refine mm_if_ne_b 57 dX4_readTerm_52 rfl ?_ ?_
        · refine mm_aload_n 0 dX4_readTerm_57 rfl ?_
          refine mm_getR 8 dX4_readTerm_58 fl_RX4_15 lo_9 rfl ?_
          refine mm_iload_n 3 dX4_readTerm_61 rfl ?_
          refine mm_iconst (v := 0) dX4_readTerm_62 rfl ?_
          refine mm_callVv (as := [.int v3_5, .int 0]) (st := []) (c_Law_addStep_8 E v3_5 0 M_9) dX4_readTerm_63 mz_X3_addStep lk_RX4_90 im_X3_addStep se_X3_addStep lo_8 rfl rfl rfl ⟨by omega, by show 8 + (3 + 11) + _ ≤ _; omega⟩ (Nat.le_of_ble_eq_true rfl) (fun u_10 M_11 => ?_)
          refine mm_iincN 2 [1, 2, 0, 3] (v := v2 + 1) (lv2 := fun v2_12 => [(0, .ref 9), (1, .int v1), (2, .int v2_12), (3, .int v3_5)]) dX4_readTerm_66 rfl rfl (by decide) (fun _ => rfl) (fun v2_12 => ?_)
          refine mm_goto 12 dX4_readTerm_69 rfl ?_
          refine mm_wk [0, 1, 2] rfl ?_
          exact ih v2_12 M_11
        · refine mm_wk [] rfl ?_
          exact hk55  M_9
def fb_LawReader_readTerm (F : Nat → Int32 → mm_M → Option (Bool × mm_M)) (v1 : Int32) (M : mm_M) : Option (Bool × mm_M) := mm_bd (F 2 v1 M) fun b_1 M_2 => if b_1 = true then lp_LawReader_readTerm_12 F v1 (fun (M_13 : mm_M) => some (false, M_13)) (fun (M_14 : mm_M) => some (true, M_14)) mm_fu 0 M_2 else some (false, M_2)
set_option maxHeartbeats 4000000 in
theorem cb_LawReader_readTerm (E : mm_E) {nd : Nat} {F : Nat → Int32 → mm_M → Option (Bool × mm_M)} (hF : 7 ≤ nd ∧ (∀ (v1 : Int32) (M : mm_M) (r : Bool) (M2 : mm_M), F 0 v1 M = some (r, M2) → mm_P E Y_X4_readSum nd [.ref 9, .int v1] M (some (.int (mm_b r))) M2) ∧ (∀ (v1 : Int32) (M : mm_M) (r : Bool) (M2 : mm_M), F 1 v1 M = some (r, M2) → mm_P E Y_X4_readTerm nd [.ref 9, .int v1] M (some (.int (mm_b r))) M2) ∧ (∀ (v1 : Int32) (M : mm_M) (r : Bool) (M2 : mm_M), F 2 v1 M = some (r, M2) → mm_P E Y_X4_readFactor nd [.ref 9, .int v1] M (some (.int (mm_b r))) M2)) (v1 : Int32) (M : mm_M) : ∀ (r : Bool) (M2 : mm_M), fb_LawReader_readTerm F v1 M = some (r, M2) → mm_P E Y_X4_readTerm (nd + 1) [.ref 9, .int v1] M (some (.int (mm_b r))) M2 := by
  have hB := hF.1
  refine mm_entry (em := (fun x : Bool => some (.int (mm_b x)))) (by decide +kernel) (Nat.le_of_ble_eq_true rfl) ?_
  show mm_G _ E _ _ 0 [(0, .ref 9), (1, .int v1)] [] M _
  unfold fb_LawReader_readTerm
  refine mm_aload_n 0 dX4_readTerm_0 rfl ?_
  refine mm_iload_n 1 dX4_readTerm_1 rfl ?_
  refine mm_callVz (as := [.int v1]) (st := []) (hF.2.2.2 v1 M) dX4_readTerm_2 mz_X4_readFactor lk_RX4_104 im_X4_readFactor se_X4_readFactor lo_9 rfl rfl rfl ⟨by omega, by show 8 + (4 + 11) + _ ≤ _; omega⟩ (Nat.le_of_ble_eq_true rfl) (fun b_1 M_2 => ?_)
  refine mm_if_ne_b 10 dX4_readTerm_5 rfl ?_ ?_
  · refine mm_iconst (v := 0) dX4_readTerm_10 rfl ?_
    refine mm_istore_n [1, 2, 0] (lv2 := [(0, .ref 9), (1, .int v1), (2, .int 0)]) dX4_readTerm_11 (by decide) rfl ?_
    refine lp_LawReader_readTerm_12_ok E hF v1 ?_ ?_ mm_fu 0 M_2
    · intro M_13
      refine mm_iconst (v := 0) dX4_readTerm_55 rfl ?_
      exact mm_zret (b := false) dX4_readTerm_56 rfl
    · intro M_14
      refine mm_iconst (v := 1) dX4_readTerm_72 rfl ?_
      exact mm_zret (b := true) dX4_readTerm_73 rfl
  · refine mm_iconst (v := 0) dX4_readTerm_8 rfl ?_
    exact mm_zret (b := false) dX4_readTerm_9 rfl
def fb_LawReader_readFactor (F : Nat → Int32 → mm_M → Option (Bool × mm_M)) (v1 : Int32) (M : mm_M) : Option (Bool × mm_M) := if M.1 2 3 = 91 then mm_bd (f_LawReader_mayOpen v1 M) fun b_15 M_16 => if b_15 = true then mm_bd (F 0 (v1 + 1) M_16) fun b_17 M_18 => if b_17 = true then mm_bd (f_TextReader_take 93 M_18) fun b_19 M_20 => if b_19 = true then some (true, M_20) else some (false, M_20) else some (false, M_18) else some (false, M_16) else mm_bd (f_TextReader_among_142 M) fun r_1 M_2 => if r_1 = (-1) then mm_bd (f_TextReader_number 5 M_2) fun r_3 M_4 => if r_3 = (-1) then some (false, M_4) else mm_bd (f_TextReader_atDigit M_4) fun b_5 M_6 => if b_5 = true then mm_bd (f_TextReader_failHere 2 M_6) fun b_9 M_10 => some (b_9, M_10) else mm_bd (f_Law_addStep_8 78 r_3 M_6) fun u_7 M_8 => some (true, M_8) else mm_bd (f_TextReader_step M_2) fun u_11 M_12 => mm_bd (f_Law_addStep_8 76 r_1 M_12) fun u_13 M_14 => some (true, M_14)
set_option maxHeartbeats 4000000 in
theorem cb_LawReader_readFactor (E : mm_E) {nd : Nat} {F : Nat → Int32 → mm_M → Option (Bool × mm_M)} (hF : 7 ≤ nd ∧ (∀ (v1 : Int32) (M : mm_M) (r : Bool) (M2 : mm_M), F 0 v1 M = some (r, M2) → mm_P E Y_X4_readSum nd [.ref 9, .int v1] M (some (.int (mm_b r))) M2) ∧ (∀ (v1 : Int32) (M : mm_M) (r : Bool) (M2 : mm_M), F 1 v1 M = some (r, M2) → mm_P E Y_X4_readTerm nd [.ref 9, .int v1] M (some (.int (mm_b r))) M2) ∧ (∀ (v1 : Int32) (M : mm_M) (r : Bool) (M2 : mm_M), F 2 v1 M = some (r, M2) → mm_P E Y_X4_readFactor nd [.ref 9, .int v1] M (some (.int (mm_b r))) M2)) (v1 : Int32) (M : mm_M) : ∀ (r : Bool) (M2 : mm_M), fb_LawReader_readFactor F v1 M = some (r, M2) → mm_P E Y_X4_readFactor (nd + 1) [.ref 9, .int v1] M (some (.int (mm_b r))) M2 := by
  have hB := hF.1
  refine mm_entry (em := (fun x : Bool => some (.int (mm_b x)))) (by decide +kernel) (Nat.le_of_ble_eq_true rfl) ?_
  show mm_G _ E _ _ 0 [(0, .ref 9), (1, .int v1)] [] M _
  unfold fb_LawReader_readFactor
  refine mm_aload_n 0 dX4_readFactor_0 rfl ?_
  refine mm_getR 2 dX4_readFactor_1 fl_RX4_9 lo_9 rfl ?_
  refine mm_getI dX4_readFactor_4 fl_RX4_46 lo_2 rfl ?_
  refine mm_bipush (v := 91) dX4_readFactor_7 rfl ?_
  refine mm_icmp_ne 48 dX4_readFactor_9 rfl ?_ ?_
  · refine mm_aload_n 0 dX4_readFactor_48 rfl ?_
    refine mm_getR 2 dX4_readFactor_49 fl_RX4_9 lo_9 rfl ?_
    refine mm_ldcT (t := 142) dX4_readFactor_52 ss_2 rfl ?_
    refine mm_callVi (as := [.ref 142]) (st := []) (c_TextReader_among_142 E M) dX4_readFactor_54 mz_X10_among lk_RX4_51 im_X10_among se_X10_among lo_2 rfl rfl rfl ⟨by omega, by show 8 + (2 + 11) + _ ≤ _; omega⟩ (Nat.le_of_ble_eq_true rfl) (fun r_1 M_2 => ?_)
    refine mm_istore_n [1, 2, 0] (lv2 := [(0, .ref 9), (1, .int v1), (2, .int r_1)]) dX4_readFactor_57 (by decide) rfl ?_
    refine mm_iload_n 2 dX4_readFactor_58 rfl ?_
    refine mm_iconst (v := (-1)) dX4_readFactor_59 rfl ?_
    refine mm_icmp_eq 82 dX4_readFactor_60 rfl ?_ ?_
    · refine mm_aload_n 0 dX4_readFactor_82 rfl ?_
      refine mm_getR 2 dX4_readFactor_83 fl_RX4_9 lo_9 rfl ?_
      refine mm_iconst (v := 5) dX4_readFactor_86 rfl ?_
      refine mm_callVi (as := [.int 5]) (st := []) (c_TextReader_number E 5 M_2) dX4_readFactor_87 mz_X10_number lk_RX4_111 im_X10_number se_X10_number lo_2 rfl rfl rfl ⟨by omega, by show 8 + (4 + 11) + _ ≤ _; omega⟩ (Nat.le_of_ble_eq_true rfl) (fun r_3 M_4 => ?_)
      refine mm_istore_n [1, 2, 3, 0] (lv2 := [(0, .ref 9), (1, .int v1), (2, .int r_1), (3, .int r_3)]) dX4_readFactor_90 (by decide) rfl ?_
      refine mm_iload_n 3 dX4_readFactor_91 rfl ?_
      refine mm_iconst (v := (-1)) dX4_readFactor_92 rfl ?_
      refine mm_icmp_ne 98 dX4_readFactor_93 rfl ?_ ?_
      · refine mm_aload_n 0 dX4_readFactor_98 rfl ?_
        refine mm_getR 2 dX4_readFactor_99 fl_RX4_9 lo_9 rfl ?_
        refine mm_callVz (as := []) (st := []) (c_TextReader_atDigit E M_4) dX4_readFactor_102 mz_X10_atDigit lk_RX4_115 im_X10_atDigit se_X10_atDigit lo_2 rfl rfl rfl ⟨by omega, by show 8 + (1 + 11) + _ ≤ _; omega⟩ (Nat.le_of_ble_eq_true rfl) (fun b_5 M_6 => ?_)
        refine mm_if_eq_b 117 dX4_readFactor_105 rfl ?_ ?_
        · refine mm_aload_n 0 dX4_readFactor_117 rfl ?_
          refine mm_getR 8 dX4_readFactor_118 fl_RX4_15 lo_9 rfl ?_
          refine mm_bipush (v := 78) dX4_readFactor_121 rfl ?_
          refine mm_iload_n 3 dX4_readFactor_123 rfl ?_
          refine mm_callVv (as := [.int 78, .int r_3]) (st := []) (c_Law_addStep_8 E 78 r_3 M_6) dX4_readFactor_124 mz_X3_addStep lk_RX4_90 im_X3_addStep se_X3_addStep lo_8 rfl rfl rfl ⟨by omega, by show 8 + (3 + 11) + _ ≤ _; omega⟩ (Nat.le_of_ble_eq_true rfl) (fun u_7 M_8 => ?_)
          refine mm_iconst (v := 1) dX4_readFactor_127 rfl ?_
          exact mm_zret (b := true) dX4_readFactor_128 rfl
        · refine mm_aload_n 0 dX4_readFactor_108 rfl ?_
          refine mm_getR 2 dX4_readFactor_109 fl_RX4_9 lo_9 rfl ?_
          refine mm_iconst (v := 2) dX4_readFactor_112 rfl ?_
          refine mm_callVz (as := [.int 2]) (st := []) (c_TextReader_failHere E 2 M_6) dX4_readFactor_113 mz_X10_failHere lk_RX4_55 im_X10_failHere se_X10_failHere lo_2 rfl rfl rfl ⟨by omega, by show 8 + (2 + 11) + _ ≤ _; omega⟩ (Nat.le_of_ble_eq_true rfl) (fun b_9 M_10 => ?_)
          exact mm_zret (b := b_9) dX4_readFactor_116 rfl
      · refine mm_iconst (v := 0) dX4_readFactor_96 rfl ?_
        exact mm_zret (b := false) dX4_readFactor_97 rfl
    · refine mm_aload_n 0 dX4_readFactor_63 rfl ?_
      refine mm_getR 2 dX4_readFactor_64 fl_RX4_9 lo_9 rfl ?_
      refine mm_callVv (as := []) (st := []) (c_TextReader_step E M_2) dX4_readFactor_67 mz_X10_step lk_RX4_58 im_X10_step se_X10_step lo_2 rfl rfl rfl ⟨by omega, by show 8 + (1 + 11) + _ ≤ _; omega⟩ (Nat.le_of_ble_eq_true rfl) (fun u_11 M_12 => ?_)
      refine mm_aload_n 0 dX4_readFactor_70 rfl ?_
      refine mm_getR 8 dX4_readFactor_71 fl_RX4_15 lo_9 rfl ?_
      refine mm_bipush (v := 76) dX4_readFactor_74 rfl ?_
      refine mm_iload_n 2 dX4_readFactor_76 rfl ?_
      refine mm_callVv (as := [.int 76, .int r_1]) (st := []) (c_Law_addStep_8 E 76 r_1 M_12) dX4_readFactor_77 mz_X3_addStep lk_RX4_90 im_X3_addStep se_X3_addStep lo_8 rfl rfl rfl ⟨by omega, by show 8 + (3 + 11) + _ ≤ _; omega⟩ (Nat.le_of_ble_eq_true rfl) (fun u_13 M_14 => ?_)
      refine mm_iconst (v := 1) dX4_readFactor_80 rfl ?_
      exact mm_zret (b := true) dX4_readFactor_81 rfl
  · refine mm_aload_n 0 dX4_readFactor_12 rfl ?_
    refine mm_iload_n 1 dX4_readFactor_13 rfl ?_
    refine mm_callVz (as := [.int v1]) (st := []) (c_LawReader_mayOpen E v1 M) dX4_readFactor_14 mz_X4_mayOpen lk_RX4_87 im_X4_mayOpen se_X4_mayOpen lo_9 rfl rfl rfl ⟨by omega, by show 8 + (2 + 11) + _ ≤ _; omega⟩ (Nat.le_of_ble_eq_true rfl) (fun b_15 M_16 => ?_)
    refine mm_if_eq_b 46 dX4_readFactor_17 rfl ?_ ?_
    · refine mm_iconst (v := 0) dX4_readFactor_46 rfl ?_
      exact mm_zret (b := false) dX4_readFactor_47 rfl
    · refine mm_aload_n 0 dX4_readFactor_20 rfl ?_
      refine mm_iload_n 1 dX4_readFactor_21 rfl ?_
      refine mm_iconst (v := 1) dX4_readFactor_22 rfl ?_
      refine mm_iadd dX4_readFactor_23 ?_
      refine mm_callVz (as := [.int (v1 + 1)]) (st := []) (hF.2.1 (v1 + 1) M_16) dX4_readFactor_24 mz_X4_readSum lk_RX4_64 im_X4_readSum se_X4_readSum lo_9 rfl rfl rfl ⟨by omega, by show 8 + (4 + 11) + _ ≤ _; omega⟩ (Nat.le_of_ble_eq_true rfl) (fun b_17 M_18 => ?_)
      refine mm_if_eq_b 46 dX4_readFactor_27 rfl ?_ ?_
      · refine mm_iconst (v := 0) dX4_readFactor_46 rfl ?_
        exact mm_zret (b := false) dX4_readFactor_47 rfl
      · refine mm_aload_n 0 dX4_readFactor_30 rfl ?_
        refine mm_getR 2 dX4_readFactor_31 fl_RX4_9 lo_9 rfl ?_
        refine mm_bipush (v := 93) dX4_readFactor_34 rfl ?_
        refine mm_callVz (as := [.int 93]) (st := []) (c_TextReader_take E 93 M_18) dX4_readFactor_36 mz_X10_take lk_RX4_42 im_X10_take se_X10_take lo_2 rfl rfl rfl ⟨by omega, by show 8 + (2 + 11) + _ ≤ _; omega⟩ (Nat.le_of_ble_eq_true rfl) (fun b_19 M_20 => ?_)
        refine mm_if_eq_b 46 dX4_readFactor_39 rfl ?_ ?_
        · refine mm_iconst (v := 0) dX4_readFactor_46 rfl ?_
          exact mm_zret (b := false) dX4_readFactor_47 rfl
        · refine mm_iconst (v := 1) dX4_readFactor_42 rfl ?_
          refine mm_goto 47 dX4_readFactor_43 rfl ?_
          exact mm_zret (b := true) dX4_readFactor_47 rfl
def g_LawReader_readSum : Nat → Nat → Int32 → mm_M → Option (Bool × mm_M)
  | 0, _, _, _ => none
  | n + 1, i, v1, M => if i = 0 then fb_LawReader_readSum (g_LawReader_readSum n) v1 M else if i = 1 then fb_LawReader_readTerm (g_LawReader_readSum n) v1 M else if i = 2 then fb_LawReader_readFactor (g_LawReader_readSum n) v1 M else none
theorem g_LawReader_readSum_ok (E : mm_E) : ∀ (n nd : Nat), nd = 7 + n → (∀ (v1 : Int32) (M : mm_M) (r : Bool) (M2 : mm_M), g_LawReader_readSum n 0 v1 M = some (r, M2) → mm_P E Y_X4_readSum nd [.ref 9, .int v1] M (some (.int (mm_b r))) M2) ∧ (∀ (v1 : Int32) (M : mm_M) (r : Bool) (M2 : mm_M), g_LawReader_readSum n 1 v1 M = some (r, M2) → mm_P E Y_X4_readTerm nd [.ref 9, .int v1] M (some (.int (mm_b r))) M2) ∧ (∀ (v1 : Int32) (M : mm_M) (r : Bool) (M2 : mm_M), g_LawReader_readSum n 2 v1 M = some (r, M2) → mm_P E Y_X4_readFactor nd [.ref 9, .int v1] M (some (.int (mm_b r))) M2) := by
  intro n
  induction n with
  | zero => exact fun nd _ => ⟨(fun v1 M r M2 h => by cases h), (fun v1 M r M2 h => by cases h), (fun v1 M r M2 h => by cases h)⟩
  | succ n ih =>
    intro nd hnd
    obtain ⟨nd, rfl⟩ : ∃ k, nd = k + 1 := ⟨7 + n, by omega⟩
    have hF := And.intro (show 7 ≤ nd by omega) (ih nd (by omega))
    refine ⟨?_, ?_, ?_⟩
    · intro v1 M r M2 h
      rw [g_LawReader_readSum, if_pos rfl] at h
      exact cb_LawReader_readSum E (F := g_LawReader_readSum n) hF v1 M r M2 h
    · intro v1 M r M2 h
      rw [g_LawReader_readSum, if_neg (by decide), if_pos rfl] at h
      exact cb_LawReader_readTerm E (F := g_LawReader_readSum n) hF v1 M r M2 h
    · intro v1 M r M2 h
      rw [g_LawReader_readSum, if_neg (by decide), if_neg (by decide), if_pos rfl] at h
      exact cb_LawReader_readFactor E (F := g_LawReader_readSum n) hF v1 M r M2 h
def f_LawReader_readSum (n : Nat) (v1 : Int32) (M : mm_M) : Option (Bool × mm_M) := g_LawReader_readSum n 0 v1 M
theorem c_LawReader_readSum (E : mm_E) (n : Nat) (v1 : Int32) (M : mm_M) : ∀ (r : Bool) (M2 : mm_M), f_LawReader_readSum n v1 M = some (r, M2) → mm_P E Y_X4_readSum (7 + n) [.ref 9, .int v1] M (some (.int (mm_b r))) M2 := fun r M2 h => (g_LawReader_readSum_ok E n _ rfl).1 v1 M r M2 h
def f_LawReader_readTerm (n : Nat) (v1 : Int32) (M : mm_M) : Option (Bool × mm_M) := g_LawReader_readSum n 1 v1 M
theorem c_LawReader_readTerm (E : mm_E) (n : Nat) (v1 : Int32) (M : mm_M) : ∀ (r : Bool) (M2 : mm_M), f_LawReader_readTerm n v1 M = some (r, M2) → mm_P E Y_X4_readTerm (7 + n) [.ref 9, .int v1] M (some (.int (mm_b r))) M2 := fun r M2 h => (g_LawReader_readSum_ok E n _ rfl).2.1 v1 M r M2 h
def f_LawReader_readFactor (n : Nat) (v1 : Int32) (M : mm_M) : Option (Bool × mm_M) := g_LawReader_readSum n 2 v1 M
theorem c_LawReader_readFactor (E : mm_E) (n : Nat) (v1 : Int32) (M : mm_M) : ∀ (r : Bool) (M2 : mm_M), f_LawReader_readFactor n v1 M = some (r, M2) → mm_P E Y_X4_readFactor (7 + n) [.ref 9, .int v1] M (some (.int (mm_b r))) M2 := fun r M2 h => (g_LawReader_readSum_ok E n _ rfl).2.2 v1 M r M2 h
def f_Law_endExit_8 (v1 : Int32) (M : mm_M) : Option (Unit × mm_M) := mm_bd (f_H_isBelow v1 (M.1 8 2) M) fun b_1 M_2 => if b_1 = true then if mm_in v1 (mm_al 54) = true then mm_let (mm_setA M_2 54 (v1.toNatClampNeg) (M_2.1 8 2)) fun M_3 => some ((), M_3) else none else some ((), M_2)
set_option maxHeartbeats 4000000 in
theorem c_Law_endExit_8 (E : mm_E) (v1 : Int32) (M : mm_M) : ∀ (r : Unit) (M2 : mm_M), f_Law_endExit_8 v1 M = some (r, M2) → mm_P E Y_X3_endExit 2 [.ref 8, .int v1] M none M2 := by
  refine mm_entry (em := (fun _ : Unit => none)) (by decide +kernel) (Nat.le_of_ble_eq_true rfl) ?_
  show mm_G _ E _ _ 0 [(0, .ref 8), (1, .int v1)] [] M _
  unfold f_Law_endExit_8
  refine mm_iload_n 1 dX3_endExit_0 rfl ?_
  refine mm_aload_n 0 dX3_endExit_1 rfl ?_
  refine mm_getI dX3_endExit_2 fl_RX3_36 lo_8 rfl ?_
  refine mm_callSNz (as := [.int v1, .int (M.1 8 2)]) (st := []) (c_H_isBelow E v1 (M.1 8 2) M) dX3_endExit_5 mz_X11_isBelow lk_RX3_57 sm_X11_isBelow rfl ⟨Nat.le_of_ble_eq_true rfl, Nat.le_of_ble_eq_true rfl⟩ (Nat.le_of_ble_eq_true rfl) (fun b_1 M_2 => ?_)
  refine mm_if_eq_b 21 dX3_endExit_8 rfl ?_ ?_
  · exact mm_vret dX3_endExit_21 rfl
  · refine mm_aload_n 0 dX3_endExit_11 rfl ?_
    refine mm_getR 54 dX3_endExit_12 fl_RX3_15 lo_8 rfl ?_
    refine mm_iload_n 1 dX3_endExit_15 rfl ?_
    refine mm_aload_n 0 dX3_endExit_16 rfl ?_
    refine mm_getI dX3_endExit_17 fl_RX3_36 lo_8 rfl ?_
    refine mm_iastore dX3_endExit_20 ?_
    refine mm_nm_M (fun M_3 => ?_)
    exact mm_vret dX3_endExit_21 rfl
def f_TextReader_among_145 (M : mm_M) : Option (Int32 × mm_M) := mm_bd (f_TextReader_atEnd M) fun b_1 M_2 => if b_1 = true then some ((-1), M_2) else mm_bd (f_String_indexOf_1_145 (((M_2.1 2 3).toUInt32 % 65536).toInt32) M_2) fun r_3 M_4 => some (r_3, M_4)
set_option maxHeartbeats 4000000 in
theorem c_TextReader_among_145 (E : mm_E) (M : mm_M) : ∀ (r : Int32) (M2 : mm_M), f_TextReader_among_145 M = some (r, M2) → mm_P E Y_X10_among 7 [.ref 2, .ref 145] M (some (.int r)) M2 := by
  refine mm_entry (em := (fun x : Int32 => some (.int x))) (by decide +kernel) (Nat.le_of_ble_eq_true rfl) ?_
  show mm_G _ E _ _ 0 [(0, .ref 2), (1, .ref 145)] [] M _
  unfold f_TextReader_among_145
  refine mm_aload_n 0 dX10_among_0 rfl ?_
  refine mm_callVz (as := []) (st := []) (c_TextReader_atEnd E M) dX10_among_1 mz_X10_atEnd lk_RX10_48 im_X10_atEnd se_X10_atEnd lo_2 rfl rfl rfl ⟨Nat.le_of_ble_eq_true rfl, Nat.le_of_ble_eq_true rfl⟩ (Nat.le_of_ble_eq_true rfl) (fun b_1 M_2 => ?_)
  refine mm_if_eq_b 11 dX10_among_4 rfl ?_ ?_
  · refine mm_aload_n 1 dX10_among_11 rfl ?_
    refine mm_aload_n 0 dX10_among_12 rfl ?_
    refine mm_getI dX10_among_13 fl_RX10_41 lo_2 rfl ?_
    refine mm_i2c dX10_among_16 ?_
    refine mm_callTi (as := [.int (((M_2.1 2 3).toUInt32 % 65536).toInt32)]) (st := []) (c_String_indexOf_1_145 E (((M_2.1 2 3).toUInt32 % 65536).toInt32) M_2) dX10_among_17 mz_J0_indexOf_0f7a4 lk_RX10_52 im_J0_indexOf_0f7a4 se_J0_indexOf_0f7a4 sl_145 rfl rfl ⟨Nat.le_of_ble_eq_true rfl, Nat.le_of_ble_eq_true rfl⟩ (Nat.le_of_ble_eq_true rfl) (fun r_3 M_4 => ?_)
    exact mm_iret dX10_among_20 rfl
  · refine mm_iconst (v := (-1)) dX10_among_7 rfl ?_
    refine mm_goto 20 dX10_among_8 rfl ?_
    exact mm_iret dX10_among_20 rfl
def f_LawReader_readComparison (v1 : Int32) (M : mm_M) : Option (Bool × mm_M) := mm_bd (f_LawReader_readSum mm_rd v1 M) fun b_1 M_2 => if b_1 = true then mm_let (M_2.1 2 3) fun v2_3 => mm_bd (f_TextReader_among_145 M_2) fun r_4 M_5 => if r_4 = (-1) then mm_bd (f_TextReader_failHere 1 M_5) fun b_12 M_13 => some (b_12, M_13) else mm_bd (f_TextReader_step M_5) fun u_6 M_7 => mm_bd (f_LawReader_readSum mm_rd v1 M_7) fun b_8 M_9 => if b_8 = true then mm_bd (f_Law_addStep_8 v2_3 0 M_9) fun u_10 M_11 => some (true, M_11) else some (false, M_9) else some (false, M_2)
set_option maxHeartbeats 4000000 in
theorem c_LawReader_readComparison (E : mm_E) (v1 : Int32) (M : mm_M) : ∀ (r : Bool) (M2 : mm_M), f_LawReader_readComparison v1 M = some (r, M2) → mm_P E Y_X4_readComparison 68 [.ref 9, .int v1] M (some (.int (mm_b r))) M2 := by
  refine mm_entry (em := (fun x : Bool => some (.int (mm_b x)))) (by decide +kernel) (Nat.le_of_ble_eq_true rfl) ?_
  show mm_G _ E _ _ 0 [(0, .ref 9), (1, .int v1)] [] M _
  unfold f_LawReader_readComparison
  refine mm_aload_n 0 dX4_readComparison_0 rfl ?_
  refine mm_iload_n 1 dX4_readComparison_1 rfl ?_
  refine mm_callVz (as := [.int v1]) (st := []) (c_LawReader_readSum E mm_rd v1 M) dX4_readComparison_2 mz_X4_readSum lk_RX4_64 im_X4_readSum se_X4_readSum lo_9 rfl rfl rfl ⟨Nat.le_of_ble_eq_true rfl, Nat.le_of_ble_eq_true rfl⟩ (Nat.le_of_ble_eq_true rfl) (fun b_1 M_2 => ?_)
  refine mm_if_ne_b 10 dX4_readComparison_5 rfl ?_ ?_
  · refine mm_aload_n 0 dX4_readComparison_10 rfl ?_
    refine mm_getR 2 dX4_readComparison_11 fl_RX4_9 lo_9 rfl ?_
    refine mm_getI dX4_readComparison_14 fl_RX4_46 lo_2 rfl ?_
    refine mm_nm_int (fun v2_3 => ?_)
    refine mm_istore_n [1, 2, 0] (lv2 := [(0, .ref 9), (1, .int v1), (2, .int v2_3)]) dX4_readComparison_17 (by decide) rfl ?_
    refine mm_aload_n 0 dX4_readComparison_18 rfl ?_
    refine mm_getR 2 dX4_readComparison_19 fl_RX4_9 lo_9 rfl ?_
    refine mm_ldcT (t := 145) dX4_readComparison_22 ss_5 rfl ?_
    refine mm_callVi (as := [.ref 145]) (st := []) (c_TextReader_among_145 E M_2) dX4_readComparison_24 mz_X10_among lk_RX4_51 im_X10_among se_X10_among lo_2 rfl rfl rfl ⟨Nat.le_of_ble_eq_true rfl, Nat.le_of_ble_eq_true rfl⟩ (Nat.le_of_ble_eq_true rfl) (fun r_4 M_5 => ?_)
    refine mm_iconst (v := (-1)) dX4_readComparison_27 rfl ?_
    refine mm_icmp_ne 40 dX4_readComparison_28 rfl ?_ ?_
    · refine mm_aload_n 0 dX4_readComparison_40 rfl ?_
      refine mm_getR 2 dX4_readComparison_41 fl_RX4_9 lo_9 rfl ?_
      refine mm_callVv (as := []) (st := []) (c_TextReader_step E M_5) dX4_readComparison_44 mz_X10_step lk_RX4_58 im_X10_step se_X10_step lo_2 rfl rfl rfl ⟨Nat.le_of_ble_eq_true rfl, Nat.le_of_ble_eq_true rfl⟩ (Nat.le_of_ble_eq_true rfl) (fun u_6 M_7 => ?_)
      refine mm_aload_n 0 dX4_readComparison_47 rfl ?_
      refine mm_iload_n 1 dX4_readComparison_48 rfl ?_
      refine mm_callVz (as := [.int v1]) (st := []) (c_LawReader_readSum E mm_rd v1 M_7) dX4_readComparison_49 mz_X4_readSum lk_RX4_64 im_X4_readSum se_X4_readSum lo_9 rfl rfl rfl ⟨Nat.le_of_ble_eq_true rfl, Nat.le_of_ble_eq_true rfl⟩ (Nat.le_of_ble_eq_true rfl) (fun b_8 M_9 => ?_)
      refine mm_if_ne_b 57 dX4_readComparison_52 rfl ?_ ?_
      · refine mm_aload_n 0 dX4_readComparison_57 rfl ?_
        refine mm_getR 8 dX4_readComparison_58 fl_RX4_15 lo_9 rfl ?_
        refine mm_iload_n 2 dX4_readComparison_61 rfl ?_
        refine mm_iconst (v := 0) dX4_readComparison_62 rfl ?_
        refine mm_callVv (as := [.int v2_3, .int 0]) (st := []) (c_Law_addStep_8 E v2_3 0 M_9) dX4_readComparison_63 mz_X3_addStep lk_RX4_90 im_X3_addStep se_X3_addStep lo_8 rfl rfl rfl ⟨Nat.le_of_ble_eq_true rfl, Nat.le_of_ble_eq_true rfl⟩ (Nat.le_of_ble_eq_true rfl) (fun u_10 M_11 => ?_)
        refine mm_iconst (v := 1) dX4_readComparison_66 rfl ?_
        exact mm_zret (b := true) dX4_readComparison_67 rfl
      · refine mm_iconst (v := 0) dX4_readComparison_55 rfl ?_
        exact mm_zret (b := false) dX4_readComparison_56 rfl
    · refine mm_aload_n 0 dX4_readComparison_31 rfl ?_
      refine mm_getR 2 dX4_readComparison_32 fl_RX4_9 lo_9 rfl ?_
      refine mm_iconst (v := 1) dX4_readComparison_35 rfl ?_
      refine mm_callVz (as := [.int 1]) (st := []) (c_TextReader_failHere E 1 M_5) dX4_readComparison_36 mz_X10_failHere lk_RX4_55 im_X10_failHere se_X10_failHere lo_2 rfl rfl rfl ⟨Nat.le_of_ble_eq_true rfl, Nat.le_of_ble_eq_true rfl⟩ (Nat.le_of_ble_eq_true rfl) (fun b_12 M_13 => ?_)
      exact mm_zret (b := b_12) dX4_readComparison_39 rfl
  · refine mm_iconst (v := 0) dX4_readComparison_8 rfl ?_
    exact mm_zret (b := false) dX4_readComparison_9 rfl
def f_Law_addExit_8 (v1 : Int32) (v2 : Int32) (M : mm_M) : Option (Int32 × mm_M) := mm_bd (f_Law_endExit_8 v2 M) fun u_1 M_2 => mm_bd (f_Law_addStep_8 v1 (M_2.1 8 2) M_2) fun u_3 M_4 => some ((M_4.1 8 2) - 1, M_4)
set_option maxHeartbeats 4000000 in
theorem c_Law_addExit_8 (E : mm_E) (v1 : Int32) (v2 : Int32) (M : mm_M) : ∀ (r : Int32) (M2 : mm_M), f_Law_addExit_8 v1 v2 M = some (r, M2) → mm_P E Y_X3_addExit 3 [.ref 8, .int v1, .int v2] M (some (.int r)) M2 := by
  refine mm_entry (em := (fun x : Int32 => some (.int x))) (by decide +kernel) (Nat.le_of_ble_eq_true rfl) ?_
  show mm_G _ E _ _ 0 [(0, .ref 8), (1, .int v1), (2, .int v2)] [] M _
  unfold f_Law_addExit_8
  refine mm_aload_n 0 dX3_addExit_0 rfl ?_
  refine mm_iload_n 2 dX3_addExit_1 rfl ?_
  refine mm_callVv (as := [.int v2]) (st := []) (c_Law_endExit_8 E v2 M) dX3_addExit_2 mz_X3_endExit lk_RX3_49 im_X3_endExit se_X3_endExit lo_8 rfl rfl rfl ⟨Nat.le_of_ble_eq_true rfl, Nat.le_of_ble_eq_true rfl⟩ (Nat.le_of_ble_eq_true rfl) (fun u_1 M_2 => ?_)
  refine mm_aload_n 0 dX3_addExit_5 rfl ?_
  refine mm_iload_n 1 dX3_addExit_6 rfl ?_
  refine mm_aload_n 0 dX3_addExit_7 rfl ?_
  refine mm_getI dX3_addExit_8 fl_RX3_36 lo_8 rfl ?_
  refine mm_callVv (as := [.int v1, .int (M_2.1 8 2)]) (st := []) (c_Law_addStep_8 E v1 (M_2.1 8 2) M_2) dX3_addExit_11 mz_X3_addStep lk_RX3_53 im_X3_addStep se_X3_addStep lo_8 rfl rfl rfl ⟨Nat.le_of_ble_eq_true rfl, Nat.le_of_ble_eq_true rfl⟩ (Nat.le_of_ble_eq_true rfl) (fun u_3 M_4 => ?_)
  refine mm_aload_n 0 dX3_addExit_14 rfl ?_
  refine mm_getI dX3_addExit_15 fl_RX3_36 lo_8 rfl ?_
  refine mm_iconst (v := 1) dX3_addExit_18 rfl ?_
  refine mm_isub dX3_addExit_19 ?_
  exact mm_iret dX3_addExit_20 rfl
def lp_LawReader_readCondition_4 (F : Nat → Int32 → mm_M → Option (Bool × mm_M)) (v1 : Int32) (k19 : mm_M → Option (Bool × mm_M)) (k33 : Int32 → mm_M → Option (Bool × mm_M)) (k60 : Int32 → mm_M → Option (Bool × mm_M)) : Nat → Int32 → Int32 → mm_M → Option (Bool × mm_M)
  | 0, _, _, _ => none
  | n + 1, v2, v3, M => if 160 ≤ v3 then k60 v2 M else mm_bd (F 1 v1 M) fun b_1 M_2 => if b_1 = true then if M_2.1 2 3 = 124 then mm_bd (f_TextReader_step M_2) fun u_3 M_4 => mm_bd (f_Law_addExit_8 124 v2 M_4) fun r_5 M_6 => mm_let (v3 + 1) fun v3_7 => lp_LawReader_readCondition_4 F v1 k19 k33 k60 n r_5 v3_7 M_6 else k33 v2 M_2 else k19 M_2
set_option maxHeartbeats 4000000 in
theorem lp_LawReader_readCondition_4_ok (E : mm_E) {nd : Nat} {F : Nat → Int32 → mm_M → Option (Bool × mm_M)} (hF : 68 ≤ nd ∧ (∀ (v1 : Int32) (M : mm_M) (r : Bool) (M2 : mm_M), F 0 v1 M = some (r, M2) → mm_P E Y_X4_readCondition nd [.ref 9, .int v1] M (some (.int (mm_b r))) M2) ∧ (∀ (v1 : Int32) (M : mm_M) (r : Bool) (M2 : mm_M), F 1 v1 M = some (r, M2) → mm_P E Y_X4_readPieces nd [.ref 9, .int v1] M (some (.int (mm_b r))) M2) ∧ (∀ (v1 : Int32) (M : mm_M) (r : Bool) (M2 : mm_M), F 2 v1 M = some (r, M2) → mm_P E Y_X4_readPiece nd [.ref 9, .int v1] M (some (.int (mm_b r))) M2)) (v1 : Int32) {k19 : mm_M → Option (Bool × mm_M)} {k33 : Int32 → mm_M → Option (Bool × mm_M)} {k60 : Int32 → mm_M → Option (Bool × mm_M)} (hk19 : ∀ (M : mm_M), mm_G (fun x : Bool => some (.int (mm_b x))) E Y_X4_readCondition (nd + 1) 19 [] [] M (k19 M)) (hk33 : ∀ (v2 : Int32) (M : mm_M), mm_G (fun x : Bool => some (.int (mm_b x))) E Y_X4_readCondition (nd + 1) 33 [(0, .ref 9), (2, .int v2)] [] M (k33 v2 M)) (hk60 : ∀ (v2 : Int32) (M : mm_M), mm_G (fun x : Bool => some (.int (mm_b x))) E Y_X4_readCondition (nd + 1) 60 [(0, .ref 9), (2, .int v2)] [] M (k60 v2 M)) : ∀ (n : Nat) (v2 : Int32) (v3 : Int32) (M : mm_M), mm_G (fun x : Bool => some (.int (mm_b x))) E Y_X4_readCondition (nd + 1) 4 [(0, .ref 9), (1, .int v1), (2, .int v2), (3, .int v3)] [] M (lp_LawReader_readCondition_4 F v1 k19 k33 k60 n v2 v3 M) := by
  have hB := hF.1
  intro n
  induction n with
  | zero => intro v2 v3 M r M2 he; cases he
  | succ n ih =>
    intro v2 v3 M
    rw [lp_LawReader_readCondition_4]
    refine mm_iload_n 3 dX4_readCondition_4 rfl ?_
    refine mm_sipush (v := 160) dX4_readCondition_5 rfl ?_
    refine mm_icmp_ge 60 dX4_readCondition_8 rfl ?_ ?_
    · refine mm_wk [0, 2] rfl ?_
      exact hk60 v2 M
    · refine mm_aload_n 0 dX4_readCondition_11 rfl ?_
      refine mm_iload_n 1 dX4_readCondition_12 rfl ?_
      refine mm_callVz (as := [.int v1]) (st := []) (hF.2.2.1 v1 M) dX4_readCondition_13 mz_X4_readPieces lk_RX4_74 im_X4_readPieces se_X4_readPieces lo_9 rfl rfl rfl ⟨by omega, by show 8 + (4 + 11) + _ ≤ _; omega⟩ (Nat.le_of_ble_eq_true rfl) (fun b_1 M_2 => ?_)
      refine mm_if_ne_b 21 dX4_readCondition_16 rfl ?_ ?_
      · refine mm_aload_n 0 dX4_readCondition_21 rfl ?_
        refine mm_getR 2 dX4_readCondition_22 fl_RX4_9 lo_9 rfl ?_
        refine mm_getI dX4_readCondition_25 fl_RX4_46 lo_2 rfl ?_
        refine mm_bipush (v := 124) dX4_readCondition_28 rfl ?_
        refine mm_icmp_eq 36 dX4_readCondition_30 rfl ?_ ?_
        · refine mm_aload_n 0 dX4_readCondition_36 rfl ?_
          refine mm_getR 2 dX4_readCondition_37 fl_RX4_9 lo_9 rfl ?_
          refine mm_callVv (as := []) (st := []) (c_TextReader_step E M_2) dX4_readCondition_40 mz_X10_step lk_RX4_58 im_X10_step se_X10_step lo_2 rfl rfl rfl ⟨by omega, by show 8 + (1 + 11) + _ ≤ _; omega⟩ (Nat.le_of_ble_eq_true rfl) (fun u_3 M_4 => ?_)
          refine mm_aload_n 0 dX4_readCondition_43 rfl ?_
          refine mm_getR 8 dX4_readCondition_44 fl_RX4_15 lo_9 rfl ?_
          refine mm_bipush (v := 124) dX4_readCondition_47 rfl ?_
          refine mm_iload_n 2 dX4_readCondition_49 rfl ?_
          refine mm_callVi (as := [.int 124, .int v2]) (st := []) (c_Law_addExit_8 E 124 v2 M_4) dX4_readCondition_50 mz_X3_addExit lk_RX4_77 im_X3_addExit se_X3_addExit lo_8 rfl rfl rfl ⟨by omega, by show 8 + (3 + 11) + _ ≤ _; omega⟩ (Nat.le_of_ble_eq_true rfl) (fun r_5 M_6 => ?_)
          refine mm_istore_n [1, 2, 0, 3] (lv2 := [(0, .ref 9), (1, .int v1), (2, .int r_5), (3, .int v3)]) dX4_readCondition_53 (by decide) rfl ?_
          refine mm_iincN 3 [1, 2, 3, 0] (v := v3 + 1) (lv2 := fun v3_7 => [(0, .ref 9), (1, .int v1), (2, .int r_5), (3, .int v3_7)]) dX4_readCondition_54 rfl rfl (by decide) (fun _ => rfl) (fun v3_7 => ?_)
          refine mm_goto 4 dX4_readCondition_57 rfl ?_
          exact ih r_5 v3_7 M_6
        · refine mm_wk [0, 2] rfl ?_
          exact hk33 v2 M_2
      · refine mm_wk [] rfl ?_
        exact hk19  M_2
def fb_LawReader_readCondition (F : Nat → Int32 → mm_M → Option (Bool × mm_M)) (v1 : Int32) (M : mm_M) : Option (Bool × mm_M) := lp_LawReader_readCondition_4 F v1 (fun (M_8 : mm_M) => some (false, M_8)) (fun (v2 : Int32) (M_9 : mm_M) => mm_bd (f_Law_endExit_8 v2 M_9) fun u_10 M_11 => some (true, M_11)) (fun (v2 : Int32) (M_12 : mm_M) => mm_bd (f_Law_endExit_8 v2 M_12) fun u_13 M_14 => some (true, M_14)) mm_fu (-1) 0 M
set_option maxHeartbeats 4000000 in
theorem cb_LawReader_readCondition (E : mm_E) {nd : Nat} {F : Nat → Int32 → mm_M → Option (Bool × mm_M)} (hF : 68 ≤ nd ∧ (∀ (v1 : Int32) (M : mm_M) (r : Bool) (M2 : mm_M), F 0 v1 M = some (r, M2) → mm_P E Y_X4_readCondition nd [.ref 9, .int v1] M (some (.int (mm_b r))) M2) ∧ (∀ (v1 : Int32) (M : mm_M) (r : Bool) (M2 : mm_M), F 1 v1 M = some (r, M2) → mm_P E Y_X4_readPieces nd [.ref 9, .int v1] M (some (.int (mm_b r))) M2) ∧ (∀ (v1 : Int32) (M : mm_M) (r : Bool) (M2 : mm_M), F 2 v1 M = some (r, M2) → mm_P E Y_X4_readPiece nd [.ref 9, .int v1] M (some (.int (mm_b r))) M2)) (v1 : Int32) (M : mm_M) : ∀ (r : Bool) (M2 : mm_M), fb_LawReader_readCondition F v1 M = some (r, M2) → mm_P E Y_X4_readCondition (nd + 1) [.ref 9, .int v1] M (some (.int (mm_b r))) M2 := by
  have hB := hF.1
  refine mm_entry (em := (fun x : Bool => some (.int (mm_b x)))) (by decide +kernel) (Nat.le_of_ble_eq_true rfl) ?_
  show mm_G _ E _ _ 0 [(0, .ref 9), (1, .int v1)] [] M _
  unfold fb_LawReader_readCondition
  refine mm_iconst (v := (-1)) dX4_readCondition_0 rfl ?_
  refine mm_istore_n [1, 2, 0] (lv2 := [(0, .ref 9), (1, .int v1), (2, .int (-1))]) dX4_readCondition_1 (by decide) rfl ?_
  refine mm_iconst (v := 0) dX4_readCondition_2 rfl ?_
  refine mm_istore_n [1, 2, 3, 0] (lv2 := [(0, .ref 9), (1, .int v1), (2, .int (-1)), (3, .int 0)]) dX4_readCondition_3 (by decide) rfl ?_
  refine lp_LawReader_readCondition_4_ok E hF v1 ?_ ?_ ?_ mm_fu (-1) 0 M
  · intro M_8
    refine mm_iconst (v := 0) dX4_readCondition_19 rfl ?_
    exact mm_zret (b := false) dX4_readCondition_20 rfl
  · intro v2 M_9
    refine mm_goto 60 dX4_readCondition_33 rfl ?_
    refine mm_aload_n 0 dX4_readCondition_60 rfl ?_
    refine mm_getR 8 dX4_readCondition_61 fl_RX4_15 lo_9 rfl ?_
    refine mm_iload_n 1 dX4_readCondition_64 rfl ?_
    refine mm_callVv (as := [.int v2]) (st := []) (c_Law_endExit_8 E v2 M_9) dX4_readCondition_65 mz_X3_endExit lk_RX4_81 im_X3_endExit se_X3_endExit lo_8 rfl rfl rfl ⟨by omega, by show 8 + (2 + 11) + _ ≤ _; omega⟩ (Nat.le_of_ble_eq_true rfl) (fun u_10 M_11 => ?_)
    refine mm_iconst (v := 1) dX4_readCondition_68 rfl ?_
    exact mm_zret (b := true) dX4_readCondition_69 rfl
  · intro v2 M_12
    refine mm_aload_n 0 dX4_readCondition_60 rfl ?_
    refine mm_getR 8 dX4_readCondition_61 fl_RX4_15 lo_9 rfl ?_
    refine mm_iload_n 1 dX4_readCondition_64 rfl ?_
    refine mm_callVv (as := [.int v2]) (st := []) (c_Law_endExit_8 E v2 M_12) dX4_readCondition_65 mz_X3_endExit lk_RX4_81 im_X3_endExit se_X3_endExit lo_8 rfl rfl rfl ⟨by omega, by show 8 + (2 + 11) + _ ≤ _; omega⟩ (Nat.le_of_ble_eq_true rfl) (fun u_13 M_14 => ?_)
    refine mm_iconst (v := 1) dX4_readCondition_68 rfl ?_
    exact mm_zret (b := true) dX4_readCondition_69 rfl
def lp_LawReader_readPieces_4 (F : Nat → Int32 → mm_M → Option (Bool × mm_M)) (v1 : Int32) (k19 : mm_M → Option (Bool × mm_M)) (k33 : Int32 → mm_M → Option (Bool × mm_M)) (k60 : Int32 → mm_M → Option (Bool × mm_M)) : Nat → Int32 → Int32 → mm_M → Option (Bool × mm_M)
  | 0, _, _, _ => none
  | n + 1, v2, v3, M => if 160 ≤ v3 then k60 v2 M else mm_bd (F 2 v1 M) fun b_1 M_2 => if b_1 = true then if M_2.1 2 3 = 38 then mm_bd (f_TextReader_step M_2) fun u_3 M_4 => mm_bd (f_Law_addExit_8 38 v2 M_4) fun r_5 M_6 => mm_let (v3 + 1) fun v3_7 => lp_LawReader_readPieces_4 F v1 k19 k33 k60 n r_5 v3_7 M_6 else k33 v2 M_2 else k19 M_2
set_option maxHeartbeats 4000000 in
theorem lp_LawReader_readPieces_4_ok (E : mm_E) {nd : Nat} {F : Nat → Int32 → mm_M → Option (Bool × mm_M)} (hF : 68 ≤ nd ∧ (∀ (v1 : Int32) (M : mm_M) (r : Bool) (M2 : mm_M), F 0 v1 M = some (r, M2) → mm_P E Y_X4_readCondition nd [.ref 9, .int v1] M (some (.int (mm_b r))) M2) ∧ (∀ (v1 : Int32) (M : mm_M) (r : Bool) (M2 : mm_M), F 1 v1 M = some (r, M2) → mm_P E Y_X4_readPieces nd [.ref 9, .int v1] M (some (.int (mm_b r))) M2) ∧ (∀ (v1 : Int32) (M : mm_M) (r : Bool) (M2 : mm_M), F 2 v1 M = some (r, M2) → mm_P E Y_X4_readPiece nd [.ref 9, .int v1] M (some (.int (mm_b r))) M2)) (v1 : Int32) {k19 : mm_M → Option (Bool × mm_M)} {k33 : Int32 → mm_M → Option (Bool × mm_M)} {k60 : Int32 → mm_M → Option (Bool × mm_M)} (hk19 : ∀ (M : mm_M), mm_G (fun x : Bool => some (.int (mm_b x))) E Y_X4_readPieces (nd + 1) 19 [] [] M (k19 M)) (hk33 : ∀ (v2 : Int32) (M : mm_M), mm_G (fun x : Bool => some (.int (mm_b x))) E Y_X4_readPieces (nd + 1) 33 [(0, .ref 9), (2, .int v2)] [] M (k33 v2 M)) (hk60 : ∀ (v2 : Int32) (M : mm_M), mm_G (fun x : Bool => some (.int (mm_b x))) E Y_X4_readPieces (nd + 1) 60 [(0, .ref 9), (2, .int v2)] [] M (k60 v2 M)) : ∀ (n : Nat) (v2 : Int32) (v3 : Int32) (M : mm_M), mm_G (fun x : Bool => some (.int (mm_b x))) E Y_X4_readPieces (nd + 1) 4 [(0, .ref 9), (1, .int v1), (2, .int v2), (3, .int v3)] [] M (lp_LawReader_readPieces_4 F v1 k19 k33 k60 n v2 v3 M) := by
  have hB := hF.1
  intro n
  induction n with
  | zero => intro v2 v3 M r M2 he; cases he
  | succ n ih =>
    intro v2 v3 M
    rw [lp_LawReader_readPieces_4]
    refine mm_iload_n 3 dX4_readPieces_4 rfl ?_
    refine mm_sipush (v := 160) dX4_readPieces_5 rfl ?_
    refine mm_icmp_ge 60 dX4_readPieces_8 rfl ?_ ?_
    · refine mm_wk [0, 2] rfl ?_
      exact hk60 v2 M
    · refine mm_aload_n 0 dX4_readPieces_11 rfl ?_
      refine mm_iload_n 1 dX4_readPieces_12 rfl ?_
      refine mm_callVz (as := [.int v1]) (st := []) (hF.2.2.2 v1 M) dX4_readPieces_13 mz_X4_readPiece lk_RX4_84 im_X4_readPiece se_X4_readPiece lo_9 rfl rfl rfl ⟨by omega, by show 8 + (2 + 11) + _ ≤ _; omega⟩ (Nat.le_of_ble_eq_true rfl) (fun b_1 M_2 => ?_)
      refine mm_if_ne_b 21 dX4_readPieces_16 rfl ?_ ?_
      · refine mm_aload_n 0 dX4_readPieces_21 rfl ?_
        refine mm_getR 2 dX4_readPieces_22 fl_RX4_9 lo_9 rfl ?_
        refine mm_getI dX4_readPieces_25 fl_RX4_46 lo_2 rfl ?_
        refine mm_bipush (v := 38) dX4_readPieces_28 rfl ?_
        refine mm_icmp_eq 36 dX4_readPieces_30 rfl ?_ ?_
        · refine mm_aload_n 0 dX4_readPieces_36 rfl ?_
          refine mm_getR 2 dX4_readPieces_37 fl_RX4_9 lo_9 rfl ?_
          refine mm_callVv (as := []) (st := []) (c_TextReader_step E M_2) dX4_readPieces_40 mz_X10_step lk_RX4_58 im_X10_step se_X10_step lo_2 rfl rfl rfl ⟨by omega, by show 8 + (1 + 11) + _ ≤ _; omega⟩ (Nat.le_of_ble_eq_true rfl) (fun u_3 M_4 => ?_)
          refine mm_aload_n 0 dX4_readPieces_43 rfl ?_
          refine mm_getR 8 dX4_readPieces_44 fl_RX4_15 lo_9 rfl ?_
          refine mm_bipush (v := 38) dX4_readPieces_47 rfl ?_
          refine mm_iload_n 2 dX4_readPieces_49 rfl ?_
          refine mm_callVi (as := [.int 38, .int v2]) (st := []) (c_Law_addExit_8 E 38 v2 M_4) dX4_readPieces_50 mz_X3_addExit lk_RX4_77 im_X3_addExit se_X3_addExit lo_8 rfl rfl rfl ⟨by omega, by show 8 + (3 + 11) + _ ≤ _; omega⟩ (Nat.le_of_ble_eq_true rfl) (fun r_5 M_6 => ?_)
          refine mm_istore_n [1, 2, 0, 3] (lv2 := [(0, .ref 9), (1, .int v1), (2, .int r_5), (3, .int v3)]) dX4_readPieces_53 (by decide) rfl ?_
          refine mm_iincN 3 [1, 2, 3, 0] (v := v3 + 1) (lv2 := fun v3_7 => [(0, .ref 9), (1, .int v1), (2, .int r_5), (3, .int v3_7)]) dX4_readPieces_54 rfl rfl (by decide) (fun _ => rfl) (fun v3_7 => ?_)
          refine mm_goto 4 dX4_readPieces_57 rfl ?_
          exact ih r_5 v3_7 M_6
        · refine mm_wk [0, 2] rfl ?_
          exact hk33 v2 M_2
      · refine mm_wk [] rfl ?_
        exact hk19  M_2
def fb_LawReader_readPieces (F : Nat → Int32 → mm_M → Option (Bool × mm_M)) (v1 : Int32) (M : mm_M) : Option (Bool × mm_M) := lp_LawReader_readPieces_4 F v1 (fun (M_8 : mm_M) => some (false, M_8)) (fun (v2 : Int32) (M_9 : mm_M) => mm_bd (f_Law_endExit_8 v2 M_9) fun u_10 M_11 => some (true, M_11)) (fun (v2 : Int32) (M_12 : mm_M) => mm_bd (f_Law_endExit_8 v2 M_12) fun u_13 M_14 => some (true, M_14)) mm_fu (-1) 0 M
set_option maxHeartbeats 4000000 in
theorem cb_LawReader_readPieces (E : mm_E) {nd : Nat} {F : Nat → Int32 → mm_M → Option (Bool × mm_M)} (hF : 68 ≤ nd ∧ (∀ (v1 : Int32) (M : mm_M) (r : Bool) (M2 : mm_M), F 0 v1 M = some (r, M2) → mm_P E Y_X4_readCondition nd [.ref 9, .int v1] M (some (.int (mm_b r))) M2) ∧ (∀ (v1 : Int32) (M : mm_M) (r : Bool) (M2 : mm_M), F 1 v1 M = some (r, M2) → mm_P E Y_X4_readPieces nd [.ref 9, .int v1] M (some (.int (mm_b r))) M2) ∧ (∀ (v1 : Int32) (M : mm_M) (r : Bool) (M2 : mm_M), F 2 v1 M = some (r, M2) → mm_P E Y_X4_readPiece nd [.ref 9, .int v1] M (some (.int (mm_b r))) M2)) (v1 : Int32) (M : mm_M) : ∀ (r : Bool) (M2 : mm_M), fb_LawReader_readPieces F v1 M = some (r, M2) → mm_P E Y_X4_readPieces (nd + 1) [.ref 9, .int v1] M (some (.int (mm_b r))) M2 := by
  have hB := hF.1
  refine mm_entry (em := (fun x : Bool => some (.int (mm_b x)))) (by decide +kernel) (Nat.le_of_ble_eq_true rfl) ?_
  show mm_G _ E _ _ 0 [(0, .ref 9), (1, .int v1)] [] M _
  unfold fb_LawReader_readPieces
  refine mm_iconst (v := (-1)) dX4_readPieces_0 rfl ?_
  refine mm_istore_n [1, 2, 0] (lv2 := [(0, .ref 9), (1, .int v1), (2, .int (-1))]) dX4_readPieces_1 (by decide) rfl ?_
  refine mm_iconst (v := 0) dX4_readPieces_2 rfl ?_
  refine mm_istore_n [1, 2, 3, 0] (lv2 := [(0, .ref 9), (1, .int v1), (2, .int (-1)), (3, .int 0)]) dX4_readPieces_3 (by decide) rfl ?_
  refine lp_LawReader_readPieces_4_ok E hF v1 ?_ ?_ ?_ mm_fu (-1) 0 M
  · intro M_8
    refine mm_iconst (v := 0) dX4_readPieces_19 rfl ?_
    exact mm_zret (b := false) dX4_readPieces_20 rfl
  · intro v2 M_9
    refine mm_goto 60 dX4_readPieces_33 rfl ?_
    refine mm_aload_n 0 dX4_readPieces_60 rfl ?_
    refine mm_getR 8 dX4_readPieces_61 fl_RX4_15 lo_9 rfl ?_
    refine mm_iload_n 1 dX4_readPieces_64 rfl ?_
    refine mm_callVv (as := [.int v2]) (st := []) (c_Law_endExit_8 E v2 M_9) dX4_readPieces_65 mz_X3_endExit lk_RX4_81 im_X3_endExit se_X3_endExit lo_8 rfl rfl rfl ⟨by omega, by show 8 + (2 + 11) + _ ≤ _; omega⟩ (Nat.le_of_ble_eq_true rfl) (fun u_10 M_11 => ?_)
    refine mm_iconst (v := 1) dX4_readPieces_68 rfl ?_
    exact mm_zret (b := true) dX4_readPieces_69 rfl
  · intro v2 M_12
    refine mm_aload_n 0 dX4_readPieces_60 rfl ?_
    refine mm_getR 8 dX4_readPieces_61 fl_RX4_15 lo_9 rfl ?_
    refine mm_iload_n 1 dX4_readPieces_64 rfl ?_
    refine mm_callVv (as := [.int v2]) (st := []) (c_Law_endExit_8 E v2 M_12) dX4_readPieces_65 mz_X3_endExit lk_RX4_81 im_X3_endExit se_X3_endExit lo_8 rfl rfl rfl ⟨by omega, by show 8 + (2 + 11) + _ ≤ _; omega⟩ (Nat.le_of_ble_eq_true rfl) (fun u_13 M_14 => ?_)
    refine mm_iconst (v := 1) dX4_readPieces_68 rfl ?_
    exact mm_zret (b := true) dX4_readPieces_69 rfl
def fb_LawReader_readPiece (F : Nat → Int32 → mm_M → Option (Bool × mm_M)) (v1 : Int32) (M : mm_M) : Option (Bool × mm_M) := if M.1 2 3 = 33 then mm_bd (f_LawReader_mayOpen v1 M) fun b_9 M_10 => if b_9 = true then mm_bd (F 2 (v1 + 1) M_10) fun b_11 M_12 => if b_11 = true then mm_bd (f_Law_addStep_8 33 0 M_12) fun u_13 M_14 => some (true, M_14) else some (false, M_12) else some (false, M_10) else if M.1 2 3 = 40 then mm_bd (f_LawReader_mayOpen v1 M) fun b_3 M_4 => if b_3 = true then mm_bd (F 0 (v1 + 1) M_4) fun b_5 M_6 => if b_5 = true then mm_bd (f_TextReader_take 41 M_6) fun b_7 M_8 => if b_7 = true then some (true, M_8) else some (false, M_8) else some (false, M_6) else some (false, M_4) else mm_bd (f_LawReader_readComparison v1 M) fun b_1 M_2 => some (b_1, M_2)
set_option maxHeartbeats 4000000 in
theorem cb_LawReader_readPiece (E : mm_E) {nd : Nat} {F : Nat → Int32 → mm_M → Option (Bool × mm_M)} (hF : 68 ≤ nd ∧ (∀ (v1 : Int32) (M : mm_M) (r : Bool) (M2 : mm_M), F 0 v1 M = some (r, M2) → mm_P E Y_X4_readCondition nd [.ref 9, .int v1] M (some (.int (mm_b r))) M2) ∧ (∀ (v1 : Int32) (M : mm_M) (r : Bool) (M2 : mm_M), F 1 v1 M = some (r, M2) → mm_P E Y_X4_readPieces nd [.ref 9, .int v1] M (some (.int (mm_b r))) M2) ∧ (∀ (v1 : Int32) (M : mm_M) (r : Bool) (M2 : mm_M), F 2 v1 M = some (r, M2) → mm_P E Y_X4_readPiece nd [.ref 9, .int v1] M (some (.int (mm_b r))) M2)) (v1 : Int32) (M : mm_M) : ∀ (r : Bool) (M2 : mm_M), fb_LawReader_readPiece F v1 M = some (r, M2) → mm_P E Y_X4_readPiece (nd + 1) [.ref 9, .int v1] M (some (.int (mm_b r))) M2 := by
  have hB := hF.1
  refine mm_entry (em := (fun x : Bool => some (.int (mm_b x)))) (by decide +kernel) (Nat.le_of_ble_eq_true rfl) ?_
  show mm_G _ E _ _ 0 [(0, .ref 9), (1, .int v1)] [] M _
  unfold fb_LawReader_readPiece
  refine mm_aload_n 0 dX4_readPiece_0 rfl ?_
  refine mm_getR 2 dX4_readPiece_1 fl_RX4_9 lo_9 rfl ?_
  refine mm_getI dX4_readPiece_4 fl_RX4_46 lo_2 rfl ?_
  refine mm_bipush (v := 33) dX4_readPiece_7 rfl ?_
  refine mm_icmp_ne 44 dX4_readPiece_9 rfl ?_ ?_
  · refine mm_aload_n 0 dX4_readPiece_44 rfl ?_
    refine mm_getR 2 dX4_readPiece_45 fl_RX4_9 lo_9 rfl ?_
    refine mm_getI dX4_readPiece_48 fl_RX4_46 lo_2 rfl ?_
    refine mm_bipush (v := 40) dX4_readPiece_51 rfl ?_
    refine mm_icmp_ne 92 dX4_readPiece_53 rfl ?_ ?_
    · refine mm_aload_n 0 dX4_readPiece_92 rfl ?_
      refine mm_iload_n 1 dX4_readPiece_93 rfl ?_
      refine mm_callVz (as := [.int v1]) (st := []) (c_LawReader_readComparison E v1 M) dX4_readPiece_94 mz_X4_readComparison lk_RX4_94 im_X4_readComparison se_X4_readComparison lo_9 rfl rfl rfl ⟨by omega, by show 8 + (3 + 11) + _ ≤ _; omega⟩ (Nat.le_of_ble_eq_true rfl) (fun b_1 M_2 => ?_)
      exact mm_zret (b := b_1) dX4_readPiece_97 rfl
    · refine mm_aload_n 0 dX4_readPiece_56 rfl ?_
      refine mm_iload_n 1 dX4_readPiece_57 rfl ?_
      refine mm_callVz (as := [.int v1]) (st := []) (c_LawReader_mayOpen E v1 M) dX4_readPiece_58 mz_X4_mayOpen lk_RX4_87 im_X4_mayOpen se_X4_mayOpen lo_9 rfl rfl rfl ⟨by omega, by show 8 + (2 + 11) + _ ≤ _; omega⟩ (Nat.le_of_ble_eq_true rfl) (fun b_3 M_4 => ?_)
      refine mm_if_eq_b 90 dX4_readPiece_61 rfl ?_ ?_
      · refine mm_iconst (v := 0) dX4_readPiece_90 rfl ?_
        exact mm_zret (b := false) dX4_readPiece_91 rfl
      · refine mm_aload_n 0 dX4_readPiece_64 rfl ?_
        refine mm_iload_n 1 dX4_readPiece_65 rfl ?_
        refine mm_iconst (v := 1) dX4_readPiece_66 rfl ?_
        refine mm_iadd dX4_readPiece_67 ?_
        refine mm_callVz (as := [.int (v1 + 1)]) (st := []) (hF.2.1 (v1 + 1) M_4) dX4_readPiece_68 mz_X4_readCondition lk_RX4_67 im_X4_readCondition se_X4_readCondition lo_9 rfl rfl rfl ⟨by omega, by show 8 + (4 + 11) + _ ≤ _; omega⟩ (Nat.le_of_ble_eq_true rfl) (fun b_5 M_6 => ?_)
        refine mm_if_eq_b 90 dX4_readPiece_71 rfl ?_ ?_
        · refine mm_iconst (v := 0) dX4_readPiece_90 rfl ?_
          exact mm_zret (b := false) dX4_readPiece_91 rfl
        · refine mm_aload_n 0 dX4_readPiece_74 rfl ?_
          refine mm_getR 2 dX4_readPiece_75 fl_RX4_9 lo_9 rfl ?_
          refine mm_bipush (v := 41) dX4_readPiece_78 rfl ?_
          refine mm_callVz (as := [.int 41]) (st := []) (c_TextReader_take E 41 M_6) dX4_readPiece_80 mz_X10_take lk_RX4_42 im_X10_take se_X10_take lo_2 rfl rfl rfl ⟨by omega, by show 8 + (2 + 11) + _ ≤ _; omega⟩ (Nat.le_of_ble_eq_true rfl) (fun b_7 M_8 => ?_)
          refine mm_if_eq_b 90 dX4_readPiece_83 rfl ?_ ?_
          · refine mm_iconst (v := 0) dX4_readPiece_90 rfl ?_
            exact mm_zret (b := false) dX4_readPiece_91 rfl
          · refine mm_iconst (v := 1) dX4_readPiece_86 rfl ?_
            refine mm_goto 91 dX4_readPiece_87 rfl ?_
            exact mm_zret (b := true) dX4_readPiece_91 rfl
  · refine mm_aload_n 0 dX4_readPiece_12 rfl ?_
    refine mm_iload_n 1 dX4_readPiece_13 rfl ?_
    refine mm_callVz (as := [.int v1]) (st := []) (c_LawReader_mayOpen E v1 M) dX4_readPiece_14 mz_X4_mayOpen lk_RX4_87 im_X4_mayOpen se_X4_mayOpen lo_9 rfl rfl rfl ⟨by omega, by show 8 + (2 + 11) + _ ≤ _; omega⟩ (Nat.le_of_ble_eq_true rfl) (fun b_9 M_10 => ?_)
    refine mm_if_eq_b 30 dX4_readPiece_17 rfl ?_ ?_
    · refine mm_iconst (v := 0) dX4_readPiece_30 rfl ?_
      exact mm_zret (b := false) dX4_readPiece_31 rfl
    · refine mm_aload_n 0 dX4_readPiece_20 rfl ?_
      refine mm_iload_n 1 dX4_readPiece_21 rfl ?_
      refine mm_iconst (v := 1) dX4_readPiece_22 rfl ?_
      refine mm_iadd dX4_readPiece_23 ?_
      refine mm_callVz (as := [.int (v1 + 1)]) (st := []) (hF.2.2.2 (v1 + 1) M_10) dX4_readPiece_24 mz_X4_readPiece lk_RX4_84 im_X4_readPiece se_X4_readPiece lo_9 rfl rfl rfl ⟨by omega, by show 8 + (2 + 11) + _ ≤ _; omega⟩ (Nat.le_of_ble_eq_true rfl) (fun b_11 M_12 => ?_)
      refine mm_if_ne_b 32 dX4_readPiece_27 rfl ?_ ?_
      · refine mm_aload_n 0 dX4_readPiece_32 rfl ?_
        refine mm_getR 8 dX4_readPiece_33 fl_RX4_15 lo_9 rfl ?_
        refine mm_bipush (v := 33) dX4_readPiece_36 rfl ?_
        refine mm_iconst (v := 0) dX4_readPiece_38 rfl ?_
        refine mm_callVv (as := [.int 33, .int 0]) (st := []) (c_Law_addStep_8 E 33 0 M_12) dX4_readPiece_39 mz_X3_addStep lk_RX4_90 im_X3_addStep se_X3_addStep lo_8 rfl rfl rfl ⟨by omega, by show 8 + (3 + 11) + _ ≤ _; omega⟩ (Nat.le_of_ble_eq_true rfl) (fun u_13 M_14 => ?_)
        refine mm_iconst (v := 1) dX4_readPiece_42 rfl ?_
        exact mm_zret (b := true) dX4_readPiece_43 rfl
      · refine mm_iconst (v := 0) dX4_readPiece_30 rfl ?_
        exact mm_zret (b := false) dX4_readPiece_31 rfl
def g_LawReader_readCondition : Nat → Nat → Int32 → mm_M → Option (Bool × mm_M)
  | 0, _, _, _ => none
  | n + 1, i, v1, M => if i = 0 then fb_LawReader_readCondition (g_LawReader_readCondition n) v1 M else if i = 1 then fb_LawReader_readPieces (g_LawReader_readCondition n) v1 M else if i = 2 then fb_LawReader_readPiece (g_LawReader_readCondition n) v1 M else none
theorem g_LawReader_readCondition_ok (E : mm_E) : ∀ (n nd : Nat), nd = 68 + n → (∀ (v1 : Int32) (M : mm_M) (r : Bool) (M2 : mm_M), g_LawReader_readCondition n 0 v1 M = some (r, M2) → mm_P E Y_X4_readCondition nd [.ref 9, .int v1] M (some (.int (mm_b r))) M2) ∧ (∀ (v1 : Int32) (M : mm_M) (r : Bool) (M2 : mm_M), g_LawReader_readCondition n 1 v1 M = some (r, M2) → mm_P E Y_X4_readPieces nd [.ref 9, .int v1] M (some (.int (mm_b r))) M2) ∧ (∀ (v1 : Int32) (M : mm_M) (r : Bool) (M2 : mm_M), g_LawReader_readCondition n 2 v1 M = some (r, M2) → mm_P E Y_X4_readPiece nd [.ref 9, .int v1] M (some (.int (mm_b r))) M2) := by
  intro n
  induction n with
  | zero => exact fun nd _ => ⟨(fun v1 M r M2 h => by cases h), (fun v1 M r M2 h => by cases h), (fun v1 M r M2 h => by cases h)⟩
  | succ n ih =>
    intro nd hnd
    obtain ⟨nd, rfl⟩ : ∃ k, nd = k + 1 := ⟨68 + n, by omega⟩
    have hF := And.intro (show 68 ≤ nd by omega) (ih nd (by omega))
    refine ⟨?_, ?_, ?_⟩
    · intro v1 M r M2 h
      rw [g_LawReader_readCondition, if_pos rfl] at h
      exact cb_LawReader_readCondition E (F := g_LawReader_readCondition n) hF v1 M r M2 h
    · intro v1 M r M2 h
      rw [g_LawReader_readCondition, if_neg (by decide), if_pos rfl] at h
      exact cb_LawReader_readPieces E (F := g_LawReader_readCondition n) hF v1 M r M2 h
    · intro v1 M r M2 h
      rw [g_LawReader_readCondition, if_neg (by decide), if_neg (by decide), if_pos rfl] at h
      exact cb_LawReader_readPiece E (F := g_LawReader_readCondition n) hF v1 M r M2 h
def f_LawReader_readCondition (n : Nat) (v1 : Int32) (M : mm_M) : Option (Bool × mm_M) := g_LawReader_readCondition n 0 v1 M
theorem c_LawReader_readCondition (E : mm_E) (n : Nat) (v1 : Int32) (M : mm_M) : ∀ (r : Bool) (M2 : mm_M), f_LawReader_readCondition n v1 M = some (r, M2) → mm_P E Y_X4_readCondition (68 + n) [.ref 9, .int v1] M (some (.int (mm_b r))) M2 := fun r M2 h => (g_LawReader_readCondition_ok E n _ rfl).1 v1 M r M2 h
def f_LawReader_readPieces (n : Nat) (v1 : Int32) (M : mm_M) : Option (Bool × mm_M) := g_LawReader_readCondition n 1 v1 M
theorem c_LawReader_readPieces (E : mm_E) (n : Nat) (v1 : Int32) (M : mm_M) : ∀ (r : Bool) (M2 : mm_M), f_LawReader_readPieces n v1 M = some (r, M2) → mm_P E Y_X4_readPieces (68 + n) [.ref 9, .int v1] M (some (.int (mm_b r))) M2 := fun r M2 h => (g_LawReader_readCondition_ok E n _ rfl).2.1 v1 M r M2 h
def f_LawReader_readPiece (n : Nat) (v1 : Int32) (M : mm_M) : Option (Bool × mm_M) := g_LawReader_readCondition n 2 v1 M
theorem c_LawReader_readPiece (E : mm_E) (n : Nat) (v1 : Int32) (M : mm_M) : ∀ (r : Bool) (M2 : mm_M), f_LawReader_readPiece n v1 M = some (r, M2) → mm_P E Y_X4_readPiece (68 + n) [.ref 9, .int v1] M (some (.int (mm_b r))) M2 := fun r M2 h => (g_LawReader_readCondition_ok E n _ rfl).2.2 v1 M r M2 h
def f_Law_addClause_8 (v1 : Int32) (v2 : Int32) (v3 : Int32) (M : mm_M) : Option (Unit × mm_M) := if 12 ≤ M.1 8 7 then some ((), M) else if mm_in (M.1 8 7) (mm_al 55) = true then mm_let (mm_setA M 55 ((M.1 8 7).toNatClampNeg) v1) fun M_1 => if mm_in (M_1.1 8 7) (mm_al 56) = true then mm_let (mm_setA M_1 56 ((M_1.1 8 7).toNatClampNeg) v2) fun M_2 => if mm_in (M_2.1 8 7) (mm_al 57) = true then mm_let (mm_setA M_2 57 ((M_2.1 8 7).toNatClampNeg) v3) fun M_3 => if mm_in (M_3.1 8 7) (mm_al 58) = true then mm_let (mm_setA M_3 58 ((M_3.1 8 7).toNatClampNeg) (M_3.1 8 2)) fun M_4 => mm_let (mm_setI M_4 8 7 ((M_4.1 8 7) + 1)) fun M_5 => some ((), M_5) else none else none else none else none
set_option maxHeartbeats 4000000 in
theorem c_Law_addClause_8 (E : mm_E) (v1 : Int32) (v2 : Int32) (v3 : Int32) (M : mm_M) : ∀ (r : Unit) (M2 : mm_M), f_Law_addClause_8 v1 v2 v3 M = some (r, M2) → mm_P E Y_X3_addClause 1 [.ref 8, .int v1, .int v2, .int v3] M none M2 := by
  refine mm_entry (em := (fun _ : Unit => none)) (by decide +kernel) (Nat.le_of_ble_eq_true rfl) ?_
  show mm_G _ E _ _ 0 [(0, .ref 8), (1, .int v1), (2, .int v2), (3, .int v3)] [] M _
  unfold f_Law_addClause_8
  refine mm_aload_n 0 dX3_addClause_0 rfl ?_
  refine mm_getI dX3_addClause_1 fl_RX3_40 lo_8 rfl ?_
  refine mm_bipush (v := 12) dX3_addClause_4 rfl ?_
  refine mm_icmp_ge 62 dX3_addClause_6 rfl ?_ ?_
  · exact mm_vret dX3_addClause_62 rfl
  · refine mm_aload_n 0 dX3_addClause_9 rfl ?_
    refine mm_getR 55 dX3_addClause_10 fl_RX3_18 lo_8 rfl ?_
    refine mm_aload_n 0 dX3_addClause_13 rfl ?_
    refine mm_getI dX3_addClause_14 fl_RX3_40 lo_8 rfl ?_
    refine mm_iload_n 1 dX3_addClause_17 rfl ?_
    refine mm_iastore dX3_addClause_18 ?_
    refine mm_nm_M (fun M_1 => ?_)
    refine mm_aload_n 0 dX3_addClause_19 rfl ?_
    refine mm_getR 56 dX3_addClause_20 fl_RX3_21 lo_8 rfl ?_
    refine mm_aload_n 0 dX3_addClause_23 rfl ?_
    refine mm_getI dX3_addClause_24 fl_RX3_40 lo_8 rfl ?_
    refine mm_iload_n 2 dX3_addClause_27 rfl ?_
    refine mm_iastore dX3_addClause_28 ?_
    refine mm_nm_M (fun M_2 => ?_)
    refine mm_aload_n 0 dX3_addClause_29 rfl ?_
    refine mm_getR 57 dX3_addClause_30 fl_RX3_24 lo_8 rfl ?_
    refine mm_aload_n 0 dX3_addClause_33 rfl ?_
    refine mm_getI dX3_addClause_34 fl_RX3_40 lo_8 rfl ?_
    refine mm_iload_n 3 dX3_addClause_37 rfl ?_
    refine mm_iastore dX3_addClause_38 ?_
    refine mm_nm_M (fun M_3 => ?_)
    refine mm_aload_n 0 dX3_addClause_39 rfl ?_
    refine mm_getR 58 dX3_addClause_40 fl_RX3_27 lo_8 rfl ?_
    refine mm_aload_n 0 dX3_addClause_43 rfl ?_
    refine mm_getI dX3_addClause_44 fl_RX3_40 lo_8 rfl ?_
    refine mm_aload_n 0 dX3_addClause_47 rfl ?_
    refine mm_getI dX3_addClause_48 fl_RX3_36 lo_8 rfl ?_
    refine mm_iastore dX3_addClause_51 ?_
    refine mm_nm_M (fun M_4 => ?_)
    refine mm_aload_n 0 dX3_addClause_52 rfl ?_
    refine mm_dup dX3_addClause_53 rfl ?_
    refine mm_getI dX3_addClause_54 fl_RX3_40 lo_8 rfl ?_
    refine mm_iconst (v := 1) dX3_addClause_57 rfl ?_
    refine mm_iadd dX3_addClause_58 ?_
    refine mm_putI dX3_addClause_59 fp_RX3_40 lo_8 rfl ?_
    refine mm_nm_M (fun M_5 => ?_)
    exact mm_vret dX3_addClause_62 rfl
def f_LawReader_readClause (v1 : Int32) (M : mm_M) : Option (Bool × mm_M) := mm_let (M.1 2 3) fun v2_1 => mm_bd (f_TextReader_among_141 M) fun r_2 M_3 => if r_2 = (-1) then mm_bd (f_TextReader_failHere 1 M_3) fun b_20 M_21 => some (b_20, M_21) else if v1 < 12 then mm_bd (f_TextReader_step M_3) fun u_4 M_5 => mm_let (M_5.1 8 2) fun v3_6 => mm_bd (f_LawReader_readSum mm_rd 0 M_5) fun b_7 M_8 => if b_7 = true then mm_let (M_8.1 8 2) fun v4_9 => mm_bd (f_TextReader_take 40 M_8) fun b_10 M_11 => if b_10 = true then mm_bd (f_LawReader_readCondition mm_rd 1 M_11) fun b_12 M_13 => if b_12 = true then mm_bd (f_TextReader_take 41 M_13) fun b_14 M_15 => if b_14 = true then mm_bd (f_Law_addClause_8 v2_1 v3_6 v4_9 M_15) fun u_16 M_17 => some (true, M_17) else some (false, M_15) else some (false, M_13) else some (false, M_11) else some (false, M_8) else mm_bd (f_TextReader_failHere 4 M_3) fun b_18 M_19 => some (b_18, M_19)
set_option maxHeartbeats 4000000 in
theorem c_LawReader_readClause (E : mm_E) (v1 : Int32) (M : mm_M) : ∀ (r : Bool) (M2 : mm_M), f_LawReader_readClause v1 M = some (r, M2) → mm_P E Y_X4_readClause 129 [.ref 9, .int v1] M (some (.int (mm_b r))) M2 := by
  refine mm_entry (em := (fun x : Bool => some (.int (mm_b x)))) (by decide +kernel) (Nat.le_of_ble_eq_true rfl) ?_
  show mm_G _ E _ _ 0 [(0, .ref 9), (1, .int v1)] [] M _
  unfold f_LawReader_readClause
  refine mm_aload_n 0 dX4_readClause_0 rfl ?_
  refine mm_getR 2 dX4_readClause_1 fl_RX4_9 lo_9 rfl ?_
  refine mm_getI dX4_readClause_4 fl_RX4_46 lo_2 rfl ?_
  refine mm_nm_int (fun v2_1 => ?_)
  refine mm_istore_n [1, 2, 0] (lv2 := [(0, .ref 9), (1, .int v1), (2, .int v2_1)]) dX4_readClause_7 (by decide) rfl ?_
  refine mm_aload_n 0 dX4_readClause_8 rfl ?_
  refine mm_getR 2 dX4_readClause_9 fl_RX4_9 lo_9 rfl ?_
  refine mm_ldcT (t := 141) dX4_readClause_12 ss_1 rfl ?_
  refine mm_callVi (as := [.ref 141]) (st := []) (c_TextReader_among_141 E M) dX4_readClause_14 mz_X10_among lk_RX4_51 im_X10_among se_X10_among lo_2 rfl rfl rfl ⟨Nat.le_of_ble_eq_true rfl, Nat.le_of_ble_eq_true rfl⟩ (Nat.le_of_ble_eq_true rfl) (fun r_2 M_3 => ?_)
  refine mm_iconst (v := (-1)) dX4_readClause_17 rfl ?_
  refine mm_icmp_ne 30 dX4_readClause_18 rfl ?_ ?_
  · refine mm_iload_n 1 dX4_readClause_30 rfl ?_
    refine mm_bipush (v := 12) dX4_readClause_31 rfl ?_
    refine mm_icmp_lt 45 dX4_readClause_33 rfl ?_ ?_
    · refine mm_aload_n 0 dX4_readClause_45 rfl ?_
      refine mm_getR 2 dX4_readClause_46 fl_RX4_9 lo_9 rfl ?_
      refine mm_callVv (as := []) (st := []) (c_TextReader_step E M_3) dX4_readClause_49 mz_X10_step lk_RX4_58 im_X10_step se_X10_step lo_2 rfl rfl rfl ⟨Nat.le_of_ble_eq_true rfl, Nat.le_of_ble_eq_true rfl⟩ (Nat.le_of_ble_eq_true rfl) (fun u_4 M_5 => ?_)
      refine mm_aload_n 0 dX4_readClause_52 rfl ?_
      refine mm_getR 8 dX4_readClause_53 fl_RX4_15 lo_9 rfl ?_
      refine mm_getI dX4_readClause_56 fl_RX4_61 lo_8 rfl ?_
      refine mm_nm_int (fun v3_6 => ?_)
      refine mm_istore_n [1, 2, 3, 0] (lv2 := [(0, .ref 9), (1, .int v1), (2, .int v2_1), (3, .int v3_6)]) dX4_readClause_59 (by decide) rfl ?_
      refine mm_aload_n 0 dX4_readClause_60 rfl ?_
      refine mm_iconst (v := 0) dX4_readClause_61 rfl ?_
      refine mm_callVz (as := [.int 0]) (st := []) (c_LawReader_readSum E mm_rd 0 M_5) dX4_readClause_62 mz_X4_readSum lk_RX4_64 im_X4_readSum se_X4_readSum lo_9 rfl rfl rfl ⟨Nat.le_of_ble_eq_true rfl, Nat.le_of_ble_eq_true rfl⟩ (Nat.le_of_ble_eq_true rfl) (fun b_7 M_8 => ?_)
      refine mm_if_ne_b 70 dX4_readClause_65 rfl ?_ ?_
      · refine mm_aload_n 0 dX4_readClause_70 rfl ?_
        refine mm_getR 8 dX4_readClause_71 fl_RX4_15 lo_9 rfl ?_
        refine mm_getI dX4_readClause_74 fl_RX4_61 lo_8 rfl ?_
        refine mm_nm_int (fun v4_9 => ?_)
        refine mm_istore [1, 2, 3, 4, 0] (lv2 := [(0, .ref 9), (1, .int v1), (2, .int v2_1), (3, .int v3_6), (4, .int v4_9)]) dX4_readClause_77 (by decide) rfl ?_
        refine mm_aload_n 0 dX4_readClause_79 rfl ?_
        refine mm_getR 2 dX4_readClause_80 fl_RX4_9 lo_9 rfl ?_
        refine mm_bipush (v := 40) dX4_readClause_83 rfl ?_
        refine mm_callVz (as := [.int 40]) (st := []) (c_TextReader_take E 40 M_8) dX4_readClause_85 mz_X10_take lk_RX4_42 im_X10_take se_X10_take lo_2 rfl rfl rfl ⟨Nat.le_of_ble_eq_true rfl, Nat.le_of_ble_eq_true rfl⟩ (Nat.le_of_ble_eq_true rfl) (fun b_10 M_11 => ?_)
        refine mm_if_eq_b 111 dX4_readClause_88 rfl ?_ ?_
        · refine mm_iconst (v := 0) dX4_readClause_111 rfl ?_
          exact mm_zret (b := false) dX4_readClause_112 rfl
        · refine mm_aload_n 0 dX4_readClause_91 rfl ?_
          refine mm_iconst (v := 1) dX4_readClause_92 rfl ?_
          refine mm_callVz (as := [.int 1]) (st := []) (c_LawReader_readCondition E mm_rd 1 M_11) dX4_readClause_93 mz_X4_readCondition lk_RX4_67 im_X4_readCondition se_X4_readCondition lo_9 rfl rfl rfl ⟨Nat.le_of_ble_eq_true rfl, Nat.le_of_ble_eq_true rfl⟩ (Nat.le_of_ble_eq_true rfl) (fun b_12 M_13 => ?_)
          refine mm_if_eq_b 111 dX4_readClause_96 rfl ?_ ?_
          · refine mm_iconst (v := 0) dX4_readClause_111 rfl ?_
            exact mm_zret (b := false) dX4_readClause_112 rfl
          · refine mm_aload_n 0 dX4_readClause_99 rfl ?_
            refine mm_getR 2 dX4_readClause_100 fl_RX4_9 lo_9 rfl ?_
            refine mm_bipush (v := 41) dX4_readClause_103 rfl ?_
            refine mm_callVz (as := [.int 41]) (st := []) (c_TextReader_take E 41 M_13) dX4_readClause_105 mz_X10_take lk_RX4_42 im_X10_take se_X10_take lo_2 rfl rfl rfl ⟨Nat.le_of_ble_eq_true rfl, Nat.le_of_ble_eq_true rfl⟩ (Nat.le_of_ble_eq_true rfl) (fun b_14 M_15 => ?_)
            refine mm_if_ne_b 113 dX4_readClause_108 rfl ?_ ?_
            · refine mm_aload_n 0 dX4_readClause_113 rfl ?_
              refine mm_getR 8 dX4_readClause_114 fl_RX4_15 lo_9 rfl ?_
              refine mm_iload_n 2 dX4_readClause_117 rfl ?_
              refine mm_iload_n 3 dX4_readClause_118 rfl ?_
              refine mm_iload 4 dX4_readClause_119 rfl ?_
              refine mm_callVv (as := [.int v2_1, .int v3_6, .int v4_9]) (st := []) (c_Law_addClause_8 E v2_1 v3_6 v4_9 M_15) dX4_readClause_121 mz_X3_addClause lk_RX4_70 im_X3_addClause se_X3_addClause lo_8 rfl rfl rfl ⟨Nat.le_of_ble_eq_true rfl, Nat.le_of_ble_eq_true rfl⟩ (Nat.le_of_ble_eq_true rfl) (fun u_16 M_17 => ?_)
              refine mm_iconst (v := 1) dX4_readClause_124 rfl ?_
              exact mm_zret (b := true) dX4_readClause_125 rfl
            · refine mm_iconst (v := 0) dX4_readClause_111 rfl ?_
              exact mm_zret (b := false) dX4_readClause_112 rfl
      · refine mm_iconst (v := 0) dX4_readClause_68 rfl ?_
        exact mm_zret (b := false) dX4_readClause_69 rfl
    · refine mm_aload_n 0 dX4_readClause_36 rfl ?_
      refine mm_getR 2 dX4_readClause_37 fl_RX4_9 lo_9 rfl ?_
      refine mm_iconst (v := 4) dX4_readClause_40 rfl ?_
      refine mm_callVz (as := [.int 4]) (st := []) (c_TextReader_failHere E 4 M_3) dX4_readClause_41 mz_X10_failHere lk_RX4_55 im_X10_failHere se_X10_failHere lo_2 rfl rfl rfl ⟨Nat.le_of_ble_eq_true rfl, Nat.le_of_ble_eq_true rfl⟩ (Nat.le_of_ble_eq_true rfl) (fun b_18 M_19 => ?_)
      exact mm_zret (b := b_18) dX4_readClause_44 rfl
  · refine mm_aload_n 0 dX4_readClause_21 rfl ?_
    refine mm_getR 2 dX4_readClause_22 fl_RX4_9 lo_9 rfl ?_
    refine mm_iconst (v := 1) dX4_readClause_25 rfl ?_
    refine mm_callVz (as := [.int 1]) (st := []) (c_TextReader_failHere E 1 M_3) dX4_readClause_26 mz_X10_failHere lk_RX4_55 im_X10_failHere se_X10_failHere lo_2 rfl rfl rfl ⟨Nat.le_of_ble_eq_true rfl, Nat.le_of_ble_eq_true rfl⟩ (Nat.le_of_ble_eq_true rfl) (fun b_20 M_21 => ?_)
    exact mm_zret (b := b_20) dX4_readClause_29 rfl
def lp_LawReader_read_17 (k31 : mm_M → Option (Int32 × mm_M)) (k49 : Int32 → mm_M → Option (Int32 × mm_M)) (k65 : mm_M → Option (Int32 × mm_M)) (k79 : mm_M → Option (Int32 × mm_M)) : Nat → Int32 → mm_M → Option (Int32 × mm_M)
  | 0, _, _ => none
  | n + 1, v2, M => if 12 < v2 then k79 M else mm_bd (f_LawReader_readClause v2 M) fun b_5 M_6 => if b_5 = true then mm_bd (f_TextReader_atEnd M_6) fun b_7 M_8 => if b_7 = true then k49 v2 M_8 else mm_bd (f_TextReader_take 59 M_8) fun b_9 M_10 => if b_9 = true then mm_let (v2 + 1) fun v2_11 => lp_LawReader_read_17 k31 k49 k65 k79 n v2_11 M_10 else k65 M_10 else k31 M_6
set_option maxHeartbeats 4000000 in
theorem lp_LawReader_read_17_ok (E : mm_E) {k31 : mm_M → Option (Int32 × mm_M)} {k49 : Int32 → mm_M → Option (Int32 × mm_M)} {k65 : mm_M → Option (Int32 × mm_M)} {k79 : mm_M → Option (Int32 × mm_M)} (hk31 : ∀ (M : mm_M), mm_G (fun x : Int32 => some (.int x)) E Y_X4_read 130 31 [(0, .ref 9)] [] M (k31 M)) (hk49 : ∀ (v2 : Int32) (M : mm_M), mm_G (fun x : Int32 => some (.int x)) E Y_X4_read 130 49 [(2, .int v2)] [] M (k49 v2 M)) (hk65 : ∀ (M : mm_M), mm_G (fun x : Int32 => some (.int x)) E Y_X4_read 130 65 [(0, .ref 9)] [] M (k65 M)) (hk79 : ∀ (M : mm_M), mm_G (fun x : Int32 => some (.int x)) E Y_X4_read 130 79 [(0, .ref 9)] [] M (k79 M)) : ∀ (n : Nat) (v2 : Int32) (M : mm_M), mm_G (fun x : Int32 => some (.int x)) E Y_X4_read 130 17 [(0, .ref 9), (2, .int v2)] [] M (lp_LawReader_read_17 k31 k49 k65 k79 n v2 M) := by
  intro n
  induction n with
  | zero => intro v2 M r M2 he; cases he
  | succ n ih =>
    intro v2 M
    rw [lp_LawReader_read_17]
    refine mm_iload_n 1 dX4_read_17 rfl ?_
    refine mm_bipush (v := 12) dX4_read_18 rfl ?_
    refine mm_icmp_gt 79 dX4_read_20 rfl ?_ ?_
    · refine mm_wk [0] rfl ?_
      exact hk79  M
    · refine mm_aload_n 0 dX4_read_23 rfl ?_
      refine mm_iload_n 1 dX4_read_24 rfl ?_
      refine mm_callVz (as := [.int v2]) (st := []) (c_LawReader_readClause E v2 M) dX4_read_25 mz_X4_readClause lk_RX4_30 im_X4_readClause se_X4_readClause lo_9 rfl rfl rfl ⟨Nat.le_of_ble_eq_true rfl, Nat.le_of_ble_eq_true rfl⟩ (Nat.le_of_ble_eq_true rfl) (fun b_5 M_6 => ?_)
      refine mm_if_ne_b 39 dX4_read_28 rfl ?_ ?_
      · refine mm_aload_n 0 dX4_read_39 rfl ?_
        refine mm_getR 2 dX4_read_40 fl_RX4_9 lo_9 rfl ?_
        refine mm_callVz (as := []) (st := []) (c_TextReader_atEnd E M_6) dX4_read_43 mz_X10_atEnd lk_RX4_38 im_X10_atEnd se_X10_atEnd lo_2 rfl rfl rfl ⟨Nat.le_of_ble_eq_true rfl, Nat.le_of_ble_eq_true rfl⟩ (Nat.le_of_ble_eq_true rfl) (fun b_7 M_8 => ?_)
        refine mm_if_eq_b 53 dX4_read_46 rfl ?_ ?_
        · refine mm_aload_n 0 dX4_read_53 rfl ?_
          refine mm_getR 2 dX4_read_54 fl_RX4_9 lo_9 rfl ?_
          refine mm_bipush (v := 59) dX4_read_57 rfl ?_
          refine mm_callVz (as := [.int 59]) (st := []) (c_TextReader_take E 59 M_8) dX4_read_59 mz_X10_take lk_RX4_42 im_X10_take se_X10_take lo_2 rfl rfl rfl ⟨Nat.le_of_ble_eq_true rfl, Nat.le_of_ble_eq_true rfl⟩ (Nat.le_of_ble_eq_true rfl) (fun b_9 M_10 => ?_)
          refine mm_if_ne_b 73 dX4_read_62 rfl ?_ ?_
          · refine mm_iincN 1 [1, 0] (v := v2 + 1) (lv2 := fun v2_11 => [(0, .ref 9), (2, .int v2_11)]) dX4_read_73 rfl rfl (by decide) (fun _ => rfl) (fun v2_11 => ?_)
            refine mm_goto 17 dX4_read_76 rfl ?_
            exact ih v2_11 M_10
          · refine mm_wk [0] rfl ?_
            exact hk65  M_10
        · refine mm_wk [1] rfl ?_
          exact hk49 v2 M_8
      · refine mm_wk [0] rfl ?_
        exact hk31  M_6
def f_LawReader_read (v1 : Int32) (M : mm_M) : Option (Int32 × mm_M) := mm_bd (f_TextReader_open v1 M) fun u_1 M_2 => mm_bd (f_Law_clear_8 M_2) fun u_3 M_4 => lp_LawReader_read_17 (fun (M_12 : mm_M) => some (M_12.1 2 4, M_12)) (fun (v2 : Int32) (M_13 : mm_M) => some (v2 + 1, M_13)) (fun (M_14 : mm_M) => some (M_14.1 2 4, M_14)) (fun (M_15 : mm_M) => some (M_15.1 2 4, M_15)) mm_fu 0 M_4
set_option maxHeartbeats 4000000 in
theorem c_LawReader_read (E : mm_E) (v1 : Int32) (M : mm_M) : ∀ (r : Int32) (M2 : mm_M), f_LawReader_read v1 M = some (r, M2) → mm_P E Y_X4_read 130 [.ref 9, .int v1] M (some (.int r)) M2 := by
  refine mm_entry (em := (fun x : Int32 => some (.int x))) (by decide +kernel) (Nat.le_of_ble_eq_true rfl) ?_
  show mm_G _ E _ _ 0 [(0, .ref 9), (1, .int v1)] [] M _
  unfold f_LawReader_read
  refine mm_aload_n 0 dX4_read_0 rfl ?_
  refine mm_getR 2 dX4_read_1 fl_RX4_9 lo_9 rfl ?_
  refine mm_iload_n 1 dX4_read_4 rfl ?_
  refine mm_callVv (as := [.int v1]) (st := []) (c_TextReader_open E v1 M) dX4_read_5 mz_X10_open lk_RX4_19 im_X10_open se_X10_open lo_2 rfl rfl rfl ⟨Nat.le_of_ble_eq_true rfl, Nat.le_of_ble_eq_true rfl⟩ (Nat.le_of_ble_eq_true rfl) (fun u_1 M_2 => ?_)
  refine mm_aload_n 0 dX4_read_8 rfl ?_
  refine mm_getR 8 dX4_read_9 fl_RX4_15 lo_9 rfl ?_
  refine mm_callVv (as := []) (st := []) (c_Law_clear_8 E M_2) dX4_read_12 mz_X3_clear lk_RX4_25 im_X3_clear se_X3_clear lo_8 rfl rfl rfl ⟨Nat.le_of_ble_eq_true rfl, Nat.le_of_ble_eq_true rfl⟩ (Nat.le_of_ble_eq_true rfl) (fun u_3 M_4 => ?_)
  refine mm_iconst (v := 0) dX4_read_15 rfl ?_
  refine mm_istore_n [1, 2, 0] (lv2 := [(0, .ref 9), (1, .int v1), (2, .int 0)]) dX4_read_16 (by decide) rfl ?_
  refine mm_wk [0, 2] rfl ?_
  refine lp_LawReader_read_17_ok E ?_ ?_ ?_ ?_ mm_fu 0 M_4
  · intro M_12
    refine mm_aload_n 0 dX4_read_31 rfl ?_
    refine mm_getR 2 dX4_read_32 fl_RX4_9 lo_9 rfl ?_
    refine mm_getI dX4_read_35 fl_RX4_34 lo_2 rfl ?_
    exact mm_iret dX4_read_38 rfl
  · intro v2 M_13
    refine mm_iload_n 0 dX4_read_49 rfl ?_
    refine mm_iconst (v := 1) dX4_read_50 rfl ?_
    refine mm_iadd dX4_read_51 ?_
    exact mm_iret dX4_read_52 rfl
  · intro M_14
    refine mm_aload_n 0 dX4_read_65 rfl ?_
    refine mm_getR 2 dX4_read_66 fl_RX4_9 lo_9 rfl ?_
    refine mm_getI dX4_read_69 fl_RX4_34 lo_2 rfl ?_
    exact mm_iret dX4_read_72 rfl
  · intro M_15
    refine mm_aload_n 0 dX4_read_79 rfl ?_
    refine mm_getR 2 dX4_read_80 fl_RX4_9 lo_9 rfl ?_
    refine mm_getI dX4_read_83 fl_RX4_34 lo_2 rfl ?_
    exact mm_iret dX4_read_86 rfl
def f_Law_copyFrom_7_8 (M : mm_M) : Option (Unit × mm_M) := if mm_cpok 53 45 0 0 160 = true then mm_let (mm_cp M 53 45 0 0 160) fun M_1 => if mm_cpok 54 46 0 0 160 = true then mm_let (mm_cp M_1 54 46 0 0 160) fun M_2 => mm_let (mm_setI M_2 7 2 (M_2.1 8 2)) fun M_3 => if mm_cpok 55 47 0 0 12 = true then mm_let (mm_cp M_3 55 47 0 0 12) fun M_4 => if mm_cpok 56 48 0 0 12 = true then mm_let (mm_cp M_4 56 48 0 0 12) fun M_5 => if mm_cpok 57 49 0 0 12 = true then mm_let (mm_cp M_5 57 49 0 0 12) fun M_6 => if mm_cpok 58 50 0 0 12 = true then mm_let (mm_cp M_6 58 50 0 0 12) fun M_7 => mm_let (mm_setI M_7 7 7 (M_7.1 8 7)) fun M_8 => some ((), M_8) else none else none else none else none else none else none
set_option maxHeartbeats 4000000 in
theorem c_Law_copyFrom_7_8 (E : mm_E) (M : mm_M) : ∀ (r : Unit) (M2 : mm_M), f_Law_copyFrom_7_8 M = some (r, M2) → mm_P E Y_X3_copyFrom 1 [.ref 7, .ref 8] M none M2 := by
  refine mm_entry (em := (fun _ : Unit => none)) (by decide +kernel) (Nat.le_of_ble_eq_true rfl) ?_
  show mm_G _ E _ _ 0 [(0, .ref 7), (1, .ref 8)] [] M _
  unfold f_Law_copyFrom_7_8
  refine mm_aload_n 1 dX3_copyFrom_0 rfl ?_
  refine mm_getR 53 dX3_copyFrom_1 fl_RX3_9 lo_8 rfl ?_
  refine mm_iconst (v := 0) dX3_copyFrom_4 rfl ?_
  refine mm_aload_n 0 dX3_copyFrom_5 rfl ?_
  refine mm_getR 45 dX3_copyFrom_6 fl_RX3_9 lo_7 rfl ?_
  refine mm_iconst (v := 0) dX3_copyFrom_9 rfl ?_
  refine mm_sipush (v := 160) dX3_copyFrom_10 rfl ?_
  refine mm_copy dX3_copyFrom_13 lk_RX3_43 wd_copy ⟨Nat.le_of_ble_eq_true rfl, Nat.le_of_ble_eq_true rfl⟩ ?_
  refine mm_nm_M (fun M_1 => ?_)
  refine mm_aload_n 1 dX3_copyFrom_16 rfl ?_
  refine mm_getR 54 dX3_copyFrom_17 fl_RX3_15 lo_8 rfl ?_
  refine mm_iconst (v := 0) dX3_copyFrom_20 rfl ?_
  refine mm_aload_n 0 dX3_copyFrom_21 rfl ?_
  refine mm_getR 46 dX3_copyFrom_22 fl_RX3_15 lo_7 rfl ?_
  refine mm_iconst (v := 0) dX3_copyFrom_25 rfl ?_
  refine mm_sipush (v := 160) dX3_copyFrom_26 rfl ?_
  refine mm_copy dX3_copyFrom_29 lk_RX3_43 wd_copy ⟨Nat.le_of_ble_eq_true rfl, Nat.le_of_ble_eq_true rfl⟩ ?_
  refine mm_nm_M (fun M_2 => ?_)
  refine mm_aload_n 0 dX3_copyFrom_32 rfl ?_
  refine mm_aload_n 1 dX3_copyFrom_33 rfl ?_
  refine mm_getI dX3_copyFrom_34 fl_RX3_36 lo_8 rfl ?_
  refine mm_putI dX3_copyFrom_37 fp_RX3_36 lo_7 rfl ?_
  refine mm_nm_M (fun M_3 => ?_)
  refine mm_aload_n 1 dX3_copyFrom_40 rfl ?_
  refine mm_getR 55 dX3_copyFrom_41 fl_RX3_18 lo_8 rfl ?_
  refine mm_iconst (v := 0) dX3_copyFrom_44 rfl ?_
  refine mm_aload_n 0 dX3_copyFrom_45 rfl ?_
  refine mm_getR 47 dX3_copyFrom_46 fl_RX3_18 lo_7 rfl ?_
  refine mm_iconst (v := 0) dX3_copyFrom_49 rfl ?_
  refine mm_bipush (v := 12) dX3_copyFrom_50 rfl ?_
  refine mm_copy dX3_copyFrom_52 lk_RX3_43 wd_copy ⟨Nat.le_of_ble_eq_true rfl, Nat.le_of_ble_eq_true rfl⟩ ?_
  refine mm_nm_M (fun M_4 => ?_)
  refine mm_aload_n 1 dX3_copyFrom_55 rfl ?_
  refine mm_getR 56 dX3_copyFrom_56 fl_RX3_21 lo_8 rfl ?_
  refine mm_iconst (v := 0) dX3_copyFrom_59 rfl ?_
  refine mm_aload_n 0 dX3_copyFrom_60 rfl ?_
  refine mm_getR 48 dX3_copyFrom_61 fl_RX3_21 lo_7 rfl ?_
  refine mm_iconst (v := 0) dX3_copyFrom_64 rfl ?_
  refine mm_bipush (v := 12) dX3_copyFrom_65 rfl ?_
  refine mm_copy dX3_copyFrom_67 lk_RX3_43 wd_copy ⟨Nat.le_of_ble_eq_true rfl, Nat.le_of_ble_eq_true rfl⟩ ?_
  refine mm_nm_M (fun M_5 => ?_)
  refine mm_aload_n 1 dX3_copyFrom_70 rfl ?_
  refine mm_getR 57 dX3_copyFrom_71 fl_RX3_24 lo_8 rfl ?_
  refine mm_iconst (v := 0) dX3_copyFrom_74 rfl ?_
  refine mm_aload_n 0 dX3_copyFrom_75 rfl ?_
  refine mm_getR 49 dX3_copyFrom_76 fl_RX3_24 lo_7 rfl ?_
  refine mm_iconst (v := 0) dX3_copyFrom_79 rfl ?_
  refine mm_bipush (v := 12) dX3_copyFrom_80 rfl ?_
  refine mm_copy dX3_copyFrom_82 lk_RX3_43 wd_copy ⟨Nat.le_of_ble_eq_true rfl, Nat.le_of_ble_eq_true rfl⟩ ?_
  refine mm_nm_M (fun M_6 => ?_)
  refine mm_aload_n 1 dX3_copyFrom_85 rfl ?_
  refine mm_getR 58 dX3_copyFrom_86 fl_RX3_27 lo_8 rfl ?_
  refine mm_iconst (v := 0) dX3_copyFrom_89 rfl ?_
  refine mm_aload_n 0 dX3_copyFrom_90 rfl ?_
  refine mm_getR 50 dX3_copyFrom_91 fl_RX3_27 lo_7 rfl ?_
  refine mm_iconst (v := 0) dX3_copyFrom_94 rfl ?_
  refine mm_bipush (v := 12) dX3_copyFrom_95 rfl ?_
  refine mm_copy dX3_copyFrom_97 lk_RX3_43 wd_copy ⟨Nat.le_of_ble_eq_true rfl, Nat.le_of_ble_eq_true rfl⟩ ?_
  refine mm_nm_M (fun M_7 => ?_)
  refine mm_aload_n 0 dX3_copyFrom_100 rfl ?_
  refine mm_aload_n 1 dX3_copyFrom_101 rfl ?_
  refine mm_getI dX3_copyFrom_102 fl_RX3_40 lo_8 rfl ?_
  refine mm_putI dX3_copyFrom_105 fp_RX3_40 lo_7 rfl ?_
  refine mm_nm_M (fun M_8 => ?_)
  exact mm_vret dX3_copyFrom_108 rfl
def f_H_law (v1 : Int32) (M : mm_M) : Option (Int32 × mm_M) := if v1 < 1 then some ((-1), M) else if 160 < v1 then some ((-1), M) else mm_bd (f_Tape_size M) fun r_1 M_2 => if v1 ≤ r_1 then mm_bd (f_LawReader_read v1 M_2) fun r_3 M_4 => mm_jn (fun (v2 : Int32) (M_5 : mm_M) => mm_bd (f_Tape_clear M_5) fun u_6 M_7 => some (v2, M_7)) fun j49 => if r_3 ≤ 0 then j49 r_3 M_4 else mm_bd (f_Law_copyFrom_7_8 M_4) fun u_8 M_9 => j49 r_3 M_9 else some ((-1), M_2)
set_option maxHeartbeats 4000000 in
theorem c_H_law (E : mm_E) (v1 : Int32) (M : mm_M) : ∀ (r : Int32) (M2 : mm_M), f_H_law v1 M = some (r, M2) → mm_P E Y_X11_law 131 [.ref 0, .int v1] M (some (.int r)) M2 := by
  refine mm_entry (em := (fun x : Int32 => some (.int x))) (by decide +kernel) (Nat.le_of_ble_eq_true rfl) ?_
  show mm_G _ E _ _ 0 [(0, .ref 0), (1, .int v1)] [] M _
  unfold f_H_law
  refine mm_iload_n 1 dX11_law_0 rfl ?_
  refine mm_iconst (v := 1) dX11_law_1 rfl ?_
  refine mm_icmp_lt 23 dX11_law_2 rfl ?_ ?_
  · refine mm_iconst (v := (-1)) dX11_law_23 rfl ?_
    exact mm_iret dX11_law_24 rfl
  · refine mm_iload_n 1 dX11_law_5 rfl ?_
    refine mm_sipush (v := 160) dX11_law_6 rfl ?_
    refine mm_icmp_gt 23 dX11_law_9 rfl ?_ ?_
    · refine mm_iconst (v := (-1)) dX11_law_23 rfl ?_
      exact mm_iret dX11_law_24 rfl
    · refine mm_iload_n 1 dX11_law_12 rfl ?_
      refine mm_aload_n 0 dX11_law_13 rfl ?_
      refine mm_getR 1 dX11_law_14 fl_RX11_12 lo_0 rfl ?_
      refine mm_callVi (as := []) (st := [.int v1]) (c_Tape_size E M) dX11_law_17 mz_X9_size lk_RX11_100 im_X9_size se_X9_size lo_1 rfl rfl rfl ⟨Nat.le_of_ble_eq_true rfl, Nat.le_of_ble_eq_true rfl⟩ (Nat.le_of_ble_eq_true rfl) (fun r_1 M_2 => ?_)
      refine mm_icmp_le 25 dX11_law_20 rfl ?_ ?_
      · refine mm_aload_n 0 dX11_law_25 rfl ?_
        refine mm_getR 9 dX11_law_26 fl_RX11_62 lo_0 rfl ?_
        refine mm_iload_n 1 dX11_law_29 rfl ?_
        refine mm_callVi (as := [.int v1]) (st := []) (c_LawReader_read E v1 M_2) dX11_law_30 mz_X4_read lk_RX11_170 im_X4_read se_X4_read lo_9 rfl rfl rfl ⟨Nat.le_of_ble_eq_true rfl, Nat.le_of_ble_eq_true rfl⟩ (Nat.le_of_ble_eq_true rfl) (fun r_3 M_4 => ?_)
        refine mm_istore_n [1, 2, 0] (lv2 := [(0, .ref 0), (1, .int v1), (2, .int r_3)]) dX11_law_33 (by decide) rfl ?_
        refine mm_iload_n 2 dX11_law_34 rfl ?_
        refine mm_jnP (P := fun j => ∀ (v2 : Int32) (M : mm_M), mm_G (fun x : Int32 => some (.int x)) E Y_X11_law 131 49 [(0, .ref 0), (2, .int v2)] [] M (j v2 M)) ?_ (fun j49 hj49 => ?_)
        · intro v2 M_5
          refine mm_aload_n 0 dX11_law_49 rfl ?_
          refine mm_getR 1 dX11_law_50 fl_RX11_12 lo_0 rfl ?_
          refine mm_callVv (as := []) (st := []) (c_Tape_clear E M_5) dX11_law_53 mz_X9_clear lk_RX11_116 im_X9_clear se_X9_clear lo_1 rfl rfl rfl ⟨Nat.le_of_ble_eq_true rfl, Nat.le_of_ble_eq_true rfl⟩ (Nat.le_of_ble_eq_true rfl) (fun u_6 M_7 => ?_)
          refine mm_iload_n 1 dX11_law_56 rfl ?_
          exact mm_iret dX11_law_57 rfl
        refine mm_if_le 49 dX11_law_35 rfl ?_ ?_
        · refine mm_wk [0, 2] rfl ?_
          exact hj49 r_3 M_4
        · refine mm_aload_n 0 dX11_law_38 rfl ?_
          refine mm_getR 7 dX11_law_39 fl_RX11_50 lo_0 rfl ?_
          refine mm_aload_n 0 dX11_law_42 rfl ?_
          refine mm_getR 8 dX11_law_43 fl_RX11_54 lo_0 rfl ?_
          refine mm_callVv (as := [.ref 8]) (st := []) (c_Law_copyFrom_7_8 E M_4) dX11_law_46 mz_X3_copyFrom lk_RX11_173 im_X3_copyFrom se_X3_copyFrom lo_7 rfl rfl rfl ⟨Nat.le_of_ble_eq_true rfl, Nat.le_of_ble_eq_true rfl⟩ (Nat.le_of_ble_eq_true rfl) (fun u_8 M_9 => ?_)
          refine mm_wk [0, 2] rfl ?_
          exact hj49 r_3 M_9
      · refine mm_iconst (v := (-1)) dX11_law_23 rfl ?_
        exact mm_iret dX11_law_24 rfl
def lp_Arrays_fill_73_5 (v1 : Int32) (v3 : Int32) (k20 : mm_M → Option (Unit × mm_M)) : Nat → Int32 → mm_M → Option (Unit × mm_M)
  | 0, _, _ => none
  | n + 1, v2, M => if v3 ≤ v2 then k20 M else if mm_in v2 (mm_al 73) = true then mm_let (mm_setA M 73 (v2.toNatClampNeg) v1) fun M_1 => mm_let (v2 + 1) fun v2_2 => lp_Arrays_fill_73_5 v1 v3 k20 n v2_2 M_1 else none
set_option maxHeartbeats 4000000 in
theorem lp_Arrays_fill_73_5_ok (E : mm_E) (v1 : Int32) (v3 : Int32) {k20 : mm_M → Option (Unit × mm_M)} (hk20 : ∀ (M : mm_M), mm_G (fun _ : Unit => none) E Y_J7_fill_53178 1 20 [] [] M (k20 M)) : ∀ (n : Nat) (v2 : Int32) (M : mm_M), mm_G (fun _ : Unit => none) E Y_J7_fill_53178 1 5 [(0, .ref 73), (1, .int v1), (2, .int v2), (3, .int v3)] [] M (lp_Arrays_fill_73_5 v1 v3 k20 n v2 M) := by
  intro n
  induction n with
  | zero => intro v2 M r M2 he; cases he
  | succ n ih =>
    intro v2 M
    rw [lp_Arrays_fill_73_5]
    refine mm_iload_n 2 dJ7_fill_53178_5 rfl ?_
    refine mm_iload_n 3 dJ7_fill_53178_6 rfl ?_
    refine mm_icmp_ge 20 dJ7_fill_53178_7 rfl ?_ ?_
    · refine mm_wk [] rfl ?_
      exact hk20  M
    · refine mm_aload_n 0 dJ7_fill_53178_10 rfl ?_
      refine mm_iload_n 2 dJ7_fill_53178_11 rfl ?_
      refine mm_iload_n 1 dJ7_fill_53178_12 rfl ?_
      refine mm_iastore dJ7_fill_53178_13 ?_
      refine mm_nm_M (fun M_1 => ?_)
      refine mm_iincN 2 [1, 2, 0, 3] (v := v2 + 1) (lv2 := fun v2_2 => [(0, .ref 73), (1, .int v1), (2, .int v2_2), (3, .int v3)]) dJ7_fill_53178_14 rfl rfl (by decide) (fun _ => rfl) (fun v2_2 => ?_)
      refine mm_goto 5 dJ7_fill_53178_17 rfl ?_
      exact ih v2_2 M_1
def f_Arrays_fill_73 (v1 : Int32) (M : mm_M) : Option (Unit × mm_M) := lp_Arrays_fill_73_5 v1 72 (fun (M_3 : mm_M) => some ((), M_3)) mm_fu 0 M
set_option maxHeartbeats 4000000 in
theorem c_Arrays_fill_73 (E : mm_E) (v1 : Int32) (M : mm_M) : ∀ (r : Unit) (M2 : mm_M), f_Arrays_fill_73 v1 M = some (r, M2) → mm_P E Y_J7_fill_53178 1 [.ref 73, .int v1] M none M2 := by
  refine mm_entry (em := (fun _ : Unit => none)) (by decide +kernel) (Nat.le_of_ble_eq_true rfl) ?_
  show mm_G _ E _ _ 0 [(0, .ref 73), (1, .int v1)] [] M _
  unfold f_Arrays_fill_73
  refine mm_iconst (v := 0) dJ7_fill_53178_0 rfl ?_
  refine mm_istore_n [1, 2, 0] (lv2 := [(0, .ref 73), (1, .int v1), (2, .int 0)]) dJ7_fill_53178_1 (by decide) rfl ?_
  refine mm_aload_n 0 dJ7_fill_53178_2 rfl ?_
  refine mm_alen (v := 72) dJ7_fill_53178_3 lo_73 rfl ?_
  refine mm_istore_n [1, 2, 3, 0] (lv2 := [(0, .ref 73), (1, .int v1), (2, .int 0), (3, .int 72)]) dJ7_fill_53178_4 (by decide) rfl ?_
  refine lp_Arrays_fill_73_5_ok E v1 72 ?_ mm_fu 0 M
  · intro M_3
    exact mm_vret dJ7_fill_53178_20 rfl
def lp_Arrays_fill_74_5 (v1 : Int32) (v3 : Int32) (k20 : mm_M → Option (Unit × mm_M)) : Nat → Int32 → mm_M → Option (Unit × mm_M)
  | 0, _, _ => none
  | n + 1, v2, M => if v3 ≤ v2 then k20 M else if mm_in v2 (mm_al 74) = true then mm_let (mm_setA M 74 (v2.toNatClampNeg) v1) fun M_1 => mm_let (v2 + 1) fun v2_2 => lp_Arrays_fill_74_5 v1 v3 k20 n v2_2 M_1 else none
set_option maxHeartbeats 4000000 in
theorem lp_Arrays_fill_74_5_ok (E : mm_E) (v1 : Int32) (v3 : Int32) {k20 : mm_M → Option (Unit × mm_M)} (hk20 : ∀ (M : mm_M), mm_G (fun _ : Unit => none) E Y_J7_fill_53178 1 20 [] [] M (k20 M)) : ∀ (n : Nat) (v2 : Int32) (M : mm_M), mm_G (fun _ : Unit => none) E Y_J7_fill_53178 1 5 [(0, .ref 74), (1, .int v1), (2, .int v2), (3, .int v3)] [] M (lp_Arrays_fill_74_5 v1 v3 k20 n v2 M) := by
  intro n
  induction n with
  | zero => intro v2 M r M2 he; cases he
  | succ n ih =>
    intro v2 M
    rw [lp_Arrays_fill_74_5]
    refine mm_iload_n 2 dJ7_fill_53178_5 rfl ?_
    refine mm_iload_n 3 dJ7_fill_53178_6 rfl ?_
    refine mm_icmp_ge 20 dJ7_fill_53178_7 rfl ?_ ?_
    · refine mm_wk [] rfl ?_
      exact hk20  M
    · refine mm_aload_n 0 dJ7_fill_53178_10 rfl ?_
      refine mm_iload_n 2 dJ7_fill_53178_11 rfl ?_
      refine mm_iload_n 1 dJ7_fill_53178_12 rfl ?_
      refine mm_iastore dJ7_fill_53178_13 ?_
      refine mm_nm_M (fun M_1 => ?_)
      refine mm_iincN 2 [1, 2, 0, 3] (v := v2 + 1) (lv2 := fun v2_2 => [(0, .ref 74), (1, .int v1), (2, .int v2_2), (3, .int v3)]) dJ7_fill_53178_14 rfl rfl (by decide) (fun _ => rfl) (fun v2_2 => ?_)
      refine mm_goto 5 dJ7_fill_53178_17 rfl ?_
      exact ih v2_2 M_1
def f_Arrays_fill_74 (v1 : Int32) (M : mm_M) : Option (Unit × mm_M) := lp_Arrays_fill_74_5 v1 96 (fun (M_3 : mm_M) => some ((), M_3)) mm_fu 0 M
set_option maxHeartbeats 4000000 in
theorem c_Arrays_fill_74 (E : mm_E) (v1 : Int32) (M : mm_M) : ∀ (r : Unit) (M2 : mm_M), f_Arrays_fill_74 v1 M = some (r, M2) → mm_P E Y_J7_fill_53178 1 [.ref 74, .int v1] M none M2 := by
  refine mm_entry (em := (fun _ : Unit => none)) (by decide +kernel) (Nat.le_of_ble_eq_true rfl) ?_
  show mm_G _ E _ _ 0 [(0, .ref 74), (1, .int v1)] [] M _
  unfold f_Arrays_fill_74
  refine mm_iconst (v := 0) dJ7_fill_53178_0 rfl ?_
  refine mm_istore_n [1, 2, 0] (lv2 := [(0, .ref 74), (1, .int v1), (2, .int 0)]) dJ7_fill_53178_1 (by decide) rfl ?_
  refine mm_aload_n 0 dJ7_fill_53178_2 rfl ?_
  refine mm_alen (v := 96) dJ7_fill_53178_3 lo_74 rfl ?_
  refine mm_istore_n [1, 2, 3, 0] (lv2 := [(0, .ref 74), (1, .int v1), (2, .int 0), (3, .int 96)]) dJ7_fill_53178_4 (by decide) rfl ?_
  refine lp_Arrays_fill_74_5_ok E v1 96 ?_ mm_fu 0 M
  · intro M_3
    exact mm_vret dJ7_fill_53178_20 rfl
def f_Load_setFloor (v1 : Int32) (v2 : Int32) (M : mm_M) : Option (Unit × mm_M) := if mm_in v1 (mm_al 72) = true then mm_let (mm_setA M 72 (v1.toNatClampNeg) v2) fun M_1 => some ((), M_1) else none
set_option maxHeartbeats 4000000 in
theorem c_Load_setFloor (E : mm_E) (v1 : Int32) (v2 : Int32) (M : mm_M) : ∀ (r : Unit) (M2 : mm_M), f_Load_setFloor v1 v2 M = some (r, M2) → mm_P E Y_X5_setFloor 1 [.ref 10, .int v1, .int v2] M none M2 := by
  refine mm_entry (em := (fun _ : Unit => none)) (by decide +kernel) (Nat.le_of_ble_eq_true rfl) ?_
  show mm_G _ E _ _ 0 [(0, .ref 10), (1, .int v1), (2, .int v2)] [] M _
  unfold f_Load_setFloor
  refine mm_aload_n 0 dX5_setFloor_0 rfl ?_
  refine mm_getR 72 dX5_setFloor_1 fl_RX5_16 lo_10 rfl ?_
  refine mm_iload_n 1 dX5_setFloor_4 rfl ?_
  refine mm_iload_n 2 dX5_setFloor_5 rfl ?_
  refine mm_iastore dX5_setFloor_6 ?_
  refine mm_nm_M (fun M_1 => ?_)
  exact mm_vret dX5_setFloor_7 rfl
def f_Math_floorMod (v0 : Int32) (v1 : Int32) (M : mm_M) : Option (Int32 × mm_M) := if v1 = 0 then none else mm_let (mm_rem v0 v1) fun v2_1 => if 0 ≤ v0 ^^^ v1 then some (v2_1, M) else if v2_1 = 0 then some (v2_1, M) else some (v2_1 + v1, M)
set_option maxHeartbeats 4000000 in
theorem c_Math_floorMod (E : mm_E) (v0 : Int32) (v1 : Int32) (M : mm_M) : ∀ (r : Int32) (M2 : mm_M), f_Math_floorMod v0 v1 M = some (r, M2) → mm_P E Y_J9_floorMod_7cf53 1 [.int v0, .int v1] M (some (.int r)) M2 := by
  refine mm_entry (em := (fun x : Int32 => some (.int x))) (by decide +kernel) (Nat.le_of_ble_eq_true rfl) ?_
  show mm_G _ E _ _ 0 [(0, .int v0), (1, .int v1)] [] M _
  unfold f_Math_floorMod
  refine mm_iload_n 0 dJ9_floorMod_7cf53_0 rfl ?_
  refine mm_iload_n 1 dJ9_floorMod_7cf53_1 rfl ?_
  refine mm_irem dJ9_floorMod_7cf53_2 ?_
  refine mm_nm_int (fun v2_1 => ?_)
  refine mm_istore_n [1, 2, 0] (lv2 := [(0, .int v0), (1, .int v1), (2, .int v2_1)]) dJ9_floorMod_7cf53_3 (by decide) rfl ?_
  refine mm_iload_n 0 dJ9_floorMod_7cf53_4 rfl ?_
  refine mm_iload_n 1 dJ9_floorMod_7cf53_5 rfl ?_
  refine mm_ixor dJ9_floorMod_7cf53_6 ?_
  refine mm_if_ge 18 dJ9_floorMod_7cf53_7 rfl ?_ ?_
  · refine mm_iload_n 2 dJ9_floorMod_7cf53_18 rfl ?_
    exact mm_iret dJ9_floorMod_7cf53_19 rfl
  · refine mm_iload_n 2 dJ9_floorMod_7cf53_10 rfl ?_
    refine mm_if_eq 18 dJ9_floorMod_7cf53_11 rfl ?_ ?_
    · refine mm_iload_n 2 dJ9_floorMod_7cf53_18 rfl ?_
      exact mm_iret dJ9_floorMod_7cf53_19 rfl
    · refine mm_iload_n 2 dJ9_floorMod_7cf53_14 rfl ?_
      refine mm_iload_n 1 dJ9_floorMod_7cf53_15 rfl ?_
      refine mm_iadd dJ9_floorMod_7cf53_16 ?_
      exact mm_iret dJ9_floorMod_7cf53_17 rfl
def lp_Load_setShift_41 (v1 : Int32) (v2 : Int32) (v3 : Nat) (v4 : Int32) (v5 : Int32) (k78 : mm_M → Option (Unit × mm_M)) : Nat → Int32 → mm_M → Option (Unit × mm_M)
  | 0, _, _ => none
  | n + 1, v6, M => if 3 ≤ v6 then k78 M else if mm_in v1 10 = true then if mm_in ((v6 * 24) + v4) (mm_al v3) = true then if mm_in ((v6 * 24) + v5) (mm_al (62 + v1.toNatClampNeg)) = true then mm_let (mm_setA M (62 + v1.toNatClampNeg) (((v6 * 24) + v5).toNatClampNeg) (M.2.1 v3 ((v6 * 24) + v4).toNatClampNeg)) fun M_5 => mm_let (v6 + 1) fun v6_6 => lp_Load_setShift_41 v1 v2 v3 v4 v5 k78 n v6_6 M_5 else none else none else none
set_option maxHeartbeats 4000000 in
theorem lp_Load_setShift_41_ok (E : mm_E) (v1 : Int32) (v2 : Int32) (v3 : Nat) (v4 : Int32) (v5 : Int32) {k78 : mm_M → Option (Unit × mm_M)} (hk78 : ∀ (M : mm_M), mm_G (fun _ : Unit => none) E Y_X5_setShift 2 78 [(0, .ref 10), (1, .int v1), (2, .int v2), (3, .ref v3), (4, .int v4)] [] M (k78 M)) : ∀ (n : Nat) (v6 : Int32) (M : mm_M), mm_G (fun _ : Unit => none) E Y_X5_setShift 2 41 [(0, .ref 10), (1, .int v1), (2, .int v2), (3, .ref v3), (4, .int v4), (5, .int v5), (6, .int v6)] [] M (lp_Load_setShift_41 v1 v2 v3 v4 v5 k78 n v6 M) := by
  intro n
  induction n with
  | zero => intro v6 M r M2 he; cases he
  | succ n ih =>
    intro v6 M
    rw [lp_Load_setShift_41]
    refine mm_iload 6 dX5_setShift_41 rfl ?_
    refine mm_iconst (v := 3) dX5_setShift_43 rfl ?_
    refine mm_icmp_ge 78 dX5_setShift_44 rfl ?_ ?_
    · refine mm_wk [0, 1, 2, 3, 4] rfl ?_
      exact hk78  M
    · refine mm_aload_n 0 dX5_setShift_47 rfl ?_
      refine mm_getR 61 dX5_setShift_48 fl_RX5_11 lo_10 rfl ?_
      refine mm_iload_n 1 dX5_setShift_51 rfl ?_
      refine mm_aaload dX5_setShift_52 lo_61 ?_
      refine mm_iload 6 dX5_setShift_53 rfl ?_
      refine mm_bipush (v := 24) dX5_setShift_55 rfl ?_
      refine mm_imul dX5_setShift_57 ?_
      refine mm_iload 5 dX5_setShift_58 rfl ?_
      refine mm_iadd dX5_setShift_60 ?_
      refine mm_aload_n 3 dX5_setShift_61 rfl ?_
      refine mm_iload 6 dX5_setShift_62 rfl ?_
      refine mm_bipush (v := 24) dX5_setShift_64 rfl ?_
      refine mm_imul dX5_setShift_66 ?_
      refine mm_iload 4 dX5_setShift_67 rfl ?_
      refine mm_iadd dX5_setShift_69 ?_
      refine mm_iaload dX5_setShift_70 ?_
      refine mm_iastore dX5_setShift_71 ?_
      refine mm_nm_M (fun M_5 => ?_)
      refine mm_iincN 6 [1, 2, 3, 4, 5, 6, 0] (v := v6 + 1) (lv2 := fun v6_6 => [(0, .ref 10), (1, .int v1), (2, .int v2), (3, .ref v3), (4, .int v4), (5, .int v5), (6, .int v6_6)]) dX5_setShift_72 rfl rfl (by decide) (fun _ => rfl) (fun v6_6 => ?_)
      refine mm_goto 41 dX5_setShift_75 rfl ?_
      exact ih v6_6 M_5
def lp_Load_setShift_20 (v1 : Int32) (v2 : Int32) (v3 : Nat) (k84 : mm_M → Option (Unit × mm_M)) : Nat → Int32 → mm_M → Option (Unit × mm_M)
  | 0, _, _ => none
  | n + 1, v4, M => if 24 ≤ v4 then k84 M else mm_bd (f_Math_floorMod (v4 + v2) 24 M) fun r_3 M_4 => lp_Load_setShift_41 v1 v2 v3 v4 r_3 (fun (M_7 : mm_M) => mm_let (v4 + 1) fun v4_8 => lp_Load_setShift_20 v1 v2 v3 k84 n v4_8 M_7) mm_fu 0 M_4
set_option maxHeartbeats 4000000 in
theorem lp_Load_setShift_20_ok (E : mm_E) (v1 : Int32) (v2 : Int32) (v3 : Nat) {k84 : mm_M → Option (Unit × mm_M)} (hk84 : ∀ (M : mm_M), mm_G (fun _ : Unit => none) E Y_X5_setShift 2 84 [] [] M (k84 M)) : ∀ (n : Nat) (v4 : Int32) (M : mm_M), mm_G (fun _ : Unit => none) E Y_X5_setShift 2 20 [(0, .ref 10), (1, .int v1), (2, .int v2), (3, .ref v3), (4, .int v4)] [] M (lp_Load_setShift_20 v1 v2 v3 k84 n v4 M) := by
  intro n
  induction n with
  | zero => intro v4 M r M2 he; cases he
  | succ n ih =>
    intro v4 M
    rw [lp_Load_setShift_20]
    refine mm_iload 4 dX5_setShift_20 rfl ?_
    refine mm_bipush (v := 24) dX5_setShift_22 rfl ?_
    refine mm_icmp_ge 84 dX5_setShift_24 rfl ?_ ?_
    · refine mm_wk [] rfl ?_
      exact hk84  M
    · refine mm_iload 4 dX5_setShift_27 rfl ?_
      refine mm_iload_n 2 dX5_setShift_29 rfl ?_
      refine mm_iadd dX5_setShift_30 ?_
      refine mm_bipush (v := 24) dX5_setShift_31 rfl ?_
      refine mm_callSi (as := [.int (v4 + v2), .int 24]) (st := []) (c_Math_floorMod E (v4 + v2) 24 M) dX5_setShift_33 mz_J9_floorMod_7cf53 lk_RX5_79 sm_J9_floorMod_7cf53 rfl ⟨Nat.le_of_ble_eq_true rfl, Nat.le_of_ble_eq_true rfl⟩ (Nat.le_of_ble_eq_true rfl) (fun r_3 M_4 => ?_)
      refine mm_istore [1, 2, 3, 4, 5, 0] (lv2 := [(0, .ref 10), (1, .int v1), (2, .int v2), (3, .ref v3), (4, .int v4), (5, .int r_3)]) dX5_setShift_36 (by decide) rfl ?_
      refine mm_iconst (v := 0) dX5_setShift_38 rfl ?_
      refine mm_istore [1, 2, 3, 4, 5, 6, 0] (lv2 := [(0, .ref 10), (1, .int v1), (2, .int v2), (3, .ref v3), (4, .int v4), (5, .int r_3), (6, .int 0)]) dX5_setShift_39 (by decide) rfl ?_
      refine lp_Load_setShift_41_ok E v1 v2 v3 v4 r_3 ?_ mm_fu 0 M_4
      · intro M_7
        refine mm_iincN 4 [1, 2, 3, 4, 0] (v := v4 + 1) (lv2 := fun v4_8 => [(0, .ref 10), (1, .int v1), (2, .int v2), (3, .ref v3), (4, .int v4_8)]) dX5_setShift_78 rfl rfl (by decide) (fun _ => rfl) (fun v4_8 => ?_)
        refine mm_goto 20 dX5_setShift_81 rfl ?_
        exact ih v4_8 M_7
def f_Load_setShift (v1 : Int32) (v2 : Int32) (M : mm_M) : Option (Unit × mm_M) := if mm_in v1 (mm_al 38) = true then mm_bd (f_Days_rowOf (M.2.1 38 v1.toNatClampNeg) M) fun o_1 M_2 => lp_Load_setShift_20 v1 v2 o_1 (fun (M_9 : mm_M) => some ((), M_9)) mm_fu 0 M_2 else none
set_option maxHeartbeats 4000000 in
theorem c_Load_setShift (E : mm_E) (v1 : Int32) (v2 : Int32) (M : mm_M) : ∀ (r : Unit) (M2 : mm_M), f_Load_setShift v1 v2 M = some (r, M2) → mm_P E Y_X5_setShift 2 [.ref 10, .int v1, .int v2] M none M2 := by
  refine mm_entry (em := (fun _ : Unit => none)) (by decide +kernel) (Nat.le_of_ble_eq_true rfl) ?_
  show mm_G _ E _ _ 0 [(0, .ref 10), (1, .int v1), (2, .int v2)] [] M _
  unfold f_Load_setShift
  refine mm_aload_n 0 dX5_setShift_0 rfl ?_
  refine mm_getR 3 dX5_setShift_1 fl_RX5_34 lo_10 rfl ?_
  refine mm_aload_n 0 dX5_setShift_4 rfl ?_
  refine mm_getR 5 dX5_setShift_5 fl_RX5_30 lo_10 rfl ?_
  refine mm_getR 38 dX5_setShift_8 fl_RX5_70 lo_5 rfl ?_
  refine mm_iload_n 1 dX5_setShift_11 rfl ?_
  refine mm_iaload dX5_setShift_12 ?_
  refine mm_callVr (as := [.int (M.2.1 38 v1.toNatClampNeg)]) (st := []) (c_Days_rowOf E (M.2.1 38 v1.toNatClampNeg) M) dX5_setShift_13 mz_X1_rowOf lk_RX5_73 im_X1_rowOf se_X1_rowOf lo_3 rfl rfl rfl ⟨Nat.le_of_ble_eq_true rfl, Nat.le_of_ble_eq_true rfl⟩ (Nat.le_of_ble_eq_true rfl) (fun o_1 M_2 => ?_)
  refine mm_astore_n [1, 2, 3, 0] (lv2 := [(0, .ref 10), (1, .int v1), (2, .int v2), (3, .ref o_1)]) dX5_setShift_16 (by decide) rfl ?_
  refine mm_iconst (v := 0) dX5_setShift_17 rfl ?_
  refine mm_istore [1, 2, 3, 4, 0] (lv2 := [(0, .ref 10), (1, .int v1), (2, .int v2), (3, .ref o_1), (4, .int 0)]) dX5_setShift_18 (by decide) rfl ?_
  refine lp_Load_setShift_20_ok E v1 v2 o_1 ?_ mm_fu 0 M_2
  · intro M_9
    exact mm_vret dX5_setShift_84 rfl
