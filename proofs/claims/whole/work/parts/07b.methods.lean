def f_StringLatin1_indexOf_147 (v1 : Int32) (v2 : Int32) (v3 : Int32) (M : mm_M) : Option (Int32 × mm_M) := mm_bd (f_StringLatin1_canEncode v1 M) fun b_1 M_2 => if b_1 = true then mm_bd (f_Math_max v2 0 M_2) fun r_3 M_4 => mm_bd (f_Math_min v3 2 M_4) fun r_5 M_6 => if r_3 < r_5 then mm_bd (f_StringLatin1_indexOfChar_147 v1 r_3 r_5 M_6) fun r_7 M_8 => some (r_7, M_8) else some ((-1), M_6) else some ((-1), M_2)
set_option maxHeartbeats 4000000 in
theorem c_StringLatin1_indexOf_147 (E : mm_E) (v1 : Int32) (v2 : Int32) (v3 : Int32) (M : mm_M) : ∀ (r : Int32) (M2 : mm_M), f_StringLatin1_indexOf_147 v1 v2 v3 M = some (r, M2) → mm_P E Y_J1_indexOf_4cfef 2 [.ref 147, .int v1, .int v2, .int v3] M (some (.int r)) M2 := by
  refine mm_entry (em := (fun x : Int32 => some (.int x))) (by decide +kernel) (Nat.le_of_ble_eq_true rfl) ?_
  show mm_G _ E _ _ 0 [(0, .ref 147), (1, .int v1), (2, .int v2), (3, .int v3)] [] M _
  unfold f_StringLatin1_indexOf_147
  refine mm_iload_n 1 dJ1_indexOf_4cfef_0 rfl ?_
  refine mm_callSz (as := [.int v1]) (st := []) (c_StringLatin1_canEncode E v1 M) dJ1_indexOf_4cfef_1 mz_J1_canEncode_9a6ad lk_RJ1_88 sm_J1_canEncode_9a6ad rfl ⟨Nat.le_of_ble_eq_true rfl, Nat.le_of_ble_eq_true rfl⟩ (Nat.le_of_ble_eq_true rfl) (fun b_1 M_2 => ?_)
  refine mm_if_ne_b 9 dJ1_indexOf_4cfef_4 rfl ?_ ?_
  · refine mm_iload_n 2 dJ1_indexOf_4cfef_9 rfl ?_
    refine mm_iconst (v := 0) dJ1_indexOf_4cfef_10 rfl ?_
    refine mm_callSi (as := [.int v2, .int 0]) (st := []) (c_Math_max E v2 0 M_2) dJ1_indexOf_4cfef_11 mz_J9_max_7cf53 lk_RJ1_92 sm_J9_max_7cf53 rfl ⟨Nat.le_of_ble_eq_true rfl, Nat.le_of_ble_eq_true rfl⟩ (Nat.le_of_ble_eq_true rfl) (fun r_3 M_4 => ?_)
    refine mm_istore_n [1, 2, 0, 3] (lv2 := [(0, .ref 147), (1, .int v1), (2, .int r_3), (3, .int v3)]) dJ1_indexOf_4cfef_14 (by decide) rfl ?_
    refine mm_iload_n 3 dJ1_indexOf_4cfef_15 rfl ?_
    refine mm_aload_n 0 dJ1_indexOf_4cfef_16 rfl ?_
    refine mm_alenS (j := 1) (v := 2) dJ1_indexOf_4cfef_17 (by decide) rfl rfl ?_
    refine mm_callSi (as := [.int v3, .int 2]) (st := []) (c_Math_min E v3 2 M_4) dJ1_indexOf_4cfef_18 mz_J9_min_7cf53 lk_RJ1_38 sm_J9_min_7cf53 rfl ⟨Nat.le_of_ble_eq_true rfl, Nat.le_of_ble_eq_true rfl⟩ (Nat.le_of_ble_eq_true rfl) (fun r_5 M_6 => ?_)
    refine mm_istore_n [1, 2, 3, 0] (lv2 := [(0, .ref 147), (1, .int v1), (2, .int r_3), (3, .int r_5)]) dJ1_indexOf_4cfef_21 (by decide) rfl ?_
    refine mm_iload_n 2 dJ1_indexOf_4cfef_22 rfl ?_
    refine mm_iload_n 3 dJ1_indexOf_4cfef_23 rfl ?_
    refine mm_icmp_lt 29 dJ1_indexOf_4cfef_24 rfl ?_ ?_
    · refine mm_aload_n 0 dJ1_indexOf_4cfef_29 rfl ?_
      refine mm_iload_n 1 dJ1_indexOf_4cfef_30 rfl ?_
      refine mm_iload_n 2 dJ1_indexOf_4cfef_31 rfl ?_
      refine mm_iload_n 3 dJ1_indexOf_4cfef_32 rfl ?_
      refine mm_callSi (as := [.ref 147, .int v1, .int r_3, .int r_5]) (st := []) (c_StringLatin1_indexOfChar_147 E v1 r_3 r_5 M_6) dJ1_indexOf_4cfef_33 mz_J1_indexOfChar_4cfef lk_RJ1_95 sm_J1_indexOfChar_4cfef rfl ⟨Nat.le_of_ble_eq_true rfl, Nat.le_of_ble_eq_true rfl⟩ (Nat.le_of_ble_eq_true rfl) (fun r_7 M_8 => ?_)
      exact mm_iret dJ1_indexOf_4cfef_36 rfl
    · refine mm_iconst (v := (-1)) dJ1_indexOf_4cfef_27 rfl ?_
      exact mm_iret dJ1_indexOf_4cfef_28 rfl
  · refine mm_iconst (v := (-1)) dJ1_indexOf_4cfef_7 rfl ?_
    exact mm_iret dJ1_indexOf_4cfef_8 rfl
def f_String_indexOf_2_141 (v1 : Int32) (v2 : Int32) (M : mm_M) : Option (Int32 × mm_M) := mm_bd (f_String_isLatin1_141 M) fun b_1 M_2 => if b_1 = true then mm_bd (f_String_length_141 M_2) fun r_3 M_4 => mm_bd (f_StringLatin1_indexOf_147 v1 v2 r_3 M_4) fun r_5 M_6 => some (r_5, M_6) else none
set_option maxHeartbeats 4000000 in
theorem c_String_indexOf_2_141 (E : mm_E) (v1 : Int32) (v2 : Int32) (M : mm_M) : ∀ (r : Int32) (M2 : mm_M), f_String_indexOf_2_141 v1 v2 M = some (r, M2) → mm_P E Y_J0_indexOf_7cf53 3 [.ref 141, .int v1, .int v2] M (some (.int r)) M2 := by
  refine mm_entry (em := (fun x : Int32 => some (.int x))) (by decide +kernel) (Nat.le_of_ble_eq_true rfl) ?_
  show mm_G _ E _ _ 0 [(0, .ref 141), (1, .int v1), (2, .int v2)] [] M _
  unfold f_String_indexOf_2_141
  refine mm_aload_n 0 dJ0_indexOf_7cf53_0 rfl ?_
  refine mm_callTz (as := []) (st := []) (c_String_isLatin1_141 E M) dJ0_indexOf_7cf53_1 mz_J0_isLatin1_aae02 lk_RJ0_492 im_J0_isLatin1_aae02 se_J0_isLatin1_aae02 sl_141 rfl rfl ⟨Nat.le_of_ble_eq_true rfl, Nat.le_of_ble_eq_true rfl⟩ (Nat.le_of_ble_eq_true rfl) (fun b_1 M_2 => ?_)
  refine mm_if_eq_b 23 dJ0_indexOf_7cf53_4 rfl ?_ ?_
  · exact mm_none
  · refine mm_aload_n 0 dJ0_indexOf_7cf53_7 rfl ?_
    refine mm_getSv (j := 1) dJ0_indexOf_7cf53_8 wf_RJ0_9 (by decide) rfl rfl ?_
    refine mm_iload_n 1 dJ0_indexOf_7cf53_11 rfl ?_
    refine mm_iload_n 2 dJ0_indexOf_7cf53_12 rfl ?_
    refine mm_aload_n 0 dJ0_indexOf_7cf53_13 rfl ?_
    refine mm_callTi (as := []) (st := [.int v2, .int v1, .ref 147]) (c_String_length_141 E M_2) dJ0_indexOf_7cf53_14 mz_J0_length_8abf5 lk_RJ0_505 im_J0_length_8abf5 se_J0_length_8abf5 sl_141 rfl rfl ⟨Nat.le_of_ble_eq_true rfl, Nat.le_of_ble_eq_true rfl⟩ (Nat.le_of_ble_eq_true rfl) (fun r_3 M_4 => ?_)
    refine mm_callSi (as := [.ref 147, .int v1, .int v2, .int r_3]) (st := []) (c_StringLatin1_indexOf_147 E v1 v2 r_3 M_4) dJ0_indexOf_7cf53_17 mz_J1_indexOf_4cfef lk_RJ0_637 sm_J1_indexOf_4cfef rfl ⟨Nat.le_of_ble_eq_true rfl, Nat.le_of_ble_eq_true rfl⟩ (Nat.le_of_ble_eq_true rfl) (fun r_5 M_6 => ?_)
    refine mm_goto 36 dJ0_indexOf_7cf53_20 rfl ?_
    exact mm_iret dJ0_indexOf_7cf53_36 rfl
def f_String_indexOf_1_141 (v1 : Int32) (M : mm_M) : Option (Int32 × mm_M) := mm_bd (f_String_indexOf_2_141 v1 0 M) fun r_1 M_2 => some (r_1, M_2)
set_option maxHeartbeats 4000000 in
theorem c_String_indexOf_1_141 (E : mm_E) (v1 : Int32) (M : mm_M) : ∀ (r : Int32) (M2 : mm_M), f_String_indexOf_1_141 v1 M = some (r, M2) → mm_P E Y_J0_indexOf_0f7a4 4 [.ref 141, .int v1] M (some (.int r)) M2 := by
  refine mm_entry (em := (fun x : Int32 => some (.int x))) (by decide +kernel) (Nat.le_of_ble_eq_true rfl) ?_
  show mm_G _ E _ _ 0 [(0, .ref 141), (1, .int v1)] [] M _
  unfold f_String_indexOf_1_141
  refine mm_aload_n 0 dJ0_indexOf_0f7a4_0 rfl ?_
  refine mm_iload_n 1 dJ0_indexOf_0f7a4_1 rfl ?_
  refine mm_iconst (v := 0) dJ0_indexOf_0f7a4_2 rfl ?_
  refine mm_callTi (as := [.int v1, .int 0]) (st := []) (c_String_indexOf_2_141 E v1 0 M) dJ0_indexOf_0f7a4_3 mz_J0_indexOf_7cf53 lk_RJ0_633 im_J0_indexOf_7cf53 se_J0_indexOf_7cf53 sl_141 rfl rfl ⟨Nat.le_of_ble_eq_true rfl, Nat.le_of_ble_eq_true rfl⟩ (Nat.le_of_ble_eq_true rfl) (fun r_1 M_2 => ?_)
  exact mm_iret dJ0_indexOf_0f7a4_6 rfl
def f_TextReader_among_141 (M : mm_M) : Option (Int32 × mm_M) := mm_bd (f_TextReader_atEnd M) fun b_1 M_2 => if b_1 = true then some ((-1), M_2) else mm_bd (f_String_indexOf_1_141 (((M_2.1 3 3).toUInt32 % 65536).toInt32) M_2) fun r_3 M_4 => some (r_3, M_4)
set_option maxHeartbeats 4000000 in
theorem c_TextReader_among_141 (E : mm_E) (M : mm_M) : ∀ (r : Int32) (M2 : mm_M), f_TextReader_among_141 M = some (r, M2) → mm_P E Y_X10_among 5 [.ref 3, .ref 141] M (some (.int r)) M2 := by
  refine mm_entry (em := (fun x : Int32 => some (.int x))) (by decide +kernel) (Nat.le_of_ble_eq_true rfl) ?_
  show mm_G _ E _ _ 0 [(0, .ref 3), (1, .ref 141)] [] M _
  unfold f_TextReader_among_141
  refine mm_aload_n 0 dX10_among_0 rfl ?_
  refine mm_callVz (as := []) (st := []) (c_TextReader_atEnd E M) dX10_among_1 mz_X10_atEnd lk_RX10_48 im_X10_atEnd se_X10_atEnd lo_3 rfl rfl rfl ⟨Nat.le_of_ble_eq_true rfl, Nat.le_of_ble_eq_true rfl⟩ (Nat.le_of_ble_eq_true rfl) (fun b_1 M_2 => ?_)
  refine mm_if_eq_b 11 dX10_among_4 rfl ?_ ?_
  · refine mm_aload_n 1 dX10_among_11 rfl ?_
    refine mm_aload_n 0 dX10_among_12 rfl ?_
    refine mm_getI dX10_among_13 fl_RX10_41 lo_3 rfl ?_
    refine mm_i2c dX10_among_16 ?_
    refine mm_callTi (as := [.int (((M_2.1 3 3).toUInt32 % 65536).toInt32)]) (st := []) (c_String_indexOf_1_141 E (((M_2.1 3 3).toUInt32 % 65536).toInt32) M_2) dX10_among_17 mz_J0_indexOf_0f7a4 lk_RX10_52 im_J0_indexOf_0f7a4 se_J0_indexOf_0f7a4 sl_141 rfl rfl ⟨Nat.le_of_ble_eq_true rfl, Nat.le_of_ble_eq_true rfl⟩ (Nat.le_of_ble_eq_true rfl) (fun r_3 M_4 => ?_)
    exact mm_iret dX10_among_20 rfl
  · refine mm_iconst (v := (-1)) dX10_among_7 rfl ?_
    refine mm_goto 20 dX10_among_8 rfl ?_
    exact mm_iret dX10_among_20 rfl
def f_String_isLatin1_142 (M : mm_M) : Option (Bool × mm_M) := if (1 : Int32) = 0 then some (false, M) else if (0 : Int32) = 0 then some (true, M) else some (false, M)
set_option maxHeartbeats 4000000 in
theorem c_String_isLatin1_142 (E : mm_E) (M : mm_M) : ∀ (r : Bool) (M2 : mm_M), f_String_isLatin1_142 M = some (r, M2) → mm_P E Y_J0_isLatin1_aae02 1 [.ref 142] M (some (.int (mm_b r))) M2 := by
  refine mm_entry (em := (fun x : Bool => some (.int (mm_b x)))) (by decide +kernel) (Nat.le_of_ble_eq_true rfl) ?_
  show mm_G _ E _ _ 0 [(0, .ref 142)] [] M _
  unfold f_String_isLatin1_142
  refine mm_gets dJ0_isLatin1_aae02_0 wf_RJ0_38 ?_
  refine mm_if_eq 17 dJ0_isLatin1_aae02_3 rfl ?_ ?_
  · refine mm_iconst (v := 0) dJ0_isLatin1_aae02_17 rfl ?_
    exact mm_zret (b := false) dJ0_isLatin1_aae02_18 rfl
  · refine mm_aload_n 0 dJ0_isLatin1_aae02_6 rfl ?_
    refine mm_getSc (j := 2) dJ0_isLatin1_aae02_7 wf_RJ0_15 (by decide) rfl ?_
    refine mm_if_ne 17 dJ0_isLatin1_aae02_10 rfl ?_ ?_
    · refine mm_iconst (v := 0) dJ0_isLatin1_aae02_17 rfl ?_
      exact mm_zret (b := false) dJ0_isLatin1_aae02_18 rfl
    · refine mm_iconst (v := 1) dJ0_isLatin1_aae02_13 rfl ?_
      refine mm_goto 18 dJ0_isLatin1_aae02_14 rfl ?_
      exact mm_zret (b := true) dJ0_isLatin1_aae02_18 rfl
def f_String_coder_142 (M : mm_M) : Option (Int32 × mm_M) := if (1 : Int32) = 0 then some (1, M) else some (0, M)
set_option maxHeartbeats 4000000 in
theorem c_String_coder_142 (E : mm_E) (M : mm_M) : ∀ (r : Int32) (M2 : mm_M), f_String_coder_142 M = some (r, M2) → mm_P E Y_J0_coder_7d493 1 [.ref 142] M (some (.int r)) M2 := by
  refine mm_entry (em := (fun x : Int32 => some (.int x))) (by decide +kernel) (Nat.le_of_ble_eq_true rfl) ?_
  show mm_G _ E _ _ 0 [(0, .ref 142)] [] M _
  unfold f_String_coder_142
  refine mm_gets dJ0_coder_7d493_0 wf_RJ0_38 ?_
  refine mm_if_eq 13 dJ0_coder_7d493_3 rfl ?_ ?_
  · refine mm_iconst (v := 1) dJ0_coder_7d493_13 rfl ?_
    exact mm_nret dJ0_coder_7d493_14 rfl rfl
  · refine mm_aload_n 0 dJ0_coder_7d493_6 rfl ?_
    refine mm_getSc (j := 2) dJ0_coder_7d493_7 wf_RJ0_15 (by decide) rfl ?_
    refine mm_goto 14 dJ0_coder_7d493_10 rfl ?_
    exact mm_nret dJ0_coder_7d493_14 rfl rfl
def f_String_length_142 (M : mm_M) : Option (Int32 × mm_M) := mm_bd (f_String_coder_142 M) fun r_1 M_2 => some (9 >>> (r_1 &&& 31), M_2)
set_option maxHeartbeats 4000000 in
theorem c_String_length_142 (E : mm_E) (M : mm_M) : ∀ (r : Int32) (M2 : mm_M), f_String_length_142 M = some (r, M2) → mm_P E Y_J0_length_8abf5 2 [.ref 142] M (some (.int r)) M2 := by
  refine mm_entry (em := (fun x : Int32 => some (.int x))) (by decide +kernel) (Nat.le_of_ble_eq_true rfl) ?_
  show mm_G _ E _ _ 0 [(0, .ref 142)] [] M _
  unfold f_String_length_142
  refine mm_aload_n 0 dJ0_length_8abf5_0 rfl ?_
  refine mm_getSv (j := 2) dJ0_length_8abf5_1 wf_RJ0_9 (by decide) rfl rfl ?_
  refine mm_alenS (j := 2) (v := 9) dJ0_length_8abf5_4 (by decide) rfl rfl ?_
  refine mm_aload_n 0 dJ0_length_8abf5_5 rfl ?_
  refine mm_callTi (as := []) (st := [.int 9]) (c_String_coder_142 E M) dJ0_length_8abf5_6 mz_J0_coder_7d493 lk_RJ0_335 im_J0_coder_7d493 se_J0_coder_7d493 sl_142 rfl rfl ⟨Nat.le_of_ble_eq_true rfl, Nat.le_of_ble_eq_true rfl⟩ (Nat.le_of_ble_eq_true rfl) (fun r_1 M_2 => ?_)
  refine mm_ishr dJ0_length_8abf5_9 ?_
  exact mm_iret dJ0_length_8abf5_10 rfl
def lp_StringLatin1_indexOfChar_148_7 (v3 : Int32) (v4 : Int32) (k22 : Int32 → mm_M → Option (Int32 × mm_M)) (k31 : mm_M → Option (Int32 × mm_M)) : Nat → Int32 → mm_M → Option (Int32 × mm_M)
  | 0, _, _ => none
  | n + 1, v5, M => if v3 ≤ v5 then k31 M else if mm_in v5 (mm_len.getD 2 0) = true then if (mm_byt.getD 2 []).getD v5.toNatClampNeg 0 = v4 then k22 v5 M else mm_let (v5 + 1) fun v5_2 => lp_StringLatin1_indexOfChar_148_7 v3 v4 k22 k31 n v5_2 M else none
set_option maxHeartbeats 4000000 in
theorem lp_StringLatin1_indexOfChar_148_7_ok (E : mm_E) (v3 : Int32) (v4 : Int32) {k22 : Int32 → mm_M → Option (Int32 × mm_M)} {k31 : mm_M → Option (Int32 × mm_M)} (hk22 : ∀ (v5 : Int32) (M : mm_M), mm_G (fun x : Int32 => some (.int x)) E Y_J1_indexOfChar_4cfef 1 22 [(5, .int v5)] [] M (k22 v5 M)) (hk31 : ∀ (M : mm_M), mm_G (fun x : Int32 => some (.int x)) E Y_J1_indexOfChar_4cfef 1 31 [] [] M (k31 M)) : ∀ (n : Nat) (v5 : Int32) (M : mm_M), mm_G (fun x : Int32 => some (.int x)) E Y_J1_indexOfChar_4cfef 1 7 [(0, .ref 148), (3, .int v3), (4, .int v4), (5, .int v5)] [] M (lp_StringLatin1_indexOfChar_148_7 v3 v4 k22 k31 n v5 M) := by
  intro n
  induction n with
  | zero => intro v5 M r M2 he; cases he
  | succ n ih =>
    intro v5 M
    rw [lp_StringLatin1_indexOfChar_148_7]
    refine mm_iload 3 dJ1_indexOfChar_4cfef_7 rfl ?_
    refine mm_iload_n 1 dJ1_indexOfChar_4cfef_9 rfl ?_
    refine mm_icmp_ge 31 dJ1_indexOfChar_4cfef_10 rfl ?_ ?_
    · refine mm_wk [] rfl ?_
      exact hk31  M
    · refine mm_aload_n 0 dJ1_indexOfChar_4cfef_13 rfl ?_
      refine mm_iload 3 dJ1_indexOfChar_4cfef_14 rfl ?_
      refine mm_baloadS (j := 2) dJ1_indexOfChar_4cfef_16 (by decide) rfl ?_
      refine mm_iload 2 dJ1_indexOfChar_4cfef_17 rfl ?_
      refine mm_icmp_ne 25 dJ1_indexOfChar_4cfef_19 rfl ?_ ?_
      · refine mm_iincN 3 [1, 2, 3, 0] (v := v5 + 1) (lv2 := fun v5_2 => [(0, .ref 148), (3, .int v3), (4, .int v4), (5, .int v5_2)]) dJ1_indexOfChar_4cfef_25 rfl rfl (by decide) (fun _ => rfl) (fun v5_2 => ?_)
        refine mm_goto 7 dJ1_indexOfChar_4cfef_28 rfl ?_
        exact ih v5_2 M
      · refine mm_wk [3] rfl ?_
        exact hk22 v5 M
def f_StringLatin1_indexOfChar_148 (v1 : Int32) (v2 : Int32) (v3 : Int32) (M : mm_M) : Option (Int32 × mm_M) := mm_let (v1.toInt8.toInt32) fun v4_1 => lp_StringLatin1_indexOfChar_148_7 v3 v4_1 (fun (v5 : Int32) (M_3 : mm_M) => some (v5, M_3)) (fun (M_4 : mm_M) => some ((-1), M_4)) mm_fu v2 M
set_option maxHeartbeats 4000000 in
theorem c_StringLatin1_indexOfChar_148 (E : mm_E) (v1 : Int32) (v2 : Int32) (v3 : Int32) (M : mm_M) : ∀ (r : Int32) (M2 : mm_M), f_StringLatin1_indexOfChar_148 v1 v2 v3 M = some (r, M2) → mm_P E Y_J1_indexOfChar_4cfef 1 [.ref 148, .int v1, .int v2, .int v3] M (some (.int r)) M2 := by
  refine mm_entry (em := (fun x : Int32 => some (.int x))) (by decide +kernel) (Nat.le_of_ble_eq_true rfl) ?_
  show mm_G _ E _ _ 0 [(0, .ref 148), (1, .int v1), (2, .int v2), (3, .int v3)] [] M _
  unfold f_StringLatin1_indexOfChar_148
  refine mm_iload_n 1 dJ1_indexOfChar_4cfef_0 rfl ?_
  refine mm_i2b dJ1_indexOfChar_4cfef_1 ?_
  refine mm_nm_int (fun v4_1 => ?_)
  refine mm_istore [1, 2, 3, 4, 0] (lv2 := [(0, .ref 148), (1, .int v1), (2, .int v2), (3, .int v3), (4, .int v4_1)]) dJ1_indexOfChar_4cfef_2 (by decide) rfl ?_
  refine mm_iload_n 2 dJ1_indexOfChar_4cfef_4 rfl ?_
  refine mm_istore [1, 2, 3, 4, 5, 0] (lv2 := [(0, .ref 148), (1, .int v1), (2, .int v2), (3, .int v3), (4, .int v4_1), (5, .int v2)]) dJ1_indexOfChar_4cfef_5 (by decide) rfl ?_
  refine mm_wk [0, 3, 4, 5] rfl ?_
  refine lp_StringLatin1_indexOfChar_148_7_ok E v3 v4_1 ?_ ?_ mm_fu v2 M
  · intro v5 M_3
    refine mm_iload 0 dJ1_indexOfChar_4cfef_22 rfl ?_
    exact mm_iret dJ1_indexOfChar_4cfef_24 rfl
  · intro M_4
    refine mm_iconst (v := (-1)) dJ1_indexOfChar_4cfef_31 rfl ?_
    exact mm_iret dJ1_indexOfChar_4cfef_32 rfl
def f_StringLatin1_indexOf_148 (v1 : Int32) (v2 : Int32) (v3 : Int32) (M : mm_M) : Option (Int32 × mm_M) := mm_bd (f_StringLatin1_canEncode v1 M) fun b_1 M_2 => if b_1 = true then mm_bd (f_Math_max v2 0 M_2) fun r_3 M_4 => mm_bd (f_Math_min v3 9 M_4) fun r_5 M_6 => if r_3 < r_5 then mm_bd (f_StringLatin1_indexOfChar_148 v1 r_3 r_5 M_6) fun r_7 M_8 => some (r_7, M_8) else some ((-1), M_6) else some ((-1), M_2)
set_option maxHeartbeats 4000000 in
theorem c_StringLatin1_indexOf_148 (E : mm_E) (v1 : Int32) (v2 : Int32) (v3 : Int32) (M : mm_M) : ∀ (r : Int32) (M2 : mm_M), f_StringLatin1_indexOf_148 v1 v2 v3 M = some (r, M2) → mm_P E Y_J1_indexOf_4cfef 2 [.ref 148, .int v1, .int v2, .int v3] M (some (.int r)) M2 := by
  refine mm_entry (em := (fun x : Int32 => some (.int x))) (by decide +kernel) (Nat.le_of_ble_eq_true rfl) ?_
  show mm_G _ E _ _ 0 [(0, .ref 148), (1, .int v1), (2, .int v2), (3, .int v3)] [] M _
  unfold f_StringLatin1_indexOf_148
  refine mm_iload_n 1 dJ1_indexOf_4cfef_0 rfl ?_
  refine mm_callSz (as := [.int v1]) (st := []) (c_StringLatin1_canEncode E v1 M) dJ1_indexOf_4cfef_1 mz_J1_canEncode_9a6ad lk_RJ1_88 sm_J1_canEncode_9a6ad rfl ⟨Nat.le_of_ble_eq_true rfl, Nat.le_of_ble_eq_true rfl⟩ (Nat.le_of_ble_eq_true rfl) (fun b_1 M_2 => ?_)
  refine mm_if_ne_b 9 dJ1_indexOf_4cfef_4 rfl ?_ ?_
  · refine mm_iload_n 2 dJ1_indexOf_4cfef_9 rfl ?_
    refine mm_iconst (v := 0) dJ1_indexOf_4cfef_10 rfl ?_
    refine mm_callSi (as := [.int v2, .int 0]) (st := []) (c_Math_max E v2 0 M_2) dJ1_indexOf_4cfef_11 mz_J9_max_7cf53 lk_RJ1_92 sm_J9_max_7cf53 rfl ⟨Nat.le_of_ble_eq_true rfl, Nat.le_of_ble_eq_true rfl⟩ (Nat.le_of_ble_eq_true rfl) (fun r_3 M_4 => ?_)
    refine mm_istore_n [1, 2, 0, 3] (lv2 := [(0, .ref 148), (1, .int v1), (2, .int r_3), (3, .int v3)]) dJ1_indexOf_4cfef_14 (by decide) rfl ?_
    refine mm_iload_n 3 dJ1_indexOf_4cfef_15 rfl ?_
    refine mm_aload_n 0 dJ1_indexOf_4cfef_16 rfl ?_
    refine mm_alenS (j := 2) (v := 9) dJ1_indexOf_4cfef_17 (by decide) rfl rfl ?_
    refine mm_callSi (as := [.int v3, .int 9]) (st := []) (c_Math_min E v3 9 M_4) dJ1_indexOf_4cfef_18 mz_J9_min_7cf53 lk_RJ1_38 sm_J9_min_7cf53 rfl ⟨Nat.le_of_ble_eq_true rfl, Nat.le_of_ble_eq_true rfl⟩ (Nat.le_of_ble_eq_true rfl) (fun r_5 M_6 => ?_)
    refine mm_istore_n [1, 2, 3, 0] (lv2 := [(0, .ref 148), (1, .int v1), (2, .int r_3), (3, .int r_5)]) dJ1_indexOf_4cfef_21 (by decide) rfl ?_
    refine mm_iload_n 2 dJ1_indexOf_4cfef_22 rfl ?_
    refine mm_iload_n 3 dJ1_indexOf_4cfef_23 rfl ?_
    refine mm_icmp_lt 29 dJ1_indexOf_4cfef_24 rfl ?_ ?_
    · refine mm_aload_n 0 dJ1_indexOf_4cfef_29 rfl ?_
      refine mm_iload_n 1 dJ1_indexOf_4cfef_30 rfl ?_
      refine mm_iload_n 2 dJ1_indexOf_4cfef_31 rfl ?_
      refine mm_iload_n 3 dJ1_indexOf_4cfef_32 rfl ?_
      refine mm_callSi (as := [.ref 148, .int v1, .int r_3, .int r_5]) (st := []) (c_StringLatin1_indexOfChar_148 E v1 r_3 r_5 M_6) dJ1_indexOf_4cfef_33 mz_J1_indexOfChar_4cfef lk_RJ1_95 sm_J1_indexOfChar_4cfef rfl ⟨Nat.le_of_ble_eq_true rfl, Nat.le_of_ble_eq_true rfl⟩ (Nat.le_of_ble_eq_true rfl) (fun r_7 M_8 => ?_)
      exact mm_iret dJ1_indexOf_4cfef_36 rfl
    · refine mm_iconst (v := (-1)) dJ1_indexOf_4cfef_27 rfl ?_
      exact mm_iret dJ1_indexOf_4cfef_28 rfl
  · refine mm_iconst (v := (-1)) dJ1_indexOf_4cfef_7 rfl ?_
    exact mm_iret dJ1_indexOf_4cfef_8 rfl
def f_String_indexOf_2_142 (v1 : Int32) (v2 : Int32) (M : mm_M) : Option (Int32 × mm_M) := mm_bd (f_String_isLatin1_142 M) fun b_1 M_2 => if b_1 = true then mm_bd (f_String_length_142 M_2) fun r_3 M_4 => mm_bd (f_StringLatin1_indexOf_148 v1 v2 r_3 M_4) fun r_5 M_6 => some (r_5, M_6) else none
set_option maxHeartbeats 4000000 in
theorem c_String_indexOf_2_142 (E : mm_E) (v1 : Int32) (v2 : Int32) (M : mm_M) : ∀ (r : Int32) (M2 : mm_M), f_String_indexOf_2_142 v1 v2 M = some (r, M2) → mm_P E Y_J0_indexOf_7cf53 3 [.ref 142, .int v1, .int v2] M (some (.int r)) M2 := by
  refine mm_entry (em := (fun x : Int32 => some (.int x))) (by decide +kernel) (Nat.le_of_ble_eq_true rfl) ?_
  show mm_G _ E _ _ 0 [(0, .ref 142), (1, .int v1), (2, .int v2)] [] M _
  unfold f_String_indexOf_2_142
  refine mm_aload_n 0 dJ0_indexOf_7cf53_0 rfl ?_
  refine mm_callTz (as := []) (st := []) (c_String_isLatin1_142 E M) dJ0_indexOf_7cf53_1 mz_J0_isLatin1_aae02 lk_RJ0_492 im_J0_isLatin1_aae02 se_J0_isLatin1_aae02 sl_142 rfl rfl ⟨Nat.le_of_ble_eq_true rfl, Nat.le_of_ble_eq_true rfl⟩ (Nat.le_of_ble_eq_true rfl) (fun b_1 M_2 => ?_)
  refine mm_if_eq_b 23 dJ0_indexOf_7cf53_4 rfl ?_ ?_
  · exact mm_none
  · refine mm_aload_n 0 dJ0_indexOf_7cf53_7 rfl ?_
    refine mm_getSv (j := 2) dJ0_indexOf_7cf53_8 wf_RJ0_9 (by decide) rfl rfl ?_
    refine mm_iload_n 1 dJ0_indexOf_7cf53_11 rfl ?_
    refine mm_iload_n 2 dJ0_indexOf_7cf53_12 rfl ?_
    refine mm_aload_n 0 dJ0_indexOf_7cf53_13 rfl ?_
    refine mm_callTi (as := []) (st := [.int v2, .int v1, .ref 148]) (c_String_length_142 E M_2) dJ0_indexOf_7cf53_14 mz_J0_length_8abf5 lk_RJ0_505 im_J0_length_8abf5 se_J0_length_8abf5 sl_142 rfl rfl ⟨Nat.le_of_ble_eq_true rfl, Nat.le_of_ble_eq_true rfl⟩ (Nat.le_of_ble_eq_true rfl) (fun r_3 M_4 => ?_)
    refine mm_callSi (as := [.ref 148, .int v1, .int v2, .int r_3]) (st := []) (c_StringLatin1_indexOf_148 E v1 v2 r_3 M_4) dJ0_indexOf_7cf53_17 mz_J1_indexOf_4cfef lk_RJ0_637 sm_J1_indexOf_4cfef rfl ⟨Nat.le_of_ble_eq_true rfl, Nat.le_of_ble_eq_true rfl⟩ (Nat.le_of_ble_eq_true rfl) (fun r_5 M_6 => ?_)
    refine mm_goto 36 dJ0_indexOf_7cf53_20 rfl ?_
    exact mm_iret dJ0_indexOf_7cf53_36 rfl
def f_String_indexOf_1_142 (v1 : Int32) (M : mm_M) : Option (Int32 × mm_M) := mm_bd (f_String_indexOf_2_142 v1 0 M) fun r_1 M_2 => some (r_1, M_2)
set_option maxHeartbeats 4000000 in
theorem c_String_indexOf_1_142 (E : mm_E) (v1 : Int32) (M : mm_M) : ∀ (r : Int32) (M2 : mm_M), f_String_indexOf_1_142 v1 M = some (r, M2) → mm_P E Y_J0_indexOf_0f7a4 4 [.ref 142, .int v1] M (some (.int r)) M2 := by
  refine mm_entry (em := (fun x : Int32 => some (.int x))) (by decide +kernel) (Nat.le_of_ble_eq_true rfl) ?_
  show mm_G _ E _ _ 0 [(0, .ref 142), (1, .int v1)] [] M _
  unfold f_String_indexOf_1_142
  refine mm_aload_n 0 dJ0_indexOf_0f7a4_0 rfl ?_
  refine mm_iload_n 1 dJ0_indexOf_0f7a4_1 rfl ?_
  refine mm_iconst (v := 0) dJ0_indexOf_0f7a4_2 rfl ?_
  refine mm_callTi (as := [.int v1, .int 0]) (st := []) (c_String_indexOf_2_142 E v1 0 M) dJ0_indexOf_0f7a4_3 mz_J0_indexOf_7cf53 lk_RJ0_633 im_J0_indexOf_7cf53 se_J0_indexOf_7cf53 sl_142 rfl rfl ⟨Nat.le_of_ble_eq_true rfl, Nat.le_of_ble_eq_true rfl⟩ (Nat.le_of_ble_eq_true rfl) (fun r_1 M_2 => ?_)
  exact mm_iret dJ0_indexOf_0f7a4_6 rfl
def f_TextReader_among_142 (M : mm_M) : Option (Int32 × mm_M) := mm_bd (f_TextReader_atEnd M) fun b_1 M_2 => if b_1 = true then some ((-1), M_2) else mm_bd (f_String_indexOf_1_142 (((M_2.1 3 3).toUInt32 % 65536).toInt32) M_2) fun r_3 M_4 => some (r_3, M_4)
set_option maxHeartbeats 4000000 in
theorem c_TextReader_among_142 (E : mm_E) (M : mm_M) : ∀ (r : Int32) (M2 : mm_M), f_TextReader_among_142 M = some (r, M2) → mm_P E Y_X10_among 5 [.ref 3, .ref 142] M (some (.int r)) M2 := by
  refine mm_entry (em := (fun x : Int32 => some (.int x))) (by decide +kernel) (Nat.le_of_ble_eq_true rfl) ?_
  show mm_G _ E _ _ 0 [(0, .ref 3), (1, .ref 142)] [] M _
  unfold f_TextReader_among_142
  refine mm_aload_n 0 dX10_among_0 rfl ?_
  refine mm_callVz (as := []) (st := []) (c_TextReader_atEnd E M) dX10_among_1 mz_X10_atEnd lk_RX10_48 im_X10_atEnd se_X10_atEnd lo_3 rfl rfl rfl ⟨Nat.le_of_ble_eq_true rfl, Nat.le_of_ble_eq_true rfl⟩ (Nat.le_of_ble_eq_true rfl) (fun b_1 M_2 => ?_)
  refine mm_if_eq_b 11 dX10_among_4 rfl ?_ ?_
  · refine mm_aload_n 1 dX10_among_11 rfl ?_
    refine mm_aload_n 0 dX10_among_12 rfl ?_
    refine mm_getI dX10_among_13 fl_RX10_41 lo_3 rfl ?_
    refine mm_i2c dX10_among_16 ?_
    refine mm_callTi (as := [.int (((M_2.1 3 3).toUInt32 % 65536).toInt32)]) (st := []) (c_String_indexOf_1_142 E (((M_2.1 3 3).toUInt32 % 65536).toInt32) M_2) dX10_among_17 mz_J0_indexOf_0f7a4 lk_RX10_52 im_J0_indexOf_0f7a4 se_J0_indexOf_0f7a4 sl_142 rfl rfl ⟨Nat.le_of_ble_eq_true rfl, Nat.le_of_ble_eq_true rfl⟩ (Nat.le_of_ble_eq_true rfl) (fun r_3 M_4 => ?_)
    exact mm_iret dX10_among_20 rfl
  · refine mm_iconst (v := (-1)) dX10_among_7 rfl ?_
    refine mm_goto 20 dX10_among_8 rfl ?_
    exact mm_iret dX10_among_20 rfl
def f_Law_addStep_46 (v1 : Int32) (v2 : Int32) (M : mm_M) : Option (Unit × mm_M) := if 160 ≤ M.1 46 2 then some ((), M) else if mm_in (M.1 46 2) (mm_al 47) = true then mm_let (mm_setA M 47 ((M.1 46 2).toNatClampNeg) v1) fun M_1 => if mm_in (M_1.1 46 2) (mm_al 48) = true then mm_let (mm_setA M_1 48 ((M_1.1 46 2).toNatClampNeg) v2) fun M_2 => mm_let (mm_setI M_2 46 2 ((M_2.1 46 2) + 1)) fun M_3 => some ((), M_3) else none else none
set_option maxHeartbeats 4000000 in
theorem c_Law_addStep_46 (E : mm_E) (v1 : Int32) (v2 : Int32) (M : mm_M) : ∀ (r : Unit) (M2 : mm_M), f_Law_addStep_46 v1 v2 M = some (r, M2) → mm_P E Y_X3_addStep 1 [.ref 46, .int v1, .int v2] M none M2 := by
  refine mm_entry (em := (fun _ : Unit => none)) (by decide +kernel) (Nat.le_of_ble_eq_true rfl) ?_
  show mm_G _ E _ _ 0 [(0, .ref 46), (1, .int v1), (2, .int v2)] [] M _
  unfold f_Law_addStep_46
  refine mm_aload_n 0 dX3_addStep_0 rfl ?_
  refine mm_getI dX3_addStep_1 fl_RX3_36 lo_46 rfl ?_
  refine mm_sipush (v := 160) dX3_addStep_4 rfl ?_
  refine mm_icmp_ge 40 dX3_addStep_7 rfl ?_ ?_
  · exact mm_vret dX3_addStep_40 rfl
  · refine mm_aload_n 0 dX3_addStep_10 rfl ?_
    refine mm_getR 47 dX3_addStep_11 fl_RX3_9 lo_46 rfl ?_
    refine mm_aload_n 0 dX3_addStep_14 rfl ?_
    refine mm_getI dX3_addStep_15 fl_RX3_36 lo_46 rfl ?_
    refine mm_iload_n 1 dX3_addStep_18 rfl ?_
    refine mm_iastore dX3_addStep_19 ?_
    refine mm_nm_M (fun M_1 => ?_)
    refine mm_aload_n 0 dX3_addStep_20 rfl ?_
    refine mm_getR 48 dX3_addStep_21 fl_RX3_15 lo_46 rfl ?_
    refine mm_aload_n 0 dX3_addStep_24 rfl ?_
    refine mm_getI dX3_addStep_25 fl_RX3_36 lo_46 rfl ?_
    refine mm_iload_n 2 dX3_addStep_28 rfl ?_
    refine mm_iastore dX3_addStep_29 ?_
    refine mm_nm_M (fun M_2 => ?_)
    refine mm_aload_n 0 dX3_addStep_30 rfl ?_
    refine mm_dup dX3_addStep_31 rfl ?_
    refine mm_getI dX3_addStep_32 fl_RX3_36 lo_46 rfl ?_
    refine mm_iconst (v := 1) dX3_addStep_35 rfl ?_
    refine mm_iadd dX3_addStep_36 ?_
    refine mm_putI dX3_addStep_37 fp_RX3_36 lo_46 rfl ?_
    refine mm_nm_M (fun M_3 => ?_)
    exact mm_vret dX3_addStep_40 rfl
def f_LawReader_mayOpen (v1 : Int32) (M : mm_M) : Option (Bool × mm_M) := if v1 < 6 then mm_bd (f_TextReader_step M) fun u_1 M_2 => some (true, M_2) else mm_bd (f_TextReader_failHere 5 M) fun b_3 M_4 => some (b_3, M_4)
set_option maxHeartbeats 4000000 in
theorem c_LawReader_mayOpen (E : mm_E) (v1 : Int32) (M : mm_M) : ∀ (r : Bool) (M2 : mm_M), f_LawReader_mayOpen v1 M = some (r, M2) → mm_P E Y_X4_mayOpen 2 [.ref 55, .int v1] M (some (.int (mm_b r))) M2 := by
  refine mm_entry (em := (fun x : Bool => some (.int (mm_b x)))) (by decide +kernel) (Nat.le_of_ble_eq_true rfl) ?_
  show mm_G _ E _ _ 0 [(0, .ref 55), (1, .int v1)] [] M _
  unfold f_LawReader_mayOpen
  refine mm_iload_n 1 dX4_mayOpen_0 rfl ?_
  refine mm_bipush (v := 6) dX4_mayOpen_1 rfl ?_
  refine mm_icmp_lt 15 dX4_mayOpen_3 rfl ?_ ?_
  · refine mm_aload_n 0 dX4_mayOpen_15 rfl ?_
    refine mm_getR 3 dX4_mayOpen_16 fl_RX4_9 lo_55 rfl ?_
    refine mm_callVv (as := []) (st := []) (c_TextReader_step E M) dX4_mayOpen_19 mz_X10_step lk_RX4_58 im_X10_step se_X10_step lo_3 rfl rfl rfl ⟨Nat.le_of_ble_eq_true rfl, Nat.le_of_ble_eq_true rfl⟩ (Nat.le_of_ble_eq_true rfl) (fun u_1 M_2 => ?_)
    refine mm_iconst (v := 1) dX4_mayOpen_22 rfl ?_
    exact mm_zret (b := true) dX4_mayOpen_23 rfl
  · refine mm_aload_n 0 dX4_mayOpen_6 rfl ?_
    refine mm_getR 3 dX4_mayOpen_7 fl_RX4_9 lo_55 rfl ?_
    refine mm_iconst (v := 5) dX4_mayOpen_10 rfl ?_
    refine mm_callVz (as := [.int 5]) (st := []) (c_TextReader_failHere E 5 M) dX4_mayOpen_11 mz_X10_failHere lk_RX4_55 im_X10_failHere se_X10_failHere lo_3 rfl rfl rfl ⟨Nat.le_of_ble_eq_true rfl, Nat.le_of_ble_eq_true rfl⟩ (Nat.le_of_ble_eq_true rfl) (fun b_3 M_4 => ?_)
    exact mm_zret (b := b_3) dX4_mayOpen_14 rfl
def f_String_isLatin1_143 (M : mm_M) : Option (Bool × mm_M) := if (1 : Int32) = 0 then some (false, M) else if (0 : Int32) = 0 then some (true, M) else some (false, M)
set_option maxHeartbeats 4000000 in
theorem c_String_isLatin1_143 (E : mm_E) (M : mm_M) : ∀ (r : Bool) (M2 : mm_M), f_String_isLatin1_143 M = some (r, M2) → mm_P E Y_J0_isLatin1_aae02 1 [.ref 143] M (some (.int (mm_b r))) M2 := by
  refine mm_entry (em := (fun x : Bool => some (.int (mm_b x)))) (by decide +kernel) (Nat.le_of_ble_eq_true rfl) ?_
  show mm_G _ E _ _ 0 [(0, .ref 143)] [] M _
  unfold f_String_isLatin1_143
  refine mm_gets dJ0_isLatin1_aae02_0 wf_RJ0_38 ?_
  refine mm_if_eq 17 dJ0_isLatin1_aae02_3 rfl ?_ ?_
  · refine mm_iconst (v := 0) dJ0_isLatin1_aae02_17 rfl ?_
    exact mm_zret (b := false) dJ0_isLatin1_aae02_18 rfl
  · refine mm_aload_n 0 dJ0_isLatin1_aae02_6 rfl ?_
    refine mm_getSc (j := 3) dJ0_isLatin1_aae02_7 wf_RJ0_15 (by decide) rfl ?_
    refine mm_if_ne 17 dJ0_isLatin1_aae02_10 rfl ?_ ?_
    · refine mm_iconst (v := 0) dJ0_isLatin1_aae02_17 rfl ?_
      exact mm_zret (b := false) dJ0_isLatin1_aae02_18 rfl
    · refine mm_iconst (v := 1) dJ0_isLatin1_aae02_13 rfl ?_
      refine mm_goto 18 dJ0_isLatin1_aae02_14 rfl ?_
      exact mm_zret (b := true) dJ0_isLatin1_aae02_18 rfl
def f_String_coder_143 (M : mm_M) : Option (Int32 × mm_M) := if (1 : Int32) = 0 then some (1, M) else some (0, M)
set_option maxHeartbeats 4000000 in
theorem c_String_coder_143 (E : mm_E) (M : mm_M) : ∀ (r : Int32) (M2 : mm_M), f_String_coder_143 M = some (r, M2) → mm_P E Y_J0_coder_7d493 1 [.ref 143] M (some (.int r)) M2 := by
  refine mm_entry (em := (fun x : Int32 => some (.int x))) (by decide +kernel) (Nat.le_of_ble_eq_true rfl) ?_
  show mm_G _ E _ _ 0 [(0, .ref 143)] [] M _
  unfold f_String_coder_143
  refine mm_gets dJ0_coder_7d493_0 wf_RJ0_38 ?_
  refine mm_if_eq 13 dJ0_coder_7d493_3 rfl ?_ ?_
  · refine mm_iconst (v := 1) dJ0_coder_7d493_13 rfl ?_
    exact mm_nret dJ0_coder_7d493_14 rfl rfl
  · refine mm_aload_n 0 dJ0_coder_7d493_6 rfl ?_
    refine mm_getSc (j := 3) dJ0_coder_7d493_7 wf_RJ0_15 (by decide) rfl ?_
    refine mm_goto 14 dJ0_coder_7d493_10 rfl ?_
    exact mm_nret dJ0_coder_7d493_14 rfl rfl
def f_String_length_143 (M : mm_M) : Option (Int32 × mm_M) := mm_bd (f_String_coder_143 M) fun r_1 M_2 => some (3 >>> (r_1 &&& 31), M_2)
set_option maxHeartbeats 4000000 in
theorem c_String_length_143 (E : mm_E) (M : mm_M) : ∀ (r : Int32) (M2 : mm_M), f_String_length_143 M = some (r, M2) → mm_P E Y_J0_length_8abf5 2 [.ref 143] M (some (.int r)) M2 := by
  refine mm_entry (em := (fun x : Int32 => some (.int x))) (by decide +kernel) (Nat.le_of_ble_eq_true rfl) ?_
  show mm_G _ E _ _ 0 [(0, .ref 143)] [] M _
  unfold f_String_length_143
  refine mm_aload_n 0 dJ0_length_8abf5_0 rfl ?_
  refine mm_getSv (j := 3) dJ0_length_8abf5_1 wf_RJ0_9 (by decide) rfl rfl ?_
  refine mm_alenS (j := 3) (v := 3) dJ0_length_8abf5_4 (by decide) rfl rfl ?_
  refine mm_aload_n 0 dJ0_length_8abf5_5 rfl ?_
  refine mm_callTi (as := []) (st := [.int 3]) (c_String_coder_143 E M) dJ0_length_8abf5_6 mz_J0_coder_7d493 lk_RJ0_335 im_J0_coder_7d493 se_J0_coder_7d493 sl_143 rfl rfl ⟨Nat.le_of_ble_eq_true rfl, Nat.le_of_ble_eq_true rfl⟩ (Nat.le_of_ble_eq_true rfl) (fun r_1 M_2 => ?_)
  refine mm_ishr dJ0_length_8abf5_9 ?_
  exact mm_iret dJ0_length_8abf5_10 rfl
def lp_StringLatin1_indexOfChar_149_7 (v3 : Int32) (v4 : Int32) (k22 : Int32 → mm_M → Option (Int32 × mm_M)) (k31 : mm_M → Option (Int32 × mm_M)) : Nat → Int32 → mm_M → Option (Int32 × mm_M)
  | 0, _, _ => none
  | n + 1, v5, M => if v3 ≤ v5 then k31 M else if mm_in v5 (mm_len.getD 3 0) = true then if (mm_byt.getD 3 []).getD v5.toNatClampNeg 0 = v4 then k22 v5 M else mm_let (v5 + 1) fun v5_2 => lp_StringLatin1_indexOfChar_149_7 v3 v4 k22 k31 n v5_2 M else none
set_option maxHeartbeats 4000000 in
theorem lp_StringLatin1_indexOfChar_149_7_ok (E : mm_E) (v3 : Int32) (v4 : Int32) {k22 : Int32 → mm_M → Option (Int32 × mm_M)} {k31 : mm_M → Option (Int32 × mm_M)} (hk22 : ∀ (v5 : Int32) (M : mm_M), mm_G (fun x : Int32 => some (.int x)) E Y_J1_indexOfChar_4cfef 1 22 [(5, .int v5)] [] M (k22 v5 M)) (hk31 : ∀ (M : mm_M), mm_G (fun x : Int32 => some (.int x)) E Y_J1_indexOfChar_4cfef 1 31 [] [] M (k31 M)) : ∀ (n : Nat) (v5 : Int32) (M : mm_M), mm_G (fun x : Int32 => some (.int x)) E Y_J1_indexOfChar_4cfef 1 7 [(0, .ref 149), (3, .int v3), (4, .int v4), (5, .int v5)] [] M (lp_StringLatin1_indexOfChar_149_7 v3 v4 k22 k31 n v5 M) := by
  intro n
  induction n with
  | zero => intro v5 M r M2 he; cases he
  | succ n ih =>
    intro v5 M
    rw [lp_StringLatin1_indexOfChar_149_7]
    refine mm_iload 3 dJ1_indexOfChar_4cfef_7 rfl ?_
    refine mm_iload_n 1 dJ1_indexOfChar_4cfef_9 rfl ?_
    refine mm_icmp_ge 31 dJ1_indexOfChar_4cfef_10 rfl ?_ ?_
    · refine mm_wk [] rfl ?_
      exact hk31  M
    · refine mm_aload_n 0 dJ1_indexOfChar_4cfef_13 rfl ?_
      refine mm_iload 3 dJ1_indexOfChar_4cfef_14 rfl ?_
      refine mm_baloadS (j := 3) dJ1_indexOfChar_4cfef_16 (by decide) rfl ?_
      refine mm_iload 2 dJ1_indexOfChar_4cfef_17 rfl ?_
      refine mm_icmp_ne 25 dJ1_indexOfChar_4cfef_19 rfl ?_ ?_
      · refine mm_iincN 3 [1, 2, 3, 0] (v := v5 + 1) (lv2 := fun v5_2 => [(0, .ref 149), (3, .int v3), (4, .int v4), (5, .int v5_2)]) dJ1_indexOfChar_4cfef_25 rfl rfl (by decide) (fun _ => rfl) (fun v5_2 => ?_)
        refine mm_goto 7 dJ1_indexOfChar_4cfef_28 rfl ?_
        exact ih v5_2 M
      · refine mm_wk [3] rfl ?_
        exact hk22 v5 M
def f_StringLatin1_indexOfChar_149 (v1 : Int32) (v2 : Int32) (v3 : Int32) (M : mm_M) : Option (Int32 × mm_M) := mm_let (v1.toInt8.toInt32) fun v4_1 => lp_StringLatin1_indexOfChar_149_7 v3 v4_1 (fun (v5 : Int32) (M_3 : mm_M) => some (v5, M_3)) (fun (M_4 : mm_M) => some ((-1), M_4)) mm_fu v2 M
set_option maxHeartbeats 4000000 in
theorem c_StringLatin1_indexOfChar_149 (E : mm_E) (v1 : Int32) (v2 : Int32) (v3 : Int32) (M : mm_M) : ∀ (r : Int32) (M2 : mm_M), f_StringLatin1_indexOfChar_149 v1 v2 v3 M = some (r, M2) → mm_P E Y_J1_indexOfChar_4cfef 1 [.ref 149, .int v1, .int v2, .int v3] M (some (.int r)) M2 := by
  refine mm_entry (em := (fun x : Int32 => some (.int x))) (by decide +kernel) (Nat.le_of_ble_eq_true rfl) ?_
  show mm_G _ E _ _ 0 [(0, .ref 149), (1, .int v1), (2, .int v2), (3, .int v3)] [] M _
  unfold f_StringLatin1_indexOfChar_149
  refine mm_iload_n 1 dJ1_indexOfChar_4cfef_0 rfl ?_
  refine mm_i2b dJ1_indexOfChar_4cfef_1 ?_
  refine mm_nm_int (fun v4_1 => ?_)
  refine mm_istore [1, 2, 3, 4, 0] (lv2 := [(0, .ref 149), (1, .int v1), (2, .int v2), (3, .int v3), (4, .int v4_1)]) dJ1_indexOfChar_4cfef_2 (by decide) rfl ?_
  refine mm_iload_n 2 dJ1_indexOfChar_4cfef_4 rfl ?_
  refine mm_istore [1, 2, 3, 4, 5, 0] (lv2 := [(0, .ref 149), (1, .int v1), (2, .int v2), (3, .int v3), (4, .int v4_1), (5, .int v2)]) dJ1_indexOfChar_4cfef_5 (by decide) rfl ?_
  refine mm_wk [0, 3, 4, 5] rfl ?_
  refine lp_StringLatin1_indexOfChar_149_7_ok E v3 v4_1 ?_ ?_ mm_fu v2 M
  · intro v5 M_3
    refine mm_iload 0 dJ1_indexOfChar_4cfef_22 rfl ?_
    exact mm_iret dJ1_indexOfChar_4cfef_24 rfl
  · intro M_4
    refine mm_iconst (v := (-1)) dJ1_indexOfChar_4cfef_31 rfl ?_
    exact mm_iret dJ1_indexOfChar_4cfef_32 rfl
def f_StringLatin1_indexOf_149 (v1 : Int32) (v2 : Int32) (v3 : Int32) (M : mm_M) : Option (Int32 × mm_M) := mm_bd (f_StringLatin1_canEncode v1 M) fun b_1 M_2 => if b_1 = true then mm_bd (f_Math_max v2 0 M_2) fun r_3 M_4 => mm_bd (f_Math_min v3 3 M_4) fun r_5 M_6 => if r_3 < r_5 then mm_bd (f_StringLatin1_indexOfChar_149 v1 r_3 r_5 M_6) fun r_7 M_8 => some (r_7, M_8) else some ((-1), M_6) else some ((-1), M_2)
set_option maxHeartbeats 4000000 in
theorem c_StringLatin1_indexOf_149 (E : mm_E) (v1 : Int32) (v2 : Int32) (v3 : Int32) (M : mm_M) : ∀ (r : Int32) (M2 : mm_M), f_StringLatin1_indexOf_149 v1 v2 v3 M = some (r, M2) → mm_P E Y_J1_indexOf_4cfef 2 [.ref 149, .int v1, .int v2, .int v3] M (some (.int r)) M2 := by
  refine mm_entry (em := (fun x : Int32 => some (.int x))) (by decide +kernel) (Nat.le_of_ble_eq_true rfl) ?_
  show mm_G _ E _ _ 0 [(0, .ref 149), (1, .int v1), (2, .int v2), (3, .int v3)] [] M _
  unfold f_StringLatin1_indexOf_149
  refine mm_iload_n 1 dJ1_indexOf_4cfef_0 rfl ?_
  refine mm_callSz (as := [.int v1]) (st := []) (c_StringLatin1_canEncode E v1 M) dJ1_indexOf_4cfef_1 mz_J1_canEncode_9a6ad lk_RJ1_88 sm_J1_canEncode_9a6ad rfl ⟨Nat.le_of_ble_eq_true rfl, Nat.le_of_ble_eq_true rfl⟩ (Nat.le_of_ble_eq_true rfl) (fun b_1 M_2 => ?_)
  refine mm_if_ne_b 9 dJ1_indexOf_4cfef_4 rfl ?_ ?_
  · refine mm_iload_n 2 dJ1_indexOf_4cfef_9 rfl ?_
    refine mm_iconst (v := 0) dJ1_indexOf_4cfef_10 rfl ?_
    refine mm_callSi (as := [.int v2, .int 0]) (st := []) (c_Math_max E v2 0 M_2) dJ1_indexOf_4cfef_11 mz_J9_max_7cf53 lk_RJ1_92 sm_J9_max_7cf53 rfl ⟨Nat.le_of_ble_eq_true rfl, Nat.le_of_ble_eq_true rfl⟩ (Nat.le_of_ble_eq_true rfl) (fun r_3 M_4 => ?_)
    refine mm_istore_n [1, 2, 0, 3] (lv2 := [(0, .ref 149), (1, .int v1), (2, .int r_3), (3, .int v3)]) dJ1_indexOf_4cfef_14 (by decide) rfl ?_
    refine mm_iload_n 3 dJ1_indexOf_4cfef_15 rfl ?_
    refine mm_aload_n 0 dJ1_indexOf_4cfef_16 rfl ?_
    refine mm_alenS (j := 3) (v := 3) dJ1_indexOf_4cfef_17 (by decide) rfl rfl ?_
    refine mm_callSi (as := [.int v3, .int 3]) (st := []) (c_Math_min E v3 3 M_4) dJ1_indexOf_4cfef_18 mz_J9_min_7cf53 lk_RJ1_38 sm_J9_min_7cf53 rfl ⟨Nat.le_of_ble_eq_true rfl, Nat.le_of_ble_eq_true rfl⟩ (Nat.le_of_ble_eq_true rfl) (fun r_5 M_6 => ?_)
    refine mm_istore_n [1, 2, 3, 0] (lv2 := [(0, .ref 149), (1, .int v1), (2, .int r_3), (3, .int r_5)]) dJ1_indexOf_4cfef_21 (by decide) rfl ?_
    refine mm_iload_n 2 dJ1_indexOf_4cfef_22 rfl ?_
    refine mm_iload_n 3 dJ1_indexOf_4cfef_23 rfl ?_
    refine mm_icmp_lt 29 dJ1_indexOf_4cfef_24 rfl ?_ ?_
    · refine mm_aload_n 0 dJ1_indexOf_4cfef_29 rfl ?_
      refine mm_iload_n 1 dJ1_indexOf_4cfef_30 rfl ?_
      refine mm_iload_n 2 dJ1_indexOf_4cfef_31 rfl ?_
      refine mm_iload_n 3 dJ1_indexOf_4cfef_32 rfl ?_
      refine mm_callSi (as := [.ref 149, .int v1, .int r_3, .int r_5]) (st := []) (c_StringLatin1_indexOfChar_149 E v1 r_3 r_5 M_6) dJ1_indexOf_4cfef_33 mz_J1_indexOfChar_4cfef lk_RJ1_95 sm_J1_indexOfChar_4cfef rfl ⟨Nat.le_of_ble_eq_true rfl, Nat.le_of_ble_eq_true rfl⟩ (Nat.le_of_ble_eq_true rfl) (fun r_7 M_8 => ?_)
      exact mm_iret dJ1_indexOf_4cfef_36 rfl
    · refine mm_iconst (v := (-1)) dJ1_indexOf_4cfef_27 rfl ?_
      exact mm_iret dJ1_indexOf_4cfef_28 rfl
  · refine mm_iconst (v := (-1)) dJ1_indexOf_4cfef_7 rfl ?_
    exact mm_iret dJ1_indexOf_4cfef_8 rfl
def f_String_indexOf_2_143 (v1 : Int32) (v2 : Int32) (M : mm_M) : Option (Int32 × mm_M) := mm_bd (f_String_isLatin1_143 M) fun b_1 M_2 => if b_1 = true then mm_bd (f_String_length_143 M_2) fun r_3 M_4 => mm_bd (f_StringLatin1_indexOf_149 v1 v2 r_3 M_4) fun r_5 M_6 => some (r_5, M_6) else none
set_option maxHeartbeats 4000000 in
theorem c_String_indexOf_2_143 (E : mm_E) (v1 : Int32) (v2 : Int32) (M : mm_M) : ∀ (r : Int32) (M2 : mm_M), f_String_indexOf_2_143 v1 v2 M = some (r, M2) → mm_P E Y_J0_indexOf_7cf53 3 [.ref 143, .int v1, .int v2] M (some (.int r)) M2 := by
  refine mm_entry (em := (fun x : Int32 => some (.int x))) (by decide +kernel) (Nat.le_of_ble_eq_true rfl) ?_
  show mm_G _ E _ _ 0 [(0, .ref 143), (1, .int v1), (2, .int v2)] [] M _
  unfold f_String_indexOf_2_143
  refine mm_aload_n 0 dJ0_indexOf_7cf53_0 rfl ?_
  refine mm_callTz (as := []) (st := []) (c_String_isLatin1_143 E M) dJ0_indexOf_7cf53_1 mz_J0_isLatin1_aae02 lk_RJ0_492 im_J0_isLatin1_aae02 se_J0_isLatin1_aae02 sl_143 rfl rfl ⟨Nat.le_of_ble_eq_true rfl, Nat.le_of_ble_eq_true rfl⟩ (Nat.le_of_ble_eq_true rfl) (fun b_1 M_2 => ?_)
  refine mm_if_eq_b 23 dJ0_indexOf_7cf53_4 rfl ?_ ?_
  · exact mm_none
  · refine mm_aload_n 0 dJ0_indexOf_7cf53_7 rfl ?_
    refine mm_getSv (j := 3) dJ0_indexOf_7cf53_8 wf_RJ0_9 (by decide) rfl rfl ?_
    refine mm_iload_n 1 dJ0_indexOf_7cf53_11 rfl ?_
    refine mm_iload_n 2 dJ0_indexOf_7cf53_12 rfl ?_
    refine mm_aload_n 0 dJ0_indexOf_7cf53_13 rfl ?_
    refine mm_callTi (as := []) (st := [.int v2, .int v1, .ref 149]) (c_String_length_143 E M_2) dJ0_indexOf_7cf53_14 mz_J0_length_8abf5 lk_RJ0_505 im_J0_length_8abf5 se_J0_length_8abf5 sl_143 rfl rfl ⟨Nat.le_of_ble_eq_true rfl, Nat.le_of_ble_eq_true rfl⟩ (Nat.le_of_ble_eq_true rfl) (fun r_3 M_4 => ?_)
    refine mm_callSi (as := [.ref 149, .int v1, .int v2, .int r_3]) (st := []) (c_StringLatin1_indexOf_149 E v1 v2 r_3 M_4) dJ0_indexOf_7cf53_17 mz_J1_indexOf_4cfef lk_RJ0_637 sm_J1_indexOf_4cfef rfl ⟨Nat.le_of_ble_eq_true rfl, Nat.le_of_ble_eq_true rfl⟩ (Nat.le_of_ble_eq_true rfl) (fun r_5 M_6 => ?_)
    refine mm_goto 36 dJ0_indexOf_7cf53_20 rfl ?_
    exact mm_iret dJ0_indexOf_7cf53_36 rfl
def f_String_indexOf_1_143 (v1 : Int32) (M : mm_M) : Option (Int32 × mm_M) := mm_bd (f_String_indexOf_2_143 v1 0 M) fun r_1 M_2 => some (r_1, M_2)
set_option maxHeartbeats 4000000 in
theorem c_String_indexOf_1_143 (E : mm_E) (v1 : Int32) (M : mm_M) : ∀ (r : Int32) (M2 : mm_M), f_String_indexOf_1_143 v1 M = some (r, M2) → mm_P E Y_J0_indexOf_0f7a4 4 [.ref 143, .int v1] M (some (.int r)) M2 := by
  refine mm_entry (em := (fun x : Int32 => some (.int x))) (by decide +kernel) (Nat.le_of_ble_eq_true rfl) ?_
  show mm_G _ E _ _ 0 [(0, .ref 143), (1, .int v1)] [] M _
  unfold f_String_indexOf_1_143
  refine mm_aload_n 0 dJ0_indexOf_0f7a4_0 rfl ?_
  refine mm_iload_n 1 dJ0_indexOf_0f7a4_1 rfl ?_
  refine mm_iconst (v := 0) dJ0_indexOf_0f7a4_2 rfl ?_
  refine mm_callTi (as := [.int v1, .int 0]) (st := []) (c_String_indexOf_2_143 E v1 0 M) dJ0_indexOf_0f7a4_3 mz_J0_indexOf_7cf53 lk_RJ0_633 im_J0_indexOf_7cf53 se_J0_indexOf_7cf53 sl_143 rfl rfl ⟨Nat.le_of_ble_eq_true rfl, Nat.le_of_ble_eq_true rfl⟩ (Nat.le_of_ble_eq_true rfl) (fun r_1 M_2 => ?_)
  exact mm_iret dJ0_indexOf_0f7a4_6 rfl
def f_TextReader_among_143 (M : mm_M) : Option (Int32 × mm_M) := mm_bd (f_TextReader_atEnd M) fun b_1 M_2 => if b_1 = true then some ((-1), M_2) else mm_bd (f_String_indexOf_1_143 (((M_2.1 3 3).toUInt32 % 65536).toInt32) M_2) fun r_3 M_4 => some (r_3, M_4)
set_option maxHeartbeats 4000000 in
theorem c_TextReader_among_143 (E : mm_E) (M : mm_M) : ∀ (r : Int32) (M2 : mm_M), f_TextReader_among_143 M = some (r, M2) → mm_P E Y_X10_among 5 [.ref 3, .ref 143] M (some (.int r)) M2 := by
  refine mm_entry (em := (fun x : Int32 => some (.int x))) (by decide +kernel) (Nat.le_of_ble_eq_true rfl) ?_
  show mm_G _ E _ _ 0 [(0, .ref 3), (1, .ref 143)] [] M _
  unfold f_TextReader_among_143
  refine mm_aload_n 0 dX10_among_0 rfl ?_
  refine mm_callVz (as := []) (st := []) (c_TextReader_atEnd E M) dX10_among_1 mz_X10_atEnd lk_RX10_48 im_X10_atEnd se_X10_atEnd lo_3 rfl rfl rfl ⟨Nat.le_of_ble_eq_true rfl, Nat.le_of_ble_eq_true rfl⟩ (Nat.le_of_ble_eq_true rfl) (fun b_1 M_2 => ?_)
  refine mm_if_eq_b 11 dX10_among_4 rfl ?_ ?_
  · refine mm_aload_n 1 dX10_among_11 rfl ?_
    refine mm_aload_n 0 dX10_among_12 rfl ?_
    refine mm_getI dX10_among_13 fl_RX10_41 lo_3 rfl ?_
    refine mm_i2c dX10_among_16 ?_
    refine mm_callTi (as := [.int (((M_2.1 3 3).toUInt32 % 65536).toInt32)]) (st := []) (c_String_indexOf_1_143 E (((M_2.1 3 3).toUInt32 % 65536).toInt32) M_2) dX10_among_17 mz_J0_indexOf_0f7a4 lk_RX10_52 im_J0_indexOf_0f7a4 se_J0_indexOf_0f7a4 sl_143 rfl rfl ⟨Nat.le_of_ble_eq_true rfl, Nat.le_of_ble_eq_true rfl⟩ (Nat.le_of_ble_eq_true rfl) (fun r_3 M_4 => ?_)
    exact mm_iret dX10_among_20 rfl
  · refine mm_iconst (v := (-1)) dX10_among_7 rfl ?_
    refine mm_goto 20 dX10_among_8 rfl ?_
    exact mm_iret dX10_among_20 rfl
def f_String_isLatin1_144 (M : mm_M) : Option (Bool × mm_M) := if (1 : Int32) = 0 then some (false, M) else if (0 : Int32) = 0 then some (true, M) else some (false, M)
set_option maxHeartbeats 4000000 in
theorem c_String_isLatin1_144 (E : mm_E) (M : mm_M) : ∀ (r : Bool) (M2 : mm_M), f_String_isLatin1_144 M = some (r, M2) → mm_P E Y_J0_isLatin1_aae02 1 [.ref 144] M (some (.int (mm_b r))) M2 := by
  refine mm_entry (em := (fun x : Bool => some (.int (mm_b x)))) (by decide +kernel) (Nat.le_of_ble_eq_true rfl) ?_
  show mm_G _ E _ _ 0 [(0, .ref 144)] [] M _
  unfold f_String_isLatin1_144
  refine mm_gets dJ0_isLatin1_aae02_0 wf_RJ0_38 ?_
  refine mm_if_eq 17 dJ0_isLatin1_aae02_3 rfl ?_ ?_
  · refine mm_iconst (v := 0) dJ0_isLatin1_aae02_17 rfl ?_
    exact mm_zret (b := false) dJ0_isLatin1_aae02_18 rfl
  · refine mm_aload_n 0 dJ0_isLatin1_aae02_6 rfl ?_
    refine mm_getSc (j := 4) dJ0_isLatin1_aae02_7 wf_RJ0_15 (by decide) rfl ?_
    refine mm_if_ne 17 dJ0_isLatin1_aae02_10 rfl ?_ ?_
    · refine mm_iconst (v := 0) dJ0_isLatin1_aae02_17 rfl ?_
      exact mm_zret (b := false) dJ0_isLatin1_aae02_18 rfl
    · refine mm_iconst (v := 1) dJ0_isLatin1_aae02_13 rfl ?_
      refine mm_goto 18 dJ0_isLatin1_aae02_14 rfl ?_
      exact mm_zret (b := true) dJ0_isLatin1_aae02_18 rfl
def f_String_coder_144 (M : mm_M) : Option (Int32 × mm_M) := if (1 : Int32) = 0 then some (1, M) else some (0, M)
set_option maxHeartbeats 4000000 in
theorem c_String_coder_144 (E : mm_E) (M : mm_M) : ∀ (r : Int32) (M2 : mm_M), f_String_coder_144 M = some (r, M2) → mm_P E Y_J0_coder_7d493 1 [.ref 144] M (some (.int r)) M2 := by
  refine mm_entry (em := (fun x : Int32 => some (.int x))) (by decide +kernel) (Nat.le_of_ble_eq_true rfl) ?_
  show mm_G _ E _ _ 0 [(0, .ref 144)] [] M _
  unfold f_String_coder_144
  refine mm_gets dJ0_coder_7d493_0 wf_RJ0_38 ?_
  refine mm_if_eq 13 dJ0_coder_7d493_3 rfl ?_ ?_
  · refine mm_iconst (v := 1) dJ0_coder_7d493_13 rfl ?_
    exact mm_nret dJ0_coder_7d493_14 rfl rfl
  · refine mm_aload_n 0 dJ0_coder_7d493_6 rfl ?_
    refine mm_getSc (j := 4) dJ0_coder_7d493_7 wf_RJ0_15 (by decide) rfl ?_
    refine mm_goto 14 dJ0_coder_7d493_10 rfl ?_
    exact mm_nret dJ0_coder_7d493_14 rfl rfl
def f_String_length_144 (M : mm_M) : Option (Int32 × mm_M) := mm_bd (f_String_coder_144 M) fun r_1 M_2 => some (2 >>> (r_1 &&& 31), M_2)
set_option maxHeartbeats 4000000 in
theorem c_String_length_144 (E : mm_E) (M : mm_M) : ∀ (r : Int32) (M2 : mm_M), f_String_length_144 M = some (r, M2) → mm_P E Y_J0_length_8abf5 2 [.ref 144] M (some (.int r)) M2 := by
  refine mm_entry (em := (fun x : Int32 => some (.int x))) (by decide +kernel) (Nat.le_of_ble_eq_true rfl) ?_
  show mm_G _ E _ _ 0 [(0, .ref 144)] [] M _
  unfold f_String_length_144
  refine mm_aload_n 0 dJ0_length_8abf5_0 rfl ?_
  refine mm_getSv (j := 4) dJ0_length_8abf5_1 wf_RJ0_9 (by decide) rfl rfl ?_
  refine mm_alenS (j := 4) (v := 2) dJ0_length_8abf5_4 (by decide) rfl rfl ?_
  refine mm_aload_n 0 dJ0_length_8abf5_5 rfl ?_
  refine mm_callTi (as := []) (st := [.int 2]) (c_String_coder_144 E M) dJ0_length_8abf5_6 mz_J0_coder_7d493 lk_RJ0_335 im_J0_coder_7d493 se_J0_coder_7d493 sl_144 rfl rfl ⟨Nat.le_of_ble_eq_true rfl, Nat.le_of_ble_eq_true rfl⟩ (Nat.le_of_ble_eq_true rfl) (fun r_1 M_2 => ?_)
  refine mm_ishr dJ0_length_8abf5_9 ?_
  exact mm_iret dJ0_length_8abf5_10 rfl
def lp_StringLatin1_indexOfChar_150_7 (v3 : Int32) (v4 : Int32) (k22 : Int32 → mm_M → Option (Int32 × mm_M)) (k31 : mm_M → Option (Int32 × mm_M)) : Nat → Int32 → mm_M → Option (Int32 × mm_M)
  | 0, _, _ => none
  | n + 1, v5, M => if v3 ≤ v5 then k31 M else if mm_in v5 (mm_len.getD 4 0) = true then if (mm_byt.getD 4 []).getD v5.toNatClampNeg 0 = v4 then k22 v5 M else mm_let (v5 + 1) fun v5_2 => lp_StringLatin1_indexOfChar_150_7 v3 v4 k22 k31 n v5_2 M else none
set_option maxHeartbeats 4000000 in
theorem lp_StringLatin1_indexOfChar_150_7_ok (E : mm_E) (v3 : Int32) (v4 : Int32) {k22 : Int32 → mm_M → Option (Int32 × mm_M)} {k31 : mm_M → Option (Int32 × mm_M)} (hk22 : ∀ (v5 : Int32) (M : mm_M), mm_G (fun x : Int32 => some (.int x)) E Y_J1_indexOfChar_4cfef 1 22 [(5, .int v5)] [] M (k22 v5 M)) (hk31 : ∀ (M : mm_M), mm_G (fun x : Int32 => some (.int x)) E Y_J1_indexOfChar_4cfef 1 31 [] [] M (k31 M)) : ∀ (n : Nat) (v5 : Int32) (M : mm_M), mm_G (fun x : Int32 => some (.int x)) E Y_J1_indexOfChar_4cfef 1 7 [(0, .ref 150), (3, .int v3), (4, .int v4), (5, .int v5)] [] M (lp_StringLatin1_indexOfChar_150_7 v3 v4 k22 k31 n v5 M) := by
  intro n
  induction n with
  | zero => intro v5 M r M2 he; cases he
  | succ n ih =>
    intro v5 M
    rw [lp_StringLatin1_indexOfChar_150_7]
    refine mm_iload 3 dJ1_indexOfChar_4cfef_7 rfl ?_
    refine mm_iload_n 1 dJ1_indexOfChar_4cfef_9 rfl ?_
    refine mm_icmp_ge 31 dJ1_indexOfChar_4cfef_10 rfl ?_ ?_
    · refine mm_wk [] rfl ?_
      exact hk31  M
    · refine mm_aload_n 0 dJ1_indexOfChar_4cfef_13 rfl ?_
      refine mm_iload 3 dJ1_indexOfChar_4cfef_14 rfl ?_
      refine mm_baloadS (j := 4) dJ1_indexOfChar_4cfef_16 (by decide) rfl ?_
      refine mm_iload 2 dJ1_indexOfChar_4cfef_17 rfl ?_
      refine mm_icmp_ne 25 dJ1_indexOfChar_4cfef_19 rfl ?_ ?_
      · refine mm_iincN 3 [1, 2, 3, 0] (v := v5 + 1) (lv2 := fun v5_2 => [(0, .ref 150), (3, .int v3), (4, .int v4), (5, .int v5_2)]) dJ1_indexOfChar_4cfef_25 rfl rfl (by decide) (fun _ => rfl) (fun v5_2 => ?_)
        refine mm_goto 7 dJ1_indexOfChar_4cfef_28 rfl ?_
        exact ih v5_2 M
      · refine mm_wk [3] rfl ?_
        exact hk22 v5 M
def f_StringLatin1_indexOfChar_150 (v1 : Int32) (v2 : Int32) (v3 : Int32) (M : mm_M) : Option (Int32 × mm_M) := mm_let (v1.toInt8.toInt32) fun v4_1 => lp_StringLatin1_indexOfChar_150_7 v3 v4_1 (fun (v5 : Int32) (M_3 : mm_M) => some (v5, M_3)) (fun (M_4 : mm_M) => some ((-1), M_4)) mm_fu v2 M
set_option maxHeartbeats 4000000 in
theorem c_StringLatin1_indexOfChar_150 (E : mm_E) (v1 : Int32) (v2 : Int32) (v3 : Int32) (M : mm_M) : ∀ (r : Int32) (M2 : mm_M), f_StringLatin1_indexOfChar_150 v1 v2 v3 M = some (r, M2) → mm_P E Y_J1_indexOfChar_4cfef 1 [.ref 150, .int v1, .int v2, .int v3] M (some (.int r)) M2 := by
  refine mm_entry (em := (fun x : Int32 => some (.int x))) (by decide +kernel) (Nat.le_of_ble_eq_true rfl) ?_
  show mm_G _ E _ _ 0 [(0, .ref 150), (1, .int v1), (2, .int v2), (3, .int v3)] [] M _
  unfold f_StringLatin1_indexOfChar_150
  refine mm_iload_n 1 dJ1_indexOfChar_4cfef_0 rfl ?_
  refine mm_i2b dJ1_indexOfChar_4cfef_1 ?_
  refine mm_nm_int (fun v4_1 => ?_)
  refine mm_istore [1, 2, 3, 4, 0] (lv2 := [(0, .ref 150), (1, .int v1), (2, .int v2), (3, .int v3), (4, .int v4_1)]) dJ1_indexOfChar_4cfef_2 (by decide) rfl ?_
  refine mm_iload_n 2 dJ1_indexOfChar_4cfef_4 rfl ?_
  refine mm_istore [1, 2, 3, 4, 5, 0] (lv2 := [(0, .ref 150), (1, .int v1), (2, .int v2), (3, .int v3), (4, .int v4_1), (5, .int v2)]) dJ1_indexOfChar_4cfef_5 (by decide) rfl ?_
  refine mm_wk [0, 3, 4, 5] rfl ?_
  refine lp_StringLatin1_indexOfChar_150_7_ok E v3 v4_1 ?_ ?_ mm_fu v2 M
  · intro v5 M_3
    refine mm_iload 0 dJ1_indexOfChar_4cfef_22 rfl ?_
    exact mm_iret dJ1_indexOfChar_4cfef_24 rfl
  · intro M_4
    refine mm_iconst (v := (-1)) dJ1_indexOfChar_4cfef_31 rfl ?_
    exact mm_iret dJ1_indexOfChar_4cfef_32 rfl
def f_StringLatin1_indexOf_150 (v1 : Int32) (v2 : Int32) (v3 : Int32) (M : mm_M) : Option (Int32 × mm_M) := mm_bd (f_StringLatin1_canEncode v1 M) fun b_1 M_2 => if b_1 = true then mm_bd (f_Math_max v2 0 M_2) fun r_3 M_4 => mm_bd (f_Math_min v3 2 M_4) fun r_5 M_6 => if r_3 < r_5 then mm_bd (f_StringLatin1_indexOfChar_150 v1 r_3 r_5 M_6) fun r_7 M_8 => some (r_7, M_8) else some ((-1), M_6) else some ((-1), M_2)
set_option maxHeartbeats 4000000 in
theorem c_StringLatin1_indexOf_150 (E : mm_E) (v1 : Int32) (v2 : Int32) (v3 : Int32) (M : mm_M) : ∀ (r : Int32) (M2 : mm_M), f_StringLatin1_indexOf_150 v1 v2 v3 M = some (r, M2) → mm_P E Y_J1_indexOf_4cfef 2 [.ref 150, .int v1, .int v2, .int v3] M (some (.int r)) M2 := by
  refine mm_entry (em := (fun x : Int32 => some (.int x))) (by decide +kernel) (Nat.le_of_ble_eq_true rfl) ?_
  show mm_G _ E _ _ 0 [(0, .ref 150), (1, .int v1), (2, .int v2), (3, .int v3)] [] M _
  unfold f_StringLatin1_indexOf_150
  refine mm_iload_n 1 dJ1_indexOf_4cfef_0 rfl ?_
  refine mm_callSz (as := [.int v1]) (st := []) (c_StringLatin1_canEncode E v1 M) dJ1_indexOf_4cfef_1 mz_J1_canEncode_9a6ad lk_RJ1_88 sm_J1_canEncode_9a6ad rfl ⟨Nat.le_of_ble_eq_true rfl, Nat.le_of_ble_eq_true rfl⟩ (Nat.le_of_ble_eq_true rfl) (fun b_1 M_2 => ?_)
  refine mm_if_ne_b 9 dJ1_indexOf_4cfef_4 rfl ?_ ?_
  · refine mm_iload_n 2 dJ1_indexOf_4cfef_9 rfl ?_
    refine mm_iconst (v := 0) dJ1_indexOf_4cfef_10 rfl ?_
    refine mm_callSi (as := [.int v2, .int 0]) (st := []) (c_Math_max E v2 0 M_2) dJ1_indexOf_4cfef_11 mz_J9_max_7cf53 lk_RJ1_92 sm_J9_max_7cf53 rfl ⟨Nat.le_of_ble_eq_true rfl, Nat.le_of_ble_eq_true rfl⟩ (Nat.le_of_ble_eq_true rfl) (fun r_3 M_4 => ?_)
    refine mm_istore_n [1, 2, 0, 3] (lv2 := [(0, .ref 150), (1, .int v1), (2, .int r_3), (3, .int v3)]) dJ1_indexOf_4cfef_14 (by decide) rfl ?_
    refine mm_iload_n 3 dJ1_indexOf_4cfef_15 rfl ?_
    refine mm_aload_n 0 dJ1_indexOf_4cfef_16 rfl ?_
    refine mm_alenS (j := 4) (v := 2) dJ1_indexOf_4cfef_17 (by decide) rfl rfl ?_
    refine mm_callSi (as := [.int v3, .int 2]) (st := []) (c_Math_min E v3 2 M_4) dJ1_indexOf_4cfef_18 mz_J9_min_7cf53 lk_RJ1_38 sm_J9_min_7cf53 rfl ⟨Nat.le_of_ble_eq_true rfl, Nat.le_of_ble_eq_true rfl⟩ (Nat.le_of_ble_eq_true rfl) (fun r_5 M_6 => ?_)
    refine mm_istore_n [1, 2, 3, 0] (lv2 := [(0, .ref 150), (1, .int v1), (2, .int r_3), (3, .int r_5)]) dJ1_indexOf_4cfef_21 (by decide) rfl ?_
    refine mm_iload_n 2 dJ1_indexOf_4cfef_22 rfl ?_
    refine mm_iload_n 3 dJ1_indexOf_4cfef_23 rfl ?_
    refine mm_icmp_lt 29 dJ1_indexOf_4cfef_24 rfl ?_ ?_
    · refine mm_aload_n 0 dJ1_indexOf_4cfef_29 rfl ?_
      refine mm_iload_n 1 dJ1_indexOf_4cfef_30 rfl ?_
      refine mm_iload_n 2 dJ1_indexOf_4cfef_31 rfl ?_
      refine mm_iload_n 3 dJ1_indexOf_4cfef_32 rfl ?_
      refine mm_callSi (as := [.ref 150, .int v1, .int r_3, .int r_5]) (st := []) (c_StringLatin1_indexOfChar_150 E v1 r_3 r_5 M_6) dJ1_indexOf_4cfef_33 mz_J1_indexOfChar_4cfef lk_RJ1_95 sm_J1_indexOfChar_4cfef rfl ⟨Nat.le_of_ble_eq_true rfl, Nat.le_of_ble_eq_true rfl⟩ (Nat.le_of_ble_eq_true rfl) (fun r_7 M_8 => ?_)
      exact mm_iret dJ1_indexOf_4cfef_36 rfl
    · refine mm_iconst (v := (-1)) dJ1_indexOf_4cfef_27 rfl ?_
      exact mm_iret dJ1_indexOf_4cfef_28 rfl
  · refine mm_iconst (v := (-1)) dJ1_indexOf_4cfef_7 rfl ?_
    exact mm_iret dJ1_indexOf_4cfef_8 rfl
def f_String_indexOf_2_144 (v1 : Int32) (v2 : Int32) (M : mm_M) : Option (Int32 × mm_M) := mm_bd (f_String_isLatin1_144 M) fun b_1 M_2 => if b_1 = true then mm_bd (f_String_length_144 M_2) fun r_3 M_4 => mm_bd (f_StringLatin1_indexOf_150 v1 v2 r_3 M_4) fun r_5 M_6 => some (r_5, M_6) else none
set_option maxHeartbeats 4000000 in
theorem c_String_indexOf_2_144 (E : mm_E) (v1 : Int32) (v2 : Int32) (M : mm_M) : ∀ (r : Int32) (M2 : mm_M), f_String_indexOf_2_144 v1 v2 M = some (r, M2) → mm_P E Y_J0_indexOf_7cf53 3 [.ref 144, .int v1, .int v2] M (some (.int r)) M2 := by
  refine mm_entry (em := (fun x : Int32 => some (.int x))) (by decide +kernel) (Nat.le_of_ble_eq_true rfl) ?_
  show mm_G _ E _ _ 0 [(0, .ref 144), (1, .int v1), (2, .int v2)] [] M _
  unfold f_String_indexOf_2_144
  refine mm_aload_n 0 dJ0_indexOf_7cf53_0 rfl ?_
  refine mm_callTz (as := []) (st := []) (c_String_isLatin1_144 E M) dJ0_indexOf_7cf53_1 mz_J0_isLatin1_aae02 lk_RJ0_492 im_J0_isLatin1_aae02 se_J0_isLatin1_aae02 sl_144 rfl rfl ⟨Nat.le_of_ble_eq_true rfl, Nat.le_of_ble_eq_true rfl⟩ (Nat.le_of_ble_eq_true rfl) (fun b_1 M_2 => ?_)
  refine mm_if_eq_b 23 dJ0_indexOf_7cf53_4 rfl ?_ ?_
  · exact mm_none
  · refine mm_aload_n 0 dJ0_indexOf_7cf53_7 rfl ?_
    refine mm_getSv (j := 4) dJ0_indexOf_7cf53_8 wf_RJ0_9 (by decide) rfl rfl ?_
    refine mm_iload_n 1 dJ0_indexOf_7cf53_11 rfl ?_
    refine mm_iload_n 2 dJ0_indexOf_7cf53_12 rfl ?_
    refine mm_aload_n 0 dJ0_indexOf_7cf53_13 rfl ?_
    refine mm_callTi (as := []) (st := [.int v2, .int v1, .ref 150]) (c_String_length_144 E M_2) dJ0_indexOf_7cf53_14 mz_J0_length_8abf5 lk_RJ0_505 im_J0_length_8abf5 se_J0_length_8abf5 sl_144 rfl rfl ⟨Nat.le_of_ble_eq_true rfl, Nat.le_of_ble_eq_true rfl⟩ (Nat.le_of_ble_eq_true rfl) (fun r_3 M_4 => ?_)
    refine mm_callSi (as := [.ref 150, .int v1, .int v2, .int r_3]) (st := []) (c_StringLatin1_indexOf_150 E v1 v2 r_3 M_4) dJ0_indexOf_7cf53_17 mz_J1_indexOf_4cfef lk_RJ0_637 sm_J1_indexOf_4cfef rfl ⟨Nat.le_of_ble_eq_true rfl, Nat.le_of_ble_eq_true rfl⟩ (Nat.le_of_ble_eq_true rfl) (fun r_5 M_6 => ?_)
    refine mm_goto 36 dJ0_indexOf_7cf53_20 rfl ?_
    exact mm_iret dJ0_indexOf_7cf53_36 rfl
def f_String_indexOf_1_144 (v1 : Int32) (M : mm_M) : Option (Int32 × mm_M) := mm_bd (f_String_indexOf_2_144 v1 0 M) fun r_1 M_2 => some (r_1, M_2)
set_option maxHeartbeats 4000000 in
theorem c_String_indexOf_1_144 (E : mm_E) (v1 : Int32) (M : mm_M) : ∀ (r : Int32) (M2 : mm_M), f_String_indexOf_1_144 v1 M = some (r, M2) → mm_P E Y_J0_indexOf_0f7a4 4 [.ref 144, .int v1] M (some (.int r)) M2 := by
  refine mm_entry (em := (fun x : Int32 => some (.int x))) (by decide +kernel) (Nat.le_of_ble_eq_true rfl) ?_
  show mm_G _ E _ _ 0 [(0, .ref 144), (1, .int v1)] [] M _
  unfold f_String_indexOf_1_144
  refine mm_aload_n 0 dJ0_indexOf_0f7a4_0 rfl ?_
  refine mm_iload_n 1 dJ0_indexOf_0f7a4_1 rfl ?_
  refine mm_iconst (v := 0) dJ0_indexOf_0f7a4_2 rfl ?_
  refine mm_callTi (as := [.int v1, .int 0]) (st := []) (c_String_indexOf_2_144 E v1 0 M) dJ0_indexOf_0f7a4_3 mz_J0_indexOf_7cf53 lk_RJ0_633 im_J0_indexOf_7cf53 se_J0_indexOf_7cf53 sl_144 rfl rfl ⟨Nat.le_of_ble_eq_true rfl, Nat.le_of_ble_eq_true rfl⟩ (Nat.le_of_ble_eq_true rfl) (fun r_1 M_2 => ?_)
  exact mm_iret dJ0_indexOf_0f7a4_6 rfl
def f_TextReader_among_144 (M : mm_M) : Option (Int32 × mm_M) := mm_bd (f_TextReader_atEnd M) fun b_1 M_2 => if b_1 = true then some ((-1), M_2) else mm_bd (f_String_indexOf_1_144 (((M_2.1 3 3).toUInt32 % 65536).toInt32) M_2) fun r_3 M_4 => some (r_3, M_4)
set_option maxHeartbeats 4000000 in
theorem c_TextReader_among_144 (E : mm_E) (M : mm_M) : ∀ (r : Int32) (M2 : mm_M), f_TextReader_among_144 M = some (r, M2) → mm_P E Y_X10_among 5 [.ref 3, .ref 144] M (some (.int r)) M2 := by
  refine mm_entry (em := (fun x : Int32 => some (.int x))) (by decide +kernel) (Nat.le_of_ble_eq_true rfl) ?_
  show mm_G _ E _ _ 0 [(0, .ref 3), (1, .ref 144)] [] M _
  unfold f_TextReader_among_144
  refine mm_aload_n 0 dX10_among_0 rfl ?_
  refine mm_callVz (as := []) (st := []) (c_TextReader_atEnd E M) dX10_among_1 mz_X10_atEnd lk_RX10_48 im_X10_atEnd se_X10_atEnd lo_3 rfl rfl rfl ⟨Nat.le_of_ble_eq_true rfl, Nat.le_of_ble_eq_true rfl⟩ (Nat.le_of_ble_eq_true rfl) (fun b_1 M_2 => ?_)
  refine mm_if_eq_b 11 dX10_among_4 rfl ?_ ?_
  · refine mm_aload_n 1 dX10_among_11 rfl ?_
    refine mm_aload_n 0 dX10_among_12 rfl ?_
    refine mm_getI dX10_among_13 fl_RX10_41 lo_3 rfl ?_
    refine mm_i2c dX10_among_16 ?_
    refine mm_callTi (as := [.int (((M_2.1 3 3).toUInt32 % 65536).toInt32)]) (st := []) (c_String_indexOf_1_144 E (((M_2.1 3 3).toUInt32 % 65536).toInt32) M_2) dX10_among_17 mz_J0_indexOf_0f7a4 lk_RX10_52 im_J0_indexOf_0f7a4 se_J0_indexOf_0f7a4 sl_144 rfl rfl ⟨Nat.le_of_ble_eq_true rfl, Nat.le_of_ble_eq_true rfl⟩ (Nat.le_of_ble_eq_true rfl) (fun r_3 M_4 => ?_)
    exact mm_iret dX10_among_20 rfl
  · refine mm_iconst (v := (-1)) dX10_among_7 rfl ?_
    refine mm_goto 20 dX10_among_8 rfl ?_
    exact mm_iret dX10_among_20 rfl
def lp_LawReader_readSum_12 (F : Nat → Int32 → mm_M → Option (Bool × mm_M)) (v1 : Int32) (k55 : mm_M → Option (Bool × mm_M)) (k72 : mm_M → Option (Bool × mm_M)) : Nat → Int32 → mm_M → Option (Bool × mm_M)
  | 0, _, _ => none
  | n + 1, v2, M => if 160 ≤ v2 then k72 M else mm_bd (f_TextReader_among_144 M) fun r_3 M_4 => if r_3 = (-1) then k72 M_4 else mm_let (M_4.1 3 3) fun v3_5 => mm_bd (f_TextReader_step M_4) fun u_6 M_7 => mm_bd (F 1 v1 M_7) fun b_8 M_9 => if b_8 = true then mm_bd (f_Law_addStep_46 v3_5 0 M_9) fun u_10 M_11 => mm_let (v2 + 1) fun v2_12 => lp_LawReader_readSum_12 F v1 k55 k72 n v2_12 M_11 else k55 M_9
set_option maxHeartbeats 4000000 in
theorem lp_LawReader_readSum_12_ok (E : mm_E) {nd : Nat} {F : Nat → Int32 → mm_M → Option (Bool × mm_M)} (hF : 5 ≤ nd ∧ (∀ (v1 : Int32) (M : mm_M) (r : Bool) (M2 : mm_M), F 0 v1 M = some (r, M2) → mm_P E Y_X4_readSum nd [.ref 55, .int v1] M (some (.int (mm_b r))) M2) ∧ (∀ (v1 : Int32) (M : mm_M) (r : Bool) (M2 : mm_M), F 1 v1 M = some (r, M2) → mm_P E Y_X4_readTerm nd [.ref 55, .int v1] M (some (.int (mm_b r))) M2) ∧ (∀ (v1 : Int32) (M : mm_M) (r : Bool) (M2 : mm_M), F 2 v1 M = some (r, M2) → mm_P E Y_X4_readFactor nd [.ref 55, .int v1] M (some (.int (mm_b r))) M2)) (v1 : Int32) {k55 : mm_M → Option (Bool × mm_M)} {k72 : mm_M → Option (Bool × mm_M)} (hk55 : ∀ (M : mm_M), mm_G (fun x : Bool => some (.int (mm_b x))) E Y_X4_readSum (nd + 1) 55 [] [] M (k55 M)) (hk72 : ∀ (M : mm_M), mm_G (fun x : Bool => some (.int (mm_b x))) E Y_X4_readSum (nd + 1) 72 [] [] M (k72 M)) : ∀ (n : Nat) (v2 : Int32) (M : mm_M), mm_G (fun x : Bool => some (.int (mm_b x))) E Y_X4_readSum (nd + 1) 12 [(0, .ref 55), (1, .int v1), (2, .int v2)] [] M (lp_LawReader_readSum_12 F v1 k55 k72 n v2 M) := by
  have hB := hF.1
  intro n
  induction n with
  | zero => intro v2 M r M2 he; cases he
  | succ n ih =>
    intro v2 M
    rw [lp_LawReader_readSum_12]
    refine mm_iload_n 2 dX4_readSum_12 rfl ?_
    refine mm_sipush (v := 160) dX4_readSum_13 rfl ?_
    refine mm_icmp_ge 72 dX4_readSum_16 rfl ?_ ?_
    · refine mm_wk [] rfl ?_
      exact hk72  M
    · refine mm_aload_n 0 dX4_readSum_19 rfl ?_
      refine mm_getR 3 dX4_readSum_20 fl_RX4_9 lo_55 rfl ?_
      refine mm_ldcT (t := 144) dX4_readSum_23 ss_4 rfl ?_
      refine mm_callVi (as := [.ref 144]) (st := []) (c_TextReader_among_144 E M) dX4_readSum_25 mz_X10_among lk_RX4_51 im_X10_among se_X10_among lo_3 rfl rfl rfl ⟨by omega, by show 8 + (2 + 11) + _ ≤ _; omega⟩ (Nat.le_of_ble_eq_true rfl) (fun r_3 M_4 => ?_)
      refine mm_iconst (v := (-1)) dX4_readSum_28 rfl ?_
      refine mm_icmp_eq 72 dX4_readSum_29 rfl ?_ ?_
      · refine mm_wk [] rfl ?_
        exact hk72  M_4
      · refine mm_aload_n 0 dX4_readSum_32 rfl ?_
        refine mm_getR 3 dX4_readSum_33 fl_RX4_9 lo_55 rfl ?_
        refine mm_getI dX4_readSum_36 fl_RX4_46 lo_3 rfl ?_
        refine mm_nm_int (fun v3_5 => ?_)
        refine mm_istore_n [1, 2, 3, 0] (lv2 := [(0, .ref 55), (1, .int v1), (2, .int v2), (3, .int v3_5)]) dX4_readSum_39 (by decide) rfl ?_
        refine mm_aload_n 0 dX4_readSum_40 rfl ?_
        refine mm_getR 3 dX4_readSum_41 fl_RX4_9 lo_55 rfl ?_
        refine mm_callVv (as := []) (st := []) (c_TextReader_step E M_4) dX4_readSum_44 mz_X10_step lk_RX4_58 im_X10_step se_X10_step lo_3 rfl rfl rfl ⟨by omega, by show 8 + (1 + 11) + _ ≤ _; omega⟩ (Nat.le_of_ble_eq_true rfl) (fun u_6 M_7 => ?_)
        refine mm_aload_n 0 dX4_readSum_47 rfl ?_
        refine mm_iload_n 1 dX4_readSum_48 rfl ?_
        refine mm_callVz (as := [.int v1]) (st := []) (hF.2.2.1 v1 M_7) dX4_readSum_49 mz_X4_readTerm lk_RX4_99 im_X4_readTerm se_X4_readTerm lo_55 rfl rfl rfl ⟨by omega, by show 8 + (4 + 11) + _ ≤ _; omega⟩ (Nat.le_of_ble_eq_true rfl) (fun b_8 M_9 => ?_)
        refine mm_if_ne_b 57 dX4_readSum_52 rfl ?_ ?_
        · refine mm_aload_n 0 dX4_readSum_57 rfl ?_
          refine mm_getR 46 dX4_readSum_58 fl_RX4_15 lo_55 rfl ?_
          refine mm_iload_n 3 dX4_readSum_61 rfl ?_
          refine mm_iconst (v := 0) dX4_readSum_62 rfl ?_
          refine mm_callVv (as := [.int v3_5, .int 0]) (st := []) (c_Law_addStep_46 E v3_5 0 M_9) dX4_readSum_63 mz_X3_addStep lk_RX4_90 im_X3_addStep se_X3_addStep lo_46 rfl rfl rfl ⟨by omega, by show 8 + (3 + 11) + _ ≤ _; omega⟩ (Nat.le_of_ble_eq_true rfl) (fun u_10 M_11 => ?_)
          refine mm_iincN 2 [1, 2, 0, 3] (v := v2 + 1) (lv2 := fun v2_12 => [(0, .ref 55), (1, .int v1), (2, .int v2_12), (3, .int v3_5)]) dX4_readSum_66 rfl rfl (by decide) (fun _ => rfl) (fun v2_12 => ?_)
          refine mm_goto 12 dX4_readSum_69 rfl ?_
          refine mm_wk [0, 1, 2] rfl ?_
          exact ih v2_12 M_11
        · refine mm_wk [] rfl ?_
          exact hk55  M_9
def fb_LawReader_readSum (F : Nat → Int32 → mm_M → Option (Bool × mm_M)) (v1 : Int32) (M : mm_M) : Option (Bool × mm_M) := mm_bd (F 1 v1 M) fun b_1 M_2 => if b_1 = true then lp_LawReader_readSum_12 F v1 (fun (M_13 : mm_M) => some (false, M_13)) (fun (M_14 : mm_M) => some (true, M_14)) mm_fu 0 M_2 else some (false, M_2)
set_option maxHeartbeats 4000000 in
theorem cb_LawReader_readSum (E : mm_E) {nd : Nat} {F : Nat → Int32 → mm_M → Option (Bool × mm_M)} (hF : 5 ≤ nd ∧ (∀ (v1 : Int32) (M : mm_M) (r : Bool) (M2 : mm_M), F 0 v1 M = some (r, M2) → mm_P E Y_X4_readSum nd [.ref 55, .int v1] M (some (.int (mm_b r))) M2) ∧ (∀ (v1 : Int32) (M : mm_M) (r : Bool) (M2 : mm_M), F 1 v1 M = some (r, M2) → mm_P E Y_X4_readTerm nd [.ref 55, .int v1] M (some (.int (mm_b r))) M2) ∧ (∀ (v1 : Int32) (M : mm_M) (r : Bool) (M2 : mm_M), F 2 v1 M = some (r, M2) → mm_P E Y_X4_readFactor nd [.ref 55, .int v1] M (some (.int (mm_b r))) M2)) (v1 : Int32) (M : mm_M) : ∀ (r : Bool) (M2 : mm_M), fb_LawReader_readSum F v1 M = some (r, M2) → mm_P E Y_X4_readSum (nd + 1) [.ref 55, .int v1] M (some (.int (mm_b r))) M2 := by
  have hB := hF.1
  refine mm_entry (em := (fun x : Bool => some (.int (mm_b x)))) (by decide +kernel) (Nat.le_of_ble_eq_true rfl) ?_
  show mm_G _ E _ _ 0 [(0, .ref 55), (1, .int v1)] [] M _
  unfold fb_LawReader_readSum
  refine mm_aload_n 0 dX4_readSum_0 rfl ?_
  refine mm_iload_n 1 dX4_readSum_1 rfl ?_
  refine mm_callVz (as := [.int v1]) (st := []) (hF.2.2.1 v1 M) dX4_readSum_2 mz_X4_readTerm lk_RX4_99 im_X4_readTerm se_X4_readTerm lo_55 rfl rfl rfl ⟨by omega, by show 8 + (4 + 11) + _ ≤ _; omega⟩ (Nat.le_of_ble_eq_true rfl) (fun b_1 M_2 => ?_)
  refine mm_if_ne_b 10 dX4_readSum_5 rfl ?_ ?_
  · refine mm_iconst (v := 0) dX4_readSum_10 rfl ?_
    refine mm_istore_n [1, 2, 0] (lv2 := [(0, .ref 55), (1, .int v1), (2, .int 0)]) dX4_readSum_11 (by decide) rfl ?_
    refine lp_LawReader_readSum_12_ok E hF v1 ?_ ?_ mm_fu 0 M_2
    · intro M_13
      refine mm_iconst (v := 0) dX4_readSum_55 rfl ?_
      exact mm_zret (b := false) dX4_readSum_56 rfl
    · intro M_14
      refine mm_iconst (v := 1) dX4_readSum_72 rfl ?_
      exact mm_zret (b := true) dX4_readSum_73 rfl
  · refine mm_iconst (v := 0) dX4_readSum_8 rfl ?_
    exact mm_zret (b := false) dX4_readSum_9 rfl
def lp_LawReader_readTerm_12 (F : Nat → Int32 → mm_M → Option (Bool × mm_M)) (v1 : Int32) (k55 : mm_M → Option (Bool × mm_M)) (k72 : mm_M → Option (Bool × mm_M)) : Nat → Int32 → mm_M → Option (Bool × mm_M)
  | 0, _, _ => none
  | n + 1, v2, M => if 160 ≤ v2 then k72 M else mm_bd (f_TextReader_among_143 M) fun r_3 M_4 => if r_3 = (-1) then k72 M_4 else mm_let (M_4.1 3 3) fun v3_5 => mm_bd (f_TextReader_step M_4) fun u_6 M_7 => mm_bd (F 2 v1 M_7) fun b_8 M_9 => if b_8 = true then mm_bd (f_Law_addStep_46 v3_5 0 M_9) fun u_10 M_11 => mm_let (v2 + 1) fun v2_12 => lp_LawReader_readTerm_12 F v1 k55 k72 n v2_12 M_11 else k55 M_9
set_option maxHeartbeats 4000000 in
theorem lp_LawReader_readTerm_12_ok (E : mm_E) {nd : Nat} {F : Nat → Int32 → mm_M → Option (Bool × mm_M)} (hF : 5 ≤ nd ∧ (∀ (v1 : Int32) (M : mm_M) (r : Bool) (M2 : mm_M), F 0 v1 M = some (r, M2) → mm_P E Y_X4_readSum nd [.ref 55, .int v1] M (some (.int (mm_b r))) M2) ∧ (∀ (v1 : Int32) (M : mm_M) (r : Bool) (M2 : mm_M), F 1 v1 M = some (r, M2) → mm_P E Y_X4_readTerm nd [.ref 55, .int v1] M (some (.int (mm_b r))) M2) ∧ (∀ (v1 : Int32) (M : mm_M) (r : Bool) (M2 : mm_M), F 2 v1 M = some (r, M2) → mm_P E Y_X4_readFactor nd [.ref 55, .int v1] M (some (.int (mm_b r))) M2)) (v1 : Int32) {k55 : mm_M → Option (Bool × mm_M)} {k72 : mm_M → Option (Bool × mm_M)} (hk55 : ∀ (M : mm_M), mm_G (fun x : Bool => some (.int (mm_b x))) E Y_X4_readTerm (nd + 1) 55 [] [] M (k55 M)) (hk72 : ∀ (M : mm_M), mm_G (fun x : Bool => some (.int (mm_b x))) E Y_X4_readTerm (nd + 1) 72 [] [] M (k72 M)) : ∀ (n : Nat) (v2 : Int32) (M : mm_M), mm_G (fun x : Bool => some (.int (mm_b x))) E Y_X4_readTerm (nd + 1) 12 [(0, .ref 55), (1, .int v1), (2, .int v2)] [] M (lp_LawReader_readTerm_12 F v1 k55 k72 n v2 M) := by
  have hB := hF.1
  intro n
  induction n with
  | zero => intro v2 M r M2 he; cases he
  | succ n ih =>
    intro v2 M
    rw [lp_LawReader_readTerm_12]
    refine mm_iload_n 2 dX4_readTerm_12 rfl ?_
    refine mm_sipush (v := 160) dX4_readTerm_13 rfl ?_
    refine mm_icmp_ge 72 dX4_readTerm_16 rfl ?_ ?_
    · refine mm_wk [] rfl ?_
      exact hk72  M
    · refine mm_aload_n 0 dX4_readTerm_19 rfl ?_
      refine mm_getR 3 dX4_readTerm_20 fl_RX4_9 lo_55 rfl ?_
      refine mm_ldcT (t := 143) dX4_readTerm_23 ss_3 rfl ?_
      refine mm_callVi (as := [.ref 143]) (st := []) (c_TextReader_among_143 E M) dX4_readTerm_25 mz_X10_among lk_RX4_51 im_X10_among se_X10_among lo_3 rfl rfl rfl ⟨by omega, by show 8 + (2 + 11) + _ ≤ _; omega⟩ (Nat.le_of_ble_eq_true rfl) (fun r_3 M_4 => ?_)
      refine mm_iconst (v := (-1)) dX4_readTerm_28 rfl ?_
      refine mm_icmp_eq 72 dX4_readTerm_29 rfl ?_ ?_
      · refine mm_wk [] rfl ?_
        exact hk72  M_4
      · refine mm_aload_n 0 dX4_readTerm_32 rfl ?_
        refine mm_getR 3 dX4_readTerm_33 fl_RX4_9 lo_55 rfl ?_
        refine mm_getI dX4_readTerm_36 fl_RX4_46 lo_3 rfl ?_
        refine mm_nm_int (fun v3_5 => ?_)
        refine mm_istore_n [1, 2, 3, 0] (lv2 := [(0, .ref 55), (1, .int v1), (2, .int v2), (3, .int v3_5)]) dX4_readTerm_39 (by decide) rfl ?_
        refine mm_aload_n 0 dX4_readTerm_40 rfl ?_
        refine mm_getR 3 dX4_readTerm_41 fl_RX4_9 lo_55 rfl ?_
        refine mm_callVv (as := []) (st := []) (c_TextReader_step E M_4) dX4_readTerm_44 mz_X10_step lk_RX4_58 im_X10_step se_X10_step lo_3 rfl rfl rfl ⟨by omega, by show 8 + (1 + 11) + _ ≤ _; omega⟩ (Nat.le_of_ble_eq_true rfl) (fun u_6 M_7 => ?_)
        refine mm_aload_n 0 dX4_readTerm_47 rfl ?_
        refine mm_iload_n 1 dX4_readTerm_48 rfl ?_
        refine mm_callVz (as := [.int v1]) (st := []) (hF.2.2.2 v1 M_7) dX4_readTerm_49 mz_X4_readFactor lk_RX4_104 im_X4_readFactor se_X4_readFactor lo_55 rfl rfl rfl ⟨by omega, by show 8 + (4 + 11) + _ ≤ _; omega⟩ (Nat.le_of_ble_eq_true rfl) (fun b_8 M_9 => ?_)
        refine mm_if_ne_b 57 dX4_readTerm_52 rfl ?_ ?_
        · refine mm_aload_n 0 dX4_readTerm_57 rfl ?_
          refine mm_getR 46 dX4_readTerm_58 fl_RX4_15 lo_55 rfl ?_
          refine mm_iload_n 3 dX4_readTerm_61 rfl ?_
          refine mm_iconst (v := 0) dX4_readTerm_62 rfl ?_
          refine mm_callVv (as := [.int v3_5, .int 0]) (st := []) (c_Law_addStep_46 E v3_5 0 M_9) dX4_readTerm_63 mz_X3_addStep lk_RX4_90 im_X3_addStep se_X3_addStep lo_46 rfl rfl rfl ⟨by omega, by show 8 + (3 + 11) + _ ≤ _; omega⟩ (Nat.le_of_ble_eq_true rfl) (fun u_10 M_11 => ?_)
          refine mm_iincN 2 [1, 2, 0, 3] (v := v2 + 1) (lv2 := fun v2_12 => [(0, .ref 55), (1, .int v1), (2, .int v2_12), (3, .int v3_5)]) dX4_readTerm_66 rfl rfl (by decide) (fun _ => rfl) (fun v2_12 => ?_)
          refine mm_goto 12 dX4_readTerm_69 rfl ?_
          refine mm_wk [0, 1, 2] rfl ?_
          exact ih v2_12 M_11
        · refine mm_wk [] rfl ?_
          exact hk55  M_9
def fb_LawReader_readTerm (F : Nat → Int32 → mm_M → Option (Bool × mm_M)) (v1 : Int32) (M : mm_M) : Option (Bool × mm_M) := mm_bd (F 2 v1 M) fun b_1 M_2 => if b_1 = true then lp_LawReader_readTerm_12 F v1 (fun (M_13 : mm_M) => some (false, M_13)) (fun (M_14 : mm_M) => some (true, M_14)) mm_fu 0 M_2 else some (false, M_2)
set_option maxHeartbeats 4000000 in
theorem cb_LawReader_readTerm (E : mm_E) {nd : Nat} {F : Nat → Int32 → mm_M → Option (Bool × mm_M)} (hF : 5 ≤ nd ∧ (∀ (v1 : Int32) (M : mm_M) (r : Bool) (M2 : mm_M), F 0 v1 M = some (r, M2) → mm_P E Y_X4_readSum nd [.ref 55, .int v1] M (some (.int (mm_b r))) M2) ∧ (∀ (v1 : Int32) (M : mm_M) (r : Bool) (M2 : mm_M), F 1 v1 M = some (r, M2) → mm_P E Y_X4_readTerm nd [.ref 55, .int v1] M (some (.int (mm_b r))) M2) ∧ (∀ (v1 : Int32) (M : mm_M) (r : Bool) (M2 : mm_M), F 2 v1 M = some (r, M2) → mm_P E Y_X4_readFactor nd [.ref 55, .int v1] M (some (.int (mm_b r))) M2)) (v1 : Int32) (M : mm_M) : ∀ (r : Bool) (M2 : mm_M), fb_LawReader_readTerm F v1 M = some (r, M2) → mm_P E Y_X4_readTerm (nd + 1) [.ref 55, .int v1] M (some (.int (mm_b r))) M2 := by
  have hB := hF.1
  refine mm_entry (em := (fun x : Bool => some (.int (mm_b x)))) (by decide +kernel) (Nat.le_of_ble_eq_true rfl) ?_
  show mm_G _ E _ _ 0 [(0, .ref 55), (1, .int v1)] [] M _
  unfold fb_LawReader_readTerm
  refine mm_aload_n 0 dX4_readTerm_0 rfl ?_
  refine mm_iload_n 1 dX4_readTerm_1 rfl ?_
  refine mm_callVz (as := [.int v1]) (st := []) (hF.2.2.2 v1 M) dX4_readTerm_2 mz_X4_readFactor lk_RX4_104 im_X4_readFactor se_X4_readFactor lo_55 rfl rfl rfl ⟨by omega, by show 8 + (4 + 11) + _ ≤ _; omega⟩ (Nat.le_of_ble_eq_true rfl) (fun b_1 M_2 => ?_)
  refine mm_if_ne_b 10 dX4_readTerm_5 rfl ?_ ?_
  · refine mm_iconst (v := 0) dX4_readTerm_10 rfl ?_
    refine mm_istore_n [1, 2, 0] (lv2 := [(0, .ref 55), (1, .int v1), (2, .int 0)]) dX4_readTerm_11 (by decide) rfl ?_
    refine lp_LawReader_readTerm_12_ok E hF v1 ?_ ?_ mm_fu 0 M_2
    · intro M_13
      refine mm_iconst (v := 0) dX4_readTerm_55 rfl ?_
      exact mm_zret (b := false) dX4_readTerm_56 rfl
    · intro M_14
      refine mm_iconst (v := 1) dX4_readTerm_72 rfl ?_
      exact mm_zret (b := true) dX4_readTerm_73 rfl
  · refine mm_iconst (v := 0) dX4_readTerm_8 rfl ?_
    exact mm_zret (b := false) dX4_readTerm_9 rfl
def fb_LawReader_readFactor (F : Nat → Int32 → mm_M → Option (Bool × mm_M)) (v1 : Int32) (M : mm_M) : Option (Bool × mm_M) := if M.1 3 3 = 91 then mm_bd (f_LawReader_mayOpen v1 M) fun b_15 M_16 => if b_15 = true then mm_bd (F 0 (v1 + 1) M_16) fun b_17 M_18 => if b_17 = true then mm_bd (f_TextReader_take 93 M_18) fun b_19 M_20 => if b_19 = true then some (true, M_20) else some (false, M_20) else some (false, M_18) else some (false, M_16) else mm_bd (f_TextReader_among_142 M) fun r_1 M_2 => if r_1 = (-1) then mm_bd (f_TextReader_number 5 M_2) fun r_3 M_4 => if r_3 = (-1) then some (false, M_4) else mm_bd (f_TextReader_atDigit M_4) fun b_5 M_6 => if b_5 = true then mm_bd (f_TextReader_failHere 2 M_6) fun b_9 M_10 => some (b_9, M_10) else mm_bd (f_Law_addStep_46 78 r_3 M_6) fun u_7 M_8 => some (true, M_8) else mm_bd (f_TextReader_step M_2) fun u_11 M_12 => mm_bd (f_Law_addStep_46 76 r_1 M_12) fun u_13 M_14 => some (true, M_14)
set_option maxHeartbeats 4000000 in
theorem cb_LawReader_readFactor (E : mm_E) {nd : Nat} {F : Nat → Int32 → mm_M → Option (Bool × mm_M)} (hF : 5 ≤ nd ∧ (∀ (v1 : Int32) (M : mm_M) (r : Bool) (M2 : mm_M), F 0 v1 M = some (r, M2) → mm_P E Y_X4_readSum nd [.ref 55, .int v1] M (some (.int (mm_b r))) M2) ∧ (∀ (v1 : Int32) (M : mm_M) (r : Bool) (M2 : mm_M), F 1 v1 M = some (r, M2) → mm_P E Y_X4_readTerm nd [.ref 55, .int v1] M (some (.int (mm_b r))) M2) ∧ (∀ (v1 : Int32) (M : mm_M) (r : Bool) (M2 : mm_M), F 2 v1 M = some (r, M2) → mm_P E Y_X4_readFactor nd [.ref 55, .int v1] M (some (.int (mm_b r))) M2)) (v1 : Int32) (M : mm_M) : ∀ (r : Bool) (M2 : mm_M), fb_LawReader_readFactor F v1 M = some (r, M2) → mm_P E Y_X4_readFactor (nd + 1) [.ref 55, .int v1] M (some (.int (mm_b r))) M2 := by
  have hB := hF.1
  refine mm_entry (em := (fun x : Bool => some (.int (mm_b x)))) (by decide +kernel) (Nat.le_of_ble_eq_true rfl) ?_
  show mm_G _ E _ _ 0 [(0, .ref 55), (1, .int v1)] [] M _
  unfold fb_LawReader_readFactor
  refine mm_aload_n 0 dX4_readFactor_0 rfl ?_
  refine mm_getR 3 dX4_readFactor_1 fl_RX4_9 lo_55 rfl ?_
  refine mm_getI dX4_readFactor_4 fl_RX4_46 lo_3 rfl ?_
  refine mm_bipush (v := 91) dX4_readFactor_7 rfl ?_
  refine mm_icmp_ne 48 dX4_readFactor_9 rfl ?_ ?_
  · refine mm_aload_n 0 dX4_readFactor_48 rfl ?_
    refine mm_getR 3 dX4_readFactor_49 fl_RX4_9 lo_55 rfl ?_
    refine mm_ldcT (t := 142) dX4_readFactor_52 ss_2 rfl ?_
    refine mm_callVi (as := [.ref 142]) (st := []) (c_TextReader_among_142 E M) dX4_readFactor_54 mz_X10_among lk_RX4_51 im_X10_among se_X10_among lo_3 rfl rfl rfl ⟨by omega, by show 8 + (2 + 11) + _ ≤ _; omega⟩ (Nat.le_of_ble_eq_true rfl) (fun r_1 M_2 => ?_)
    refine mm_istore_n [1, 2, 0] (lv2 := [(0, .ref 55), (1, .int v1), (2, .int r_1)]) dX4_readFactor_57 (by decide) rfl ?_
    refine mm_iload_n 2 dX4_readFactor_58 rfl ?_
    refine mm_iconst (v := (-1)) dX4_readFactor_59 rfl ?_
    refine mm_icmp_eq 82 dX4_readFactor_60 rfl ?_ ?_
    · refine mm_aload_n 0 dX4_readFactor_82 rfl ?_
      refine mm_getR 3 dX4_readFactor_83 fl_RX4_9 lo_55 rfl ?_
      refine mm_iconst (v := 5) dX4_readFactor_86 rfl ?_
      refine mm_callVi (as := [.int 5]) (st := []) (c_TextReader_number E 5 M_2) dX4_readFactor_87 mz_X10_number lk_RX4_111 im_X10_number se_X10_number lo_3 rfl rfl rfl ⟨by omega, by show 8 + (4 + 11) + _ ≤ _; omega⟩ (Nat.le_of_ble_eq_true rfl) (fun r_3 M_4 => ?_)
      refine mm_istore_n [1, 2, 3, 0] (lv2 := [(0, .ref 55), (1, .int v1), (2, .int r_1), (3, .int r_3)]) dX4_readFactor_90 (by decide) rfl ?_
      refine mm_iload_n 3 dX4_readFactor_91 rfl ?_
      refine mm_iconst (v := (-1)) dX4_readFactor_92 rfl ?_
      refine mm_icmp_ne 98 dX4_readFactor_93 rfl ?_ ?_
      · refine mm_aload_n 0 dX4_readFactor_98 rfl ?_
        refine mm_getR 3 dX4_readFactor_99 fl_RX4_9 lo_55 rfl ?_
        refine mm_callVz (as := []) (st := []) (c_TextReader_atDigit E M_4) dX4_readFactor_102 mz_X10_atDigit lk_RX4_115 im_X10_atDigit se_X10_atDigit lo_3 rfl rfl rfl ⟨by omega, by show 8 + (1 + 11) + _ ≤ _; omega⟩ (Nat.le_of_ble_eq_true rfl) (fun b_5 M_6 => ?_)
        refine mm_if_eq_b 117 dX4_readFactor_105 rfl ?_ ?_
        · refine mm_aload_n 0 dX4_readFactor_117 rfl ?_
          refine mm_getR 46 dX4_readFactor_118 fl_RX4_15 lo_55 rfl ?_
          refine mm_bipush (v := 78) dX4_readFactor_121 rfl ?_
          refine mm_iload_n 3 dX4_readFactor_123 rfl ?_
          refine mm_callVv (as := [.int 78, .int r_3]) (st := []) (c_Law_addStep_46 E 78 r_3 M_6) dX4_readFactor_124 mz_X3_addStep lk_RX4_90 im_X3_addStep se_X3_addStep lo_46 rfl rfl rfl ⟨by omega, by show 8 + (3 + 11) + _ ≤ _; omega⟩ (Nat.le_of_ble_eq_true rfl) (fun u_7 M_8 => ?_)
          refine mm_iconst (v := 1) dX4_readFactor_127 rfl ?_
          exact mm_zret (b := true) dX4_readFactor_128 rfl
        · refine mm_aload_n 0 dX4_readFactor_108 rfl ?_
          refine mm_getR 3 dX4_readFactor_109 fl_RX4_9 lo_55 rfl ?_
          refine mm_iconst (v := 2) dX4_readFactor_112 rfl ?_
          refine mm_callVz (as := [.int 2]) (st := []) (c_TextReader_failHere E 2 M_6) dX4_readFactor_113 mz_X10_failHere lk_RX4_55 im_X10_failHere se_X10_failHere lo_3 rfl rfl rfl ⟨by omega, by show 8 + (2 + 11) + _ ≤ _; omega⟩ (Nat.le_of_ble_eq_true rfl) (fun b_9 M_10 => ?_)
          exact mm_zret (b := b_9) dX4_readFactor_116 rfl
      · refine mm_iconst (v := 0) dX4_readFactor_96 rfl ?_
        exact mm_zret (b := false) dX4_readFactor_97 rfl
    · refine mm_aload_n 0 dX4_readFactor_63 rfl ?_
      refine mm_getR 3 dX4_readFactor_64 fl_RX4_9 lo_55 rfl ?_
      refine mm_callVv (as := []) (st := []) (c_TextReader_step E M_2) dX4_readFactor_67 mz_X10_step lk_RX4_58 im_X10_step se_X10_step lo_3 rfl rfl rfl ⟨by omega, by show 8 + (1 + 11) + _ ≤ _; omega⟩ (Nat.le_of_ble_eq_true rfl) (fun u_11 M_12 => ?_)
      refine mm_aload_n 0 dX4_readFactor_70 rfl ?_
      refine mm_getR 46 dX4_readFactor_71 fl_RX4_15 lo_55 rfl ?_
      refine mm_bipush (v := 76) dX4_readFactor_74 rfl ?_
      refine mm_iload_n 2 dX4_readFactor_76 rfl ?_
      refine mm_callVv (as := [.int 76, .int r_1]) (st := []) (c_Law_addStep_46 E 76 r_1 M_12) dX4_readFactor_77 mz_X3_addStep lk_RX4_90 im_X3_addStep se_X3_addStep lo_46 rfl rfl rfl ⟨by omega, by show 8 + (3 + 11) + _ ≤ _; omega⟩ (Nat.le_of_ble_eq_true rfl) (fun u_13 M_14 => ?_)
      refine mm_iconst (v := 1) dX4_readFactor_80 rfl ?_
      exact mm_zret (b := true) dX4_readFactor_81 rfl
  · refine mm_aload_n 0 dX4_readFactor_12 rfl ?_
    refine mm_iload_n 1 dX4_readFactor_13 rfl ?_
    refine mm_callVz (as := [.int v1]) (st := []) (c_LawReader_mayOpen E v1 M) dX4_readFactor_14 mz_X4_mayOpen lk_RX4_87 im_X4_mayOpen se_X4_mayOpen lo_55 rfl rfl rfl ⟨by omega, by show 8 + (2 + 11) + _ ≤ _; omega⟩ (Nat.le_of_ble_eq_true rfl) (fun b_15 M_16 => ?_)
    refine mm_if_eq_b 46 dX4_readFactor_17 rfl ?_ ?_
    · refine mm_iconst (v := 0) dX4_readFactor_46 rfl ?_
      exact mm_zret (b := false) dX4_readFactor_47 rfl
    · refine mm_aload_n 0 dX4_readFactor_20 rfl ?_
      refine mm_iload_n 1 dX4_readFactor_21 rfl ?_
      refine mm_iconst (v := 1) dX4_readFactor_22 rfl ?_
      refine mm_iadd dX4_readFactor_23 ?_
      refine mm_callVz (as := [.int (v1 + 1)]) (st := []) (hF.2.1 (v1 + 1) M_16) dX4_readFactor_24 mz_X4_readSum lk_RX4_64 im_X4_readSum se_X4_readSum lo_55 rfl rfl rfl ⟨by omega, by show 8 + (4 + 11) + _ ≤ _; omega⟩ (Nat.le_of_ble_eq_true rfl) (fun b_17 M_18 => ?_)
      refine mm_if_eq_b 46 dX4_readFactor_27 rfl ?_ ?_
      · refine mm_iconst (v := 0) dX4_readFactor_46 rfl ?_
        exact mm_zret (b := false) dX4_readFactor_47 rfl
      · refine mm_aload_n 0 dX4_readFactor_30 rfl ?_
        refine mm_getR 3 dX4_readFactor_31 fl_RX4_9 lo_55 rfl ?_
        refine mm_bipush (v := 93) dX4_readFactor_34 rfl ?_
        refine mm_callVz (as := [.int 93]) (st := []) (c_TextReader_take E 93 M_18) dX4_readFactor_36 mz_X10_take lk_RX4_42 im_X10_take se_X10_take lo_3 rfl rfl rfl ⟨by omega, by show 8 + (2 + 11) + _ ≤ _; omega⟩ (Nat.le_of_ble_eq_true rfl) (fun b_19 M_20 => ?_)
        refine mm_if_eq_b 46 dX4_readFactor_39 rfl ?_ ?_
        · refine mm_iconst (v := 0) dX4_readFactor_46 rfl ?_
          exact mm_zret (b := false) dX4_readFactor_47 rfl
        · refine mm_iconst (v := 1) dX4_readFactor_42 rfl ?_
          refine mm_goto 47 dX4_readFactor_43 rfl ?_
          exact mm_zret (b := true) dX4_readFactor_47 rfl
def g_LawReader_readSum : Nat → Nat → Int32 → mm_M → Option (Bool × mm_M)
  | 0, _, _, _ => none
  | n + 1, i, v1, M => if i = 0 then fb_LawReader_readSum (g_LawReader_readSum n) v1 M else if i = 1 then fb_LawReader_readTerm (g_LawReader_readSum n) v1 M else if i = 2 then fb_LawReader_readFactor (g_LawReader_readSum n) v1 M else none
theorem g_LawReader_readSum_ok (E : mm_E) : ∀ (n nd : Nat), nd = 5 + n → (∀ (v1 : Int32) (M : mm_M) (r : Bool) (M2 : mm_M), g_LawReader_readSum n 0 v1 M = some (r, M2) → mm_P E Y_X4_readSum nd [.ref 55, .int v1] M (some (.int (mm_b r))) M2) ∧ (∀ (v1 : Int32) (M : mm_M) (r : Bool) (M2 : mm_M), g_LawReader_readSum n 1 v1 M = some (r, M2) → mm_P E Y_X4_readTerm nd [.ref 55, .int v1] M (some (.int (mm_b r))) M2) ∧ (∀ (v1 : Int32) (M : mm_M) (r : Bool) (M2 : mm_M), g_LawReader_readSum n 2 v1 M = some (r, M2) → mm_P E Y_X4_readFactor nd [.ref 55, .int v1] M (some (.int (mm_b r))) M2) := by
  intro n
  induction n with
  | zero => exact fun nd _ => ⟨(fun v1 M r M2 h => by cases h), (fun v1 M r M2 h => by cases h), (fun v1 M r M2 h => by cases h)⟩
  | succ n ih =>
    intro nd hnd
    obtain ⟨nd, rfl⟩ : ∃ k, nd = k + 1 := ⟨5 + n, by omega⟩
    have hF := And.intro (show 5 ≤ nd by omega) (ih nd (by omega))
    refine ⟨?_, ?_, ?_⟩
    · intro v1 M r M2 h
      rw [g_LawReader_readSum, if_pos rfl] at h
      exact cb_LawReader_readSum E (F := g_LawReader_readSum n) hF v1 M r M2 h
    · intro v1 M r M2 h
      rw [g_LawReader_readSum, if_neg (by decide), if_pos rfl] at h
      exact cb_LawReader_readTerm E (F := g_LawReader_readSum n) hF v1 M r M2 h
    · intro v1 M r M2 h
      rw [g_LawReader_readSum, if_neg (by decide), if_neg (by decide), if_pos rfl] at h
      exact cb_LawReader_readFactor E (F := g_LawReader_readSum n) hF v1 M r M2 h
def f_LawReader_readSum (n : Nat) (v1 : Int32) (M : mm_M) : Option (Bool × mm_M) := g_LawReader_readSum n 0 v1 M
theorem c_LawReader_readSum (E : mm_E) (n : Nat) (v1 : Int32) (M : mm_M) : ∀ (r : Bool) (M2 : mm_M), f_LawReader_readSum n v1 M = some (r, M2) → mm_P E Y_X4_readSum (5 + n) [.ref 55, .int v1] M (some (.int (mm_b r))) M2 := fun r M2 h => (g_LawReader_readSum_ok E n _ rfl).1 v1 M r M2 h
def f_LawReader_readTerm (n : Nat) (v1 : Int32) (M : mm_M) : Option (Bool × mm_M) := g_LawReader_readSum n 1 v1 M
theorem c_LawReader_readTerm (E : mm_E) (n : Nat) (v1 : Int32) (M : mm_M) : ∀ (r : Bool) (M2 : mm_M), f_LawReader_readTerm n v1 M = some (r, M2) → mm_P E Y_X4_readTerm (5 + n) [.ref 55, .int v1] M (some (.int (mm_b r))) M2 := fun r M2 h => (g_LawReader_readSum_ok E n _ rfl).2.1 v1 M r M2 h
def f_LawReader_readFactor (n : Nat) (v1 : Int32) (M : mm_M) : Option (Bool × mm_M) := g_LawReader_readSum n 2 v1 M
theorem c_LawReader_readFactor (E : mm_E) (n : Nat) (v1 : Int32) (M : mm_M) : ∀ (r : Bool) (M2 : mm_M), f_LawReader_readFactor n v1 M = some (r, M2) → mm_P E Y_X4_readFactor (5 + n) [.ref 55, .int v1] M (some (.int (mm_b r))) M2 := fun r M2 h => (g_LawReader_readSum_ok E n _ rfl).2.2 v1 M r M2 h
def f_Law_endExit_46 (v1 : Int32) (M : mm_M) : Option (Unit × mm_M) := mm_bd (f_H_isBelow v1 (M.1 46 2) M) fun b_1 M_2 => if b_1 = true then if mm_in v1 (mm_al 48) = true then mm_let (mm_setA M_2 48 (v1.toNatClampNeg) (M_2.1 46 2)) fun M_3 => some ((), M_3) else none else some ((), M_2)
set_option maxHeartbeats 4000000 in
theorem c_Law_endExit_46 (E : mm_E) (v1 : Int32) (M : mm_M) : ∀ (r : Unit) (M2 : mm_M), f_Law_endExit_46 v1 M = some (r, M2) → mm_P E Y_X3_endExit 2 [.ref 46, .int v1] M none M2 := by
  refine mm_entry (em := (fun _ : Unit => none)) (by decide +kernel) (Nat.le_of_ble_eq_true rfl) ?_
  show mm_G _ E _ _ 0 [(0, .ref 46), (1, .int v1)] [] M _
  unfold f_Law_endExit_46
  refine mm_iload_n 1 dX3_endExit_0 rfl ?_
  refine mm_aload_n 0 dX3_endExit_1 rfl ?_
  refine mm_getI dX3_endExit_2 fl_RX3_36 lo_46 rfl ?_
  refine mm_callSNz (as := [.int v1, .int (M.1 46 2)]) (st := []) (c_H_isBelow E v1 (M.1 46 2) M) dX3_endExit_5 mz_X11_isBelow lk_RX3_57 sm_X11_isBelow rfl ⟨Nat.le_of_ble_eq_true rfl, Nat.le_of_ble_eq_true rfl⟩ (Nat.le_of_ble_eq_true rfl) (fun b_1 M_2 => ?_)
  refine mm_if_eq_b 21 dX3_endExit_8 rfl ?_ ?_
  · exact mm_vret dX3_endExit_21 rfl
  · refine mm_aload_n 0 dX3_endExit_11 rfl ?_
    refine mm_getR 48 dX3_endExit_12 fl_RX3_15 lo_46 rfl ?_
    refine mm_iload_n 1 dX3_endExit_15 rfl ?_
    refine mm_aload_n 0 dX3_endExit_16 rfl ?_
    refine mm_getI dX3_endExit_17 fl_RX3_36 lo_46 rfl ?_
    refine mm_iastore dX3_endExit_20 ?_
    refine mm_nm_M (fun M_3 => ?_)
    exact mm_vret dX3_endExit_21 rfl
def f_String_isLatin1_145 (M : mm_M) : Option (Bool × mm_M) := if (1 : Int32) = 0 then some (false, M) else if (0 : Int32) = 0 then some (true, M) else some (false, M)
set_option maxHeartbeats 4000000 in
theorem c_String_isLatin1_145 (E : mm_E) (M : mm_M) : ∀ (r : Bool) (M2 : mm_M), f_String_isLatin1_145 M = some (r, M2) → mm_P E Y_J0_isLatin1_aae02 1 [.ref 145] M (some (.int (mm_b r))) M2 := by
  refine mm_entry (em := (fun x : Bool => some (.int (mm_b x)))) (by decide +kernel) (Nat.le_of_ble_eq_true rfl) ?_
  show mm_G _ E _ _ 0 [(0, .ref 145)] [] M _
  unfold f_String_isLatin1_145
  refine mm_gets dJ0_isLatin1_aae02_0 wf_RJ0_38 ?_
  refine mm_if_eq 17 dJ0_isLatin1_aae02_3 rfl ?_ ?_
  · refine mm_iconst (v := 0) dJ0_isLatin1_aae02_17 rfl ?_
    exact mm_zret (b := false) dJ0_isLatin1_aae02_18 rfl
  · refine mm_aload_n 0 dJ0_isLatin1_aae02_6 rfl ?_
    refine mm_getSc (j := 5) dJ0_isLatin1_aae02_7 wf_RJ0_15 (by decide) rfl ?_
    refine mm_if_ne 17 dJ0_isLatin1_aae02_10 rfl ?_ ?_
    · refine mm_iconst (v := 0) dJ0_isLatin1_aae02_17 rfl ?_
      exact mm_zret (b := false) dJ0_isLatin1_aae02_18 rfl
    · refine mm_iconst (v := 1) dJ0_isLatin1_aae02_13 rfl ?_
      refine mm_goto 18 dJ0_isLatin1_aae02_14 rfl ?_
      exact mm_zret (b := true) dJ0_isLatin1_aae02_18 rfl
def f_String_coder_145 (M : mm_M) : Option (Int32 × mm_M) := if (1 : Int32) = 0 then some (1, M) else some (0, M)
set_option maxHeartbeats 4000000 in
theorem c_String_coder_145 (E : mm_E) (M : mm_M) : ∀ (r : Int32) (M2 : mm_M), f_String_coder_145 M = some (r, M2) → mm_P E Y_J0_coder_7d493 1 [.ref 145] M (some (.int r)) M2 := by
  refine mm_entry (em := (fun x : Int32 => some (.int x))) (by decide +kernel) (Nat.le_of_ble_eq_true rfl) ?_
  show mm_G _ E _ _ 0 [(0, .ref 145)] [] M _
  unfold f_String_coder_145
  refine mm_gets dJ0_coder_7d493_0 wf_RJ0_38 ?_
  refine mm_if_eq 13 dJ0_coder_7d493_3 rfl ?_ ?_
  · refine mm_iconst (v := 1) dJ0_coder_7d493_13 rfl ?_
    exact mm_nret dJ0_coder_7d493_14 rfl rfl
  · refine mm_aload_n 0 dJ0_coder_7d493_6 rfl ?_
    refine mm_getSc (j := 5) dJ0_coder_7d493_7 wf_RJ0_15 (by decide) rfl ?_
    refine mm_goto 14 dJ0_coder_7d493_10 rfl ?_
    exact mm_nret dJ0_coder_7d493_14 rfl rfl
def f_String_length_145 (M : mm_M) : Option (Int32 × mm_M) := mm_bd (f_String_coder_145 M) fun r_1 M_2 => some (3 >>> (r_1 &&& 31), M_2)
set_option maxHeartbeats 4000000 in
theorem c_String_length_145 (E : mm_E) (M : mm_M) : ∀ (r : Int32) (M2 : mm_M), f_String_length_145 M = some (r, M2) → mm_P E Y_J0_length_8abf5 2 [.ref 145] M (some (.int r)) M2 := by
  refine mm_entry (em := (fun x : Int32 => some (.int x))) (by decide +kernel) (Nat.le_of_ble_eq_true rfl) ?_
  show mm_G _ E _ _ 0 [(0, .ref 145)] [] M _
  unfold f_String_length_145
  refine mm_aload_n 0 dJ0_length_8abf5_0 rfl ?_
  refine mm_getSv (j := 5) dJ0_length_8abf5_1 wf_RJ0_9 (by decide) rfl rfl ?_
  refine mm_alenS (j := 5) (v := 3) dJ0_length_8abf5_4 (by decide) rfl rfl ?_
  refine mm_aload_n 0 dJ0_length_8abf5_5 rfl ?_
  refine mm_callTi (as := []) (st := [.int 3]) (c_String_coder_145 E M) dJ0_length_8abf5_6 mz_J0_coder_7d493 lk_RJ0_335 im_J0_coder_7d493 se_J0_coder_7d493 sl_145 rfl rfl ⟨Nat.le_of_ble_eq_true rfl, Nat.le_of_ble_eq_true rfl⟩ (Nat.le_of_ble_eq_true rfl) (fun r_1 M_2 => ?_)
  refine mm_ishr dJ0_length_8abf5_9 ?_
  exact mm_iret dJ0_length_8abf5_10 rfl
def lp_StringLatin1_indexOfChar_151_7 (v3 : Int32) (v4 : Int32) (k22 : Int32 → mm_M → Option (Int32 × mm_M)) (k31 : mm_M → Option (Int32 × mm_M)) : Nat → Int32 → mm_M → Option (Int32 × mm_M)
  | 0, _, _ => none
  | n + 1, v5, M => if v3 ≤ v5 then k31 M else if mm_in v5 (mm_len.getD 5 0) = true then if (mm_byt.getD 5 []).getD v5.toNatClampNeg 0 = v4 then k22 v5 M else mm_let (v5 + 1) fun v5_2 => lp_StringLatin1_indexOfChar_151_7 v3 v4 k22 k31 n v5_2 M else none
set_option maxHeartbeats 4000000 in
theorem lp_StringLatin1_indexOfChar_151_7_ok (E : mm_E) (v3 : Int32) (v4 : Int32) {k22 : Int32 → mm_M → Option (Int32 × mm_M)} {k31 : mm_M → Option (Int32 × mm_M)} (hk22 : ∀ (v5 : Int32) (M : mm_M), mm_G (fun x : Int32 => some (.int x)) E Y_J1_indexOfChar_4cfef 1 22 [(5, .int v5)] [] M (k22 v5 M)) (hk31 : ∀ (M : mm_M), mm_G (fun x : Int32 => some (.int x)) E Y_J1_indexOfChar_4cfef 1 31 [] [] M (k31 M)) : ∀ (n : Nat) (v5 : Int32) (M : mm_M), mm_G (fun x : Int32 => some (.int x)) E Y_J1_indexOfChar_4cfef 1 7 [(0, .ref 151), (3, .int v3), (4, .int v4), (5, .int v5)] [] M (lp_StringLatin1_indexOfChar_151_7 v3 v4 k22 k31 n v5 M) := by
  intro n
  induction n with
  | zero => intro v5 M r M2 he; cases he
  | succ n ih =>
    intro v5 M
    rw [lp_StringLatin1_indexOfChar_151_7]
    refine mm_iload 3 dJ1_indexOfChar_4cfef_7 rfl ?_
    refine mm_iload_n 1 dJ1_indexOfChar_4cfef_9 rfl ?_
    refine mm_icmp_ge 31 dJ1_indexOfChar_4cfef_10 rfl ?_ ?_
    · refine mm_wk [] rfl ?_
      exact hk31  M
    · refine mm_aload_n 0 dJ1_indexOfChar_4cfef_13 rfl ?_
      refine mm_iload 3 dJ1_indexOfChar_4cfef_14 rfl ?_
      refine mm_baloadS (j := 5) dJ1_indexOfChar_4cfef_16 (by decide) rfl ?_
      refine mm_iload 2 dJ1_indexOfChar_4cfef_17 rfl ?_
      refine mm_icmp_ne 25 dJ1_indexOfChar_4cfef_19 rfl ?_ ?_
      · refine mm_iincN 3 [1, 2, 3, 0] (v := v5 + 1) (lv2 := fun v5_2 => [(0, .ref 151), (3, .int v3), (4, .int v4), (5, .int v5_2)]) dJ1_indexOfChar_4cfef_25 rfl rfl (by decide) (fun _ => rfl) (fun v5_2 => ?_)
        refine mm_goto 7 dJ1_indexOfChar_4cfef_28 rfl ?_
        exact ih v5_2 M
      · refine mm_wk [3] rfl ?_
        exact hk22 v5 M
def f_StringLatin1_indexOfChar_151 (v1 : Int32) (v2 : Int32) (v3 : Int32) (M : mm_M) : Option (Int32 × mm_M) := mm_let (v1.toInt8.toInt32) fun v4_1 => lp_StringLatin1_indexOfChar_151_7 v3 v4_1 (fun (v5 : Int32) (M_3 : mm_M) => some (v5, M_3)) (fun (M_4 : mm_M) => some ((-1), M_4)) mm_fu v2 M
set_option maxHeartbeats 4000000 in
theorem c_StringLatin1_indexOfChar_151 (E : mm_E) (v1 : Int32) (v2 : Int32) (v3 : Int32) (M : mm_M) : ∀ (r : Int32) (M2 : mm_M), f_StringLatin1_indexOfChar_151 v1 v2 v3 M = some (r, M2) → mm_P E Y_J1_indexOfChar_4cfef 1 [.ref 151, .int v1, .int v2, .int v3] M (some (.int r)) M2 := by
  refine mm_entry (em := (fun x : Int32 => some (.int x))) (by decide +kernel) (Nat.le_of_ble_eq_true rfl) ?_
  show mm_G _ E _ _ 0 [(0, .ref 151), (1, .int v1), (2, .int v2), (3, .int v3)] [] M _
  unfold f_StringLatin1_indexOfChar_151
  refine mm_iload_n 1 dJ1_indexOfChar_4cfef_0 rfl ?_
  refine mm_i2b dJ1_indexOfChar_4cfef_1 ?_
  refine mm_nm_int (fun v4_1 => ?_)
  refine mm_istore [1, 2, 3, 4, 0] (lv2 := [(0, .ref 151), (1, .int v1), (2, .int v2), (3, .int v3), (4, .int v4_1)]) dJ1_indexOfChar_4cfef_2 (by decide) rfl ?_
  refine mm_iload_n 2 dJ1_indexOfChar_4cfef_4 rfl ?_
  refine mm_istore [1, 2, 3, 4, 5, 0] (lv2 := [(0, .ref 151), (1, .int v1), (2, .int v2), (3, .int v3), (4, .int v4_1), (5, .int v2)]) dJ1_indexOfChar_4cfef_5 (by decide) rfl ?_
  refine mm_wk [0, 3, 4, 5] rfl ?_
  refine lp_StringLatin1_indexOfChar_151_7_ok E v3 v4_1 ?_ ?_ mm_fu v2 M
  · intro v5 M_3
    refine mm_iload 0 dJ1_indexOfChar_4cfef_22 rfl ?_
    exact mm_iret dJ1_indexOfChar_4cfef_24 rfl
  · intro M_4
    refine mm_iconst (v := (-1)) dJ1_indexOfChar_4cfef_31 rfl ?_
    exact mm_iret dJ1_indexOfChar_4cfef_32 rfl
def f_StringLatin1_indexOf_151 (v1 : Int32) (v2 : Int32) (v3 : Int32) (M : mm_M) : Option (Int32 × mm_M) := mm_bd (f_StringLatin1_canEncode v1 M) fun b_1 M_2 => if b_1 = true then mm_bd (f_Math_max v2 0 M_2) fun r_3 M_4 => mm_bd (f_Math_min v3 3 M_4) fun r_5 M_6 => if r_3 < r_5 then mm_bd (f_StringLatin1_indexOfChar_151 v1 r_3 r_5 M_6) fun r_7 M_8 => some (r_7, M_8) else some ((-1), M_6) else some ((-1), M_2)
set_option maxHeartbeats 4000000 in
theorem c_StringLatin1_indexOf_151 (E : mm_E) (v1 : Int32) (v2 : Int32) (v3 : Int32) (M : mm_M) : ∀ (r : Int32) (M2 : mm_M), f_StringLatin1_indexOf_151 v1 v2 v3 M = some (r, M2) → mm_P E Y_J1_indexOf_4cfef 2 [.ref 151, .int v1, .int v2, .int v3] M (some (.int r)) M2 := by
  refine mm_entry (em := (fun x : Int32 => some (.int x))) (by decide +kernel) (Nat.le_of_ble_eq_true rfl) ?_
  show mm_G _ E _ _ 0 [(0, .ref 151), (1, .int v1), (2, .int v2), (3, .int v3)] [] M _
  unfold f_StringLatin1_indexOf_151
  refine mm_iload_n 1 dJ1_indexOf_4cfef_0 rfl ?_
  refine mm_callSz (as := [.int v1]) (st := []) (c_StringLatin1_canEncode E v1 M) dJ1_indexOf_4cfef_1 mz_J1_canEncode_9a6ad lk_RJ1_88 sm_J1_canEncode_9a6ad rfl ⟨Nat.le_of_ble_eq_true rfl, Nat.le_of_ble_eq_true rfl⟩ (Nat.le_of_ble_eq_true rfl) (fun b_1 M_2 => ?_)
  refine mm_if_ne_b 9 dJ1_indexOf_4cfef_4 rfl ?_ ?_
  · refine mm_iload_n 2 dJ1_indexOf_4cfef_9 rfl ?_
    refine mm_iconst (v := 0) dJ1_indexOf_4cfef_10 rfl ?_
    refine mm_callSi (as := [.int v2, .int 0]) (st := []) (c_Math_max E v2 0 M_2) dJ1_indexOf_4cfef_11 mz_J9_max_7cf53 lk_RJ1_92 sm_J9_max_7cf53 rfl ⟨Nat.le_of_ble_eq_true rfl, Nat.le_of_ble_eq_true rfl⟩ (Nat.le_of_ble_eq_true rfl) (fun r_3 M_4 => ?_)
    refine mm_istore_n [1, 2, 0, 3] (lv2 := [(0, .ref 151), (1, .int v1), (2, .int r_3), (3, .int v3)]) dJ1_indexOf_4cfef_14 (by decide) rfl ?_
    refine mm_iload_n 3 dJ1_indexOf_4cfef_15 rfl ?_
    refine mm_aload_n 0 dJ1_indexOf_4cfef_16 rfl ?_
    refine mm_alenS (j := 5) (v := 3) dJ1_indexOf_4cfef_17 (by decide) rfl rfl ?_
    refine mm_callSi (as := [.int v3, .int 3]) (st := []) (c_Math_min E v3 3 M_4) dJ1_indexOf_4cfef_18 mz_J9_min_7cf53 lk_RJ1_38 sm_J9_min_7cf53 rfl ⟨Nat.le_of_ble_eq_true rfl, Nat.le_of_ble_eq_true rfl⟩ (Nat.le_of_ble_eq_true rfl) (fun r_5 M_6 => ?_)
    refine mm_istore_n [1, 2, 3, 0] (lv2 := [(0, .ref 151), (1, .int v1), (2, .int r_3), (3, .int r_5)]) dJ1_indexOf_4cfef_21 (by decide) rfl ?_
    refine mm_iload_n 2 dJ1_indexOf_4cfef_22 rfl ?_
    refine mm_iload_n 3 dJ1_indexOf_4cfef_23 rfl ?_
    refine mm_icmp_lt 29 dJ1_indexOf_4cfef_24 rfl ?_ ?_
    · refine mm_aload_n 0 dJ1_indexOf_4cfef_29 rfl ?_
      refine mm_iload_n 1 dJ1_indexOf_4cfef_30 rfl ?_
      refine mm_iload_n 2 dJ1_indexOf_4cfef_31 rfl ?_
      refine mm_iload_n 3 dJ1_indexOf_4cfef_32 rfl ?_
      refine mm_callSi (as := [.ref 151, .int v1, .int r_3, .int r_5]) (st := []) (c_StringLatin1_indexOfChar_151 E v1 r_3 r_5 M_6) dJ1_indexOf_4cfef_33 mz_J1_indexOfChar_4cfef lk_RJ1_95 sm_J1_indexOfChar_4cfef rfl ⟨Nat.le_of_ble_eq_true rfl, Nat.le_of_ble_eq_true rfl⟩ (Nat.le_of_ble_eq_true rfl) (fun r_7 M_8 => ?_)
      exact mm_iret dJ1_indexOf_4cfef_36 rfl
    · refine mm_iconst (v := (-1)) dJ1_indexOf_4cfef_27 rfl ?_
      exact mm_iret dJ1_indexOf_4cfef_28 rfl
  · refine mm_iconst (v := (-1)) dJ1_indexOf_4cfef_7 rfl ?_
    exact mm_iret dJ1_indexOf_4cfef_8 rfl
def f_String_indexOf_2_145 (v1 : Int32) (v2 : Int32) (M : mm_M) : Option (Int32 × mm_M) := mm_bd (f_String_isLatin1_145 M) fun b_1 M_2 => if b_1 = true then mm_bd (f_String_length_145 M_2) fun r_3 M_4 => mm_bd (f_StringLatin1_indexOf_151 v1 v2 r_3 M_4) fun r_5 M_6 => some (r_5, M_6) else none
set_option maxHeartbeats 4000000 in
theorem c_String_indexOf_2_145 (E : mm_E) (v1 : Int32) (v2 : Int32) (M : mm_M) : ∀ (r : Int32) (M2 : mm_M), f_String_indexOf_2_145 v1 v2 M = some (r, M2) → mm_P E Y_J0_indexOf_7cf53 3 [.ref 145, .int v1, .int v2] M (some (.int r)) M2 := by
  refine mm_entry (em := (fun x : Int32 => some (.int x))) (by decide +kernel) (Nat.le_of_ble_eq_true rfl) ?_
  show mm_G _ E _ _ 0 [(0, .ref 145), (1, .int v1), (2, .int v2)] [] M _
  unfold f_String_indexOf_2_145
  refine mm_aload_n 0 dJ0_indexOf_7cf53_0 rfl ?_
  refine mm_callTz (as := []) (st := []) (c_String_isLatin1_145 E M) dJ0_indexOf_7cf53_1 mz_J0_isLatin1_aae02 lk_RJ0_492 im_J0_isLatin1_aae02 se_J0_isLatin1_aae02 sl_145 rfl rfl ⟨Nat.le_of_ble_eq_true rfl, Nat.le_of_ble_eq_true rfl⟩ (Nat.le_of_ble_eq_true rfl) (fun b_1 M_2 => ?_)
  refine mm_if_eq_b 23 dJ0_indexOf_7cf53_4 rfl ?_ ?_
  · exact mm_none
  · refine mm_aload_n 0 dJ0_indexOf_7cf53_7 rfl ?_
    refine mm_getSv (j := 5) dJ0_indexOf_7cf53_8 wf_RJ0_9 (by decide) rfl rfl ?_
    refine mm_iload_n 1 dJ0_indexOf_7cf53_11 rfl ?_
    refine mm_iload_n 2 dJ0_indexOf_7cf53_12 rfl ?_
    refine mm_aload_n 0 dJ0_indexOf_7cf53_13 rfl ?_
    refine mm_callTi (as := []) (st := [.int v2, .int v1, .ref 151]) (c_String_length_145 E M_2) dJ0_indexOf_7cf53_14 mz_J0_length_8abf5 lk_RJ0_505 im_J0_length_8abf5 se_J0_length_8abf5 sl_145 rfl rfl ⟨Nat.le_of_ble_eq_true rfl, Nat.le_of_ble_eq_true rfl⟩ (Nat.le_of_ble_eq_true rfl) (fun r_3 M_4 => ?_)
    refine mm_callSi (as := [.ref 151, .int v1, .int v2, .int r_3]) (st := []) (c_StringLatin1_indexOf_151 E v1 v2 r_3 M_4) dJ0_indexOf_7cf53_17 mz_J1_indexOf_4cfef lk_RJ0_637 sm_J1_indexOf_4cfef rfl ⟨Nat.le_of_ble_eq_true rfl, Nat.le_of_ble_eq_true rfl⟩ (Nat.le_of_ble_eq_true rfl) (fun r_5 M_6 => ?_)
    refine mm_goto 36 dJ0_indexOf_7cf53_20 rfl ?_
    exact mm_iret dJ0_indexOf_7cf53_36 rfl
def f_String_indexOf_1_145 (v1 : Int32) (M : mm_M) : Option (Int32 × mm_M) := mm_bd (f_String_indexOf_2_145 v1 0 M) fun r_1 M_2 => some (r_1, M_2)
set_option maxHeartbeats 4000000 in
theorem c_String_indexOf_1_145 (E : mm_E) (v1 : Int32) (M : mm_M) : ∀ (r : Int32) (M2 : mm_M), f_String_indexOf_1_145 v1 M = some (r, M2) → mm_P E Y_J0_indexOf_0f7a4 4 [.ref 145, .int v1] M (some (.int r)) M2 := by
  refine mm_entry (em := (fun x : Int32 => some (.int x))) (by decide +kernel) (Nat.le_of_ble_eq_true rfl) ?_
  show mm_G _ E _ _ 0 [(0, .ref 145), (1, .int v1)] [] M _
  unfold f_String_indexOf_1_145
  refine mm_aload_n 0 dJ0_indexOf_0f7a4_0 rfl ?_
  refine mm_iload_n 1 dJ0_indexOf_0f7a4_1 rfl ?_
  refine mm_iconst (v := 0) dJ0_indexOf_0f7a4_2 rfl ?_
  refine mm_callTi (as := [.int v1, .int 0]) (st := []) (c_String_indexOf_2_145 E v1 0 M) dJ0_indexOf_0f7a4_3 mz_J0_indexOf_7cf53 lk_RJ0_633 im_J0_indexOf_7cf53 se_J0_indexOf_7cf53 sl_145 rfl rfl ⟨Nat.le_of_ble_eq_true rfl, Nat.le_of_ble_eq_true rfl⟩ (Nat.le_of_ble_eq_true rfl) (fun r_1 M_2 => ?_)
  exact mm_iret dJ0_indexOf_0f7a4_6 rfl
def f_TextReader_among_145 (M : mm_M) : Option (Int32 × mm_M) := mm_bd (f_TextReader_atEnd M) fun b_1 M_2 => if b_1 = true then some ((-1), M_2) else mm_bd (f_String_indexOf_1_145 (((M_2.1 3 3).toUInt32 % 65536).toInt32) M_2) fun r_3 M_4 => some (r_3, M_4)
set_option maxHeartbeats 4000000 in
theorem c_TextReader_among_145 (E : mm_E) (M : mm_M) : ∀ (r : Int32) (M2 : mm_M), f_TextReader_among_145 M = some (r, M2) → mm_P E Y_X10_among 5 [.ref 3, .ref 145] M (some (.int r)) M2 := by
  refine mm_entry (em := (fun x : Int32 => some (.int x))) (by decide +kernel) (Nat.le_of_ble_eq_true rfl) ?_
  show mm_G _ E _ _ 0 [(0, .ref 3), (1, .ref 145)] [] M _
  unfold f_TextReader_among_145
  refine mm_aload_n 0 dX10_among_0 rfl ?_
  refine mm_callVz (as := []) (st := []) (c_TextReader_atEnd E M) dX10_among_1 mz_X10_atEnd lk_RX10_48 im_X10_atEnd se_X10_atEnd lo_3 rfl rfl rfl ⟨Nat.le_of_ble_eq_true rfl, Nat.le_of_ble_eq_true rfl⟩ (Nat.le_of_ble_eq_true rfl) (fun b_1 M_2 => ?_)
  refine mm_if_eq_b 11 dX10_among_4 rfl ?_ ?_
  · refine mm_aload_n 1 dX10_among_11 rfl ?_
    refine mm_aload_n 0 dX10_among_12 rfl ?_
    refine mm_getI dX10_among_13 fl_RX10_41 lo_3 rfl ?_
    refine mm_i2c dX10_among_16 ?_
    refine mm_callTi (as := [.int (((M_2.1 3 3).toUInt32 % 65536).toInt32)]) (st := []) (c_String_indexOf_1_145 E (((M_2.1 3 3).toUInt32 % 65536).toInt32) M_2) dX10_among_17 mz_J0_indexOf_0f7a4 lk_RX10_52 im_J0_indexOf_0f7a4 se_J0_indexOf_0f7a4 sl_145 rfl rfl ⟨Nat.le_of_ble_eq_true rfl, Nat.le_of_ble_eq_true rfl⟩ (Nat.le_of_ble_eq_true rfl) (fun r_3 M_4 => ?_)
    exact mm_iret dX10_among_20 rfl
  · refine mm_iconst (v := (-1)) dX10_among_7 rfl ?_
    refine mm_goto 20 dX10_among_8 rfl ?_
    exact mm_iret dX10_among_20 rfl
def f_LawReader_readComparison (v1 : Int32) (M : mm_M) : Option (Bool × mm_M) := mm_bd (f_LawReader_readSum mm_rd v1 M) fun b_1 M_2 => if b_1 = true then mm_let (M_2.1 3 3) fun v2_3 => mm_bd (f_TextReader_among_145 M_2) fun r_4 M_5 => if r_4 = (-1) then mm_bd (f_TextReader_failHere 1 M_5) fun b_12 M_13 => some (b_12, M_13) else mm_bd (f_TextReader_step M_5) fun u_6 M_7 => mm_bd (f_LawReader_readSum mm_rd v1 M_7) fun b_8 M_9 => if b_8 = true then mm_bd (f_Law_addStep_46 v2_3 0 M_9) fun u_10 M_11 => some (true, M_11) else some (false, M_9) else some (false, M_2)
set_option maxHeartbeats 4000000 in
theorem c_LawReader_readComparison (E : mm_E) (v1 : Int32) (M : mm_M) : ∀ (r : Bool) (M2 : mm_M), f_LawReader_readComparison v1 M = some (r, M2) → mm_P E Y_X4_readComparison 66 [.ref 55, .int v1] M (some (.int (mm_b r))) M2 := by
  refine mm_entry (em := (fun x : Bool => some (.int (mm_b x)))) (by decide +kernel) (Nat.le_of_ble_eq_true rfl) ?_
  show mm_G _ E _ _ 0 [(0, .ref 55), (1, .int v1)] [] M _
  unfold f_LawReader_readComparison
  refine mm_aload_n 0 dX4_readComparison_0 rfl ?_
  refine mm_iload_n 1 dX4_readComparison_1 rfl ?_
  refine mm_callVz (as := [.int v1]) (st := []) (c_LawReader_readSum E mm_rd v1 M) dX4_readComparison_2 mz_X4_readSum lk_RX4_64 im_X4_readSum se_X4_readSum lo_55 rfl rfl rfl ⟨Nat.le_of_ble_eq_true rfl, Nat.le_of_ble_eq_true rfl⟩ (Nat.le_of_ble_eq_true rfl) (fun b_1 M_2 => ?_)
  refine mm_if_ne_b 10 dX4_readComparison_5 rfl ?_ ?_
  · refine mm_aload_n 0 dX4_readComparison_10 rfl ?_
    refine mm_getR 3 dX4_readComparison_11 fl_RX4_9 lo_55 rfl ?_
    refine mm_getI dX4_readComparison_14 fl_RX4_46 lo_3 rfl ?_
    refine mm_nm_int (fun v2_3 => ?_)
    refine mm_istore_n [1, 2, 0] (lv2 := [(0, .ref 55), (1, .int v1), (2, .int v2_3)]) dX4_readComparison_17 (by decide) rfl ?_
    refine mm_aload_n 0 dX4_readComparison_18 rfl ?_
    refine mm_getR 3 dX4_readComparison_19 fl_RX4_9 lo_55 rfl ?_
    refine mm_ldcT (t := 145) dX4_readComparison_22 ss_5 rfl ?_
    refine mm_callVi (as := [.ref 145]) (st := []) (c_TextReader_among_145 E M_2) dX4_readComparison_24 mz_X10_among lk_RX4_51 im_X10_among se_X10_among lo_3 rfl rfl rfl ⟨Nat.le_of_ble_eq_true rfl, Nat.le_of_ble_eq_true rfl⟩ (Nat.le_of_ble_eq_true rfl) (fun r_4 M_5 => ?_)
    refine mm_iconst (v := (-1)) dX4_readComparison_27 rfl ?_
    refine mm_icmp_ne 40 dX4_readComparison_28 rfl ?_ ?_
    · refine mm_aload_n 0 dX4_readComparison_40 rfl ?_
      refine mm_getR 3 dX4_readComparison_41 fl_RX4_9 lo_55 rfl ?_
      refine mm_callVv (as := []) (st := []) (c_TextReader_step E M_5) dX4_readComparison_44 mz_X10_step lk_RX4_58 im_X10_step se_X10_step lo_3 rfl rfl rfl ⟨Nat.le_of_ble_eq_true rfl, Nat.le_of_ble_eq_true rfl⟩ (Nat.le_of_ble_eq_true rfl) (fun u_6 M_7 => ?_)
      refine mm_aload_n 0 dX4_readComparison_47 rfl ?_
      refine mm_iload_n 1 dX4_readComparison_48 rfl ?_
      refine mm_callVz (as := [.int v1]) (st := []) (c_LawReader_readSum E mm_rd v1 M_7) dX4_readComparison_49 mz_X4_readSum lk_RX4_64 im_X4_readSum se_X4_readSum lo_55 rfl rfl rfl ⟨Nat.le_of_ble_eq_true rfl, Nat.le_of_ble_eq_true rfl⟩ (Nat.le_of_ble_eq_true rfl) (fun b_8 M_9 => ?_)
      refine mm_if_ne_b 57 dX4_readComparison_52 rfl ?_ ?_
      · refine mm_aload_n 0 dX4_readComparison_57 rfl ?_
        refine mm_getR 46 dX4_readComparison_58 fl_RX4_15 lo_55 rfl ?_
        refine mm_iload_n 2 dX4_readComparison_61 rfl ?_
        refine mm_iconst (v := 0) dX4_readComparison_62 rfl ?_
        refine mm_callVv (as := [.int v2_3, .int 0]) (st := []) (c_Law_addStep_46 E v2_3 0 M_9) dX4_readComparison_63 mz_X3_addStep lk_RX4_90 im_X3_addStep se_X3_addStep lo_46 rfl rfl rfl ⟨Nat.le_of_ble_eq_true rfl, Nat.le_of_ble_eq_true rfl⟩ (Nat.le_of_ble_eq_true rfl) (fun u_10 M_11 => ?_)
        refine mm_iconst (v := 1) dX4_readComparison_66 rfl ?_
        exact mm_zret (b := true) dX4_readComparison_67 rfl
      · refine mm_iconst (v := 0) dX4_readComparison_55 rfl ?_
        exact mm_zret (b := false) dX4_readComparison_56 rfl
    · refine mm_aload_n 0 dX4_readComparison_31 rfl ?_
      refine mm_getR 3 dX4_readComparison_32 fl_RX4_9 lo_55 rfl ?_
      refine mm_iconst (v := 1) dX4_readComparison_35 rfl ?_
      refine mm_callVz (as := [.int 1]) (st := []) (c_TextReader_failHere E 1 M_5) dX4_readComparison_36 mz_X10_failHere lk_RX4_55 im_X10_failHere se_X10_failHere lo_3 rfl rfl rfl ⟨Nat.le_of_ble_eq_true rfl, Nat.le_of_ble_eq_true rfl⟩ (Nat.le_of_ble_eq_true rfl) (fun b_12 M_13 => ?_)
      exact mm_zret (b := b_12) dX4_readComparison_39 rfl
  · refine mm_iconst (v := 0) dX4_readComparison_8 rfl ?_
    exact mm_zret (b := false) dX4_readComparison_9 rfl
def f_Law_addExit_46 (v1 : Int32) (v2 : Int32) (M : mm_M) : Option (Int32 × mm_M) := mm_bd (f_Law_endExit_46 v2 M) fun u_1 M_2 => mm_bd (f_Law_addStep_46 v1 (M_2.1 46 2) M_2) fun u_3 M_4 => some ((M_4.1 46 2) - 1, M_4)
set_option maxHeartbeats 4000000 in
theorem c_Law_addExit_46 (E : mm_E) (v1 : Int32) (v2 : Int32) (M : mm_M) : ∀ (r : Int32) (M2 : mm_M), f_Law_addExit_46 v1 v2 M = some (r, M2) → mm_P E Y_X3_addExit 3 [.ref 46, .int v1, .int v2] M (some (.int r)) M2 := by
  refine mm_entry (em := (fun x : Int32 => some (.int x))) (by decide +kernel) (Nat.le_of_ble_eq_true rfl) ?_
  show mm_G _ E _ _ 0 [(0, .ref 46), (1, .int v1), (2, .int v2)] [] M _
  unfold f_Law_addExit_46
  refine mm_aload_n 0 dX3_addExit_0 rfl ?_
  refine mm_iload_n 2 dX3_addExit_1 rfl ?_
  refine mm_callVv (as := [.int v2]) (st := []) (c_Law_endExit_46 E v2 M) dX3_addExit_2 mz_X3_endExit lk_RX3_49 im_X3_endExit se_X3_endExit lo_46 rfl rfl rfl ⟨Nat.le_of_ble_eq_true rfl, Nat.le_of_ble_eq_true rfl⟩ (Nat.le_of_ble_eq_true rfl) (fun u_1 M_2 => ?_)
  refine mm_aload_n 0 dX3_addExit_5 rfl ?_
  refine mm_iload_n 1 dX3_addExit_6 rfl ?_
  refine mm_aload_n 0 dX3_addExit_7 rfl ?_
  refine mm_getI dX3_addExit_8 fl_RX3_36 lo_46 rfl ?_
  refine mm_callVv (as := [.int v1, .int (M_2.1 46 2)]) (st := []) (c_Law_addStep_46 E v1 (M_2.1 46 2) M_2) dX3_addExit_11 mz_X3_addStep lk_RX3_53 im_X3_addStep se_X3_addStep lo_46 rfl rfl rfl ⟨Nat.le_of_ble_eq_true rfl, Nat.le_of_ble_eq_true rfl⟩ (Nat.le_of_ble_eq_true rfl) (fun u_3 M_4 => ?_)
  refine mm_aload_n 0 dX3_addExit_14 rfl ?_
  refine mm_getI dX3_addExit_15 fl_RX3_36 lo_46 rfl ?_
  refine mm_iconst (v := 1) dX3_addExit_18 rfl ?_
  refine mm_isub dX3_addExit_19 ?_
  exact mm_iret dX3_addExit_20 rfl
def lp_LawReader_readCondition_4 (F : Nat → Int32 → mm_M → Option (Bool × mm_M)) (v1 : Int32) (k19 : mm_M → Option (Bool × mm_M)) (k33 : Int32 → mm_M → Option (Bool × mm_M)) (k60 : Int32 → mm_M → Option (Bool × mm_M)) : Nat → Int32 → Int32 → mm_M → Option (Bool × mm_M)
  | 0, _, _, _ => none
  | n + 1, v2, v3, M => if 160 ≤ v3 then k60 v2 M else mm_bd (F 1 v1 M) fun b_1 M_2 => if b_1 = true then if M_2.1 3 3 = 124 then mm_bd (f_TextReader_step M_2) fun u_3 M_4 => mm_bd (f_Law_addExit_46 124 v2 M_4) fun r_5 M_6 => mm_let (v3 + 1) fun v3_7 => lp_LawReader_readCondition_4 F v1 k19 k33 k60 n r_5 v3_7 M_6 else k33 v2 M_2 else k19 M_2
set_option maxHeartbeats 4000000 in
theorem lp_LawReader_readCondition_4_ok (E : mm_E) {nd : Nat} {F : Nat → Int32 → mm_M → Option (Bool × mm_M)} (hF : 66 ≤ nd ∧ (∀ (v1 : Int32) (M : mm_M) (r : Bool) (M2 : mm_M), F 0 v1 M = some (r, M2) → mm_P E Y_X4_readCondition nd [.ref 55, .int v1] M (some (.int (mm_b r))) M2) ∧ (∀ (v1 : Int32) (M : mm_M) (r : Bool) (M2 : mm_M), F 1 v1 M = some (r, M2) → mm_P E Y_X4_readPieces nd [.ref 55, .int v1] M (some (.int (mm_b r))) M2) ∧ (∀ (v1 : Int32) (M : mm_M) (r : Bool) (M2 : mm_M), F 2 v1 M = some (r, M2) → mm_P E Y_X4_readPiece nd [.ref 55, .int v1] M (some (.int (mm_b r))) M2)) (v1 : Int32) {k19 : mm_M → Option (Bool × mm_M)} {k33 : Int32 → mm_M → Option (Bool × mm_M)} {k60 : Int32 → mm_M → Option (Bool × mm_M)} (hk19 : ∀ (M : mm_M), mm_G (fun x : Bool => some (.int (mm_b x))) E Y_X4_readCondition (nd + 1) 19 [] [] M (k19 M)) (hk33 : ∀ (v2 : Int32) (M : mm_M), mm_G (fun x : Bool => some (.int (mm_b x))) E Y_X4_readCondition (nd + 1) 33 [(0, .ref 55), (2, .int v2)] [] M (k33 v2 M)) (hk60 : ∀ (v2 : Int32) (M : mm_M), mm_G (fun x : Bool => some (.int (mm_b x))) E Y_X4_readCondition (nd + 1) 60 [(0, .ref 55), (2, .int v2)] [] M (k60 v2 M)) : ∀ (n : Nat) (v2 : Int32) (v3 : Int32) (M : mm_M), mm_G (fun x : Bool => some (.int (mm_b x))) E Y_X4_readCondition (nd + 1) 4 [(0, .ref 55), (1, .int v1), (2, .int v2), (3, .int v3)] [] M (lp_LawReader_readCondition_4 F v1 k19 k33 k60 n v2 v3 M) := by
  have hB := hF.1
  intro n
  induction n with
  | zero => intro v2 v3 M r M2 he; cases he
  | succ n ih =>
    intro v2 v3 M
    rw [lp_LawReader_readCondition_4]
    refine mm_iload_n 3 dX4_readCondition_4 rfl ?_
    refine mm_sipush (v := 160) dX4_readCondition_5 rfl ?_
    refine mm_icmp_ge 60 dX4_readCondition_8 rfl ?_ ?_
    · refine mm_wk [0, 2] rfl ?_
      exact hk60 v2 M
    · refine mm_aload_n 0 dX4_readCondition_11 rfl ?_
      refine mm_iload_n 1 dX4_readCondition_12 rfl ?_
      refine mm_callVz (as := [.int v1]) (st := []) (hF.2.2.1 v1 M) dX4_readCondition_13 mz_X4_readPieces lk_RX4_74 im_X4_readPieces se_X4_readPieces lo_55 rfl rfl rfl ⟨by omega, by show 8 + (4 + 11) + _ ≤ _; omega⟩ (Nat.le_of_ble_eq_true rfl) (fun b_1 M_2 => ?_)
      refine mm_if_ne_b 21 dX4_readCondition_16 rfl ?_ ?_
      · refine mm_aload_n 0 dX4_readCondition_21 rfl ?_
        refine mm_getR 3 dX4_readCondition_22 fl_RX4_9 lo_55 rfl ?_
        refine mm_getI dX4_readCondition_25 fl_RX4_46 lo_3 rfl ?_
        refine mm_bipush (v := 124) dX4_readCondition_28 rfl ?_
        refine mm_icmp_eq 36 dX4_readCondition_30 rfl ?_ ?_
        · refine mm_aload_n 0 dX4_readCondition_36 rfl ?_
          refine mm_getR 3 dX4_readCondition_37 fl_RX4_9 lo_55 rfl ?_
          refine mm_callVv (as := []) (st := []) (c_TextReader_step E M_2) dX4_readCondition_40 mz_X10_step lk_RX4_58 im_X10_step se_X10_step lo_3 rfl rfl rfl ⟨by omega, by show 8 + (1 + 11) + _ ≤ _; omega⟩ (Nat.le_of_ble_eq_true rfl) (fun u_3 M_4 => ?_)
          refine mm_aload_n 0 dX4_readCondition_43 rfl ?_
          refine mm_getR 46 dX4_readCondition_44 fl_RX4_15 lo_55 rfl ?_
          refine mm_bipush (v := 124) dX4_readCondition_47 rfl ?_
          refine mm_iload_n 2 dX4_readCondition_49 rfl ?_
          refine mm_callVi (as := [.int 124, .int v2]) (st := []) (c_Law_addExit_46 E 124 v2 M_4) dX4_readCondition_50 mz_X3_addExit lk_RX4_77 im_X3_addExit se_X3_addExit lo_46 rfl rfl rfl ⟨by omega, by show 8 + (3 + 11) + _ ≤ _; omega⟩ (Nat.le_of_ble_eq_true rfl) (fun r_5 M_6 => ?_)
          refine mm_istore_n [1, 2, 0, 3] (lv2 := [(0, .ref 55), (1, .int v1), (2, .int r_5), (3, .int v3)]) dX4_readCondition_53 (by decide) rfl ?_
          refine mm_iincN 3 [1, 2, 3, 0] (v := v3 + 1) (lv2 := fun v3_7 => [(0, .ref 55), (1, .int v1), (2, .int r_5), (3, .int v3_7)]) dX4_readCondition_54 rfl rfl (by decide) (fun _ => rfl) (fun v3_7 => ?_)
          refine mm_goto 4 dX4_readCondition_57 rfl ?_
          exact ih r_5 v3_7 M_6
        · refine mm_wk [0, 2] rfl ?_
          exact hk33 v2 M_2
      · refine mm_wk [] rfl ?_
        exact hk19  M_2
def fb_LawReader_readCondition (F : Nat → Int32 → mm_M → Option (Bool × mm_M)) (v1 : Int32) (M : mm_M) : Option (Bool × mm_M) := lp_LawReader_readCondition_4 F v1 (fun (M_8 : mm_M) => some (false, M_8)) (fun (v2 : Int32) (M_9 : mm_M) => mm_bd (f_Law_endExit_46 v2 M_9) fun u_10 M_11 => some (true, M_11)) (fun (v2 : Int32) (M_12 : mm_M) => mm_bd (f_Law_endExit_46 v2 M_12) fun u_13 M_14 => some (true, M_14)) mm_fu (-1) 0 M
set_option maxHeartbeats 4000000 in
theorem cb_LawReader_readCondition (E : mm_E) {nd : Nat} {F : Nat → Int32 → mm_M → Option (Bool × mm_M)} (hF : 66 ≤ nd ∧ (∀ (v1 : Int32) (M : mm_M) (r : Bool) (M2 : mm_M), F 0 v1 M = some (r, M2) → mm_P E Y_X4_readCondition nd [.ref 55, .int v1] M (some (.int (mm_b r))) M2) ∧ (∀ (v1 : Int32) (M : mm_M) (r : Bool) (M2 : mm_M), F 1 v1 M = some (r, M2) → mm_P E Y_X4_readPieces nd [.ref 55, .int v1] M (some (.int (mm_b r))) M2) ∧ (∀ (v1 : Int32) (M : mm_M) (r : Bool) (M2 : mm_M), F 2 v1 M = some (r, M2) → mm_P E Y_X4_readPiece nd [.ref 55, .int v1] M (some (.int (mm_b r))) M2)) (v1 : Int32) (M : mm_M) : ∀ (r : Bool) (M2 : mm_M), fb_LawReader_readCondition F v1 M = some (r, M2) → mm_P E Y_X4_readCondition (nd + 1) [.ref 55, .int v1] M (some (.int (mm_b r))) M2 := by
  have hB := hF.1
  refine mm_entry (em := (fun x : Bool => some (.int (mm_b x)))) (by decide +kernel) (Nat.le_of_ble_eq_true rfl) ?_
  show mm_G _ E _ _ 0 [(0, .ref 55), (1, .int v1)] [] M _
  unfold fb_LawReader_readCondition
  refine mm_iconst (v := (-1)) dX4_readCondition_0 rfl ?_
  refine mm_istore_n [1, 2, 0] (lv2 := [(0, .ref 55), (1, .int v1), (2, .int (-1))]) dX4_readCondition_1 (by decide) rfl ?_
  refine mm_iconst (v := 0) dX4_readCondition_2 rfl ?_
  refine mm_istore_n [1, 2, 3, 0] (lv2 := [(0, .ref 55), (1, .int v1), (2, .int (-1)), (3, .int 0)]) dX4_readCondition_3 (by decide) rfl ?_
  refine lp_LawReader_readCondition_4_ok E hF v1 ?_ ?_ ?_ mm_fu (-1) 0 M
  · intro M_8
    refine mm_iconst (v := 0) dX4_readCondition_19 rfl ?_
    exact mm_zret (b := false) dX4_readCondition_20 rfl
  · intro v2 M_9
    refine mm_goto 60 dX4_readCondition_33 rfl ?_
    refine mm_aload_n 0 dX4_readCondition_60 rfl ?_
    refine mm_getR 46 dX4_readCondition_61 fl_RX4_15 lo_55 rfl ?_
    refine mm_iload_n 1 dX4_readCondition_64 rfl ?_
    refine mm_callVv (as := [.int v2]) (st := []) (c_Law_endExit_46 E v2 M_9) dX4_readCondition_65 mz_X3_endExit lk_RX4_81 im_X3_endExit se_X3_endExit lo_46 rfl rfl rfl ⟨by omega, by show 8 + (2 + 11) + _ ≤ _; omega⟩ (Nat.le_of_ble_eq_true rfl) (fun u_10 M_11 => ?_)
    refine mm_iconst (v := 1) dX4_readCondition_68 rfl ?_
    exact mm_zret (b := true) dX4_readCondition_69 rfl
  · intro v2 M_12
    refine mm_aload_n 0 dX4_readCondition_60 rfl ?_
    refine mm_getR 46 dX4_readCondition_61 fl_RX4_15 lo_55 rfl ?_
    refine mm_iload_n 1 dX4_readCondition_64 rfl ?_
    refine mm_callVv (as := [.int v2]) (st := []) (c_Law_endExit_46 E v2 M_12) dX4_readCondition_65 mz_X3_endExit lk_RX4_81 im_X3_endExit se_X3_endExit lo_46 rfl rfl rfl ⟨by omega, by show 8 + (2 + 11) + _ ≤ _; omega⟩ (Nat.le_of_ble_eq_true rfl) (fun u_13 M_14 => ?_)
    refine mm_iconst (v := 1) dX4_readCondition_68 rfl ?_
    exact mm_zret (b := true) dX4_readCondition_69 rfl
def lp_LawReader_readPieces_4 (F : Nat → Int32 → mm_M → Option (Bool × mm_M)) (v1 : Int32) (k19 : mm_M → Option (Bool × mm_M)) (k33 : Int32 → mm_M → Option (Bool × mm_M)) (k60 : Int32 → mm_M → Option (Bool × mm_M)) : Nat → Int32 → Int32 → mm_M → Option (Bool × mm_M)
  | 0, _, _, _ => none
  | n + 1, v2, v3, M => if 160 ≤ v3 then k60 v2 M else mm_bd (F 2 v1 M) fun b_1 M_2 => if b_1 = true then if M_2.1 3 3 = 38 then mm_bd (f_TextReader_step M_2) fun u_3 M_4 => mm_bd (f_Law_addExit_46 38 v2 M_4) fun r_5 M_6 => mm_let (v3 + 1) fun v3_7 => lp_LawReader_readPieces_4 F v1 k19 k33 k60 n r_5 v3_7 M_6 else k33 v2 M_2 else k19 M_2
set_option maxHeartbeats 4000000 in
theorem lp_LawReader_readPieces_4_ok (E : mm_E) {nd : Nat} {F : Nat → Int32 → mm_M → Option (Bool × mm_M)} (hF : 66 ≤ nd ∧ (∀ (v1 : Int32) (M : mm_M) (r : Bool) (M2 : mm_M), F 0 v1 M = some (r, M2) → mm_P E Y_X4_readCondition nd [.ref 55, .int v1] M (some (.int (mm_b r))) M2) ∧ (∀ (v1 : Int32) (M : mm_M) (r : Bool) (M2 : mm_M), F 1 v1 M = some (r, M2) → mm_P E Y_X4_readPieces nd [.ref 55, .int v1] M (some (.int (mm_b r))) M2) ∧ (∀ (v1 : Int32) (M : mm_M) (r : Bool) (M2 : mm_M), F 2 v1 M = some (r, M2) → mm_P E Y_X4_readPiece nd [.ref 55, .int v1] M (some (.int (mm_b r))) M2)) (v1 : Int32) {k19 : mm_M → Option (Bool × mm_M)} {k33 : Int32 → mm_M → Option (Bool × mm_M)} {k60 : Int32 → mm_M → Option (Bool × mm_M)} (hk19 : ∀ (M : mm_M), mm_G (fun x : Bool => some (.int (mm_b x))) E Y_X4_readPieces (nd + 1) 19 [] [] M (k19 M)) (hk33 : ∀ (v2 : Int32) (M : mm_M), mm_G (fun x : Bool => some (.int (mm_b x))) E Y_X4_readPieces (nd + 1) 33 [(0, .ref 55), (2, .int v2)] [] M (k33 v2 M)) (hk60 : ∀ (v2 : Int32) (M : mm_M), mm_G (fun x : Bool => some (.int (mm_b x))) E Y_X4_readPieces (nd + 1) 60 [(0, .ref 55), (2, .int v2)] [] M (k60 v2 M)) : ∀ (n : Nat) (v2 : Int32) (v3 : Int32) (M : mm_M), mm_G (fun x : Bool => some (.int (mm_b x))) E Y_X4_readPieces (nd + 1) 4 [(0, .ref 55), (1, .int v1), (2, .int v2), (3, .int v3)] [] M (lp_LawReader_readPieces_4 F v1 k19 k33 k60 n v2 v3 M) := by
  have hB := hF.1
  intro n
  induction n with
  | zero => intro v2 v3 M r M2 he; cases he
  | succ n ih =>
    intro v2 v3 M
    rw [lp_LawReader_readPieces_4]
    refine mm_iload_n 3 dX4_readPieces_4 rfl ?_
    refine mm_sipush (v := 160) dX4_readPieces_5 rfl ?_
    refine mm_icmp_ge 60 dX4_readPieces_8 rfl ?_ ?_
    · refine mm_wk [0, 2] rfl ?_
      exact hk60 v2 M
    · refine mm_aload_n 0 dX4_readPieces_11 rfl ?_
      refine mm_iload_n 1 dX4_readPieces_12 rfl ?_
      refine mm_callVz (as := [.int v1]) (st := []) (hF.2.2.2 v1 M) dX4_readPieces_13 mz_X4_readPiece lk_RX4_84 im_X4_readPiece se_X4_readPiece lo_55 rfl rfl rfl ⟨by omega, by show 8 + (2 + 11) + _ ≤ _; omega⟩ (Nat.le_of_ble_eq_true rfl) (fun b_1 M_2 => ?_)
      refine mm_if_ne_b 21 dX4_readPieces_16 rfl ?_ ?_
      · refine mm_aload_n 0 dX4_readPieces_21 rfl ?_
        refine mm_getR 3 dX4_readPieces_22 fl_RX4_9 lo_55 rfl ?_
        refine mm_getI dX4_readPieces_25 fl_RX4_46 lo_3 rfl ?_
        refine mm_bipush (v := 38) dX4_readPieces_28 rfl ?_
        refine mm_icmp_eq 36 dX4_readPieces_30 rfl ?_ ?_
        · refine mm_aload_n 0 dX4_readPieces_36 rfl ?_
          refine mm_getR 3 dX4_readPieces_37 fl_RX4_9 lo_55 rfl ?_
          refine mm_callVv (as := []) (st := []) (c_TextReader_step E M_2) dX4_readPieces_40 mz_X10_step lk_RX4_58 im_X10_step se_X10_step lo_3 rfl rfl rfl ⟨by omega, by show 8 + (1 + 11) + _ ≤ _; omega⟩ (Nat.le_of_ble_eq_true rfl) (fun u_3 M_4 => ?_)
          refine mm_aload_n 0 dX4_readPieces_43 rfl ?_
          refine mm_getR 46 dX4_readPieces_44 fl_RX4_15 lo_55 rfl ?_
          refine mm_bipush (v := 38) dX4_readPieces_47 rfl ?_
          refine mm_iload_n 2 dX4_readPieces_49 rfl ?_
          refine mm_callVi (as := [.int 38, .int v2]) (st := []) (c_Law_addExit_46 E 38 v2 M_4) dX4_readPieces_50 mz_X3_addExit lk_RX4_77 im_X3_addExit se_X3_addExit lo_46 rfl rfl rfl ⟨by omega, by show 8 + (3 + 11) + _ ≤ _; omega⟩ (Nat.le_of_ble_eq_true rfl) (fun r_5 M_6 => ?_)
          refine mm_istore_n [1, 2, 0, 3] (lv2 := [(0, .ref 55), (1, .int v1), (2, .int r_5), (3, .int v3)]) dX4_readPieces_53 (by decide) rfl ?_
          refine mm_iincN 3 [1, 2, 3, 0] (v := v3 + 1) (lv2 := fun v3_7 => [(0, .ref 55), (1, .int v1), (2, .int r_5), (3, .int v3_7)]) dX4_readPieces_54 rfl rfl (by decide) (fun _ => rfl) (fun v3_7 => ?_)
          refine mm_goto 4 dX4_readPieces_57 rfl ?_
          exact ih r_5 v3_7 M_6
        · refine mm_wk [0, 2] rfl ?_
          exact hk33 v2 M_2
      · refine mm_wk [] rfl ?_
        exact hk19  M_2
def fb_LawReader_readPieces (F : Nat → Int32 → mm_M → Option (Bool × mm_M)) (v1 : Int32) (M : mm_M) : Option (Bool × mm_M) := lp_LawReader_readPieces_4 F v1 (fun (M_8 : mm_M) => some (false, M_8)) (fun (v2 : Int32) (M_9 : mm_M) => mm_bd (f_Law_endExit_46 v2 M_9) fun u_10 M_11 => some (true, M_11)) (fun (v2 : Int32) (M_12 : mm_M) => mm_bd (f_Law_endExit_46 v2 M_12) fun u_13 M_14 => some (true, M_14)) mm_fu (-1) 0 M
set_option maxHeartbeats 4000000 in
theorem cb_LawReader_readPieces (E : mm_E) {nd : Nat} {F : Nat → Int32 → mm_M → Option (Bool × mm_M)} (hF : 66 ≤ nd ∧ (∀ (v1 : Int32) (M : mm_M) (r : Bool) (M2 : mm_M), F 0 v1 M = some (r, M2) → mm_P E Y_X4_readCondition nd [.ref 55, .int v1] M (some (.int (mm_b r))) M2) ∧ (∀ (v1 : Int32) (M : mm_M) (r : Bool) (M2 : mm_M), F 1 v1 M = some (r, M2) → mm_P E Y_X4_readPieces nd [.ref 55, .int v1] M (some (.int (mm_b r))) M2) ∧ (∀ (v1 : Int32) (M : mm_M) (r : Bool) (M2 : mm_M), F 2 v1 M = some (r, M2) → mm_P E Y_X4_readPiece nd [.ref 55, .int v1] M (some (.int (mm_b r))) M2)) (v1 : Int32) (M : mm_M) : ∀ (r : Bool) (M2 : mm_M), fb_LawReader_readPieces F v1 M = some (r, M2) → mm_P E Y_X4_readPieces (nd + 1) [.ref 55, .int v1] M (some (.int (mm_b r))) M2 := by
  have hB := hF.1
  refine mm_entry (em := (fun x : Bool => some (.int (mm_b x)))) (by decide +kernel) (Nat.le_of_ble_eq_true rfl) ?_
  show mm_G _ E _ _ 0 [(0, .ref 55), (1, .int v1)] [] M _
  unfold fb_LawReader_readPieces
  refine mm_iconst (v := (-1)) dX4_readPieces_0 rfl ?_
  refine mm_istore_n [1, 2, 0] (lv2 := [(0, .ref 55), (1, .int v1), (2, .int (-1))]) dX4_readPieces_1 (by decide) rfl ?_
  refine mm_iconst (v := 0) dX4_readPieces_2 rfl ?_
  refine mm_istore_n [1, 2, 3, 0] (lv2 := [(0, .ref 55), (1, .int v1), (2, .int (-1)), (3, .int 0)]) dX4_readPieces_3 (by decide) rfl ?_
  refine lp_LawReader_readPieces_4_ok E hF v1 ?_ ?_ ?_ mm_fu (-1) 0 M
  · intro M_8
    refine mm_iconst (v := 0) dX4_readPieces_19 rfl ?_
    exact mm_zret (b := false) dX4_readPieces_20 rfl
  · intro v2 M_9
    refine mm_goto 60 dX4_readPieces_33 rfl ?_
    refine mm_aload_n 0 dX4_readPieces_60 rfl ?_
    refine mm_getR 46 dX4_readPieces_61 fl_RX4_15 lo_55 rfl ?_
    refine mm_iload_n 1 dX4_readPieces_64 rfl ?_
    refine mm_callVv (as := [.int v2]) (st := []) (c_Law_endExit_46 E v2 M_9) dX4_readPieces_65 mz_X3_endExit lk_RX4_81 im_X3_endExit se_X3_endExit lo_46 rfl rfl rfl ⟨by omega, by show 8 + (2 + 11) + _ ≤ _; omega⟩ (Nat.le_of_ble_eq_true rfl) (fun u_10 M_11 => ?_)
    refine mm_iconst (v := 1) dX4_readPieces_68 rfl ?_
    exact mm_zret (b := true) dX4_readPieces_69 rfl
  · intro v2 M_12
    refine mm_aload_n 0 dX4_readPieces_60 rfl ?_
    refine mm_getR 46 dX4_readPieces_61 fl_RX4_15 lo_55 rfl ?_
    refine mm_iload_n 1 dX4_readPieces_64 rfl ?_
    refine mm_callVv (as := [.int v2]) (st := []) (c_Law_endExit_46 E v2 M_12) dX4_readPieces_65 mz_X3_endExit lk_RX4_81 im_X3_endExit se_X3_endExit lo_46 rfl rfl rfl ⟨by omega, by show 8 + (2 + 11) + _ ≤ _; omega⟩ (Nat.le_of_ble_eq_true rfl) (fun u_13 M_14 => ?_)
    refine mm_iconst (v := 1) dX4_readPieces_68 rfl ?_
    exact mm_zret (b := true) dX4_readPieces_69 rfl
def fb_LawReader_readPiece (F : Nat → Int32 → mm_M → Option (Bool × mm_M)) (v1 : Int32) (M : mm_M) : Option (Bool × mm_M) := if M.1 3 3 = 33 then mm_bd (f_LawReader_mayOpen v1 M) fun b_9 M_10 => if b_9 = true then mm_bd (F 2 (v1 + 1) M_10) fun b_11 M_12 => if b_11 = true then mm_bd (f_Law_addStep_46 33 0 M_12) fun u_13 M_14 => some (true, M_14) else some (false, M_12) else some (false, M_10) else if M.1 3 3 = 40 then mm_bd (f_LawReader_mayOpen v1 M) fun b_3 M_4 => if b_3 = true then mm_bd (F 0 (v1 + 1) M_4) fun b_5 M_6 => if b_5 = true then mm_bd (f_TextReader_take 41 M_6) fun b_7 M_8 => if b_7 = true then some (true, M_8) else some (false, M_8) else some (false, M_6) else some (false, M_4) else mm_bd (f_LawReader_readComparison v1 M) fun b_1 M_2 => some (b_1, M_2)
set_option maxHeartbeats 4000000 in
theorem cb_LawReader_readPiece (E : mm_E) {nd : Nat} {F : Nat → Int32 → mm_M → Option (Bool × mm_M)} (hF : 66 ≤ nd ∧ (∀ (v1 : Int32) (M : mm_M) (r : Bool) (M2 : mm_M), F 0 v1 M = some (r, M2) → mm_P E Y_X4_readCondition nd [.ref 55, .int v1] M (some (.int (mm_b r))) M2) ∧ (∀ (v1 : Int32) (M : mm_M) (r : Bool) (M2 : mm_M), F 1 v1 M = some (r, M2) → mm_P E Y_X4_readPieces nd [.ref 55, .int v1] M (some (.int (mm_b r))) M2) ∧ (∀ (v1 : Int32) (M : mm_M) (r : Bool) (M2 : mm_M), F 2 v1 M = some (r, M2) → mm_P E Y_X4_readPiece nd [.ref 55, .int v1] M (some (.int (mm_b r))) M2)) (v1 : Int32) (M : mm_M) : ∀ (r : Bool) (M2 : mm_M), fb_LawReader_readPiece F v1 M = some (r, M2) → mm_P E Y_X4_readPiece (nd + 1) [.ref 55, .int v1] M (some (.int (mm_b r))) M2 := by
  have hB := hF.1
  refine mm_entry (em := (fun x : Bool => some (.int (mm_b x)))) (by decide +kernel) (Nat.le_of_ble_eq_true rfl) ?_
  show mm_G _ E _ _ 0 [(0, .ref 55), (1, .int v1)] [] M _
  unfold fb_LawReader_readPiece
  refine mm_aload_n 0 dX4_readPiece_0 rfl ?_
  refine mm_getR 3 dX4_readPiece_1 fl_RX4_9 lo_55 rfl ?_
  refine mm_getI dX4_readPiece_4 fl_RX4_46 lo_3 rfl ?_
  refine mm_bipush (v := 33) dX4_readPiece_7 rfl ?_
  refine mm_icmp_ne 44 dX4_readPiece_9 rfl ?_ ?_
  · refine mm_aload_n 0 dX4_readPiece_44 rfl ?_
    refine mm_getR 3 dX4_readPiece_45 fl_RX4_9 lo_55 rfl ?_
    refine mm_getI dX4_readPiece_48 fl_RX4_46 lo_3 rfl ?_
    refine mm_bipush (v := 40) dX4_readPiece_51 rfl ?_
    refine mm_icmp_ne 92 dX4_readPiece_53 rfl ?_ ?_
    · refine mm_aload_n 0 dX4_readPiece_92 rfl ?_
      refine mm_iload_n 1 dX4_readPiece_93 rfl ?_
      refine mm_callVz (as := [.int v1]) (st := []) (c_LawReader_readComparison E v1 M) dX4_readPiece_94 mz_X4_readComparison lk_RX4_94 im_X4_readComparison se_X4_readComparison lo_55 rfl rfl rfl ⟨by omega, by show 8 + (3 + 11) + _ ≤ _; omega⟩ (Nat.le_of_ble_eq_true rfl) (fun b_1 M_2 => ?_)
      exact mm_zret (b := b_1) dX4_readPiece_97 rfl
    · refine mm_aload_n 0 dX4_readPiece_56 rfl ?_
      refine mm_iload_n 1 dX4_readPiece_57 rfl ?_
      refine mm_callVz (as := [.int v1]) (st := []) (c_LawReader_mayOpen E v1 M) dX4_readPiece_58 mz_X4_mayOpen lk_RX4_87 im_X4_mayOpen se_X4_mayOpen lo_55 rfl rfl rfl ⟨by omega, by show 8 + (2 + 11) + _ ≤ _; omega⟩ (Nat.le_of_ble_eq_true rfl) (fun b_3 M_4 => ?_)
      refine mm_if_eq_b 90 dX4_readPiece_61 rfl ?_ ?_
      · refine mm_iconst (v := 0) dX4_readPiece_90 rfl ?_
        exact mm_zret (b := false) dX4_readPiece_91 rfl
      · refine mm_aload_n 0 dX4_readPiece_64 rfl ?_
        refine mm_iload_n 1 dX4_readPiece_65 rfl ?_
        refine mm_iconst (v := 1) dX4_readPiece_66 rfl ?_
        refine mm_iadd dX4_readPiece_67 ?_
        refine mm_callVz (as := [.int (v1 + 1)]) (st := []) (hF.2.1 (v1 + 1) M_4) dX4_readPiece_68 mz_X4_readCondition lk_RX4_67 im_X4_readCondition se_X4_readCondition lo_55 rfl rfl rfl ⟨by omega, by show 8 + (4 + 11) + _ ≤ _; omega⟩ (Nat.le_of_ble_eq_true rfl) (fun b_5 M_6 => ?_)
        refine mm_if_eq_b 90 dX4_readPiece_71 rfl ?_ ?_
        · refine mm_iconst (v := 0) dX4_readPiece_90 rfl ?_
          exact mm_zret (b := false) dX4_readPiece_91 rfl
        · refine mm_aload_n 0 dX4_readPiece_74 rfl ?_
          refine mm_getR 3 dX4_readPiece_75 fl_RX4_9 lo_55 rfl ?_
          refine mm_bipush (v := 41) dX4_readPiece_78 rfl ?_
          refine mm_callVz (as := [.int 41]) (st := []) (c_TextReader_take E 41 M_6) dX4_readPiece_80 mz_X10_take lk_RX4_42 im_X10_take se_X10_take lo_3 rfl rfl rfl ⟨by omega, by show 8 + (2 + 11) + _ ≤ _; omega⟩ (Nat.le_of_ble_eq_true rfl) (fun b_7 M_8 => ?_)
          refine mm_if_eq_b 90 dX4_readPiece_83 rfl ?_ ?_
          · refine mm_iconst (v := 0) dX4_readPiece_90 rfl ?_
            exact mm_zret (b := false) dX4_readPiece_91 rfl
          · refine mm_iconst (v := 1) dX4_readPiece_86 rfl ?_
            refine mm_goto 91 dX4_readPiece_87 rfl ?_
            exact mm_zret (b := true) dX4_readPiece_91 rfl
  · refine mm_aload_n 0 dX4_readPiece_12 rfl ?_
    refine mm_iload_n 1 dX4_readPiece_13 rfl ?_
    refine mm_callVz (as := [.int v1]) (st := []) (c_LawReader_mayOpen E v1 M) dX4_readPiece_14 mz_X4_mayOpen lk_RX4_87 im_X4_mayOpen se_X4_mayOpen lo_55 rfl rfl rfl ⟨by omega, by show 8 + (2 + 11) + _ ≤ _; omega⟩ (Nat.le_of_ble_eq_true rfl) (fun b_9 M_10 => ?_)
    refine mm_if_eq_b 30 dX4_readPiece_17 rfl ?_ ?_
    · refine mm_iconst (v := 0) dX4_readPiece_30 rfl ?_
      exact mm_zret (b := false) dX4_readPiece_31 rfl
    · refine mm_aload_n 0 dX4_readPiece_20 rfl ?_
      refine mm_iload_n 1 dX4_readPiece_21 rfl ?_
      refine mm_iconst (v := 1) dX4_readPiece_22 rfl ?_
      refine mm_iadd dX4_readPiece_23 ?_
      refine mm_callVz (as := [.int (v1 + 1)]) (st := []) (hF.2.2.2 (v1 + 1) M_10) dX4_readPiece_24 mz_X4_readPiece lk_RX4_84 im_X4_readPiece se_X4_readPiece lo_55 rfl rfl rfl ⟨by omega, by show 8 + (2 + 11) + _ ≤ _; omega⟩ (Nat.le_of_ble_eq_true rfl) (fun b_11 M_12 => ?_)
      refine mm_if_ne_b 32 dX4_readPiece_27 rfl ?_ ?_
      · refine mm_aload_n 0 dX4_readPiece_32 rfl ?_
        refine mm_getR 46 dX4_readPiece_33 fl_RX4_15 lo_55 rfl ?_
        refine mm_bipush (v := 33) dX4_readPiece_36 rfl ?_
        refine mm_iconst (v := 0) dX4_readPiece_38 rfl ?_
        refine mm_callVv (as := [.int 33, .int 0]) (st := []) (c_Law_addStep_46 E 33 0 M_12) dX4_readPiece_39 mz_X3_addStep lk_RX4_90 im_X3_addStep se_X3_addStep lo_46 rfl rfl rfl ⟨by omega, by show 8 + (3 + 11) + _ ≤ _; omega⟩ (Nat.le_of_ble_eq_true rfl) (fun u_13 M_14 => ?_)
        refine mm_iconst (v := 1) dX4_readPiece_42 rfl ?_
        exact mm_zret (b := true) dX4_readPiece_43 rfl
      · refine mm_iconst (v := 0) dX4_readPiece_30 rfl ?_
        exact mm_zret (b := false) dX4_readPiece_31 rfl
def g_LawReader_readCondition : Nat → Nat → Int32 → mm_M → Option (Bool × mm_M)
  | 0, _, _, _ => none
  | n + 1, i, v1, M => if i = 0 then fb_LawReader_readCondition (g_LawReader_readCondition n) v1 M else if i = 1 then fb_LawReader_readPieces (g_LawReader_readCondition n) v1 M else if i = 2 then fb_LawReader_readPiece (g_LawReader_readCondition n) v1 M else none
theorem g_LawReader_readCondition_ok (E : mm_E) : ∀ (n nd : Nat), nd = 66 + n → (∀ (v1 : Int32) (M : mm_M) (r : Bool) (M2 : mm_M), g_LawReader_readCondition n 0 v1 M = some (r, M2) → mm_P E Y_X4_readCondition nd [.ref 55, .int v1] M (some (.int (mm_b r))) M2) ∧ (∀ (v1 : Int32) (M : mm_M) (r : Bool) (M2 : mm_M), g_LawReader_readCondition n 1 v1 M = some (r, M2) → mm_P E Y_X4_readPieces nd [.ref 55, .int v1] M (some (.int (mm_b r))) M2) ∧ (∀ (v1 : Int32) (M : mm_M) (r : Bool) (M2 : mm_M), g_LawReader_readCondition n 2 v1 M = some (r, M2) → mm_P E Y_X4_readPiece nd [.ref 55, .int v1] M (some (.int (mm_b r))) M2) := by
  intro n
  induction n with
  | zero => exact fun nd _ => ⟨(fun v1 M r M2 h => by cases h), (fun v1 M r M2 h => by cases h), (fun v1 M r M2 h => by cases h)⟩
  | succ n ih =>
    intro nd hnd
    obtain ⟨nd, rfl⟩ : ∃ k, nd = k + 1 := ⟨66 + n, by omega⟩
    have hF := And.intro (show 66 ≤ nd by omega) (ih nd (by omega))
    refine ⟨?_, ?_, ?_⟩
    · intro v1 M r M2 h
      rw [g_LawReader_readCondition, if_pos rfl] at h
      exact cb_LawReader_readCondition E (F := g_LawReader_readCondition n) hF v1 M r M2 h
    · intro v1 M r M2 h
      rw [g_LawReader_readCondition, if_neg (by decide), if_pos rfl] at h
      exact cb_LawReader_readPieces E (F := g_LawReader_readCondition n) hF v1 M r M2 h
    · intro v1 M r M2 h
      rw [g_LawReader_readCondition, if_neg (by decide), if_neg (by decide), if_pos rfl] at h
      exact cb_LawReader_readPiece E (F := g_LawReader_readCondition n) hF v1 M r M2 h
def f_LawReader_readCondition (n : Nat) (v1 : Int32) (M : mm_M) : Option (Bool × mm_M) := g_LawReader_readCondition n 0 v1 M
theorem c_LawReader_readCondition (E : mm_E) (n : Nat) (v1 : Int32) (M : mm_M) : ∀ (r : Bool) (M2 : mm_M), f_LawReader_readCondition n v1 M = some (r, M2) → mm_P E Y_X4_readCondition (66 + n) [.ref 55, .int v1] M (some (.int (mm_b r))) M2 := fun r M2 h => (g_LawReader_readCondition_ok E n _ rfl).1 v1 M r M2 h
def f_LawReader_readPieces (n : Nat) (v1 : Int32) (M : mm_M) : Option (Bool × mm_M) := g_LawReader_readCondition n 1 v1 M
theorem c_LawReader_readPieces (E : mm_E) (n : Nat) (v1 : Int32) (M : mm_M) : ∀ (r : Bool) (M2 : mm_M), f_LawReader_readPieces n v1 M = some (r, M2) → mm_P E Y_X4_readPieces (66 + n) [.ref 55, .int v1] M (some (.int (mm_b r))) M2 := fun r M2 h => (g_LawReader_readCondition_ok E n _ rfl).2.1 v1 M r M2 h
def f_LawReader_readPiece (n : Nat) (v1 : Int32) (M : mm_M) : Option (Bool × mm_M) := g_LawReader_readCondition n 2 v1 M
theorem c_LawReader_readPiece (E : mm_E) (n : Nat) (v1 : Int32) (M : mm_M) : ∀ (r : Bool) (M2 : mm_M), f_LawReader_readPiece n v1 M = some (r, M2) → mm_P E Y_X4_readPiece (66 + n) [.ref 55, .int v1] M (some (.int (mm_b r))) M2 := fun r M2 h => (g_LawReader_readCondition_ok E n _ rfl).2.2 v1 M r M2 h
