def lp_Service_serve_2 (v1 : Int32) (v2 : Int32) (k127 : mm_M → Option (Unit × mm_M)) : Nat → Int32 → mm_M → Option (Unit × mm_M)
  | 0, _, _ => none
  | n + 1, v3, M => if 3 ≤ v3 then k127 M else mm_let ((v3 * 24) + v2) fun v4_1 => if mm_in v1 10 = true then if mm_in v4_1 (mm_al (58 + v1.toNatClampNeg)) = true then mm_let (M.2.1 (58 + v1.toNatClampNeg) v4_1.toNatClampNeg) fun v5_2 => mm_jn (fun (v3 : Int32) (v4 : Int32) (v5 : Int32) (s0 : Int32) (M_3 : mm_M) => if mm_in v3 (mm_al 88) = true then if mm_in v3 (mm_al 88) = true then mm_let (mm_setA M_3 88 (v3.toNatClampNeg) ((M_3.2.1 88 v3.toNatClampNeg) - s0)) fun M_4 => if mm_in v1 10 = true then if mm_in v4 (mm_al (75 + v1.toNatClampNeg)) = true then mm_let (mm_setA M_4 (75 + v1.toNatClampNeg) (v4.toNatClampNeg) s0) fun M_5 => if mm_in v1 (mm_al 85) = true then if mm_in v1 (mm_al 85) = true then mm_let (mm_setA M_5 85 (v1.toNatClampNeg) ((M_5.2.1 85 v1.toNatClampNeg) + (v5 - s0))) fun M_6 => mm_bd (f_Service_harmOf v1 v4 (v5 - s0) M_6) fun r_7 M_8 => mm_let (mm_setI M_8 73 6 ((M_6.1 73 6) + r_7)) fun M_9 => mm_let (v3 + 1) fun v3_10 => lp_Service_serve_2 v1 v2 k127 n v3_10 M_9 else none else none else none else none else none else none) fun j62 => if v3 = 0 then if mm_in v1 (mm_al 68) = true then mm_bd (f_Service_giveRain (M.2.1 68 v1.toNatClampNeg) v5_2 M) fun r_13 M_14 => j62 v3 v4_1 v5_2 r_13 M_14 else none else if mm_in v3 (mm_al 88) = true then mm_bd (f_Math_min v5_2 (M.2.1 88 v3.toNatClampNeg) M) fun r_11 M_12 => j62 v3 v4_1 v5_2 r_11 M_12 else none else none else none
set_option maxHeartbeats 4000000 in
theorem lp_Service_serve_2_ok (E : mm_E) (v1 : Int32) (v2 : Int32) {k127 : mm_M → Option (Unit × mm_M)} (hk127 : ∀ (M : mm_M), mm_G (fun _ : Unit => none) E Y_X8_serve 5 127 [] [] M (k127 M)) : ∀ (n : Nat) (v3 : Int32) (M : mm_M), mm_G (fun _ : Unit => none) E Y_X8_serve 5 2 [(0, .ref 73), (1, .int v1), (2, .int v2), (3, .int v3)] [] M (lp_Service_serve_2 v1 v2 k127 n v3 M) := by
  intro n
  induction n with
  | zero => intro v3 M r M2 he; cases he
  | succ n ih =>
    intro v3 M
    rw [lp_Service_serve_2]
    refine mm_iload_n 3 dX8_serve_2 rfl ?_
    refine mm_iconst (v := 3) dX8_serve_3 rfl ?_
    refine mm_icmp_ge 127 dX8_serve_4 rfl ?_ ?_
    · refine mm_wk [] rfl ?_
      exact hk127  M
    · refine mm_iload_n 3 dX8_serve_7 rfl ?_
      refine mm_bipush (v := 24) dX8_serve_8 rfl ?_
      refine mm_imul dX8_serve_10 ?_
      refine mm_iload_n 2 dX8_serve_11 rfl ?_
      refine mm_iadd dX8_serve_12 ?_
      refine mm_nm_int (fun v4_1 => ?_)
      refine mm_istore [1, 2, 3, 4, 0] (lv2 := [(0, .ref 73), (1, .int v1), (2, .int v2), (3, .int v3), (4, .int v4_1)]) dX8_serve_13 (by decide) rfl ?_
      refine mm_aload_n 0 dX8_serve_15 rfl ?_
      refine mm_getR 56 dX8_serve_16 fl_RX8_53 lo_73 rfl ?_
      refine mm_getR 57 dX8_serve_19 fl_RX8_125 lo_56 rfl ?_
      refine mm_iload_n 1 dX8_serve_22 rfl ?_
      refine mm_aaload dX8_serve_23 lo_57 ?_
      refine mm_iload 4 dX8_serve_24 rfl ?_
      refine mm_iaload dX8_serve_26 ?_
      refine mm_nm_int (fun v5_2 => ?_)
      refine mm_istore [1, 2, 3, 4, 5, 0] (lv2 := [(0, .ref 73), (1, .int v1), (2, .int v2), (3, .int v3), (4, .int v4_1), (5, .int v5_2)]) dX8_serve_27 (by decide) rfl ?_
      refine mm_iload_n 3 dX8_serve_29 rfl ?_
      refine mm_jnP (P := fun j => ∀ (v3 : Int32) (v4 : Int32) (v5 : Int32) (s0 : Int32) (M : mm_M), mm_G (fun _ : Unit => none) E Y_X8_serve 5 62 [(0, .ref 73), (1, .int v1), (2, .int v2), (3, .int v3), (4, .int v4), (5, .int v5)] [.int s0] M (j v3 v4 v5 s0 M)) ?_ (fun j62 hj62 => ?_)
      · intro v3 v4 v5 s0 M_3
        refine mm_istore [1, 2, 3, 4, 5, 6, 0] (lv2 := [(0, .ref 73), (1, .int v1), (2, .int v2), (3, .int v3), (4, .int v4), (5, .int v5), (6, .int s0)]) dX8_serve_62 (by decide) rfl ?_
        refine mm_aload_n 0 dX8_serve_64 rfl ?_
        refine mm_getR 88 dX8_serve_65 fl_RX8_26 lo_73 rfl ?_
        refine mm_iload_n 3 dX8_serve_68 rfl ?_
        refine mm_dup2 dX8_serve_69 rfl rfl ?_
        refine mm_iaload dX8_serve_70 ?_
        refine mm_iload 6 dX8_serve_71 rfl ?_
        refine mm_isub dX8_serve_73 ?_
        refine mm_iastore dX8_serve_74 ?_
        refine mm_nm_M (fun M_4 => ?_)
        refine mm_aload_n 0 dX8_serve_75 rfl ?_
        refine mm_getR 74 dX8_serve_76 fl_RX8_11 lo_73 rfl ?_
        refine mm_iload_n 1 dX8_serve_79 rfl ?_
        refine mm_aaload dX8_serve_80 lo_74 ?_
        refine mm_iload 4 dX8_serve_81 rfl ?_
        refine mm_iload 6 dX8_serve_83 rfl ?_
        refine mm_iastore dX8_serve_85 ?_
        refine mm_nm_M (fun M_5 => ?_)
        refine mm_aload_n 0 dX8_serve_86 rfl ?_
        refine mm_getR 85 dX8_serve_87 fl_RX8_16 lo_73 rfl ?_
        refine mm_iload_n 1 dX8_serve_90 rfl ?_
        refine mm_dup2 dX8_serve_91 rfl rfl ?_
        refine mm_iaload dX8_serve_92 ?_
        refine mm_iload 5 dX8_serve_93 rfl ?_
        refine mm_iload 6 dX8_serve_95 rfl ?_
        refine mm_isub dX8_serve_97 ?_
        refine mm_iadd dX8_serve_98 ?_
        refine mm_iastore dX8_serve_99 ?_
        refine mm_nm_M (fun M_6 => ?_)
        refine mm_aload_n 0 dX8_serve_100 rfl ?_
        refine mm_dup dX8_serve_101 rfl ?_
        refine mm_getI dX8_serve_102 fl_RX8_62 lo_73 rfl ?_
        refine mm_aload_n 0 dX8_serve_105 rfl ?_
        refine mm_iload_n 1 dX8_serve_106 rfl ?_
        refine mm_iload 4 dX8_serve_107 rfl ?_
        refine mm_iload 5 dX8_serve_109 rfl ?_
        refine mm_iload 6 dX8_serve_111 rfl ?_
        refine mm_isub dX8_serve_113 ?_
        refine mm_callVi (as := [.int v1, .int v4, .int (v5 - s0)]) (st := [.int (M_6.1 73 6), .ref 73]) (c_Service_harmOf E v1 v4 (v5 - s0) M_6) dX8_serve_114 mz_X8_harmOf lk_RX8_140 im_X8_harmOf se_X8_harmOf lo_73 rfl rfl rfl ⟨Nat.le_of_ble_eq_true rfl, Nat.le_of_ble_eq_true rfl⟩ (Nat.le_of_ble_eq_true rfl) (fun r_7 M_8 => ?_)
        refine mm_iadd dX8_serve_117 ?_
        refine mm_putI dX8_serve_118 fp_RX8_62 lo_73 rfl ?_
        refine mm_nm_M (fun M_9 => ?_)
        refine mm_iincN 3 [1, 2, 3, 0, 4, 5, 6] (v := v3 + 1) (lv2 := fun v3_10 => [(0, .ref 73), (1, .int v1), (2, .int v2), (3, .int v3_10), (4, .int v4), (5, .int v5), (6, .int s0)]) dX8_serve_121 rfl rfl (by decide) (fun _ => rfl) (fun v3_10 => ?_)
        refine mm_goto 2 dX8_serve_124 rfl ?_
        refine mm_wk [0, 1, 2, 3] rfl ?_
        exact ih v3_10 M_9
      refine mm_if_ne 51 dX8_serve_30 rfl ?_ ?_
      · refine mm_iload 5 dX8_serve_51 rfl ?_
        refine mm_aload_n 0 dX8_serve_53 rfl ?_
        refine mm_getR 88 dX8_serve_54 fl_RX8_26 lo_73 rfl ?_
        refine mm_iload_n 3 dX8_serve_57 rfl ?_
        refine mm_iaload dX8_serve_58 ?_
        refine mm_callSi (as := [.int v5_2, .int (M.2.1 88 v3.toNatClampNeg)]) (st := []) (c_Math_min E v5_2 (M.2.1 88 v3.toNatClampNeg) M) dX8_serve_59 mz_J9_min_7cf53 lk_RX8_135 sm_J9_min_7cf53 rfl ⟨Nat.le_of_ble_eq_true rfl, Nat.le_of_ble_eq_true rfl⟩ (Nat.le_of_ble_eq_true rfl) (fun r_11 M_12 => ?_)
        exact hj62 v3 v4_1 v5_2 r_11 M_12
      · refine mm_aload_n 0 dX8_serve_33 rfl ?_
        refine mm_aload_n 0 dX8_serve_34 rfl ?_
        refine mm_getR 56 dX8_serve_35 fl_RX8_53 lo_73 rfl ?_
        refine mm_getR 68 dX8_serve_38 fl_RX8_128 lo_56 rfl ?_
        refine mm_iload_n 1 dX8_serve_41 rfl ?_
        refine mm_iaload dX8_serve_42 ?_
        refine mm_iload 5 dX8_serve_43 rfl ?_
        refine mm_callVi (as := [.int (M.2.1 68 v1.toNatClampNeg), .int v5_2]) (st := []) (c_Service_giveRain E (M.2.1 68 v1.toNatClampNeg) v5_2 M) dX8_serve_45 mz_X8_giveRain lk_RX8_131 im_X8_giveRain se_X8_giveRain lo_73 rfl rfl rfl ⟨Nat.le_of_ble_eq_true rfl, Nat.le_of_ble_eq_true rfl⟩ (Nat.le_of_ble_eq_true rfl) (fun r_13 M_14 => ?_)
        refine mm_goto 62 dX8_serve_48 rfl ?_
        exact hj62 v3 v4_1 v5_2 r_13 M_14
def f_Service_serve (v1 : Int32) (v2 : Int32) (M : mm_M) : Option (Unit × mm_M) := lp_Service_serve_2 v1 v2 (fun (M_15 : mm_M) => some ((), M_15)) mm_fu 0 M
set_option maxHeartbeats 4000000 in
theorem c_Service_serve (E : mm_E) (v1 : Int32) (v2 : Int32) (M : mm_M) : ∀ (r : Unit) (M2 : mm_M), f_Service_serve v1 v2 M = some (r, M2) → mm_P E Y_X8_serve 5 [.ref 73, .int v1, .int v2] M none M2 := by
  refine mm_entry (em := (fun _ : Unit => none)) (by decide +kernel) (Nat.le_of_ble_eq_true rfl) ?_
  show mm_G _ E _ _ 0 [(0, .ref 73), (1, .int v1), (2, .int v2)] [] M _
  unfold f_Service_serve
  refine mm_iconst (v := 0) dX8_serve_0 rfl ?_
  refine mm_istore_n [1, 2, 3, 0] (lv2 := [(0, .ref 73), (1, .int v1), (2, .int v2), (3, .int 0)]) dX8_serve_1 (by decide) rfl ?_
  refine lp_Service_serve_2_ok E v1 v2 ?_ mm_fu 0 M
  · intro M_15
    exact mm_vret dX8_serve_127 rfl
def lp_Service_serveHour_57 (v1 : Int32) (v2 : Int32) (k79 : mm_M → Option (Unit × mm_M)) : Nat → Int32 → mm_M → Option (Unit × mm_M)
  | 0, _, _ => none
  | n + 1, v3, M => if v2 ≤ v3 then k79 M else if mm_in v3 (mm_al 86) = true then mm_bd (f_Service_serve (M.2.1 86 v3.toNatClampNeg) v1 M) fun u_8 M_9 => mm_let (v3 + 1) fun v3_10 => lp_Service_serveHour_57 v1 v2 k79 n v3_10 M_9 else none
set_option maxHeartbeats 4000000 in
theorem lp_Service_serveHour_57_ok (E : mm_E) (v1 : Int32) (v2 : Int32) {k79 : mm_M → Option (Unit × mm_M)} (hk79 : ∀ (M : mm_M), mm_G (fun _ : Unit => none) E Y_X8_serveHour 6 79 [] [] M (k79 M)) : ∀ (n : Nat) (v3 : Int32) (M : mm_M), mm_G (fun _ : Unit => none) E Y_X8_serveHour 6 57 [(0, .ref 73), (1, .int v1), (2, .int v2), (3, .int v3)] [] M (lp_Service_serveHour_57 v1 v2 k79 n v3 M) := by
  intro n
  induction n with
  | zero => intro v3 M r M2 he; cases he
  | succ n ih =>
    intro v3 M
    rw [lp_Service_serveHour_57]
    refine mm_iload_n 3 dX8_serveHour_57 rfl ?_
    refine mm_iload_n 2 dX8_serveHour_58 rfl ?_
    refine mm_icmp_ge 79 dX8_serveHour_59 rfl ?_ ?_
    · refine mm_wk [] rfl ?_
      exact hk79  M
    · refine mm_aload_n 0 dX8_serveHour_62 rfl ?_
      refine mm_aload_n 0 dX8_serveHour_63 rfl ?_
      refine mm_getR 86 dX8_serveHour_64 fl_RX8_20 lo_73 rfl ?_
      refine mm_iload_n 3 dX8_serveHour_67 rfl ?_
      refine mm_iaload dX8_serveHour_68 ?_
      refine mm_iload_n 1 dX8_serveHour_69 rfl ?_
      refine mm_callVv (as := [.int (M.2.1 86 v3.toNatClampNeg), .int v1]) (st := []) (c_Service_serve E (M.2.1 86 v3.toNatClampNeg) v1 M) dX8_serveHour_70 mz_X8_serve lk_RX8_101 im_X8_serve se_X8_serve lo_73 rfl rfl rfl ⟨Nat.le_of_ble_eq_true rfl, Nat.le_of_ble_eq_true rfl⟩ (Nat.le_of_ble_eq_true rfl) (fun u_8 M_9 => ?_)
      refine mm_iincN 3 [1, 2, 3, 0] (v := v3 + 1) (lv2 := fun v3_10 => [(0, .ref 73), (1, .int v1), (2, .int v2), (3, .int v3_10)]) dX8_serveHour_73 rfl rfl (by decide) (fun _ => rfl) (fun v3_10 => ?_)
      refine mm_goto 57 dX8_serveHour_76 rfl ?_
      exact ih v3_10 M_9
def f_Service_serveHour (v1 : Int32) (M : mm_M) : Option (Unit × mm_M) := mm_bd (f_House_afterInflow (M.1 73 7) M) fun r_1 M_2 => mm_let (mm_setI M_2 73 7 r_1) fun M_3 => if mm_cpok 24 88 0 0 3 = true then mm_let (mm_cp M_3 24 88 0 0 3) fun M_4 => if mm_cpok 26 89 0 0 4 = true then mm_let (mm_cp M_4 26 89 0 0 4) fun M_5 => mm_bd (f_Service_orderStays v1 M_5) fun r_6 M_7 => lp_Service_serveHour_57 v1 r_6 (fun (M_11 : mm_M) => some ((), M_11)) mm_fu 0 M_7 else none else none
set_option maxHeartbeats 4000000 in
theorem c_Service_serveHour (E : mm_E) (v1 : Int32) (M : mm_M) : ∀ (r : Unit) (M2 : mm_M), f_Service_serveHour v1 M = some (r, M2) → mm_P E Y_X8_serveHour 6 [.ref 73, .int v1] M none M2 := by
  refine mm_entry (em := (fun _ : Unit => none)) (by decide +kernel) (Nat.le_of_ble_eq_true rfl) ?_
  show mm_G _ E _ _ 0 [(0, .ref 73), (1, .int v1)] [] M _
  unfold f_Service_serveHour
  refine mm_aload_n 0 dX8_serveHour_0 rfl ?_
  refine mm_aload_n 0 dX8_serveHour_1 rfl ?_
  refine mm_getR 22 dX8_serveHour_2 fl_RX8_41 lo_73 rfl ?_
  refine mm_aload_n 0 dX8_serveHour_5 rfl ?_
  refine mm_getI dX8_serveHour_6 fl_RX8_71 lo_73 rfl ?_
  refine mm_callVi (as := [.int (M.1 73 7)]) (st := [.ref 73]) (c_House_afterInflow E (M.1 73 7) M) dX8_serveHour_9 mz_X2_afterInflow lk_RX8_82 im_X2_afterInflow se_X2_afterInflow lo_22 rfl rfl rfl ⟨Nat.le_of_ble_eq_true rfl, Nat.le_of_ble_eq_true rfl⟩ (Nat.le_of_ble_eq_true rfl) (fun r_1 M_2 => ?_)
  refine mm_putI dX8_serveHour_12 fp_RX8_71 lo_73 rfl ?_
  refine mm_nm_M (fun M_3 => ?_)
  refine mm_aload_n 0 dX8_serveHour_15 rfl ?_
  refine mm_getR 22 dX8_serveHour_16 fl_RX8_41 lo_73 rfl ?_
  refine mm_getR 24 dX8_serveHour_19 fl_RX8_86 lo_22 rfl ?_
  refine mm_iconst (v := 0) dX8_serveHour_22 rfl ?_
  refine mm_aload_n 0 dX8_serveHour_23 rfl ?_
  refine mm_getR 88 dX8_serveHour_24 fl_RX8_26 lo_73 rfl ?_
  refine mm_iconst (v := 0) dX8_serveHour_27 rfl ?_
  refine mm_iconst (v := 3) dX8_serveHour_28 rfl ?_
  refine mm_copy dX8_serveHour_29 lk_RX8_89 wd_copy ⟨Nat.le_of_ble_eq_true rfl, Nat.le_of_ble_eq_true rfl⟩ ?_
  refine mm_nm_M (fun M_4 => ?_)
  refine mm_aload_n 0 dX8_serveHour_32 rfl ?_
  refine mm_getR 22 dX8_serveHour_33 fl_RX8_41 lo_73 rfl ?_
  refine mm_getR 26 dX8_serveHour_36 fl_RX8_95 lo_22 rfl ?_
  refine mm_iconst (v := 0) dX8_serveHour_39 rfl ?_
  refine mm_aload_n 0 dX8_serveHour_40 rfl ?_
  refine mm_getR 89 dX8_serveHour_41 fl_RX8_29 lo_73 rfl ?_
  refine mm_iconst (v := 0) dX8_serveHour_44 rfl ?_
  refine mm_iconst (v := 4) dX8_serveHour_45 rfl ?_
  refine mm_copy dX8_serveHour_46 lk_RX8_89 wd_copy ⟨Nat.le_of_ble_eq_true rfl, Nat.le_of_ble_eq_true rfl⟩ ?_
  refine mm_nm_M (fun M_5 => ?_)
  refine mm_aload_n 0 dX8_serveHour_49 rfl ?_
  refine mm_iload_n 1 dX8_serveHour_50 rfl ?_
  refine mm_callVi (as := [.int v1]) (st := []) (c_Service_orderStays E v1 M_5) dX8_serveHour_51 mz_X8_orderStays lk_RX8_98 im_X8_orderStays se_X8_orderStays lo_73 rfl rfl rfl ⟨Nat.le_of_ble_eq_true rfl, Nat.le_of_ble_eq_true rfl⟩ (Nat.le_of_ble_eq_true rfl) (fun r_6 M_7 => ?_)
  refine mm_istore_n [1, 2, 0] (lv2 := [(0, .ref 73), (1, .int v1), (2, .int r_6)]) dX8_serveHour_54 (by decide) rfl ?_
  refine mm_iconst (v := 0) dX8_serveHour_55 rfl ?_
  refine mm_istore_n [1, 2, 3, 0] (lv2 := [(0, .ref 73), (1, .int v1), (2, .int r_6), (3, .int 0)]) dX8_serveHour_56 (by decide) rfl ?_
  refine lp_Service_serveHour_57_ok E v1 r_6 ?_ mm_fu 0 M_7
  · intro M_11
    exact mm_vret dX8_serveHour_79 rfl
def lp_Service_serveAll_33 (k50 : mm_M → Option (Unit × mm_M)) : Nat → Int32 → mm_M → Option (Unit × mm_M)
  | 0, _, _ => none
  | n + 1, v1, M => if 24 ≤ v1 then k50 M else mm_bd (f_Service_serveHour v1 M) fun u_7 M_8 => mm_let (v1 + 1) fun v1_9 => lp_Service_serveAll_33 k50 n v1_9 M_8
set_option maxHeartbeats 4000000 in
theorem lp_Service_serveAll_33_ok (E : mm_E) {k50 : mm_M → Option (Unit × mm_M)} (hk50 : ∀ (M : mm_M), mm_G (fun _ : Unit => none) E Y_X8_serveAll 7 50 [] [] M (k50 M)) : ∀ (n : Nat) (v1 : Int32) (M : mm_M), mm_G (fun _ : Unit => none) E Y_X8_serveAll 7 33 [(0, .ref 73), (1, .int v1)] [] M (lp_Service_serveAll_33 k50 n v1 M) := by
  intro n
  induction n with
  | zero => intro v1 M r M2 he; cases he
  | succ n ih =>
    intro v1 M
    rw [lp_Service_serveAll_33]
    refine mm_iload_n 1 dX8_serveAll_33 rfl ?_
    refine mm_bipush (v := 24) dX8_serveAll_34 rfl ?_
    refine mm_icmp_ge 50 dX8_serveAll_36 rfl ?_ ?_
    · refine mm_wk [] rfl ?_
      exact hk50  M
    · refine mm_aload_n 0 dX8_serveAll_39 rfl ?_
      refine mm_iload_n 1 dX8_serveAll_40 rfl ?_
      refine mm_callVv (as := [.int v1]) (st := []) (c_Service_serveHour E v1 M) dX8_serveAll_41 mz_X8_serveHour lk_RX8_78 im_X8_serveHour se_X8_serveHour lo_73 rfl rfl rfl ⟨Nat.le_of_ble_eq_true rfl, Nat.le_of_ble_eq_true rfl⟩ (Nat.le_of_ble_eq_true rfl) (fun u_7 M_8 => ?_)
      refine mm_iincN 1 [1, 0] (v := v1 + 1) (lv2 := fun v1_9 => [(0, .ref 73), (1, .int v1_9)]) dX8_serveAll_44 rfl rfl (by decide) (fun _ => rfl) (fun v1_9 => ?_)
      refine mm_goto 33 dX8_serveAll_47 rfl ?_
      exact ih v1_9 M_8
def f_Service_serveAll (M : mm_M) : Option (Unit × mm_M) := mm_bd (f_Load_begin M) fun u_1 M_2 => mm_let (mm_setI M_2 73 6 0) fun M_3 => mm_let (mm_setI M_3 73 7 (M_3.1 22 5)) fun M_4 => mm_bd (f_Arrays_fill_85 0 M_4) fun u_5 M_6 => lp_Service_serveAll_33 (fun (M_10 : mm_M) => some ((), M_10)) mm_fu 0 M_6
set_option maxHeartbeats 4000000 in
theorem c_Service_serveAll (E : mm_E) (M : mm_M) : ∀ (r : Unit) (M2 : mm_M), f_Service_serveAll M = some (r, M2) → mm_P E Y_X8_serveAll 7 [.ref 73] M none M2 := by
  refine mm_entry (em := (fun _ : Unit => none)) (by decide +kernel) (Nat.le_of_ble_eq_true rfl) ?_
  show mm_G _ E _ _ 0 [(0, .ref 73)] [] M _
  unfold f_Service_serveAll
  refine mm_aload_n 0 dX8_serveAll_0 rfl ?_
  refine mm_getR 56 dX8_serveAll_1 fl_RX8_53 lo_73 rfl ?_
  refine mm_callVv (as := []) (st := []) (c_Load_begin E M) dX8_serveAll_4 mz_X5_begin lk_RX8_57 im_X5_begin se_X5_begin lo_56 rfl rfl rfl ⟨Nat.le_of_ble_eq_true rfl, Nat.le_of_ble_eq_true rfl⟩ (Nat.le_of_ble_eq_true rfl) (fun u_1 M_2 => ?_)
  refine mm_aload_n 0 dX8_serveAll_7 rfl ?_
  refine mm_iconst (v := 0) dX8_serveAll_8 rfl ?_
  refine mm_putI dX8_serveAll_9 fp_RX8_62 lo_73 rfl ?_
  refine mm_nm_M (fun M_3 => ?_)
  refine mm_aload_n 0 dX8_serveAll_12 rfl ?_
  refine mm_aload_n 0 dX8_serveAll_13 rfl ?_
  refine mm_getR 22 dX8_serveAll_14 fl_RX8_41 lo_73 rfl ?_
  refine mm_getI dX8_serveAll_17 fl_RX8_66 lo_22 rfl ?_
  refine mm_putI dX8_serveAll_20 fp_RX8_71 lo_73 rfl ?_
  refine mm_nm_M (fun M_4 => ?_)
  refine mm_aload_n 0 dX8_serveAll_23 rfl ?_
  refine mm_getR 85 dX8_serveAll_24 fl_RX8_16 lo_73 rfl ?_
  refine mm_iconst (v := 0) dX8_serveAll_27 rfl ?_
  refine mm_callSv (as := [.ref 85, .int 0]) (st := []) (c_Arrays_fill_85 E 0 M_4) dX8_serveAll_28 mz_J7_fill_53178 lk_RX8_72 sm_J7_fill_53178 rfl ⟨Nat.le_of_ble_eq_true rfl, Nat.le_of_ble_eq_true rfl⟩ (Nat.le_of_ble_eq_true rfl) (fun u_5 M_6 => ?_)
  refine mm_iconst (v := 0) dX8_serveAll_31 rfl ?_
  refine mm_istore_n [1, 0] (lv2 := [(0, .ref 73), (1, .int 0)]) dX8_serveAll_32 (by decide) rfl ?_
  refine lp_Service_serveAll_33_ok E ?_ mm_fu 0 M_6
  · intro M_10
    exact mm_vret dX8_serveAll_50 rfl
def f_H_gets (v1 : Int32) (v2 : Int32) (v3 : Int32) (M : mm_M) : Option (Int32 × mm_M) := mm_bd (f_Register_has_27 v1 M) fun b_1 M_2 => if b_1 = true then mm_bd (f_H_isBelow v2 3 M_2) fun b_3 M_4 => if b_3 = true then mm_bd (f_H_isBelow v3 24 M_4) fun b_5 M_6 => if b_5 = true then mm_bd (f_Service_serveAll M_6) fun u_7 M_8 => if mm_in v1 10 = true then if mm_in ((v2 * 24) + v3) (mm_al (75 + v1.toNatClampNeg)) = true then some (M_8.2.1 (75 + v1.toNatClampNeg) ((v2 * 24) + v3).toNatClampNeg, M_8) else none else none else some ((-1), M_6) else some ((-1), M_4) else some ((-1), M_2)
set_option maxHeartbeats 4000000 in
theorem c_H_gets (E : mm_E) (v1 : Int32) (v2 : Int32) (v3 : Int32) (M : mm_M) : ∀ (r : Int32) (M2 : mm_M), f_H_gets v1 v2 v3 M = some (r, M2) → mm_P E Y_X11_gets 8 [.ref 0, .int v1, .int v2, .int v3] M (some (.int r)) M2 := by
  refine mm_entry (em := (fun x : Int32 => some (.int x))) (by decide +kernel) (Nat.le_of_ble_eq_true rfl) ?_
  show mm_G _ E _ _ 0 [(0, .ref 0), (1, .int v1), (2, .int v2), (3, .int v3)] [] M _
  unfold f_H_gets
  refine mm_aload_n 0 dX11_gets_0 rfl ?_
  refine mm_getR 27 dX11_gets_1 fl_RX11_40 lo_0 rfl ?_
  refine mm_iload_n 1 dX11_gets_4 rfl ?_
  refine mm_callVz (as := [.int v1]) (st := []) (c_Register_has_27 E v1 M) dX11_gets_5 mz_X7_has lk_RX11_161 im_X7_has se_X7_has lo_27 rfl rfl rfl ⟨Nat.le_of_ble_eq_true rfl, Nat.le_of_ble_eq_true rfl⟩ (Nat.le_of_ble_eq_true rfl) (fun b_1 M_2 => ?_)
  refine mm_if_eq_b 28 dX11_gets_8 rfl ?_ ?_
  · refine mm_iconst (v := (-1)) dX11_gets_28 rfl ?_
    exact mm_iret dX11_gets_29 rfl
  · refine mm_iload_n 2 dX11_gets_11 rfl ?_
    refine mm_iconst (v := 3) dX11_gets_12 rfl ?_
    refine mm_callSz (as := [.int v2, .int 3]) (st := []) (c_H_isBelow E v2 3 M_2) dX11_gets_13 mz_X11_isBelow lk_RX11_108 sm_X11_isBelow rfl ⟨Nat.le_of_ble_eq_true rfl, Nat.le_of_ble_eq_true rfl⟩ (Nat.le_of_ble_eq_true rfl) (fun b_3 M_4 => ?_)
    refine mm_if_eq_b 28 dX11_gets_16 rfl ?_ ?_
    · refine mm_iconst (v := (-1)) dX11_gets_28 rfl ?_
      exact mm_iret dX11_gets_29 rfl
    · refine mm_iload_n 3 dX11_gets_19 rfl ?_
      refine mm_bipush (v := 24) dX11_gets_20 rfl ?_
      refine mm_callSz (as := [.int v3, .int 24]) (st := []) (c_H_isBelow E v3 24 M_4) dX11_gets_22 mz_X11_isBelow lk_RX11_108 sm_X11_isBelow rfl ⟨Nat.le_of_ble_eq_true rfl, Nat.le_of_ble_eq_true rfl⟩ (Nat.le_of_ble_eq_true rfl) (fun b_5 M_6 => ?_)
      refine mm_if_ne_b 30 dX11_gets_25 rfl ?_ ?_
      · refine mm_aload_n 0 dX11_gets_30 rfl ?_
        refine mm_getR 73 dX11_gets_31 fl_RX11_89 lo_0 rfl ?_
        refine mm_callVv (as := []) (st := []) (c_Service_serveAll E M_6) dX11_gets_34 mz_X8_serveAll lk_RX11_186 im_X8_serveAll se_X8_serveAll lo_73 rfl rfl rfl ⟨Nat.le_of_ble_eq_true rfl, Nat.le_of_ble_eq_true rfl⟩ (Nat.le_of_ble_eq_true rfl) (fun u_7 M_8 => ?_)
        refine mm_aload_n 0 dX11_gets_37 rfl ?_
        refine mm_getR 73 dX11_gets_38 fl_RX11_89 lo_0 rfl ?_
        refine mm_getR 74 dX11_gets_41 fl_RX11_189 lo_73 rfl ?_
        refine mm_iload_n 1 dX11_gets_44 rfl ?_
        refine mm_aaload dX11_gets_45 lo_74 ?_
        refine mm_iload_n 2 dX11_gets_46 rfl ?_
        refine mm_bipush (v := 24) dX11_gets_47 rfl ?_
        refine mm_imul dX11_gets_49 ?_
        refine mm_iload_n 3 dX11_gets_50 rfl ?_
        refine mm_iadd dX11_gets_51 ?_
        refine mm_iaload dX11_gets_52 ?_
        exact mm_iret dX11_gets_53 rfl
      · refine mm_iconst (v := (-1)) dX11_gets_28 rfl ?_
        exact mm_iret dX11_gets_29 rfl
def lp_Service_missedOfAll_4 (k25 : Int32 → mm_M → Option (Int32 × mm_M)) : Nat → Int32 → Int32 → mm_M → Option (Int32 × mm_M)
  | 0, _, _, _ => none
  | n + 1, v1, v2, M => if 10 ≤ v2 then k25 v1 M else if mm_in v2 (mm_al 85) = true then mm_let (v1 + (M.2.1 85 v2.toNatClampNeg)) fun v1_1 => mm_let (v2 + 1) fun v2_2 => lp_Service_missedOfAll_4 k25 n v1_1 v2_2 M else none
set_option maxHeartbeats 4000000 in
theorem lp_Service_missedOfAll_4_ok (E : mm_E) {k25 : Int32 → mm_M → Option (Int32 × mm_M)} (hk25 : ∀ (v1 : Int32) (M : mm_M), mm_G (fun x : Int32 => some (.int x)) E Y_X8_missedOfAll 1 25 [(1, .int v1)] [] M (k25 v1 M)) : ∀ (n : Nat) (v1 : Int32) (v2 : Int32) (M : mm_M), mm_G (fun x : Int32 => some (.int x)) E Y_X8_missedOfAll 1 4 [(0, .ref 73), (1, .int v1), (2, .int v2)] [] M (lp_Service_missedOfAll_4 k25 n v1 v2 M) := by
  intro n
  induction n with
  | zero => intro v1 v2 M r M2 he; cases he
  | succ n ih =>
    intro v1 v2 M
    rw [lp_Service_missedOfAll_4]
    refine mm_iload_n 2 dX8_missedOfAll_4 rfl ?_
    refine mm_bipush (v := 10) dX8_missedOfAll_5 rfl ?_
    refine mm_icmp_ge 25 dX8_missedOfAll_7 rfl ?_ ?_
    · refine mm_wk [1] rfl ?_
      exact hk25 v1 M
    · refine mm_iload_n 1 dX8_missedOfAll_10 rfl ?_
      refine mm_aload_n 0 dX8_missedOfAll_11 rfl ?_
      refine mm_getR 85 dX8_missedOfAll_12 fl_RX8_16 lo_73 rfl ?_
      refine mm_iload_n 2 dX8_missedOfAll_15 rfl ?_
      refine mm_iaload dX8_missedOfAll_16 ?_
      refine mm_iadd dX8_missedOfAll_17 ?_
      refine mm_nm_int (fun v1_1 => ?_)
      refine mm_istore_n [1, 0, 2] (lv2 := [(0, .ref 73), (1, .int v1_1), (2, .int v2)]) dX8_missedOfAll_18 (by decide) rfl ?_
      refine mm_iincN 2 [1, 2, 0] (v := v2 + 1) (lv2 := fun v2_2 => [(0, .ref 73), (1, .int v1_1), (2, .int v2_2)]) dX8_missedOfAll_19 rfl rfl (by decide) (fun _ => rfl) (fun v2_2 => ?_)
      refine mm_goto 4 dX8_missedOfAll_22 rfl ?_
      exact ih v1_1 v2_2 M
def f_Service_missedOfAll (M : mm_M) : Option (Int32 × mm_M) := lp_Service_missedOfAll_4 (fun (v1 : Int32) (M_3 : mm_M) => some (v1, M_3)) mm_fu 0 0 M
set_option maxHeartbeats 4000000 in
theorem c_Service_missedOfAll (E : mm_E) (M : mm_M) : ∀ (r : Int32) (M2 : mm_M), f_Service_missedOfAll M = some (r, M2) → mm_P E Y_X8_missedOfAll 1 [.ref 73] M (some (.int r)) M2 := by
  refine mm_entry (em := (fun x : Int32 => some (.int x))) (by decide +kernel) (Nat.le_of_ble_eq_true rfl) ?_
  show mm_G _ E _ _ 0 [(0, .ref 73)] [] M _
  unfold f_Service_missedOfAll
  refine mm_iconst (v := 0) dX8_missedOfAll_0 rfl ?_
  refine mm_istore_n [1, 0] (lv2 := [(0, .ref 73), (1, .int 0)]) dX8_missedOfAll_1 (by decide) rfl ?_
  refine mm_iconst (v := 0) dX8_missedOfAll_2 rfl ?_
  refine mm_istore_n [1, 2, 0] (lv2 := [(0, .ref 73), (1, .int 0), (2, .int 0)]) dX8_missedOfAll_3 (by decide) rfl ?_
  refine lp_Service_missedOfAll_4_ok E ?_ mm_fu 0 0 M
  · intro v1 M_3
    refine mm_iload_n 0 dX8_missedOfAll_25 rfl ?_
    exact mm_iret dX8_missedOfAll_26 rfl
def f_H_served (v1 : Int32) (M : mm_M) : Option (Int32 × mm_M) := mm_bd (f_Register_has_27 (v1 - 10) M) fun b_1 M_2 => mm_bd (f_H_isBelow v1 3 M_2) fun b_3 M_4 => mm_jn (fun (v2 : Bool) (M_5 : mm_M) => mm_bd (f_Service_serveAll M_5) fun u_6 M_7 => if v2 = true then if mm_in (v1 - 10) (mm_al 85) = true then some (M_7.2.1 85 (v1 - 10).toNatClampNeg, M_7) else none else if v1 = 0 then some (M_7.1 73 6, M_7) else if v1 = 1 then some (M_7.1 73 7, M_7) else mm_bd (f_Service_missedOfAll M_7) fun r_8 M_9 => some (r_8, M_9)) fun j26 => if b_3 = true then j26 b_1 M_4 else if b_1 = true then j26 b_1 M_4 else some ((-1), M_4)
set_option maxHeartbeats 4000000 in
theorem c_H_served (E : mm_E) (v1 : Int32) (M : mm_M) : ∀ (r : Int32) (M2 : mm_M), f_H_served v1 M = some (r, M2) → mm_P E Y_X11_served 8 [.ref 0, .int v1] M (some (.int r)) M2 := by
  refine mm_entry (em := (fun x : Int32 => some (.int x))) (by decide +kernel) (Nat.le_of_ble_eq_true rfl) ?_
  show mm_G _ E _ _ 0 [(0, .ref 0), (1, .int v1)] [] M _
  unfold f_H_served
  refine mm_aload_n 0 dX11_served_0 rfl ?_
  refine mm_getR 27 dX11_served_1 fl_RX11_40 lo_0 rfl ?_
  refine mm_iload_n 1 dX11_served_4 rfl ?_
  refine mm_bipush (v := 10) dX11_served_5 rfl ?_
  refine mm_isub dX11_served_7 ?_
  refine mm_callVz (as := [.int (v1 - 10)]) (st := []) (c_Register_has_27 E (v1 - 10) M) dX11_served_8 mz_X7_has lk_RX11_161 im_X7_has se_X7_has lo_27 rfl rfl rfl ⟨Nat.le_of_ble_eq_true rfl, Nat.le_of_ble_eq_true rfl⟩ (Nat.le_of_ble_eq_true rfl) (fun b_1 M_2 => ?_)
  refine mm_istore_n [1, 2, 0] (lv2 := [(0, .ref 0), (1, .int v1), (2, .int (mm_b b_1))]) dX11_served_11 (by decide) rfl ?_
  refine mm_iload_n 1 dX11_served_12 rfl ?_
  refine mm_iconst (v := 3) dX11_served_13 rfl ?_
  refine mm_callSz (as := [.int v1, .int 3]) (st := []) (c_H_isBelow E v1 3 M_2) dX11_served_14 mz_X11_isBelow lk_RX11_108 sm_X11_isBelow rfl ⟨Nat.le_of_ble_eq_true rfl, Nat.le_of_ble_eq_true rfl⟩ (Nat.le_of_ble_eq_true rfl) (fun b_3 M_4 => ?_)
  refine mm_jnP (P := fun j => ∀ (v2 : Bool) (M : mm_M), mm_G (fun x : Int32 => some (.int x)) E Y_X11_served 8 26 [(0, .ref 0), (1, .int v1), (2, .int (mm_b v2))] [] M (j v2 M)) ?_ (fun j26 hj26 => ?_)
  · intro v2 M_5
    refine mm_aload_n 0 dX11_served_26 rfl ?_
    refine mm_getR 73 dX11_served_27 fl_RX11_89 lo_0 rfl ?_
    refine mm_callVv (as := []) (st := []) (c_Service_serveAll E M_5) dX11_served_30 mz_X8_serveAll lk_RX11_186 im_X8_serveAll se_X8_serveAll lo_73 rfl rfl rfl ⟨Nat.le_of_ble_eq_true rfl, Nat.le_of_ble_eq_true rfl⟩ (Nat.le_of_ble_eq_true rfl) (fun u_6 M_7 => ?_)
    refine mm_iload_n 2 dX11_served_33 rfl ?_
    refine mm_if_eq_b 50 dX11_served_34 rfl ?_ ?_
    · refine mm_iload_n 1 dX11_served_50 rfl ?_
      refine mm_if_ne 62 dX11_served_51 rfl ?_ ?_
      · refine mm_iload_n 1 dX11_served_62 rfl ?_
        refine mm_iconst (v := 1) dX11_served_63 rfl ?_
        refine mm_icmp_ne 77 dX11_served_64 rfl ?_ ?_
        · refine mm_aload_n 0 dX11_served_77 rfl ?_
          refine mm_getR 73 dX11_served_78 fl_RX11_89 lo_0 rfl ?_
          refine mm_callVi (as := []) (st := []) (c_Service_missedOfAll E M_7) dX11_served_81 mz_X8_missedOfAll lk_RX11_200 im_X8_missedOfAll se_X8_missedOfAll lo_73 rfl rfl rfl ⟨Nat.le_of_ble_eq_true rfl, Nat.le_of_ble_eq_true rfl⟩ (Nat.le_of_ble_eq_true rfl) (fun r_8 M_9 => ?_)
          exact mm_iret dX11_served_84 rfl
        · refine mm_aload_n 0 dX11_served_67 rfl ?_
          refine mm_getR 73 dX11_served_68 fl_RX11_89 lo_0 rfl ?_
          refine mm_getI dX11_served_71 fl_RX11_199 lo_73 rfl ?_
          refine mm_goto 84 dX11_served_74 rfl ?_
          exact mm_iret dX11_served_84 rfl
      · refine mm_aload_n 0 dX11_served_54 rfl ?_
        refine mm_getR 73 dX11_served_55 fl_RX11_89 lo_0 rfl ?_
        refine mm_getI dX11_served_58 fl_RX11_196 lo_73 rfl ?_
        exact mm_iret dX11_served_61 rfl
    · refine mm_aload_n 0 dX11_served_37 rfl ?_
      refine mm_getR 73 dX11_served_38 fl_RX11_89 lo_0 rfl ?_
      refine mm_getR 85 dX11_served_41 fl_RX11_193 lo_73 rfl ?_
      refine mm_iload_n 1 dX11_served_44 rfl ?_
      refine mm_bipush (v := 10) dX11_served_45 rfl ?_
      refine mm_isub dX11_served_47 ?_
      refine mm_iaload dX11_served_48 ?_
      exact mm_iret dX11_served_49 rfl
  refine mm_if_ne_b 26 dX11_served_17 rfl ?_ ?_
  · exact hj26 b_1 M_4
  · refine mm_iload_n 2 dX11_served_20 rfl ?_
    refine mm_if_ne_b 26 dX11_served_21 rfl ?_ ?_
    · exact hj26 b_1 M_4
    · refine mm_iconst (v := (-1)) dX11_served_24 rfl ?_
      exact mm_iret dX11_served_25 rfl
def f_H_isPart (v0 : Int32) (v1 : Int32) (M : mm_M) : Option (Bool × mm_M) := if v0 &&& (v1 ^^^ (-1)) = 0 then some (true, M) else some (false, M)
set_option maxHeartbeats 4000000 in
theorem c_H_isPart (E : mm_E) (v0 : Int32) (v1 : Int32) (M : mm_M) : ∀ (r : Bool) (M2 : mm_M), f_H_isPart v0 v1 M = some (r, M2) → mm_P E Y_X11_isPart 1 [.int v0, .int v1] M (some (.int (mm_b r))) M2 := by
  refine mm_entry (em := (fun x : Bool => some (.int (mm_b x)))) (by decide +kernel) (Nat.le_of_ble_eq_true rfl) ?_
  show mm_G _ E _ _ 0 [(0, .int v0), (1, .int v1)] [] M _
  unfold f_H_isPart
  refine mm_iload_n 0 dX11_isPart_0 rfl ?_
  refine mm_iload_n 1 dX11_isPart_1 rfl ?_
  refine mm_iconst (v := (-1)) dX11_isPart_2 rfl ?_
  refine mm_ixor dX11_isPart_3 ?_
  refine mm_iand dX11_isPart_4 ?_
  refine mm_if_ne 12 dX11_isPart_5 rfl ?_ ?_
  · refine mm_iconst (v := 0) dX11_isPart_12 rfl ?_
    exact mm_zret (b := false) dX11_isPart_13 rfl
  · refine mm_iconst (v := 1) dX11_isPart_8 rfl ?_
    refine mm_goto 13 dX11_isPart_9 rfl ?_
    exact mm_zret (b := true) dX11_isPart_13 rfl
def f_Integer_bitCount (v0 : Int32) (M : mm_M) : Option (Int32 × mm_M) := mm_let (v0 - (((v0.toUInt32 >>> ((1 : Int32).toUInt32 &&& Int32.toUInt32 31)).toInt32) &&& 1431655765)) fun v0_1 => mm_let ((v0_1 &&& 858993459) + (((v0_1.toUInt32 >>> ((2 : Int32).toUInt32 &&& Int32.toUInt32 31)).toInt32) &&& 858993459)) fun v0_2 => mm_let ((v0_2 + ((v0_2.toUInt32 >>> ((4 : Int32).toUInt32 &&& Int32.toUInt32 31)).toInt32)) &&& 252645135) fun v0_3 => mm_let (v0_3 + ((v0_3.toUInt32 >>> ((8 : Int32).toUInt32 &&& Int32.toUInt32 31)).toInt32)) fun v0_4 => mm_let (v0_4 + ((v0_4.toUInt32 >>> ((16 : Int32).toUInt32 &&& Int32.toUInt32 31)).toInt32)) fun v0_5 => some (v0_5 &&& 63, M)
set_option maxHeartbeats 4000000 in
theorem c_Integer_bitCount (E : mm_E) (v0 : Int32) (M : mm_M) : ∀ (r : Int32) (M2 : mm_M), f_Integer_bitCount v0 M = some (r, M2) → mm_P E Y_J6_bitCount_0f7a4 1 [.int v0] M (some (.int r)) M2 := by
  refine mm_entry (em := (fun x : Int32 => some (.int x))) (by decide +kernel) (Nat.le_of_ble_eq_true rfl) ?_
  show mm_G _ E _ _ 0 [(0, .int v0)] [] M _
  unfold f_Integer_bitCount
  refine mm_iload_n 0 dJ6_bitCount_0f7a4_0 rfl ?_
  refine mm_iload_n 0 dJ6_bitCount_0f7a4_1 rfl ?_
  refine mm_iconst (v := 1) dJ6_bitCount_0f7a4_2 rfl ?_
  refine mm_iushr dJ6_bitCount_0f7a4_3 ?_
  refine mm_ldcw dJ6_bitCount_0f7a4_4 ct_RJ6_265 ?_
  refine mm_iand dJ6_bitCount_0f7a4_7 ?_
  refine mm_isub dJ6_bitCount_0f7a4_8 ?_
  refine mm_nm_int (fun v0_1 => ?_)
  refine mm_istore_n [0] (lv2 := [(0, .int v0_1)]) dJ6_bitCount_0f7a4_9 (by decide) rfl ?_
  refine mm_iload_n 0 dJ6_bitCount_0f7a4_10 rfl ?_
  refine mm_ldcw dJ6_bitCount_0f7a4_11 ct_RJ6_266 ?_
  refine mm_iand dJ6_bitCount_0f7a4_14 ?_
  refine mm_iload_n 0 dJ6_bitCount_0f7a4_15 rfl ?_
  refine mm_iconst (v := 2) dJ6_bitCount_0f7a4_16 rfl ?_
  refine mm_iushr dJ6_bitCount_0f7a4_17 ?_
  refine mm_ldcw dJ6_bitCount_0f7a4_18 ct_RJ6_266 ?_
  refine mm_iand dJ6_bitCount_0f7a4_21 ?_
  refine mm_iadd dJ6_bitCount_0f7a4_22 ?_
  refine mm_nm_int (fun v0_2 => ?_)
  refine mm_istore_n [0] (lv2 := [(0, .int v0_2)]) dJ6_bitCount_0f7a4_23 (by decide) rfl ?_
  refine mm_iload_n 0 dJ6_bitCount_0f7a4_24 rfl ?_
  refine mm_iload_n 0 dJ6_bitCount_0f7a4_25 rfl ?_
  refine mm_iconst (v := 4) dJ6_bitCount_0f7a4_26 rfl ?_
  refine mm_iushr dJ6_bitCount_0f7a4_27 ?_
  refine mm_iadd dJ6_bitCount_0f7a4_28 ?_
  refine mm_ldcw dJ6_bitCount_0f7a4_29 ct_RJ6_267 ?_
  refine mm_iand dJ6_bitCount_0f7a4_32 ?_
  refine mm_nm_int (fun v0_3 => ?_)
  refine mm_istore_n [0] (lv2 := [(0, .int v0_3)]) dJ6_bitCount_0f7a4_33 (by decide) rfl ?_
  refine mm_iload_n 0 dJ6_bitCount_0f7a4_34 rfl ?_
  refine mm_iload_n 0 dJ6_bitCount_0f7a4_35 rfl ?_
  refine mm_bipush (v := 8) dJ6_bitCount_0f7a4_36 rfl ?_
  refine mm_iushr dJ6_bitCount_0f7a4_38 ?_
  refine mm_iadd dJ6_bitCount_0f7a4_39 ?_
  refine mm_nm_int (fun v0_4 => ?_)
  refine mm_istore_n [0] (lv2 := [(0, .int v0_4)]) dJ6_bitCount_0f7a4_40 (by decide) rfl ?_
  refine mm_iload_n 0 dJ6_bitCount_0f7a4_41 rfl ?_
  refine mm_iload_n 0 dJ6_bitCount_0f7a4_42 rfl ?_
  refine mm_bipush (v := 16) dJ6_bitCount_0f7a4_43 rfl ?_
  refine mm_iushr dJ6_bitCount_0f7a4_45 ?_
  refine mm_iadd dJ6_bitCount_0f7a4_46 ?_
  refine mm_nm_int (fun v0_5 => ?_)
  refine mm_istore_n [0] (lv2 := [(0, .int v0_5)]) dJ6_bitCount_0f7a4_47 (by decide) rfl ?_
  refine mm_iload_n 0 dJ6_bitCount_0f7a4_48 rfl ?_
  refine mm_bipush (v := 63) dJ6_bitCount_0f7a4_49 rfl ?_
  refine mm_iand dJ6_bitCount_0f7a4_51 ?_
  exact mm_iret dJ6_bitCount_0f7a4_52 rfl
def f_H_areStays (v1 : Int32) (v2 : Int32) (M : mm_M) : Option (Bool × mm_M) := if v1 ≤ 0 then some (false, M) else mm_bd (f_H_isPart v1 (M.1 27 0) M) fun b_1 M_2 => if b_1 = true then mm_bd (f_Integer_bitCount v1 M_2) fun r_3 M_4 => if v2 < r_3 then some (false, M_4) else some (true, M_4) else some (false, M_2)
set_option maxHeartbeats 4000000 in
theorem c_H_areStays (E : mm_E) (v1 : Int32) (v2 : Int32) (M : mm_M) : ∀ (r : Bool) (M2 : mm_M), f_H_areStays v1 v2 M = some (r, M2) → mm_P E Y_X11_areStays 2 [.ref 0, .int v1, .int v2] M (some (.int (mm_b r))) M2 := by
  refine mm_entry (em := (fun x : Bool => some (.int (mm_b x)))) (by decide +kernel) (Nat.le_of_ble_eq_true rfl) ?_
  show mm_G _ E _ _ 0 [(0, .ref 0), (1, .int v1), (2, .int v2)] [] M _
  unfold f_H_areStays
  refine mm_iload_n 1 dX11_areStays_0 rfl ?_
  refine mm_if_le 30 dX11_areStays_1 rfl ?_ ?_
  · refine mm_iconst (v := 0) dX11_areStays_30 rfl ?_
    exact mm_zret (b := false) dX11_areStays_31 rfl
  · refine mm_iload_n 1 dX11_areStays_4 rfl ?_
    refine mm_aload_n 0 dX11_areStays_5 rfl ?_
    refine mm_getR 27 dX11_areStays_6 fl_RX11_40 lo_0 rfl ?_
    refine mm_getI dX11_areStays_9 fl_RX11_164 lo_27 rfl ?_
    refine mm_callSz (as := [.int v1, .int (M.1 27 0)]) (st := []) (c_H_isPart E v1 (M.1 27 0) M) dX11_areStays_12 mz_X11_isPart lk_RX11_344 sm_X11_isPart rfl ⟨Nat.le_of_ble_eq_true rfl, Nat.le_of_ble_eq_true rfl⟩ (Nat.le_of_ble_eq_true rfl) (fun b_1 M_2 => ?_)
    refine mm_if_eq_b 30 dX11_areStays_15 rfl ?_ ?_
    · refine mm_iconst (v := 0) dX11_areStays_30 rfl ?_
      exact mm_zret (b := false) dX11_areStays_31 rfl
    · refine mm_iload_n 1 dX11_areStays_18 rfl ?_
      refine mm_callSi (as := [.int v1]) (st := []) (c_Integer_bitCount E v1 M_2) dX11_areStays_19 mz_J6_bitCount_0f7a4 lk_RX11_226 sm_J6_bitCount_0f7a4 rfl ⟨Nat.le_of_ble_eq_true rfl, Nat.le_of_ble_eq_true rfl⟩ (Nat.le_of_ble_eq_true rfl) (fun r_3 M_4 => ?_)
      refine mm_iload_n 2 dX11_areStays_22 rfl ?_
      refine mm_icmp_gt 30 dX11_areStays_23 rfl ?_ ?_
      · refine mm_iconst (v := 0) dX11_areStays_30 rfl ?_
        exact mm_zret (b := false) dX11_areStays_31 rfl
      · refine mm_iconst (v := 1) dX11_areStays_26 rfl ?_
        refine mm_goto 31 dX11_areStays_27 rfl ?_
        exact mm_zret (b := true) dX11_areStays_31 rfl
def lp_Load_causeAt_3 (v1 : Int32) (v2 : Int32) (k34 : Int32 → mm_M → Option (Int32 × mm_M)) (k43 : mm_M → Option (Int32 × mm_M)) : Nat → Int32 → mm_M → Option (Int32 × mm_M)
  | 0, _, _ => none
  | n + 1, v4, M => if 3 ≤ v4 then k43 M else if mm_in ((v4 * 24) + v1) (mm_al 69) = true then if mm_in v4 (mm_al 24) = true then if M.2.1 69 ((v4 * 24) + v1).toNatClampNeg ≤ M.2.1 24 v4.toNatClampNeg then mm_let (v4 + 1) fun v4_1 => lp_Load_causeAt_3 v1 v2 k34 k43 n v4_1 M else k34 v4 M else none else none
set_option maxHeartbeats 4000000 in
theorem lp_Load_causeAt_3_ok (E : mm_E) (v1 : Int32) (v2 : Int32) {k34 : Int32 → mm_M → Option (Int32 × mm_M)} {k43 : mm_M → Option (Int32 × mm_M)} (hk34 : ∀ (v4 : Int32) (M : mm_M), mm_G (fun x : Int32 => some (.int x)) E Y_X5_causeAt 1 34 [(4, .int v4)] [] M (k34 v4 M)) (hk43 : ∀ (M : mm_M), mm_G (fun x : Int32 => some (.int x)) E Y_X5_causeAt 1 43 [(0, .ref 56), (1, .int v1), (2, .int v2)] [] M (k43 M)) : ∀ (n : Nat) (v4 : Int32) (M : mm_M), mm_G (fun x : Int32 => some (.int x)) E Y_X5_causeAt 1 3 [(0, .ref 56), (1, .int v1), (2, .int v2), (4, .int v4)] [] M (lp_Load_causeAt_3 v1 v2 k34 k43 n v4 M) := by
  intro n
  induction n with
  | zero => intro v4 M r M2 he; cases he
  | succ n ih =>
    intro v4 M
    rw [lp_Load_causeAt_3]
    refine mm_iload 3 dX5_causeAt_3 rfl ?_
    refine mm_iconst (v := 3) dX5_causeAt_5 rfl ?_
    refine mm_icmp_ge 43 dX5_causeAt_6 rfl ?_ ?_
    · refine mm_wk [0, 1, 2] rfl ?_
      exact hk43  M
    · refine mm_aload_n 0 dX5_causeAt_9 rfl ?_
      refine mm_getR 69 dX5_causeAt_10 fl_RX5_20 lo_56 rfl ?_
      refine mm_iload 3 dX5_causeAt_13 rfl ?_
      refine mm_bipush (v := 24) dX5_causeAt_15 rfl ?_
      refine mm_imul dX5_causeAt_17 ?_
      refine mm_iload_n 1 dX5_causeAt_18 rfl ?_
      refine mm_iadd dX5_causeAt_19 ?_
      refine mm_iaload dX5_causeAt_20 ?_
      refine mm_aload_n 0 dX5_causeAt_21 rfl ?_
      refine mm_getR 22 dX5_causeAt_22 fl_RX5_26 lo_56 rfl ?_
      refine mm_getR 24 dX5_causeAt_25 fl_RX5_116 lo_22 rfl ?_
      refine mm_iload 3 dX5_causeAt_28 rfl ?_
      refine mm_iaload dX5_causeAt_30 ?_
      refine mm_icmp_le 37 dX5_causeAt_31 rfl ?_ ?_
      · refine mm_iincN 3 [1, 2, 3, 0] (v := v4 + 1) (lv2 := fun v4_1 => [(0, .ref 56), (1, .int v1), (2, .int v2), (4, .int v4_1)]) dX5_causeAt_37 rfl rfl (by decide) (fun _ => rfl) (fun v4_1 => ?_)
        refine mm_goto 3 dX5_causeAt_40 rfl ?_
        exact ih v4_1 M
      · refine mm_wk [3] rfl ?_
        exact hk34 v4 M
def lp_Load_causeAt_46 (v1 : Int32) (v2 : Int32) (k77 : Int32 → mm_M → Option (Int32 × mm_M)) (k88 : mm_M → Option (Int32 × mm_M)) : Nat → Int32 → mm_M → Option (Int32 × mm_M)
  | 0, _, _ => none
  | n + 1, v4, M => if 4 ≤ v4 then k88 M else if mm_in ((v4 * 24) + v1) (mm_al 70) = true then if mm_in v4 (mm_al 26) = true then if M.2.1 70 ((v4 * 24) + v1).toNatClampNeg ≤ M.2.1 26 v4.toNatClampNeg then mm_let (v4 + 1) fun v4_4 => lp_Load_causeAt_46 v1 v2 k77 k88 n v4_4 M else k77 v4 M else none else none
set_option maxHeartbeats 4000000 in
theorem lp_Load_causeAt_46_ok (E : mm_E) (v1 : Int32) (v2 : Int32) {k77 : Int32 → mm_M → Option (Int32 × mm_M)} {k88 : mm_M → Option (Int32 × mm_M)} (hk77 : ∀ (v4 : Int32) (M : mm_M), mm_G (fun x : Int32 => some (.int x)) E Y_X5_causeAt 1 77 [(4, .int v4)] [] M (k77 v4 M)) (hk88 : ∀ (M : mm_M), mm_G (fun x : Int32 => some (.int x)) E Y_X5_causeAt 1 88 [(0, .ref 56), (1, .int v1), (2, .int v2)] [] M (k88 M)) : ∀ (n : Nat) (v4 : Int32) (M : mm_M), mm_G (fun x : Int32 => some (.int x)) E Y_X5_causeAt 1 46 [(0, .ref 56), (1, .int v1), (2, .int v2), (4, .int v4)] [] M (lp_Load_causeAt_46 v1 v2 k77 k88 n v4 M) := by
  intro n
  induction n with
  | zero => intro v4 M r M2 he; cases he
  | succ n ih =>
    intro v4 M
    rw [lp_Load_causeAt_46]
    refine mm_iload 3 dX5_causeAt_46 rfl ?_
    refine mm_iconst (v := 4) dX5_causeAt_48 rfl ?_
    refine mm_icmp_ge 88 dX5_causeAt_49 rfl ?_ ?_
    · refine mm_wk [0, 1, 2] rfl ?_
      exact hk88  M
    · refine mm_aload_n 0 dX5_causeAt_52 rfl ?_
      refine mm_getR 70 dX5_causeAt_53 fl_RX5_23 lo_56 rfl ?_
      refine mm_iload 3 dX5_causeAt_56 rfl ?_
      refine mm_bipush (v := 24) dX5_causeAt_58 rfl ?_
      refine mm_imul dX5_causeAt_60 ?_
      refine mm_iload_n 1 dX5_causeAt_61 rfl ?_
      refine mm_iadd dX5_causeAt_62 ?_
      refine mm_iaload dX5_causeAt_63 ?_
      refine mm_aload_n 0 dX5_causeAt_64 rfl ?_
      refine mm_getR 22 dX5_causeAt_65 fl_RX5_26 lo_56 rfl ?_
      refine mm_getR 26 dX5_causeAt_68 fl_RX5_119 lo_22 rfl ?_
      refine mm_iload 3 dX5_causeAt_71 rfl ?_
      refine mm_iaload dX5_causeAt_73 ?_
      refine mm_icmp_le 82 dX5_causeAt_74 rfl ?_ ?_
      · refine mm_iincN 3 [1, 2, 3, 0] (v := v4 + 1) (lv2 := fun v4_4 => [(0, .ref 56), (1, .int v1), (2, .int v2), (4, .int v4_4)]) dX5_causeAt_82 rfl rfl (by decide) (fun _ => rfl) (fun v4_4 => ?_)
        refine mm_goto 46 dX5_causeAt_85 rfl ?_
        exact ih v4_4 M
      · refine mm_wk [3] rfl ?_
        exact hk77 v4 M
def f_Load_causeAt (v1 : Int32) (v2 : Int32) (v3 : Int32) (M : mm_M) : Option (Int32 × mm_M) := lp_Load_causeAt_3 v1 v2 (fun (v4 : Int32) (M_2 : mm_M) => some (v4, M_2)) (fun (M_3 : mm_M) => lp_Load_causeAt_46 v1 v2 (fun (v4 : Int32) (M_5 : mm_M) => some (3 + v4, M_5)) (fun (M_6 : mm_M) => if mm_in (0 + v1) (mm_al 69) = true then if M_6.2.1 69 (0 + v1).toNatClampNeg ≤ v2 then some ((-1), M_6) else some (7, M_6) else none) mm_fu 0 M_3) mm_fu v3 M
set_option maxHeartbeats 4000000 in
theorem c_Load_causeAt (E : mm_E) (v1 : Int32) (v2 : Int32) (v3 : Int32) (M : mm_M) : ∀ (r : Int32) (M2 : mm_M), f_Load_causeAt v1 v2 v3 M = some (r, M2) → mm_P E Y_X5_causeAt 1 [.ref 56, .int v1, .int v2, .int v3] M (some (.int r)) M2 := by
  refine mm_entry (em := (fun x : Int32 => some (.int x))) (by decide +kernel) (Nat.le_of_ble_eq_true rfl) ?_
  show mm_G _ E _ _ 0 [(0, .ref 56), (1, .int v1), (2, .int v2), (3, .int v3)] [] M _
  unfold f_Load_causeAt
  refine mm_iload_n 3 dX5_causeAt_0 rfl ?_
  refine mm_istore [1, 2, 3, 4, 0] (lv2 := [(0, .ref 56), (1, .int v1), (2, .int v2), (3, .int v3), (4, .int v3)]) dX5_causeAt_1 (by decide) rfl ?_
  refine mm_wk [0, 1, 2, 4] rfl ?_
  refine lp_Load_causeAt_3_ok E v1 v2 ?_ ?_ mm_fu v3 M
  · intro v4 M_2
    refine mm_iload 0 dX5_causeAt_34 rfl ?_
    exact mm_iret dX5_causeAt_36 rfl
  · intro M_3
    refine mm_iconst (v := 0) dX5_causeAt_43 rfl ?_
    refine mm_istore [1, 2, 3, 0] (lv2 := [(0, .ref 56), (1, .int v1), (2, .int v2), (4, .int 0)]) dX5_causeAt_44 (by decide) rfl ?_
    refine lp_Load_causeAt_46_ok E v1 v2 ?_ ?_ mm_fu 0 M_3
    · intro v4 M_5
      refine mm_iconst (v := 3) dX5_causeAt_77 rfl ?_
      refine mm_iload 0 dX5_causeAt_78 rfl ?_
      refine mm_iadd dX5_causeAt_80 ?_
      exact mm_iret dX5_causeAt_81 rfl
    · intro M_6
      refine mm_aload_n 0 dX5_causeAt_88 rfl ?_
      refine mm_getR 69 dX5_causeAt_89 fl_RX5_20 lo_56 rfl ?_
      refine mm_iconst (v := 0) dX5_causeAt_92 rfl ?_
      refine mm_iload_n 1 dX5_causeAt_93 rfl ?_
      refine mm_iadd dX5_causeAt_94 ?_
      refine mm_iaload dX5_causeAt_95 ?_
      refine mm_iload_n 2 dX5_causeAt_96 rfl ?_
      refine mm_icmp_le 105 dX5_causeAt_97 rfl ?_ ?_
      · refine mm_iconst (v := (-1)) dX5_causeAt_105 rfl ?_
        exact mm_iret dX5_causeAt_106 rfl
      · refine mm_bipush (v := 7) dX5_causeAt_100 rfl ?_
        refine mm_goto 106 dX5_causeAt_102 rfl ?_
        exact mm_iret dX5_causeAt_106 rfl
def lp_Load_fitsFrom_10 (v1 : Int32) (k40 : Int32 → Int32 → mm_M → Option (Bool × mm_M)) (k70 : mm_M → Option (Bool × mm_M)) : Nat → Int32 → Int32 → mm_M → Option (Bool × mm_M)
  | 0, _, _, _ => none
  | n + 1, v2, v3, M => if 24 ≤ v3 then k70 M else mm_bd (f_House_afterInflow v2 M) fun r_2 M_3 => mm_bd (f_Load_causeAt v3 r_2 v1 M_3) fun r_4 M_5 => if r_4 = (-1) then if mm_in (0 + v3) (mm_al 69) = true then mm_let (r_2 - (M_5.2.1 69 (0 + v3).toNatClampNeg)) fun v2_6 => mm_let (v3 + 1) fun v3_7 => lp_Load_fitsFrom_10 v1 k40 k70 n v2_6 v3_7 M_5 else none else k40 v3 r_4 M_5
set_option maxHeartbeats 4000000 in
theorem lp_Load_fitsFrom_10_ok (E : mm_E) (v1 : Int32) {k40 : Int32 → Int32 → mm_M → Option (Bool × mm_M)} {k70 : mm_M → Option (Bool × mm_M)} (hk40 : ∀ (v3 : Int32) (v4 : Int32) (M : mm_M), mm_G (fun x : Bool => some (.int (mm_b x))) E Y_X5_fitsFrom 3 40 [(0, .ref 56), (3, .int v3), (4, .int v4)] [] M (k40 v3 v4 M)) (hk70 : ∀ (M : mm_M), mm_G (fun x : Bool => some (.int (mm_b x))) E Y_X5_fitsFrom 3 70 [] [] M (k70 M)) : ∀ (n : Nat) (v2 : Int32) (v3 : Int32) (M : mm_M), mm_G (fun x : Bool => some (.int (mm_b x))) E Y_X5_fitsFrom 3 10 [(0, .ref 56), (1, .int v1), (2, .int v2), (3, .int v3)] [] M (lp_Load_fitsFrom_10 v1 k40 k70 n v2 v3 M) := by
  intro n
  induction n with
  | zero => intro v2 v3 M r M2 he; cases he
  | succ n ih =>
    intro v2 v3 M
    rw [lp_Load_fitsFrom_10]
    refine mm_iload_n 3 dX5_fitsFrom_10 rfl ?_
    refine mm_bipush (v := 24) dX5_fitsFrom_11 rfl ?_
    refine mm_icmp_ge 70 dX5_fitsFrom_13 rfl ?_ ?_
    · refine mm_wk [] rfl ?_
      exact hk70  M
    · refine mm_aload_n 0 dX5_fitsFrom_16 rfl ?_
      refine mm_getR 22 dX5_fitsFrom_17 fl_RX5_26 lo_56 rfl ?_
      refine mm_iload_n 2 dX5_fitsFrom_20 rfl ?_
      refine mm_callVi (as := [.int v2]) (st := []) (c_House_afterInflow E v2 M) dX5_fitsFrom_21 mz_X2_afterInflow lk_RX5_102 im_X2_afterInflow se_X2_afterInflow lo_22 rfl rfl rfl ⟨Nat.le_of_ble_eq_true rfl, Nat.le_of_ble_eq_true rfl⟩ (Nat.le_of_ble_eq_true rfl) (fun r_2 M_3 => ?_)
      refine mm_istore_n [1, 2, 0, 3] (lv2 := [(0, .ref 56), (1, .int v1), (2, .int r_2), (3, .int v3)]) dX5_fitsFrom_24 (by decide) rfl ?_
      refine mm_aload_n 0 dX5_fitsFrom_25 rfl ?_
      refine mm_iload_n 3 dX5_fitsFrom_26 rfl ?_
      refine mm_iload_n 2 dX5_fitsFrom_27 rfl ?_
      refine mm_iload_n 1 dX5_fitsFrom_28 rfl ?_
      refine mm_callVi (as := [.int v3, .int r_2, .int v1]) (st := []) (c_Load_causeAt E v3 r_2 v1 M_3) dX5_fitsFrom_29 mz_X5_causeAt lk_RX5_106 im_X5_causeAt se_X5_causeAt lo_56 rfl rfl rfl ⟨Nat.le_of_ble_eq_true rfl, Nat.le_of_ble_eq_true rfl⟩ (Nat.le_of_ble_eq_true rfl) (fun r_4 M_5 => ?_)
      refine mm_istore [1, 2, 3, 4, 0] (lv2 := [(0, .ref 56), (1, .int v1), (2, .int r_2), (3, .int v3), (4, .int r_4)]) dX5_fitsFrom_32 (by decide) rfl ?_
      refine mm_iload 4 dX5_fitsFrom_34 rfl ?_
      refine mm_iconst (v := (-1)) dX5_fitsFrom_36 rfl ?_
      refine mm_icmp_eq 53 dX5_fitsFrom_37 rfl ?_ ?_
      · refine mm_iload_n 2 dX5_fitsFrom_53 rfl ?_
        refine mm_aload_n 0 dX5_fitsFrom_54 rfl ?_
        refine mm_getR 69 dX5_fitsFrom_55 fl_RX5_20 lo_56 rfl ?_
        refine mm_iconst (v := 0) dX5_fitsFrom_58 rfl ?_
        refine mm_iload_n 3 dX5_fitsFrom_59 rfl ?_
        refine mm_iadd dX5_fitsFrom_60 ?_
        refine mm_iaload dX5_fitsFrom_61 ?_
        refine mm_isub dX5_fitsFrom_62 ?_
        refine mm_nm_int (fun v2_6 => ?_)
        refine mm_istore_n [1, 2, 0, 3, 4] (lv2 := [(0, .ref 56), (1, .int v1), (2, .int v2_6), (3, .int v3), (4, .int r_4)]) dX5_fitsFrom_63 (by decide) rfl ?_
        refine mm_iincN 3 [1, 2, 3, 0, 4] (v := v3 + 1) (lv2 := fun v3_7 => [(0, .ref 56), (1, .int v1), (2, .int v2_6), (3, .int v3_7), (4, .int r_4)]) dX5_fitsFrom_64 rfl rfl (by decide) (fun _ => rfl) (fun v3_7 => ?_)
        refine mm_goto 10 dX5_fitsFrom_67 rfl ?_
        refine mm_wk [0, 1, 2, 3] rfl ?_
        exact ih v2_6 v3_7 M_5
      · refine mm_wk [0, 3, 4] rfl ?_
        exact hk40 v3 r_4 M_5
def f_Load_fitsFrom (v1 : Int32) (M : mm_M) : Option (Bool × mm_M) := mm_let (M.1 22 5) fun v2_1 => lp_Load_fitsFrom_10 v1 (fun (v3 : Int32) (v4 : Int32) (M_8 : mm_M) => mm_let (mm_setI M_8 56 8 v3) fun M_9 => mm_let (mm_setI M_9 56 9 v4) fun M_10 => some (false, M_10)) (fun (M_11 : mm_M) => some (true, M_11)) mm_fu v2_1 0 M
set_option maxHeartbeats 4000000 in
theorem c_Load_fitsFrom (E : mm_E) (v1 : Int32) (M : mm_M) : ∀ (r : Bool) (M2 : mm_M), f_Load_fitsFrom v1 M = some (r, M2) → mm_P E Y_X5_fitsFrom 3 [.ref 56, .int v1] M (some (.int (mm_b r))) M2 := by
  refine mm_entry (em := (fun x : Bool => some (.int (mm_b x)))) (by decide +kernel) (Nat.le_of_ble_eq_true rfl) ?_
  show mm_G _ E _ _ 0 [(0, .ref 56), (1, .int v1)] [] M _
  unfold f_Load_fitsFrom
  refine mm_aload_n 0 dX5_fitsFrom_0 rfl ?_
  refine mm_getR 22 dX5_fitsFrom_1 fl_RX5_26 lo_56 rfl ?_
  refine mm_getI dX5_fitsFrom_4 fl_RX5_99 lo_22 rfl ?_
  refine mm_nm_int (fun v2_1 => ?_)
  refine mm_istore_n [1, 2, 0] (lv2 := [(0, .ref 56), (1, .int v1), (2, .int v2_1)]) dX5_fitsFrom_7 (by decide) rfl ?_
  refine mm_iconst (v := 0) dX5_fitsFrom_8 rfl ?_
  refine mm_istore_n [1, 2, 3, 0] (lv2 := [(0, .ref 56), (1, .int v1), (2, .int v2_1), (3, .int 0)]) dX5_fitsFrom_9 (by decide) rfl ?_
  refine lp_Load_fitsFrom_10_ok E v1 ?_ ?_ mm_fu v2_1 0 M
  · intro v3 v4 M_8
    refine mm_aload_n 0 dX5_fitsFrom_40 rfl ?_
    refine mm_iload_n 1 dX5_fitsFrom_41 rfl ?_
    refine mm_putI dX5_fitsFrom_42 fp_RX5_110 lo_56 rfl ?_
    refine mm_nm_M (fun M_9 => ?_)
    refine mm_aload_n 0 dX5_fitsFrom_45 rfl ?_
    refine mm_iload 2 dX5_fitsFrom_46 rfl ?_
    refine mm_putI dX5_fitsFrom_48 fp_RX5_113 lo_56 rfl ?_
    refine mm_nm_M (fun M_10 => ?_)
    refine mm_iconst (v := 0) dX5_fitsFrom_51 rfl ?_
    exact mm_zret (b := false) dX5_fitsFrom_52 rfl
  · intro M_11
    refine mm_iconst (v := 1) dX5_fitsFrom_70 rfl ?_
    exact mm_zret (b := true) dX5_fitsFrom_71 rfl
def f_Load_fits (M : mm_M) : Option (Bool × mm_M) := mm_bd (f_Load_fitsFrom 0 M) fun b_1 M_2 => some (b_1, M_2)
set_option maxHeartbeats 4000000 in
theorem c_Load_fits (E : mm_E) (M : mm_M) : ∀ (r : Bool) (M2 : mm_M), f_Load_fits M = some (r, M2) → mm_P E Y_X5_fits 4 [.ref 56] M (some (.int (mm_b r))) M2 := by
  refine mm_entry (em := (fun x : Bool => some (.int (mm_b x)))) (by decide +kernel) (Nat.le_of_ble_eq_true rfl) ?_
  show mm_G _ E _ _ 0 [(0, .ref 56)] [] M _
  unfold f_Load_fits
  refine mm_aload_n 0 dX5_fits_0 rfl ?_
  refine mm_iconst (v := 0) dX5_fits_1 rfl ?_
  refine mm_callVz (as := [.int 0]) (st := []) (c_Load_fitsFrom E 0 M) dX5_fits_2 mz_X5_fitsFrom lk_RX5_96 im_X5_fitsFrom se_X5_fitsFrom lo_56 rfl rfl rfl ⟨Nat.le_of_ble_eq_true rfl, Nat.le_of_ble_eq_true rfl⟩ (Nat.le_of_ble_eq_true rfl) (fun b_1 M_2 => ?_)
  exact mm_zret (b := b_1) dX5_fits_5 rfl
def f_H_can (v1 : Int32) (v2 : Int32) (M : mm_M) : Option (Int32 × mm_M) := mm_bd (f_H_areStays v1 10 M) fun b_1 M_2 => if b_1 = true then mm_bd (f_H_isBelow v2 3 M_2) fun b_3 M_4 => if b_3 = true then mm_bd (f_Load_begin M_4) fun u_5 M_6 => mm_bd (f_Load_turnTo v1 M_6) fun u_7 M_8 => mm_bd (f_Load_fits M_8) fun b_9 M_10 => if v2 = 0 then if b_9 = true then some (1, M_10) else some (0, M_10) else if b_9 = true then some ((-2), M_10) else if v2 = 1 then some (M_10.1 56 8, M_10) else some (M_10.1 56 9, M_10) else some ((-3), M_4) else some ((-3), M_2)
set_option maxHeartbeats 4000000 in
theorem c_H_can (E : mm_E) (v1 : Int32) (v2 : Int32) (M : mm_M) : ∀ (r : Int32) (M2 : mm_M), f_H_can v1 v2 M = some (r, M2) → mm_P E Y_X11_can 5 [.ref 0, .int v1, .int v2] M (some (.int r)) M2 := by
  refine mm_entry (em := (fun x : Int32 => some (.int x))) (by decide +kernel) (Nat.le_of_ble_eq_true rfl) ?_
  show mm_G _ E _ _ 0 [(0, .ref 0), (1, .int v1), (2, .int v2)] [] M _
  unfold f_H_can
  refine mm_aload_n 0 dX11_can_0 rfl ?_
  refine mm_iload_n 1 dX11_can_1 rfl ?_
  refine mm_bipush (v := 10) dX11_can_2 rfl ?_
  refine mm_callVz (as := [.int v1, .int 10]) (st := []) (c_H_areStays E v1 10 M) dX11_can_4 mz_X11_areStays lk_RX11_203 im_X11_areStays se_X11_areStays lo_0 rfl rfl rfl ⟨Nat.le_of_ble_eq_true rfl, Nat.le_of_ble_eq_true rfl⟩ (Nat.le_of_ble_eq_true rfl) (fun b_1 M_2 => ?_)
  refine mm_if_eq_b 18 dX11_can_7 rfl ?_ ?_
  · refine mm_bipush (v := (-3)) dX11_can_18 rfl ?_
    exact mm_iret dX11_can_20 rfl
  · refine mm_iload_n 2 dX11_can_10 rfl ?_
    refine mm_iconst (v := 3) dX11_can_11 rfl ?_
    refine mm_callSz (as := [.int v2, .int 3]) (st := []) (c_H_isBelow E v2 3 M_2) dX11_can_12 mz_X11_isBelow lk_RX11_108 sm_X11_isBelow rfl ⟨Nat.le_of_ble_eq_true rfl, Nat.le_of_ble_eq_true rfl⟩ (Nat.le_of_ble_eq_true rfl) (fun b_3 M_4 => ?_)
    refine mm_if_ne_b 21 dX11_can_15 rfl ?_ ?_
    · refine mm_aload_n 0 dX11_can_21 rfl ?_
      refine mm_getR 56 dX11_can_22 fl_RX11_71 lo_0 rfl ?_
      refine mm_callVv (as := []) (st := []) (c_Load_begin E M_4) dX11_can_25 mz_X5_begin lk_RX11_177 im_X5_begin se_X5_begin lo_56 rfl rfl rfl ⟨Nat.le_of_ble_eq_true rfl, Nat.le_of_ble_eq_true rfl⟩ (Nat.le_of_ble_eq_true rfl) (fun u_5 M_6 => ?_)
      refine mm_aload_n 0 dX11_can_28 rfl ?_
      refine mm_getR 56 dX11_can_29 fl_RX11_71 lo_0 rfl ?_
      refine mm_iload_n 1 dX11_can_32 rfl ?_
      refine mm_callVv (as := [.int v1]) (st := []) (c_Load_turnTo E v1 M_6) dX11_can_33 mz_X5_turnTo lk_RX11_180 im_X5_turnTo se_X5_turnTo lo_56 rfl rfl rfl ⟨Nat.le_of_ble_eq_true rfl, Nat.le_of_ble_eq_true rfl⟩ (Nat.le_of_ble_eq_true rfl) (fun u_7 M_8 => ?_)
      refine mm_aload_n 0 dX11_can_36 rfl ?_
      refine mm_getR 56 dX11_can_37 fl_RX11_71 lo_0 rfl ?_
      refine mm_callVz (as := []) (st := []) (c_Load_fits E M_8) dX11_can_40 mz_X5_fits lk_RX11_206 im_X5_fits se_X5_fits lo_56 rfl rfl rfl ⟨Nat.le_of_ble_eq_true rfl, Nat.le_of_ble_eq_true rfl⟩ (Nat.le_of_ble_eq_true rfl) (fun b_9 M_10 => ?_)
      refine mm_istore_n [1, 2, 3, 0] (lv2 := [(0, .ref 0), (1, .int v1), (2, .int v2), (3, .int (mm_b b_9))]) dX11_can_43 (by decide) rfl ?_
      refine mm_iload_n 2 dX11_can_44 rfl ?_
      refine mm_if_ne 58 dX11_can_45 rfl ?_ ?_
      · refine mm_iload_n 3 dX11_can_58 rfl ?_
        refine mm_if_eq_b 65 dX11_can_59 rfl ?_ ?_
        · refine mm_iload_n 2 dX11_can_65 rfl ?_
          refine mm_iconst (v := 1) dX11_can_66 rfl ?_
          refine mm_icmp_ne 80 dX11_can_67 rfl ?_ ?_
          · refine mm_aload_n 0 dX11_can_80 rfl ?_
            refine mm_getR 56 dX11_can_81 fl_RX11_71 lo_0 rfl ?_
            refine mm_getI dX11_can_84 fl_RX11_213 lo_56 rfl ?_
            exact mm_iret dX11_can_87 rfl
          · refine mm_aload_n 0 dX11_can_70 rfl ?_
            refine mm_getR 56 dX11_can_71 fl_RX11_71 lo_0 rfl ?_
            refine mm_getI dX11_can_74 fl_RX11_210 lo_56 rfl ?_
            refine mm_goto 87 dX11_can_77 rfl ?_
            exact mm_iret dX11_can_87 rfl
        · refine mm_bipush (v := (-2)) dX11_can_62 rfl ?_
          exact mm_iret dX11_can_64 rfl
      · refine mm_iload_n 3 dX11_can_48 rfl ?_
        refine mm_if_eq_b 56 dX11_can_49 rfl ?_ ?_
        · refine mm_iconst (v := 0) dX11_can_56 rfl ?_
          exact mm_iret dX11_can_57 rfl
        · refine mm_iconst (v := 1) dX11_can_52 rfl ?_
          refine mm_goto 57 dX11_can_53 rfl ?_
          exact mm_iret dX11_can_57 rfl
    · refine mm_bipush (v := (-3)) dX11_can_18 rfl ?_
      exact mm_iret dX11_can_20 rfl
def lp_Register_pricesOf_27_4 (v1 : Int32) (k33 : Int32 → mm_M → Option (Int32 × mm_M)) : Nat → Int32 → Int32 → mm_M → Option (Int32 × mm_M)
  | 0, _, _, _ => none
  | n + 1, v2, v3, M => if 10 ≤ v3 then k33 v2 M else mm_bd (f_H_isIn v1 v3 M) fun b_1 M_2 => mm_jn (fun (v2 : Int32) (v3 : Int32) (M_3 : mm_M) => mm_let (v3 + 1) fun v3_4 => lp_Register_pricesOf_27_4 v1 k33 n v2 v3_4 M_3) fun j27 => if b_1 = true then if mm_in v3 (mm_al 30) = true then mm_let (v2 + (M_2.2.1 30 v3.toNatClampNeg)) fun v2_5 => j27 v2_5 v3 M_2 else none else j27 v2 v3 M_2
set_option maxHeartbeats 4000000 in
theorem lp_Register_pricesOf_27_4_ok (E : mm_E) (v1 : Int32) {k33 : Int32 → mm_M → Option (Int32 × mm_M)} (hk33 : ∀ (v2 : Int32) (M : mm_M), mm_G (fun x : Int32 => some (.int x)) E Y_X7_pricesOf 3 33 [(2, .int v2)] [] M (k33 v2 M)) : ∀ (n : Nat) (v2 : Int32) (v3 : Int32) (M : mm_M), mm_G (fun x : Int32 => some (.int x)) E Y_X7_pricesOf 3 4 [(0, .ref 27), (1, .int v1), (2, .int v2), (3, .int v3)] [] M (lp_Register_pricesOf_27_4 v1 k33 n v2 v3 M) := by
  intro n
  induction n with
  | zero => intro v2 v3 M r M2 he; cases he
  | succ n ih =>
    intro v2 v3 M
    rw [lp_Register_pricesOf_27_4]
    refine mm_iload_n 3 dX7_pricesOf_4 rfl ?_
    refine mm_bipush (v := 10) dX7_pricesOf_5 rfl ?_
    refine mm_icmp_ge 33 dX7_pricesOf_7 rfl ?_ ?_
    · refine mm_wk [2] rfl ?_
      exact hk33 v2 M
    · refine mm_iload_n 1 dX7_pricesOf_10 rfl ?_
      refine mm_iload_n 3 dX7_pricesOf_11 rfl ?_
      refine mm_callSNz (as := [.int v1, .int v3]) (st := []) (c_H_isIn E v1 v3 M) dX7_pricesOf_12 mz_X11_isIn lk_RX7_31 sm_X11_isIn rfl ⟨Nat.le_of_ble_eq_true rfl, Nat.le_of_ble_eq_true rfl⟩ (Nat.le_of_ble_eq_true rfl) (fun b_1 M_2 => ?_)
      refine mm_jnP (P := fun j => ∀ (v2 : Int32) (v3 : Int32) (M : mm_M), mm_G (fun x : Int32 => some (.int x)) E Y_X7_pricesOf 3 27 [(0, .ref 27), (1, .int v1), (2, .int v2), (3, .int v3)] [] M (j v2 v3 M)) ?_ (fun j27 hj27 => ?_)
      · intro v2 v3 M_3
        refine mm_iincN 3 [1, 2, 3, 0] (v := v3 + 1) (lv2 := fun v3_4 => [(0, .ref 27), (1, .int v1), (2, .int v2), (3, .int v3_4)]) dX7_pricesOf_27 rfl rfl (by decide) (fun _ => rfl) (fun v3_4 => ?_)
        refine mm_goto 4 dX7_pricesOf_30 rfl ?_
        exact ih v2 v3_4 M_3
      refine mm_if_eq_b 27 dX7_pricesOf_15 rfl ?_ ?_
      · exact hj27 v2 v3 M_2
      · refine mm_iload_n 2 dX7_pricesOf_18 rfl ?_
        refine mm_aload_n 0 dX7_pricesOf_19 rfl ?_
        refine mm_getR 30 dX7_pricesOf_20 fl_RX7_18 lo_27 rfl ?_
        refine mm_iload_n 3 dX7_pricesOf_23 rfl ?_
        refine mm_iaload dX7_pricesOf_24 ?_
        refine mm_iadd dX7_pricesOf_25 ?_
        refine mm_nm_int (fun v2_5 => ?_)
        refine mm_istore_n [1, 2, 0, 3] (lv2 := [(0, .ref 27), (1, .int v1), (2, .int v2_5), (3, .int v3)]) dX7_pricesOf_26 (by decide) rfl ?_
        exact hj27 v2_5 v3 M_2
def f_Register_pricesOf_27 (v1 : Int32) (M : mm_M) : Option (Int32 × mm_M) := lp_Register_pricesOf_27_4 v1 (fun (v2 : Int32) (M_6 : mm_M) => some (v2, M_6)) mm_fu 0 0 M
set_option maxHeartbeats 4000000 in
theorem c_Register_pricesOf_27 (E : mm_E) (v1 : Int32) (M : mm_M) : ∀ (r : Int32) (M2 : mm_M), f_Register_pricesOf_27 v1 M = some (r, M2) → mm_P E Y_X7_pricesOf 3 [.ref 27, .int v1] M (some (.int r)) M2 := by
  refine mm_entry (em := (fun x : Int32 => some (.int x))) (by decide +kernel) (Nat.le_of_ble_eq_true rfl) ?_
  show mm_G _ E _ _ 0 [(0, .ref 27), (1, .int v1)] [] M _
  unfold f_Register_pricesOf_27
  refine mm_iconst (v := 0) dX7_pricesOf_0 rfl ?_
  refine mm_istore_n [1, 2, 0] (lv2 := [(0, .ref 27), (1, .int v1), (2, .int 0)]) dX7_pricesOf_1 (by decide) rfl ?_
  refine mm_iconst (v := 0) dX7_pricesOf_2 rfl ?_
  refine mm_istore_n [1, 2, 3, 0] (lv2 := [(0, .ref 27), (1, .int v1), (2, .int 0), (3, .int 0)]) dX7_pricesOf_3 (by decide) rfl ?_
  refine lp_Register_pricesOf_27_4_ok E v1 ?_ mm_fu 0 0 M
  · intro v2 M_6
    refine mm_iload_n 0 dX7_pricesOf_33 rfl ?_
    exact mm_iret dX7_pricesOf_34 rfl
def f_Chooser_isBetter (v0 : Int32) (v1 : Int32) (v2 : Int32) (v3 : Int32) (M : mm_M) : Option (Bool × mm_M) := mm_jn (fun (M_1 : mm_M) => some (true, M_1)) fun j21 => if v2 < v0 then j21 M else if v0 = v2 then mm_bd (f_Integer_bitCount v1 M) fun r_2 M_3 => mm_bd (f_Integer_bitCount v3 M_3) fun r_4 M_5 => if r_4 ≤ r_2 then some (false, M_5) else j21 M_5 else some (false, M)
set_option maxHeartbeats 4000000 in
theorem c_Chooser_isBetter (E : mm_E) (v0 : Int32) (v1 : Int32) (v2 : Int32) (v3 : Int32) (M : mm_M) : ∀ (r : Bool) (M2 : mm_M), f_Chooser_isBetter v0 v1 v2 v3 M = some (r, M2) → mm_P E Y_X0_isBetter 2 [.int v0, .int v1, .int v2, .int v3] M (some (.int (mm_b r))) M2 := by
  refine mm_entry (em := (fun x : Bool => some (.int (mm_b x)))) (by decide +kernel) (Nat.le_of_ble_eq_true rfl) ?_
  show mm_G _ E _ _ 0 [(0, .int v0), (1, .int v1), (2, .int v2), (3, .int v3)] [] M _
  unfold f_Chooser_isBetter
  refine mm_iload_n 0 dX0_isBetter_0 rfl ?_
  refine mm_iload_n 2 dX0_isBetter_1 rfl ?_
  refine mm_jnP (P := fun j => ∀ (M : mm_M), mm_G (fun x : Bool => some (.int (mm_b x))) E Y_X0_isBetter 2 21 [] [] M (j M)) ?_ (fun j21 hj21 => ?_)
  · intro M_1
    refine mm_iconst (v := 1) dX0_isBetter_21 rfl ?_
    refine mm_goto 26 dX0_isBetter_22 rfl ?_
    exact mm_zret (b := true) dX0_isBetter_26 rfl
  refine mm_icmp_gt 21 dX0_isBetter_2 rfl ?_ ?_
  · refine mm_wk [] rfl ?_
    exact hj21  M
  · refine mm_iload_n 0 dX0_isBetter_5 rfl ?_
    refine mm_iload_n 2 dX0_isBetter_6 rfl ?_
    refine mm_icmp_ne 25 dX0_isBetter_7 rfl ?_ ?_
    · refine mm_iconst (v := 0) dX0_isBetter_25 rfl ?_
      exact mm_zret (b := false) dX0_isBetter_26 rfl
    · refine mm_iload_n 1 dX0_isBetter_10 rfl ?_
      refine mm_callSi (as := [.int v1]) (st := []) (c_Integer_bitCount E v1 M) dX0_isBetter_11 mz_J6_bitCount_0f7a4 lk_RX0_45 sm_J6_bitCount_0f7a4 rfl ⟨Nat.le_of_ble_eq_true rfl, Nat.le_of_ble_eq_true rfl⟩ (Nat.le_of_ble_eq_true rfl) (fun r_2 M_3 => ?_)
      refine mm_iload_n 3 dX0_isBetter_14 rfl ?_
      refine mm_callSi (as := [.int v3]) (st := [.int r_2]) (c_Integer_bitCount E v3 M_3) dX0_isBetter_15 mz_J6_bitCount_0f7a4 lk_RX0_45 sm_J6_bitCount_0f7a4 rfl ⟨Nat.le_of_ble_eq_true rfl, Nat.le_of_ble_eq_true rfl⟩ (Nat.le_of_ble_eq_true rfl) (fun r_4 M_5 => ?_)
      refine mm_icmp_ge 25 dX0_isBetter_18 rfl ?_ ?_
      · refine mm_iconst (v := 0) dX0_isBetter_25 rfl ?_
        exact mm_zret (b := false) dX0_isBetter_26 rfl
      · refine mm_wk [] rfl ?_
        exact hj21  M_5
def f_Chooser_fits (v1 : Int32) (M : mm_M) : Option (Bool × mm_M) := mm_bd (f_Load_turnTo v1 M) fun u_1 M_2 => mm_bd (f_Load_fits M_2) fun b_3 M_4 => some (b_3, M_4)
set_option maxHeartbeats 4000000 in
theorem c_Chooser_fits (E : mm_E) (v1 : Int32) (M : mm_M) : ∀ (r : Bool) (M2 : mm_M), f_Chooser_fits v1 M = some (r, M2) → mm_P E Y_X0_fits 5 [.ref 71, .int v1] M (some (.int (mm_b r))) M2 := by
  refine mm_entry (em := (fun x : Bool => some (.int (mm_b x)))) (by decide +kernel) (Nat.le_of_ble_eq_true rfl) ?_
  show mm_G _ E _ _ 0 [(0, .ref 71), (1, .int v1)] [] M _
  unfold f_Chooser_fits
  refine mm_aload_n 0 dX0_fits_0 rfl ?_
  refine mm_getR 56 dX0_fits_1 fl_RX0_23 lo_71 rfl ?_
  refine mm_iload_n 1 dX0_fits_4 rfl ?_
  refine mm_callVv (as := [.int v1]) (st := []) (c_Load_turnTo E v1 M) dX0_fits_5 mz_X5_turnTo lk_RX0_50 im_X5_turnTo se_X5_turnTo lo_56 rfl rfl rfl ⟨Nat.le_of_ble_eq_true rfl, Nat.le_of_ble_eq_true rfl⟩ (Nat.le_of_ble_eq_true rfl) (fun u_1 M_2 => ?_)
  refine mm_aload_n 0 dX0_fits_8 rfl ?_
  refine mm_getR 56 dX0_fits_9 fl_RX0_23 lo_71 rfl ?_
  refine mm_callVz (as := []) (st := []) (c_Load_fits E M_2) dX0_fits_12 mz_X5_fits lk_RX0_56 im_X5_fits se_X5_fits lo_56 rfl rfl rfl ⟨Nat.le_of_ble_eq_true rfl, Nat.le_of_ble_eq_true rfl⟩ (Nat.le_of_ble_eq_true rfl) (fun b_3 M_4 => ?_)
  exact mm_zret (b := b_3) dX0_fits_15 rfl
def lp_Chooser_bestOf_7 (v1 : Int32) (k68 : Int32 → mm_M → Option (Int32 × mm_M)) : Nat → Int32 → Int32 → Int32 → mm_M → Option (Int32 × mm_M)
  | 0, _, _, _, _ => none
  | n + 1, v2, v3, v4, M => if 1024 ≤ v4 then k68 v2 M else mm_bd (f_H_isPart v4 v1 M) fun b_1 M_2 => mm_jn (fun (v2 : Int32) (v3 : Int32) (v4 : Int32) (M_3 : mm_M) => mm_let (v4 + 1) fun v4_4 => lp_Chooser_bestOf_7 v1 k68 n v2 v3 v4_4 M_3) fun j62 => if b_1 = true then mm_bd (f_Register_pricesOf_27 v4 M_2) fun r_5 M_6 => mm_bd (f_Chooser_isBetter r_5 v4 v3 v2 M_6) fun b_7 M_8 => if b_7 = true then mm_bd (f_Chooser_fits v4 M_8) fun b_9 M_10 => if b_9 = true then j62 v4 r_5 v4 M_10 else j62 v2 v3 v4 M_10 else j62 v2 v3 v4 M_8 else j62 v2 v3 v4 M_2
set_option maxHeartbeats 4000000 in
theorem lp_Chooser_bestOf_7_ok (E : mm_E) (v1 : Int32) {k68 : Int32 → mm_M → Option (Int32 × mm_M)} (hk68 : ∀ (v2 : Int32) (M : mm_M), mm_G (fun x : Int32 => some (.int x)) E Y_X0_bestOf 6 68 [(2, .int v2)] [] M (k68 v2 M)) : ∀ (n : Nat) (v2 : Int32) (v3 : Int32) (v4 : Int32) (M : mm_M), mm_G (fun x : Int32 => some (.int x)) E Y_X0_bestOf 6 7 [(0, .ref 71), (1, .int v1), (2, .int v2), (3, .int v3), (4, .int v4)] [] M (lp_Chooser_bestOf_7 v1 k68 n v2 v3 v4 M) := by
  intro n
  induction n with
  | zero => intro v2 v3 v4 M r M2 he; cases he
  | succ n ih =>
    intro v2 v3 v4 M
    rw [lp_Chooser_bestOf_7]
    refine mm_iload 4 dX0_bestOf_7 rfl ?_
    refine mm_sipush (v := 1024) dX0_bestOf_9 rfl ?_
    refine mm_icmp_ge 68 dX0_bestOf_12 rfl ?_ ?_
    · refine mm_wk [2] rfl ?_
      exact hk68 v2 M
    · refine mm_iload 4 dX0_bestOf_15 rfl ?_
      refine mm_iload_n 1 dX0_bestOf_17 rfl ?_
      refine mm_callSNz (as := [.int v4, .int v1]) (st := []) (c_H_isPart E v4 v1 M) dX0_bestOf_18 mz_X11_isPart lk_RX0_27 sm_X11_isPart rfl ⟨Nat.le_of_ble_eq_true rfl, Nat.le_of_ble_eq_true rfl⟩ (Nat.le_of_ble_eq_true rfl) (fun b_1 M_2 => ?_)
      refine mm_jnP (P := fun j => ∀ (v2 : Int32) (v3 : Int32) (v4 : Int32) (M : mm_M), mm_G (fun x : Int32 => some (.int x)) E Y_X0_bestOf 6 62 [(0, .ref 71), (1, .int v1), (2, .int v2), (3, .int v3), (4, .int v4)] [] M (j v2 v3 v4 M)) ?_ (fun j62 hj62 => ?_)
      · intro v2 v3 v4 M_3
        refine mm_iincN 4 [1, 2, 3, 4, 0] (v := v4 + 1) (lv2 := fun v4_4 => [(0, .ref 71), (1, .int v1), (2, .int v2), (3, .int v3), (4, .int v4_4)]) dX0_bestOf_62 rfl rfl (by decide) (fun _ => rfl) (fun v4_4 => ?_)
        refine mm_goto 7 dX0_bestOf_65 rfl ?_
        exact ih v2 v3 v4_4 M_3
      refine mm_if_eq_b 62 dX0_bestOf_21 rfl ?_ ?_
      · exact hj62 v2 v3 v4 M_2
      · refine mm_aload_n 0 dX0_bestOf_24 rfl ?_
        refine mm_getR 27 dX0_bestOf_25 fl_RX0_19 lo_71 rfl ?_
        refine mm_iload 4 dX0_bestOf_28 rfl ?_
        refine mm_callVi (as := [.int v4]) (st := []) (c_Register_pricesOf_27 E v4 M_2) dX0_bestOf_30 mz_X7_pricesOf lk_RX0_31 im_X7_pricesOf se_X7_pricesOf lo_27 rfl rfl rfl ⟨Nat.le_of_ble_eq_true rfl, Nat.le_of_ble_eq_true rfl⟩ (Nat.le_of_ble_eq_true rfl) (fun r_5 M_6 => ?_)
        refine mm_istore [1, 2, 3, 4, 5, 0] (lv2 := [(0, .ref 71), (1, .int v1), (2, .int v2), (3, .int v3), (4, .int v4), (5, .int r_5)]) dX0_bestOf_33 (by decide) rfl ?_
        refine mm_iload 5 dX0_bestOf_35 rfl ?_
        refine mm_iload 4 dX0_bestOf_37 rfl ?_
        refine mm_iload_n 3 dX0_bestOf_39 rfl ?_
        refine mm_iload_n 2 dX0_bestOf_40 rfl ?_
        refine mm_callSz (as := [.int r_5, .int v4, .int v3, .int v2]) (st := []) (c_Chooser_isBetter E r_5 v4 v3 v2 M_6) dX0_bestOf_41 mz_X0_isBetter lk_RX0_37 sm_X0_isBetter rfl ⟨Nat.le_of_ble_eq_true rfl, Nat.le_of_ble_eq_true rfl⟩ (Nat.le_of_ble_eq_true rfl) (fun b_7 M_8 => ?_)
        refine mm_if_eq_b 62 dX0_bestOf_44 rfl ?_ ?_
        · refine mm_wk [0, 1, 2, 3, 4] rfl ?_
          exact hj62 v2 v3 v4 M_8
        · refine mm_aload_n 0 dX0_bestOf_47 rfl ?_
          refine mm_iload 4 dX0_bestOf_48 rfl ?_
          refine mm_callVz (as := [.int v4]) (st := []) (c_Chooser_fits E v4 M_8) dX0_bestOf_50 mz_X0_fits lk_RX0_41 im_X0_fits se_X0_fits lo_71 rfl rfl rfl ⟨Nat.le_of_ble_eq_true rfl, Nat.le_of_ble_eq_true rfl⟩ (Nat.le_of_ble_eq_true rfl) (fun b_9 M_10 => ?_)
          refine mm_if_eq_b 62 dX0_bestOf_53 rfl ?_ ?_
          · refine mm_wk [0, 1, 2, 3, 4] rfl ?_
            exact hj62 v2 v3 v4 M_10
          · refine mm_iload 4 dX0_bestOf_56 rfl ?_
            refine mm_istore_n [1, 2, 0, 3, 4, 5] (lv2 := [(0, .ref 71), (1, .int v1), (2, .int v4), (3, .int v3), (4, .int v4), (5, .int r_5)]) dX0_bestOf_58 (by decide) rfl ?_
            refine mm_iload 5 dX0_bestOf_59 rfl ?_
            refine mm_istore_n [1, 2, 3, 0, 4, 5] (lv2 := [(0, .ref 71), (1, .int v1), (2, .int v4), (3, .int r_5), (4, .int v4), (5, .int r_5)]) dX0_bestOf_61 (by decide) rfl ?_
            refine mm_wk [0, 1, 2, 3, 4] rfl ?_
            exact hj62 v4 r_5 v4 M_10
def f_Chooser_bestOf (v1 : Int32) (M : mm_M) : Option (Int32 × mm_M) := lp_Chooser_bestOf_7 v1 (fun (v2 : Int32) (M_11 : mm_M) => some (v2, M_11)) mm_fu 0 0 1 M
set_option maxHeartbeats 4000000 in
theorem c_Chooser_bestOf (E : mm_E) (v1 : Int32) (M : mm_M) : ∀ (r : Int32) (M2 : mm_M), f_Chooser_bestOf v1 M = some (r, M2) → mm_P E Y_X0_bestOf 6 [.ref 71, .int v1] M (some (.int r)) M2 := by
  refine mm_entry (em := (fun x : Int32 => some (.int x))) (by decide +kernel) (Nat.le_of_ble_eq_true rfl) ?_
  show mm_G _ E _ _ 0 [(0, .ref 71), (1, .int v1)] [] M _
  unfold f_Chooser_bestOf
  refine mm_iconst (v := 0) dX0_bestOf_0 rfl ?_
  refine mm_istore_n [1, 2, 0] (lv2 := [(0, .ref 71), (1, .int v1), (2, .int 0)]) dX0_bestOf_1 (by decide) rfl ?_
  refine mm_iconst (v := 0) dX0_bestOf_2 rfl ?_
  refine mm_istore_n [1, 2, 3, 0] (lv2 := [(0, .ref 71), (1, .int v1), (2, .int 0), (3, .int 0)]) dX0_bestOf_3 (by decide) rfl ?_
  refine mm_iconst (v := 1) dX0_bestOf_4 rfl ?_
  refine mm_istore [1, 2, 3, 4, 0] (lv2 := [(0, .ref 71), (1, .int v1), (2, .int 0), (3, .int 0), (4, .int 1)]) dX0_bestOf_5 (by decide) rfl ?_
  refine lp_Chooser_bestOf_7_ok E v1 ?_ mm_fu 0 0 1 M
  · intro v2 M_11
    refine mm_iload_n 0 dX0_bestOf_68 rfl ?_
    exact mm_iret dX0_bestOf_69 rfl
def f_H_best (v1 : Int32) (M : mm_M) : Option (Int32 × mm_M) := mm_bd (f_H_isBelow v1 2 M) fun b_1 M_2 => if b_1 = true then mm_bd (f_Load_begin M_2) fun u_3 M_4 => mm_bd (f_Chooser_bestOf (M_4.1 27 0) M_4) fun r_5 M_6 => if v1 = 0 then mm_bd (f_Register_pricesOf_27 r_5 M_6) fun r_7 M_8 => some (r_7, M_8) else some (r_5, M_6) else some ((-1), M_2)
set_option maxHeartbeats 4000000 in
theorem c_H_best (E : mm_E) (v1 : Int32) (M : mm_M) : ∀ (r : Int32) (M2 : mm_M), f_H_best v1 M = some (r, M2) → mm_P E Y_X11_best 7 [.ref 0, .int v1] M (some (.int r)) M2 := by
  refine mm_entry (em := (fun x : Int32 => some (.int x))) (by decide +kernel) (Nat.le_of_ble_eq_true rfl) ?_
  show mm_G _ E _ _ 0 [(0, .ref 0), (1, .int v1)] [] M _
  unfold f_H_best
  refine mm_iload_n 1 dX11_best_0 rfl ?_
  refine mm_iconst (v := 2) dX11_best_1 rfl ?_
  refine mm_callSz (as := [.int v1, .int 2]) (st := []) (c_H_isBelow E v1 2 M) dX11_best_2 mz_X11_isBelow lk_RX11_108 sm_X11_isBelow rfl ⟨Nat.le_of_ble_eq_true rfl, Nat.le_of_ble_eq_true rfl⟩ (Nat.le_of_ble_eq_true rfl) (fun b_1 M_2 => ?_)
  refine mm_if_ne_b 10 dX11_best_5 rfl ?_ ?_
  · refine mm_aload_n 0 dX11_best_10 rfl ?_
    refine mm_getR 56 dX11_best_11 fl_RX11_71 lo_0 rfl ?_
    refine mm_callVv (as := []) (st := []) (c_Load_begin E M_2) dX11_best_14 mz_X5_begin lk_RX11_177 im_X5_begin se_X5_begin lo_56 rfl rfl rfl ⟨Nat.le_of_ble_eq_true rfl, Nat.le_of_ble_eq_true rfl⟩ (Nat.le_of_ble_eq_true rfl) (fun u_3 M_4 => ?_)
    refine mm_aload_n 0 dX11_best_17 rfl ?_
    refine mm_getR 71 dX11_best_18 fl_RX11_80 lo_0 rfl ?_
    refine mm_aload_n 0 dX11_best_21 rfl ?_
    refine mm_getR 27 dX11_best_22 fl_RX11_40 lo_0 rfl ?_
    refine mm_getI dX11_best_25 fl_RX11_164 lo_27 rfl ?_
    refine mm_callVi (as := [.int (M_4.1 27 0)]) (st := []) (c_Chooser_bestOf E (M_4.1 27 0) M_4) dX11_best_28 mz_X0_bestOf lk_RX11_216 im_X0_bestOf se_X0_bestOf lo_71 rfl rfl rfl ⟨Nat.le_of_ble_eq_true rfl, Nat.le_of_ble_eq_true rfl⟩ (Nat.le_of_ble_eq_true rfl) (fun r_5 M_6 => ?_)
    refine mm_istore_n [1, 2, 0] (lv2 := [(0, .ref 0), (1, .int v1), (2, .int r_5)]) dX11_best_31 (by decide) rfl ?_
    refine mm_iload_n 1 dX11_best_32 rfl ?_
    refine mm_if_ne 47 dX11_best_33 rfl ?_ ?_
    · refine mm_iload_n 2 dX11_best_47 rfl ?_
      exact mm_iret dX11_best_48 rfl
    · refine mm_aload_n 0 dX11_best_36 rfl ?_
      refine mm_getR 27 dX11_best_37 fl_RX11_40 lo_0 rfl ?_
      refine mm_iload_n 2 dX11_best_40 rfl ?_
      refine mm_callVi (as := [.int r_5]) (st := []) (c_Register_pricesOf_27 E r_5 M_6) dX11_best_41 mz_X7_pricesOf lk_RX11_219 im_X7_pricesOf se_X7_pricesOf lo_27 rfl rfl rfl ⟨Nat.le_of_ble_eq_true rfl, Nat.le_of_ble_eq_true rfl⟩ (Nat.le_of_ble_eq_true rfl) (fun r_7 M_8 => ?_)
      refine mm_goto 48 dX11_best_44 rfl ?_
      exact mm_iret dX11_best_48 rfl
  · refine mm_iconst (v := (-1)) dX11_best_8 rfl ?_
    exact mm_iret dX11_best_9 rfl
def lp_Chooser_smallestMisfit_22 (v1 : Int32) (k64 : Int32 → mm_M → Option (Int32 × mm_M)) : Nat → Int32 → Int32 → mm_M → Option (Int32 × mm_M)
  | 0, _, _, _ => none
  | n + 1, v2, v3, M => if 1024 ≤ v3 then k64 v2 M else mm_bd (f_H_isPart v3 v1 M) fun b_4 M_5 => mm_jn (fun (v2 : Int32) (v3 : Int32) (M_6 : mm_M) => mm_let (v3 + 1) fun v3_7 => lp_Chooser_smallestMisfit_22 v1 k64 n v2 v3_7 M_6) fun j58 => if b_4 = true then mm_bd (f_Integer_bitCount v3 M_5) fun r_8 M_9 => mm_bd (f_Integer_bitCount v2 M_9) fun r_10 M_11 => if r_10 ≤ r_8 then j58 v2 v3 M_11 else mm_bd (f_Chooser_fits v3 M_11) fun b_12 M_13 => if b_12 = true then j58 v2 v3 M_13 else j58 v3 v3 M_13 else j58 v2 v3 M_5
set_option maxHeartbeats 4000000 in
theorem lp_Chooser_smallestMisfit_22_ok (E : mm_E) (v1 : Int32) {k64 : Int32 → mm_M → Option (Int32 × mm_M)} (hk64 : ∀ (v2 : Int32) (M : mm_M), mm_G (fun x : Int32 => some (.int x)) E Y_X0_smallestMisfit 6 64 [(2, .int v2)] [] M (k64 v2 M)) : ∀ (n : Nat) (v2 : Int32) (v3 : Int32) (M : mm_M), mm_G (fun x : Int32 => some (.int x)) E Y_X0_smallestMisfit 6 22 [(0, .ref 71), (1, .int v1), (2, .int v2), (3, .int v3)] [] M (lp_Chooser_smallestMisfit_22 v1 k64 n v2 v3 M) := by
  intro n
  induction n with
  | zero => intro v2 v3 M r M2 he; cases he
  | succ n ih =>
    intro v2 v3 M
    rw [lp_Chooser_smallestMisfit_22]
    refine mm_iload_n 3 dX0_smallestMisfit_22 rfl ?_
    refine mm_sipush (v := 1024) dX0_smallestMisfit_23 rfl ?_
    refine mm_icmp_ge 64 dX0_smallestMisfit_26 rfl ?_ ?_
    · refine mm_wk [2] rfl ?_
      exact hk64 v2 M
    · refine mm_iload_n 3 dX0_smallestMisfit_29 rfl ?_
      refine mm_iload_n 1 dX0_smallestMisfit_30 rfl ?_
      refine mm_callSNz (as := [.int v3, .int v1]) (st := []) (c_H_isPart E v3 v1 M) dX0_smallestMisfit_31 mz_X11_isPart lk_RX0_27 sm_X11_isPart rfl ⟨Nat.le_of_ble_eq_true rfl, Nat.le_of_ble_eq_true rfl⟩ (Nat.le_of_ble_eq_true rfl) (fun b_4 M_5 => ?_)
      refine mm_jnP (P := fun j => ∀ (v2 : Int32) (v3 : Int32) (M : mm_M), mm_G (fun x : Int32 => some (.int x)) E Y_X0_smallestMisfit 6 58 [(0, .ref 71), (1, .int v1), (2, .int v2), (3, .int v3)] [] M (j v2 v3 M)) ?_ (fun j58 hj58 => ?_)
      · intro v2 v3 M_6
        refine mm_iincN 3 [1, 2, 3, 0] (v := v3 + 1) (lv2 := fun v3_7 => [(0, .ref 71), (1, .int v1), (2, .int v2), (3, .int v3_7)]) dX0_smallestMisfit_58 rfl rfl (by decide) (fun _ => rfl) (fun v3_7 => ?_)
        refine mm_goto 22 dX0_smallestMisfit_61 rfl ?_
        exact ih v2 v3_7 M_6
      refine mm_if_eq_b 58 dX0_smallestMisfit_34 rfl ?_ ?_
      · exact hj58 v2 v3 M_5
      · refine mm_iload_n 3 dX0_smallestMisfit_37 rfl ?_
        refine mm_callSi (as := [.int v3]) (st := []) (c_Integer_bitCount E v3 M_5) dX0_smallestMisfit_38 mz_J6_bitCount_0f7a4 lk_RX0_45 sm_J6_bitCount_0f7a4 rfl ⟨Nat.le_of_ble_eq_true rfl, Nat.le_of_ble_eq_true rfl⟩ (Nat.le_of_ble_eq_true rfl) (fun r_8 M_9 => ?_)
        refine mm_iload_n 2 dX0_smallestMisfit_41 rfl ?_
        refine mm_callSi (as := [.int v2]) (st := [.int r_8]) (c_Integer_bitCount E v2 M_9) dX0_smallestMisfit_42 mz_J6_bitCount_0f7a4 lk_RX0_45 sm_J6_bitCount_0f7a4 rfl ⟨Nat.le_of_ble_eq_true rfl, Nat.le_of_ble_eq_true rfl⟩ (Nat.le_of_ble_eq_true rfl) (fun r_10 M_11 => ?_)
        refine mm_icmp_ge 58 dX0_smallestMisfit_45 rfl ?_ ?_
        · exact hj58 v2 v3 M_11
        · refine mm_aload_n 0 dX0_smallestMisfit_48 rfl ?_
          refine mm_iload_n 3 dX0_smallestMisfit_49 rfl ?_
          refine mm_callVz (as := [.int v3]) (st := []) (c_Chooser_fits E v3 M_11) dX0_smallestMisfit_50 mz_X0_fits lk_RX0_41 im_X0_fits se_X0_fits lo_71 rfl rfl rfl ⟨Nat.le_of_ble_eq_true rfl, Nat.le_of_ble_eq_true rfl⟩ (Nat.le_of_ble_eq_true rfl) (fun b_12 M_13 => ?_)
          refine mm_if_ne_b 58 dX0_smallestMisfit_53 rfl ?_ ?_
          · exact hj58 v2 v3 M_13
          · refine mm_iload_n 3 dX0_smallestMisfit_56 rfl ?_
            refine mm_istore_n [1, 2, 0, 3] (lv2 := [(0, .ref 71), (1, .int v1), (2, .int v3), (3, .int v3)]) dX0_smallestMisfit_57 (by decide) rfl ?_
            exact hj58 v3 v3 M_13
def f_Chooser_smallestMisfit (M : mm_M) : Option (Int32 × mm_M) := mm_let (M.1 27 0) fun v1_1 => mm_bd (f_Chooser_fits v1_1 M) fun b_2 M_3 => if b_2 = true then some (0, M_3) else lp_Chooser_smallestMisfit_22 v1_1 (fun (v2 : Int32) (M_14 : mm_M) => some (v2, M_14)) mm_fu v1_1 1 M_3
set_option maxHeartbeats 4000000 in
theorem c_Chooser_smallestMisfit (E : mm_E) (M : mm_M) : ∀ (r : Int32) (M2 : mm_M), f_Chooser_smallestMisfit M = some (r, M2) → mm_P E Y_X0_smallestMisfit 6 [.ref 71] M (some (.int r)) M2 := by
  refine mm_entry (em := (fun x : Int32 => some (.int x))) (by decide +kernel) (Nat.le_of_ble_eq_true rfl) ?_
  show mm_G _ E _ _ 0 [(0, .ref 71)] [] M _
  unfold f_Chooser_smallestMisfit
  refine mm_aload_n 0 dX0_smallestMisfit_0 rfl ?_
  refine mm_getR 27 dX0_smallestMisfit_1 fl_RX0_19 lo_71 rfl ?_
  refine mm_getI dX0_smallestMisfit_4 fl_RX0_59 lo_27 rfl ?_
  refine mm_nm_int (fun v1_1 => ?_)
  refine mm_istore_n [1, 0] (lv2 := [(0, .ref 71), (1, .int v1_1)]) dX0_smallestMisfit_7 (by decide) rfl ?_
  refine mm_aload_n 0 dX0_smallestMisfit_8 rfl ?_
  refine mm_iload_n 1 dX0_smallestMisfit_9 rfl ?_
  refine mm_callVz (as := [.int v1_1]) (st := []) (c_Chooser_fits E v1_1 M) dX0_smallestMisfit_10 mz_X0_fits lk_RX0_41 im_X0_fits se_X0_fits lo_71 rfl rfl rfl ⟨Nat.le_of_ble_eq_true rfl, Nat.le_of_ble_eq_true rfl⟩ (Nat.le_of_ble_eq_true rfl) (fun b_2 M_3 => ?_)
  refine mm_if_eq_b 18 dX0_smallestMisfit_13 rfl ?_ ?_
  · refine mm_iload_n 1 dX0_smallestMisfit_18 rfl ?_
    refine mm_istore_n [1, 2, 0] (lv2 := [(0, .ref 71), (1, .int v1_1), (2, .int v1_1)]) dX0_smallestMisfit_19 (by decide) rfl ?_
    refine mm_iconst (v := 1) dX0_smallestMisfit_20 rfl ?_
    refine mm_istore_n [1, 2, 3, 0] (lv2 := [(0, .ref 71), (1, .int v1_1), (2, .int v1_1), (3, .int 1)]) dX0_smallestMisfit_21 (by decide) rfl ?_
    refine lp_Chooser_smallestMisfit_22_ok E v1_1 ?_ mm_fu v1_1 1 M_3
    · intro v2 M_14
      refine mm_iload_n 0 dX0_smallestMisfit_64 rfl ?_
      exact mm_iret dX0_smallestMisfit_65 rfl
  · refine mm_iconst (v := 0) dX0_smallestMisfit_16 rfl ?_
    exact mm_iret dX0_smallestMisfit_17 rfl
def f_H_smallest (M : mm_M) : Option (Int32 × mm_M) := mm_bd (f_Load_begin M) fun u_1 M_2 => mm_bd (f_Chooser_smallestMisfit M_2) fun r_3 M_4 => some (r_3, M_4)
set_option maxHeartbeats 4000000 in
theorem c_H_smallest (E : mm_E) (M : mm_M) : ∀ (r : Int32) (M2 : mm_M), f_H_smallest M = some (r, M2) → mm_P E Y_X11_smallest 7 [.ref 0] M (some (.int r)) M2 := by
  refine mm_entry (em := (fun x : Int32 => some (.int x))) (by decide +kernel) (Nat.le_of_ble_eq_true rfl) ?_
  show mm_G _ E _ _ 0 [(0, .ref 0)] [] M _
  unfold f_H_smallest
  refine mm_aload_n 0 dX11_smallest_0 rfl ?_
  refine mm_getR 56 dX11_smallest_1 fl_RX11_71 lo_0 rfl ?_
  refine mm_callVv (as := []) (st := []) (c_Load_begin E M) dX11_smallest_4 mz_X5_begin lk_RX11_177 im_X5_begin se_X5_begin lo_56 rfl rfl rfl ⟨Nat.le_of_ble_eq_true rfl, Nat.le_of_ble_eq_true rfl⟩ (Nat.le_of_ble_eq_true rfl) (fun u_1 M_2 => ?_)
  refine mm_aload_n 0 dX11_smallest_7 rfl ?_
  refine mm_getR 71 dX11_smallest_8 fl_RX11_80 lo_0 rfl ?_
  refine mm_callVi (as := []) (st := []) (c_Chooser_smallestMisfit E M_2) dX11_smallest_11 mz_X0_smallestMisfit lk_RX11_222 im_X0_smallestMisfit se_X0_smallestMisfit lo_71 rfl rfl rfl ⟨Nat.le_of_ble_eq_true rfl, Nat.le_of_ble_eq_true rfl⟩ (Nat.le_of_ble_eq_true rfl) (fun r_3 M_4 => ?_)
  exact mm_iret dX11_smallest_14 rfl
def f_H_costs (v1 : Int32) (M : mm_M) : Option (Int32 × mm_M) := mm_bd (f_Register_has_27 v1 M) fun b_1 M_2 => if b_1 = true then mm_bd (f_Load_begin M_2) fun u_3 M_4 => mm_let ((M_4.1 27 0) &&& ((1 <<< (v1 &&& 31)) ^^^ (-1))) fun v2_5 => mm_bd (f_Chooser_bestOf v2_5 M_4) fun r_6 M_7 => mm_bd (f_Register_pricesOf_27 r_6 M_7) fun r_8 M_9 => mm_bd (f_Chooser_bestOf (M_9.1 27 0) M_9) fun r_10 M_11 => mm_bd (f_Register_pricesOf_27 (r_10 &&& v2_5) M_11) fun r_12 M_13 => some (r_8 - r_12, M_13) else some ((-1000000), M_2)
set_option maxHeartbeats 4000000 in
theorem c_H_costs (E : mm_E) (v1 : Int32) (M : mm_M) : ∀ (r : Int32) (M2 : mm_M), f_H_costs v1 M = some (r, M2) → mm_P E Y_X11_costs 7 [.ref 0, .int v1] M (some (.int r)) M2 := by
  refine mm_entry (em := (fun x : Int32 => some (.int x))) (by decide +kernel) (Nat.le_of_ble_eq_true rfl) ?_
  show mm_G _ E _ _ 0 [(0, .ref 0), (1, .int v1)] [] M _
  unfold f_H_costs
  refine mm_aload_n 0 dX11_costs_0 rfl ?_
  refine mm_getR 27 dX11_costs_1 fl_RX11_40 lo_0 rfl ?_
  refine mm_iload_n 1 dX11_costs_4 rfl ?_
  refine mm_callVz (as := [.int v1]) (st := []) (c_Register_has_27 E v1 M) dX11_costs_5 mz_X7_has lk_RX11_161 im_X7_has se_X7_has lo_27 rfl rfl rfl ⟨Nat.le_of_ble_eq_true rfl, Nat.le_of_ble_eq_true rfl⟩ (Nat.le_of_ble_eq_true rfl) (fun b_1 M_2 => ?_)
  refine mm_if_ne_b 14 dX11_costs_8 rfl ?_ ?_
  · refine mm_aload_n 0 dX11_costs_14 rfl ?_
    refine mm_getR 56 dX11_costs_15 fl_RX11_71 lo_0 rfl ?_
    refine mm_callVv (as := []) (st := []) (c_Load_begin E M_2) dX11_costs_18 mz_X5_begin lk_RX11_177 im_X5_begin se_X5_begin lo_56 rfl rfl rfl ⟨Nat.le_of_ble_eq_true rfl, Nat.le_of_ble_eq_true rfl⟩ (Nat.le_of_ble_eq_true rfl) (fun u_3 M_4 => ?_)
    refine mm_aload_n 0 dX11_costs_21 rfl ?_
    refine mm_getR 27 dX11_costs_22 fl_RX11_40 lo_0 rfl ?_
    refine mm_getI dX11_costs_25 fl_RX11_164 lo_27 rfl ?_
    refine mm_iconst (v := 1) dX11_costs_28 rfl ?_
    refine mm_iload_n 1 dX11_costs_29 rfl ?_
    refine mm_ishl dX11_costs_30 ?_
    refine mm_iconst (v := (-1)) dX11_costs_31 rfl ?_
    refine mm_ixor dX11_costs_32 ?_
    refine mm_iand dX11_costs_33 ?_
    refine mm_nm_int (fun v2_5 => ?_)
    refine mm_istore_n [1, 2, 0] (lv2 := [(0, .ref 0), (1, .int v1), (2, .int v2_5)]) dX11_costs_34 (by decide) rfl ?_
    refine mm_aload_n 0 dX11_costs_35 rfl ?_
    refine mm_getR 27 dX11_costs_36 fl_RX11_40 lo_0 rfl ?_
    refine mm_aload_n 0 dX11_costs_39 rfl ?_
    refine mm_getR 71 dX11_costs_40 fl_RX11_80 lo_0 rfl ?_
    refine mm_iload_n 2 dX11_costs_43 rfl ?_
    refine mm_callVi (as := [.int v2_5]) (st := [.ref 27]) (c_Chooser_bestOf E v2_5 M_4) dX11_costs_44 mz_X0_bestOf lk_RX11_216 im_X0_bestOf se_X0_bestOf lo_71 rfl rfl rfl ⟨Nat.le_of_ble_eq_true rfl, Nat.le_of_ble_eq_true rfl⟩ (Nat.le_of_ble_eq_true rfl) (fun r_6 M_7 => ?_)
    refine mm_callVi (as := [.int r_6]) (st := []) (c_Register_pricesOf_27 E r_6 M_7) dX11_costs_47 mz_X7_pricesOf lk_RX11_219 im_X7_pricesOf se_X7_pricesOf lo_27 rfl rfl rfl ⟨Nat.le_of_ble_eq_true rfl, Nat.le_of_ble_eq_true rfl⟩ (Nat.le_of_ble_eq_true rfl) (fun r_8 M_9 => ?_)
    refine mm_istore_n [1, 2, 3, 0] (lv2 := [(0, .ref 0), (1, .int v1), (2, .int v2_5), (3, .int r_8)]) dX11_costs_50 (by decide) rfl ?_
    refine mm_aload_n 0 dX11_costs_51 rfl ?_
    refine mm_getR 27 dX11_costs_52 fl_RX11_40 lo_0 rfl ?_
    refine mm_aload_n 0 dX11_costs_55 rfl ?_
    refine mm_getR 71 dX11_costs_56 fl_RX11_80 lo_0 rfl ?_
    refine mm_aload_n 0 dX11_costs_59 rfl ?_
    refine mm_getR 27 dX11_costs_60 fl_RX11_40 lo_0 rfl ?_
    refine mm_getI dX11_costs_63 fl_RX11_164 lo_27 rfl ?_
    refine mm_callVi (as := [.int (M_9.1 27 0)]) (st := [.ref 27]) (c_Chooser_bestOf E (M_9.1 27 0) M_9) dX11_costs_66 mz_X0_bestOf lk_RX11_216 im_X0_bestOf se_X0_bestOf lo_71 rfl rfl rfl ⟨Nat.le_of_ble_eq_true rfl, Nat.le_of_ble_eq_true rfl⟩ (Nat.le_of_ble_eq_true rfl) (fun r_10 M_11 => ?_)
    refine mm_iload_n 2 dX11_costs_69 rfl ?_
    refine mm_iand dX11_costs_70 ?_
    refine mm_callVi (as := [.int (r_10 &&& v2_5)]) (st := []) (c_Register_pricesOf_27 E (r_10 &&& v2_5) M_11) dX11_costs_71 mz_X7_pricesOf lk_RX11_219 im_X7_pricesOf se_X7_pricesOf lo_27 rfl rfl rfl ⟨Nat.le_of_ble_eq_true rfl, Nat.le_of_ble_eq_true rfl⟩ (Nat.le_of_ble_eq_true rfl) (fun r_12 M_13 => ?_)
    refine mm_istore [1, 2, 3, 4, 0] (lv2 := [(0, .ref 0), (1, .int v1), (2, .int v2_5), (3, .int r_8), (4, .int r_12)]) dX11_costs_74 (by decide) rfl ?_
    refine mm_iload_n 3 dX11_costs_76 rfl ?_
    refine mm_iload 4 dX11_costs_77 rfl ?_
    refine mm_isub dX11_costs_79 ?_
    exact mm_iret dX11_costs_80 rfl
  · refine mm_ldc dX11_costs_11 ct_RX11_225 ?_
    exact mm_iret dX11_costs_13 rfl
def f_Tape_byteAt (v1 : Int32) (M : mm_M) : Option (Int32 × mm_M) := mm_bd (f_H_isBelow v1 (M.1 1 1) M) fun b_1 M_2 => if b_1 = true then if mm_in v1 (mm_al 2) = true then some (M_2.2.1 2 v1.toNatClampNeg, M_2) else none else some (0, M_2)
set_option maxHeartbeats 4000000 in
theorem c_Tape_byteAt (E : mm_E) (v1 : Int32) (M : mm_M) : ∀ (r : Int32) (M2 : mm_M), f_Tape_byteAt v1 M = some (r, M2) → mm_P E Y_X9_byteAt 2 [.ref 1, .int v1] M (some (.int r)) M2 := by
  refine mm_entry (em := (fun x : Int32 => some (.int x))) (by decide +kernel) (Nat.le_of_ble_eq_true rfl) ?_
  show mm_G _ E _ _ 0 [(0, .ref 1), (1, .int v1)] [] M _
  unfold f_Tape_byteAt
  refine mm_iload_n 1 dX9_byteAt_0 rfl ?_
  refine mm_aload_n 0 dX9_byteAt_1 rfl ?_
  refine mm_getI dX9_byteAt_2 fl_RX9_15 lo_1 rfl ?_
  refine mm_callSNz (as := [.int v1, .int (M.1 1 1)]) (st := []) (c_H_isBelow E v1 (M.1 1 1) M) dX9_byteAt_5 mz_X11_isBelow lk_RX9_19 sm_X11_isBelow rfl ⟨Nat.le_of_ble_eq_true rfl, Nat.le_of_ble_eq_true rfl⟩ (Nat.le_of_ble_eq_true rfl) (fun b_1 M_2 => ?_)
  refine mm_if_eq_b 20 dX9_byteAt_8 rfl ?_ ?_
  · refine mm_iconst (v := 0) dX9_byteAt_20 rfl ?_
    exact mm_iret dX9_byteAt_21 rfl
  · refine mm_aload_n 0 dX9_byteAt_11 rfl ?_
    refine mm_getR 2 dX9_byteAt_12 fl_RX9_9 lo_1 rfl ?_
    refine mm_iload_n 1 dX9_byteAt_15 rfl ?_
    refine mm_iaload dX9_byteAt_16 ?_
    refine mm_goto 21 dX9_byteAt_17 rfl ?_
    exact mm_iret dX9_byteAt_21 rfl
def lp_H_roomsOnTape_5 (v1 : Int32) (v2 : Int32) (k46 : mm_M → Option (Int32 × mm_M)) (k74 : mm_M → Option (Int32 × mm_M)) (k89 : Int32 → mm_M → Option (Int32 × mm_M)) : Nat → Int32 → Int32 → mm_M → Option (Int32 × mm_M)
  | 0, _, _, _ => none
  | n + 1, v3, v4, M => if v2 ≤ v4 then k89 v3 M else mm_bd (f_Tape_byteAt v4 M) fun r_1 M_2 => mm_bd (f_H_isBelow r_1 (M_2.1 22 1) M_2) fun b_3 M_4 => if b_3 = true then mm_bd (f_H_isIn v3 r_1 M_4) fun b_5 M_6 => if b_5 = true then k46 M_6 else mm_bd (f_Register_holderOf_27 r_1 M_6) fun r_7 M_8 => mm_jn (fun (v3 : Int32) (v4 : Int32) (v5 : Int32) (M_9 : mm_M) => mm_let (v3 ||| (1 <<< (v5 &&& 31))) fun v3_10 => mm_let (v4 + 1) fun v4_11 => lp_H_roomsOnTape_5 v1 v2 k46 k74 k89 n v3_10 v4_11 M_9) fun j76 => if r_7 = (-1) then j76 v3 v4 r_1 M_8 else mm_bd (f_H_isIn v1 r_7 M_8) fun b_12 M_13 => if b_12 = true then j76 v3 v4 r_1 M_13 else k74 M_13 else k46 M_4
set_option maxHeartbeats 4000000 in
theorem lp_H_roomsOnTape_5_ok (E : mm_E) (v1 : Int32) (v2 : Int32) {k46 : mm_M → Option (Int32 × mm_M)} {k74 : mm_M → Option (Int32 × mm_M)} {k89 : Int32 → mm_M → Option (Int32 × mm_M)} (hk46 : ∀ (M : mm_M), mm_G (fun x : Int32 => some (.int x)) E Y_X11_roomsOnTape 5 46 [] [] M (k46 M)) (hk74 : ∀ (M : mm_M), mm_G (fun x : Int32 => some (.int x)) E Y_X11_roomsOnTape 5 74 [] [] M (k74 M)) (hk89 : ∀ (v3 : Int32) (M : mm_M), mm_G (fun x : Int32 => some (.int x)) E Y_X11_roomsOnTape 5 89 [(3, .int v3)] [] M (k89 v3 M)) : ∀ (n : Nat) (v3 : Int32) (v4 : Int32) (M : mm_M), mm_G (fun x : Int32 => some (.int x)) E Y_X11_roomsOnTape 5 5 [(0, .ref 0), (1, .int v1), (2, .int v2), (3, .int v3), (4, .int v4)] [] M (lp_H_roomsOnTape_5 v1 v2 k46 k74 k89 n v3 v4 M) := by
  intro n
  induction n with
  | zero => intro v3 v4 M r M2 he; cases he
  | succ n ih =>
    intro v3 v4 M
    rw [lp_H_roomsOnTape_5]
    refine mm_iload 4 dX11_roomsOnTape_5 rfl ?_
    refine mm_iload_n 2 dX11_roomsOnTape_7 rfl ?_
    refine mm_icmp_ge 89 dX11_roomsOnTape_8 rfl ?_ ?_
    · refine mm_wk [3] rfl ?_
      exact hk89 v3 M
    · refine mm_aload_n 0 dX11_roomsOnTape_11 rfl ?_
      refine mm_getR 1 dX11_roomsOnTape_12 fl_RX11_12 lo_0 rfl ?_
      refine mm_iload 4 dX11_roomsOnTape_15 rfl ?_
      refine mm_callVi (as := [.int v4]) (st := []) (c_Tape_byteAt E v4 M) dX11_roomsOnTape_17 mz_X9_byteAt lk_RX11_341 im_X9_byteAt se_X9_byteAt lo_1 rfl rfl rfl ⟨Nat.le_of_ble_eq_true rfl, Nat.le_of_ble_eq_true rfl⟩ (Nat.le_of_ble_eq_true rfl) (fun r_1 M_2 => ?_)
      refine mm_istore [1, 2, 3, 4, 5, 0] (lv2 := [(0, .ref 0), (1, .int v1), (2, .int v2), (3, .int v3), (4, .int v4), (5, .int r_1)]) dX11_roomsOnTape_20 (by decide) rfl ?_
      refine mm_iload 5 dX11_roomsOnTape_22 rfl ?_
      refine mm_aload_n 0 dX11_roomsOnTape_24 rfl ?_
      refine mm_getR 22 dX11_roomsOnTape_25 fl_RX11_33 lo_0 rfl ?_
      refine mm_getI dX11_roomsOnTape_28 fl_RX11_127 lo_22 rfl ?_
      refine mm_callSz (as := [.int r_1, .int (M_2.1 22 1)]) (st := []) (c_H_isBelow E r_1 (M_2.1 22 1) M_2) dX11_roomsOnTape_31 mz_X11_isBelow lk_RX11_108 sm_X11_isBelow rfl ⟨Nat.le_of_ble_eq_true rfl, Nat.le_of_ble_eq_true rfl⟩ (Nat.le_of_ble_eq_true rfl) (fun b_3 M_4 => ?_)
      refine mm_if_eq_b 46 dX11_roomsOnTape_34 rfl ?_ ?_
      · refine mm_wk [] rfl ?_
        exact hk46  M_4
      · refine mm_iload_n 3 dX11_roomsOnTape_37 rfl ?_
        refine mm_iload 5 dX11_roomsOnTape_38 rfl ?_
        refine mm_callSz (as := [.int v3, .int r_1]) (st := []) (c_H_isIn E v3 r_1 M_4) dX11_roomsOnTape_40 mz_X11_isIn lk_RX11_231 sm_X11_isIn rfl ⟨Nat.le_of_ble_eq_true rfl, Nat.le_of_ble_eq_true rfl⟩ (Nat.le_of_ble_eq_true rfl) (fun b_5 M_6 => ?_)
        refine mm_if_eq_b 48 dX11_roomsOnTape_43 rfl ?_ ?_
        · refine mm_aload_n 0 dX11_roomsOnTape_48 rfl ?_
          refine mm_getR 27 dX11_roomsOnTape_49 fl_RX11_40 lo_0 rfl ?_
          refine mm_iload 5 dX11_roomsOnTape_52 rfl ?_
          refine mm_callVi (as := [.int r_1]) (st := []) (c_Register_holderOf_27 E r_1 M_6) dX11_roomsOnTape_54 mz_X7_holderOf lk_RX11_153 im_X7_holderOf se_X7_holderOf lo_27 rfl rfl rfl ⟨Nat.le_of_ble_eq_true rfl, Nat.le_of_ble_eq_true rfl⟩ (Nat.le_of_ble_eq_true rfl) (fun r_7 M_8 => ?_)
          refine mm_istore [1, 2, 3, 4, 5, 6, 0] (lv2 := [(0, .ref 0), (1, .int v1), (2, .int v2), (3, .int v3), (4, .int v4), (5, .int r_1), (6, .int r_7)]) dX11_roomsOnTape_57 (by decide) rfl ?_
          refine mm_iload 6 dX11_roomsOnTape_59 rfl ?_
          refine mm_iconst (v := (-1)) dX11_roomsOnTape_61 rfl ?_
          refine mm_jnP (P := fun j => ∀ (v3 : Int32) (v4 : Int32) (v5 : Int32) (M : mm_M), mm_G (fun x : Int32 => some (.int x)) E Y_X11_roomsOnTape 5 76 [(0, .ref 0), (1, .int v1), (2, .int v2), (3, .int v3), (4, .int v4), (5, .int v5)] [] M (j v3 v4 v5 M)) ?_ (fun j76 hj76 => ?_)
          · intro v3 v4 v5 M_9
            refine mm_iload_n 3 dX11_roomsOnTape_76 rfl ?_
            refine mm_iconst (v := 1) dX11_roomsOnTape_77 rfl ?_
            refine mm_iload 5 dX11_roomsOnTape_78 rfl ?_
            refine mm_ishl dX11_roomsOnTape_80 ?_
            refine mm_ior dX11_roomsOnTape_81 ?_
            refine mm_nm_int (fun v3_10 => ?_)
            refine mm_istore_n [1, 2, 3, 0, 4, 5] (lv2 := [(0, .ref 0), (1, .int v1), (2, .int v2), (3, .int v3_10), (4, .int v4), (5, .int v5)]) dX11_roomsOnTape_82 (by decide) rfl ?_
            refine mm_iincN 4 [1, 2, 3, 4, 0, 5] (v := v4 + 1) (lv2 := fun v4_11 => [(0, .ref 0), (1, .int v1), (2, .int v2), (3, .int v3_10), (4, .int v4_11), (5, .int v5)]) dX11_roomsOnTape_83 rfl rfl (by decide) (fun _ => rfl) (fun v4_11 => ?_)
            refine mm_goto 5 dX11_roomsOnTape_86 rfl ?_
            refine mm_wk [0, 1, 2, 3, 4] rfl ?_
            exact ih v3_10 v4_11 M_9
          refine mm_icmp_eq 76 dX11_roomsOnTape_62 rfl ?_ ?_
          · refine mm_wk [0, 1, 2, 3, 4, 5] rfl ?_
            exact hj76 v3 v4 r_1 M_8
          · refine mm_iload_n 1 dX11_roomsOnTape_65 rfl ?_
            refine mm_iload 6 dX11_roomsOnTape_66 rfl ?_
            refine mm_callSz (as := [.int v1, .int r_7]) (st := []) (c_H_isIn E v1 r_7 M_8) dX11_roomsOnTape_68 mz_X11_isIn lk_RX11_231 sm_X11_isIn rfl ⟨Nat.le_of_ble_eq_true rfl, Nat.le_of_ble_eq_true rfl⟩ (Nat.le_of_ble_eq_true rfl) (fun b_12 M_13 => ?_)
            refine mm_if_ne_b 76 dX11_roomsOnTape_71 rfl ?_ ?_
            · refine mm_wk [0, 1, 2, 3, 4, 5] rfl ?_
              exact hj76 v3 v4 r_1 M_13
            · refine mm_wk [] rfl ?_
              exact hk74  M_13
        · refine mm_wk [] rfl ?_
          exact hk46  M_6
def f_H_roomsOnTape (v1 : Int32) (v2 : Int32) (M : mm_M) : Option (Int32 × mm_M) := lp_H_roomsOnTape_5 v1 v2 (fun (M_14 : mm_M) => some ((-1), M_14)) (fun (M_15 : mm_M) => some ((-1), M_15)) (fun (v3 : Int32) (M_16 : mm_M) => some (v3, M_16)) mm_fu 0 0 M
set_option maxHeartbeats 4000000 in
theorem c_H_roomsOnTape (E : mm_E) (v1 : Int32) (v2 : Int32) (M : mm_M) : ∀ (r : Int32) (M2 : mm_M), f_H_roomsOnTape v1 v2 M = some (r, M2) → mm_P E Y_X11_roomsOnTape 5 [.ref 0, .int v1, .int v2] M (some (.int r)) M2 := by
  refine mm_entry (em := (fun x : Int32 => some (.int x))) (by decide +kernel) (Nat.le_of_ble_eq_true rfl) ?_
  show mm_G _ E _ _ 0 [(0, .ref 0), (1, .int v1), (2, .int v2)] [] M _
  unfold f_H_roomsOnTape
  refine mm_iconst (v := 0) dX11_roomsOnTape_0 rfl ?_
  refine mm_istore_n [1, 2, 3, 0] (lv2 := [(0, .ref 0), (1, .int v1), (2, .int v2), (3, .int 0)]) dX11_roomsOnTape_1 (by decide) rfl ?_
  refine mm_iconst (v := 0) dX11_roomsOnTape_2 rfl ?_
  refine mm_istore [1, 2, 3, 4, 0] (lv2 := [(0, .ref 0), (1, .int v1), (2, .int v2), (3, .int 0), (4, .int 0)]) dX11_roomsOnTape_3 (by decide) rfl ?_
  refine lp_H_roomsOnTape_5_ok E v1 v2 ?_ ?_ ?_ mm_fu 0 0 M
  · intro M_14
    refine mm_iconst (v := (-1)) dX11_roomsOnTape_46 rfl ?_
    exact mm_iret dX11_roomsOnTape_47 rfl
  · intro M_15
    refine mm_iconst (v := (-1)) dX11_roomsOnTape_74 rfl ?_
    exact mm_iret dX11_roomsOnTape_75 rfl
  · intro v3 M_16
    refine mm_iload_n 0 dX11_roomsOnTape_89 rfl ?_
    exact mm_iret dX11_roomsOnTape_90 rfl
def f_Load_include (v1 : Int32) (M : mm_M) : Option (Unit × mm_M) := mm_bd (f_Load_turnTo ((M.1 56 7) ||| (1 <<< (v1 &&& 31))) M) fun u_1 M_2 => some ((), M_2)
set_option maxHeartbeats 4000000 in
theorem c_Load_include (E : mm_E) (v1 : Int32) (M : mm_M) : ∀ (r : Unit) (M2 : mm_M), f_Load_include v1 M = some (r, M2) → mm_P E Y_X5_include 4 [.ref 56, .int v1] M none M2 := by
  refine mm_entry (em := (fun _ : Unit => none)) (by decide +kernel) (Nat.le_of_ble_eq_true rfl) ?_
  show mm_G _ E _ _ 0 [(0, .ref 56), (1, .int v1)] [] M _
  unfold f_Load_include
  refine mm_aload_n 0 dX5_include_0 rfl ?_
  refine mm_aload_n 0 dX5_include_1 rfl ?_
  refine mm_getI dX5_include_2 fl_RX5_38 lo_56 rfl ?_
  refine mm_iconst (v := 1) dX5_include_5 rfl ?_
  refine mm_iload_n 1 dX5_include_6 rfl ?_
  refine mm_ishl dX5_include_7 ?_
  refine mm_ior dX5_include_8 ?_
  refine mm_callVv (as := [.int ((M.1 56 7) ||| (1 <<< (v1 &&& 31)))]) (st := []) (c_Load_turnTo E ((M.1 56 7) ||| (1 <<< (v1 &&& 31))) M) dX5_include_9 mz_X5_turnTo lk_RX5_92 im_X5_turnTo se_X5_turnTo lo_56 rfl rfl rfl ⟨Nat.le_of_ble_eq_true rfl, Nat.le_of_ble_eq_true rfl⟩ (Nat.le_of_ble_eq_true rfl) (fun u_1 M_2 => ?_)
  exact mm_vret dX5_include_12 rfl
def f_Load_exclude (v1 : Int32) (M : mm_M) : Option (Unit × mm_M) := mm_bd (f_Load_turnTo ((M.1 56 7) &&& ((1 <<< (v1 &&& 31)) ^^^ (-1))) M) fun u_1 M_2 => some ((), M_2)
set_option maxHeartbeats 4000000 in
theorem c_Load_exclude (E : mm_E) (v1 : Int32) (M : mm_M) : ∀ (r : Unit) (M2 : mm_M), f_Load_exclude v1 M = some (r, M2) → mm_P E Y_X5_exclude 4 [.ref 56, .int v1] M none M2 := by
  refine mm_entry (em := (fun _ : Unit => none)) (by decide +kernel) (Nat.le_of_ble_eq_true rfl) ?_
  show mm_G _ E _ _ 0 [(0, .ref 56), (1, .int v1)] [] M _
  unfold f_Load_exclude
  refine mm_aload_n 0 dX5_exclude_0 rfl ?_
  refine mm_aload_n 0 dX5_exclude_1 rfl ?_
  refine mm_getI dX5_exclude_2 fl_RX5_38 lo_56 rfl ?_
  refine mm_iconst (v := 1) dX5_exclude_5 rfl ?_
  refine mm_iload_n 1 dX5_exclude_6 rfl ?_
  refine mm_ishl dX5_exclude_7 ?_
  refine mm_iconst (v := (-1)) dX5_exclude_8 rfl ?_
  refine mm_ixor dX5_exclude_9 ?_
  refine mm_iand dX5_exclude_10 ?_
  refine mm_callVv (as := [.int ((M.1 56 7) &&& ((1 <<< (v1 &&& 31)) ^^^ (-1)))]) (st := []) (c_Load_turnTo E ((M.1 56 7) &&& ((1 <<< (v1 &&& 31)) ^^^ (-1))) M) dX5_exclude_11 mz_X5_turnTo lk_RX5_92 im_X5_turnTo se_X5_turnTo lo_56 rfl rfl rfl ⟨Nat.le_of_ble_eq_true rfl, Nat.le_of_ble_eq_true rfl⟩ (Nat.le_of_ble_eq_true rfl) (fun u_1 M_2 => ?_)
  exact mm_vret dX5_exclude_14 rfl
def lp_Mover_findRoomsFrom_33 (F : Int32 → Int32 → mm_M → Option (Bool × mm_M)) (v1 : Int32) (v2 : Int32) (k131 : mm_M → Option (Bool × mm_M)) (k147 : mm_M → Option (Bool × mm_M)) : Nat → Int32 → Int32 → mm_M → Option (Bool × mm_M)
  | 0, _, _, _ => none
  | n + 1, v3, v4, M => if 10 ≤ v4 then k147 M else if mm_in v4 (mm_al 23) = true then mm_let (M.2.1 23 v4.toNatClampNeg) fun v5_3 => mm_bd (f_H_isIn v2 v4 M) fun b_4 M_5 => mm_jn (fun (v3 : Int32) (v4 : Int32) (M_6 : mm_M) => mm_let (v4 + 1) fun v4_7 => lp_Mover_findRoomsFrom_33 F v1 v2 k131 k147 n v3 v4_7 M_6) fun j141 => if b_4 = true then mm_bd (f_H_isIn v3 v5_3 M_5) fun b_8 M_9 => if b_8 = true then j141 v3 v4 M_9 else mm_let (v3 ||| (1 <<< (v5_3 &&& 31))) fun v3_10 => if mm_in v1 (mm_al 94) = true then mm_let (mm_setA M_9 94 (v1.toNatClampNeg) v4) fun M_11 => mm_bd (f_Load_setFloor v1 v5_3 M_11) fun u_12 M_13 => mm_bd (f_Load_include v1 M_13) fun u_14 M_15 => mm_bd (f_Load_fits M_15) fun b_16 M_17 => mm_jn (fun (v3 : Int32) (v4 : Int32) (M_18 : mm_M) => mm_bd (f_Load_exclude v1 M_18) fun u_19 M_20 => j141 v3 v4 M_20) fun j133 => if b_16 = true then mm_bd (F (v1 + 1) (v2 &&& ((1 <<< (v4 &&& 31)) ^^^ (-1))) M_17) fun b_21 M_22 => if b_21 = true then k131 M_22 else j133 v3_10 v4 M_22 else j133 v3_10 v4 M_17 else none else j141 v3 v4 M_5 else none
set_option maxHeartbeats 4000000 in
theorem lp_Mover_findRoomsFrom_33_ok (E : mm_E) {nd : Nat} {F : Int32 → Int32 → mm_M → Option (Bool × mm_M)} (hF : 4 ≤ nd ∧ (∀ (v1 : Int32) (v2 : Int32) (M : mm_M) (r : Bool) (M2 : mm_M), F v1 v2 M = some (r, M2) → mm_P E Y_X6_findRoomsFrom nd [.ref 93, .int v1, .int v2] M (some (.int (mm_b r))) M2)) (v1 : Int32) (v2 : Int32) {k131 : mm_M → Option (Bool × mm_M)} {k147 : mm_M → Option (Bool × mm_M)} (hk131 : ∀ (M : mm_M), mm_G (fun x : Bool => some (.int (mm_b x))) E Y_X6_findRoomsFrom (nd + 1) 131 [] [] M (k131 M)) (hk147 : ∀ (M : mm_M), mm_G (fun x : Bool => some (.int (mm_b x))) E Y_X6_findRoomsFrom (nd + 1) 147 [] [] M (k147 M)) : ∀ (n : Nat) (v3 : Int32) (v4 : Int32) (M : mm_M), mm_G (fun x : Bool => some (.int (mm_b x))) E Y_X6_findRoomsFrom (nd + 1) 33 [(0, .ref 93), (1, .int v1), (2, .int v2), (3, .int v3), (4, .int v4)] [] M (lp_Mover_findRoomsFrom_33 F v1 v2 k131 k147 n v3 v4 M) := by
  have hB := hF.1
  intro n
  induction n with
  | zero => intro v3 v4 M r M2 he; cases he
  | succ n ih =>
    intro v3 v4 M
    rw [lp_Mover_findRoomsFrom_33]
    refine mm_iload 4 dX6_findRoomsFrom_33 rfl ?_
    refine mm_bipush (v := 10) dX6_findRoomsFrom_35 rfl ?_
    refine mm_icmp_ge 147 dX6_findRoomsFrom_37 rfl ?_ ?_
    · refine mm_wk [] rfl ?_
      exact hk147  M
    · refine mm_aload_n 0 dX6_findRoomsFrom_40 rfl ?_
      refine mm_getR 22 dX6_findRoomsFrom_41 fl_RX6_21 lo_93 rfl ?_
      refine mm_getR 23 dX6_findRoomsFrom_44 fl_RX6_55 lo_22 rfl ?_
      refine mm_iload 4 dX6_findRoomsFrom_47 rfl ?_
      refine mm_iaload dX6_findRoomsFrom_49 ?_
      refine mm_nm_int (fun v5_3 => ?_)
      refine mm_istore [1, 2, 3, 4, 5, 0] (lv2 := [(0, .ref 93), (1, .int v1), (2, .int v2), (3, .int v3), (4, .int v4), (5, .int v5_3)]) dX6_findRoomsFrom_50 (by decide) rfl ?_
      refine mm_iload_n 2 dX6_findRoomsFrom_52 rfl ?_
      refine mm_iload 4 dX6_findRoomsFrom_53 rfl ?_
      refine mm_callSNz (as := [.int v2, .int v4]) (st := []) (c_H_isIn E v2 v4 M) dX6_findRoomsFrom_55 mz_X11_isIn lk_RX6_52 sm_X11_isIn rfl ⟨by omega, by show 8 + (2 + 11) + _ ≤ _; omega⟩ (Nat.le_of_ble_eq_true rfl) (fun b_4 M_5 => ?_)
      refine mm_jnP (P := fun j => ∀ (v3 : Int32) (v4 : Int32) (M : mm_M), mm_G (fun x : Bool => some (.int (mm_b x))) E Y_X6_findRoomsFrom (nd + 1) 141 [(0, .ref 93), (1, .int v1), (2, .int v2), (3, .int v3), (4, .int v4)] [] M (j v3 v4 M)) ?_ (fun j141 hj141 => ?_)
      · intro v3 v4 M_6
        refine mm_iincN 4 [1, 2, 3, 4, 0] (v := v4 + 1) (lv2 := fun v4_7 => [(0, .ref 93), (1, .int v1), (2, .int v2), (3, .int v3), (4, .int v4_7)]) dX6_findRoomsFrom_141 rfl rfl (by decide) (fun _ => rfl) (fun v4_7 => ?_)
        refine mm_goto 33 dX6_findRoomsFrom_144 rfl ?_
        exact ih v3 v4_7 M_6
      refine mm_if_eq_b 141 dX6_findRoomsFrom_58 rfl ?_ ?_
      · refine mm_wk [0, 1, 2, 3, 4] rfl ?_
        exact hj141 v3 v4 M_5
      · refine mm_iload_n 3 dX6_findRoomsFrom_61 rfl ?_
        refine mm_iload 5 dX6_findRoomsFrom_62 rfl ?_
        refine mm_callSNz (as := [.int v3, .int v5_3]) (st := []) (c_H_isIn E v3 v5_3 M_5) dX6_findRoomsFrom_64 mz_X11_isIn lk_RX6_52 sm_X11_isIn rfl ⟨by omega, by show 8 + (2 + 11) + _ ≤ _; omega⟩ (Nat.le_of_ble_eq_true rfl) (fun b_8 M_9 => ?_)
        refine mm_if_ne_b 141 dX6_findRoomsFrom_67 rfl ?_ ?_
        · refine mm_wk [0, 1, 2, 3, 4] rfl ?_
          exact hj141 v3 v4 M_9
        · refine mm_iload_n 3 dX6_findRoomsFrom_70 rfl ?_
          refine mm_iconst (v := 1) dX6_findRoomsFrom_71 rfl ?_
          refine mm_iload 5 dX6_findRoomsFrom_72 rfl ?_
          refine mm_ishl dX6_findRoomsFrom_74 ?_
          refine mm_ior dX6_findRoomsFrom_75 ?_
          refine mm_nm_int (fun v3_10 => ?_)
          refine mm_istore_n [1, 2, 3, 0, 4, 5] (lv2 := [(0, .ref 93), (1, .int v1), (2, .int v2), (3, .int v3_10), (4, .int v4), (5, .int v5_3)]) dX6_findRoomsFrom_76 (by decide) rfl ?_
          refine mm_aload_n 0 dX6_findRoomsFrom_77 rfl ?_
          refine mm_getR 94 dX6_findRoomsFrom_78 fl_RX6_9 lo_93 rfl ?_
          refine mm_iload_n 1 dX6_findRoomsFrom_81 rfl ?_
          refine mm_iload 4 dX6_findRoomsFrom_82 rfl ?_
          refine mm_iastore dX6_findRoomsFrom_84 ?_
          refine mm_nm_M (fun M_11 => ?_)
          refine mm_aload_n 0 dX6_findRoomsFrom_85 rfl ?_
          refine mm_getR 56 dX6_findRoomsFrom_86 fl_RX6_29 lo_93 rfl ?_
          refine mm_iload_n 1 dX6_findRoomsFrom_89 rfl ?_
          refine mm_iload 5 dX6_findRoomsFrom_90 rfl ?_
          refine mm_callVv (as := [.int v1, .int v5_3]) (st := []) (c_Load_setFloor E v1 v5_3 M_11) dX6_findRoomsFrom_92 mz_X5_setFloor lk_RX6_60 im_X5_setFloor se_X5_setFloor lo_56 rfl rfl rfl ⟨by omega, by show 8 + (3 + 11) + _ ≤ _; omega⟩ (Nat.le_of_ble_eq_true rfl) (fun u_12 M_13 => ?_)
          refine mm_aload_n 0 dX6_findRoomsFrom_95 rfl ?_
          refine mm_getR 56 dX6_findRoomsFrom_96 fl_RX6_29 lo_93 rfl ?_
          refine mm_iload_n 1 dX6_findRoomsFrom_99 rfl ?_
          refine mm_callVv (as := [.int v1]) (st := []) (c_Load_include E v1 M_13) dX6_findRoomsFrom_100 mz_X5_include lk_RX6_64 im_X5_include se_X5_include lo_56 rfl rfl rfl ⟨by omega, by show 8 + (2 + 11) + _ ≤ _; omega⟩ (Nat.le_of_ble_eq_true rfl) (fun u_14 M_15 => ?_)
          refine mm_aload_n 0 dX6_findRoomsFrom_103 rfl ?_
          refine mm_getR 56 dX6_findRoomsFrom_104 fl_RX6_29 lo_93 rfl ?_
          refine mm_callVz (as := []) (st := []) (c_Load_fits E M_15) dX6_findRoomsFrom_107 mz_X5_fits lk_RX6_67 im_X5_fits se_X5_fits lo_56 rfl rfl rfl ⟨by omega, by show 8 + (1 + 11) + _ ≤ _; omega⟩ (Nat.le_of_ble_eq_true rfl) (fun b_16 M_17 => ?_)
          refine mm_jnP (P := fun j => ∀ (v3 : Int32) (v4 : Int32) (M : mm_M), mm_G (fun x : Bool => some (.int (mm_b x))) E Y_X6_findRoomsFrom (nd + 1) 133 [(0, .ref 93), (1, .int v1), (2, .int v2), (3, .int v3), (4, .int v4)] [] M (j v3 v4 M)) ?_ (fun j133 hj133 => ?_)
          · intro v3 v4 M_18
            refine mm_aload_n 0 dX6_findRoomsFrom_133 rfl ?_
            refine mm_getR 56 dX6_findRoomsFrom_134 fl_RX6_29 lo_93 rfl ?_
            refine mm_iload_n 1 dX6_findRoomsFrom_137 rfl ?_
            refine mm_callVv (as := [.int v1]) (st := []) (c_Load_exclude E v1 M_18) dX6_findRoomsFrom_138 mz_X5_exclude lk_RX6_71 im_X5_exclude se_X5_exclude lo_56 rfl rfl rfl ⟨by omega, by show 8 + (2 + 11) + _ ≤ _; omega⟩ (Nat.le_of_ble_eq_true rfl) (fun u_19 M_20 => ?_)
            exact hj141 v3 v4 M_20
          refine mm_if_eq_b 133 dX6_findRoomsFrom_110 rfl ?_ ?_
          · refine mm_wk [0, 1, 2, 3, 4] rfl ?_
            exact hj133 v3_10 v4 M_17
          · refine mm_aload_n 0 dX6_findRoomsFrom_113 rfl ?_
            refine mm_iload_n 1 dX6_findRoomsFrom_114 rfl ?_
            refine mm_iconst (v := 1) dX6_findRoomsFrom_115 rfl ?_
            refine mm_iadd dX6_findRoomsFrom_116 ?_
            refine mm_iload_n 2 dX6_findRoomsFrom_117 rfl ?_
            refine mm_iconst (v := 1) dX6_findRoomsFrom_118 rfl ?_
            refine mm_iload 4 dX6_findRoomsFrom_119 rfl ?_
            refine mm_ishl dX6_findRoomsFrom_121 ?_
            refine mm_iconst (v := (-1)) dX6_findRoomsFrom_122 rfl ?_
            refine mm_ixor dX6_findRoomsFrom_123 ?_
            refine mm_iand dX6_findRoomsFrom_124 ?_
            refine mm_callVz (as := [.int (v1 + 1), .int (v2 &&& ((1 <<< (v4 &&& 31)) ^^^ (-1)))]) (st := []) (hF.2 (v1 + 1) (v2 &&& ((1 <<< (v4 &&& 31)) ^^^ (-1))) M_17) dX6_findRoomsFrom_125 mz_X6_findRoomsFrom lk_RX6_48 im_X6_findRoomsFrom se_X6_findRoomsFrom lo_93 rfl rfl rfl ⟨by omega, by show 8 + (6 + 11) + _ ≤ _; omega⟩ (Nat.le_of_ble_eq_true rfl) (fun b_21 M_22 => ?_)
            refine mm_if_eq_b 133 dX6_findRoomsFrom_128 rfl ?_ ?_
            · refine mm_wk [0, 1, 2, 3, 4] rfl ?_
              exact hj133 v3_10 v4 M_22
            · refine mm_wk [] rfl ?_
              exact hk131  M_22
def fb_Mover_findRoomsFrom (F : Int32 → Int32 → mm_M → Option (Bool × mm_M)) (v1 : Int32) (v2 : Int32) (M : mm_M) : Option (Bool × mm_M) := if v1 < 10 then mm_bd (f_H_isIn (M.1 93 3) v1 M) fun b_1 M_2 => if b_1 = true then lp_Mover_findRoomsFrom_33 F v1 v2 (fun (M_23 : mm_M) => some (true, M_23)) (fun (M_24 : mm_M) => some (false, M_24)) mm_fu 0 0 M_2 else mm_bd (F (v1 + 1) v2 M_2) fun b_25 M_26 => some (b_25, M_26) else some (true, M)
set_option maxHeartbeats 4000000 in
theorem cb_Mover_findRoomsFrom (E : mm_E) {nd : Nat} {F : Int32 → Int32 → mm_M → Option (Bool × mm_M)} (hF : 4 ≤ nd ∧ (∀ (v1 : Int32) (v2 : Int32) (M : mm_M) (r : Bool) (M2 : mm_M), F v1 v2 M = some (r, M2) → mm_P E Y_X6_findRoomsFrom nd [.ref 93, .int v1, .int v2] M (some (.int (mm_b r))) M2)) (v1 : Int32) (v2 : Int32) (M : mm_M) : ∀ (r : Bool) (M2 : mm_M), fb_Mover_findRoomsFrom F v1 v2 M = some (r, M2) → mm_P E Y_X6_findRoomsFrom (nd + 1) [.ref 93, .int v1, .int v2] M (some (.int (mm_b r))) M2 := by
  have hB := hF.1
  refine mm_entry (em := (fun x : Bool => some (.int (mm_b x)))) (by decide +kernel) (Nat.le_of_ble_eq_true rfl) ?_
  show mm_G _ E _ _ 0 [(0, .ref 93), (1, .int v1), (2, .int v2)] [] M _
  unfold fb_Mover_findRoomsFrom
  refine mm_iload_n 1 dX6_findRoomsFrom_0 rfl ?_
  refine mm_bipush (v := 10) dX6_findRoomsFrom_1 rfl ?_
  refine mm_icmp_lt 8 dX6_findRoomsFrom_3 rfl ?_ ?_
  · refine mm_aload_n 0 dX6_findRoomsFrom_8 rfl ?_
    refine mm_getI dX6_findRoomsFrom_9 fl_RX6_33 lo_93 rfl ?_
    refine mm_iload_n 1 dX6_findRoomsFrom_12 rfl ?_
    refine mm_callSNz (as := [.int (M.1 93 3), .int v1]) (st := []) (c_H_isIn E (M.1 93 3) v1 M) dX6_findRoomsFrom_13 mz_X11_isIn lk_RX6_52 sm_X11_isIn rfl ⟨by omega, by show 8 + (2 + 11) + _ ≤ _; omega⟩ (Nat.le_of_ble_eq_true rfl) (fun b_1 M_2 => ?_)
    refine mm_if_ne_b 28 dX6_findRoomsFrom_16 rfl ?_ ?_
    · refine mm_iconst (v := 0) dX6_findRoomsFrom_28 rfl ?_
      refine mm_istore_n [1, 2, 3, 0] (lv2 := [(0, .ref 93), (1, .int v1), (2, .int v2), (3, .int 0)]) dX6_findRoomsFrom_29 (by decide) rfl ?_
      refine mm_iconst (v := 0) dX6_findRoomsFrom_30 rfl ?_
      refine mm_istore [1, 2, 3, 4, 0] (lv2 := [(0, .ref 93), (1, .int v1), (2, .int v2), (3, .int 0), (4, .int 0)]) dX6_findRoomsFrom_31 (by decide) rfl ?_
      refine lp_Mover_findRoomsFrom_33_ok E hF v1 v2 ?_ ?_ mm_fu 0 0 M_2
      · intro M_23
        refine mm_iconst (v := 1) dX6_findRoomsFrom_131 rfl ?_
        exact mm_zret (b := true) dX6_findRoomsFrom_132 rfl
      · intro M_24
        refine mm_iconst (v := 0) dX6_findRoomsFrom_147 rfl ?_
        exact mm_zret (b := false) dX6_findRoomsFrom_148 rfl
    · refine mm_aload_n 0 dX6_findRoomsFrom_19 rfl ?_
      refine mm_iload_n 1 dX6_findRoomsFrom_20 rfl ?_
      refine mm_iconst (v := 1) dX6_findRoomsFrom_21 rfl ?_
      refine mm_iadd dX6_findRoomsFrom_22 ?_
      refine mm_iload_n 2 dX6_findRoomsFrom_23 rfl ?_
      refine mm_callVz (as := [.int (v1 + 1), .int v2]) (st := []) (hF.2 (v1 + 1) v2 M_2) dX6_findRoomsFrom_24 mz_X6_findRoomsFrom lk_RX6_48 im_X6_findRoomsFrom se_X6_findRoomsFrom lo_93 rfl rfl rfl ⟨by omega, by show 8 + (6 + 11) + _ ≤ _; omega⟩ (Nat.le_of_ble_eq_true rfl) (fun b_25 M_26 => ?_)
      exact mm_zret (b := b_25) dX6_findRoomsFrom_27 rfl
  · refine mm_iconst (v := 1) dX6_findRoomsFrom_6 rfl ?_
    exact mm_zret (b := true) dX6_findRoomsFrom_7 rfl
def f_Mover_findRoomsFrom : Nat → Int32 → Int32 → mm_M → Option (Bool × mm_M)
  | 0, _, _, _ => none
  | n + 1, v1, v2, M => fb_Mover_findRoomsFrom (f_Mover_findRoomsFrom n) v1 v2 M
theorem c_Mover_findRoomsFrom_ok (E : mm_E) : ∀ (n nd : Nat), nd = 4 + n → ∀ (v1 : Int32) (v2 : Int32) (M : mm_M) (r : Bool) (M2 : mm_M), f_Mover_findRoomsFrom n v1 v2 M = some (r, M2) → mm_P E Y_X6_findRoomsFrom nd [.ref 93, .int v1, .int v2] M (some (.int (mm_b r))) M2 := by
  intro n
  induction n with
  | zero => intro nd hnd v1 v2 M r M2 h; cases h
  | succ n ih =>
    intro nd hnd
    obtain ⟨nd, rfl⟩ : ∃ k, nd = k + 1 := ⟨4 + n, by omega⟩
    intro v1 v2 M r M2 h
    rw [f_Mover_findRoomsFrom] at h
    exact cb_Mover_findRoomsFrom E (F := f_Mover_findRoomsFrom n) (nd := nd) ⟨by omega, ih nd (by omega)⟩ v1 v2 M r M2 h
theorem c_Mover_findRoomsFrom (E : mm_E) (n : Nat) (v1 : Int32) (v2 : Int32) (M : mm_M) : ∀ (r : Bool) (M2 : mm_M), f_Mover_findRoomsFrom n v1 v2 M = some (r, M2) → mm_P E Y_X6_findRoomsFrom (4 + n) [.ref 93, .int v1, .int v2] M (some (.int (mm_b r))) M2 := c_Mover_findRoomsFrom_ok E n _ rfl v1 v2 M
def f_Mover_findRooms (v1 : Int32) (v2 : Int32) (M : mm_M) : Option (Bool × mm_M) := mm_let (mm_setI M 93 3 v1) fun M_1 => mm_bd (f_Load_turnTo ((M_1.1 27 0) &&& (v1 ^^^ (-1))) M_1) fun u_2 M_3 => mm_bd (f_Mover_findRoomsFrom mm_rd 0 v2 M_3) fun b_4 M_5 => some (b_4, M_5)
set_option maxHeartbeats 4000000 in
theorem c_Mover_findRooms (E : mm_E) (v1 : Int32) (v2 : Int32) (M : mm_M) : ∀ (r : Bool) (M2 : mm_M), f_Mover_findRooms v1 v2 M = some (r, M2) → mm_P E Y_X6_findRooms 65 [.ref 93, .int v1, .int v2] M (some (.int (mm_b r))) M2 := by
  refine mm_entry (em := (fun x : Bool => some (.int (mm_b x)))) (by decide +kernel) (Nat.le_of_ble_eq_true rfl) ?_
  show mm_G _ E _ _ 0 [(0, .ref 93), (1, .int v1), (2, .int v2)] [] M _
  unfold f_Mover_findRooms
  refine mm_aload_n 0 dX6_findRooms_0 rfl ?_
  refine mm_iload_n 1 dX6_findRooms_1 rfl ?_
  refine mm_putI dX6_findRooms_2 fp_RX6_33 lo_93 rfl ?_
  refine mm_nm_M (fun M_1 => ?_)
  refine mm_aload_n 0 dX6_findRooms_5 rfl ?_
  refine mm_getR 56 dX6_findRooms_6 fl_RX6_29 lo_93 rfl ?_
  refine mm_aload_n 0 dX6_findRooms_9 rfl ?_
  refine mm_getR 27 dX6_findRooms_10 fl_RX6_25 lo_93 rfl ?_
  refine mm_getI dX6_findRooms_13 fl_RX6_37 lo_27 rfl ?_
  refine mm_iload_n 1 dX6_findRooms_16 rfl ?_
  refine mm_iconst (v := (-1)) dX6_findRooms_17 rfl ?_
  refine mm_ixor dX6_findRooms_18 ?_
  refine mm_iand dX6_findRooms_19 ?_
  refine mm_callVv (as := [.int ((M_1.1 27 0) &&& (v1 ^^^ (-1)))]) (st := []) (c_Load_turnTo E ((M_1.1 27 0) &&& (v1 ^^^ (-1))) M_1) dX6_findRooms_20 mz_X5_turnTo lk_RX6_42 im_X5_turnTo se_X5_turnTo lo_56 rfl rfl rfl ⟨Nat.le_of_ble_eq_true rfl, Nat.le_of_ble_eq_true rfl⟩ (Nat.le_of_ble_eq_true rfl) (fun u_2 M_3 => ?_)
  refine mm_aload_n 0 dX6_findRooms_23 rfl ?_
  refine mm_iconst (v := 0) dX6_findRooms_24 rfl ?_
  refine mm_iload_n 2 dX6_findRooms_25 rfl ?_
  refine mm_callVz (as := [.int 0, .int v2]) (st := []) (c_Mover_findRoomsFrom E mm_rd 0 v2 M_3) dX6_findRooms_26 mz_X6_findRoomsFrom lk_RX6_48 im_X6_findRoomsFrom se_X6_findRoomsFrom lo_93 rfl rfl rfl ⟨Nat.le_of_ble_eq_true rfl, Nat.le_of_ble_eq_true rfl⟩ (Nat.le_of_ble_eq_true rfl) (fun b_4 M_5 => ?_)
  exact mm_zret (b := b_4) dX6_findRooms_29 rfl
def lp_Mover_moveIn_2 (v1 : Int32) (k37 : mm_M → Option (Unit × mm_M)) : Nat → Int32 → mm_M → Option (Unit × mm_M)
  | 0, _, _ => none
  | n + 1, v2, M => if 10 ≤ v2 then k37 M else mm_bd (f_H_isIn v1 v2 M) fun b_1 M_2 => mm_jn (fun (v2 : Int32) (M_3 : mm_M) => mm_let (v2 + 1) fun v2_4 => lp_Mover_moveIn_2 v1 k37 n v2_4 M_3) fun j31 => if b_1 = true then if mm_in v2 (mm_al 94) = true then if mm_in v2 (mm_al 28) = true then mm_let (mm_setA M_2 28 (v2.toNatClampNeg) (M_2.2.1 94 v2.toNatClampNeg)) fun M_5 => j31 v2 M_5 else none else none else j31 v2 M_2
set_option maxHeartbeats 4000000 in
theorem lp_Mover_moveIn_2_ok (E : mm_E) (v1 : Int32) {k37 : mm_M → Option (Unit × mm_M)} (hk37 : ∀ (M : mm_M), mm_G (fun _ : Unit => none) E Y_X6_moveIn 3 37 [] [] M (k37 M)) : ∀ (n : Nat) (v2 : Int32) (M : mm_M), mm_G (fun _ : Unit => none) E Y_X6_moveIn 3 2 [(0, .ref 93), (1, .int v1), (2, .int v2)] [] M (lp_Mover_moveIn_2 v1 k37 n v2 M) := by
  intro n
  induction n with
  | zero => intro v2 M r M2 he; cases he
  | succ n ih =>
    intro v2 M
    rw [lp_Mover_moveIn_2]
    refine mm_iload_n 2 dX6_moveIn_2 rfl ?_
    refine mm_bipush (v := 10) dX6_moveIn_3 rfl ?_
    refine mm_icmp_ge 37 dX6_moveIn_5 rfl ?_ ?_
    · refine mm_wk [] rfl ?_
      exact hk37  M
    · refine mm_iload_n 1 dX6_moveIn_8 rfl ?_
      refine mm_iload_n 2 dX6_moveIn_9 rfl ?_
      refine mm_callSNz (as := [.int v1, .int v2]) (st := []) (c_H_isIn E v1 v2 M) dX6_moveIn_10 mz_X11_isIn lk_RX6_52 sm_X11_isIn rfl ⟨Nat.le_of_ble_eq_true rfl, Nat.le_of_ble_eq_true rfl⟩ (Nat.le_of_ble_eq_true rfl) (fun b_1 M_2 => ?_)
      refine mm_jnP (P := fun j => ∀ (v2 : Int32) (M : mm_M), mm_G (fun _ : Unit => none) E Y_X6_moveIn 3 31 [(0, .ref 93), (1, .int v1), (2, .int v2)] [] M (j v2 M)) ?_ (fun j31 hj31 => ?_)
      · intro v2 M_3
        refine mm_iincN 2 [1, 2, 0] (v := v2 + 1) (lv2 := fun v2_4 => [(0, .ref 93), (1, .int v1), (2, .int v2_4)]) dX6_moveIn_31 rfl rfl (by decide) (fun _ => rfl) (fun v2_4 => ?_)
        refine mm_goto 2 dX6_moveIn_34 rfl ?_
        exact ih v2_4 M_3
      refine mm_if_eq_b 31 dX6_moveIn_13 rfl ?_ ?_
      · exact hj31 v2 M_2
      · refine mm_aload_n 0 dX6_moveIn_16 rfl ?_
        refine mm_getR 27 dX6_moveIn_17 fl_RX6_25 lo_93 rfl ?_
        refine mm_getR 28 dX6_moveIn_20 fl_RX6_74 lo_27 rfl ?_
        refine mm_iload_n 2 dX6_moveIn_23 rfl ?_
        refine mm_aload_n 0 dX6_moveIn_24 rfl ?_
        refine mm_getR 94 dX6_moveIn_25 fl_RX6_9 lo_93 rfl ?_
        refine mm_iload_n 2 dX6_moveIn_28 rfl ?_
        refine mm_iaload dX6_moveIn_29 ?_
        refine mm_iastore dX6_moveIn_30 ?_
        refine mm_nm_M (fun M_5 => ?_)
        exact hj31 v2 M_5
def f_Mover_moveIn (v1 : Int32) (M : mm_M) : Option (Unit × mm_M) := lp_Mover_moveIn_2 v1 (fun (M_6 : mm_M) => some ((), M_6)) mm_fu 0 M
set_option maxHeartbeats 4000000 in
theorem c_Mover_moveIn (E : mm_E) (v1 : Int32) (M : mm_M) : ∀ (r : Unit) (M2 : mm_M), f_Mover_moveIn v1 M = some (r, M2) → mm_P E Y_X6_moveIn 3 [.ref 93, .int v1] M none M2 := by
  refine mm_entry (em := (fun _ : Unit => none)) (by decide +kernel) (Nat.le_of_ble_eq_true rfl) ?_
  show mm_G _ E _ _ 0 [(0, .ref 93), (1, .int v1)] [] M _
  unfold f_Mover_moveIn
  refine mm_iconst (v := 0) dX6_moveIn_0 rfl ?_
  refine mm_istore_n [1, 2, 0] (lv2 := [(0, .ref 93), (1, .int v1), (2, .int 0)]) dX6_moveIn_1 (by decide) rfl ?_
  refine lp_Mover_moveIn_2_ok E v1 ?_ mm_fu 0 M
  · intro M_6
    exact mm_vret dX6_moveIn_37 rfl
