def lp_Service_orderForDrought_16 (v1 : Int32) (k52 : mm_M → Option (Unit × mm_M)) : Nat → Int32 → mm_M → Option (Unit × mm_M)
  | 0, _, _ => none
  | n + 1, v2, M => if v2 < 0 then k52 M else mm_bd (f_H_isPart v2 v1 M) fun b_5 M_6 => mm_jn (fun (v2 : Int32) (M_7 : mm_M) => mm_let (v2 + (-1)) fun v2_8 => lp_Service_orderForDrought_16 v1 k52 n v2_8 M_7) fun j46 => if b_5 = true then mm_bd (f_Load_turnTo v2 M_6) fun u_9 M_10 => mm_bd (f_Service_chooseNext v2 (v1 &&& (v2 ^^^ (-1))) M_10) fun u_11 M_12 => j46 v2 M_12 else j46 v2 M_6
set_option maxHeartbeats 4000000 in
theorem lp_Service_orderForDrought_16_ok (E : mm_E) (v1 : Int32) {k52 : mm_M → Option (Unit × mm_M)} (hk52 : ∀ (M : mm_M), mm_G (fun _ : Unit => none) E Y_X8_orderForDrought 7 52 [] [] M (k52 M)) : ∀ (n : Nat) (v2 : Int32) (M : mm_M), mm_G (fun _ : Unit => none) E Y_X8_orderForDrought 7 16 [(0, .ref 73), (1, .int v1), (2, .int v2)] [] M (lp_Service_orderForDrought_16 v1 k52 n v2 M) := by
  intro n
  induction n with
  | zero => intro v2 M r M2 he; cases he
  | succ n ih =>
    intro v2 M
    rw [lp_Service_orderForDrought_16]
    refine mm_iload_n 2 dX8_orderForDrought_16 rfl ?_
    refine mm_if_lt 52 dX8_orderForDrought_17 rfl ?_ ?_
    · refine mm_wk [] rfl ?_
      exact hk52  M
    · refine mm_iload_n 2 dX8_orderForDrought_20 rfl ?_
      refine mm_iload_n 1 dX8_orderForDrought_21 rfl ?_
      refine mm_callSNz (as := [.int v2, .int v1]) (st := []) (c_H_isPart E v2 v1 M) dX8_orderForDrought_22 mz_X11_isPart lk_RX8_147 sm_X11_isPart rfl ⟨Nat.le_of_ble_eq_true rfl, Nat.le_of_ble_eq_true rfl⟩ (Nat.le_of_ble_eq_true rfl) (fun b_5 M_6 => ?_)
      refine mm_jnP (P := fun j => ∀ (v2 : Int32) (M : mm_M), mm_G (fun _ : Unit => none) E Y_X8_orderForDrought 7 46 [(0, .ref 73), (1, .int v1), (2, .int v2)] [] M (j v2 M)) ?_ (fun j46 hj46 => ?_)
      · intro v2 M_7
        refine mm_iincN 2 [1, 2, 0] (v := v2 + (-1)) (lv2 := fun v2_8 => [(0, .ref 73), (1, .int v1), (2, .int v2_8)]) dX8_orderForDrought_46 rfl rfl (by decide) (fun _ => rfl) (fun v2_8 => ?_)
        refine mm_goto 16 dX8_orderForDrought_49 rfl ?_
        exact ih v2_8 M_7
      refine mm_if_eq_b 46 dX8_orderForDrought_25 rfl ?_ ?_
      · exact hj46 v2 M_6
      · refine mm_aload_n 0 dX8_orderForDrought_28 rfl ?_
        refine mm_getR 56 dX8_orderForDrought_29 fl_RX8_53 lo_73 rfl ?_
        refine mm_iload_n 2 dX8_orderForDrought_32 rfl ?_
        refine mm_callVv (as := [.int v2]) (st := []) (c_Load_turnTo E v2 M_6) dX8_orderForDrought_33 mz_X5_turnTo lk_RX8_151 im_X5_turnTo se_X5_turnTo lo_56 rfl rfl rfl ⟨Nat.le_of_ble_eq_true rfl, Nat.le_of_ble_eq_true rfl⟩ (Nat.le_of_ble_eq_true rfl) (fun u_9 M_10 => ?_)
        refine mm_aload_n 0 dX8_orderForDrought_36 rfl ?_
        refine mm_iload_n 2 dX8_orderForDrought_37 rfl ?_
        refine mm_iload_n 1 dX8_orderForDrought_38 rfl ?_
        refine mm_iload_n 2 dX8_orderForDrought_39 rfl ?_
        refine mm_iconst (v := (-1)) dX8_orderForDrought_40 rfl ?_
        refine mm_ixor dX8_orderForDrought_41 ?_
        refine mm_iand dX8_orderForDrought_42 ?_
        refine mm_callVv (as := [.int v2, .int (v1 &&& (v2 ^^^ (-1)))]) (st := []) (c_Service_chooseNext E v2 (v1 &&& (v2 ^^^ (-1))) M_10) dX8_orderForDrought_43 mz_X8_chooseNext lk_RX8_154 im_X8_chooseNext se_X8_chooseNext lo_73 rfl rfl rfl ⟨Nat.le_of_ble_eq_true rfl, Nat.le_of_ble_eq_true rfl⟩ (Nat.le_of_ble_eq_true rfl) (fun u_11 M_12 => ?_)
        exact hj46 v2 M_12
def f_Service_orderForDrought (v1 : Int32) (M : mm_M) : Option (Unit × mm_M) := mm_bd (f_Service_readRainTops v1 M) fun u_1 M_2 => if mm_in v1 (mm_al 91) = true then mm_let (mm_setA M_2 91 (v1.toNatClampNeg) 0) fun M_3 => mm_let (v1 - 1) fun v2_4 => lp_Service_orderForDrought_16 v1 (fun (M_13 : mm_M) => some ((), M_13)) mm_fu v2_4 M_3 else none
set_option maxHeartbeats 4000000 in
theorem c_Service_orderForDrought (E : mm_E) (v1 : Int32) (M : mm_M) : ∀ (r : Unit) (M2 : mm_M), f_Service_orderForDrought v1 M = some (r, M2) → mm_P E Y_X8_orderForDrought 7 [.ref 73, .int v1] M none M2 := by
  refine mm_entry (em := (fun _ : Unit => none)) (by decide +kernel) (Nat.le_of_ble_eq_true rfl) ?_
  show mm_G _ E _ _ 0 [(0, .ref 73), (1, .int v1)] [] M _
  unfold f_Service_orderForDrought
  refine mm_aload_n 0 dX8_orderForDrought_0 rfl ?_
  refine mm_iload_n 1 dX8_orderForDrought_1 rfl ?_
  refine mm_callVv (as := [.int v1]) (st := []) (c_Service_readRainTops E v1 M) dX8_orderForDrought_2 mz_X8_readRainTops lk_RX8_144 im_X8_readRainTops se_X8_readRainTops lo_73 rfl rfl rfl ⟨Nat.le_of_ble_eq_true rfl, Nat.le_of_ble_eq_true rfl⟩ (Nat.le_of_ble_eq_true rfl) (fun u_1 M_2 => ?_)
  refine mm_aload_n 0 dX8_orderForDrought_5 rfl ?_
  refine mm_getR 91 dX8_orderForDrought_6 fl_RX8_35 lo_73 rfl ?_
  refine mm_iload_n 1 dX8_orderForDrought_9 rfl ?_
  refine mm_iconst (v := 0) dX8_orderForDrought_10 rfl ?_
  refine mm_iastore dX8_orderForDrought_11 ?_
  refine mm_nm_M (fun M_3 => ?_)
  refine mm_iload_n 1 dX8_orderForDrought_12 rfl ?_
  refine mm_iconst (v := 1) dX8_orderForDrought_13 rfl ?_
  refine mm_isub dX8_orderForDrought_14 ?_
  refine mm_nm_int (fun v2_4 => ?_)
  refine mm_istore_n [1, 2, 0] (lv2 := [(0, .ref 73), (1, .int v1), (2, .int v2_4)]) dX8_orderForDrought_15 (by decide) rfl ?_
  refine lp_Service_orderForDrought_16_ok E v1 ?_ mm_fu v2_4 M_3
  · intro M_13
    exact mm_vret dX8_orderForDrought_52 rfl
def lp_Service_droughtStayAt_4 (v1 : Int32) (k26 : Int32 → mm_M → Option (Int32 × mm_M)) : Nat → Int32 → Int32 → mm_M → Option (Int32 × mm_M)
  | 0, _, _, _ => none
  | n + 1, v2, v3, M => if v1 ≤ v3 then k26 v2 M else if mm_in v2 (mm_al 92) = true then mm_let (v2 ||| (1 <<< ((M.2.1 92 v2.toNatClampNeg) &&& 31))) fun v2_1 => mm_let (v3 + 1) fun v3_2 => lp_Service_droughtStayAt_4 v1 k26 n v2_1 v3_2 M else none
set_option maxHeartbeats 4000000 in
theorem lp_Service_droughtStayAt_4_ok (E : mm_E) (v1 : Int32) {k26 : Int32 → mm_M → Option (Int32 × mm_M)} (hk26 : ∀ (v2 : Int32) (M : mm_M), mm_G (fun x : Int32 => some (.int x)) E Y_X8_droughtStayAt 1 26 [(0, .ref 73), (2, .int v2)] [] M (k26 v2 M)) : ∀ (n : Nat) (v2 : Int32) (v3 : Int32) (M : mm_M), mm_G (fun x : Int32 => some (.int x)) E Y_X8_droughtStayAt 1 4 [(0, .ref 73), (1, .int v1), (2, .int v2), (3, .int v3)] [] M (lp_Service_droughtStayAt_4 v1 k26 n v2 v3 M) := by
  intro n
  induction n with
  | zero => intro v2 v3 M r M2 he; cases he
  | succ n ih =>
    intro v2 v3 M
    rw [lp_Service_droughtStayAt_4]
    refine mm_iload_n 3 dX8_droughtStayAt_4 rfl ?_
    refine mm_iload_n 1 dX8_droughtStayAt_5 rfl ?_
    refine mm_icmp_ge 26 dX8_droughtStayAt_6 rfl ?_ ?_
    · refine mm_wk [0, 2] rfl ?_
      exact hk26 v2 M
    · refine mm_iload_n 2 dX8_droughtStayAt_9 rfl ?_
      refine mm_iconst (v := 1) dX8_droughtStayAt_10 rfl ?_
      refine mm_aload_n 0 dX8_droughtStayAt_11 rfl ?_
      refine mm_getR 92 dX8_droughtStayAt_12 fl_RX8_38 lo_73 rfl ?_
      refine mm_iload_n 2 dX8_droughtStayAt_15 rfl ?_
      refine mm_iaload dX8_droughtStayAt_16 ?_
      refine mm_ishl dX8_droughtStayAt_17 ?_
      refine mm_ior dX8_droughtStayAt_18 ?_
      refine mm_nm_int (fun v2_1 => ?_)
      refine mm_istore_n [1, 2, 0, 3] (lv2 := [(0, .ref 73), (1, .int v1), (2, .int v2_1), (3, .int v3)]) dX8_droughtStayAt_19 (by decide) rfl ?_
      refine mm_iincN 3 [1, 2, 3, 0] (v := v3 + 1) (lv2 := fun v3_2 => [(0, .ref 73), (1, .int v1), (2, .int v2_1), (3, .int v3_2)]) dX8_droughtStayAt_20 rfl rfl (by decide) (fun _ => rfl) (fun v3_2 => ?_)
      refine mm_goto 4 dX8_droughtStayAt_23 rfl ?_
      exact ih v2_1 v3_2 M
def f_Service_droughtStayAt (v1 : Int32) (M : mm_M) : Option (Int32 × mm_M) := lp_Service_droughtStayAt_4 v1 (fun (v2 : Int32) (M_3 : mm_M) => if mm_in v2 (mm_al 92) = true then some (M_3.2.1 92 v2.toNatClampNeg, M_3) else none) mm_fu 0 0 M
set_option maxHeartbeats 4000000 in
theorem c_Service_droughtStayAt (E : mm_E) (v1 : Int32) (M : mm_M) : ∀ (r : Int32) (M2 : mm_M), f_Service_droughtStayAt v1 M = some (r, M2) → mm_P E Y_X8_droughtStayAt 1 [.ref 73, .int v1] M (some (.int r)) M2 := by
  refine mm_entry (em := (fun x : Int32 => some (.int x))) (by decide +kernel) (Nat.le_of_ble_eq_true rfl) ?_
  show mm_G _ E _ _ 0 [(0, .ref 73), (1, .int v1)] [] M _
  unfold f_Service_droughtStayAt
  refine mm_iconst (v := 0) dX8_droughtStayAt_0 rfl ?_
  refine mm_istore_n [1, 2, 0] (lv2 := [(0, .ref 73), (1, .int v1), (2, .int 0)]) dX8_droughtStayAt_1 (by decide) rfl ?_
  refine mm_iconst (v := 0) dX8_droughtStayAt_2 rfl ?_
  refine mm_istore_n [1, 2, 3, 0] (lv2 := [(0, .ref 73), (1, .int v1), (2, .int 0), (3, .int 0)]) dX8_droughtStayAt_3 (by decide) rfl ?_
  refine lp_Service_droughtStayAt_4_ok E v1 ?_ mm_fu 0 0 M
  · intro v2 M_3
    refine mm_aload_n 0 dX8_droughtStayAt_26 rfl ?_
    refine mm_getR 92 dX8_droughtStayAt_27 fl_RX8_38 lo_73 rfl ?_
    refine mm_iload_n 1 dX8_droughtStayAt_30 rfl ?_
    refine mm_iaload dX8_droughtStayAt_31 ?_
    exact mm_iret dX8_droughtStayAt_32 rfl
def f_H_drought (v1 : Int32) (v2 : Int32) (M : mm_M) : Option (Int32 × mm_M) := mm_bd (f_H_areStays v1 6 M) fun b_1 M_2 => if b_1 = true then mm_jn (fun (M_3 : mm_M) => mm_bd (f_Load_begin M_3) fun u_4 M_5 => mm_bd (f_Service_orderForDrought v1 M_5) fun u_6 M_7 => if v2 = (-1) then if mm_in 0 (mm_al 91) = true then some (M_7.2.1 91 (0 : Int32).toNatClampNeg, M_7) else none else mm_bd (f_Service_droughtStayAt v2 M_7) fun r_8 M_9 => some (r_8, M_9)) fun j32 => if v2 = (-1) then j32 M_2 else mm_bd (f_Integer_bitCount v1 M_2) fun r_10 M_11 => mm_bd (f_H_isBelow v2 r_10 M_11) fun b_12 M_13 => if b_12 = true then j32 M_13 else some ((-2), M_13) else some ((-3), M_2)
set_option maxHeartbeats 4000000 in
theorem c_H_drought (E : mm_E) (v1 : Int32) (v2 : Int32) (M : mm_M) : ∀ (r : Int32) (M2 : mm_M), f_H_drought v1 v2 M = some (r, M2) → mm_P E Y_X11_drought 8 [.ref 0, .int v1, .int v2] M (some (.int r)) M2 := by
  refine mm_entry (em := (fun x : Int32 => some (.int x))) (by decide +kernel) (Nat.le_of_ble_eq_true rfl) ?_
  show mm_G _ E _ _ 0 [(0, .ref 0), (1, .int v1), (2, .int v2)] [] M _
  unfold f_H_drought
  refine mm_aload_n 0 dX11_drought_0 rfl ?_
  refine mm_iload_n 1 dX11_drought_1 rfl ?_
  refine mm_bipush (v := 6) dX11_drought_2 rfl ?_
  refine mm_callVz (as := [.int v1, .int 6]) (st := []) (c_H_areStays E v1 6 M) dX11_drought_4 mz_X11_areStays lk_RX11_203 im_X11_areStays se_X11_areStays lo_0 rfl rfl rfl ⟨Nat.le_of_ble_eq_true rfl, Nat.le_of_ble_eq_true rfl⟩ (Nat.le_of_ble_eq_true rfl) (fun b_1 M_2 => ?_)
  refine mm_if_ne_b 13 dX11_drought_7 rfl ?_ ?_
  · refine mm_iload_n 2 dX11_drought_13 rfl ?_
    refine mm_iconst (v := (-1)) dX11_drought_14 rfl ?_
    refine mm_jnP (P := fun j => ∀ (M : mm_M), mm_G (fun x : Int32 => some (.int x)) E Y_X11_drought 8 32 [(0, .ref 0), (1, .int v1), (2, .int v2)] [] M (j M)) ?_ (fun j32 hj32 => ?_)
    · intro M_3
      refine mm_aload_n 0 dX11_drought_32 rfl ?_
      refine mm_getR 56 dX11_drought_33 fl_RX11_71 lo_0 rfl ?_
      refine mm_callVv (as := []) (st := []) (c_Load_begin E M_3) dX11_drought_36 mz_X5_begin lk_RX11_177 im_X5_begin se_X5_begin lo_56 rfl rfl rfl ⟨Nat.le_of_ble_eq_true rfl, Nat.le_of_ble_eq_true rfl⟩ (Nat.le_of_ble_eq_true rfl) (fun u_4 M_5 => ?_)
      refine mm_aload_n 0 dX11_drought_39 rfl ?_
      refine mm_getR 73 dX11_drought_40 fl_RX11_89 lo_0 rfl ?_
      refine mm_iload_n 1 dX11_drought_43 rfl ?_
      refine mm_callVv (as := [.int v1]) (st := []) (c_Service_orderForDrought E v1 M_5) dX11_drought_44 mz_X8_orderForDrought lk_RX11_283 im_X8_orderForDrought se_X8_orderForDrought lo_73 rfl rfl rfl ⟨Nat.le_of_ble_eq_true rfl, Nat.le_of_ble_eq_true rfl⟩ (Nat.le_of_ble_eq_true rfl) (fun u_6 M_7 => ?_)
      refine mm_iload_n 2 dX11_drought_47 rfl ?_
      refine mm_iconst (v := (-1)) dX11_drought_48 rfl ?_
      refine mm_icmp_ne 64 dX11_drought_49 rfl ?_ ?_
      · refine mm_aload_n 0 dX11_drought_64 rfl ?_
        refine mm_getR 73 dX11_drought_65 fl_RX11_89 lo_0 rfl ?_
        refine mm_iload_n 2 dX11_drought_68 rfl ?_
        refine mm_callVi (as := [.int v2]) (st := []) (c_Service_droughtStayAt E v2 M_7) dX11_drought_69 mz_X8_droughtStayAt lk_RX11_289 im_X8_droughtStayAt se_X8_droughtStayAt lo_73 rfl rfl rfl ⟨Nat.le_of_ble_eq_true rfl, Nat.le_of_ble_eq_true rfl⟩ (Nat.le_of_ble_eq_true rfl) (fun r_8 M_9 => ?_)
        exact mm_iret dX11_drought_72 rfl
      · refine mm_aload_n 0 dX11_drought_52 rfl ?_
        refine mm_getR 73 dX11_drought_53 fl_RX11_89 lo_0 rfl ?_
        refine mm_getR 91 dX11_drought_56 fl_RX11_286 lo_73 rfl ?_
        refine mm_iconst (v := 0) dX11_drought_59 rfl ?_
        refine mm_iaload dX11_drought_60 ?_
        refine mm_goto 72 dX11_drought_61 rfl ?_
        exact mm_iret dX11_drought_72 rfl
    refine mm_icmp_eq 32 dX11_drought_15 rfl ?_ ?_
    · exact hj32  M_2
    · refine mm_iload_n 2 dX11_drought_18 rfl ?_
      refine mm_iload_n 1 dX11_drought_19 rfl ?_
      refine mm_callSi (as := [.int v1]) (st := [.int v2]) (c_Integer_bitCount E v1 M_2) dX11_drought_20 mz_J6_bitCount_0f7a4 lk_RX11_226 sm_J6_bitCount_0f7a4 rfl ⟨Nat.le_of_ble_eq_true rfl, Nat.le_of_ble_eq_true rfl⟩ (Nat.le_of_ble_eq_true rfl) (fun r_10 M_11 => ?_)
      refine mm_callSz (as := [.int v2, .int r_10]) (st := []) (c_H_isBelow E v2 r_10 M_11) dX11_drought_23 mz_X11_isBelow lk_RX11_108 sm_X11_isBelow rfl ⟨Nat.le_of_ble_eq_true rfl, Nat.le_of_ble_eq_true rfl⟩ (Nat.le_of_ble_eq_true rfl) (fun b_12 M_13 => ?_)
      refine mm_if_ne_b 32 dX11_drought_26 rfl ?_ ?_
      · exact hj32  M_13
      · refine mm_bipush (v := (-2)) dX11_drought_29 rfl ?_
        exact mm_iret dX11_drought_31 rfl
  · refine mm_bipush (v := (-3)) dX11_drought_10 rfl ?_
    exact mm_iret dX11_drought_12 rfl
def lp_Days_isWithinRest_2 (v1 : Int32) (k25 : mm_M → Option (Bool × mm_M)) (k33 : mm_M → Option (Bool × mm_M)) : Nat → Int32 → mm_M → Option (Bool × mm_M)
  | 0, _, _ => none
  | n + 1, v2, M => if 24 ≤ v2 then k33 M else if mm_in v1 12 = true then if mm_in v2 (mm_al (6 + v1.toNatClampNeg)) = true then if mm_in v2 (mm_al 19) = true then if M.2.1 (6 + v1.toNatClampNeg) v2.toNatClampNeg ≤ M.2.1 19 v2.toNatClampNeg then mm_let (v2 + 1) fun v2_1 => lp_Days_isWithinRest_2 v1 k25 k33 n v2_1 M else k25 M else none else none else none
set_option maxHeartbeats 4000000 in
theorem lp_Days_isWithinRest_2_ok (E : mm_E) (v1 : Int32) {k25 : mm_M → Option (Bool × mm_M)} {k33 : mm_M → Option (Bool × mm_M)} (hk25 : ∀ (M : mm_M), mm_G (fun x : Bool => some (.int (mm_b x))) E Y_X1_isWithinRest 1 25 [] [] M (k25 M)) (hk33 : ∀ (M : mm_M), mm_G (fun x : Bool => some (.int (mm_b x))) E Y_X1_isWithinRest 1 33 [] [] M (k33 M)) : ∀ (n : Nat) (v2 : Int32) (M : mm_M), mm_G (fun x : Bool => some (.int (mm_b x))) E Y_X1_isWithinRest 1 2 [(0, .ref 4), (1, .int v1), (2, .int v2)] [] M (lp_Days_isWithinRest_2 v1 k25 k33 n v2 M) := by
  intro n
  induction n with
  | zero => intro v2 M r M2 he; cases he
  | succ n ih =>
    intro v2 M
    rw [lp_Days_isWithinRest_2]
    refine mm_iload_n 2 dX1_isWithinRest_2 rfl ?_
    refine mm_bipush (v := 24) dX1_isWithinRest_3 rfl ?_
    refine mm_icmp_ge 33 dX1_isWithinRest_5 rfl ?_ ?_
    · refine mm_wk [] rfl ?_
      exact hk33  M
    · refine mm_aload_n 0 dX1_isWithinRest_8 rfl ?_
      refine mm_getR 5 dX1_isWithinRest_9 fl_RX1_11 lo_4 rfl ?_
      refine mm_iload_n 1 dX1_isWithinRest_12 rfl ?_
      refine mm_aaload dX1_isWithinRest_13 lo_5 ?_
      refine mm_iload_n 2 dX1_isWithinRest_14 rfl ?_
      refine mm_iaload dX1_isWithinRest_15 ?_
      refine mm_aload_n 0 dX1_isWithinRest_16 rfl ?_
      refine mm_getR 19 dX1_isWithinRest_17 fl_RX1_20 lo_4 rfl ?_
      refine mm_iload_n 2 dX1_isWithinRest_20 rfl ?_
      refine mm_iaload dX1_isWithinRest_21 ?_
      refine mm_icmp_le 27 dX1_isWithinRest_22 rfl ?_ ?_
      · refine mm_iincN 2 [1, 2, 0] (v := v2 + 1) (lv2 := fun v2_1 => [(0, .ref 4), (1, .int v1), (2, .int v2_1)]) dX1_isWithinRest_27 rfl rfl (by decide) (fun _ => rfl) (fun v2_1 => ?_)
        refine mm_goto 2 dX1_isWithinRest_30 rfl ?_
        exact ih v2_1 M
      · refine mm_wk [] rfl ?_
        exact hk25  M
def f_Days_isWithinRest (v1 : Int32) (M : mm_M) : Option (Bool × mm_M) := lp_Days_isWithinRest_2 v1 (fun (M_2 : mm_M) => some (false, M_2)) (fun (M_3 : mm_M) => some (true, M_3)) mm_fu 0 M
set_option maxHeartbeats 4000000 in
theorem c_Days_isWithinRest (E : mm_E) (v1 : Int32) (M : mm_M) : ∀ (r : Bool) (M2 : mm_M), f_Days_isWithinRest v1 M = some (r, M2) → mm_P E Y_X1_isWithinRest 1 [.ref 4, .int v1] M (some (.int (mm_b r))) M2 := by
  refine mm_entry (em := (fun x : Bool => some (.int (mm_b x)))) (by decide +kernel) (Nat.le_of_ble_eq_true rfl) ?_
  show mm_G _ E _ _ 0 [(0, .ref 4), (1, .int v1)] [] M _
  unfold f_Days_isWithinRest
  refine mm_iconst (v := 0) dX1_isWithinRest_0 rfl ?_
  refine mm_istore_n [1, 2, 0] (lv2 := [(0, .ref 4), (1, .int v1), (2, .int 0)]) dX1_isWithinRest_1 (by decide) rfl ?_
  refine lp_Days_isWithinRest_2_ok E v1 ?_ ?_ mm_fu 0 M
  · intro M_2
    refine mm_iconst (v := 0) dX1_isWithinRest_25 rfl ?_
    exact mm_zret (b := false) dX1_isWithinRest_26 rfl
  · intro M_3
    refine mm_iconst (v := 1) dX1_isWithinRest_33 rfl ?_
    exact mm_zret (b := true) dX1_isWithinRest_34 rfl
def lp_Days_changeRest_2 (v1 : Int32) (v2 : Int32) (k33 : mm_M → Option (Unit × mm_M)) : Nat → Int32 → mm_M → Option (Unit × mm_M)
  | 0, _, _ => none
  | n + 1, v3, M => if 24 ≤ v3 then k33 M else if mm_in v3 (mm_al 19) = true then if mm_in v1 12 = true then if mm_in v3 (mm_al (6 + v1.toNatClampNeg)) = true then if mm_in v3 (mm_al 19) = true then mm_let (mm_setA M 19 (v3.toNatClampNeg) ((M.2.1 19 v3.toNatClampNeg) + (v2 * (M.2.1 (6 + v1.toNatClampNeg) v3.toNatClampNeg)))) fun M_1 => mm_let (v3 + 1) fun v3_2 => lp_Days_changeRest_2 v1 v2 k33 n v3_2 M_1 else none else none else none else none
set_option maxHeartbeats 4000000 in
theorem lp_Days_changeRest_2_ok (E : mm_E) (v1 : Int32) (v2 : Int32) {k33 : mm_M → Option (Unit × mm_M)} (hk33 : ∀ (M : mm_M), mm_G (fun _ : Unit => none) E Y_X1_changeRest 1 33 [] [] M (k33 M)) : ∀ (n : Nat) (v3 : Int32) (M : mm_M), mm_G (fun _ : Unit => none) E Y_X1_changeRest 1 2 [(0, .ref 4), (1, .int v1), (2, .int v2), (3, .int v3)] [] M (lp_Days_changeRest_2 v1 v2 k33 n v3 M) := by
  intro n
  induction n with
  | zero => intro v3 M r M2 he; cases he
  | succ n ih =>
    intro v3 M
    rw [lp_Days_changeRest_2]
    refine mm_iload_n 3 dX1_changeRest_2 rfl ?_
    refine mm_bipush (v := 24) dX1_changeRest_3 rfl ?_
    refine mm_icmp_ge 33 dX1_changeRest_5 rfl ?_ ?_
    · refine mm_wk [] rfl ?_
      exact hk33  M
    · refine mm_aload_n 0 dX1_changeRest_8 rfl ?_
      refine mm_getR 19 dX1_changeRest_9 fl_RX1_20 lo_4 rfl ?_
      refine mm_iload_n 3 dX1_changeRest_12 rfl ?_
      refine mm_dup2 dX1_changeRest_13 rfl rfl ?_
      refine mm_iaload dX1_changeRest_14 ?_
      refine mm_iload_n 2 dX1_changeRest_15 rfl ?_
      refine mm_aload_n 0 dX1_changeRest_16 rfl ?_
      refine mm_getR 5 dX1_changeRest_17 fl_RX1_11 lo_4 rfl ?_
      refine mm_iload_n 1 dX1_changeRest_20 rfl ?_
      refine mm_aaload dX1_changeRest_21 lo_5 ?_
      refine mm_iload_n 3 dX1_changeRest_22 rfl ?_
      refine mm_iaload dX1_changeRest_23 ?_
      refine mm_imul dX1_changeRest_24 ?_
      refine mm_iadd dX1_changeRest_25 ?_
      refine mm_iastore dX1_changeRest_26 ?_
      refine mm_nm_M (fun M_1 => ?_)
      refine mm_iincN 3 [1, 2, 3, 0] (v := v3 + 1) (lv2 := fun v3_2 => [(0, .ref 4), (1, .int v1), (2, .int v2), (3, .int v3_2)]) dX1_changeRest_27 rfl rfl (by decide) (fun _ => rfl) (fun v3_2 => ?_)
      refine mm_goto 2 dX1_changeRest_30 rfl ?_
      exact ih v3_2 M_1
def f_Days_changeRest (v1 : Int32) (v2 : Int32) (M : mm_M) : Option (Unit × mm_M) := lp_Days_changeRest_2 v1 v2 (fun (M_3 : mm_M) => some ((), M_3)) mm_fu 0 M
set_option maxHeartbeats 4000000 in
theorem c_Days_changeRest (E : mm_E) (v1 : Int32) (v2 : Int32) (M : mm_M) : ∀ (r : Unit) (M2 : mm_M), f_Days_changeRest v1 v2 M = some (r, M2) → mm_P E Y_X1_changeRest 1 [.ref 4, .int v1, .int v2] M none M2 := by
  refine mm_entry (em := (fun _ : Unit => none)) (by decide +kernel) (Nat.le_of_ble_eq_true rfl) ?_
  show mm_G _ E _ _ 0 [(0, .ref 4), (1, .int v1), (2, .int v2)] [] M _
  unfold f_Days_changeRest
  refine mm_iconst (v := 0) dX1_changeRest_0 rfl ?_
  refine mm_istore_n [1, 2, 3, 0] (lv2 := [(0, .ref 4), (1, .int v1), (2, .int v2), (3, .int 0)]) dX1_changeRest_1 (by decide) rfl ?_
  refine lp_Days_changeRest_2_ok E v1 v2 ?_ mm_fu 0 M
  · intro M_3
    exact mm_vret dX1_changeRest_33 rfl
def lp_Days_isRestGone_2 (k17 : mm_M → Option (Bool × mm_M)) (k25 : mm_M → Option (Bool × mm_M)) : Nat → Int32 → mm_M → Option (Bool × mm_M)
  | 0, _, _ => none
  | n + 1, v1, M => if 24 ≤ v1 then k25 M else if mm_in v1 (mm_al 19) = true then if M.2.1 19 v1.toNatClampNeg = 0 then mm_let (v1 + 1) fun v1_1 => lp_Days_isRestGone_2 k17 k25 n v1_1 M else k17 M else none
set_option maxHeartbeats 4000000 in
theorem lp_Days_isRestGone_2_ok (E : mm_E) {k17 : mm_M → Option (Bool × mm_M)} {k25 : mm_M → Option (Bool × mm_M)} (hk17 : ∀ (M : mm_M), mm_G (fun x : Bool => some (.int (mm_b x))) E Y_X1_isRestGone 1 17 [] [] M (k17 M)) (hk25 : ∀ (M : mm_M), mm_G (fun x : Bool => some (.int (mm_b x))) E Y_X1_isRestGone 1 25 [] [] M (k25 M)) : ∀ (n : Nat) (v1 : Int32) (M : mm_M), mm_G (fun x : Bool => some (.int (mm_b x))) E Y_X1_isRestGone 1 2 [(0, .ref 4), (1, .int v1)] [] M (lp_Days_isRestGone_2 k17 k25 n v1 M) := by
  intro n
  induction n with
  | zero => intro v1 M r M2 he; cases he
  | succ n ih =>
    intro v1 M
    rw [lp_Days_isRestGone_2]
    refine mm_iload_n 1 dX1_isRestGone_2 rfl ?_
    refine mm_bipush (v := 24) dX1_isRestGone_3 rfl ?_
    refine mm_icmp_ge 25 dX1_isRestGone_5 rfl ?_ ?_
    · refine mm_wk [] rfl ?_
      exact hk25  M
    · refine mm_aload_n 0 dX1_isRestGone_8 rfl ?_
      refine mm_getR 19 dX1_isRestGone_9 fl_RX1_20 lo_4 rfl ?_
      refine mm_iload_n 1 dX1_isRestGone_12 rfl ?_
      refine mm_iaload dX1_isRestGone_13 ?_
      refine mm_if_eq 19 dX1_isRestGone_14 rfl ?_ ?_
      · refine mm_iincN 1 [1, 0] (v := v1 + 1) (lv2 := fun v1_1 => [(0, .ref 4), (1, .int v1_1)]) dX1_isRestGone_19 rfl rfl (by decide) (fun _ => rfl) (fun v1_1 => ?_)
        refine mm_goto 2 dX1_isRestGone_22 rfl ?_
        exact ih v1_1 M
      · refine mm_wk [] rfl ?_
        exact hk17  M
def f_Days_isRestGone (M : mm_M) : Option (Bool × mm_M) := lp_Days_isRestGone_2 (fun (M_2 : mm_M) => some (false, M_2)) (fun (M_3 : mm_M) => some (true, M_3)) mm_fu 0 M
set_option maxHeartbeats 4000000 in
theorem c_Days_isRestGone (E : mm_E) (M : mm_M) : ∀ (r : Bool) (M2 : mm_M), f_Days_isRestGone M = some (r, M2) → mm_P E Y_X1_isRestGone 1 [.ref 4] M (some (.int (mm_b r))) M2 := by
  refine mm_entry (em := (fun x : Bool => some (.int (mm_b x)))) (by decide +kernel) (Nat.le_of_ble_eq_true rfl) ?_
  show mm_G _ E _ _ 0 [(0, .ref 4)] [] M _
  unfold f_Days_isRestGone
  refine mm_iconst (v := 0) dX1_isRestGone_0 rfl ?_
  refine mm_istore_n [1, 0] (lv2 := [(0, .ref 4), (1, .int 0)]) dX1_isRestGone_1 (by decide) rfl ?_
  refine lp_Days_isRestGone_2_ok E ?_ ?_ mm_fu 0 M
  · intro M_2
    refine mm_iconst (v := 0) dX1_isRestGone_17 rfl ?_
    exact mm_zret (b := false) dX1_isRestGone_18 rfl
  · intro M_3
    refine mm_iconst (v := 1) dX1_isRestGone_25 rfl ?_
    exact mm_zret (b := true) dX1_isRestGone_26 rfl
def lp_Days_noteRow_4 (v1 : Int32) (k45 : Int32 → mm_M → Option (Unit × mm_M)) : Nat → Int32 → Int32 → mm_M → Option (Unit × mm_M)
  | 0, _, _, _ => none
  | n + 1, v2, v3, M => if v1 ≤ v3 then k45 v2 M else if mm_in v3 (mm_al 20) = true then mm_let (v2 ||| (1 <<< ((M.2.1 20 v3.toNatClampNeg) &&& 31))) fun v2_1 => mm_jn (fun (v2 : Int32) (v3 : Int32) (M_2 : mm_M) => mm_let (v3 + 1) fun v3_3 => lp_Days_noteRow_4 v1 k45 n v2 v3_3 M_2) fun j39 => if M.1 4 7 = 0 then if mm_in v3 (mm_al 20) = true then if mm_in v3 (mm_al 21) = true then mm_let (mm_setA M 21 (v3.toNatClampNeg) (M.2.1 20 v3.toNatClampNeg)) fun M_4 => j39 v2_1 v3 M_4 else none else none else j39 v2_1 v3 M else none
set_option maxHeartbeats 4000000 in
theorem lp_Days_noteRow_4_ok (E : mm_E) (v1 : Int32) {k45 : Int32 → mm_M → Option (Unit × mm_M)} (hk45 : ∀ (v2 : Int32) (M : mm_M), mm_G (fun _ : Unit => none) E Y_X1_noteRow 1 45 [(0, .ref 4), (2, .int v2)] [] M (k45 v2 M)) : ∀ (n : Nat) (v2 : Int32) (v3 : Int32) (M : mm_M), mm_G (fun _ : Unit => none) E Y_X1_noteRow 1 4 [(0, .ref 4), (1, .int v1), (2, .int v2), (3, .int v3)] [] M (lp_Days_noteRow_4 v1 k45 n v2 v3 M) := by
  intro n
  induction n with
  | zero => intro v2 v3 M r M2 he; cases he
  | succ n ih =>
    intro v2 v3 M
    rw [lp_Days_noteRow_4]
    refine mm_iload_n 3 dX1_noteRow_4 rfl ?_
    refine mm_iload_n 1 dX1_noteRow_5 rfl ?_
    refine mm_icmp_ge 45 dX1_noteRow_6 rfl ?_ ?_
    · refine mm_wk [0, 2] rfl ?_
      exact hk45 v2 M
    · refine mm_iload_n 2 dX1_noteRow_9 rfl ?_
      refine mm_iconst (v := 1) dX1_noteRow_10 rfl ?_
      refine mm_aload_n 0 dX1_noteRow_11 rfl ?_
      refine mm_getR 20 dX1_noteRow_12 fl_RX1_23 lo_4 rfl ?_
      refine mm_iload_n 3 dX1_noteRow_15 rfl ?_
      refine mm_iaload dX1_noteRow_16 ?_
      refine mm_ishl dX1_noteRow_17 ?_
      refine mm_ior dX1_noteRow_18 ?_
      refine mm_nm_int (fun v2_1 => ?_)
      refine mm_istore_n [1, 2, 0, 3] (lv2 := [(0, .ref 4), (1, .int v1), (2, .int v2_1), (3, .int v3)]) dX1_noteRow_19 (by decide) rfl ?_
      refine mm_aload_n 0 dX1_noteRow_20 rfl ?_
      refine mm_getI dX1_noteRow_21 fl_RX1_114 lo_4 rfl ?_
      refine mm_jnP (P := fun j => ∀ (v2 : Int32) (v3 : Int32) (M : mm_M), mm_G (fun _ : Unit => none) E Y_X1_noteRow 1 39 [(0, .ref 4), (1, .int v1), (2, .int v2), (3, .int v3)] [] M (j v2 v3 M)) ?_ (fun j39 hj39 => ?_)
      · intro v2 v3 M_2
        refine mm_iincN 3 [1, 2, 3, 0] (v := v3 + 1) (lv2 := fun v3_3 => [(0, .ref 4), (1, .int v1), (2, .int v2), (3, .int v3_3)]) dX1_noteRow_39 rfl rfl (by decide) (fun _ => rfl) (fun v3_3 => ?_)
        refine mm_goto 4 dX1_noteRow_42 rfl ?_
        exact ih v2 v3_3 M_2
      refine mm_if_ne 39 dX1_noteRow_24 rfl ?_ ?_
      · exact hj39 v2_1 v3 M
      · refine mm_aload_n 0 dX1_noteRow_27 rfl ?_
        refine mm_getR 21 dX1_noteRow_28 fl_RX1_26 lo_4 rfl ?_
        refine mm_iload_n 3 dX1_noteRow_31 rfl ?_
        refine mm_aload_n 0 dX1_noteRow_32 rfl ?_
        refine mm_getR 20 dX1_noteRow_33 fl_RX1_23 lo_4 rfl ?_
        refine mm_iload_n 3 dX1_noteRow_36 rfl ?_
        refine mm_iaload dX1_noteRow_37 ?_
        refine mm_iastore dX1_noteRow_38 ?_
        refine mm_nm_M (fun M_4 => ?_)
        exact hj39 v2_1 v3 M_4
def f_Days_noteRow (v1 : Int32) (M : mm_M) : Option (Unit × mm_M) := lp_Days_noteRow_4 v1 (fun (v2 : Int32) (M_5 : mm_M) => mm_let (mm_setI M_5 4 8 ((M_5.1 4 8) &&& v2)) fun M_6 => mm_let (mm_setI M_6 4 7 ((M_6.1 4 7) + 1)) fun M_7 => some ((), M_7)) mm_fu 0 0 M
set_option maxHeartbeats 4000000 in
theorem c_Days_noteRow (E : mm_E) (v1 : Int32) (M : mm_M) : ∀ (r : Unit) (M2 : mm_M), f_Days_noteRow v1 M = some (r, M2) → mm_P E Y_X1_noteRow 1 [.ref 4, .int v1] M none M2 := by
  refine mm_entry (em := (fun _ : Unit => none)) (by decide +kernel) (Nat.le_of_ble_eq_true rfl) ?_
  show mm_G _ E _ _ 0 [(0, .ref 4), (1, .int v1)] [] M _
  unfold f_Days_noteRow
  refine mm_iconst (v := 0) dX1_noteRow_0 rfl ?_
  refine mm_istore_n [1, 2, 0] (lv2 := [(0, .ref 4), (1, .int v1), (2, .int 0)]) dX1_noteRow_1 (by decide) rfl ?_
  refine mm_iconst (v := 0) dX1_noteRow_2 rfl ?_
  refine mm_istore_n [1, 2, 3, 0] (lv2 := [(0, .ref 4), (1, .int v1), (2, .int 0), (3, .int 0)]) dX1_noteRow_3 (by decide) rfl ?_
  refine lp_Days_noteRow_4_ok E v1 ?_ mm_fu 0 0 M
  · intro v2 M_5
    refine mm_aload_n 0 dX1_noteRow_45 rfl ?_
    refine mm_dup dX1_noteRow_46 rfl ?_
    refine mm_getI dX1_noteRow_47 fl_RX1_117 lo_4 rfl ?_
    refine mm_iload_n 1 dX1_noteRow_50 rfl ?_
    refine mm_iand dX1_noteRow_51 ?_
    refine mm_putI dX1_noteRow_52 fp_RX1_117 lo_4 rfl ?_
    refine mm_nm_M (fun M_6 => ?_)
    refine mm_aload_n 0 dX1_noteRow_55 rfl ?_
    refine mm_dup dX1_noteRow_56 rfl ?_
    refine mm_getI dX1_noteRow_57 fl_RX1_114 lo_4 rfl ?_
    refine mm_iconst (v := 1) dX1_noteRow_60 rfl ?_
    refine mm_iadd dX1_noteRow_61 ?_
    refine mm_putI dX1_noteRow_62 fp_RX1_114 lo_4 rfl ?_
    refine mm_nm_M (fun M_7 => ?_)
    exact mm_vret dX1_noteRow_65 rfl
def lp_Days_fillRow_21 (F : Int32 → Int32 → Int32 → mm_M → Option (Unit × mm_M)) (v1 : Int32) (v3 : Int32) (k84 : mm_M → Option (Unit × mm_M)) : Nat → Int32 → mm_M → Option (Unit × mm_M)
  | 0, _, _ => none
  | n + 1, v4, M => if 12 ≤ v4 then k84 M else mm_bd (f_Days_isTold v4 M) fun b_1 M_2 => mm_jn (fun (v4 : Int32) (M_3 : mm_M) => mm_let (v4 + 1) fun v4_4 => lp_Days_fillRow_21 F v1 v3 k84 n v4_4 M_3) fun j78 => if b_1 = true then mm_bd (f_Days_isWithinRest v4 M_2) fun b_5 M_6 => if b_5 = true then if mm_in v1 (mm_al 20) = true then mm_let (mm_setA M_6 20 (v1.toNatClampNeg) v4) fun M_7 => mm_bd (f_Days_changeRest v4 (-1) M_7) fun u_8 M_9 => mm_bd (F (v1 + 1) v4 v3 M_9) fun u_10 M_11 => mm_bd (f_Days_changeRest v4 1 M_11) fun u_12 M_13 => j78 v4 M_13 else none else j78 v4 M_6 else j78 v4 M_2
set_option maxHeartbeats 4000000 in
theorem lp_Days_fillRow_21_ok (E : mm_E) {nd : Nat} {F : Int32 → Int32 → Int32 → mm_M → Option (Unit × mm_M)} (hF : 3 ≤ nd ∧ (∀ (v1 : Int32) (v2 : Int32) (v3 : Int32) (M : mm_M) (r : Unit) (M2 : mm_M), F v1 v2 v3 M = some (r, M2) → mm_P E Y_X1_fillRow nd [.ref 4, .int v1, .int v2, .int v3] M none M2)) (v1 : Int32) (v3 : Int32) {k84 : mm_M → Option (Unit × mm_M)} (hk84 : ∀ (M : mm_M), mm_G (fun _ : Unit => none) E Y_X1_fillRow (nd + 1) 84 [] [] M (k84 M)) : ∀ (n : Nat) (v4 : Int32) (M : mm_M), mm_G (fun _ : Unit => none) E Y_X1_fillRow (nd + 1) 21 [(0, .ref 4), (1, .int v1), (3, .int v3), (4, .int v4)] [] M (lp_Days_fillRow_21 F v1 v3 k84 n v4 M) := by
  have hB := hF.1
  intro n
  induction n with
  | zero => intro v4 M r M2 he; cases he
  | succ n ih =>
    intro v4 M
    rw [lp_Days_fillRow_21]
    refine mm_iload 3 dX1_fillRow_21 rfl ?_
    refine mm_bipush (v := 12) dX1_fillRow_23 rfl ?_
    refine mm_icmp_ge 84 dX1_fillRow_25 rfl ?_ ?_
    · refine mm_wk [] rfl ?_
      exact hk84  M
    · refine mm_aload_n 0 dX1_fillRow_28 rfl ?_
      refine mm_iload 3 dX1_fillRow_29 rfl ?_
      refine mm_callVz (as := [.int v4]) (st := []) (c_Days_isTold E v4 M) dX1_fillRow_31 mz_X1_isTold lk_RX1_130 im_X1_isTold se_X1_isTold lo_4 rfl rfl rfl ⟨by omega, by show 8 + (2 + 11) + _ ≤ _; omega⟩ (Nat.le_of_ble_eq_true rfl) (fun b_1 M_2 => ?_)
      refine mm_jnP (P := fun j => ∀ (v4 : Int32) (M : mm_M), mm_G (fun _ : Unit => none) E Y_X1_fillRow (nd + 1) 78 [(0, .ref 4), (1, .int v1), (3, .int v3), (4, .int v4)] [] M (j v4 M)) ?_ (fun j78 hj78 => ?_)
      · intro v4 M_3
        refine mm_iincN 3 [1, 2, 3, 0] (v := v4 + 1) (lv2 := fun v4_4 => [(0, .ref 4), (1, .int v1), (3, .int v3), (4, .int v4_4)]) dX1_fillRow_78 rfl rfl (by decide) (fun _ => rfl) (fun v4_4 => ?_)
        refine mm_goto 21 dX1_fillRow_81 rfl ?_
        exact ih v4_4 M_3
      refine mm_if_eq_b 78 dX1_fillRow_34 rfl ?_ ?_
      · exact hj78 v4 M_2
      · refine mm_aload_n 0 dX1_fillRow_37 rfl ?_
        refine mm_iload 3 dX1_fillRow_38 rfl ?_
        refine mm_callVz (as := [.int v4]) (st := []) (c_Days_isWithinRest E v4 M_2) dX1_fillRow_40 mz_X1_isWithinRest lk_RX1_133 im_X1_isWithinRest se_X1_isWithinRest lo_4 rfl rfl rfl ⟨by omega, by show 8 + (3 + 11) + _ ≤ _; omega⟩ (Nat.le_of_ble_eq_true rfl) (fun b_5 M_6 => ?_)
        refine mm_if_eq_b 78 dX1_fillRow_43 rfl ?_ ?_
        · exact hj78 v4 M_6
        · refine mm_aload_n 0 dX1_fillRow_46 rfl ?_
          refine mm_getR 20 dX1_fillRow_47 fl_RX1_23 lo_4 rfl ?_
          refine mm_iload_n 1 dX1_fillRow_50 rfl ?_
          refine mm_iload 3 dX1_fillRow_51 rfl ?_
          refine mm_iastore dX1_fillRow_53 ?_
          refine mm_nm_M (fun M_7 => ?_)
          refine mm_aload_n 0 dX1_fillRow_54 rfl ?_
          refine mm_iload 3 dX1_fillRow_55 rfl ?_
          refine mm_iconst (v := (-1)) dX1_fillRow_57 rfl ?_
          refine mm_callVv (as := [.int v4, .int (-1)]) (st := []) (c_Days_changeRest E v4 (-1) M_7) dX1_fillRow_58 mz_X1_changeRest lk_RX1_136 im_X1_changeRest se_X1_changeRest lo_4 rfl rfl rfl ⟨by omega, by show 8 + (4 + 11) + _ ≤ _; omega⟩ (Nat.le_of_ble_eq_true rfl) (fun u_8 M_9 => ?_)
          refine mm_aload_n 0 dX1_fillRow_61 rfl ?_
          refine mm_iload_n 1 dX1_fillRow_62 rfl ?_
          refine mm_iconst (v := 1) dX1_fillRow_63 rfl ?_
          refine mm_iadd dX1_fillRow_64 ?_
          refine mm_iload 3 dX1_fillRow_65 rfl ?_
          refine mm_iload_n 2 dX1_fillRow_67 rfl ?_
          refine mm_callVv (as := [.int (v1 + 1), .int v4, .int v3]) (st := []) (hF.2 (v1 + 1) v4 v3 M_9) dX1_fillRow_68 mz_X1_fillRow lk_RX1_120 im_X1_fillRow se_X1_fillRow lo_4 rfl rfl rfl ⟨by omega, by show 8 + (5 + 11) + _ ≤ _; omega⟩ (Nat.le_of_ble_eq_true rfl) (fun u_10 M_11 => ?_)
          refine mm_aload_n 0 dX1_fillRow_71 rfl ?_
          refine mm_iload 3 dX1_fillRow_72 rfl ?_
          refine mm_iconst (v := 1) dX1_fillRow_74 rfl ?_
          refine mm_callVv (as := [.int v4, .int 1]) (st := []) (c_Days_changeRest E v4 1 M_11) dX1_fillRow_75 mz_X1_changeRest lk_RX1_136 im_X1_changeRest se_X1_changeRest lo_4 rfl rfl rfl ⟨by omega, by show 8 + (4 + 11) + _ ≤ _; omega⟩ (Nat.le_of_ble_eq_true rfl) (fun u_12 M_13 => ?_)
          exact hj78 v4 M_13
def fb_Days_fillRow (F : Int32 → Int32 → Int32 → mm_M → Option (Unit × mm_M)) (v1 : Int32) (v2 : Int32) (v3 : Int32) (M : mm_M) : Option (Unit × mm_M) := if v1 < v3 then lp_Days_fillRow_21 F v1 v3 (fun (M_14 : mm_M) => some ((), M_14)) mm_fu v2 M else mm_bd (f_Days_isRestGone M) fun b_15 M_16 => if b_15 = true then mm_bd (f_Days_noteRow v3 M_16) fun u_17 M_18 => some ((), M_18) else some ((), M_16)
set_option maxHeartbeats 4000000 in
theorem cb_Days_fillRow (E : mm_E) {nd : Nat} {F : Int32 → Int32 → Int32 → mm_M → Option (Unit × mm_M)} (hF : 3 ≤ nd ∧ (∀ (v1 : Int32) (v2 : Int32) (v3 : Int32) (M : mm_M) (r : Unit) (M2 : mm_M), F v1 v2 v3 M = some (r, M2) → mm_P E Y_X1_fillRow nd [.ref 4, .int v1, .int v2, .int v3] M none M2)) (v1 : Int32) (v2 : Int32) (v3 : Int32) (M : mm_M) : ∀ (r : Unit) (M2 : mm_M), fb_Days_fillRow F v1 v2 v3 M = some (r, M2) → mm_P E Y_X1_fillRow (nd + 1) [.ref 4, .int v1, .int v2, .int v3] M none M2 := by
  have hB := hF.1
  refine mm_entry (em := (fun _ : Unit => none)) (by decide +kernel) (Nat.le_of_ble_eq_true rfl) ?_
  show mm_G _ E _ _ 0 [(0, .ref 4), (1, .int v1), (2, .int v2), (3, .int v3)] [] M _
  unfold fb_Days_fillRow
  refine mm_iload_n 1 dX1_fillRow_0 rfl ?_
  refine mm_iload_n 3 dX1_fillRow_1 rfl ?_
  refine mm_icmp_lt 18 dX1_fillRow_2 rfl ?_ ?_
  · refine mm_iload_n 2 dX1_fillRow_18 rfl ?_
    refine mm_istore [1, 2, 3, 4, 0] (lv2 := [(0, .ref 4), (1, .int v1), (2, .int v2), (3, .int v3), (4, .int v2)]) dX1_fillRow_19 (by decide) rfl ?_
    refine mm_wk [0, 1, 3, 4] rfl ?_
    refine lp_Days_fillRow_21_ok E hF v1 v3 ?_ mm_fu v2 M
    · intro M_14
      exact mm_vret dX1_fillRow_84 rfl
  · refine mm_aload_n 0 dX1_fillRow_5 rfl ?_
    refine mm_callVz (as := []) (st := []) (c_Days_isRestGone E M) dX1_fillRow_6 mz_X1_isRestGone lk_RX1_124 im_X1_isRestGone se_X1_isRestGone lo_4 rfl rfl rfl ⟨by omega, by show 8 + (2 + 11) + _ ≤ _; omega⟩ (Nat.le_of_ble_eq_true rfl) (fun b_15 M_16 => ?_)
    refine mm_if_eq_b 17 dX1_fillRow_9 rfl ?_ ?_
    · exact mm_vret dX1_fillRow_17 rfl
    · refine mm_aload_n 0 dX1_fillRow_12 rfl ?_
      refine mm_iload_n 3 dX1_fillRow_13 rfl ?_
      refine mm_callVv (as := [.int v3]) (st := []) (c_Days_noteRow E v3 M_16) dX1_fillRow_14 mz_X1_noteRow lk_RX1_127 im_X1_noteRow se_X1_noteRow lo_4 rfl rfl rfl ⟨by omega, by show 8 + (4 + 11) + _ ≤ _; omega⟩ (Nat.le_of_ble_eq_true rfl) (fun u_17 M_18 => ?_)
      exact mm_vret dX1_fillRow_17 rfl
def f_Days_fillRow : Nat → Int32 → Int32 → Int32 → mm_M → Option (Unit × mm_M)
  | 0, _, _, _, _ => none
  | n + 1, v1, v2, v3, M => fb_Days_fillRow (f_Days_fillRow n) v1 v2 v3 M
theorem c_Days_fillRow_ok (E : mm_E) : ∀ (n nd : Nat), nd = 3 + n → ∀ (v1 : Int32) (v2 : Int32) (v3 : Int32) (M : mm_M) (r : Unit) (M2 : mm_M), f_Days_fillRow n v1 v2 v3 M = some (r, M2) → mm_P E Y_X1_fillRow nd [.ref 4, .int v1, .int v2, .int v3] M none M2 := by
  intro n
  induction n with
  | zero => intro nd hnd v1 v2 v3 M r M2 h; cases h
  | succ n ih =>
    intro nd hnd
    obtain ⟨nd, rfl⟩ : ∃ k, nd = k + 1 := ⟨3 + n, by omega⟩
    intro v1 v2 v3 M r M2 h
    rw [f_Days_fillRow] at h
    exact cb_Days_fillRow E (F := f_Days_fillRow n) (nd := nd) ⟨by omega, ih nd (by omega)⟩ v1 v2 v3 M r M2 h
theorem c_Days_fillRow (E : mm_E) (n : Nat) (v1 : Int32) (v2 : Int32) (v3 : Int32) (M : mm_M) : ∀ (r : Unit) (M2 : mm_M), f_Days_fillRow n v1 v2 v3 M = some (r, M2) → mm_P E Y_X1_fillRow (3 + n) [.ref 4, .int v1, .int v2, .int v3] M none M2 := c_Days_fillRow_ok E n _ rfl v1 v2 v3 M
def f_Tape_pairAt (v1 : Int32) (M : mm_M) : Option (Int32 × mm_M) := mm_bd (f_Tape_byteAt v1 M) fun r_1 M_2 => mm_bd (f_Tape_byteAt (v1 + 1) M_2) fun r_3 M_4 => some ((r_1 <<< (8 &&& 31)) ||| r_3, M_4)
set_option maxHeartbeats 4000000 in
theorem c_Tape_pairAt (E : mm_E) (v1 : Int32) (M : mm_M) : ∀ (r : Int32) (M2 : mm_M), f_Tape_pairAt v1 M = some (r, M2) → mm_P E Y_X9_pairAt 3 [.ref 1, .int v1] M (some (.int r)) M2 := by
  refine mm_entry (em := (fun x : Int32 => some (.int x))) (by decide +kernel) (Nat.le_of_ble_eq_true rfl) ?_
  show mm_G _ E _ _ 0 [(0, .ref 1), (1, .int v1)] [] M _
  unfold f_Tape_pairAt
  refine mm_aload_n 0 dX9_pairAt_0 rfl ?_
  refine mm_iload_n 1 dX9_pairAt_1 rfl ?_
  refine mm_callVi (as := [.int v1]) (st := []) (c_Tape_byteAt E v1 M) dX9_pairAt_2 mz_X9_byteAt lk_RX9_23 im_X9_byteAt se_X9_byteAt lo_1 rfl rfl rfl ⟨Nat.le_of_ble_eq_true rfl, Nat.le_of_ble_eq_true rfl⟩ (Nat.le_of_ble_eq_true rfl) (fun r_1 M_2 => ?_)
  refine mm_bipush (v := 8) dX9_pairAt_5 rfl ?_
  refine mm_ishl dX9_pairAt_7 ?_
  refine mm_aload_n 0 dX9_pairAt_8 rfl ?_
  refine mm_iload_n 1 dX9_pairAt_9 rfl ?_
  refine mm_iconst (v := 1) dX9_pairAt_10 rfl ?_
  refine mm_iadd dX9_pairAt_11 ?_
  refine mm_callVi (as := [.int (v1 + 1)]) (st := [.int (r_1 <<< (8 &&& 31))]) (c_Tape_byteAt E (v1 + 1) M_2) dX9_pairAt_12 mz_X9_byteAt lk_RX9_23 im_X9_byteAt se_X9_byteAt lo_1 rfl rfl rfl ⟨Nat.le_of_ble_eq_true rfl, Nat.le_of_ble_eq_true rfl⟩ (Nat.le_of_ble_eq_true rfl) (fun r_3 M_4 => ?_)
  refine mm_ior dX9_pairAt_15 ?_
  exact mm_iret dX9_pairAt_16 rfl
def lp_Days_readMeter_1_2 (v2 : Int32) (k27 : mm_M → Option (Unit × mm_M)) : Nat → Int32 → mm_M → Option (Unit × mm_M)
  | 0, _, _ => none
  | n + 1, v3, M => if 24 ≤ v3 then k27 M else mm_bd (f_Tape_pairAt (2 * v3) M) fun r_1 M_2 => if mm_in v3 (mm_al 19) = true then mm_let (mm_setA M_2 19 (v3.toNatClampNeg) r_1) fun M_3 => mm_let (v3 + 1) fun v3_4 => lp_Days_readMeter_1_2 v2 k27 n v3_4 M_3 else none
set_option maxHeartbeats 4000000 in
theorem lp_Days_readMeter_1_2_ok (E : mm_E) (v2 : Int32) {k27 : mm_M → Option (Unit × mm_M)} (hk27 : ∀ (M : mm_M), mm_G (fun _ : Unit => none) E Y_X1_readMeter 64 27 [(0, .ref 4), (2, .int v2)] [] M (k27 M)) : ∀ (n : Nat) (v3 : Int32) (M : mm_M), mm_G (fun _ : Unit => none) E Y_X1_readMeter 64 2 [(0, .ref 4), (1, .ref 1), (2, .int v2), (3, .int v3)] [] M (lp_Days_readMeter_1_2 v2 k27 n v3 M) := by
  intro n
  induction n with
  | zero => intro v3 M r M2 he; cases he
  | succ n ih =>
    intro v3 M
    rw [lp_Days_readMeter_1_2]
    refine mm_iload_n 3 dX1_readMeter_2 rfl ?_
    refine mm_bipush (v := 24) dX1_readMeter_3 rfl ?_
    refine mm_icmp_ge 27 dX1_readMeter_5 rfl ?_ ?_
    · refine mm_wk [0, 2] rfl ?_
      exact hk27  M
    · refine mm_aload_n 0 dX1_readMeter_8 rfl ?_
      refine mm_getR 19 dX1_readMeter_9 fl_RX1_20 lo_4 rfl ?_
      refine mm_iload_n 3 dX1_readMeter_12 rfl ?_
      refine mm_aload_n 1 dX1_readMeter_13 rfl ?_
      refine mm_iconst (v := 2) dX1_readMeter_14 rfl ?_
      refine mm_iload_n 3 dX1_readMeter_15 rfl ?_
      refine mm_imul dX1_readMeter_16 ?_
      refine mm_callVi (as := [.int (2 * v3)]) (st := [.int v3, .ref 19]) (c_Tape_pairAt E (2 * v3) M) dX1_readMeter_17 mz_X9_pairAt lk_RX1_109 im_X9_pairAt se_X9_pairAt lo_1 rfl rfl rfl ⟨Nat.le_of_ble_eq_true rfl, Nat.le_of_ble_eq_true rfl⟩ (Nat.le_of_ble_eq_true rfl) (fun r_1 M_2 => ?_)
      refine mm_iastore dX1_readMeter_20 ?_
      refine mm_nm_M (fun M_3 => ?_)
      refine mm_iincN 3 [1, 2, 3, 0] (v := v3 + 1) (lv2 := fun v3_4 => [(0, .ref 4), (1, .ref 1), (2, .int v2), (3, .int v3_4)]) dX1_readMeter_21 rfl rfl (by decide) (fun _ => rfl) (fun v3_4 => ?_)
      refine mm_goto 2 dX1_readMeter_24 rfl ?_
      exact ih v3_4 M_3
def f_Days_readMeter_1 (v2 : Int32) (M : mm_M) : Option (Unit × mm_M) := lp_Days_readMeter_1_2 v2 (fun (M_5 : mm_M) => mm_let (mm_setI M_5 4 7 0) fun M_6 => mm_let (mm_setI M_6 4 8 (M_6.1 4 3)) fun M_7 => mm_bd (f_Days_fillRow mm_rd 0 0 v2 M_7) fun u_8 M_9 => some ((), M_9)) mm_fu 0 M
set_option maxHeartbeats 4000000 in
theorem c_Days_readMeter_1 (E : mm_E) (v2 : Int32) (M : mm_M) : ∀ (r : Unit) (M2 : mm_M), f_Days_readMeter_1 v2 M = some (r, M2) → mm_P E Y_X1_readMeter 64 [.ref 4, .ref 1, .int v2] M none M2 := by
  refine mm_entry (em := (fun _ : Unit => none)) (by decide +kernel) (Nat.le_of_ble_eq_true rfl) ?_
  show mm_G _ E _ _ 0 [(0, .ref 4), (1, .ref 1), (2, .int v2)] [] M _
  unfold f_Days_readMeter_1
  refine mm_iconst (v := 0) dX1_readMeter_0 rfl ?_
  refine mm_istore_n [1, 2, 3, 0] (lv2 := [(0, .ref 4), (1, .ref 1), (2, .int v2), (3, .int 0)]) dX1_readMeter_1 (by decide) rfl ?_
  refine lp_Days_readMeter_1_2_ok E v2 ?_ mm_fu 0 M
  · intro M_5
    refine mm_aload_n 0 dX1_readMeter_27 rfl ?_
    refine mm_iconst (v := 0) dX1_readMeter_28 rfl ?_
    refine mm_putI dX1_readMeter_29 fp_RX1_114 lo_4 rfl ?_
    refine mm_nm_M (fun M_6 => ?_)
    refine mm_aload_n 0 dX1_readMeter_32 rfl ?_
    refine mm_aload_n 0 dX1_readMeter_33 rfl ?_
    refine mm_getI dX1_readMeter_34 fl_RX1_33 lo_4 rfl ?_
    refine mm_putI dX1_readMeter_37 fp_RX1_117 lo_4 rfl ?_
    refine mm_nm_M (fun M_7 => ?_)
    refine mm_aload_n 0 dX1_readMeter_40 rfl ?_
    refine mm_iconst (v := 0) dX1_readMeter_41 rfl ?_
    refine mm_iconst (v := 0) dX1_readMeter_42 rfl ?_
    refine mm_iload_n 1 dX1_readMeter_43 rfl ?_
    refine mm_callVv (as := [.int 0, .int 0, .int v2]) (st := []) (c_Days_fillRow E mm_rd 0 0 v2 M_7) dX1_readMeter_44 mz_X1_fillRow lk_RX1_120 im_X1_fillRow se_X1_fillRow lo_4 rfl rfl rfl ⟨Nat.le_of_ble_eq_true rfl, Nat.le_of_ble_eq_true rfl⟩ (Nat.le_of_ble_eq_true rfl) (fun u_8 M_9 => ?_)
    exact mm_vret dX1_readMeter_47 rfl
def f_H_meter (v1 : Int32) (v2 : Int32) (M : mm_M) : Option (Int32 × mm_M) := mm_jn (fun (s0 : Bool) (M_1 : mm_M) => if v1 < 1 then some ((-3), M_1) else if 3 < v1 then some ((-3), M_1) else if s0 = true then mm_bd (f_Tape_size M_1) fun r_2 M_3 => if 48 ≤ r_2 then mm_bd (f_Days_readMeter_1 v1 M_3) fun u_4 M_5 => mm_bd (f_Tape_clear M_5) fun u_6 M_7 => if v2 = (-1) then some (M_7.1 4 7, M_7) else if M_7.1 4 7 = 0 then some ((-2), M_7) else if v2 = 3 then some (M_7.1 4 8, M_7) else if mm_in v2 (mm_al 21) = true then some (M_7.2.1 21 v2.toNatClampNeg, M_7) else none else some ((-3), M_3) else some ((-3), M_1)) fun j23 => mm_jn (fun (M_8 : mm_M) => j23 true M_8) fun j18 => if v2 = (-1) then j18 M else if v2 = 3 then j18 M else mm_bd (f_H_isBelow v2 v1 M) fun b_9 M_10 => if b_9 = true then j18 M_10 else j23 false M_10
set_option maxHeartbeats 4000000 in
theorem c_H_meter (E : mm_E) (v1 : Int32) (v2 : Int32) (M : mm_M) : ∀ (r : Int32) (M2 : mm_M), f_H_meter v1 v2 M = some (r, M2) → mm_P E Y_X11_meter 65 [.ref 0, .int v1, .int v2] M (some (.int r)) M2 := by
  refine mm_entry (em := (fun x : Int32 => some (.int x))) (by decide +kernel) (Nat.le_of_ble_eq_true rfl) ?_
  show mm_G _ E _ _ 0 [(0, .ref 0), (1, .int v1), (2, .int v2)] [] M _
  unfold f_H_meter
  refine mm_iload_n 2 dX11_meter_0 rfl ?_
  refine mm_iconst (v := (-1)) dX11_meter_1 rfl ?_
  refine mm_jnP (P := fun j => ∀ (s0 : Bool) (M : mm_M), mm_G (fun x : Int32 => some (.int x)) E Y_X11_meter 65 23 [(0, .ref 0), (1, .int v1), (2, .int v2)] [.int (mm_b s0)] M (j s0 M)) ?_ (fun j23 hj23 => ?_)
  · intro s0 M_1
    refine mm_istore_n [1, 2, 3, 0] (lv2 := [(0, .ref 0), (1, .int v1), (2, .int v2), (3, .int (mm_b s0))]) dX11_meter_23 (by decide) rfl ?_
    refine mm_iload_n 1 dX11_meter_24 rfl ?_
    refine mm_iconst (v := 1) dX11_meter_25 rfl ?_
    refine mm_icmp_lt 50 dX11_meter_26 rfl ?_ ?_
    · refine mm_bipush (v := (-3)) dX11_meter_50 rfl ?_
      exact mm_iret dX11_meter_52 rfl
    · refine mm_iload_n 1 dX11_meter_29 rfl ?_
      refine mm_iconst (v := 3) dX11_meter_30 rfl ?_
      refine mm_icmp_gt 50 dX11_meter_31 rfl ?_ ?_
      · refine mm_bipush (v := (-3)) dX11_meter_50 rfl ?_
        exact mm_iret dX11_meter_52 rfl
      · refine mm_iload_n 3 dX11_meter_34 rfl ?_
        refine mm_if_eq_b 50 dX11_meter_35 rfl ?_ ?_
        · refine mm_bipush (v := (-3)) dX11_meter_50 rfl ?_
          exact mm_iret dX11_meter_52 rfl
        · refine mm_aload_n 0 dX11_meter_38 rfl ?_
          refine mm_getR 1 dX11_meter_39 fl_RX11_12 lo_0 rfl ?_
          refine mm_callVi (as := []) (st := []) (c_Tape_size E M_1) dX11_meter_42 mz_X9_size lk_RX11_100 im_X9_size se_X9_size lo_1 rfl rfl rfl ⟨Nat.le_of_ble_eq_true rfl, Nat.le_of_ble_eq_true rfl⟩ (Nat.le_of_ble_eq_true rfl) (fun r_2 M_3 => ?_)
          refine mm_bipush (v := 48) dX11_meter_45 rfl ?_
          refine mm_icmp_ge 53 dX11_meter_47 rfl ?_ ?_
          · refine mm_aload_n 0 dX11_meter_53 rfl ?_
            refine mm_getR 4 dX11_meter_54 fl_RX11_26 lo_0 rfl ?_
            refine mm_aload_n 0 dX11_meter_57 rfl ?_
            refine mm_getR 1 dX11_meter_58 fl_RX11_12 lo_0 rfl ?_
            refine mm_iload_n 1 dX11_meter_61 rfl ?_
            refine mm_callVv (as := [.ref 1, .int v1]) (st := []) (c_Days_readMeter_1 E v1 M_3) dX11_meter_62 mz_X1_readMeter lk_RX11_292 im_X1_readMeter se_X1_readMeter lo_4 rfl rfl rfl ⟨Nat.le_of_ble_eq_true rfl, Nat.le_of_ble_eq_true rfl⟩ (Nat.le_of_ble_eq_true rfl) (fun u_4 M_5 => ?_)
            refine mm_aload_n 0 dX11_meter_65 rfl ?_
            refine mm_getR 1 dX11_meter_66 fl_RX11_12 lo_0 rfl ?_
            refine mm_callVv (as := []) (st := []) (c_Tape_clear E M_5) dX11_meter_69 mz_X9_clear lk_RX11_116 im_X9_clear se_X9_clear lo_1 rfl rfl rfl ⟨Nat.le_of_ble_eq_true rfl, Nat.le_of_ble_eq_true rfl⟩ (Nat.le_of_ble_eq_true rfl) (fun u_6 M_7 => ?_)
            refine mm_iload_n 2 dX11_meter_72 rfl ?_
            refine mm_iconst (v := (-1)) dX11_meter_73 rfl ?_
            refine mm_icmp_ne 85 dX11_meter_74 rfl ?_ ?_
            · refine mm_aload_n 0 dX11_meter_85 rfl ?_
              refine mm_getR 4 dX11_meter_86 fl_RX11_26 lo_0 rfl ?_
              refine mm_getI dX11_meter_89 fl_RX11_296 lo_4 rfl ?_
              refine mm_if_ne 98 dX11_meter_92 rfl ?_ ?_
              · refine mm_iload_n 2 dX11_meter_98 rfl ?_
                refine mm_iconst (v := 3) dX11_meter_99 rfl ?_
                refine mm_icmp_ne 113 dX11_meter_100 rfl ?_ ?_
                · refine mm_aload_n 0 dX11_meter_113 rfl ?_
                  refine mm_getR 4 dX11_meter_114 fl_RX11_26 lo_0 rfl ?_
                  refine mm_getR 21 dX11_meter_117 fl_RX11_302 lo_4 rfl ?_
                  refine mm_iload_n 2 dX11_meter_120 rfl ?_
                  refine mm_iaload dX11_meter_121 ?_
                  exact mm_iret dX11_meter_122 rfl
                · refine mm_aload_n 0 dX11_meter_103 rfl ?_
                  refine mm_getR 4 dX11_meter_104 fl_RX11_26 lo_0 rfl ?_
                  refine mm_getI dX11_meter_107 fl_RX11_299 lo_4 rfl ?_
                  refine mm_goto 122 dX11_meter_110 rfl ?_
                  exact mm_iret dX11_meter_122 rfl
              · refine mm_bipush (v := (-2)) dX11_meter_95 rfl ?_
                exact mm_iret dX11_meter_97 rfl
            · refine mm_aload_n 0 dX11_meter_77 rfl ?_
              refine mm_getR 4 dX11_meter_78 fl_RX11_26 lo_0 rfl ?_
              refine mm_getI dX11_meter_81 fl_RX11_296 lo_4 rfl ?_
              exact mm_iret dX11_meter_84 rfl
          · refine mm_bipush (v := (-3)) dX11_meter_50 rfl ?_
            exact mm_iret dX11_meter_52 rfl
  refine mm_jnP (P := fun j => ∀ (M : mm_M), mm_G (fun x : Int32 => some (.int x)) E Y_X11_meter 65 18 [(0, .ref 0), (1, .int v1), (2, .int v2)] [] M (j M)) ?_ (fun j18 hj18 => ?_)
  · intro M_8
    refine mm_iconst (v := 1) dX11_meter_18 rfl ?_
    refine mm_goto 23 dX11_meter_19 rfl ?_
    exact hj23 true M_8
  refine mm_icmp_eq 18 dX11_meter_2 rfl ?_ ?_
  · exact hj18  M
  · refine mm_iload_n 2 dX11_meter_5 rfl ?_
    refine mm_iconst (v := 3) dX11_meter_6 rfl ?_
    refine mm_icmp_eq 18 dX11_meter_7 rfl ?_ ?_
    · exact hj18  M
    · refine mm_iload_n 2 dX11_meter_10 rfl ?_
      refine mm_iload_n 1 dX11_meter_11 rfl ?_
      refine mm_callSz (as := [.int v2, .int v1]) (st := []) (c_H_isBelow E v2 v1 M) dX11_meter_12 mz_X11_isBelow lk_RX11_108 sm_X11_isBelow rfl ⟨Nat.le_of_ble_eq_true rfl, Nat.le_of_ble_eq_true rfl⟩ (Nat.le_of_ble_eq_true rfl) (fun b_9 M_10 => ?_)
      refine mm_if_eq_b 22 dX11_meter_15 rfl ?_ ?_
      · refine mm_iconst (v := 0) dX11_meter_22 rfl ?_
        exact hj23 false M_10
      · exact hj18  M_10
def f_H_seed (v1 : Int32) (M : mm_M) : Option (Bool × mm_M) := mm_bd (f_H_isUpTo v1 65535 M) fun b_1 M_2 => if b_1 = true then mm_let (mm_setI M_2 27 5 v1) fun M_3 => some (true, M_3) else some (false, M_2)
set_option maxHeartbeats 4000000 in
theorem c_H_seed (E : mm_E) (v1 : Int32) (M : mm_M) : ∀ (r : Bool) (M2 : mm_M), f_H_seed v1 M = some (r, M2) → mm_P E Y_X11_seed 2 [.ref 0, .int v1] M (some (.int (mm_b r))) M2 := by
  refine mm_entry (em := (fun x : Bool => some (.int (mm_b x)))) (by decide +kernel) (Nat.le_of_ble_eq_true rfl) ?_
  show mm_G _ E _ _ 0 [(0, .ref 0), (1, .int v1)] [] M _
  unfold f_H_seed
  refine mm_iload_n 1 dX11_seed_0 rfl ?_
  refine mm_ldcw dX11_seed_1 ct_RX11_305 ?_
  refine mm_callSz (as := [.int v1, .int 65535]) (st := []) (c_H_isUpTo E v1 65535 M) dX11_seed_4 mz_X11_isUpTo lk_RX11_135 sm_X11_isUpTo rfl ⟨Nat.le_of_ble_eq_true rfl, Nat.le_of_ble_eq_true rfl⟩ (Nat.le_of_ble_eq_true rfl) (fun b_1 M_2 => ?_)
  refine mm_if_ne_b 12 dX11_seed_7 rfl ?_ ?_
  · refine mm_aload_n 0 dX11_seed_12 rfl ?_
    refine mm_getR 27 dX11_seed_13 fl_RX11_40 lo_0 rfl ?_
    refine mm_iload_n 1 dX11_seed_16 rfl ?_
    refine mm_putI dX11_seed_17 fp_RX11_306 lo_27 rfl ?_
    refine mm_nm_M (fun M_3 => ?_)
    refine mm_iconst (v := 1) dX11_seed_20 rfl ?_
    exact mm_zret (b := true) dX11_seed_21 rfl
  · refine mm_iconst (v := 0) dX11_seed_10 rfl ?_
    exact mm_zret (b := false) dX11_seed_11 rfl
def f_H_drawOne (M : mm_M) : Option (Unit × mm_M) := mm_let (mm_setI M 27 5 (mm_rem ((25173 * (M.1 27 5)) + 13849) 65536)) fun M_1 => mm_let (mm_rem (M_1.1 27 5) 10) fun v1_2 => mm_let (mm_rem ((M_1.1 27 5) / 10) 12) fun v2_3 => mm_bd (f_Register_has_27 v1_2 M_1) fun b_4 M_5 => if b_4 = true then mm_bd (f_Days_isTold v2_3 M_5) fun b_6 M_7 => if b_6 = true then if mm_in v1_2 (mm_al 29) = true then mm_let (mm_setA M_7 29 (v1_2.toNatClampNeg) v2_3) fun M_8 => some ((), M_8) else none else some ((), M_7) else some ((), M_5)
set_option maxHeartbeats 4000000 in
theorem c_H_drawOne (E : mm_E) (M : mm_M) : ∀ (r : Unit) (M2 : mm_M), f_H_drawOne M = some (r, M2) → mm_P E Y_X11_drawOne 4 [.ref 0] M none M2 := by
  refine mm_entry (em := (fun _ : Unit => none)) (by decide +kernel) (Nat.le_of_ble_eq_true rfl) ?_
  show mm_G _ E _ _ 0 [(0, .ref 0)] [] M _
  unfold f_H_drawOne
  refine mm_aload_n 0 dX11_drawOne_0 rfl ?_
  refine mm_getR 27 dX11_drawOne_1 fl_RX11_40 lo_0 rfl ?_
  refine mm_sipush (v := 25173) dX11_drawOne_4 rfl ?_
  refine mm_aload_n 0 dX11_drawOne_7 rfl ?_
  refine mm_getR 27 dX11_drawOne_8 fl_RX11_40 lo_0 rfl ?_
  refine mm_getI dX11_drawOne_11 fl_RX11_306 lo_27 rfl ?_
  refine mm_imul dX11_drawOne_14 ?_
  refine mm_sipush (v := 13849) dX11_drawOne_15 rfl ?_
  refine mm_iadd dX11_drawOne_18 ?_
  refine mm_ldcw dX11_drawOne_19 ct_RX11_340 ?_
  refine mm_irem_c dX11_drawOne_22 (by decide) ?_
  refine mm_putI dX11_drawOne_23 fp_RX11_306 lo_27 rfl ?_
  refine mm_nm_M (fun M_1 => ?_)
  refine mm_aload_n 0 dX11_drawOne_26 rfl ?_
  refine mm_getR 27 dX11_drawOne_27 fl_RX11_40 lo_0 rfl ?_
  refine mm_getI dX11_drawOne_30 fl_RX11_306 lo_27 rfl ?_
  refine mm_bipush (v := 10) dX11_drawOne_33 rfl ?_
  refine mm_irem_c dX11_drawOne_35 (by decide) ?_
  refine mm_nm_int (fun v1_2 => ?_)
  refine mm_istore_n [1, 0] (lv2 := [(0, .ref 0), (1, .int v1_2)]) dX11_drawOne_36 (by decide) rfl ?_
  refine mm_aload_n 0 dX11_drawOne_37 rfl ?_
  refine mm_getR 27 dX11_drawOne_38 fl_RX11_40 lo_0 rfl ?_
  refine mm_getI dX11_drawOne_41 fl_RX11_306 lo_27 rfl ?_
  refine mm_bipush (v := 10) dX11_drawOne_44 rfl ?_
  refine mm_idiv_c dX11_drawOne_46 (by decide) ?_
  refine mm_bipush (v := 12) dX11_drawOne_47 rfl ?_
  refine mm_irem_c dX11_drawOne_49 (by decide) ?_
  refine mm_nm_int (fun v2_3 => ?_)
  refine mm_istore_n [1, 2, 0] (lv2 := [(0, .ref 0), (1, .int v1_2), (2, .int v2_3)]) dX11_drawOne_50 (by decide) rfl ?_
  refine mm_aload_n 0 dX11_drawOne_51 rfl ?_
  refine mm_getR 27 dX11_drawOne_52 fl_RX11_40 lo_0 rfl ?_
  refine mm_iload_n 1 dX11_drawOne_55 rfl ?_
  refine mm_callVz (as := [.int v1_2]) (st := []) (c_Register_has_27 E v1_2 M_1) dX11_drawOne_56 mz_X7_has lk_RX11_161 im_X7_has se_X7_has lo_27 rfl rfl rfl ⟨Nat.le_of_ble_eq_true rfl, Nat.le_of_ble_eq_true rfl⟩ (Nat.le_of_ble_eq_true rfl) (fun b_4 M_5 => ?_)
  refine mm_if_eq_b 83 dX11_drawOne_59 rfl ?_ ?_
  · exact mm_vret dX11_drawOne_83 rfl
  · refine mm_aload_n 0 dX11_drawOne_62 rfl ?_
    refine mm_getR 4 dX11_drawOne_63 fl_RX11_26 lo_0 rfl ?_
    refine mm_iload_n 2 dX11_drawOne_66 rfl ?_
    refine mm_callVz (as := [.int v2_3]) (st := []) (c_Days_isTold E v2_3 M_5) dX11_drawOne_67 mz_X1_isTold lk_RX11_119 im_X1_isTold se_X1_isTold lo_4 rfl rfl rfl ⟨Nat.le_of_ble_eq_true rfl, Nat.le_of_ble_eq_true rfl⟩ (Nat.le_of_ble_eq_true rfl) (fun b_6 M_7 => ?_)
    refine mm_if_eq_b 83 dX11_drawOne_70 rfl ?_ ?_
    · exact mm_vret dX11_drawOne_83 rfl
    · refine mm_aload_n 0 dX11_drawOne_73 rfl ?_
      refine mm_getR 27 dX11_drawOne_74 fl_RX11_40 lo_0 rfl ?_
      refine mm_getR 29 dX11_drawOne_77 fl_RX11_334 lo_27 rfl ?_
      refine mm_iload_n 1 dX11_drawOne_80 rfl ?_
      refine mm_iload_n 2 dX11_drawOne_81 rfl ?_
      refine mm_iastore dX11_drawOne_82 ?_
      refine mm_nm_M (fun M_8 => ?_)
      exact mm_vret dX11_drawOne_83 rfl
def lp_H_draw_15 (v1 : Int32) (k30 : mm_M → Option (Int32 × mm_M)) : Nat → Int32 → mm_M → Option (Int32 × mm_M)
  | 0, _, _ => none
  | n + 1, v2, M => if v1 ≤ v2 then k30 M else mm_bd (f_H_drawOne M) fun u_1 M_2 => mm_let (v2 + 1) fun v2_3 => lp_H_draw_15 v1 k30 n v2_3 M_2
set_option maxHeartbeats 4000000 in
theorem lp_H_draw_15_ok (E : mm_E) (v1 : Int32) {k30 : mm_M → Option (Int32 × mm_M)} (hk30 : ∀ (M : mm_M), mm_G (fun x : Int32 => some (.int x)) E Y_X11_draw 8 30 [(0, .ref 0)] [] M (k30 M)) : ∀ (n : Nat) (v2 : Int32) (M : mm_M), mm_G (fun x : Int32 => some (.int x)) E Y_X11_draw 8 15 [(0, .ref 0), (1, .int v1), (2, .int v2)] [] M (lp_H_draw_15 v1 k30 n v2 M) := by
  intro n
  induction n with
  | zero => intro v2 M r M2 he; cases he
  | succ n ih =>
    intro v2 M
    rw [lp_H_draw_15]
    refine mm_iload_n 2 dX11_draw_15 rfl ?_
    refine mm_iload_n 1 dX11_draw_16 rfl ?_
    refine mm_icmp_ge 30 dX11_draw_17 rfl ?_ ?_
    · refine mm_wk [0] rfl ?_
      exact hk30  M
    · refine mm_aload_n 0 dX11_draw_20 rfl ?_
      refine mm_callVv (as := []) (st := []) (c_H_drawOne E M) dX11_draw_21 mz_X11_drawOne lk_RX11_309 im_X11_drawOne se_X11_drawOne lo_0 rfl rfl rfl ⟨Nat.le_of_ble_eq_true rfl, Nat.le_of_ble_eq_true rfl⟩ (Nat.le_of_ble_eq_true rfl) (fun u_1 M_2 => ?_)
      refine mm_iincN 2 [1, 2, 0] (v := v2 + 1) (lv2 := fun v2_3 => [(0, .ref 0), (1, .int v1), (2, .int v2_3)]) dX11_draw_24 rfl rfl (by decide) (fun _ => rfl) (fun v2_3 => ?_)
      refine mm_goto 15 dX11_draw_27 rfl ?_
      exact ih v2_3 M_2
def f_H_draw (v1 : Int32) (M : mm_M) : Option (Int32 × mm_M) := if v1 < 1 then some ((-1), M) else if v1 ≤ 20 then lp_H_draw_15 v1 (fun (M_4 : mm_M) => mm_bd (f_Service_serveAll M_4) fun u_5 M_6 => some (M_6.1 73 6, M_6)) mm_fu 0 M else some ((-1), M)
set_option maxHeartbeats 4000000 in
theorem c_H_draw (E : mm_E) (v1 : Int32) (M : mm_M) : ∀ (r : Int32) (M2 : mm_M), f_H_draw v1 M = some (r, M2) → mm_P E Y_X11_draw 8 [.ref 0, .int v1] M (some (.int r)) M2 := by
  refine mm_entry (em := (fun x : Int32 => some (.int x))) (by decide +kernel) (Nat.le_of_ble_eq_true rfl) ?_
  show mm_G _ E _ _ 0 [(0, .ref 0), (1, .int v1)] [] M _
  unfold f_H_draw
  refine mm_iload_n 1 dX11_draw_0 rfl ?_
  refine mm_iconst (v := 1) dX11_draw_1 rfl ?_
  refine mm_icmp_lt 11 dX11_draw_2 rfl ?_ ?_
  · refine mm_iconst (v := (-1)) dX11_draw_11 rfl ?_
    exact mm_iret dX11_draw_12 rfl
  · refine mm_iload_n 1 dX11_draw_5 rfl ?_
    refine mm_bipush (v := 20) dX11_draw_6 rfl ?_
    refine mm_icmp_le 13 dX11_draw_8 rfl ?_ ?_
    · refine mm_iconst (v := 0) dX11_draw_13 rfl ?_
      refine mm_istore_n [1, 2, 0] (lv2 := [(0, .ref 0), (1, .int v1), (2, .int 0)]) dX11_draw_14 (by decide) rfl ?_
      refine lp_H_draw_15_ok E v1 ?_ mm_fu 0 M
      · intro M_4
        refine mm_aload_n 0 dX11_draw_30 rfl ?_
        refine mm_getR 73 dX11_draw_31 fl_RX11_89 lo_0 rfl ?_
        refine mm_callVv (as := []) (st := []) (c_Service_serveAll E M_4) dX11_draw_34 mz_X8_serveAll lk_RX11_186 im_X8_serveAll se_X8_serveAll lo_73 rfl rfl rfl ⟨Nat.le_of_ble_eq_true rfl, Nat.le_of_ble_eq_true rfl⟩ (Nat.le_of_ble_eq_true rfl) (fun u_5 M_6 => ?_)
        refine mm_aload_n 0 dX11_draw_37 rfl ?_
        refine mm_getR 73 dX11_draw_38 fl_RX11_89 lo_0 rfl ?_
        refine mm_getI dX11_draw_41 fl_RX11_196 lo_73 rfl ?_
        exact mm_iret dX11_draw_44 rfl
    · refine mm_iconst (v := (-1)) dX11_draw_11 rfl ?_
      exact mm_iret dX11_draw_12 rfl
def f_Register_copyFrom_32_27 (M : mm_M) : Option (Unit × mm_M) := mm_let (mm_setI M 32 0 (M.1 27 0)) fun M_1 => mm_let (mm_setI M_1 32 5 (M_1.1 27 5)) fun M_2 => if mm_cpok 28 33 0 0 10 = true then mm_let (mm_cp M_2 28 33 0 0 10) fun M_3 => if mm_cpok 29 34 0 0 10 = true then mm_let (mm_cp M_3 29 34 0 0 10) fun M_4 => if mm_cpok 30 35 0 0 10 = true then mm_let (mm_cp M_4 30 35 0 0 10) fun M_5 => if mm_cpok 31 36 0 0 10 = true then mm_let (mm_cp M_5 31 36 0 0 10) fun M_6 => some ((), M_6) else none else none else none else none
set_option maxHeartbeats 4000000 in
theorem c_Register_copyFrom_32_27 (E : mm_E) (M : mm_M) : ∀ (r : Unit) (M2 : mm_M), f_Register_copyFrom_32_27 M = some (r, M2) → mm_P E Y_X7_copyFrom 1 [.ref 32, .ref 27] M none M2 := by
  refine mm_entry (em := (fun _ : Unit => none)) (by decide +kernel) (Nat.le_of_ble_eq_true rfl) ?_
  show mm_G _ E _ _ 0 [(0, .ref 32), (1, .ref 27)] [] M _
  unfold f_Register_copyFrom_32_27
  refine mm_aload_n 0 dX7_copyFrom_0 rfl ?_
  refine mm_aload_n 1 dX7_copyFrom_1 rfl ?_
  refine mm_getI dX7_copyFrom_2 fl_RX7_28 lo_27 rfl ?_
  refine mm_putI dX7_copyFrom_5 fp_RX7_28 lo_32 rfl ?_
  refine mm_nm_M (fun M_1 => ?_)
  refine mm_aload_n 0 dX7_copyFrom_8 rfl ?_
  refine mm_aload_n 1 dX7_copyFrom_9 rfl ?_
  refine mm_getI dX7_copyFrom_10 fl_RX7_24 lo_27 rfl ?_
  refine mm_putI dX7_copyFrom_13 fp_RX7_24 lo_32 rfl ?_
  refine mm_nm_M (fun M_2 => ?_)
  refine mm_aload_n 1 dX7_copyFrom_16 rfl ?_
  refine mm_getR 28 dX7_copyFrom_17 fl_RX7_9 lo_27 rfl ?_
  refine mm_iconst (v := 0) dX7_copyFrom_20 rfl ?_
  refine mm_aload_n 0 dX7_copyFrom_21 rfl ?_
  refine mm_getR 33 dX7_copyFrom_22 fl_RX7_9 lo_32 rfl ?_
  refine mm_iconst (v := 0) dX7_copyFrom_25 rfl ?_
  refine mm_bipush (v := 10) dX7_copyFrom_26 rfl ?_
  refine mm_copy dX7_copyFrom_28 lk_RX7_39 wd_copy ⟨Nat.le_of_ble_eq_true rfl, Nat.le_of_ble_eq_true rfl⟩ ?_
  refine mm_nm_M (fun M_3 => ?_)
  refine mm_aload_n 1 dX7_copyFrom_31 rfl ?_
  refine mm_getR 29 dX7_copyFrom_32 fl_RX7_15 lo_27 rfl ?_
  refine mm_iconst (v := 0) dX7_copyFrom_35 rfl ?_
  refine mm_aload_n 0 dX7_copyFrom_36 rfl ?_
  refine mm_getR 34 dX7_copyFrom_37 fl_RX7_15 lo_32 rfl ?_
  refine mm_iconst (v := 0) dX7_copyFrom_40 rfl ?_
  refine mm_bipush (v := 10) dX7_copyFrom_41 rfl ?_
  refine mm_copy dX7_copyFrom_43 lk_RX7_39 wd_copy ⟨Nat.le_of_ble_eq_true rfl, Nat.le_of_ble_eq_true rfl⟩ ?_
  refine mm_nm_M (fun M_4 => ?_)
  refine mm_aload_n 1 dX7_copyFrom_46 rfl ?_
  refine mm_getR 30 dX7_copyFrom_47 fl_RX7_18 lo_27 rfl ?_
  refine mm_iconst (v := 0) dX7_copyFrom_50 rfl ?_
  refine mm_aload_n 0 dX7_copyFrom_51 rfl ?_
  refine mm_getR 35 dX7_copyFrom_52 fl_RX7_18 lo_32 rfl ?_
  refine mm_iconst (v := 0) dX7_copyFrom_55 rfl ?_
  refine mm_bipush (v := 10) dX7_copyFrom_56 rfl ?_
  refine mm_copy dX7_copyFrom_58 lk_RX7_39 wd_copy ⟨Nat.le_of_ble_eq_true rfl, Nat.le_of_ble_eq_true rfl⟩ ?_
  refine mm_nm_M (fun M_5 => ?_)
  refine mm_aload_n 1 dX7_copyFrom_61 rfl ?_
  refine mm_getR 31 dX7_copyFrom_62 fl_RX7_21 lo_27 rfl ?_
  refine mm_iconst (v := 0) dX7_copyFrom_65 rfl ?_
  refine mm_aload_n 0 dX7_copyFrom_66 rfl ?_
  refine mm_getR 36 dX7_copyFrom_67 fl_RX7_21 lo_32 rfl ?_
  refine mm_iconst (v := 0) dX7_copyFrom_70 rfl ?_
  refine mm_bipush (v := 10) dX7_copyFrom_71 rfl ?_
  refine mm_copy dX7_copyFrom_73 lk_RX7_39 wd_copy ⟨Nat.le_of_ble_eq_true rfl, Nat.le_of_ble_eq_true rfl⟩ ?_
  refine mm_nm_M (fun M_6 => ?_)
  exact mm_vret dX7_copyFrom_76 rfl
def f_H_keep (M : mm_M) : Option (Int32 × mm_M) := mm_bd (f_Register_copyFrom_32_27 M) fun u_1 M_2 => mm_let (mm_setI M_2 0 5 (mm_b true)) fun M_3 => mm_bd (f_Integer_bitCount (M_3.1 27 0) M_3) fun r_4 M_5 => some (r_4, M_5)
set_option maxHeartbeats 4000000 in
theorem c_H_keep (E : mm_E) (M : mm_M) : ∀ (r : Int32) (M2 : mm_M), f_H_keep M = some (r, M2) → mm_P E Y_X11_keep 2 [.ref 0] M (some (.int r)) M2 := by
  refine mm_entry (em := (fun x : Int32 => some (.int x))) (by decide +kernel) (Nat.le_of_ble_eq_true rfl) ?_
  show mm_G _ E _ _ 0 [(0, .ref 0)] [] M _
  unfold f_H_keep
  refine mm_aload_n 0 dX11_keep_0 rfl ?_
  refine mm_getR 32 dX11_keep_1 fl_RX11_44 lo_0 rfl ?_
  refine mm_aload_n 0 dX11_keep_4 rfl ?_
  refine mm_getR 27 dX11_keep_5 fl_RX11_40 lo_0 rfl ?_
  refine mm_callVv (as := [.ref 27]) (st := []) (c_Register_copyFrom_32_27 E M) dX11_keep_8 mz_X7_copyFrom lk_RX11_312 im_X7_copyFrom se_X7_copyFrom lo_32 rfl rfl rfl ⟨Nat.le_of_ble_eq_true rfl, Nat.le_of_ble_eq_true rfl⟩ (Nat.le_of_ble_eq_true rfl) (fun u_1 M_2 => ?_)
  refine mm_aload_n 0 dX11_keep_11 rfl ?_
  refine mm_iconst (v := 1) dX11_keep_12 rfl ?_
  refine mm_putZ (b := true) dX11_keep_13 fp_RX11_315 lo_0 rfl ?_
  refine mm_nm_M (fun M_3 => ?_)
  refine mm_aload_n 0 dX11_keep_16 rfl ?_
  refine mm_getR 27 dX11_keep_17 fl_RX11_40 lo_0 rfl ?_
  refine mm_getI dX11_keep_20 fl_RX11_164 lo_27 rfl ?_
  refine mm_callSi (as := [.int (M_3.1 27 0)]) (st := []) (c_Integer_bitCount E (M_3.1 27 0) M_3) dX11_keep_23 mz_J6_bitCount_0f7a4 lk_RX11_226 sm_J6_bitCount_0f7a4 rfl ⟨Nat.le_of_ble_eq_true rfl, Nat.le_of_ble_eq_true rfl⟩ (Nat.le_of_ble_eq_true rfl) (fun r_4 M_5 => ?_)
  exact mm_iret dX11_keep_26 rfl
def f_Register_copyFrom_27_32 (M : mm_M) : Option (Unit × mm_M) := mm_let (mm_setI M 27 0 (M.1 32 0)) fun M_1 => mm_let (mm_setI M_1 27 5 (M_1.1 32 5)) fun M_2 => if mm_cpok 33 28 0 0 10 = true then mm_let (mm_cp M_2 33 28 0 0 10) fun M_3 => if mm_cpok 34 29 0 0 10 = true then mm_let (mm_cp M_3 34 29 0 0 10) fun M_4 => if mm_cpok 35 30 0 0 10 = true then mm_let (mm_cp M_4 35 30 0 0 10) fun M_5 => if mm_cpok 36 31 0 0 10 = true then mm_let (mm_cp M_5 36 31 0 0 10) fun M_6 => some ((), M_6) else none else none else none else none
set_option maxHeartbeats 4000000 in
theorem c_Register_copyFrom_27_32 (E : mm_E) (M : mm_M) : ∀ (r : Unit) (M2 : mm_M), f_Register_copyFrom_27_32 M = some (r, M2) → mm_P E Y_X7_copyFrom 1 [.ref 27, .ref 32] M none M2 := by
  refine mm_entry (em := (fun _ : Unit => none)) (by decide +kernel) (Nat.le_of_ble_eq_true rfl) ?_
  show mm_G _ E _ _ 0 [(0, .ref 27), (1, .ref 32)] [] M _
  unfold f_Register_copyFrom_27_32
  refine mm_aload_n 0 dX7_copyFrom_0 rfl ?_
  refine mm_aload_n 1 dX7_copyFrom_1 rfl ?_
  refine mm_getI dX7_copyFrom_2 fl_RX7_28 lo_32 rfl ?_
  refine mm_putI dX7_copyFrom_5 fp_RX7_28 lo_27 rfl ?_
  refine mm_nm_M (fun M_1 => ?_)
  refine mm_aload_n 0 dX7_copyFrom_8 rfl ?_
  refine mm_aload_n 1 dX7_copyFrom_9 rfl ?_
  refine mm_getI dX7_copyFrom_10 fl_RX7_24 lo_32 rfl ?_
  refine mm_putI dX7_copyFrom_13 fp_RX7_24 lo_27 rfl ?_
  refine mm_nm_M (fun M_2 => ?_)
  refine mm_aload_n 1 dX7_copyFrom_16 rfl ?_
  refine mm_getR 33 dX7_copyFrom_17 fl_RX7_9 lo_32 rfl ?_
  refine mm_iconst (v := 0) dX7_copyFrom_20 rfl ?_
  refine mm_aload_n 0 dX7_copyFrom_21 rfl ?_
  refine mm_getR 28 dX7_copyFrom_22 fl_RX7_9 lo_27 rfl ?_
  refine mm_iconst (v := 0) dX7_copyFrom_25 rfl ?_
  refine mm_bipush (v := 10) dX7_copyFrom_26 rfl ?_
  refine mm_copy dX7_copyFrom_28 lk_RX7_39 wd_copy ⟨Nat.le_of_ble_eq_true rfl, Nat.le_of_ble_eq_true rfl⟩ ?_
  refine mm_nm_M (fun M_3 => ?_)
  refine mm_aload_n 1 dX7_copyFrom_31 rfl ?_
  refine mm_getR 34 dX7_copyFrom_32 fl_RX7_15 lo_32 rfl ?_
  refine mm_iconst (v := 0) dX7_copyFrom_35 rfl ?_
  refine mm_aload_n 0 dX7_copyFrom_36 rfl ?_
  refine mm_getR 29 dX7_copyFrom_37 fl_RX7_15 lo_27 rfl ?_
  refine mm_iconst (v := 0) dX7_copyFrom_40 rfl ?_
  refine mm_bipush (v := 10) dX7_copyFrom_41 rfl ?_
  refine mm_copy dX7_copyFrom_43 lk_RX7_39 wd_copy ⟨Nat.le_of_ble_eq_true rfl, Nat.le_of_ble_eq_true rfl⟩ ?_
  refine mm_nm_M (fun M_4 => ?_)
  refine mm_aload_n 1 dX7_copyFrom_46 rfl ?_
  refine mm_getR 35 dX7_copyFrom_47 fl_RX7_18 lo_32 rfl ?_
  refine mm_iconst (v := 0) dX7_copyFrom_50 rfl ?_
  refine mm_aload_n 0 dX7_copyFrom_51 rfl ?_
  refine mm_getR 30 dX7_copyFrom_52 fl_RX7_18 lo_27 rfl ?_
  refine mm_iconst (v := 0) dX7_copyFrom_55 rfl ?_
  refine mm_bipush (v := 10) dX7_copyFrom_56 rfl ?_
  refine mm_copy dX7_copyFrom_58 lk_RX7_39 wd_copy ⟨Nat.le_of_ble_eq_true rfl, Nat.le_of_ble_eq_true rfl⟩ ?_
  refine mm_nm_M (fun M_5 => ?_)
  refine mm_aload_n 1 dX7_copyFrom_61 rfl ?_
  refine mm_getR 36 dX7_copyFrom_62 fl_RX7_21 lo_32 rfl ?_
  refine mm_iconst (v := 0) dX7_copyFrom_65 rfl ?_
  refine mm_aload_n 0 dX7_copyFrom_66 rfl ?_
  refine mm_getR 31 dX7_copyFrom_67 fl_RX7_21 lo_27 rfl ?_
  refine mm_iconst (v := 0) dX7_copyFrom_70 rfl ?_
  refine mm_bipush (v := 10) dX7_copyFrom_71 rfl ?_
  refine mm_copy dX7_copyFrom_73 lk_RX7_39 wd_copy ⟨Nat.le_of_ble_eq_true rfl, Nat.le_of_ble_eq_true rfl⟩ ?_
  refine mm_nm_M (fun M_6 => ?_)
  exact mm_vret dX7_copyFrom_76 rfl
def f_H_undo (M : mm_M) : Option (Bool × mm_M) := if M.1 0 5 = 0 then some (false, M) else mm_bd (f_Register_copyFrom_27_32 M) fun u_1 M_2 => some (true, M_2)
set_option maxHeartbeats 4000000 in
theorem c_H_undo (E : mm_E) (M : mm_M) : ∀ (r : Bool) (M2 : mm_M), f_H_undo M = some (r, M2) → mm_P E Y_X11_undo 2 [.ref 0] M (some (.int (mm_b r))) M2 := by
  refine mm_entry (em := (fun x : Bool => some (.int (mm_b x)))) (by decide +kernel) (Nat.le_of_ble_eq_true rfl) ?_
  show mm_G _ E _ _ 0 [(0, .ref 0)] [] M _
  unfold f_H_undo
  refine mm_aload_n 0 dX11_undo_0 rfl ?_
  refine mm_getI dX11_undo_1 fl_RX11_315 lo_0 rfl ?_
  refine mm_if_ne 9 dX11_undo_4 rfl ?_ ?_
  · refine mm_aload_n 0 dX11_undo_9 rfl ?_
    refine mm_getR 27 dX11_undo_10 fl_RX11_40 lo_0 rfl ?_
    refine mm_aload_n 0 dX11_undo_13 rfl ?_
    refine mm_getR 32 dX11_undo_14 fl_RX11_44 lo_0 rfl ?_
    refine mm_callVv (as := [.ref 32]) (st := []) (c_Register_copyFrom_27_32 E M) dX11_undo_17 mz_X7_copyFrom lk_RX11_312 im_X7_copyFrom se_X7_copyFrom lo_27 rfl rfl rfl ⟨Nat.le_of_ble_eq_true rfl, Nat.le_of_ble_eq_true rfl⟩ (Nat.le_of_ble_eq_true rfl) (fun u_1 M_2 => ?_)
    refine mm_iconst (v := 1) dX11_undo_20 rfl ?_
    exact mm_zret (b := true) dX11_undo_21 rfl
  · refine mm_iconst (v := 0) dX11_undo_7 rfl ?_
    exact mm_zret (b := false) dX11_undo_8 rfl
def f_Tape_numberAt (v1 : Int32) (M : mm_M) : Option (Int32 × mm_M) := mm_bd (f_Tape_pairAt v1 M) fun r_1 M_2 => mm_bd (f_Tape_pairAt (v1 + 2) M_2) fun r_3 M_4 => some ((r_1 <<< (16 &&& 31)) ||| r_3, M_4)
set_option maxHeartbeats 4000000 in
theorem c_Tape_numberAt (E : mm_E) (v1 : Int32) (M : mm_M) : ∀ (r : Int32) (M2 : mm_M), f_Tape_numberAt v1 M = some (r, M2) → mm_P E Y_X9_numberAt 4 [.ref 1, .int v1] M (some (.int r)) M2 := by
  refine mm_entry (em := (fun x : Int32 => some (.int x))) (by decide +kernel) (Nat.le_of_ble_eq_true rfl) ?_
  show mm_G _ E _ _ 0 [(0, .ref 1), (1, .int v1)] [] M _
  unfold f_Tape_numberAt
  refine mm_aload_n 0 dX9_numberAt_0 rfl ?_
  refine mm_iload_n 1 dX9_numberAt_1 rfl ?_
  refine mm_callVi (as := [.int v1]) (st := []) (c_Tape_pairAt E v1 M) dX9_numberAt_2 mz_X9_pairAt lk_RX9_27 im_X9_pairAt se_X9_pairAt lo_1 rfl rfl rfl ⟨Nat.le_of_ble_eq_true rfl, Nat.le_of_ble_eq_true rfl⟩ (Nat.le_of_ble_eq_true rfl) (fun r_1 M_2 => ?_)
  refine mm_bipush (v := 16) dX9_numberAt_5 rfl ?_
  refine mm_ishl dX9_numberAt_7 ?_
  refine mm_aload_n 0 dX9_numberAt_8 rfl ?_
  refine mm_iload_n 1 dX9_numberAt_9 rfl ?_
  refine mm_iconst (v := 2) dX9_numberAt_10 rfl ?_
  refine mm_iadd dX9_numberAt_11 ?_
  refine mm_callVi (as := [.int (v1 + 2)]) (st := [.int (r_1 <<< (16 &&& 31))]) (c_Tape_pairAt E (v1 + 2) M_2) dX9_numberAt_12 mz_X9_pairAt lk_RX9_27 im_X9_pairAt se_X9_pairAt lo_1 rfl rfl rfl ⟨Nat.le_of_ble_eq_true rfl, Nat.le_of_ble_eq_true rfl⟩ (Nat.le_of_ble_eq_true rfl) (fun r_3 M_4 => ?_)
  refine mm_ior dX9_numberAt_15 ?_
  exact mm_iret dX9_numberAt_16 rfl
def lp_H_check_50 (v1 : Int32) (v2 : Int32) (v3 : Int32) (k102 : Int32 → mm_M → Option (Int32 × mm_M)) : Nat → Int32 → Int32 → mm_M → Option (Int32 × mm_M)
  | 0, _, _, _ => none
  | n + 1, v4, v5, M => if v3 ≤ v5 then k102 v4 M else if v4 = (-1) then mm_bd (f_Tape_numberAt (4 * v5) M) fun r_9 M_10 => mm_bd (f_Days_rowOf v1 M_10) fun o_11 M_12 => if mm_in ((v2 * 24) + v5) (mm_al o_11) = true then mm_jn (fun (v4 : Int32) (v5 : Int32) (M_13 : mm_M) => mm_let (v5 + 1) fun v5_14 => lp_H_check_50 v1 v2 v3 k102 n v4 v5_14 M_13) fun j96 => if r_9 = M_12.2.1 o_11 ((v2 * 24) + v5).toNatClampNeg then j96 v4 v5 M_12 else j96 v5 v5 M_12 else none else k102 v4 M
set_option maxHeartbeats 4000000 in
theorem lp_H_check_50_ok (E : mm_E) (v1 : Int32) (v2 : Int32) (v3 : Int32) {k102 : Int32 → mm_M → Option (Int32 × mm_M)} (hk102 : ∀ (v4 : Int32) (M : mm_M), mm_G (fun x : Int32 => some (.int x)) E Y_X11_check 5 102 [(0, .ref 0), (4, .int v4)] [] M (k102 v4 M)) : ∀ (n : Nat) (v4 : Int32) (v5 : Int32) (M : mm_M), mm_G (fun x : Int32 => some (.int x)) E Y_X11_check 5 50 [(0, .ref 0), (1, .int v1), (2, .int v2), (3, .int v3), (4, .int v4), (5, .int v5)] [] M (lp_H_check_50 v1 v2 v3 k102 n v4 v5 M) := by
  intro n
  induction n with
  | zero => intro v4 v5 M r M2 he; cases he
  | succ n ih =>
    intro v4 v5 M
    rw [lp_H_check_50]
    refine mm_iload 5 dX11_check_50 rfl ?_
    refine mm_iload_n 3 dX11_check_52 rfl ?_
    refine mm_icmp_ge 102 dX11_check_53 rfl ?_ ?_
    · refine mm_wk [0, 4] rfl ?_
      exact hk102 v4 M
    · refine mm_iload 4 dX11_check_56 rfl ?_
      refine mm_iconst (v := (-1)) dX11_check_58 rfl ?_
      refine mm_icmp_ne 102 dX11_check_59 rfl ?_ ?_
      · refine mm_wk [0, 4] rfl ?_
        exact hk102 v4 M
      · refine mm_aload_n 0 dX11_check_62 rfl ?_
        refine mm_getR 1 dX11_check_63 fl_RX11_12 lo_0 rfl ?_
        refine mm_iconst (v := 4) dX11_check_66 rfl ?_
        refine mm_iload 5 dX11_check_67 rfl ?_
        refine mm_imul dX11_check_69 ?_
        refine mm_callVi (as := [.int (4 * v5)]) (st := []) (c_Tape_numberAt E (4 * v5) M) dX11_check_70 mz_X9_numberAt lk_RX11_319 im_X9_numberAt se_X9_numberAt lo_1 rfl rfl rfl ⟨Nat.le_of_ble_eq_true rfl, Nat.le_of_ble_eq_true rfl⟩ (Nat.le_of_ble_eq_true rfl) (fun r_9 M_10 => ?_)
        refine mm_aload_n 0 dX11_check_73 rfl ?_
        refine mm_getR 4 dX11_check_74 fl_RX11_26 lo_0 rfl ?_
        refine mm_iload_n 1 dX11_check_77 rfl ?_
        refine mm_callVr (as := [.int v1]) (st := [.int r_9]) (c_Days_rowOf E v1 M_10) dX11_check_78 mz_X1_rowOf lk_RX11_123 im_X1_rowOf se_X1_rowOf lo_4 rfl rfl rfl ⟨Nat.le_of_ble_eq_true rfl, Nat.le_of_ble_eq_true rfl⟩ (Nat.le_of_ble_eq_true rfl) (fun o_11 M_12 => ?_)
        refine mm_iload_n 2 dX11_check_81 rfl ?_
        refine mm_bipush (v := 24) dX11_check_82 rfl ?_
        refine mm_imul dX11_check_84 ?_
        refine mm_iload 5 dX11_check_85 rfl ?_
        refine mm_iadd dX11_check_87 ?_
        refine mm_iaload dX11_check_88 ?_
        refine mm_jnP (P := fun j => ∀ (v4 : Int32) (v5 : Int32) (M : mm_M), mm_G (fun x : Int32 => some (.int x)) E Y_X11_check 5 96 [(0, .ref 0), (1, .int v1), (2, .int v2), (3, .int v3), (4, .int v4), (5, .int v5)] [] M (j v4 v5 M)) ?_ (fun j96 hj96 => ?_)
        · intro v4 v5 M_13
          refine mm_iincN 5 [1, 2, 3, 4, 5, 0] (v := v5 + 1) (lv2 := fun v5_14 => [(0, .ref 0), (1, .int v1), (2, .int v2), (3, .int v3), (4, .int v4), (5, .int v5_14)]) dX11_check_96 rfl rfl (by decide) (fun _ => rfl) (fun v5_14 => ?_)
          refine mm_goto 50 dX11_check_99 rfl ?_
          exact ih v4 v5_14 M_13
        refine mm_icmp_eq 96 dX11_check_89 rfl ?_ ?_
        · exact hj96 v4 v5 M_12
        · refine mm_iload 5 dX11_check_92 rfl ?_
          refine mm_istore [1, 2, 3, 4, 0, 5] (lv2 := [(0, .ref 0), (1, .int v1), (2, .int v2), (3, .int v3), (4, .int v5), (5, .int v5)]) dX11_check_94 (by decide) rfl ?_
          exact hj96 v5 v5 M_12
def f_H_check (v1 : Int32) (v2 : Int32) (v3 : Int32) (M : mm_M) : Option (Int32 × mm_M) := mm_bd (f_Days_isTold v1 M) fun b_1 M_2 => if b_1 = true then mm_bd (f_H_isBelow v2 3 M_2) fun b_3 M_4 => if b_3 = true then mm_bd (f_H_isUpTo v3 24 M_4) fun b_5 M_6 => if b_5 = true then mm_bd (f_Tape_size M_6) fun r_7 M_8 => if 4 * v3 ≤ r_7 then lp_H_check_50 v1 v2 v3 (fun (v4 : Int32) (M_15 : mm_M) => mm_bd (f_Tape_clear M_15) fun u_16 M_17 => some (v4, M_17)) mm_fu (-1) 0 M_8 else some ((-2), M_8) else some ((-2), M_6) else some ((-2), M_4) else some ((-2), M_2)
set_option maxHeartbeats 4000000 in
theorem c_H_check (E : mm_E) (v1 : Int32) (v2 : Int32) (v3 : Int32) (M : mm_M) : ∀ (r : Int32) (M2 : mm_M), f_H_check v1 v2 v3 M = some (r, M2) → mm_P E Y_X11_check 5 [.ref 0, .int v1, .int v2, .int v3] M (some (.int r)) M2 := by
  refine mm_entry (em := (fun x : Int32 => some (.int x))) (by decide +kernel) (Nat.le_of_ble_eq_true rfl) ?_
  show mm_G _ E _ _ 0 [(0, .ref 0), (1, .int v1), (2, .int v2), (3, .int v3)] [] M _
  unfold f_H_check
  refine mm_aload_n 0 dX11_check_0 rfl ?_
  refine mm_getR 4 dX11_check_1 fl_RX11_26 lo_0 rfl ?_
  refine mm_iload_n 1 dX11_check_4 rfl ?_
  refine mm_callVz (as := [.int v1]) (st := []) (c_Days_isTold E v1 M) dX11_check_5 mz_X1_isTold lk_RX11_119 im_X1_isTold se_X1_isTold lo_4 rfl rfl rfl ⟨Nat.le_of_ble_eq_true rfl, Nat.le_of_ble_eq_true rfl⟩ (Nat.le_of_ble_eq_true rfl) (fun b_1 M_2 => ?_)
  refine mm_if_eq_b 41 dX11_check_8 rfl ?_ ?_
  · refine mm_bipush (v := (-2)) dX11_check_41 rfl ?_
    exact mm_iret dX11_check_43 rfl
  · refine mm_iload_n 2 dX11_check_11 rfl ?_
    refine mm_iconst (v := 3) dX11_check_12 rfl ?_
    refine mm_callSz (as := [.int v2, .int 3]) (st := []) (c_H_isBelow E v2 3 M_2) dX11_check_13 mz_X11_isBelow lk_RX11_108 sm_X11_isBelow rfl ⟨Nat.le_of_ble_eq_true rfl, Nat.le_of_ble_eq_true rfl⟩ (Nat.le_of_ble_eq_true rfl) (fun b_3 M_4 => ?_)
    refine mm_if_eq_b 41 dX11_check_16 rfl ?_ ?_
    · refine mm_bipush (v := (-2)) dX11_check_41 rfl ?_
      exact mm_iret dX11_check_43 rfl
    · refine mm_iload_n 3 dX11_check_19 rfl ?_
      refine mm_bipush (v := 24) dX11_check_20 rfl ?_
      refine mm_callSz (as := [.int v3, .int 24]) (st := []) (c_H_isUpTo E v3 24 M_4) dX11_check_22 mz_X11_isUpTo lk_RX11_135 sm_X11_isUpTo rfl ⟨Nat.le_of_ble_eq_true rfl, Nat.le_of_ble_eq_true rfl⟩ (Nat.le_of_ble_eq_true rfl) (fun b_5 M_6 => ?_)
      refine mm_if_eq_b 41 dX11_check_25 rfl ?_ ?_
      · refine mm_bipush (v := (-2)) dX11_check_41 rfl ?_
        exact mm_iret dX11_check_43 rfl
      · refine mm_iconst (v := 4) dX11_check_28 rfl ?_
        refine mm_iload_n 3 dX11_check_29 rfl ?_
        refine mm_imul dX11_check_30 ?_
        refine mm_aload_n 0 dX11_check_31 rfl ?_
        refine mm_getR 1 dX11_check_32 fl_RX11_12 lo_0 rfl ?_
        refine mm_callVi (as := []) (st := [.int (4 * v3)]) (c_Tape_size E M_6) dX11_check_35 mz_X9_size lk_RX11_100 im_X9_size se_X9_size lo_1 rfl rfl rfl ⟨Nat.le_of_ble_eq_true rfl, Nat.le_of_ble_eq_true rfl⟩ (Nat.le_of_ble_eq_true rfl) (fun r_7 M_8 => ?_)
        refine mm_icmp_le 44 dX11_check_38 rfl ?_ ?_
        · refine mm_iconst (v := (-1)) dX11_check_44 rfl ?_
          refine mm_istore [1, 2, 3, 4, 0] (lv2 := [(0, .ref 0), (1, .int v1), (2, .int v2), (3, .int v3), (4, .int (-1))]) dX11_check_45 (by decide) rfl ?_
          refine mm_iconst (v := 0) dX11_check_47 rfl ?_
          refine mm_istore [1, 2, 3, 4, 5, 0] (lv2 := [(0, .ref 0), (1, .int v1), (2, .int v2), (3, .int v3), (4, .int (-1)), (5, .int 0)]) dX11_check_48 (by decide) rfl ?_
          refine lp_H_check_50_ok E v1 v2 v3 ?_ mm_fu (-1) 0 M_8
          · intro v4 M_15
            refine mm_aload_n 0 dX11_check_102 rfl ?_
            refine mm_getR 1 dX11_check_103 fl_RX11_12 lo_0 rfl ?_
            refine mm_callVv (as := []) (st := []) (c_Tape_clear E M_15) dX11_check_106 mz_X9_clear lk_RX11_116 im_X9_clear se_X9_clear lo_1 rfl rfl rfl ⟨Nat.le_of_ble_eq_true rfl, Nat.le_of_ble_eq_true rfl⟩ (Nat.le_of_ble_eq_true rfl) (fun u_16 M_17 => ?_)
            refine mm_iload 1 dX11_check_109 rfl ?_
            exact mm_iret dX11_check_111 rfl
        · refine mm_bipush (v := (-2)) dX11_check_41 rfl ?_
          exact mm_iret dX11_check_43 rfl
def f_H_countOfOne (v1 : Int32) (M : mm_M) : Option (Int32 × mm_M) := if v1 < 10 then some ((-1), M) else if v1 < 60 then mm_let (mm_rem v1 10) fun v2_1 => if v1 < 50 then mm_bd (f_Register_has_27 v2_1 M) fun b_2 M_3 => if b_2 = true then if 20 ≤ v1 then if 30 ≤ v1 then if 40 ≤ v1 then if mm_in v2_1 (mm_al 31) = true then some ((M_3.2.1 31 v2_1.toNatClampNeg) + 3, M_3) else none else if mm_in v2_1 (mm_al 30) = true then some (M_3.2.1 30 v2_1.toNatClampNeg, M_3) else none else if mm_in v2_1 (mm_al 29) = true then some (M_3.2.1 29 v2_1.toNatClampNeg, M_3) else none else if mm_in v2_1 (mm_al 28) = true then some (M_3.2.1 28 v2_1.toNatClampNeg, M_3) else none else some ((-1), M_3) else if M.1 22 1 ≤ v2_1 then some ((-1), M) else if mm_in v2_1 (mm_al 23) = true then some (M.2.1 23 v2_1.toNatClampNeg, M) else none else some ((-1), M)
set_option maxHeartbeats 4000000 in
theorem c_H_countOfOne (E : mm_E) (v1 : Int32) (M : mm_M) : ∀ (r : Int32) (M2 : mm_M), f_H_countOfOne v1 M = some (r, M2) → mm_P E Y_X11_countOfOne 4 [.ref 0, .int v1] M (some (.int r)) M2 := by
  refine mm_entry (em := (fun x : Int32 => some (.int x))) (by decide +kernel) (Nat.le_of_ble_eq_true rfl) ?_
  show mm_G _ E _ _ 0 [(0, .ref 0), (1, .int v1)] [] M _
  unfold f_H_countOfOne
  refine mm_iload_n 1 dX11_countOfOne_0 rfl ?_
  refine mm_bipush (v := 10) dX11_countOfOne_1 rfl ?_
  refine mm_icmp_lt 12 dX11_countOfOne_3 rfl ?_ ?_
  · refine mm_iconst (v := (-1)) dX11_countOfOne_12 rfl ?_
    exact mm_iret dX11_countOfOne_13 rfl
  · refine mm_iload_n 1 dX11_countOfOne_6 rfl ?_
    refine mm_bipush (v := 60) dX11_countOfOne_7 rfl ?_
    refine mm_icmp_lt 14 dX11_countOfOne_9 rfl ?_ ?_
    · refine mm_iload_n 1 dX11_countOfOne_14 rfl ?_
      refine mm_bipush (v := 10) dX11_countOfOne_15 rfl ?_
      refine mm_irem_c dX11_countOfOne_17 (by decide) ?_
      refine mm_nm_int (fun v2_1 => ?_)
      refine mm_istore_n [1, 2, 0] (lv2 := [(0, .ref 0), (1, .int v1), (2, .int v2_1)]) dX11_countOfOne_18 (by decide) rfl ?_
      refine mm_iload_n 1 dX11_countOfOne_19 rfl ?_
      refine mm_bipush (v := 50) dX11_countOfOne_20 rfl ?_
      refine mm_icmp_lt 50 dX11_countOfOne_22 rfl ?_ ?_
      · refine mm_aload_n 0 dX11_countOfOne_50 rfl ?_
        refine mm_getR 27 dX11_countOfOne_51 fl_RX11_40 lo_0 rfl ?_
        refine mm_iload_n 2 dX11_countOfOne_54 rfl ?_
        refine mm_callVz (as := [.int v2_1]) (st := []) (c_Register_has_27 E v2_1 M) dX11_countOfOne_55 mz_X7_has lk_RX11_161 im_X7_has se_X7_has lo_27 rfl rfl rfl ⟨Nat.le_of_ble_eq_true rfl, Nat.le_of_ble_eq_true rfl⟩ (Nat.le_of_ble_eq_true rfl) (fun b_2 M_3 => ?_)
        refine mm_if_ne_b 63 dX11_countOfOne_58 rfl ?_ ?_
        · refine mm_iload_n 1 dX11_countOfOne_63 rfl ?_
          refine mm_bipush (v := 20) dX11_countOfOne_64 rfl ?_
          refine mm_icmp_ge 79 dX11_countOfOne_66 rfl ?_ ?_
          · refine mm_iload_n 1 dX11_countOfOne_79 rfl ?_
            refine mm_bipush (v := 30) dX11_countOfOne_80 rfl ?_
            refine mm_icmp_ge 95 dX11_countOfOne_82 rfl ?_ ?_
            · refine mm_iload_n 1 dX11_countOfOne_95 rfl ?_
              refine mm_bipush (v := 40) dX11_countOfOne_96 rfl ?_
              refine mm_icmp_ge 113 dX11_countOfOne_98 rfl ?_ ?_
              · refine mm_aload_n 0 dX11_countOfOne_113 rfl ?_
                refine mm_getR 27 dX11_countOfOne_114 fl_RX11_40 lo_0 rfl ?_
                refine mm_getR 31 dX11_countOfOne_117 fl_RX11_167 lo_27 rfl ?_
                refine mm_iload_n 2 dX11_countOfOne_120 rfl ?_
                refine mm_iaload dX11_countOfOne_121 ?_
                refine mm_iconst (v := 3) dX11_countOfOne_122 rfl ?_
                refine mm_iadd dX11_countOfOne_123 ?_
                exact mm_iret dX11_countOfOne_124 rfl
              · refine mm_aload_n 0 dX11_countOfOne_101 rfl ?_
                refine mm_getR 27 dX11_countOfOne_102 fl_RX11_40 lo_0 rfl ?_
                refine mm_getR 30 dX11_countOfOne_105 fl_RX11_337 lo_27 rfl ?_
                refine mm_iload_n 2 dX11_countOfOne_108 rfl ?_
                refine mm_iaload dX11_countOfOne_109 ?_
                refine mm_goto 124 dX11_countOfOne_110 rfl ?_
                exact mm_iret dX11_countOfOne_124 rfl
            · refine mm_aload_n 0 dX11_countOfOne_85 rfl ?_
              refine mm_getR 27 dX11_countOfOne_86 fl_RX11_40 lo_0 rfl ?_
              refine mm_getR 29 dX11_countOfOne_89 fl_RX11_334 lo_27 rfl ?_
              refine mm_iload_n 2 dX11_countOfOne_92 rfl ?_
              refine mm_iaload dX11_countOfOne_93 ?_
              exact mm_iret dX11_countOfOne_94 rfl
          · refine mm_aload_n 0 dX11_countOfOne_69 rfl ?_
            refine mm_getR 27 dX11_countOfOne_70 fl_RX11_40 lo_0 rfl ?_
            refine mm_getR 28 dX11_countOfOne_73 fl_RX11_331 lo_27 rfl ?_
            refine mm_iload_n 2 dX11_countOfOne_76 rfl ?_
            refine mm_iaload dX11_countOfOne_77 ?_
            exact mm_iret dX11_countOfOne_78 rfl
        · refine mm_iconst (v := (-1)) dX11_countOfOne_61 rfl ?_
          exact mm_iret dX11_countOfOne_62 rfl
      · refine mm_iload_n 2 dX11_countOfOne_25 rfl ?_
        refine mm_aload_n 0 dX11_countOfOne_26 rfl ?_
        refine mm_getR 22 dX11_countOfOne_27 fl_RX11_33 lo_0 rfl ?_
        refine mm_getI dX11_countOfOne_30 fl_RX11_127 lo_22 rfl ?_
        refine mm_icmp_ge 48 dX11_countOfOne_33 rfl ?_ ?_
        · refine mm_iconst (v := (-1)) dX11_countOfOne_48 rfl ?_
          exact mm_iret dX11_countOfOne_49 rfl
        · refine mm_aload_n 0 dX11_countOfOne_36 rfl ?_
          refine mm_getR 22 dX11_countOfOne_37 fl_RX11_33 lo_0 rfl ?_
          refine mm_getR 23 dX11_countOfOne_40 fl_RX11_131 lo_22 rfl ?_
          refine mm_iload_n 2 dX11_countOfOne_43 rfl ?_
          refine mm_iaload dX11_countOfOne_44 ?_
          refine mm_goto 49 dX11_countOfOne_45 rfl ?_
          exact mm_iret dX11_countOfOne_49 rfl
    · refine mm_iconst (v := (-1)) dX11_countOfOne_12 rfl ?_
      exact mm_iret dX11_countOfOne_13 rfl
def f_H_count (v1 : Int32) (M : mm_M) : Option (Int32 × mm_M) := if v1 = 0 then some (M.1 4 3, M) else if v1 = 1 then some (M.1 22 1, M) else if v1 = 2 then some (M.1 27 0, M) else if v1 = 3 then some (M.1 37 7, M) else if v1 = 4 then mm_bd (f_Tape_size M) fun r_1 M_2 => some (r_1, M_2) else if v1 = 5 then some (M.1 27 5, M) else mm_bd (f_H_countOfOne v1 M) fun r_3 M_4 => some (r_3, M_4)
set_option maxHeartbeats 4000000 in
theorem c_H_count (E : mm_E) (v1 : Int32) (M : mm_M) : ∀ (r : Int32) (M2 : mm_M), f_H_count v1 M = some (r, M2) → mm_P E Y_X11_count 5 [.ref 0, .int v1] M (some (.int r)) M2 := by
  refine mm_entry (em := (fun x : Int32 => some (.int x))) (by decide +kernel) (Nat.le_of_ble_eq_true rfl) ?_
  show mm_G _ E _ _ 0 [(0, .ref 0), (1, .int v1)] [] M _
  unfold f_H_count
  refine mm_iload_n 1 dX11_count_0 rfl ?_
  refine mm_tabC 0 40 dX11_count_1 (by decide) (by decide) rfl rfl ?_ (fun h0 => ?_)
  · refine mm_aload_n 0 dX11_count_40 rfl ?_
    refine mm_getR 4 dX11_count_41 fl_RX11_26 lo_0 rfl ?_
    refine mm_getI dX11_count_44 fl_RX11_322 lo_4 rfl ?_
    exact mm_iret dX11_count_47 rfl
  refine mm_tabC 1 48 dX11_count_1 (by decide) (by decide) rfl rfl ?_ (fun h1 => ?_)
  · refine mm_aload_n 0 dX11_count_48 rfl ?_
    refine mm_getR 22 dX11_count_49 fl_RX11_33 lo_0 rfl ?_
    refine mm_getI dX11_count_52 fl_RX11_127 lo_22 rfl ?_
    exact mm_iret dX11_count_55 rfl
  refine mm_tabC 2 56 dX11_count_1 (by decide) (by decide) rfl rfl ?_ (fun h2 => ?_)
  · refine mm_aload_n 0 dX11_count_56 rfl ?_
    refine mm_getR 27 dX11_count_57 fl_RX11_40 lo_0 rfl ?_
    refine mm_getI dX11_count_60 fl_RX11_164 lo_27 rfl ?_
    exact mm_iret dX11_count_63 rfl
  refine mm_tabC 3 64 dX11_count_1 (by decide) (by decide) rfl rfl ?_ (fun h3 => ?_)
  · refine mm_aload_n 0 dX11_count_64 rfl ?_
    refine mm_getR 37 dX11_count_65 fl_RX11_50 lo_0 rfl ?_
    refine mm_getI dX11_count_68 fl_RX11_325 lo_37 rfl ?_
    exact mm_iret dX11_count_71 rfl
  refine mm_tabC 4 72 dX11_count_1 (by decide) (by decide) rfl rfl ?_ (fun h4 => ?_)
  · refine mm_aload_n 0 dX11_count_72 rfl ?_
    refine mm_getR 1 dX11_count_73 fl_RX11_12 lo_0 rfl ?_
    refine mm_callVi (as := []) (st := []) (c_Tape_size E M) dX11_count_76 mz_X9_size lk_RX11_100 im_X9_size se_X9_size lo_1 rfl rfl rfl ⟨Nat.le_of_ble_eq_true rfl, Nat.le_of_ble_eq_true rfl⟩ (Nat.le_of_ble_eq_true rfl) (fun r_1 M_2 => ?_)
    exact mm_iret dX11_count_79 rfl
  refine mm_tabC 5 80 dX11_count_1 (by decide) (by decide) rfl rfl ?_ (fun h5 => ?_)
  · refine mm_aload_n 0 dX11_count_80 rfl ?_
    refine mm_getR 27 dX11_count_81 fl_RX11_40 lo_0 rfl ?_
    refine mm_getI dX11_count_84 fl_RX11_306 lo_27 rfl ?_
    exact mm_iret dX11_count_87 rfl
  refine mm_tabD 88 dX11_count_1 ?_ rfl ?_
  · have := lv_neT (a := 0) h0 (by decide); have := lv_neT (a := 1) h1 (by decide); have := lv_neT (a := 2) h2 (by decide); have := lv_neT (a := 3) h3 (by decide); have := lv_neT (a := 4) h4 (by decide); have := lv_neT (a := 5) h5 (by decide)
    omega
  refine mm_aload_n 0 dX11_count_88 rfl ?_
  refine mm_iload_n 1 dX11_count_89 rfl ?_
  refine mm_callVi (as := [.int v1]) (st := []) (c_H_countOfOne E v1 M) dX11_count_90 mz_X11_countOfOne lk_RX11_328 im_X11_countOfOne se_X11_countOfOne lo_0 rfl rfl rfl ⟨Nat.le_of_ble_eq_true rfl, Nat.le_of_ble_eq_true rfl⟩ (Nat.le_of_ble_eq_true rfl) (fun r_3 M_4 => ?_)
  exact mm_iret dX11_count_93 rfl
