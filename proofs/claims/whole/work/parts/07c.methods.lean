def lp_Load_begin_23 (k82 : mm_M → Option (Unit × mm_M)) : Nat → Int32 → mm_M → Option (Unit × mm_M)
  | 0, _, _ => none
  | n + 1, v1, M => if 10 ≤ v1 then k82 M else mm_bd (f_Register_has_5 v1 M) fun b_6 M_7 => mm_jn (fun (v1 : Int32) (M_8 : mm_M) => mm_let (v1 + 1) fun v1_9 => lp_Load_begin_23 k82 n v1_9 M_8) fun j76 => if b_6 = true then if mm_in v1 (mm_al 37) = true then if mm_in (M_7.2.1 37 v1.toNatClampNeg) (mm_al 33) = true then mm_bd (f_Load_setFloor v1 (M_7.2.1 33 (M_7.2.1 37 v1.toNatClampNeg).toNatClampNeg) M_7) fun u_10 M_11 => if mm_in v1 (mm_al 40) = true then mm_bd (f_Load_setShift v1 (M_11.2.1 40 v1.toNatClampNeg) M_11) fun u_12 M_13 => j76 v1 M_13 else none else none else none else j76 v1 M_7
set_option maxHeartbeats 4000000 in
theorem lp_Load_begin_23_ok (E : mm_E) {k82 : mm_M → Option (Unit × mm_M)} (hk82 : ∀ (M : mm_M), mm_G (fun _ : Unit => none) E Y_X5_begin 4 82 [] [] M (k82 M)) : ∀ (n : Nat) (v1 : Int32) (M : mm_M), mm_G (fun _ : Unit => none) E Y_X5_begin 4 23 [(0, .ref 10), (1, .int v1)] [] M (lp_Load_begin_23 k82 n v1 M) := by
  intro n
  induction n with
  | zero => intro v1 M r M2 he; cases he
  | succ n ih =>
    intro v1 M
    rw [lp_Load_begin_23]
    refine mm_iload_n 1 dX5_begin_23 rfl ?_
    refine mm_bipush (v := 10) dX5_begin_24 rfl ?_
    refine mm_icmp_ge 82 dX5_begin_26 rfl ?_ ?_
    · refine mm_wk [] rfl ?_
      exact hk82  M
    · refine mm_aload_n 0 dX5_begin_29 rfl ?_
      refine mm_getR 5 dX5_begin_30 fl_RX5_30 lo_10 rfl ?_
      refine mm_iload_n 1 dX5_begin_33 rfl ?_
      refine mm_callVz (as := [.int v1]) (st := []) (c_Register_has_5 E v1 M) dX5_begin_34 mz_X7_has lk_RX5_48 im_X7_has se_X7_has lo_5 rfl rfl rfl ⟨Nat.le_of_ble_eq_true rfl, Nat.le_of_ble_eq_true rfl⟩ (Nat.le_of_ble_eq_true rfl) (fun b_6 M_7 => ?_)
      refine mm_jnP (P := fun j => ∀ (v1 : Int32) (M : mm_M), mm_G (fun _ : Unit => none) E Y_X5_begin 4 76 [(0, .ref 10), (1, .int v1)] [] M (j v1 M)) ?_ (fun j76 hj76 => ?_)
      · intro v1 M_8
        refine mm_iincN 1 [1, 0] (v := v1 + 1) (lv2 := fun v1_9 => [(0, .ref 10), (1, .int v1_9)]) dX5_begin_76 rfl rfl (by decide) (fun _ => rfl) (fun v1_9 => ?_)
        refine mm_goto 23 dX5_begin_79 rfl ?_
        exact ih v1_9 M_8
      refine mm_if_eq_b 76 dX5_begin_37 rfl ?_ ?_
      · exact hj76 v1 M_7
      · refine mm_aload_n 0 dX5_begin_40 rfl ?_
        refine mm_iload_n 1 dX5_begin_41 rfl ?_
        refine mm_aload_n 0 dX5_begin_42 rfl ?_
        refine mm_getR 4 dX5_begin_43 fl_RX5_26 lo_10 rfl ?_
        refine mm_getR 33 dX5_begin_46 fl_RX5_54 lo_4 rfl ?_
        refine mm_aload_n 0 dX5_begin_49 rfl ?_
        refine mm_getR 5 dX5_begin_50 fl_RX5_30 lo_10 rfl ?_
        refine mm_getR 37 dX5_begin_53 fl_RX5_57 lo_5 rfl ?_
        refine mm_iload_n 1 dX5_begin_56 rfl ?_
        refine mm_iaload dX5_begin_57 ?_
        refine mm_iaload dX5_begin_58 ?_
        refine mm_callVv (as := [.int v1, .int (M_7.2.1 33 (M_7.2.1 37 v1.toNatClampNeg).toNatClampNeg)]) (st := []) (c_Load_setFloor E v1 (M_7.2.1 33 (M_7.2.1 37 v1.toNatClampNeg).toNatClampNeg) M_7) dX5_begin_59 mz_X5_setFloor lk_RX5_60 im_X5_setFloor se_X5_setFloor lo_10 rfl rfl rfl ⟨Nat.le_of_ble_eq_true rfl, Nat.le_of_ble_eq_true rfl⟩ (Nat.le_of_ble_eq_true rfl) (fun u_10 M_11 => ?_)
        refine mm_aload_n 0 dX5_begin_62 rfl ?_
        refine mm_iload_n 1 dX5_begin_63 rfl ?_
        refine mm_aload_n 0 dX5_begin_64 rfl ?_
        refine mm_getR 5 dX5_begin_65 fl_RX5_30 lo_10 rfl ?_
        refine mm_getR 40 dX5_begin_68 fl_RX5_64 lo_5 rfl ?_
        refine mm_iload_n 1 dX5_begin_71 rfl ?_
        refine mm_iaload dX5_begin_72 ?_
        refine mm_callVv (as := [.int v1, .int (M_11.2.1 40 v1.toNatClampNeg)]) (st := []) (c_Load_setShift E v1 (M_11.2.1 40 v1.toNatClampNeg) M_11) dX5_begin_73 mz_X5_setShift lk_RX5_67 im_X5_setShift se_X5_setShift lo_10 rfl rfl rfl ⟨Nat.le_of_ble_eq_true rfl, Nat.le_of_ble_eq_true rfl⟩ (Nat.le_of_ble_eq_true rfl) (fun u_12 M_13 => ?_)
        exact hj76 v1 M_13
def f_Load_begin (M : mm_M) : Option (Unit × mm_M) := mm_let (mm_setI M 10 7 0) fun M_1 => mm_bd (f_Arrays_fill_73 0 M_1) fun u_2 M_3 => mm_bd (f_Arrays_fill_74 0 M_3) fun u_4 M_5 => lp_Load_begin_23 (fun (M_14 : mm_M) => some ((), M_14)) mm_fu 0 M_5
set_option maxHeartbeats 4000000 in
theorem c_Load_begin (E : mm_E) (M : mm_M) : ∀ (r : Unit) (M2 : mm_M), f_Load_begin M = some (r, M2) → mm_P E Y_X5_begin 4 [.ref 10] M none M2 := by
  refine mm_entry (em := (fun _ : Unit => none)) (by decide +kernel) (Nat.le_of_ble_eq_true rfl) ?_
  show mm_G _ E _ _ 0 [(0, .ref 10)] [] M _
  unfold f_Load_begin
  refine mm_aload_n 0 dX5_begin_0 rfl ?_
  refine mm_iconst (v := 0) dX5_begin_1 rfl ?_
  refine mm_putI dX5_begin_2 fp_RX5_38 lo_10 rfl ?_
  refine mm_nm_M (fun M_1 => ?_)
  refine mm_aload_n 0 dX5_begin_5 rfl ?_
  refine mm_getR 73 dX5_begin_6 fl_RX5_20 lo_10 rfl ?_
  refine mm_iconst (v := 0) dX5_begin_9 rfl ?_
  refine mm_callSv (as := [.ref 73, .int 0]) (st := []) (c_Arrays_fill_73 E 0 M_1) dX5_begin_10 mz_J7_fill_53178 lk_RX5_42 sm_J7_fill_53178 rfl ⟨Nat.le_of_ble_eq_true rfl, Nat.le_of_ble_eq_true rfl⟩ (Nat.le_of_ble_eq_true rfl) (fun u_2 M_3 => ?_)
  refine mm_aload_n 0 dX5_begin_13 rfl ?_
  refine mm_getR 74 dX5_begin_14 fl_RX5_23 lo_10 rfl ?_
  refine mm_iconst (v := 0) dX5_begin_17 rfl ?_
  refine mm_callSv (as := [.ref 74, .int 0]) (st := []) (c_Arrays_fill_74 E 0 M_3) dX5_begin_18 mz_J7_fill_53178 lk_RX5_42 sm_J7_fill_53178 rfl ⟨Nat.le_of_ble_eq_true rfl, Nat.le_of_ble_eq_true rfl⟩ (Nat.le_of_ble_eq_true rfl) (fun u_4 M_5 => ?_)
  refine mm_iconst (v := 0) dX5_begin_21 rfl ?_
  refine mm_istore_n [1, 0] (lv2 := [(0, .ref 10), (1, .int 0)]) dX5_begin_22 (by decide) rfl ?_
  refine lp_Load_begin_23_ok E ?_ mm_fu 0 M_5
  · intro M_14
    exact mm_vret dX5_begin_82 rfl
def lp_Load_change_21 (v2 : Int32) (v3 : Nat) (v4 : Int32) (k50 : mm_M → Option (Unit × mm_M)) : Nat → Int32 → mm_M → Option (Unit × mm_M)
  | 0, _, _ => none
  | n + 1, v5, M => if 72 ≤ v5 then k50 M else if mm_in v5 (mm_al 73) = true then if mm_in v5 (mm_al v3) = true then if mm_in v5 (mm_al 73) = true then mm_let (mm_setA M 73 (v5.toNatClampNeg) ((M.2.1 73 v5.toNatClampNeg) + (v2 * (M.2.1 v3 v5.toNatClampNeg)))) fun M_2 => mm_let (v5 + 1) fun v5_3 => lp_Load_change_21 v2 v3 v4 k50 n v5_3 M_2 else none else none else none
set_option maxHeartbeats 4000000 in
theorem lp_Load_change_21_ok (E : mm_E) (v2 : Int32) (v3 : Nat) (v4 : Int32) {k50 : mm_M → Option (Unit × mm_M)} (hk50 : ∀ (M : mm_M), mm_G (fun _ : Unit => none) E Y_X5_change 1 50 [(0, .ref 10), (2, .int v2), (3, .ref v3), (4, .int v4)] [] M (k50 M)) : ∀ (n : Nat) (v5 : Int32) (M : mm_M), mm_G (fun _ : Unit => none) E Y_X5_change 1 21 [(0, .ref 10), (2, .int v2), (3, .ref v3), (4, .int v4), (5, .int v5)] [] M (lp_Load_change_21 v2 v3 v4 k50 n v5 M) := by
  intro n
  induction n with
  | zero => intro v5 M r M2 he; cases he
  | succ n ih =>
    intro v5 M
    rw [lp_Load_change_21]
    refine mm_iload 4 dX5_change_21 rfl ?_
    refine mm_bipush (v := 72) dX5_change_23 rfl ?_
    refine mm_icmp_ge 50 dX5_change_25 rfl ?_ ?_
    · refine mm_wk [0, 1, 2, 3] rfl ?_
      exact hk50  M
    · refine mm_aload_n 0 dX5_change_28 rfl ?_
      refine mm_getR 73 dX5_change_29 fl_RX5_20 lo_10 rfl ?_
      refine mm_iload 4 dX5_change_32 rfl ?_
      refine mm_dup2 dX5_change_34 rfl rfl ?_
      refine mm_iaload dX5_change_35 ?_
      refine mm_iload_n 1 dX5_change_36 rfl ?_
      refine mm_aload_n 2 dX5_change_37 rfl ?_
      refine mm_iload 4 dX5_change_38 rfl ?_
      refine mm_iaload dX5_change_40 ?_
      refine mm_imul dX5_change_41 ?_
      refine mm_iadd dX5_change_42 ?_
      refine mm_iastore dX5_change_43 ?_
      refine mm_nm_M (fun M_2 => ?_)
      refine mm_iincN 4 [1, 2, 3, 4, 0] (v := v5 + 1) (lv2 := fun v5_3 => [(0, .ref 10), (2, .int v2), (3, .ref v3), (4, .int v4), (5, .int v5_3)]) dX5_change_44 rfl rfl (by decide) (fun _ => rfl) (fun v5_3 => ?_)
      refine mm_goto 21 dX5_change_47 rfl ?_
      exact ih v5_3 M_2
def lp_Load_change_53 (v2 : Int32) (v3 : Nat) (v4 : Int32) (k85 : mm_M → Option (Unit × mm_M)) : Nat → Int32 → mm_M → Option (Unit × mm_M)
  | 0, _, _ => none
  | n + 1, v5, M => if 24 ≤ v5 then k85 M else mm_let (v4 + v5) fun t_5 => if mm_in t_5 (mm_al 74) = true then if mm_in v5 (mm_al v3) = true then if mm_in t_5 (mm_al 74) = true then mm_let (mm_setA M 74 (t_5.toNatClampNeg) ((M.2.1 74 t_5.toNatClampNeg) + (v2 * (M.2.1 v3 v5.toNatClampNeg)))) fun M_6 => mm_let (v5 + 1) fun v5_7 => lp_Load_change_53 v2 v3 v4 k85 n v5_7 M_6 else none else none else none
set_option maxHeartbeats 4000000 in
theorem lp_Load_change_53_ok (E : mm_E) (v2 : Int32) (v3 : Nat) (v4 : Int32) {k85 : mm_M → Option (Unit × mm_M)} (hk85 : ∀ (M : mm_M), mm_G (fun _ : Unit => none) E Y_X5_change 1 85 [] [] M (k85 M)) : ∀ (n : Nat) (v5 : Int32) (M : mm_M), mm_G (fun _ : Unit => none) E Y_X5_change 1 53 [(0, .ref 10), (2, .int v2), (3, .ref v3), (4, .int v4), (5, .int v5)] [] M (lp_Load_change_53 v2 v3 v4 k85 n v5 M) := by
  intro n
  induction n with
  | zero => intro v5 M r M2 he; cases he
  | succ n ih =>
    intro v5 M
    rw [lp_Load_change_53]
    refine mm_iload 4 dX5_change_53 rfl ?_
    refine mm_bipush (v := 24) dX5_change_55 rfl ?_
    refine mm_icmp_ge 85 dX5_change_57 rfl ?_ ?_
    · refine mm_wk [] rfl ?_
      exact hk85  M
    · refine mm_aload_n 0 dX5_change_60 rfl ?_
      refine mm_getR 74 dX5_change_61 fl_RX5_23 lo_10 rfl ?_
      refine mm_iload 3 dX5_change_64 rfl ?_
      refine mm_iload 4 dX5_change_66 rfl ?_
      refine mm_iadd dX5_change_68 ?_
      refine mm_nm_int (fun t_5 => ?_)
      refine mm_dup2 dX5_change_69 rfl rfl ?_
      refine mm_iaload dX5_change_70 ?_
      refine mm_iload_n 1 dX5_change_71 rfl ?_
      refine mm_aload_n 2 dX5_change_72 rfl ?_
      refine mm_iload 4 dX5_change_73 rfl ?_
      refine mm_iaload dX5_change_75 ?_
      refine mm_imul dX5_change_76 ?_
      refine mm_iadd dX5_change_77 ?_
      refine mm_iastore dX5_change_78 ?_
      refine mm_nm_M (fun M_6 => ?_)
      refine mm_iincN 4 [1, 2, 3, 4, 0] (v := v5 + 1) (lv2 := fun v5_7 => [(0, .ref 10), (2, .int v2), (3, .ref v3), (4, .int v4), (5, .int v5_7)]) dX5_change_79 rfl rfl (by decide) (fun _ => rfl) (fun v5_7 => ?_)
      refine mm_goto 53 dX5_change_82 rfl ?_
      exact ih v5_7 M_6
def f_Load_change (v1 : Int32) (v2 : Int32) (M : mm_M) : Option (Unit × mm_M) := if mm_in v1 10 = true then if mm_in v1 (mm_al 72) = true then mm_let ((M.2.1 72 v1.toNatClampNeg) * 24) fun v4_1 => lp_Load_change_21 v2 (62 + v1.toNatClampNeg) v4_1 (fun (M_4 : mm_M) => lp_Load_change_53 v2 ((62 + v1.toNatClampNeg)) v4_1 (fun (M_8 : mm_M) => some ((), M_8)) mm_fu 0 M_4) mm_fu 0 M else none else none
set_option maxHeartbeats 4000000 in
theorem c_Load_change (E : mm_E) (v1 : Int32) (v2 : Int32) (M : mm_M) : ∀ (r : Unit) (M2 : mm_M), f_Load_change v1 v2 M = some (r, M2) → mm_P E Y_X5_change 1 [.ref 10, .int v1, .int v2] M none M2 := by
  refine mm_entry (em := (fun _ : Unit => none)) (by decide +kernel) (Nat.le_of_ble_eq_true rfl) ?_
  show mm_G _ E _ _ 0 [(0, .ref 10), (1, .int v1), (2, .int v2)] [] M _
  unfold f_Load_change
  refine mm_aload_n 0 dX5_change_0 rfl ?_
  refine mm_getR 61 dX5_change_1 fl_RX5_11 lo_10 rfl ?_
  refine mm_iload_n 1 dX5_change_4 rfl ?_
  refine mm_aaload dX5_change_5 lo_61 ?_
  refine mm_astore_n [1, 2, 3, 0] (lv2 := [(0, .ref 10), (1, .int v1), (2, .int v2), (3, .ref (62 + v1.toNatClampNeg))]) dX5_change_6 (by decide) rfl ?_
  refine mm_aload_n 0 dX5_change_7 rfl ?_
  refine mm_getR 72 dX5_change_8 fl_RX5_16 lo_10 rfl ?_
  refine mm_iload_n 1 dX5_change_11 rfl ?_
  refine mm_iaload dX5_change_12 ?_
  refine mm_bipush (v := 24) dX5_change_13 rfl ?_
  refine mm_imul dX5_change_15 ?_
  refine mm_nm_int (fun v4_1 => ?_)
  refine mm_istore [1, 2, 3, 4, 0] (lv2 := [(0, .ref 10), (1, .int v1), (2, .int v2), (3, .ref (62 + v1.toNatClampNeg)), (4, .int v4_1)]) dX5_change_16 (by decide) rfl ?_
  refine mm_iconst (v := 0) dX5_change_18 rfl ?_
  refine mm_istore [1, 2, 3, 4, 5, 0] (lv2 := [(0, .ref 10), (1, .int v1), (2, .int v2), (3, .ref (62 + v1.toNatClampNeg)), (4, .int v4_1), (5, .int 0)]) dX5_change_19 (by decide) rfl ?_
  refine mm_wk [0, 2, 3, 4, 5] rfl ?_
  refine lp_Load_change_21_ok E v2 (62 + v1.toNatClampNeg) v4_1 ?_ mm_fu 0 M
  · intro M_4
    refine mm_iconst (v := 0) dX5_change_50 rfl ?_
    refine mm_istore [1, 2, 3, 4, 0] (lv2 := [(0, .ref 10), (2, .int v2), (3, .ref ((62 + v1.toNatClampNeg))), (4, .int v4_1), (5, .int 0)]) dX5_change_51 (by decide) rfl ?_
    refine lp_Load_change_53_ok E v2 ((62 + v1.toNatClampNeg)) v4_1 ?_ mm_fu 0 M_4
    · intro M_8
      exact mm_vret dX5_change_85 rfl
def lp_Load_turnTo_9 (v1 : Int32) (v2 : Int32) (k47 : mm_M → Option (Unit × mm_M)) : Nat → Int32 → mm_M → Option (Unit × mm_M)
  | 0, _, _ => none
  | n + 1, v3, M => if 10 ≤ v3 then k47 M else mm_bd (f_H_isIn v2 v3 M) fun b_2 M_3 => mm_jn (fun (v3 : Int32) (M_4 : mm_M) => mm_let (v3 + 1) fun v3_5 => lp_Load_turnTo_9 v1 v2 k47 n v3_5 M_4) fun j41 => if b_2 = true then mm_bd (f_H_isIn v1 v3 M_3) fun b_6 M_7 => mm_jn (fun (v3 : Int32) (s1 : Int32) (s2 : Int32) (M_8 : mm_M) => mm_bd (f_Load_change s1 s2 M_8) fun u_9 M_10 => j41 v3 M_10) fun j38 => if b_6 = true then j38 v3 v3 1 M_7 else j38 v3 v3 (-1) M_7 else j41 v3 M_3
set_option maxHeartbeats 4000000 in
theorem lp_Load_turnTo_9_ok (E : mm_E) (v1 : Int32) (v2 : Int32) {k47 : mm_M → Option (Unit × mm_M)} (hk47 : ∀ (M : mm_M), mm_G (fun _ : Unit => none) E Y_X5_turnTo 3 47 [(0, .ref 10), (1, .int v1)] [] M (k47 M)) : ∀ (n : Nat) (v3 : Int32) (M : mm_M), mm_G (fun _ : Unit => none) E Y_X5_turnTo 3 9 [(0, .ref 10), (1, .int v1), (2, .int v2), (3, .int v3)] [] M (lp_Load_turnTo_9 v1 v2 k47 n v3 M) := by
  intro n
  induction n with
  | zero => intro v3 M r M2 he; cases he
  | succ n ih =>
    intro v3 M
    rw [lp_Load_turnTo_9]
    refine mm_iload_n 3 dX5_turnTo_9 rfl ?_
    refine mm_bipush (v := 10) dX5_turnTo_10 rfl ?_
    refine mm_icmp_ge 47 dX5_turnTo_12 rfl ?_ ?_
    · refine mm_wk [0, 1] rfl ?_
      exact hk47  M
    · refine mm_iload_n 2 dX5_turnTo_15 rfl ?_
      refine mm_iload_n 3 dX5_turnTo_16 rfl ?_
      refine mm_callSNz (as := [.int v2, .int v3]) (st := []) (c_H_isIn E v2 v3 M) dX5_turnTo_17 mz_X11_isIn lk_RX5_85 sm_X11_isIn rfl ⟨Nat.le_of_ble_eq_true rfl, Nat.le_of_ble_eq_true rfl⟩ (Nat.le_of_ble_eq_true rfl) (fun b_2 M_3 => ?_)
      refine mm_jnP (P := fun j => ∀ (v3 : Int32) (M : mm_M), mm_G (fun _ : Unit => none) E Y_X5_turnTo 3 41 [(0, .ref 10), (1, .int v1), (2, .int v2), (3, .int v3)] [] M (j v3 M)) ?_ (fun j41 hj41 => ?_)
      · intro v3 M_4
        refine mm_iincN 3 [1, 2, 3, 0] (v := v3 + 1) (lv2 := fun v3_5 => [(0, .ref 10), (1, .int v1), (2, .int v2), (3, .int v3_5)]) dX5_turnTo_41 rfl rfl (by decide) (fun _ => rfl) (fun v3_5 => ?_)
        refine mm_goto 9 dX5_turnTo_44 rfl ?_
        exact ih v3_5 M_4
      refine mm_if_eq_b 41 dX5_turnTo_20 rfl ?_ ?_
      · exact hj41 v3 M_3
      · refine mm_aload_n 0 dX5_turnTo_23 rfl ?_
        refine mm_iload_n 3 dX5_turnTo_24 rfl ?_
        refine mm_iload_n 1 dX5_turnTo_25 rfl ?_
        refine mm_iload_n 3 dX5_turnTo_26 rfl ?_
        refine mm_callSNz (as := [.int v1, .int v3]) (st := [.int v3, .ref 10]) (c_H_isIn E v1 v3 M_3) dX5_turnTo_27 mz_X11_isIn lk_RX5_85 sm_X11_isIn rfl ⟨Nat.le_of_ble_eq_true rfl, Nat.le_of_ble_eq_true rfl⟩ (Nat.le_of_ble_eq_true rfl) (fun b_6 M_7 => ?_)
        refine mm_jnP (P := fun j => ∀ (v3 : Int32) (s1 : Int32) (s2 : Int32) (M : mm_M), mm_G (fun _ : Unit => none) E Y_X5_turnTo 3 38 [(0, .ref 10), (1, .int v1), (2, .int v2), (3, .int v3)] [.int s2, .int s1, .ref 10] M (j v3 s1 s2 M)) ?_ (fun j38 hj38 => ?_)
        · intro v3 s1 s2 M_8
          refine mm_callVv (as := [.int s1, .int s2]) (st := []) (c_Load_change E s1 s2 M_8) dX5_turnTo_38 mz_X5_change lk_RX5_89 im_X5_change se_X5_change lo_10 rfl rfl rfl ⟨Nat.le_of_ble_eq_true rfl, Nat.le_of_ble_eq_true rfl⟩ (Nat.le_of_ble_eq_true rfl) (fun u_9 M_10 => ?_)
          exact hj41 v3 M_10
        refine mm_if_eq_b 37 dX5_turnTo_30 rfl ?_ ?_
        · refine mm_iconst (v := (-1)) dX5_turnTo_37 rfl ?_
          exact hj38 v3 v3 (-1) M_7
        · refine mm_iconst (v := 1) dX5_turnTo_33 rfl ?_
          refine mm_goto 38 dX5_turnTo_34 rfl ?_
          exact hj38 v3 v3 1 M_7
def f_Load_turnTo (v1 : Int32) (M : mm_M) : Option (Unit × mm_M) := mm_let ((M.1 10 7) ^^^ v1) fun v2_1 => lp_Load_turnTo_9 v1 v2_1 (fun (M_11 : mm_M) => mm_let (mm_setI M_11 10 7 v1) fun M_12 => some ((), M_12)) mm_fu 0 M
set_option maxHeartbeats 4000000 in
theorem c_Load_turnTo (E : mm_E) (v1 : Int32) (M : mm_M) : ∀ (r : Unit) (M2 : mm_M), f_Load_turnTo v1 M = some (r, M2) → mm_P E Y_X5_turnTo 3 [.ref 10, .int v1] M none M2 := by
  refine mm_entry (em := (fun _ : Unit => none)) (by decide +kernel) (Nat.le_of_ble_eq_true rfl) ?_
  show mm_G _ E _ _ 0 [(0, .ref 10), (1, .int v1)] [] M _
  unfold f_Load_turnTo
  refine mm_aload_n 0 dX5_turnTo_0 rfl ?_
  refine mm_getI dX5_turnTo_1 fl_RX5_38 lo_10 rfl ?_
  refine mm_iload_n 1 dX5_turnTo_4 rfl ?_
  refine mm_ixor dX5_turnTo_5 ?_
  refine mm_nm_int (fun v2_1 => ?_)
  refine mm_istore_n [1, 2, 0] (lv2 := [(0, .ref 10), (1, .int v1), (2, .int v2_1)]) dX5_turnTo_6 (by decide) rfl ?_
  refine mm_iconst (v := 0) dX5_turnTo_7 rfl ?_
  refine mm_istore_n [1, 2, 3, 0] (lv2 := [(0, .ref 10), (1, .int v1), (2, .int v2_1), (3, .int 0)]) dX5_turnTo_8 (by decide) rfl ?_
  refine lp_Load_turnTo_9_ok E v1 v2_1 ?_ mm_fu 0 M
  · intro M_11
    refine mm_aload_n 0 dX5_turnTo_47 rfl ?_
    refine mm_iload_n 1 dX5_turnTo_48 rfl ?_
    refine mm_putI dX5_turnTo_49 fp_RX5_38 lo_10 rfl ?_
    refine mm_nm_M (fun M_12 => ?_)
    exact mm_vret dX5_turnTo_52 rfl
def f_H_wants (v1 : Int32) (v2 : Int32) (M : mm_M) : Option (Int32 × mm_M) := mm_bd (f_H_isBelow v1 3 M) fun b_1 M_2 => if b_1 = true then mm_bd (f_H_isBelow v2 24 M_2) fun b_3 M_4 => if b_3 = true then mm_bd (f_Load_begin M_4) fun u_5 M_6 => mm_bd (f_Load_turnTo (M_6.1 5 0) M_6) fun u_7 M_8 => if mm_in ((v1 * 24) + v2) (mm_al 73) = true then some (M_8.2.1 73 ((v1 * 24) + v2).toNatClampNeg, M_8) else none else some ((-1), M_4) else some ((-1), M_2)
set_option maxHeartbeats 4000000 in
theorem c_H_wants (E : mm_E) (v1 : Int32) (v2 : Int32) (M : mm_M) : ∀ (r : Int32) (M2 : mm_M), f_H_wants v1 v2 M = some (r, M2) → mm_P E Y_X11_wants 5 [.ref 0, .int v1, .int v2] M (some (.int r)) M2 := by
  refine mm_entry (em := (fun x : Int32 => some (.int x))) (by decide +kernel) (Nat.le_of_ble_eq_true rfl) ?_
  show mm_G _ E _ _ 0 [(0, .ref 0), (1, .int v1), (2, .int v2)] [] M _
  unfold f_H_wants
  refine mm_iload_n 1 dX11_wants_0 rfl ?_
  refine mm_iconst (v := 3) dX11_wants_1 rfl ?_
  refine mm_callSz (as := [.int v1, .int 3]) (st := []) (c_H_isBelow E v1 3 M) dX11_wants_2 mz_X11_isBelow lk_RX11_108 sm_X11_isBelow rfl ⟨Nat.le_of_ble_eq_true rfl, Nat.le_of_ble_eq_true rfl⟩ (Nat.le_of_ble_eq_true rfl) (fun b_1 M_2 => ?_)
  refine mm_if_eq_b 17 dX11_wants_5 rfl ?_ ?_
  · refine mm_iconst (v := (-1)) dX11_wants_17 rfl ?_
    exact mm_iret dX11_wants_18 rfl
  · refine mm_iload_n 2 dX11_wants_8 rfl ?_
    refine mm_bipush (v := 24) dX11_wants_9 rfl ?_
    refine mm_callSz (as := [.int v2, .int 24]) (st := []) (c_H_isBelow E v2 24 M_2) dX11_wants_11 mz_X11_isBelow lk_RX11_108 sm_X11_isBelow rfl ⟨Nat.le_of_ble_eq_true rfl, Nat.le_of_ble_eq_true rfl⟩ (Nat.le_of_ble_eq_true rfl) (fun b_3 M_4 => ?_)
    refine mm_if_ne_b 19 dX11_wants_14 rfl ?_ ?_
    · refine mm_aload_n 0 dX11_wants_19 rfl ?_
      refine mm_getR 10 dX11_wants_20 fl_RX11_71 lo_0 rfl ?_
      refine mm_callVv (as := []) (st := []) (c_Load_begin E M_4) dX11_wants_23 mz_X5_begin lk_RX11_177 im_X5_begin se_X5_begin lo_10 rfl rfl rfl ⟨Nat.le_of_ble_eq_true rfl, Nat.le_of_ble_eq_true rfl⟩ (Nat.le_of_ble_eq_true rfl) (fun u_5 M_6 => ?_)
      refine mm_aload_n 0 dX11_wants_26 rfl ?_
      refine mm_getR 10 dX11_wants_27 fl_RX11_71 lo_0 rfl ?_
      refine mm_aload_n 0 dX11_wants_30 rfl ?_
      refine mm_getR 5 dX11_wants_31 fl_RX11_40 lo_0 rfl ?_
      refine mm_getI dX11_wants_34 fl_RX11_164 lo_5 rfl ?_
      refine mm_callVv (as := [.int (M_6.1 5 0)]) (st := []) (c_Load_turnTo E (M_6.1 5 0) M_6) dX11_wants_37 mz_X5_turnTo lk_RX11_180 im_X5_turnTo se_X5_turnTo lo_10 rfl rfl rfl ⟨Nat.le_of_ble_eq_true rfl, Nat.le_of_ble_eq_true rfl⟩ (Nat.le_of_ble_eq_true rfl) (fun u_7 M_8 => ?_)
      refine mm_aload_n 0 dX11_wants_40 rfl ?_
      refine mm_getR 10 dX11_wants_41 fl_RX11_71 lo_0 rfl ?_
      refine mm_getR 73 dX11_wants_44 fl_RX11_183 lo_10 rfl ?_
      refine mm_iload_n 1 dX11_wants_47 rfl ?_
      refine mm_bipush (v := 24) dX11_wants_48 rfl ?_
      refine mm_imul dX11_wants_50 ?_
      refine mm_iload_n 2 dX11_wants_51 rfl ?_
      refine mm_iadd dX11_wants_52 ?_
      refine mm_iaload dX11_wants_53 ?_
      exact mm_iret dX11_wants_54 rfl
    · refine mm_iconst (v := (-1)) dX11_wants_17 rfl ?_
      exact mm_iret dX11_wants_18 rfl
def lp_Arrays_fill_87_5 (v1 : Int32) (v3 : Int32) (k20 : mm_M → Option (Unit × mm_M)) : Nat → Int32 → mm_M → Option (Unit × mm_M)
  | 0, _, _ => none
  | n + 1, v2, M => if v3 ≤ v2 then k20 M else if mm_in v2 (mm_al 87) = true then mm_let (mm_setA M 87 (v2.toNatClampNeg) v1) fun M_1 => mm_let (v2 + 1) fun v2_2 => lp_Arrays_fill_87_5 v1 v3 k20 n v2_2 M_1 else none
set_option maxHeartbeats 4000000 in
theorem lp_Arrays_fill_87_5_ok (E : mm_E) (v1 : Int32) (v3 : Int32) {k20 : mm_M → Option (Unit × mm_M)} (hk20 : ∀ (M : mm_M), mm_G (fun _ : Unit => none) E Y_J7_fill_53178 1 20 [] [] M (k20 M)) : ∀ (n : Nat) (v2 : Int32) (M : mm_M), mm_G (fun _ : Unit => none) E Y_J7_fill_53178 1 5 [(0, .ref 87), (1, .int v1), (2, .int v2), (3, .int v3)] [] M (lp_Arrays_fill_87_5 v1 v3 k20 n v2 M) := by
  intro n
  induction n with
  | zero => intro v2 M r M2 he; cases he
  | succ n ih =>
    intro v2 M
    rw [lp_Arrays_fill_87_5]
    refine mm_iload_n 2 dJ7_fill_53178_5 rfl ?_
    refine mm_iload_n 3 dJ7_fill_53178_6 rfl ?_
    refine mm_icmp_ge 20 dJ7_fill_53178_7 rfl ?_ ?_
    · refine mm_wk [] rfl ?_
      exact hk20  M
    · refine mm_aload_n 0 dJ7_fill_53178_10 rfl ?_
      refine mm_iload_n 2 dJ7_fill_53178_11 rfl ?_
      refine mm_iload_n 1 dJ7_fill_53178_12 rfl ?_
      refine mm_iastore dJ7_fill_53178_13 ?_
      refine mm_nm_M (fun M_1 => ?_)
      refine mm_iincN 2 [1, 2, 0, 3] (v := v2 + 1) (lv2 := fun v2_2 => [(0, .ref 87), (1, .int v1), (2, .int v2_2), (3, .int v3)]) dJ7_fill_53178_14 rfl rfl (by decide) (fun _ => rfl) (fun v2_2 => ?_)
      refine mm_goto 5 dJ7_fill_53178_17 rfl ?_
      exact ih v2_2 M_1
def f_Arrays_fill_87 (v1 : Int32) (M : mm_M) : Option (Unit × mm_M) := lp_Arrays_fill_87_5 v1 10 (fun (M_3 : mm_M) => some ((), M_3)) mm_fu 0 M
set_option maxHeartbeats 4000000 in
theorem c_Arrays_fill_87 (E : mm_E) (v1 : Int32) (M : mm_M) : ∀ (r : Unit) (M2 : mm_M), f_Arrays_fill_87 v1 M = some (r, M2) → mm_P E Y_J7_fill_53178 1 [.ref 87, .int v1] M none M2 := by
  refine mm_entry (em := (fun _ : Unit => none)) (by decide +kernel) (Nat.le_of_ble_eq_true rfl) ?_
  show mm_G _ E _ _ 0 [(0, .ref 87), (1, .int v1)] [] M _
  unfold f_Arrays_fill_87
  refine mm_iconst (v := 0) dJ7_fill_53178_0 rfl ?_
  refine mm_istore_n [1, 2, 0] (lv2 := [(0, .ref 87), (1, .int v1), (2, .int 0)]) dJ7_fill_53178_1 (by decide) rfl ?_
  refine mm_aload_n 0 dJ7_fill_53178_2 rfl ?_
  refine mm_alen (v := 10) dJ7_fill_53178_3 lo_87 rfl ?_
  refine mm_istore_n [1, 2, 3, 0] (lv2 := [(0, .ref 87), (1, .int v1), (2, .int 0), (3, .int 10)]) dJ7_fill_53178_4 (by decide) rfl ?_
  refine lp_Arrays_fill_87_5_ok E v1 10 ?_ mm_fu 0 M
  · intro M_3
    exact mm_vret dJ7_fill_53178_20 rfl
def f_House_afterInflow (v1 : Int32) (M : mm_M) : Option (Int32 × mm_M) := mm_bd (f_Math_min 9999 (v1 + (M.1 4 6)) M) fun r_1 M_2 => some (r_1, M_2)
set_option maxHeartbeats 4000000 in
theorem c_House_afterInflow (E : mm_E) (v1 : Int32) (M : mm_M) : ∀ (r : Int32) (M2 : mm_M), f_House_afterInflow v1 M = some (r, M2) → mm_P E Y_X2_afterInflow 2 [.ref 4, .int v1] M (some (.int r)) M2 := by
  refine mm_entry (em := (fun x : Int32 => some (.int x))) (by decide +kernel) (Nat.le_of_ble_eq_true rfl) ?_
  show mm_G _ E _ _ 0 [(0, .ref 4), (1, .int v1)] [] M _
  unfold f_House_afterInflow
  refine mm_sipush (v := 9999) dX2_afterInflow_0 rfl ?_
  refine mm_iload_n 1 dX2_afterInflow_3 rfl ?_
  refine mm_aload_n 0 dX2_afterInflow_4 rfl ?_
  refine mm_getI dX2_afterInflow_5 fl_RX2_34 lo_4 rfl ?_
  refine mm_iadd dX2_afterInflow_8 ?_
  refine mm_callSi (as := [.int 9999, .int (v1 + (M.1 4 6))]) (st := []) (c_Math_min E 9999 (v1 + (M.1 4 6)) M) dX2_afterInflow_9 mz_J9_min_7cf53 lk_RX2_37 sm_J9_min_7cf53 rfl ⟨Nat.le_of_ble_eq_true rfl, Nat.le_of_ble_eq_true rfl⟩ (Nat.le_of_ble_eq_true rfl) (fun r_1 M_2 => ?_)
  exact mm_iret dX2_afterInflow_12 rfl
def f_Law_askAbout_7_5_4 (v1 : Int32) (M : mm_M) : Option (Unit × mm_M) := if mm_in 0 (mm_al 51) = true then mm_let (mm_setA M 51 ((0 : Int32).toNatClampNeg) v1) fun M_1 => if mm_in v1 (mm_al 37) = true then if mm_in 1 (mm_al 51) = true then mm_let (mm_setA M_1 51 ((1 : Int32).toNatClampNeg) (M_1.2.1 37 v1.toNatClampNeg)) fun M_2 => if mm_in v1 (mm_al 37) = true then if mm_in (M_2.2.1 37 v1.toNatClampNeg) (mm_al 33) = true then if mm_in 2 (mm_al 51) = true then mm_let (mm_setA M_2 51 ((2 : Int32).toNatClampNeg) (M_2.2.1 33 (M_2.2.1 37 v1.toNatClampNeg).toNatClampNeg)) fun M_3 => if mm_in v1 (mm_al 38) = true then if mm_in 3 (mm_al 51) = true then mm_let (mm_setA M_3 51 ((3 : Int32).toNatClampNeg) (M_3.2.1 38 v1.toNatClampNeg)) fun M_4 => if mm_in v1 (mm_al 39) = true then if mm_in 4 (mm_al 51) = true then mm_let (mm_setA M_4 51 ((4 : Int32).toNatClampNeg) (M_4.2.1 39 v1.toNatClampNeg)) fun M_5 => some ((), M_5) else none else none else none else none else none else none else none else none else none else none
set_option maxHeartbeats 4000000 in
theorem c_Law_askAbout_7_5_4 (E : mm_E) (v1 : Int32) (M : mm_M) : ∀ (r : Unit) (M2 : mm_M), f_Law_askAbout_7_5_4 v1 M = some (r, M2) → mm_P E Y_X3_askAbout 1 [.ref 7, .int v1, .ref 5, .ref 4] M none M2 := by
  refine mm_entry (em := (fun _ : Unit => none)) (by decide +kernel) (Nat.le_of_ble_eq_true rfl) ?_
  show mm_G _ E _ _ 0 [(0, .ref 7), (1, .int v1), (2, .ref 5), (3, .ref 4)] [] M _
  unfold f_Law_askAbout_7_5_4
  refine mm_aload_n 0 dX3_askAbout_0 rfl ?_
  refine mm_getR 51 dX3_askAbout_1 fl_RX3_30 lo_7 rfl ?_
  refine mm_iconst (v := 0) dX3_askAbout_4 rfl ?_
  refine mm_iload_n 1 dX3_askAbout_5 rfl ?_
  refine mm_iastore dX3_askAbout_6 ?_
  refine mm_nm_M (fun M_1 => ?_)
  refine mm_aload_n 0 dX3_askAbout_7 rfl ?_
  refine mm_getR 51 dX3_askAbout_8 fl_RX3_30 lo_7 rfl ?_
  refine mm_iconst (v := 1) dX3_askAbout_11 rfl ?_
  refine mm_aload_n 2 dX3_askAbout_12 rfl ?_
  refine mm_getR 37 dX3_askAbout_13 fl_RX3_61 lo_5 rfl ?_
  refine mm_iload_n 1 dX3_askAbout_16 rfl ?_
  refine mm_iaload dX3_askAbout_17 ?_
  refine mm_iastore dX3_askAbout_18 ?_
  refine mm_nm_M (fun M_2 => ?_)
  refine mm_aload_n 0 dX3_askAbout_19 rfl ?_
  refine mm_getR 51 dX3_askAbout_20 fl_RX3_30 lo_7 rfl ?_
  refine mm_iconst (v := 2) dX3_askAbout_23 rfl ?_
  refine mm_aload_n 3 dX3_askAbout_24 rfl ?_
  refine mm_getR 33 dX3_askAbout_25 fl_RX3_66 lo_4 rfl ?_
  refine mm_aload_n 2 dX3_askAbout_28 rfl ?_
  refine mm_getR 37 dX3_askAbout_29 fl_RX3_61 lo_5 rfl ?_
  refine mm_iload_n 1 dX3_askAbout_32 rfl ?_
  refine mm_iaload dX3_askAbout_33 ?_
  refine mm_iaload dX3_askAbout_34 ?_
  refine mm_iastore dX3_askAbout_35 ?_
  refine mm_nm_M (fun M_3 => ?_)
  refine mm_aload_n 0 dX3_askAbout_36 rfl ?_
  refine mm_getR 51 dX3_askAbout_37 fl_RX3_30 lo_7 rfl ?_
  refine mm_iconst (v := 3) dX3_askAbout_40 rfl ?_
  refine mm_aload_n 2 dX3_askAbout_41 rfl ?_
  refine mm_getR 38 dX3_askAbout_42 fl_RX3_71 lo_5 rfl ?_
  refine mm_iload_n 1 dX3_askAbout_45 rfl ?_
  refine mm_iaload dX3_askAbout_46 ?_
  refine mm_iastore dX3_askAbout_47 ?_
  refine mm_nm_M (fun M_4 => ?_)
  refine mm_aload_n 0 dX3_askAbout_48 rfl ?_
  refine mm_getR 51 dX3_askAbout_49 fl_RX3_30 lo_7 rfl ?_
  refine mm_iconst (v := 4) dX3_askAbout_52 rfl ?_
  refine mm_aload_n 2 dX3_askAbout_53 rfl ?_
  refine mm_getR 39 dX3_askAbout_54 fl_RX3_74 lo_5 rfl ?_
  refine mm_iload_n 1 dX3_askAbout_57 rfl ?_
  refine mm_iaload dX3_askAbout_58 ?_
  refine mm_iastore dX3_askAbout_59 ?_
  refine mm_nm_M (fun M_5 => ?_)
  exact mm_vret dX3_askAbout_60 rfl
def f_Law_askAt_7 (v1 : Int32) (v2 : Int32) (v3 : Int32) (v4 : Int32) (M : mm_M) : Option (Unit × mm_M) := if mm_in 5 (mm_al 51) = true then mm_let (mm_setA M 51 ((5 : Int32).toNatClampNeg) v1) fun M_1 => if mm_in 6 (mm_al 51) = true then mm_let (mm_setA M_1 51 ((6 : Int32).toNatClampNeg) v2) fun M_2 => if mm_in 7 (mm_al 51) = true then mm_let (mm_setA M_2 51 ((7 : Int32).toNatClampNeg) v3) fun M_3 => if mm_in 8 (mm_al 51) = true then mm_let (mm_setA M_3 51 ((8 : Int32).toNatClampNeg) v4) fun M_4 => some ((), M_4) else none else none else none else none
set_option maxHeartbeats 4000000 in
theorem c_Law_askAt_7 (E : mm_E) (v1 : Int32) (v2 : Int32) (v3 : Int32) (v4 : Int32) (M : mm_M) : ∀ (r : Unit) (M2 : mm_M), f_Law_askAt_7 v1 v2 v3 v4 M = some (r, M2) → mm_P E Y_X3_askAt 1 [.ref 7, .int v1, .int v2, .int v3, .int v4] M none M2 := by
  refine mm_entry (em := (fun _ : Unit => none)) (by decide +kernel) (Nat.le_of_ble_eq_true rfl) ?_
  show mm_G _ E _ _ 0 [(0, .ref 7), (1, .int v1), (2, .int v2), (3, .int v3), (4, .int v4)] [] M _
  unfold f_Law_askAt_7
  refine mm_aload_n 0 dX3_askAt_0 rfl ?_
  refine mm_getR 51 dX3_askAt_1 fl_RX3_30 lo_7 rfl ?_
  refine mm_iconst (v := 5) dX3_askAt_4 rfl ?_
  refine mm_iload_n 1 dX3_askAt_5 rfl ?_
  refine mm_iastore dX3_askAt_6 ?_
  refine mm_nm_M (fun M_1 => ?_)
  refine mm_aload_n 0 dX3_askAt_7 rfl ?_
  refine mm_getR 51 dX3_askAt_8 fl_RX3_30 lo_7 rfl ?_
  refine mm_bipush (v := 6) dX3_askAt_11 rfl ?_
  refine mm_iload_n 2 dX3_askAt_13 rfl ?_
  refine mm_iastore dX3_askAt_14 ?_
  refine mm_nm_M (fun M_2 => ?_)
  refine mm_aload_n 0 dX3_askAt_15 rfl ?_
  refine mm_getR 51 dX3_askAt_16 fl_RX3_30 lo_7 rfl ?_
  refine mm_bipush (v := 7) dX3_askAt_19 rfl ?_
  refine mm_iload_n 3 dX3_askAt_21 rfl ?_
  refine mm_iastore dX3_askAt_22 ?_
  refine mm_nm_M (fun M_3 => ?_)
  refine mm_aload_n 0 dX3_askAt_23 rfl ?_
  refine mm_getR 51 dX3_askAt_24 fl_RX3_30 lo_7 rfl ?_
  refine mm_bipush (v := 8) dX3_askAt_27 rfl ?_
  refine mm_iload 4 dX3_askAt_29 rfl ?_
  refine mm_iastore dX3_askAt_31 ?_
  refine mm_nm_M (fun M_4 => ?_)
  exact mm_vret dX3_askAt_32 rfl
def f_Law_pop_7 (M : mm_M) : Option (Int32 × mm_M) := if 1 ≤ M.1 7 10 then mm_let (mm_setI M 7 10 ((M.1 7 10) - 1)) fun M_1 => if mm_in (M_1.1 7 10) (mm_al 52) = true then some (M_1.2.1 52 (M_1.1 7 10).toNatClampNeg, M_1) else none else some (0, M)
set_option maxHeartbeats 4000000 in
theorem c_Law_pop_7 (E : mm_E) (M : mm_M) : ∀ (r : Int32) (M2 : mm_M), f_Law_pop_7 M = some (r, M2) → mm_P E Y_X3_pop 1 [.ref 7] M (some (.int r)) M2 := by
  refine mm_entry (em := (fun x : Int32 => some (.int x))) (by decide +kernel) (Nat.le_of_ble_eq_true rfl) ?_
  show mm_G _ E _ _ 0 [(0, .ref 7)] [] M _
  unfold f_Law_pop_7
  refine mm_aload_n 0 dX3_pop_0 rfl ?_
  refine mm_getI dX3_pop_1 fl_RX3_89 lo_7 rfl ?_
  refine mm_iconst (v := 1) dX3_pop_4 rfl ?_
  refine mm_icmp_ge 10 dX3_pop_5 rfl ?_ ?_
  · refine mm_aload_n 0 dX3_pop_10 rfl ?_
    refine mm_dup dX3_pop_11 rfl ?_
    refine mm_getI dX3_pop_12 fl_RX3_89 lo_7 rfl ?_
    refine mm_iconst (v := 1) dX3_pop_15 rfl ?_
    refine mm_isub dX3_pop_16 ?_
    refine mm_putI dX3_pop_17 fp_RX3_89 lo_7 rfl ?_
    refine mm_nm_M (fun M_1 => ?_)
    refine mm_aload_n 0 dX3_pop_20 rfl ?_
    refine mm_getR 52 dX3_pop_21 fl_RX3_33 lo_7 rfl ?_
    refine mm_aload_n 0 dX3_pop_24 rfl ?_
    refine mm_getI dX3_pop_25 fl_RX3_89 lo_7 rfl ?_
    refine mm_iaload dX3_pop_28 ?_
    exact mm_iret dX3_pop_29 rfl
  · refine mm_iconst (v := 0) dX3_pop_8 rfl ?_
    exact mm_iret dX3_pop_9 rfl
def f_Law_push_7 (v1 : Int32) (M : mm_M) : Option (Unit × mm_M) := if 160 ≤ M.1 7 10 then some ((), M) else if mm_in (M.1 7 10) (mm_al 52) = true then mm_let (mm_setA M 52 ((M.1 7 10).toNatClampNeg) v1) fun M_1 => mm_let (mm_setI M_1 7 10 ((M_1.1 7 10) + 1)) fun M_2 => some ((), M_2) else none
set_option maxHeartbeats 4000000 in
theorem c_Law_push_7 (E : mm_E) (v1 : Int32) (M : mm_M) : ∀ (r : Unit) (M2 : mm_M), f_Law_push_7 v1 M = some (r, M2) → mm_P E Y_X3_push 1 [.ref 7, .int v1] M none M2 := by
  refine mm_entry (em := (fun _ : Unit => none)) (by decide +kernel) (Nat.le_of_ble_eq_true rfl) ?_
  show mm_G _ E _ _ 0 [(0, .ref 7), (1, .int v1)] [] M _
  unfold f_Law_push_7
  refine mm_aload_n 0 dX3_push_0 rfl ?_
  refine mm_getI dX3_push_1 fl_RX3_89 lo_7 rfl ?_
  refine mm_aload_n 0 dX3_push_4 rfl ?_
  refine mm_getR 52 dX3_push_5 fl_RX3_33 lo_7 rfl ?_
  refine mm_alen (v := 160) dX3_push_8 lo_52 rfl ?_
  refine mm_icmp_ge 32 dX3_push_9 rfl ?_ ?_
  · exact mm_vret dX3_push_32 rfl
  · refine mm_aload_n 0 dX3_push_12 rfl ?_
    refine mm_getR 52 dX3_push_13 fl_RX3_33 lo_7 rfl ?_
    refine mm_aload_n 0 dX3_push_16 rfl ?_
    refine mm_getI dX3_push_17 fl_RX3_89 lo_7 rfl ?_
    refine mm_iload_n 1 dX3_push_20 rfl ?_
    refine mm_iastore dX3_push_21 ?_
    refine mm_nm_M (fun M_1 => ?_)
    refine mm_aload_n 0 dX3_push_22 rfl ?_
    refine mm_dup dX3_push_23 rfl ?_
    refine mm_getI dX3_push_24 fl_RX3_89 lo_7 rfl ?_
    refine mm_iconst (v := 1) dX3_push_27 rfl ?_
    refine mm_iadd dX3_push_28 ?_
    refine mm_putI dX3_push_29 fp_RX3_89 lo_7 rfl ?_
    refine mm_nm_M (fun M_2 => ?_)
    exact mm_vret dX3_push_32 rfl
def f_Math_max (v0 : Int32) (v1 : Int32) (M : mm_M) : Option (Int32 × mm_M) := if v0 < v1 then some (v1, M) else some (v0, M)
set_option maxHeartbeats 4000000 in
theorem c_Math_max (E : mm_E) (v0 : Int32) (v1 : Int32) (M : mm_M) : ∀ (r : Int32) (M2 : mm_M), f_Math_max v0 v1 M = some (r, M2) → mm_P E Y_J9_max_7cf53 1 [.int v0, .int v1] M (some (.int r)) M2 := by
  refine mm_entry (em := (fun x : Int32 => some (.int x))) (by decide +kernel) (Nat.le_of_ble_eq_true rfl) ?_
  show mm_G _ E _ _ 0 [(0, .int v0), (1, .int v1)] [] M _
  unfold f_Math_max
  refine mm_iload_n 0 dJ9_max_7cf53_0 rfl ?_
  refine mm_iload_n 1 dJ9_max_7cf53_1 rfl ?_
  refine mm_icmp_lt 9 dJ9_max_7cf53_2 rfl ?_ ?_
  · refine mm_iload_n 1 dJ9_max_7cf53_9 rfl ?_
    exact mm_iret dJ9_max_7cf53_10 rfl
  · refine mm_iload_n 0 dJ9_max_7cf53_5 rfl ?_
    refine mm_goto 10 dJ9_max_7cf53_6 rfl ?_
    exact mm_iret dJ9_max_7cf53_10 rfl
def f_Law_join_7 (v1 : Int32) (v2 : Int32) (v3 : Int32) (M : mm_M) : Option (Int32 × mm_M) := if v1 = 42 then some (v2 * v3, M) else if v1 = 43 then some (v2 + v3, M) else if v1 = 45 then some (v2 - v3, M) else if v1 = 60 then if v3 ≤ v2 then some (0, M) else some (1, M) else if v1 = 61 then if v2 = v3 then some (1, M) else some (0, M) else if v1 = 62 then if v2 ≤ v3 then some (0, M) else some (1, M) else if v3 = 0 then mm_let (mm_setI M 7 11 (mm_b true)) fun M_1 => some (0, M_1) else if v1 = 47 then if v3 = 0 then none else some (v2 / v3, M) else if v3 = 0 then none else some (mm_rem v2 v3, M)
set_option maxHeartbeats 4000000 in
theorem c_Law_join_7 (E : mm_E) (v1 : Int32) (v2 : Int32) (v3 : Int32) (M : mm_M) : ∀ (r : Int32) (M2 : mm_M), f_Law_join_7 v1 v2 v3 M = some (r, M2) → mm_P E Y_X3_join 1 [.ref 7, .int v1, .int v2, .int v3] M (some (.int r)) M2 := by
  refine mm_entry (em := (fun x : Int32 => some (.int x))) (by decide +kernel) (Nat.le_of_ble_eq_true rfl) ?_
  show mm_G _ E _ _ 0 [(0, .ref 7), (1, .int v1), (2, .int v2), (3, .int v3)] [] M _
  unfold f_Law_join_7
  refine mm_iload_n 1 dX3_join_0 rfl ?_
  refine mm_lkC 42 68 dX3_join_1 (by decide) rfl rfl ?_ (fun h42 => ?_)
  · refine mm_iload_n 2 dX3_join_68 rfl ?_
    refine mm_iload_n 3 dX3_join_69 rfl ?_
    refine mm_imul dX3_join_70 ?_
    exact mm_iret dX3_join_71 rfl
  refine mm_lkC 43 60 dX3_join_1 (by decide) rfl rfl ?_ (fun h43 => ?_)
  · refine mm_iload_n 2 dX3_join_60 rfl ?_
    refine mm_iload_n 3 dX3_join_61 rfl ?_
    refine mm_iadd dX3_join_62 ?_
    exact mm_iret dX3_join_63 rfl
  refine mm_lkC 45 64 dX3_join_1 (by decide) rfl rfl ?_ (fun h45 => ?_)
  · refine mm_iload_n 2 dX3_join_64 rfl ?_
    refine mm_iload_n 3 dX3_join_65 rfl ?_
    refine mm_isub dX3_join_66 ?_
    exact mm_iret dX3_join_67 rfl
  refine mm_lkC 60 72 dX3_join_1 (by decide) rfl rfl ?_ (fun h60 => ?_)
  · refine mm_iload_n 2 dX3_join_72 rfl ?_
    refine mm_iload_n 3 dX3_join_73 rfl ?_
    refine mm_icmp_ge 81 dX3_join_74 rfl ?_ ?_
    · refine mm_iconst (v := 0) dX3_join_81 rfl ?_
      exact mm_iret dX3_join_82 rfl
    · refine mm_iconst (v := 1) dX3_join_77 rfl ?_
      refine mm_goto 82 dX3_join_78 rfl ?_
      exact mm_iret dX3_join_82 rfl
  refine mm_lkC 61 94 dX3_join_1 (by decide) rfl rfl ?_ (fun h61 => ?_)
  · refine mm_iload_n 2 dX3_join_94 rfl ?_
    refine mm_iload_n 3 dX3_join_95 rfl ?_
    refine mm_icmp_ne 103 dX3_join_96 rfl ?_ ?_
    · refine mm_iconst (v := 0) dX3_join_103 rfl ?_
      exact mm_iret dX3_join_104 rfl
    · refine mm_iconst (v := 1) dX3_join_99 rfl ?_
      refine mm_goto 104 dX3_join_100 rfl ?_
      exact mm_iret dX3_join_104 rfl
  refine mm_lkC 62 83 dX3_join_1 (by decide) rfl rfl ?_ (fun h62 => ?_)
  · refine mm_iload_n 2 dX3_join_83 rfl ?_
    refine mm_iload_n 3 dX3_join_84 rfl ?_
    refine mm_icmp_le 92 dX3_join_85 rfl ?_ ?_
    · refine mm_iconst (v := 0) dX3_join_92 rfl ?_
      exact mm_iret dX3_join_93 rfl
    · refine mm_iconst (v := 1) dX3_join_88 rfl ?_
      refine mm_goto 93 dX3_join_89 rfl ?_
      exact mm_iret dX3_join_93 rfl
  refine mm_lkD (off := 104) 105 dX3_join_1 (by decide) ?_ rfl ?_
  · exact (lv_osw h42 rfl).trans ((lv_osw h43 rfl).trans ((lv_osw h45 rfl).trans ((lv_osw h60 rfl).trans ((lv_osw h61 rfl).trans ((lv_osw h62 rfl).trans (rfl))))))
  refine mm_iload_n 3 dX3_join_105 rfl ?_
  refine mm_if_ne 116 dX3_join_106 rfl ?_ ?_
  · refine mm_iload_n 1 dX3_join_116 rfl ?_
    refine mm_bipush (v := 47) dX3_join_117 rfl ?_
    refine mm_icmp_ne 128 dX3_join_119 rfl ?_ ?_
    · refine mm_iload_n 2 dX3_join_128 rfl ?_
      refine mm_iload_n 3 dX3_join_129 rfl ?_
      refine mm_irem dX3_join_130 ?_
      exact mm_iret dX3_join_131 rfl
    · refine mm_iload_n 2 dX3_join_122 rfl ?_
      refine mm_iload_n 3 dX3_join_123 rfl ?_
      refine mm_idiv dX3_join_124 ?_
      refine mm_goto 131 dX3_join_125 rfl ?_
      exact mm_iret dX3_join_131 rfl
  · refine mm_aload_n 0 dX3_join_109 rfl ?_
    refine mm_iconst (v := 1) dX3_join_110 rfl ?_
    refine mm_putZ (b := true) dX3_join_111 fp_RX3_92 lo_7 rfl ?_
    refine mm_nm_M (fun M_1 => ?_)
    refine mm_iconst (v := 0) dX3_join_114 rfl ?_
    exact mm_iret dX3_join_115 rfl
def lp_Law_reckon_7_12 (v2 : Int32) (k184 : mm_M → Option (Int32 × mm_M)) : Nat → Int32 → mm_M → Option (Int32 × mm_M)
  | 0, _, _ => none
  | n + 1, v3, M => if v2 ≤ v3 then k184 M else if M.1 7 11 = 0 then if mm_in v3 (mm_al 45) = true then mm_let (M.2.1 45 v3.toNatClampNeg) fun v4_3 => mm_jn (fun (v3 : Int32) (M_4 : mm_M) => mm_let (v3 + 1) fun v3_5 => lp_Law_reckon_7_12 v2 k184 n v3_5 M_4) fun j178 => if v4_3 = 78 then if mm_in v3 (mm_al 46) = true then mm_bd (f_Law_push_7 (M.2.1 46 v3.toNatClampNeg) M) fun u_29 M_30 => j178 v3 M_30 else none else if v4_3 = 76 then if mm_in v3 (mm_al 46) = true then if mm_in (M.2.1 46 v3.toNatClampNeg) (mm_al 51) = true then mm_bd (f_Law_push_7 (M.2.1 51 (M.2.1 46 v3.toNatClampNeg).toNatClampNeg) M) fun u_27 M_28 => j178 v3 M_28 else none else none else if v4_3 = 33 then mm_bd (f_Law_pop_7 M) fun r_23 M_24 => mm_bd (f_Law_push_7 (1 - r_23) M_24) fun u_25 M_26 => j178 v3 M_26 else mm_jn (fun (v3 : Int32) (v4 : Int32) (M_6 : mm_M) => mm_bd (f_Law_pop_7 M_6) fun r_7 M_8 => mm_jn (fun (v3 : Int32) (v5 : Int32) (s0 : Int32) (s1 : Bool) (M_9 : mm_M) => mm_jn (fun (v3 : Int32) (M_10 : mm_M) => j178 v3 M_10) fun j153 => if s0 = mm_b s1 then mm_bd (f_Law_push_7 v5 M_9) fun u_11 M_12 => if mm_in v3 (mm_al 46) = true then mm_bd (f_Math_max v3 ((M_12.2.1 46 v3.toNatClampNeg) - 1) M_12) fun r_13 M_14 => j153 r_13 M_14 else none else j153 v3 M_9) fun j131 => if v4 = 124 then j131 v3 r_7 r_7 true M_8 else j131 v3 r_7 r_7 false M_8) fun j111 => if v4_3 = 38 then j111 v3 v4_3 M else if v4_3 = 124 then j111 v3 v4_3 M else mm_bd (f_Law_pop_7 M) fun r_15 M_16 => mm_bd (f_Law_pop_7 M_16) fun r_17 M_18 => mm_bd (f_Law_join_7 v4_3 r_17 r_15 M_18) fun r_19 M_20 => mm_bd (f_Law_push_7 r_19 M_20) fun u_21 M_22 => j178 v3 M_22 else none else k184 M
set_option maxHeartbeats 4000000 in
theorem lp_Law_reckon_7_12_ok (E : mm_E) (v2 : Int32) {k184 : mm_M → Option (Int32 × mm_M)} (hk184 : ∀ (M : mm_M), mm_G (fun x : Int32 => some (.int x)) E Y_X3_reckon 2 184 [(0, .ref 7)] [] M (k184 M)) : ∀ (n : Nat) (v3 : Int32) (M : mm_M), mm_G (fun x : Int32 => some (.int x)) E Y_X3_reckon 2 12 [(0, .ref 7), (2, .int v2), (3, .int v3)] [] M (lp_Law_reckon_7_12 v2 k184 n v3 M) := by
  intro n
  induction n with
  | zero => intro v3 M r M2 he; cases he
  | succ n ih =>
    intro v3 M
    rw [lp_Law_reckon_7_12]
    refine mm_iload_n 2 dX3_reckon_12 rfl ?_
    refine mm_iload_n 1 dX3_reckon_13 rfl ?_
    refine mm_icmp_ge 184 dX3_reckon_14 rfl ?_ ?_
    · refine mm_wk [0] rfl ?_
      exact hk184  M
    · refine mm_aload_n 0 dX3_reckon_17 rfl ?_
      refine mm_getI dX3_reckon_18 fl_RX3_92 lo_7 rfl ?_
      refine mm_if_ne 184 dX3_reckon_21 rfl ?_ ?_
      · refine mm_wk [0] rfl ?_
        exact hk184  M
      · refine mm_aload_n 0 dX3_reckon_24 rfl ?_
        refine mm_getR 45 dX3_reckon_25 fl_RX3_9 lo_7 rfl ?_
        refine mm_iload_n 2 dX3_reckon_28 rfl ?_
        refine mm_iaload dX3_reckon_29 ?_
        refine mm_nm_int (fun v4_3 => ?_)
        refine mm_istore [1, 2, 3, 0] (lv2 := [(0, .ref 7), (2, .int v2), (3, .int v3), (4, .int v4_3)]) dX3_reckon_30 (by decide) rfl ?_
        refine mm_iload 3 dX3_reckon_32 rfl ?_
        refine mm_bipush (v := 78) dX3_reckon_34 rfl ?_
        refine mm_jnP (P := fun j => ∀ (v3 : Int32) (M : mm_M), mm_G (fun x : Int32 => some (.int x)) E Y_X3_reckon 2 178 [(0, .ref 7), (2, .int v2), (3, .int v3)] [] M (j v3 M)) ?_ (fun j178 hj178 => ?_)
        · intro v3 M_4
          refine mm_iincN 2 [1, 2, 0] (v := v3 + 1) (lv2 := fun v3_5 => [(0, .ref 7), (2, .int v2), (3, .int v3_5)]) dX3_reckon_178 rfl rfl (by decide) (fun _ => rfl) (fun v3_5 => ?_)
          refine mm_goto 12 dX3_reckon_181 rfl ?_
          exact ih v3_5 M_4
        refine mm_icmp_ne 52 dX3_reckon_36 rfl ?_ ?_
        · refine mm_iload 3 dX3_reckon_52 rfl ?_
          refine mm_bipush (v := 76) dX3_reckon_54 rfl ?_
          refine mm_icmp_ne 77 dX3_reckon_56 rfl ?_ ?_
          · refine mm_iload 3 dX3_reckon_77 rfl ?_
            refine mm_bipush (v := 33) dX3_reckon_79 rfl ?_
            refine mm_icmp_ne 97 dX3_reckon_81 rfl ?_ ?_
            · refine mm_iload 3 dX3_reckon_97 rfl ?_
              refine mm_bipush (v := 38) dX3_reckon_99 rfl ?_
              refine mm_jnP (P := fun j => ∀ (v3 : Int32) (v4 : Int32) (M : mm_M), mm_G (fun x : Int32 => some (.int x)) E Y_X3_reckon 2 111 [(0, .ref 7), (2, .int v2), (3, .int v3), (4, .int v4)] [] M (j v3 v4 M)) ?_ (fun j111 hj111 => ?_)
              · intro v3 v4 M_6
                refine mm_aload_n 0 dX3_reckon_111 rfl ?_
                refine mm_callVi (as := []) (st := []) (c_Law_pop_7 E M_6) dX3_reckon_112 mz_X3_pop lk_RX3_99 im_X3_pop se_X3_pop lo_7 rfl rfl rfl ⟨Nat.le_of_ble_eq_true rfl, Nat.le_of_ble_eq_true rfl⟩ (Nat.le_of_ble_eq_true rfl) (fun r_7 M_8 => ?_)
                refine mm_istore [1, 2, 3, 4, 0] (lv2 := [(0, .ref 7), (2, .int v2), (3, .int v3), (4, .int v4), (5, .int r_7)]) dX3_reckon_115 (by decide) rfl ?_
                refine mm_iload 4 dX3_reckon_117 rfl ?_
                refine mm_iload 3 dX3_reckon_119 rfl ?_
                refine mm_bipush (v := 124) dX3_reckon_121 rfl ?_
                refine mm_jnP (P := fun j => ∀ (v3 : Int32) (v5 : Int32) (s0 : Int32) (s1 : Bool) (M : mm_M), mm_G (fun x : Int32 => some (.int x)) E Y_X3_reckon 2 131 [(0, .ref 7), (2, .int v2), (3, .int v3), (5, .int v5)] [.int (mm_b s1), .int s0] M (j v3 v5 s0 s1 M)) ?_ (fun j131 hj131 => ?_)
                · intro v3 v5 s0 s1 M_9
                  refine mm_jnP (P := fun j => ∀ (v3 : Int32) (M : mm_M), mm_G (fun x : Int32 => some (.int x)) E Y_X3_reckon 2 153 [(0, .ref 7), (2, .int v2), (3, .int v3)] [] M (j v3 M)) ?_ (fun j153 hj153 => ?_)
                  · intro v3 M_10
                    refine mm_goto 178 dX3_reckon_153 rfl ?_
                    exact hj178 v3 M_10
                  refine mm_icmp_ne 153 dX3_reckon_131 rfl ?_ ?_
                  · refine mm_wk [0, 1, 2] rfl ?_
                    exact hj153 v3 M_9
                  · refine mm_aload_n 0 dX3_reckon_134 rfl ?_
                    refine mm_iload 3 dX3_reckon_135 rfl ?_
                    refine mm_callVv (as := [.int v5]) (st := []) (c_Law_push_7 E v5 M_9) dX3_reckon_137 mz_X3_push lk_RX3_96 im_X3_push se_X3_push lo_7 rfl rfl rfl ⟨Nat.le_of_ble_eq_true rfl, Nat.le_of_ble_eq_true rfl⟩ (Nat.le_of_ble_eq_true rfl) (fun u_11 M_12 => ?_)
                    refine mm_iload_n 2 dX3_reckon_140 rfl ?_
                    refine mm_aload_n 0 dX3_reckon_141 rfl ?_
                    refine mm_getR 46 dX3_reckon_142 fl_RX3_15 lo_7 rfl ?_
                    refine mm_iload_n 2 dX3_reckon_145 rfl ?_
                    refine mm_iaload dX3_reckon_146 ?_
                    refine mm_iconst (v := 1) dX3_reckon_147 rfl ?_
                    refine mm_isub dX3_reckon_148 ?_
                    refine mm_callSi (as := [.int v3, .int ((M_12.2.1 46 v3.toNatClampNeg) - 1)]) (st := []) (c_Math_max E v3 ((M_12.2.1 46 v3.toNatClampNeg) - 1) M_12) dX3_reckon_149 mz_J9_max_7cf53 lk_RX3_86 sm_J9_max_7cf53 rfl ⟨Nat.le_of_ble_eq_true rfl, Nat.le_of_ble_eq_true rfl⟩ (Nat.le_of_ble_eq_true rfl) (fun r_13 M_14 => ?_)
                    refine mm_istore_n [1, 2, 0, 3] (lv2 := [(0, .ref 7), (2, .int v2), (3, .int r_13), (5, .int v5)]) dX3_reckon_152 (by decide) rfl ?_
                    refine mm_wk [0, 1, 2] rfl ?_
                    exact hj153 r_13 M_14
                refine mm_icmp_ne 130 dX3_reckon_123 rfl ?_ ?_
                · refine mm_iconst (v := 0) dX3_reckon_130 rfl ?_
                  refine mm_wk [0, 1, 2, 4] rfl ?_
                  exact hj131 v3 r_7 r_7 false M_8
                · refine mm_iconst (v := 1) dX3_reckon_126 rfl ?_
                  refine mm_goto 131 dX3_reckon_127 rfl ?_
                  refine mm_wk [0, 1, 2, 4] rfl ?_
                  exact hj131 v3 r_7 r_7 true M_8
              refine mm_icmp_eq 111 dX3_reckon_101 rfl ?_ ?_
              · exact hj111 v3 v4_3 M
              · refine mm_iload 3 dX3_reckon_104 rfl ?_
                refine mm_bipush (v := 124) dX3_reckon_106 rfl ?_
                refine mm_icmp_ne 156 dX3_reckon_108 rfl ?_ ?_
                · refine mm_aload_n 0 dX3_reckon_156 rfl ?_
                  refine mm_callVi (as := []) (st := []) (c_Law_pop_7 E M) dX3_reckon_157 mz_X3_pop lk_RX3_99 im_X3_pop se_X3_pop lo_7 rfl rfl rfl ⟨Nat.le_of_ble_eq_true rfl, Nat.le_of_ble_eq_true rfl⟩ (Nat.le_of_ble_eq_true rfl) (fun r_15 M_16 => ?_)
                  refine mm_istore [1, 2, 3, 4, 0] (lv2 := [(0, .ref 7), (2, .int v2), (3, .int v3), (4, .int v4_3), (5, .int r_15)]) dX3_reckon_160 (by decide) rfl ?_
                  refine mm_aload_n 0 dX3_reckon_162 rfl ?_
                  refine mm_aload_n 0 dX3_reckon_163 rfl ?_
                  refine mm_iload 3 dX3_reckon_164 rfl ?_
                  refine mm_aload_n 0 dX3_reckon_166 rfl ?_
                  refine mm_callVi (as := []) (st := [.int v4_3, .ref 7, .ref 7]) (c_Law_pop_7 E M_16) dX3_reckon_167 mz_X3_pop lk_RX3_99 im_X3_pop se_X3_pop lo_7 rfl rfl rfl ⟨Nat.le_of_ble_eq_true rfl, Nat.le_of_ble_eq_true rfl⟩ (Nat.le_of_ble_eq_true rfl) (fun r_17 M_18 => ?_)
                  refine mm_iload 4 dX3_reckon_170 rfl ?_
                  refine mm_callVi (as := [.int v4_3, .int r_17, .int r_15]) (st := [.ref 7]) (c_Law_join_7 E v4_3 r_17 r_15 M_18) dX3_reckon_172 mz_X3_join lk_RX3_103 im_X3_join se_X3_join lo_7 rfl rfl rfl ⟨Nat.le_of_ble_eq_true rfl, Nat.le_of_ble_eq_true rfl⟩ (Nat.le_of_ble_eq_true rfl) (fun r_19 M_20 => ?_)
                  refine mm_callVv (as := [.int r_19]) (st := []) (c_Law_push_7 E r_19 M_20) dX3_reckon_175 mz_X3_push lk_RX3_96 im_X3_push se_X3_push lo_7 rfl rfl rfl ⟨Nat.le_of_ble_eq_true rfl, Nat.le_of_ble_eq_true rfl⟩ (Nat.le_of_ble_eq_true rfl) (fun u_21 M_22 => ?_)
                  refine mm_wk [0, 1, 2] rfl ?_
                  exact hj178 v3 M_22
                · exact hj111 v3 v4_3 M
            · refine mm_aload_n 0 dX3_reckon_84 rfl ?_
              refine mm_iconst (v := 1) dX3_reckon_85 rfl ?_
              refine mm_aload_n 0 dX3_reckon_86 rfl ?_
              refine mm_callVi (as := []) (st := [.int 1, .ref 7]) (c_Law_pop_7 E M) dX3_reckon_87 mz_X3_pop lk_RX3_99 im_X3_pop se_X3_pop lo_7 rfl rfl rfl ⟨Nat.le_of_ble_eq_true rfl, Nat.le_of_ble_eq_true rfl⟩ (Nat.le_of_ble_eq_true rfl) (fun r_23 M_24 => ?_)
              refine mm_isub dX3_reckon_90 ?_
              refine mm_callVv (as := [.int (1 - r_23)]) (st := []) (c_Law_push_7 E (1 - r_23) M_24) dX3_reckon_91 mz_X3_push lk_RX3_96 im_X3_push se_X3_push lo_7 rfl rfl rfl ⟨Nat.le_of_ble_eq_true rfl, Nat.le_of_ble_eq_true rfl⟩ (Nat.le_of_ble_eq_true rfl) (fun u_25 M_26 => ?_)
              refine mm_goto 178 dX3_reckon_94 rfl ?_
              refine mm_wk [0, 1, 2] rfl ?_
              exact hj178 v3 M_26
          · refine mm_aload_n 0 dX3_reckon_59 rfl ?_
            refine mm_aload_n 0 dX3_reckon_60 rfl ?_
            refine mm_getR 51 dX3_reckon_61 fl_RX3_30 lo_7 rfl ?_
            refine mm_aload_n 0 dX3_reckon_64 rfl ?_
            refine mm_getR 46 dX3_reckon_65 fl_RX3_15 lo_7 rfl ?_
            refine mm_iload_n 2 dX3_reckon_68 rfl ?_
            refine mm_iaload dX3_reckon_69 ?_
            refine mm_iaload dX3_reckon_70 ?_
            refine mm_callVv (as := [.int (M.2.1 51 (M.2.1 46 v3.toNatClampNeg).toNatClampNeg)]) (st := []) (c_Law_push_7 E (M.2.1 51 (M.2.1 46 v3.toNatClampNeg).toNatClampNeg) M) dX3_reckon_71 mz_X3_push lk_RX3_96 im_X3_push se_X3_push lo_7 rfl rfl rfl ⟨Nat.le_of_ble_eq_true rfl, Nat.le_of_ble_eq_true rfl⟩ (Nat.le_of_ble_eq_true rfl) (fun u_27 M_28 => ?_)
            refine mm_goto 178 dX3_reckon_74 rfl ?_
            refine mm_wk [0, 1, 2] rfl ?_
            exact hj178 v3 M_28
        · refine mm_aload_n 0 dX3_reckon_39 rfl ?_
          refine mm_aload_n 0 dX3_reckon_40 rfl ?_
          refine mm_getR 46 dX3_reckon_41 fl_RX3_15 lo_7 rfl ?_
          refine mm_iload_n 2 dX3_reckon_44 rfl ?_
          refine mm_iaload dX3_reckon_45 ?_
          refine mm_callVv (as := [.int (M.2.1 46 v3.toNatClampNeg)]) (st := []) (c_Law_push_7 E (M.2.1 46 v3.toNatClampNeg) M) dX3_reckon_46 mz_X3_push lk_RX3_96 im_X3_push se_X3_push lo_7 rfl rfl rfl ⟨Nat.le_of_ble_eq_true rfl, Nat.le_of_ble_eq_true rfl⟩ (Nat.le_of_ble_eq_true rfl) (fun u_29 M_30 => ?_)
          refine mm_goto 178 dX3_reckon_49 rfl ?_
          refine mm_wk [0, 1, 2] rfl ?_
          exact hj178 v3 M_30
def f_Law_reckon_7 (v1 : Int32) (v2 : Int32) (M : mm_M) : Option (Int32 × mm_M) := mm_let (mm_setI M 7 10 0) fun M_1 => mm_let (mm_setI M_1 7 11 (mm_b false)) fun M_2 => lp_Law_reckon_7_12 v2 (fun (M_31 : mm_M) => if M_31.1 7 11 = 0 then mm_bd (f_Law_pop_7 M_31) fun r_32 M_33 => some (r_32, M_33) else some (0, M_31)) mm_fu v1 M_2
set_option maxHeartbeats 4000000 in
theorem c_Law_reckon_7 (E : mm_E) (v1 : Int32) (v2 : Int32) (M : mm_M) : ∀ (r : Int32) (M2 : mm_M), f_Law_reckon_7 v1 v2 M = some (r, M2) → mm_P E Y_X3_reckon 2 [.ref 7, .int v1, .int v2] M (some (.int r)) M2 := by
  refine mm_entry (em := (fun x : Int32 => some (.int x))) (by decide +kernel) (Nat.le_of_ble_eq_true rfl) ?_
  show mm_G _ E _ _ 0 [(0, .ref 7), (1, .int v1), (2, .int v2)] [] M _
  unfold f_Law_reckon_7
  refine mm_aload_n 0 dX3_reckon_0 rfl ?_
  refine mm_iconst (v := 0) dX3_reckon_1 rfl ?_
  refine mm_putI dX3_reckon_2 fp_RX3_89 lo_7 rfl ?_
  refine mm_nm_M (fun M_1 => ?_)
  refine mm_aload_n 0 dX3_reckon_5 rfl ?_
  refine mm_iconst (v := 0) dX3_reckon_6 rfl ?_
  refine mm_putZ (b := false) dX3_reckon_7 fp_RX3_92 lo_7 rfl ?_
  refine mm_nm_M (fun M_2 => ?_)
  refine mm_iload_n 1 dX3_reckon_10 rfl ?_
  refine mm_istore_n [1, 2, 3, 0] (lv2 := [(0, .ref 7), (1, .int v1), (2, .int v2), (3, .int v1)]) dX3_reckon_11 (by decide) rfl ?_
  refine mm_wk [0, 2, 3] rfl ?_
  refine lp_Law_reckon_7_12_ok E v2 ?_ mm_fu v1 M_2
  · intro M_31
    refine mm_aload_n 0 dX3_reckon_184 rfl ?_
    refine mm_getI dX3_reckon_185 fl_RX3_92 lo_7 rfl ?_
    refine mm_if_eq 195 dX3_reckon_188 rfl ?_ ?_
    · refine mm_aload_n 0 dX3_reckon_195 rfl ?_
      refine mm_callVi (as := []) (st := []) (c_Law_pop_7 E M_31) dX3_reckon_196 mz_X3_pop lk_RX3_99 im_X3_pop se_X3_pop lo_7 rfl rfl rfl ⟨Nat.le_of_ble_eq_true rfl, Nat.le_of_ble_eq_true rfl⟩ (Nat.le_of_ble_eq_true rfl) (fun r_32 M_33 => ?_)
      exact mm_iret dX3_reckon_199 rfl
    · refine mm_iconst (v := 0) dX3_reckon_191 rfl ?_
      refine mm_goto 199 dX3_reckon_192 rfl ?_
      exact mm_iret dX3_reckon_199 rfl
def lp_Law_answerBy_7_17 (v1 : Int32) (v2 : Int32) (k54 : Int32 → mm_M → Option (Int32 × mm_M)) (k85 : mm_M → Option (Int32 × mm_M)) : Nat → Int32 → mm_M → Option (Int32 × mm_M)
  | 0, _, _ => none
  | n + 1, v3, M => if M.1 7 7 ≤ v3 then k85 M else if mm_in v3 (mm_al 47) = true then mm_jn (fun (v3 : Int32) (M_2 : mm_M) => mm_let (v3 + 1) fun v3_3 => lp_Law_answerBy_7_17 v1 v2 k54 k85 n v3_3 M_2) fun j79 => if M.2.1 47 v3.toNatClampNeg = v1 then if mm_in v3 (mm_al 49) = true then if mm_in v3 (mm_al 50) = true then mm_bd (f_Law_reckon_7 (M.2.1 49 v3.toNatClampNeg) (M.2.1 50 v3.toNatClampNeg) M) fun r_4 M_5 => if r_4 = 0 then j79 v3 M_5 else k54 v3 M_5 else none else none else j79 v3 M else none
set_option maxHeartbeats 4000000 in
theorem lp_Law_answerBy_7_17_ok (E : mm_E) (v1 : Int32) (v2 : Int32) {k54 : Int32 → mm_M → Option (Int32 × mm_M)} {k85 : mm_M → Option (Int32 × mm_M)} (hk54 : ∀ (v3 : Int32) (M : mm_M), mm_G (fun x : Int32 => some (.int x)) E Y_X3_answerBy 3 54 [(0, .ref 7), (2, .int v2), (3, .int v3)] [] M (k54 v3 M)) (hk85 : ∀ (M : mm_M), mm_G (fun x : Int32 => some (.int x)) E Y_X3_answerBy 3 85 [(1, .int v1)] [] M (k85 M)) : ∀ (n : Nat) (v3 : Int32) (M : mm_M), mm_G (fun x : Int32 => some (.int x)) E Y_X3_answerBy 3 17 [(0, .ref 7), (1, .int v1), (2, .int v2), (3, .int v3)] [] M (lp_Law_answerBy_7_17 v1 v2 k54 k85 n v3 M) := by
  intro n
  induction n with
  | zero => intro v3 M r M2 he; cases he
  | succ n ih =>
    intro v3 M
    rw [lp_Law_answerBy_7_17]
    refine mm_iload_n 3 dX3_answerBy_17 rfl ?_
    refine mm_aload_n 0 dX3_answerBy_18 rfl ?_
    refine mm_getI dX3_answerBy_19 fl_RX3_40 lo_7 rfl ?_
    refine mm_icmp_ge 85 dX3_answerBy_22 rfl ?_ ?_
    · refine mm_wk [1] rfl ?_
      exact hk85  M
    · refine mm_aload_n 0 dX3_answerBy_25 rfl ?_
      refine mm_getR 47 dX3_answerBy_26 fl_RX3_18 lo_7 rfl ?_
      refine mm_iload_n 3 dX3_answerBy_29 rfl ?_
      refine mm_iaload dX3_answerBy_30 ?_
      refine mm_iload_n 1 dX3_answerBy_31 rfl ?_
      refine mm_jnP (P := fun j => ∀ (v3 : Int32) (M : mm_M), mm_G (fun x : Int32 => some (.int x)) E Y_X3_answerBy 3 79 [(0, .ref 7), (1, .int v1), (2, .int v2), (3, .int v3)] [] M (j v3 M)) ?_ (fun j79 hj79 => ?_)
      · intro v3 M_2
        refine mm_iincN 3 [1, 2, 3, 0] (v := v3 + 1) (lv2 := fun v3_3 => [(0, .ref 7), (1, .int v1), (2, .int v2), (3, .int v3_3)]) dX3_answerBy_79 rfl rfl (by decide) (fun _ => rfl) (fun v3_3 => ?_)
        refine mm_goto 17 dX3_answerBy_82 rfl ?_
        exact ih v3_3 M_2
      refine mm_icmp_ne 79 dX3_answerBy_32 rfl ?_ ?_
      · exact hj79 v3 M
      · refine mm_aload_n 0 dX3_answerBy_35 rfl ?_
        refine mm_aload_n 0 dX3_answerBy_36 rfl ?_
        refine mm_getR 49 dX3_answerBy_37 fl_RX3_24 lo_7 rfl ?_
        refine mm_iload_n 3 dX3_answerBy_40 rfl ?_
        refine mm_iaload dX3_answerBy_41 ?_
        refine mm_aload_n 0 dX3_answerBy_42 rfl ?_
        refine mm_getR 50 dX3_answerBy_43 fl_RX3_27 lo_7 rfl ?_
        refine mm_iload_n 3 dX3_answerBy_46 rfl ?_
        refine mm_iaload dX3_answerBy_47 ?_
        refine mm_callVi (as := [.int (M.2.1 49 v3.toNatClampNeg), .int (M.2.1 50 v3.toNatClampNeg)]) (st := []) (c_Law_reckon_7 E (M.2.1 49 v3.toNatClampNeg) (M.2.1 50 v3.toNatClampNeg) M) dX3_answerBy_48 mz_X3_reckon lk_RX3_77 im_X3_reckon se_X3_reckon lo_7 rfl rfl rfl ⟨Nat.le_of_ble_eq_true rfl, Nat.le_of_ble_eq_true rfl⟩ (Nat.le_of_ble_eq_true rfl) (fun r_4 M_5 => ?_)
        refine mm_if_eq 79 dX3_answerBy_51 rfl ?_ ?_
        · exact hj79 v3 M_5
        · refine mm_wk [0, 2, 3] rfl ?_
          exact hk54 v3 M_5
def f_Law_answerBy_7 (v1 : Int32) (M : mm_M) : Option (Int32 × mm_M) := mm_jn (fun (s0 : Int32) (M_1 : mm_M) => lp_Law_answerBy_7_17 v1 s0 (fun (v3 : Int32) (M_6 : mm_M) => if mm_in v3 (mm_al 48) = true then if mm_in v3 (mm_al 49) = true then mm_bd (f_Law_reckon_7 (M_6.2.1 48 v3.toNatClampNeg) (M_6.2.1 49 v3.toNatClampNeg) M_6) fun r_7 M_8 => mm_bd (f_Math_min s0 r_7 M_8) fun r_9 M_10 => mm_bd (f_Math_max 0 r_9 M_10) fun r_11 M_12 => some (r_11, M_12) else none else none) (fun (M_13 : mm_M) => if v1 = 112 then some (0, M_13) else some (1, M_13)) mm_fu 0 M_1) fun j14 => if v1 = 112 then j14 999 M else j14 99 M
set_option maxHeartbeats 4000000 in
theorem c_Law_answerBy_7 (E : mm_E) (v1 : Int32) (M : mm_M) : ∀ (r : Int32) (M2 : mm_M), f_Law_answerBy_7 v1 M = some (r, M2) → mm_P E Y_X3_answerBy 3 [.ref 7, .int v1] M (some (.int r)) M2 := by
  refine mm_entry (em := (fun x : Int32 => some (.int x))) (by decide +kernel) (Nat.le_of_ble_eq_true rfl) ?_
  show mm_G _ E _ _ 0 [(0, .ref 7), (1, .int v1)] [] M _
  unfold f_Law_answerBy_7
  refine mm_iload_n 1 dX3_answerBy_0 rfl ?_
  refine mm_bipush (v := 112) dX3_answerBy_1 rfl ?_
  refine mm_jnP (P := fun j => ∀ (s0 : Int32) (M : mm_M), mm_G (fun x : Int32 => some (.int x)) E Y_X3_answerBy 3 14 [(0, .ref 7), (1, .int v1)] [.int s0] M (j s0 M)) ?_ (fun j14 hj14 => ?_)
  · intro s0 M_1
    refine mm_istore_n [1, 2, 0] (lv2 := [(0, .ref 7), (1, .int v1), (2, .int s0)]) dX3_answerBy_14 (by decide) rfl ?_
    refine mm_iconst (v := 0) dX3_answerBy_15 rfl ?_
    refine mm_istore_n [1, 2, 3, 0] (lv2 := [(0, .ref 7), (1, .int v1), (2, .int s0), (3, .int 0)]) dX3_answerBy_16 (by decide) rfl ?_
    refine lp_Law_answerBy_7_17_ok E v1 s0 ?_ ?_ mm_fu 0 M_1
    · intro v3 M_6
      refine mm_iconst (v := 0) dX3_answerBy_54 rfl ?_
      refine mm_iload_n 1 dX3_answerBy_55 rfl ?_
      refine mm_aload_n 0 dX3_answerBy_56 rfl ?_
      refine mm_aload_n 0 dX3_answerBy_57 rfl ?_
      refine mm_getR 48 dX3_answerBy_58 fl_RX3_21 lo_7 rfl ?_
      refine mm_iload_n 2 dX3_answerBy_61 rfl ?_
      refine mm_iaload dX3_answerBy_62 ?_
      refine mm_aload_n 0 dX3_answerBy_63 rfl ?_
      refine mm_getR 49 dX3_answerBy_64 fl_RX3_24 lo_7 rfl ?_
      refine mm_iload_n 2 dX3_answerBy_67 rfl ?_
      refine mm_iaload dX3_answerBy_68 ?_
      refine mm_callVi (as := [.int (M_6.2.1 48 v3.toNatClampNeg), .int (M_6.2.1 49 v3.toNatClampNeg)]) (st := [.int s0, .int 0]) (c_Law_reckon_7 E (M_6.2.1 48 v3.toNatClampNeg) (M_6.2.1 49 v3.toNatClampNeg) M_6) dX3_answerBy_69 mz_X3_reckon lk_RX3_77 im_X3_reckon se_X3_reckon lo_7 rfl rfl rfl ⟨Nat.le_of_ble_eq_true rfl, Nat.le_of_ble_eq_true rfl⟩ (Nat.le_of_ble_eq_true rfl) (fun r_7 M_8 => ?_)
      refine mm_callSi (as := [.int s0, .int r_7]) (st := [.int 0]) (c_Math_min E s0 r_7 M_8) dX3_answerBy_72 mz_J9_min_7cf53 lk_RX3_81 sm_J9_min_7cf53 rfl ⟨Nat.le_of_ble_eq_true rfl, Nat.le_of_ble_eq_true rfl⟩ (Nat.le_of_ble_eq_true rfl) (fun r_9 M_10 => ?_)
      refine mm_callSi (as := [.int 0, .int r_9]) (st := []) (c_Math_max E 0 r_9 M_10) dX3_answerBy_75 mz_J9_max_7cf53 lk_RX3_86 sm_J9_max_7cf53 rfl ⟨Nat.le_of_ble_eq_true rfl, Nat.le_of_ble_eq_true rfl⟩ (Nat.le_of_ble_eq_true rfl) (fun r_11 M_12 => ?_)
      exact mm_iret dX3_answerBy_78 rfl
    · intro M_13
      refine mm_iload_n 0 dX3_answerBy_85 rfl ?_
      refine mm_bipush (v := 112) dX3_answerBy_86 rfl ?_
      refine mm_icmp_ne 95 dX3_answerBy_88 rfl ?_ ?_
      · refine mm_iconst (v := 1) dX3_answerBy_95 rfl ?_
        exact mm_iret dX3_answerBy_96 rfl
      · refine mm_iconst (v := 0) dX3_answerBy_91 rfl ?_
        refine mm_goto 96 dX3_answerBy_92 rfl ?_
        exact mm_iret dX3_answerBy_96 rfl
  refine mm_icmp_ne 12 dX3_answerBy_3 rfl ?_ ?_
  · refine mm_bipush (v := 99) dX3_answerBy_12 rfl ?_
    exact hj14 99 M
  · refine mm_sipush (v := 999) dX3_answerBy_6 rfl ?_
    refine mm_goto 14 dX3_answerBy_9 rfl ?_
    exact hj14 999 M
def lp_Service_orderStays_66 (v1 : Int32) (v2 : Int32) (v3 : Int32) (k116 : Int32 → mm_M → Option (Int32 × mm_M)) : Nat → Int32 → mm_M → Option (Int32 × mm_M)
  | 0, _, _ => none
  | n + 1, v4, M => if v4 ≤ 0 then k116 v4 M else if mm_in (v4 - 1) (mm_al 88) = true then if mm_in (M.2.1 88 (v4 - 1).toNatClampNeg) (mm_al 89) = true then if mm_in v3 (mm_al 89) = true then if M.2.1 89 v3.toNatClampNeg ≤ M.2.1 89 (M.2.1 88 (v4 - 1).toNatClampNeg).toNatClampNeg then k116 v4 M else if mm_in (v4 - 1) (mm_al 88) = true then if mm_in v4 (mm_al 88) = true then mm_let (mm_setA M 88 (v4.toNatClampNeg) (M.2.1 88 (v4 - 1).toNatClampNeg)) fun M_12 => mm_let (v4 + (-1)) fun v4_13 => lp_Service_orderStays_66 v1 v2 v3 k116 n v4_13 M_12 else none else none else none else none else none
set_option maxHeartbeats 4000000 in
theorem lp_Service_orderStays_66_ok (E : mm_E) (v1 : Int32) (v2 : Int32) (v3 : Int32) {k116 : Int32 → mm_M → Option (Int32 × mm_M)} (hk116 : ∀ (v4 : Int32) (M : mm_M), mm_G (fun x : Int32 => some (.int x)) E Y_X8_orderStays 4 116 [(0, .ref 12), (1, .int v1), (2, .int v2), (3, .int v3), (4, .int v4)] [] M (k116 v4 M)) : ∀ (n : Nat) (v4 : Int32) (M : mm_M), mm_G (fun x : Int32 => some (.int x)) E Y_X8_orderStays 4 66 [(0, .ref 12), (1, .int v1), (2, .int v2), (3, .int v3), (4, .int v4)] [] M (lp_Service_orderStays_66 v1 v2 v3 k116 n v4 M) := by
  intro n
  induction n with
  | zero => intro v4 M r M2 he; cases he
  | succ n ih =>
    intro v4 M
    rw [lp_Service_orderStays_66]
    refine mm_iload 4 dX8_orderStays_66 rfl ?_
    refine mm_if_le 116 dX8_orderStays_68 rfl ?_ ?_
    · exact hk116 v4 M
    · refine mm_aload_n 0 dX8_orderStays_71 rfl ?_
      refine mm_getR 89 dX8_orderStays_72 fl_RX8_23 lo_12 rfl ?_
      refine mm_aload_n 0 dX8_orderStays_75 rfl ?_
      refine mm_getR 88 dX8_orderStays_76 fl_RX8_20 lo_12 rfl ?_
      refine mm_iload 4 dX8_orderStays_79 rfl ?_
      refine mm_iconst (v := 1) dX8_orderStays_81 rfl ?_
      refine mm_isub dX8_orderStays_82 ?_
      refine mm_iaload dX8_orderStays_83 ?_
      refine mm_iaload dX8_orderStays_84 ?_
      refine mm_aload_n 0 dX8_orderStays_85 rfl ?_
      refine mm_getR 89 dX8_orderStays_86 fl_RX8_23 lo_12 rfl ?_
      refine mm_iload_n 3 dX8_orderStays_89 rfl ?_
      refine mm_iaload dX8_orderStays_90 ?_
      refine mm_icmp_ge 116 dX8_orderStays_91 rfl ?_ ?_
      · exact hk116 v4 M
      · refine mm_aload_n 0 dX8_orderStays_94 rfl ?_
        refine mm_getR 88 dX8_orderStays_95 fl_RX8_20 lo_12 rfl ?_
        refine mm_iload 4 dX8_orderStays_98 rfl ?_
        refine mm_aload_n 0 dX8_orderStays_100 rfl ?_
        refine mm_getR 88 dX8_orderStays_101 fl_RX8_20 lo_12 rfl ?_
        refine mm_iload 4 dX8_orderStays_104 rfl ?_
        refine mm_iconst (v := 1) dX8_orderStays_106 rfl ?_
        refine mm_isub dX8_orderStays_107 ?_
        refine mm_iaload dX8_orderStays_108 ?_
        refine mm_iastore dX8_orderStays_109 ?_
        refine mm_nm_M (fun M_12 => ?_)
        refine mm_iincN 4 [1, 2, 3, 4, 0] (v := v4 + (-1)) (lv2 := fun v4_13 => [(0, .ref 12), (1, .int v1), (2, .int v2), (3, .int v3), (4, .int v4_13)]) dX8_orderStays_110 rfl rfl (by decide) (fun _ => rfl) (fun v4_13 => ?_)
        refine mm_goto 66 dX8_orderStays_113 rfl ?_
        exact ih v4_13 M_12
def lp_Service_orderStays_4 (v1 : Int32) (k133 : Int32 → mm_M → Option (Int32 × mm_M)) : Nat → Int32 → Int32 → mm_M → Option (Int32 × mm_M)
  | 0, _, _, _ => none
  | n + 1, v2, v3, M => if 10 ≤ v3 then k133 v2 M else mm_bd (f_Register_has_5 v3 M) fun b_1 M_2 => mm_jn (fun (v2 : Int32) (v3 : Int32) (M_3 : mm_M) => mm_let (v3 + 1) fun v3_4 => lp_Service_orderStays_4 v1 k133 n v2 v3_4 M_3) fun j127 => if b_1 = true then mm_bd (f_Law_askAbout_7_5_4 v3 M_2) fun u_5 M_6 => mm_bd (f_Law_askAt_7 v1 0 0 0 M_6) fun u_7 M_8 => mm_bd (f_Law_answerBy_7 112 M_8) fun r_9 M_10 => if mm_in v3 (mm_al 89) = true then mm_let (mm_setA M_10 89 (v3.toNatClampNeg) r_9) fun M_11 => lp_Service_orderStays_66 v1 v2 v3 (fun (v4 : Int32) (M_14 : mm_M) => if mm_in v4 (mm_al 88) = true then mm_let (mm_setA M_14 88 (v4.toNatClampNeg) v3) fun M_15 => mm_let (v2 + 1) fun v2_16 => j127 v2_16 v3 M_15 else none) mm_fu v2 M_11 else none else j127 v2 v3 M_2
set_option maxHeartbeats 4000000 in
theorem lp_Service_orderStays_4_ok (E : mm_E) (v1 : Int32) {k133 : Int32 → mm_M → Option (Int32 × mm_M)} (hk133 : ∀ (v2 : Int32) (M : mm_M), mm_G (fun x : Int32 => some (.int x)) E Y_X8_orderStays 4 133 [(2, .int v2)] [] M (k133 v2 M)) : ∀ (n : Nat) (v2 : Int32) (v3 : Int32) (M : mm_M), mm_G (fun x : Int32 => some (.int x)) E Y_X8_orderStays 4 4 [(0, .ref 12), (1, .int v1), (2, .int v2), (3, .int v3)] [] M (lp_Service_orderStays_4 v1 k133 n v2 v3 M) := by
  intro n
  induction n with
  | zero => intro v2 v3 M r M2 he; cases he
  | succ n ih =>
    intro v2 v3 M
    rw [lp_Service_orderStays_4]
    refine mm_iload_n 3 dX8_orderStays_4 rfl ?_
    refine mm_bipush (v := 10) dX8_orderStays_5 rfl ?_
    refine mm_icmp_ge 133 dX8_orderStays_7 rfl ?_ ?_
    · refine mm_wk [2] rfl ?_
      exact hk133 v2 M
    · refine mm_aload_n 0 dX8_orderStays_10 rfl ?_
      refine mm_getR 5 dX8_orderStays_11 fl_RX8_45 lo_12 rfl ?_
      refine mm_iload_n 3 dX8_orderStays_14 rfl ?_
      refine mm_callVz (as := [.int v3]) (st := []) (c_Register_has_5 E v3 M) dX8_orderStays_15 mz_X7_has lk_RX8_105 im_X7_has se_X7_has lo_5 rfl rfl rfl ⟨Nat.le_of_ble_eq_true rfl, Nat.le_of_ble_eq_true rfl⟩ (Nat.le_of_ble_eq_true rfl) (fun b_1 M_2 => ?_)
      refine mm_jnP (P := fun j => ∀ (v2 : Int32) (v3 : Int32) (M : mm_M), mm_G (fun x : Int32 => some (.int x)) E Y_X8_orderStays 4 127 [(0, .ref 12), (1, .int v1), (2, .int v2), (3, .int v3)] [] M (j v2 v3 M)) ?_ (fun j127 hj127 => ?_)
      · intro v2 v3 M_3
        refine mm_iincN 3 [1, 2, 3, 0] (v := v3 + 1) (lv2 := fun v3_4 => [(0, .ref 12), (1, .int v1), (2, .int v2), (3, .int v3_4)]) dX8_orderStays_127 rfl rfl (by decide) (fun _ => rfl) (fun v3_4 => ?_)
        refine mm_goto 4 dX8_orderStays_130 rfl ?_
        exact ih v2 v3_4 M_3
      refine mm_if_eq_b 127 dX8_orderStays_18 rfl ?_ ?_
      · exact hj127 v2 v3 M_2
      · refine mm_aload_n 0 dX8_orderStays_21 rfl ?_
        refine mm_getR 7 dX8_orderStays_22 fl_RX8_49 lo_12 rfl ?_
        refine mm_iload_n 3 dX8_orderStays_25 rfl ?_
        refine mm_aload_n 0 dX8_orderStays_26 rfl ?_
        refine mm_getR 5 dX8_orderStays_27 fl_RX8_45 lo_12 rfl ?_
        refine mm_aload_n 0 dX8_orderStays_30 rfl ?_
        refine mm_getR 4 dX8_orderStays_31 fl_RX8_41 lo_12 rfl ?_
        refine mm_callVv (as := [.int v3, .ref 5, .ref 4]) (st := []) (c_Law_askAbout_7_5_4 E v3 M_2) dX8_orderStays_34 mz_X3_askAbout lk_RX8_111 im_X3_askAbout se_X3_askAbout lo_7 rfl rfl rfl ⟨Nat.le_of_ble_eq_true rfl, Nat.le_of_ble_eq_true rfl⟩ (Nat.le_of_ble_eq_true rfl) (fun u_5 M_6 => ?_)
        refine mm_aload_n 0 dX8_orderStays_37 rfl ?_
        refine mm_getR 7 dX8_orderStays_38 fl_RX8_49 lo_12 rfl ?_
        refine mm_iload_n 1 dX8_orderStays_41 rfl ?_
        refine mm_iconst (v := 0) dX8_orderStays_42 rfl ?_
        refine mm_iconst (v := 0) dX8_orderStays_43 rfl ?_
        refine mm_iconst (v := 0) dX8_orderStays_44 rfl ?_
        refine mm_callVv (as := [.int v1, .int 0, .int 0, .int 0]) (st := []) (c_Law_askAt_7 E v1 0 0 0 M_6) dX8_orderStays_45 mz_X3_askAt lk_RX8_117 im_X3_askAt se_X3_askAt lo_7 rfl rfl rfl ⟨Nat.le_of_ble_eq_true rfl, Nat.le_of_ble_eq_true rfl⟩ (Nat.le_of_ble_eq_true rfl) (fun u_7 M_8 => ?_)
        refine mm_aload_n 0 dX8_orderStays_48 rfl ?_
        refine mm_getR 89 dX8_orderStays_49 fl_RX8_23 lo_12 rfl ?_
        refine mm_iload_n 3 dX8_orderStays_52 rfl ?_
        refine mm_aload_n 0 dX8_orderStays_53 rfl ?_
        refine mm_getR 7 dX8_orderStays_54 fl_RX8_49 lo_12 rfl ?_
        refine mm_bipush (v := 112) dX8_orderStays_57 rfl ?_
        refine mm_callVi (as := [.int 112]) (st := [.int v3, .ref 89]) (c_Law_answerBy_7 E 112 M_8) dX8_orderStays_59 mz_X3_answerBy lk_RX8_121 im_X3_answerBy se_X3_answerBy lo_7 rfl rfl rfl ⟨Nat.le_of_ble_eq_true rfl, Nat.le_of_ble_eq_true rfl⟩ (Nat.le_of_ble_eq_true rfl) (fun r_9 M_10 => ?_)
        refine mm_iastore dX8_orderStays_62 ?_
        refine mm_nm_M (fun M_11 => ?_)
        refine mm_iload_n 2 dX8_orderStays_63 rfl ?_
        refine mm_istore [1, 2, 3, 4, 0] (lv2 := [(0, .ref 12), (1, .int v1), (2, .int v2), (3, .int v3), (4, .int v2)]) dX8_orderStays_64 (by decide) rfl ?_
        refine lp_Service_orderStays_66_ok E v1 v2 v3 ?_ mm_fu v2 M_11
        · intro v4 M_14
          refine mm_aload_n 0 dX8_orderStays_116 rfl ?_
          refine mm_getR 88 dX8_orderStays_117 fl_RX8_20 lo_12 rfl ?_
          refine mm_iload 4 dX8_orderStays_120 rfl ?_
          refine mm_iload_n 3 dX8_orderStays_122 rfl ?_
          refine mm_iastore dX8_orderStays_123 ?_
          refine mm_nm_M (fun M_15 => ?_)
          refine mm_iincN 2 [1, 2, 0, 3, 4] (v := v2 + 1) (lv2 := fun v2_16 => [(0, .ref 12), (1, .int v1), (2, .int v2_16), (3, .int v3), (4, .int v4)]) dX8_orderStays_124 rfl rfl (by decide) (fun _ => rfl) (fun v2_16 => ?_)
          refine mm_wk [0, 1, 2, 3] rfl ?_
          exact hj127 v2_16 v3 M_15
def f_Service_orderStays (v1 : Int32) (M : mm_M) : Option (Int32 × mm_M) := lp_Service_orderStays_4 v1 (fun (v2 : Int32) (M_17 : mm_M) => some (v2, M_17)) mm_fu 0 0 M
set_option maxHeartbeats 4000000 in
theorem c_Service_orderStays (E : mm_E) (v1 : Int32) (M : mm_M) : ∀ (r : Int32) (M2 : mm_M), f_Service_orderStays v1 M = some (r, M2) → mm_P E Y_X8_orderStays 4 [.ref 12, .int v1] M (some (.int r)) M2 := by
  refine mm_entry (em := (fun x : Int32 => some (.int x))) (by decide +kernel) (Nat.le_of_ble_eq_true rfl) ?_
  show mm_G _ E _ _ 0 [(0, .ref 12), (1, .int v1)] [] M _
  unfold f_Service_orderStays
  refine mm_iconst (v := 0) dX8_orderStays_0 rfl ?_
  refine mm_istore_n [1, 2, 0] (lv2 := [(0, .ref 12), (1, .int v1), (2, .int 0)]) dX8_orderStays_1 (by decide) rfl ?_
  refine mm_iconst (v := 0) dX8_orderStays_2 rfl ?_
  refine mm_istore_n [1, 2, 3, 0] (lv2 := [(0, .ref 12), (1, .int v1), (2, .int 0), (3, .int 0)]) dX8_orderStays_3 (by decide) rfl ?_
  refine lp_Service_orderStays_4_ok E v1 ?_ mm_fu 0 0 M
  · intro v2 M_17
    refine mm_iload_n 0 dX8_orderStays_133 rfl ?_
    exact mm_iret dX8_orderStays_134 rfl
def f_Service_harmOf (v1 : Int32) (v2 : Int32) (v3 : Int32) (M : mm_M) : Option (Int32 × mm_M) := if v3 = 0 then some (0, M) else mm_bd (f_Law_askAbout_7_5_4 v1 M) fun u_1 M_2 => if mm_in v1 10 = true then if mm_in v2 (mm_al (62 + v1.toNatClampNeg)) = true then mm_bd (f_Law_askAt_7 (mm_rem v2 24) (v2 / 24) (M_2.2.1 (62 + v1.toNatClampNeg) v2.toNatClampNeg) v3 M_2) fun u_3 M_4 => mm_bd (f_Law_answerBy_7 109 M_4) fun r_5 M_6 => some (v3 * r_5, M_6) else none else none
set_option maxHeartbeats 4000000 in
theorem c_Service_harmOf (E : mm_E) (v1 : Int32) (v2 : Int32) (v3 : Int32) (M : mm_M) : ∀ (r : Int32) (M2 : mm_M), f_Service_harmOf v1 v2 v3 M = some (r, M2) → mm_P E Y_X8_harmOf 4 [.ref 12, .int v1, .int v2, .int v3] M (some (.int r)) M2 := by
  refine mm_entry (em := (fun x : Int32 => some (.int x))) (by decide +kernel) (Nat.le_of_ble_eq_true rfl) ?_
  show mm_G _ E _ _ 0 [(0, .ref 12), (1, .int v1), (2, .int v2), (3, .int v3)] [] M _
  unfold f_Service_harmOf
  refine mm_iload_n 3 dX8_harmOf_0 rfl ?_
  refine mm_if_ne 6 dX8_harmOf_1 rfl ?_ ?_
  · refine mm_aload_n 0 dX8_harmOf_6 rfl ?_
    refine mm_getR 7 dX8_harmOf_7 fl_RX8_49 lo_12 rfl ?_
    refine mm_iload_n 1 dX8_harmOf_10 rfl ?_
    refine mm_aload_n 0 dX8_harmOf_11 rfl ?_
    refine mm_getR 5 dX8_harmOf_12 fl_RX8_45 lo_12 rfl ?_
    refine mm_aload_n 0 dX8_harmOf_15 rfl ?_
    refine mm_getR 4 dX8_harmOf_16 fl_RX8_41 lo_12 rfl ?_
    refine mm_callVv (as := [.int v1, .ref 5, .ref 4]) (st := []) (c_Law_askAbout_7_5_4 E v1 M) dX8_harmOf_19 mz_X3_askAbout lk_RX8_111 im_X3_askAbout se_X3_askAbout lo_7 rfl rfl rfl ⟨Nat.le_of_ble_eq_true rfl, Nat.le_of_ble_eq_true rfl⟩ (Nat.le_of_ble_eq_true rfl) (fun u_1 M_2 => ?_)
    refine mm_aload_n 0 dX8_harmOf_22 rfl ?_
    refine mm_getR 7 dX8_harmOf_23 fl_RX8_49 lo_12 rfl ?_
    refine mm_iload_n 2 dX8_harmOf_26 rfl ?_
    refine mm_bipush (v := 24) dX8_harmOf_27 rfl ?_
    refine mm_irem_c dX8_harmOf_29 (by decide) ?_
    refine mm_iload_n 2 dX8_harmOf_30 rfl ?_
    refine mm_bipush (v := 24) dX8_harmOf_31 rfl ?_
    refine mm_idiv_c dX8_harmOf_33 (by decide) ?_
    refine mm_aload_n 0 dX8_harmOf_34 rfl ?_
    refine mm_getR 10 dX8_harmOf_35 fl_RX8_53 lo_12 rfl ?_
    refine mm_getR 61 dX8_harmOf_38 fl_RX8_125 lo_10 rfl ?_
    refine mm_iload_n 1 dX8_harmOf_41 rfl ?_
    refine mm_aaload dX8_harmOf_42 lo_61 ?_
    refine mm_iload_n 2 dX8_harmOf_43 rfl ?_
    refine mm_iaload dX8_harmOf_44 ?_
    refine mm_iload_n 3 dX8_harmOf_45 rfl ?_
    refine mm_callVv (as := [.int (mm_rem v2 24), .int (v2 / 24), .int (M_2.2.1 (62 + v1.toNatClampNeg) v2.toNatClampNeg), .int v3]) (st := []) (c_Law_askAt_7 E (mm_rem v2 24) (v2 / 24) (M_2.2.1 (62 + v1.toNatClampNeg) v2.toNatClampNeg) v3 M_2) dX8_harmOf_46 mz_X3_askAt lk_RX8_117 im_X3_askAt se_X3_askAt lo_7 rfl rfl rfl ⟨Nat.le_of_ble_eq_true rfl, Nat.le_of_ble_eq_true rfl⟩ (Nat.le_of_ble_eq_true rfl) (fun u_3 M_4 => ?_)
    refine mm_iload_n 3 dX8_harmOf_49 rfl ?_
    refine mm_aload_n 0 dX8_harmOf_50 rfl ?_
    refine mm_getR 7 dX8_harmOf_51 fl_RX8_49 lo_12 rfl ?_
    refine mm_bipush (v := 109) dX8_harmOf_54 rfl ?_
    refine mm_callVi (as := [.int 109]) (st := [.int v3]) (c_Law_answerBy_7 E 109 M_4) dX8_harmOf_56 mz_X3_answerBy lk_RX8_121 im_X3_answerBy se_X3_answerBy lo_7 rfl rfl rfl ⟨Nat.le_of_ble_eq_true rfl, Nat.le_of_ble_eq_true rfl⟩ (Nat.le_of_ble_eq_true rfl) (fun r_5 M_6 => ?_)
    refine mm_imul dX8_harmOf_59 ?_
    exact mm_iret dX8_harmOf_60 rfl
  · refine mm_iconst (v := 0) dX8_harmOf_4 rfl ?_
    exact mm_iret dX8_harmOf_5 rfl
def f_Service_giveRain (v1 : Int32) (v2 : Int32) (M : mm_M) : Option (Int32 × mm_M) := if mm_in 0 (mm_al 90) = true then mm_bd (f_Math_min v2 (M.2.1 90 (0 : Int32).toNatClampNeg) M) fun r_1 M_2 => if mm_in v1 (mm_al 91) = true then mm_bd (f_Math_min (M_2.2.1 91 v1.toNatClampNeg) (M_2.1 12 7) M_2) fun r_3 M_4 => mm_bd (f_Math_min r_1 r_3 M_4) fun r_5 M_6 => if mm_in v1 (mm_al 91) = true then if mm_in v1 (mm_al 91) = true then mm_let (mm_setA M_6 91 (v1.toNatClampNeg) ((M_6.2.1 91 v1.toNatClampNeg) - r_5)) fun M_7 => mm_let (mm_setI M_7 12 7 ((M_7.1 12 7) - r_5)) fun M_8 => some (r_5, M_8) else none else none else none else none
set_option maxHeartbeats 4000000 in
theorem c_Service_giveRain (E : mm_E) (v1 : Int32) (v2 : Int32) (M : mm_M) : ∀ (r : Int32) (M2 : mm_M), f_Service_giveRain v1 v2 M = some (r, M2) → mm_P E Y_X8_giveRain 2 [.ref 12, .int v1, .int v2] M (some (.int r)) M2 := by
  refine mm_entry (em := (fun x : Int32 => some (.int x))) (by decide +kernel) (Nat.le_of_ble_eq_true rfl) ?_
  show mm_G _ E _ _ 0 [(0, .ref 12), (1, .int v1), (2, .int v2)] [] M _
  unfold f_Service_giveRain
  refine mm_iload_n 2 dX8_giveRain_0 rfl ?_
  refine mm_aload_n 0 dX8_giveRain_1 rfl ?_
  refine mm_getR 90 dX8_giveRain_2 fl_RX8_26 lo_12 rfl ?_
  refine mm_iconst (v := 0) dX8_giveRain_5 rfl ?_
  refine mm_iaload dX8_giveRain_6 ?_
  refine mm_callSi (as := [.int v2, .int (M.2.1 90 (0 : Int32).toNatClampNeg)]) (st := []) (c_Math_min E v2 (M.2.1 90 (0 : Int32).toNatClampNeg) M) dX8_giveRain_7 mz_J9_min_7cf53 lk_RX8_135 sm_J9_min_7cf53 rfl ⟨Nat.le_of_ble_eq_true rfl, Nat.le_of_ble_eq_true rfl⟩ (Nat.le_of_ble_eq_true rfl) (fun r_1 M_2 => ?_)
  refine mm_aload_n 0 dX8_giveRain_10 rfl ?_
  refine mm_getR 91 dX8_giveRain_11 fl_RX8_29 lo_12 rfl ?_
  refine mm_iload_n 1 dX8_giveRain_14 rfl ?_
  refine mm_iaload dX8_giveRain_15 ?_
  refine mm_aload_n 0 dX8_giveRain_16 rfl ?_
  refine mm_getI dX8_giveRain_17 fl_RX8_71 lo_12 rfl ?_
  refine mm_callSi (as := [.int (M_2.2.1 91 v1.toNatClampNeg), .int (M_2.1 12 7)]) (st := [.int r_1]) (c_Math_min E (M_2.2.1 91 v1.toNatClampNeg) (M_2.1 12 7) M_2) dX8_giveRain_20 mz_J9_min_7cf53 lk_RX8_135 sm_J9_min_7cf53 rfl ⟨Nat.le_of_ble_eq_true rfl, Nat.le_of_ble_eq_true rfl⟩ (Nat.le_of_ble_eq_true rfl) (fun r_3 M_4 => ?_)
  refine mm_callSi (as := [.int r_1, .int r_3]) (st := []) (c_Math_min E r_1 r_3 M_4) dX8_giveRain_23 mz_J9_min_7cf53 lk_RX8_135 sm_J9_min_7cf53 rfl ⟨Nat.le_of_ble_eq_true rfl, Nat.le_of_ble_eq_true rfl⟩ (Nat.le_of_ble_eq_true rfl) (fun r_5 M_6 => ?_)
  refine mm_istore_n [1, 2, 3, 0] (lv2 := [(0, .ref 12), (1, .int v1), (2, .int v2), (3, .int r_5)]) dX8_giveRain_26 (by decide) rfl ?_
  refine mm_aload_n 0 dX8_giveRain_27 rfl ?_
  refine mm_getR 91 dX8_giveRain_28 fl_RX8_29 lo_12 rfl ?_
  refine mm_iload_n 1 dX8_giveRain_31 rfl ?_
  refine mm_dup2 dX8_giveRain_32 rfl rfl ?_
  refine mm_iaload dX8_giveRain_33 ?_
  refine mm_iload_n 3 dX8_giveRain_34 rfl ?_
  refine mm_isub dX8_giveRain_35 ?_
  refine mm_iastore dX8_giveRain_36 ?_
  refine mm_nm_M (fun M_7 => ?_)
  refine mm_aload_n 0 dX8_giveRain_37 rfl ?_
  refine mm_dup dX8_giveRain_38 rfl ?_
  refine mm_getI dX8_giveRain_39 fl_RX8_71 lo_12 rfl ?_
  refine mm_iload_n 3 dX8_giveRain_42 rfl ?_
  refine mm_isub dX8_giveRain_43 ?_
  refine mm_putI dX8_giveRain_44 fp_RX8_71 lo_12 rfl ?_
  refine mm_nm_M (fun M_8 => ?_)
  refine mm_iload_n 3 dX8_giveRain_47 rfl ?_
  exact mm_iret dX8_giveRain_48 rfl
def lp_Service_serve_2 (v1 : Int32) (v2 : Int32) (k127 : mm_M → Option (Unit × mm_M)) : Nat → Int32 → mm_M → Option (Unit × mm_M)
  | 0, _, _ => none
  | n + 1, v3, M => if 3 ≤ v3 then k127 M else mm_let ((v3 * 24) + v2) fun v4_1 => if mm_in v1 10 = true then if mm_in v4_1 (mm_al (62 + v1.toNatClampNeg)) = true then mm_let (M.2.1 (62 + v1.toNatClampNeg) v4_1.toNatClampNeg) fun v5_2 => mm_jn (fun (v3 : Int32) (v4 : Int32) (v5 : Int32) (s0 : Int32) (M_3 : mm_M) => if mm_in v3 (mm_al 90) = true then if mm_in v3 (mm_al 90) = true then mm_let (mm_setA M_3 90 (v3.toNatClampNeg) ((M_3.2.1 90 v3.toNatClampNeg) - s0)) fun M_4 => if mm_in v1 10 = true then if mm_in v4 (mm_al (77 + v1.toNatClampNeg)) = true then mm_let (mm_setA M_4 (77 + v1.toNatClampNeg) (v4.toNatClampNeg) s0) fun M_5 => if mm_in v1 (mm_al 87) = true then if mm_in v1 (mm_al 87) = true then mm_let (mm_setA M_5 87 (v1.toNatClampNeg) ((M_5.2.1 87 v1.toNatClampNeg) + (v5 - s0))) fun M_6 => mm_bd (f_Service_harmOf v1 v4 (v5 - s0) M_6) fun r_7 M_8 => mm_let (mm_setI M_8 12 6 ((M_6.1 12 6) + r_7)) fun M_9 => mm_let (v3 + 1) fun v3_10 => lp_Service_serve_2 v1 v2 k127 n v3_10 M_9 else none else none else none else none else none else none) fun j62 => if v3 = 0 then if mm_in v1 (mm_al 72) = true then mm_bd (f_Service_giveRain (M.2.1 72 v1.toNatClampNeg) v5_2 M) fun r_13 M_14 => j62 v3 v4_1 v5_2 r_13 M_14 else none else if mm_in v3 (mm_al 90) = true then mm_bd (f_Math_min v5_2 (M.2.1 90 v3.toNatClampNeg) M) fun r_11 M_12 => j62 v3 v4_1 v5_2 r_11 M_12 else none else none else none
set_option maxHeartbeats 4000000 in
theorem lp_Service_serve_2_ok (E : mm_E) (v1 : Int32) (v2 : Int32) {k127 : mm_M → Option (Unit × mm_M)} (hk127 : ∀ (M : mm_M), mm_G (fun _ : Unit => none) E Y_X8_serve 5 127 [] [] M (k127 M)) : ∀ (n : Nat) (v3 : Int32) (M : mm_M), mm_G (fun _ : Unit => none) E Y_X8_serve 5 2 [(0, .ref 12), (1, .int v1), (2, .int v2), (3, .int v3)] [] M (lp_Service_serve_2 v1 v2 k127 n v3 M) := by
  intro n
  induction n with
  | zero => intro v3 M r M2 he; cases he
  | succ n ih =>
    intro v3 M
    rw [lp_Service_serve_2]
    refine mm_iload_n 3 dX8_serve_2 rfl ?_
    refine mm_iconst (v := 3) dX8_serve_3 rfl ?_
    refine mm_icmp_ge 127 dX8_serve_4 rfl ?_ ?_
    · refine mm_wk [] rfl ?_
      exact hk127  M
    · refine mm_iload_n 3 dX8_serve_7 rfl ?_
      refine mm_bipush (v := 24) dX8_serve_8 rfl ?_
      refine mm_imul dX8_serve_10 ?_
      refine mm_iload_n 2 dX8_serve_11 rfl ?_
      refine mm_iadd dX8_serve_12 ?_
      refine mm_nm_int (fun v4_1 => ?_)
      refine mm_istore [1, 2, 3, 4, 0] (lv2 := [(0, .ref 12), (1, .int v1), (2, .int v2), (3, .int v3), (4, .int v4_1)]) dX8_serve_13 (by decide) rfl ?_
      refine mm_aload_n 0 dX8_serve_15 rfl ?_
      refine mm_getR 10 dX8_serve_16 fl_RX8_53 lo_12 rfl ?_
      refine mm_getR 61 dX8_serve_19 fl_RX8_125 lo_10 rfl ?_
      refine mm_iload_n 1 dX8_serve_22 rfl ?_
      refine mm_aaload dX8_serve_23 lo_61 ?_
      refine mm_iload 4 dX8_serve_24 rfl ?_
      refine mm_iaload dX8_serve_26 ?_
      refine mm_nm_int (fun v5_2 => ?_)
      refine mm_istore [1, 2, 3, 4, 5, 0] (lv2 := [(0, .ref 12), (1, .int v1), (2, .int v2), (3, .int v3), (4, .int v4_1), (5, .int v5_2)]) dX8_serve_27 (by decide) rfl ?_
      refine mm_iload_n 3 dX8_serve_29 rfl ?_
      refine mm_jnP (P := fun j => ∀ (v3 : Int32) (v4 : Int32) (v5 : Int32) (s0 : Int32) (M : mm_M), mm_G (fun _ : Unit => none) E Y_X8_serve 5 62 [(0, .ref 12), (1, .int v1), (2, .int v2), (3, .int v3), (4, .int v4), (5, .int v5)] [.int s0] M (j v3 v4 v5 s0 M)) ?_ (fun j62 hj62 => ?_)
      · intro v3 v4 v5 s0 M_3
        refine mm_istore [1, 2, 3, 4, 5, 6, 0] (lv2 := [(0, .ref 12), (1, .int v1), (2, .int v2), (3, .int v3), (4, .int v4), (5, .int v5), (6, .int s0)]) dX8_serve_62 (by decide) rfl ?_
        refine mm_aload_n 0 dX8_serve_64 rfl ?_
        refine mm_getR 90 dX8_serve_65 fl_RX8_26 lo_12 rfl ?_
        refine mm_iload_n 3 dX8_serve_68 rfl ?_
        refine mm_dup2 dX8_serve_69 rfl rfl ?_
        refine mm_iaload dX8_serve_70 ?_
        refine mm_iload 6 dX8_serve_71 rfl ?_
        refine mm_isub dX8_serve_73 ?_
        refine mm_iastore dX8_serve_74 ?_
        refine mm_nm_M (fun M_4 => ?_)
        refine mm_aload_n 0 dX8_serve_75 rfl ?_
        refine mm_getR 76 dX8_serve_76 fl_RX8_11 lo_12 rfl ?_
        refine mm_iload_n 1 dX8_serve_79 rfl ?_
        refine mm_aaload dX8_serve_80 lo_76 ?_
        refine mm_iload 4 dX8_serve_81 rfl ?_
        refine mm_iload 6 dX8_serve_83 rfl ?_
        refine mm_iastore dX8_serve_85 ?_
        refine mm_nm_M (fun M_5 => ?_)
        refine mm_aload_n 0 dX8_serve_86 rfl ?_
        refine mm_getR 87 dX8_serve_87 fl_RX8_16 lo_12 rfl ?_
        refine mm_iload_n 1 dX8_serve_90 rfl ?_
        refine mm_dup2 dX8_serve_91 rfl rfl ?_
        refine mm_iaload dX8_serve_92 ?_
        refine mm_iload 5 dX8_serve_93 rfl ?_
        refine mm_iload 6 dX8_serve_95 rfl ?_
        refine mm_isub dX8_serve_97 ?_
        refine mm_iadd dX8_serve_98 ?_
        refine mm_iastore dX8_serve_99 ?_
        refine mm_nm_M (fun M_6 => ?_)
        refine mm_aload_n 0 dX8_serve_100 rfl ?_
        refine mm_dup dX8_serve_101 rfl ?_
        refine mm_getI dX8_serve_102 fl_RX8_62 lo_12 rfl ?_
        refine mm_aload_n 0 dX8_serve_105 rfl ?_
        refine mm_iload_n 1 dX8_serve_106 rfl ?_
        refine mm_iload 4 dX8_serve_107 rfl ?_
        refine mm_iload 5 dX8_serve_109 rfl ?_
        refine mm_iload 6 dX8_serve_111 rfl ?_
        refine mm_isub dX8_serve_113 ?_
        refine mm_callVi (as := [.int v1, .int v4, .int (v5 - s0)]) (st := [.int (M_6.1 12 6), .ref 12]) (c_Service_harmOf E v1 v4 (v5 - s0) M_6) dX8_serve_114 mz_X8_harmOf lk_RX8_140 im_X8_harmOf se_X8_harmOf lo_12 rfl rfl rfl ⟨Nat.le_of_ble_eq_true rfl, Nat.le_of_ble_eq_true rfl⟩ (Nat.le_of_ble_eq_true rfl) (fun r_7 M_8 => ?_)
        refine mm_iadd dX8_serve_117 ?_
        refine mm_putI dX8_serve_118 fp_RX8_62 lo_12 rfl ?_
        refine mm_nm_M (fun M_9 => ?_)
        refine mm_iincN 3 [1, 2, 3, 0, 4, 5, 6] (v := v3 + 1) (lv2 := fun v3_10 => [(0, .ref 12), (1, .int v1), (2, .int v2), (3, .int v3_10), (4, .int v4), (5, .int v5), (6, .int s0)]) dX8_serve_121 rfl rfl (by decide) (fun _ => rfl) (fun v3_10 => ?_)
        refine mm_goto 2 dX8_serve_124 rfl ?_
        refine mm_wk [0, 1, 2, 3] rfl ?_
        exact ih v3_10 M_9
      refine mm_if_ne 51 dX8_serve_30 rfl ?_ ?_
      · refine mm_iload 5 dX8_serve_51 rfl ?_
        refine mm_aload_n 0 dX8_serve_53 rfl ?_
        refine mm_getR 90 dX8_serve_54 fl_RX8_26 lo_12 rfl ?_
        refine mm_iload_n 3 dX8_serve_57 rfl ?_
        refine mm_iaload dX8_serve_58 ?_
        refine mm_callSi (as := [.int v5_2, .int (M.2.1 90 v3.toNatClampNeg)]) (st := []) (c_Math_min E v5_2 (M.2.1 90 v3.toNatClampNeg) M) dX8_serve_59 mz_J9_min_7cf53 lk_RX8_135 sm_J9_min_7cf53 rfl ⟨Nat.le_of_ble_eq_true rfl, Nat.le_of_ble_eq_true rfl⟩ (Nat.le_of_ble_eq_true rfl) (fun r_11 M_12 => ?_)
        exact hj62 v3 v4_1 v5_2 r_11 M_12
      · refine mm_aload_n 0 dX8_serve_33 rfl ?_
        refine mm_aload_n 0 dX8_serve_34 rfl ?_
        refine mm_getR 10 dX8_serve_35 fl_RX8_53 lo_12 rfl ?_
        refine mm_getR 72 dX8_serve_38 fl_RX8_128 lo_10 rfl ?_
        refine mm_iload_n 1 dX8_serve_41 rfl ?_
        refine mm_iaload dX8_serve_42 ?_
        refine mm_iload 5 dX8_serve_43 rfl ?_
        refine mm_callVi (as := [.int (M.2.1 72 v1.toNatClampNeg), .int v5_2]) (st := []) (c_Service_giveRain E (M.2.1 72 v1.toNatClampNeg) v5_2 M) dX8_serve_45 mz_X8_giveRain lk_RX8_131 im_X8_giveRain se_X8_giveRain lo_12 rfl rfl rfl ⟨Nat.le_of_ble_eq_true rfl, Nat.le_of_ble_eq_true rfl⟩ (Nat.le_of_ble_eq_true rfl) (fun r_13 M_14 => ?_)
        refine mm_goto 62 dX8_serve_48 rfl ?_
        exact hj62 v3 v4_1 v5_2 r_13 M_14
def f_Service_serve (v1 : Int32) (v2 : Int32) (M : mm_M) : Option (Unit × mm_M) := lp_Service_serve_2 v1 v2 (fun (M_15 : mm_M) => some ((), M_15)) mm_fu 0 M
set_option maxHeartbeats 4000000 in
theorem c_Service_serve (E : mm_E) (v1 : Int32) (v2 : Int32) (M : mm_M) : ∀ (r : Unit) (M2 : mm_M), f_Service_serve v1 v2 M = some (r, M2) → mm_P E Y_X8_serve 5 [.ref 12, .int v1, .int v2] M none M2 := by
  refine mm_entry (em := (fun _ : Unit => none)) (by decide +kernel) (Nat.le_of_ble_eq_true rfl) ?_
  show mm_G _ E _ _ 0 [(0, .ref 12), (1, .int v1), (2, .int v2)] [] M _
  unfold f_Service_serve
  refine mm_iconst (v := 0) dX8_serve_0 rfl ?_
  refine mm_istore_n [1, 2, 3, 0] (lv2 := [(0, .ref 12), (1, .int v1), (2, .int v2), (3, .int 0)]) dX8_serve_1 (by decide) rfl ?_
  refine lp_Service_serve_2_ok E v1 v2 ?_ mm_fu 0 M
  · intro M_15
    exact mm_vret dX8_serve_127 rfl
def lp_Service_serveHour_57 (v1 : Int32) (v2 : Int32) (k79 : mm_M → Option (Unit × mm_M)) : Nat → Int32 → mm_M → Option (Unit × mm_M)
  | 0, _, _ => none
  | n + 1, v3, M => if v2 ≤ v3 then k79 M else if mm_in v3 (mm_al 88) = true then mm_bd (f_Service_serve (M.2.1 88 v3.toNatClampNeg) v1 M) fun u_8 M_9 => mm_let (v3 + 1) fun v3_10 => lp_Service_serveHour_57 v1 v2 k79 n v3_10 M_9 else none
set_option maxHeartbeats 4000000 in
theorem lp_Service_serveHour_57_ok (E : mm_E) (v1 : Int32) (v2 : Int32) {k79 : mm_M → Option (Unit × mm_M)} (hk79 : ∀ (M : mm_M), mm_G (fun _ : Unit => none) E Y_X8_serveHour 6 79 [] [] M (k79 M)) : ∀ (n : Nat) (v3 : Int32) (M : mm_M), mm_G (fun _ : Unit => none) E Y_X8_serveHour 6 57 [(0, .ref 12), (1, .int v1), (2, .int v2), (3, .int v3)] [] M (lp_Service_serveHour_57 v1 v2 k79 n v3 M) := by
  intro n
  induction n with
  | zero => intro v3 M r M2 he; cases he
  | succ n ih =>
    intro v3 M
    rw [lp_Service_serveHour_57]
    refine mm_iload_n 3 dX8_serveHour_57 rfl ?_
    refine mm_iload_n 2 dX8_serveHour_58 rfl ?_
    refine mm_icmp_ge 79 dX8_serveHour_59 rfl ?_ ?_
    · refine mm_wk [] rfl ?_
      exact hk79  M
    · refine mm_aload_n 0 dX8_serveHour_62 rfl ?_
      refine mm_aload_n 0 dX8_serveHour_63 rfl ?_
      refine mm_getR 88 dX8_serveHour_64 fl_RX8_20 lo_12 rfl ?_
      refine mm_iload_n 3 dX8_serveHour_67 rfl ?_
      refine mm_iaload dX8_serveHour_68 ?_
      refine mm_iload_n 1 dX8_serveHour_69 rfl ?_
      refine mm_callVv (as := [.int (M.2.1 88 v3.toNatClampNeg), .int v1]) (st := []) (c_Service_serve E (M.2.1 88 v3.toNatClampNeg) v1 M) dX8_serveHour_70 mz_X8_serve lk_RX8_101 im_X8_serve se_X8_serve lo_12 rfl rfl rfl ⟨Nat.le_of_ble_eq_true rfl, Nat.le_of_ble_eq_true rfl⟩ (Nat.le_of_ble_eq_true rfl) (fun u_8 M_9 => ?_)
      refine mm_iincN 3 [1, 2, 3, 0] (v := v3 + 1) (lv2 := fun v3_10 => [(0, .ref 12), (1, .int v1), (2, .int v2), (3, .int v3_10)]) dX8_serveHour_73 rfl rfl (by decide) (fun _ => rfl) (fun v3_10 => ?_)
      refine mm_goto 57 dX8_serveHour_76 rfl ?_
      exact ih v3_10 M_9
def f_Service_serveHour (v1 : Int32) (M : mm_M) : Option (Unit × mm_M) := mm_bd (f_House_afterInflow (M.1 12 7) M) fun r_1 M_2 => mm_let (mm_setI M_2 12 7 r_1) fun M_3 => if mm_cpok 34 90 0 0 3 = true then mm_let (mm_cp M_3 34 90 0 0 3) fun M_4 => if mm_cpok 36 91 0 0 4 = true then mm_let (mm_cp M_4 36 91 0 0 4) fun M_5 => mm_bd (f_Service_orderStays v1 M_5) fun r_6 M_7 => lp_Service_serveHour_57 v1 r_6 (fun (M_11 : mm_M) => some ((), M_11)) mm_fu 0 M_7 else none else none
set_option maxHeartbeats 4000000 in
theorem c_Service_serveHour (E : mm_E) (v1 : Int32) (M : mm_M) : ∀ (r : Unit) (M2 : mm_M), f_Service_serveHour v1 M = some (r, M2) → mm_P E Y_X8_serveHour 6 [.ref 12, .int v1] M none M2 := by
  refine mm_entry (em := (fun _ : Unit => none)) (by decide +kernel) (Nat.le_of_ble_eq_true rfl) ?_
  show mm_G _ E _ _ 0 [(0, .ref 12), (1, .int v1)] [] M _
  unfold f_Service_serveHour
  refine mm_aload_n 0 dX8_serveHour_0 rfl ?_
  refine mm_aload_n 0 dX8_serveHour_1 rfl ?_
  refine mm_getR 4 dX8_serveHour_2 fl_RX8_41 lo_12 rfl ?_
  refine mm_aload_n 0 dX8_serveHour_5 rfl ?_
  refine mm_getI dX8_serveHour_6 fl_RX8_71 lo_12 rfl ?_
  refine mm_callVi (as := [.int (M.1 12 7)]) (st := [.ref 12]) (c_House_afterInflow E (M.1 12 7) M) dX8_serveHour_9 mz_X2_afterInflow lk_RX8_82 im_X2_afterInflow se_X2_afterInflow lo_4 rfl rfl rfl ⟨Nat.le_of_ble_eq_true rfl, Nat.le_of_ble_eq_true rfl⟩ (Nat.le_of_ble_eq_true rfl) (fun r_1 M_2 => ?_)
  refine mm_putI dX8_serveHour_12 fp_RX8_71 lo_12 rfl ?_
  refine mm_nm_M (fun M_3 => ?_)
  refine mm_aload_n 0 dX8_serveHour_15 rfl ?_
  refine mm_getR 4 dX8_serveHour_16 fl_RX8_41 lo_12 rfl ?_
  refine mm_getR 34 dX8_serveHour_19 fl_RX8_86 lo_4 rfl ?_
  refine mm_iconst (v := 0) dX8_serveHour_22 rfl ?_
  refine mm_aload_n 0 dX8_serveHour_23 rfl ?_
  refine mm_getR 90 dX8_serveHour_24 fl_RX8_26 lo_12 rfl ?_
  refine mm_iconst (v := 0) dX8_serveHour_27 rfl ?_
  refine mm_iconst (v := 3) dX8_serveHour_28 rfl ?_
  refine mm_copy dX8_serveHour_29 lk_RX8_89 wd_copy ⟨Nat.le_of_ble_eq_true rfl, Nat.le_of_ble_eq_true rfl⟩ ?_
  refine mm_nm_M (fun M_4 => ?_)
  refine mm_aload_n 0 dX8_serveHour_32 rfl ?_
  refine mm_getR 4 dX8_serveHour_33 fl_RX8_41 lo_12 rfl ?_
  refine mm_getR 36 dX8_serveHour_36 fl_RX8_95 lo_4 rfl ?_
  refine mm_iconst (v := 0) dX8_serveHour_39 rfl ?_
  refine mm_aload_n 0 dX8_serveHour_40 rfl ?_
  refine mm_getR 91 dX8_serveHour_41 fl_RX8_29 lo_12 rfl ?_
  refine mm_iconst (v := 0) dX8_serveHour_44 rfl ?_
  refine mm_iconst (v := 4) dX8_serveHour_45 rfl ?_
  refine mm_copy dX8_serveHour_46 lk_RX8_89 wd_copy ⟨Nat.le_of_ble_eq_true rfl, Nat.le_of_ble_eq_true rfl⟩ ?_
  refine mm_nm_M (fun M_5 => ?_)
  refine mm_aload_n 0 dX8_serveHour_49 rfl ?_
  refine mm_iload_n 1 dX8_serveHour_50 rfl ?_
  refine mm_callVi (as := [.int v1]) (st := []) (c_Service_orderStays E v1 M_5) dX8_serveHour_51 mz_X8_orderStays lk_RX8_98 im_X8_orderStays se_X8_orderStays lo_12 rfl rfl rfl ⟨Nat.le_of_ble_eq_true rfl, Nat.le_of_ble_eq_true rfl⟩ (Nat.le_of_ble_eq_true rfl) (fun r_6 M_7 => ?_)
  refine mm_istore_n [1, 2, 0] (lv2 := [(0, .ref 12), (1, .int v1), (2, .int r_6)]) dX8_serveHour_54 (by decide) rfl ?_
  refine mm_iconst (v := 0) dX8_serveHour_55 rfl ?_
  refine mm_istore_n [1, 2, 3, 0] (lv2 := [(0, .ref 12), (1, .int v1), (2, .int r_6), (3, .int 0)]) dX8_serveHour_56 (by decide) rfl ?_
  refine lp_Service_serveHour_57_ok E v1 r_6 ?_ mm_fu 0 M_7
  · intro M_11
    exact mm_vret dX8_serveHour_79 rfl
def lp_Service_serveAll_33 (k50 : mm_M → Option (Unit × mm_M)) : Nat → Int32 → mm_M → Option (Unit × mm_M)
  | 0, _, _ => none
  | n + 1, v1, M => if 24 ≤ v1 then k50 M else mm_bd (f_Service_serveHour v1 M) fun u_7 M_8 => mm_let (v1 + 1) fun v1_9 => lp_Service_serveAll_33 k50 n v1_9 M_8
set_option maxHeartbeats 4000000 in
theorem lp_Service_serveAll_33_ok (E : mm_E) {k50 : mm_M → Option (Unit × mm_M)} (hk50 : ∀ (M : mm_M), mm_G (fun _ : Unit => none) E Y_X8_serveAll 7 50 [] [] M (k50 M)) : ∀ (n : Nat) (v1 : Int32) (M : mm_M), mm_G (fun _ : Unit => none) E Y_X8_serveAll 7 33 [(0, .ref 12), (1, .int v1)] [] M (lp_Service_serveAll_33 k50 n v1 M) := by
  intro n
  induction n with
  | zero => intro v1 M r M2 he; cases he
  | succ n ih =>
    intro v1 M
    rw [lp_Service_serveAll_33]
    refine mm_iload_n 1 dX8_serveAll_33 rfl ?_
    refine mm_bipush (v := 24) dX8_serveAll_34 rfl ?_
    refine mm_icmp_ge 50 dX8_serveAll_36 rfl ?_ ?_
    · refine mm_wk [] rfl ?_
      exact hk50  M
    · refine mm_aload_n 0 dX8_serveAll_39 rfl ?_
      refine mm_iload_n 1 dX8_serveAll_40 rfl ?_
      refine mm_callVv (as := [.int v1]) (st := []) (c_Service_serveHour E v1 M) dX8_serveAll_41 mz_X8_serveHour lk_RX8_78 im_X8_serveHour se_X8_serveHour lo_12 rfl rfl rfl ⟨Nat.le_of_ble_eq_true rfl, Nat.le_of_ble_eq_true rfl⟩ (Nat.le_of_ble_eq_true rfl) (fun u_7 M_8 => ?_)
      refine mm_iincN 1 [1, 0] (v := v1 + 1) (lv2 := fun v1_9 => [(0, .ref 12), (1, .int v1_9)]) dX8_serveAll_44 rfl rfl (by decide) (fun _ => rfl) (fun v1_9 => ?_)
      refine mm_goto 33 dX8_serveAll_47 rfl ?_
      exact ih v1_9 M_8
def f_Service_serveAll (M : mm_M) : Option (Unit × mm_M) := mm_bd (f_Load_begin M) fun u_1 M_2 => mm_let (mm_setI M_2 12 6 0) fun M_3 => mm_let (mm_setI M_3 12 7 (M_3.1 4 5)) fun M_4 => mm_bd (f_Arrays_fill_87 0 M_4) fun u_5 M_6 => lp_Service_serveAll_33 (fun (M_10 : mm_M) => some ((), M_10)) mm_fu 0 M_6
set_option maxHeartbeats 4000000 in
theorem c_Service_serveAll (E : mm_E) (M : mm_M) : ∀ (r : Unit) (M2 : mm_M), f_Service_serveAll M = some (r, M2) → mm_P E Y_X8_serveAll 7 [.ref 12] M none M2 := by
  refine mm_entry (em := (fun _ : Unit => none)) (by decide +kernel) (Nat.le_of_ble_eq_true rfl) ?_
  show mm_G _ E _ _ 0 [(0, .ref 12)] [] M _
  unfold f_Service_serveAll
  refine mm_aload_n 0 dX8_serveAll_0 rfl ?_
  refine mm_getR 10 dX8_serveAll_1 fl_RX8_53 lo_12 rfl ?_
  refine mm_callVv (as := []) (st := []) (c_Load_begin E M) dX8_serveAll_4 mz_X5_begin lk_RX8_57 im_X5_begin se_X5_begin lo_10 rfl rfl rfl ⟨Nat.le_of_ble_eq_true rfl, Nat.le_of_ble_eq_true rfl⟩ (Nat.le_of_ble_eq_true rfl) (fun u_1 M_2 => ?_)
  refine mm_aload_n 0 dX8_serveAll_7 rfl ?_
  refine mm_iconst (v := 0) dX8_serveAll_8 rfl ?_
  refine mm_putI dX8_serveAll_9 fp_RX8_62 lo_12 rfl ?_
  refine mm_nm_M (fun M_3 => ?_)
  refine mm_aload_n 0 dX8_serveAll_12 rfl ?_
  refine mm_aload_n 0 dX8_serveAll_13 rfl ?_
  refine mm_getR 4 dX8_serveAll_14 fl_RX8_41 lo_12 rfl ?_
  refine mm_getI dX8_serveAll_17 fl_RX8_66 lo_4 rfl ?_
  refine mm_putI dX8_serveAll_20 fp_RX8_71 lo_12 rfl ?_
  refine mm_nm_M (fun M_4 => ?_)
  refine mm_aload_n 0 dX8_serveAll_23 rfl ?_
  refine mm_getR 87 dX8_serveAll_24 fl_RX8_16 lo_12 rfl ?_
  refine mm_iconst (v := 0) dX8_serveAll_27 rfl ?_
  refine mm_callSv (as := [.ref 87, .int 0]) (st := []) (c_Arrays_fill_87 E 0 M_4) dX8_serveAll_28 mz_J7_fill_53178 lk_RX8_72 sm_J7_fill_53178 rfl ⟨Nat.le_of_ble_eq_true rfl, Nat.le_of_ble_eq_true rfl⟩ (Nat.le_of_ble_eq_true rfl) (fun u_5 M_6 => ?_)
  refine mm_iconst (v := 0) dX8_serveAll_31 rfl ?_
  refine mm_istore_n [1, 0] (lv2 := [(0, .ref 12), (1, .int 0)]) dX8_serveAll_32 (by decide) rfl ?_
  refine lp_Service_serveAll_33_ok E ?_ mm_fu 0 M_6
  · intro M_10
    exact mm_vret dX8_serveAll_50 rfl
def f_H_gets (v1 : Int32) (v2 : Int32) (v3 : Int32) (M : mm_M) : Option (Int32 × mm_M) := mm_bd (f_Register_has_5 v1 M) fun b_1 M_2 => if b_1 = true then mm_bd (f_H_isBelow v2 3 M_2) fun b_3 M_4 => if b_3 = true then mm_bd (f_H_isBelow v3 24 M_4) fun b_5 M_6 => if b_5 = true then mm_bd (f_Service_serveAll M_6) fun u_7 M_8 => if mm_in v1 10 = true then if mm_in ((v2 * 24) + v3) (mm_al (77 + v1.toNatClampNeg)) = true then some (M_8.2.1 (77 + v1.toNatClampNeg) ((v2 * 24) + v3).toNatClampNeg, M_8) else none else none else some ((-1), M_6) else some ((-1), M_4) else some ((-1), M_2)
set_option maxHeartbeats 4000000 in
theorem c_H_gets (E : mm_E) (v1 : Int32) (v2 : Int32) (v3 : Int32) (M : mm_M) : ∀ (r : Int32) (M2 : mm_M), f_H_gets v1 v2 v3 M = some (r, M2) → mm_P E Y_X11_gets 8 [.ref 0, .int v1, .int v2, .int v3] M (some (.int r)) M2 := by
  refine mm_entry (em := (fun x : Int32 => some (.int x))) (by decide +kernel) (Nat.le_of_ble_eq_true rfl) ?_
  show mm_G _ E _ _ 0 [(0, .ref 0), (1, .int v1), (2, .int v2), (3, .int v3)] [] M _
  unfold f_H_gets
  refine mm_aload_n 0 dX11_gets_0 rfl ?_
  refine mm_getR 5 dX11_gets_1 fl_RX11_40 lo_0 rfl ?_
  refine mm_iload_n 1 dX11_gets_4 rfl ?_
  refine mm_callVz (as := [.int v1]) (st := []) (c_Register_has_5 E v1 M) dX11_gets_5 mz_X7_has lk_RX11_161 im_X7_has se_X7_has lo_5 rfl rfl rfl ⟨Nat.le_of_ble_eq_true rfl, Nat.le_of_ble_eq_true rfl⟩ (Nat.le_of_ble_eq_true rfl) (fun b_1 M_2 => ?_)
  refine mm_if_eq_b 28 dX11_gets_8 rfl ?_ ?_
  · refine mm_iconst (v := (-1)) dX11_gets_28 rfl ?_
    exact mm_iret dX11_gets_29 rfl
  · refine mm_iload_n 2 dX11_gets_11 rfl ?_
    refine mm_iconst (v := 3) dX11_gets_12 rfl ?_
    refine mm_callSz (as := [.int v2, .int 3]) (st := []) (c_H_isBelow E v2 3 M_2) dX11_gets_13 mz_X11_isBelow lk_RX11_108 sm_X11_isBelow rfl ⟨Nat.le_of_ble_eq_true rfl, Nat.le_of_ble_eq_true rfl⟩ (Nat.le_of_ble_eq_true rfl) (fun b_3 M_4 => ?_)
    refine mm_if_eq_b 28 dX11_gets_16 rfl ?_ ?_
    · refine mm_iconst (v := (-1)) dX11_gets_28 rfl ?_
      exact mm_iret dX11_gets_29 rfl
    · refine mm_iload_n 3 dX11_gets_19 rfl ?_
      refine mm_bipush (v := 24) dX11_gets_20 rfl ?_
      refine mm_callSz (as := [.int v3, .int 24]) (st := []) (c_H_isBelow E v3 24 M_4) dX11_gets_22 mz_X11_isBelow lk_RX11_108 sm_X11_isBelow rfl ⟨Nat.le_of_ble_eq_true rfl, Nat.le_of_ble_eq_true rfl⟩ (Nat.le_of_ble_eq_true rfl) (fun b_5 M_6 => ?_)
      refine mm_if_ne_b 30 dX11_gets_25 rfl ?_ ?_
      · refine mm_aload_n 0 dX11_gets_30 rfl ?_
        refine mm_getR 12 dX11_gets_31 fl_RX11_89 lo_0 rfl ?_
        refine mm_callVv (as := []) (st := []) (c_Service_serveAll E M_6) dX11_gets_34 mz_X8_serveAll lk_RX11_186 im_X8_serveAll se_X8_serveAll lo_12 rfl rfl rfl ⟨Nat.le_of_ble_eq_true rfl, Nat.le_of_ble_eq_true rfl⟩ (Nat.le_of_ble_eq_true rfl) (fun u_7 M_8 => ?_)
        refine mm_aload_n 0 dX11_gets_37 rfl ?_
        refine mm_getR 12 dX11_gets_38 fl_RX11_89 lo_0 rfl ?_
        refine mm_getR 76 dX11_gets_41 fl_RX11_189 lo_12 rfl ?_
        refine mm_iload_n 1 dX11_gets_44 rfl ?_
        refine mm_aaload dX11_gets_45 lo_76 ?_
        refine mm_iload_n 2 dX11_gets_46 rfl ?_
        refine mm_bipush (v := 24) dX11_gets_47 rfl ?_
        refine mm_imul dX11_gets_49 ?_
        refine mm_iload_n 3 dX11_gets_50 rfl ?_
        refine mm_iadd dX11_gets_51 ?_
        refine mm_iaload dX11_gets_52 ?_
        exact mm_iret dX11_gets_53 rfl
      · refine mm_iconst (v := (-1)) dX11_gets_28 rfl ?_
        exact mm_iret dX11_gets_29 rfl
def lp_Service_missedOfAll_4 (k25 : Int32 → mm_M → Option (Int32 × mm_M)) : Nat → Int32 → Int32 → mm_M → Option (Int32 × mm_M)
  | 0, _, _, _ => none
  | n + 1, v1, v2, M => if 10 ≤ v2 then k25 v1 M else if mm_in v2 (mm_al 87) = true then mm_let (v1 + (M.2.1 87 v2.toNatClampNeg)) fun v1_1 => mm_let (v2 + 1) fun v2_2 => lp_Service_missedOfAll_4 k25 n v1_1 v2_2 M else none
set_option maxHeartbeats 4000000 in
theorem lp_Service_missedOfAll_4_ok (E : mm_E) {k25 : Int32 → mm_M → Option (Int32 × mm_M)} (hk25 : ∀ (v1 : Int32) (M : mm_M), mm_G (fun x : Int32 => some (.int x)) E Y_X8_missedOfAll 1 25 [(1, .int v1)] [] M (k25 v1 M)) : ∀ (n : Nat) (v1 : Int32) (v2 : Int32) (M : mm_M), mm_G (fun x : Int32 => some (.int x)) E Y_X8_missedOfAll 1 4 [(0, .ref 12), (1, .int v1), (2, .int v2)] [] M (lp_Service_missedOfAll_4 k25 n v1 v2 M) := by
  intro n
  induction n with
  | zero => intro v1 v2 M r M2 he; cases he
  | succ n ih =>
    intro v1 v2 M
    rw [lp_Service_missedOfAll_4]
    refine mm_iload_n 2 dX8_missedOfAll_4 rfl ?_
    refine mm_bipush (v := 10) dX8_missedOfAll_5 rfl ?_
    refine mm_icmp_ge 25 dX8_missedOfAll_7 rfl ?_ ?_
    · refine mm_wk [1] rfl ?_
      exact hk25 v1 M
    · refine mm_iload_n 1 dX8_missedOfAll_10 rfl ?_
      refine mm_aload_n 0 dX8_missedOfAll_11 rfl ?_
      refine mm_getR 87 dX8_missedOfAll_12 fl_RX8_16 lo_12 rfl ?_
      refine mm_iload_n 2 dX8_missedOfAll_15 rfl ?_
      refine mm_iaload dX8_missedOfAll_16 ?_
      refine mm_iadd dX8_missedOfAll_17 ?_
      refine mm_nm_int (fun v1_1 => ?_)
      refine mm_istore_n [1, 0, 2] (lv2 := [(0, .ref 12), (1, .int v1_1), (2, .int v2)]) dX8_missedOfAll_18 (by decide) rfl ?_
      refine mm_iincN 2 [1, 2, 0] (v := v2 + 1) (lv2 := fun v2_2 => [(0, .ref 12), (1, .int v1_1), (2, .int v2_2)]) dX8_missedOfAll_19 rfl rfl (by decide) (fun _ => rfl) (fun v2_2 => ?_)
      refine mm_goto 4 dX8_missedOfAll_22 rfl ?_
      exact ih v1_1 v2_2 M
def f_Service_missedOfAll (M : mm_M) : Option (Int32 × mm_M) := lp_Service_missedOfAll_4 (fun (v1 : Int32) (M_3 : mm_M) => some (v1, M_3)) mm_fu 0 0 M
set_option maxHeartbeats 4000000 in
theorem c_Service_missedOfAll (E : mm_E) (M : mm_M) : ∀ (r : Int32) (M2 : mm_M), f_Service_missedOfAll M = some (r, M2) → mm_P E Y_X8_missedOfAll 1 [.ref 12] M (some (.int r)) M2 := by
  refine mm_entry (em := (fun x : Int32 => some (.int x))) (by decide +kernel) (Nat.le_of_ble_eq_true rfl) ?_
  show mm_G _ E _ _ 0 [(0, .ref 12)] [] M _
  unfold f_Service_missedOfAll
  refine mm_iconst (v := 0) dX8_missedOfAll_0 rfl ?_
  refine mm_istore_n [1, 0] (lv2 := [(0, .ref 12), (1, .int 0)]) dX8_missedOfAll_1 (by decide) rfl ?_
  refine mm_iconst (v := 0) dX8_missedOfAll_2 rfl ?_
  refine mm_istore_n [1, 2, 0] (lv2 := [(0, .ref 12), (1, .int 0), (2, .int 0)]) dX8_missedOfAll_3 (by decide) rfl ?_
  refine lp_Service_missedOfAll_4_ok E ?_ mm_fu 0 0 M
  · intro v1 M_3
    refine mm_iload_n 0 dX8_missedOfAll_25 rfl ?_
    exact mm_iret dX8_missedOfAll_26 rfl
