def f_R_size (v0 : Int32) (M : mm_M) : Option (Int32 × mm_M) := if 0 ≤ v0 then some (v0, M) else some (-v0, M)
set_option maxHeartbeats 4000000 in
theorem c_R_size (E : mm_E) (v0 : Int32) (M : mm_M) : ∀ (r : Int32) (M2 : mm_M), f_R_size v0 M = some (r, M2) → mm_P E Y_X12_size 1 [.int v0] M (some (.int r)) M2 := by
  refine mm_entry (em := (fun x : Int32 => some (.int x))) (by decide +kernel) (Nat.le_of_ble_eq_true rfl) ?_
  show mm_G _ E _ _ 0 [(0, .int v0)] [] M _
  unfold f_R_size
  refine mm_iload_n 0 dX12_size_0 rfl ?_
  refine mm_if_ge 9 dX12_size_1 rfl ?_ ?_
  · refine mm_iload_n 0 dX12_size_9 rfl ?_
    exact mm_iret dX12_size_10 rfl
  · refine mm_iload_n 0 dX12_size_4 rfl ?_
    refine mm_ineg dX12_size_5 ?_
    refine mm_goto 10 dX12_size_6 rfl ?_
    exact mm_iret dX12_size_10 rfl
def lp_R_shiftsBy_13 (v2 : Int32) (k108 : Int32 → mm_M → Option (Int32 × mm_M)) : Nat → Int32 → Int32 → Int32 → mm_M → Option (Int32 × mm_M)
  | 0, _, _, _, _ => none
  | n + 1, v3, v4, v5, M => if v5 < 0 then k108 v4 M else if (2 * v2) + 1 = 0 then none else mm_let ((mm_rem v3 ((2 * v2) + 1)) - v2) fun v6_2 => if (2 * v2) + 1 = 0 then none else mm_let (v3 / ((2 * v2) + 1)) fun v3_3 => if mm_in v5 (mm_al 128) = true then if mm_in v5 (mm_al 128) = true then if mm_in (M.2.1 128 v5.toNatClampNeg) (mm_al 131) = true then if mm_in (M.2.1 128 v5.toNatClampNeg) (mm_al 108) = true then mm_let (mm_setA M 108 ((M.2.1 128 v5.toNatClampNeg).toNatClampNeg) ((M.2.1 131 (M.2.1 128 v5.toNatClampNeg).toNatClampNeg) + v6_2)) fun M_4 => mm_bd (f_R_size v6_2 M_4) fun r_5 M_6 => mm_let (v4 + r_5) fun v4_7 => if mm_in v5 (mm_al 128) = true then if mm_in (M_6.2.1 128 v5.toNatClampNeg) (mm_al 108) = true then mm_bd (f_R_in (M_6.2.1 108 (M_6.2.1 128 v5.toNatClampNeg).toNatClampNeg) (-3) 3 M_6) fun b_8 M_9 => mm_jn (fun (v3 : Int32) (v4 : Int32) (v5 : Int32) (M_10 : mm_M) => mm_let (v5 + (-1)) fun v5_11 => lp_R_shiftsBy_13 v2 k108 n v3 v4 v5_11 M_10) fun j102 => if b_8 = true then j102 v3_3 v4_7 v5 M_9 else mm_let (v4_7 + 100) fun v4_12 => j102 v3_3 v4_12 v5 M_9 else none else none else none else none else none else none
set_option maxHeartbeats 4000000 in
theorem lp_R_shiftsBy_13_ok (E : mm_E) (v2 : Int32) {k108 : Int32 → mm_M → Option (Int32 × mm_M)} (hk108 : ∀ (v4 : Int32) (M : mm_M), mm_G (fun x : Int32 => some (.int x)) E Y_X12_shiftsBy 2 108 [(4, .int v4)] [] M (k108 v4 M)) : ∀ (n : Nat) (v3 : Int32) (v4 : Int32) (v5 : Int32) (M : mm_M), mm_G (fun x : Int32 => some (.int x)) E Y_X12_shiftsBy 2 13 [(0, .ref 97), (2, .int v2), (3, .int v3), (4, .int v4), (5, .int v5)] [] M (lp_R_shiftsBy_13 v2 k108 n v3 v4 v5 M) := by
  intro n
  induction n with
  | zero => intro v3 v4 v5 M r M2 he; cases he
  | succ n ih =>
    intro v3 v4 v5 M
    rw [lp_R_shiftsBy_13]
    refine mm_iload 4 dX12_shiftsBy_13 rfl ?_
    refine mm_if_lt 108 dX12_shiftsBy_15 rfl ?_ ?_
    · refine mm_wk [3] rfl ?_
      exact hk108 v4 M
    · refine mm_iload_n 2 dX12_shiftsBy_18 rfl ?_
      refine mm_iconst (v := 2) dX12_shiftsBy_19 rfl ?_
      refine mm_iload_n 1 dX12_shiftsBy_20 rfl ?_
      refine mm_imul dX12_shiftsBy_21 ?_
      refine mm_iconst (v := 1) dX12_shiftsBy_22 rfl ?_
      refine mm_iadd dX12_shiftsBy_23 ?_
      refine mm_irem dX12_shiftsBy_24 ?_
      refine mm_iload_n 1 dX12_shiftsBy_25 rfl ?_
      refine mm_isub dX12_shiftsBy_26 ?_
      refine mm_nm_int (fun v6_2 => ?_)
      refine mm_istore [1, 2, 3, 4, 5, 0] (lv2 := [(0, .ref 97), (2, .int v2), (3, .int v3), (4, .int v4), (5, .int v5), (6, .int v6_2)]) dX12_shiftsBy_27 (by decide) rfl ?_
      refine mm_iload_n 2 dX12_shiftsBy_29 rfl ?_
      refine mm_iconst (v := 2) dX12_shiftsBy_30 rfl ?_
      refine mm_iload_n 1 dX12_shiftsBy_31 rfl ?_
      refine mm_imul dX12_shiftsBy_32 ?_
      refine mm_iconst (v := 1) dX12_shiftsBy_33 rfl ?_
      refine mm_iadd dX12_shiftsBy_34 ?_
      refine mm_idiv dX12_shiftsBy_35 ?_
      refine mm_nm_int (fun v3_3 => ?_)
      refine mm_istore_n [1, 2, 0, 3, 4, 5] (lv2 := [(0, .ref 97), (2, .int v2), (3, .int v3_3), (4, .int v4), (5, .int v5), (6, .int v6_2)]) dX12_shiftsBy_36 (by decide) rfl ?_
      refine mm_aload_n 0 dX12_shiftsBy_37 rfl ?_
      refine mm_getR 108 dX12_shiftsBy_38 fl_RX12_41 lo_97 rfl ?_
      refine mm_aload_n 0 dX12_shiftsBy_41 rfl ?_
      refine mm_getR 128 dX12_shiftsBy_42 fl_RX12_101 lo_97 rfl ?_
      refine mm_iload 4 dX12_shiftsBy_45 rfl ?_
      refine mm_iaload dX12_shiftsBy_47 ?_
      refine mm_aload_n 0 dX12_shiftsBy_48 rfl ?_
      refine mm_getR 131 dX12_shiftsBy_49 fl_RX12_110 lo_97 rfl ?_
      refine mm_aload_n 0 dX12_shiftsBy_52 rfl ?_
      refine mm_getR 128 dX12_shiftsBy_53 fl_RX12_101 lo_97 rfl ?_
      refine mm_iload 4 dX12_shiftsBy_56 rfl ?_
      refine mm_iaload dX12_shiftsBy_58 ?_
      refine mm_iaload dX12_shiftsBy_59 ?_
      refine mm_iload 5 dX12_shiftsBy_60 rfl ?_
      refine mm_iadd dX12_shiftsBy_62 ?_
      refine mm_iastore dX12_shiftsBy_63 ?_
      refine mm_nm_M (fun M_4 => ?_)
      refine mm_iload 3 dX12_shiftsBy_64 rfl ?_
      refine mm_iload 5 dX12_shiftsBy_66 rfl ?_
      refine mm_callSi (as := [.int v6_2]) (st := [.int v4]) (c_R_size E v6_2 M_4) dX12_shiftsBy_68 mz_X12_size lk_RX12_399 sm_X12_size rfl ⟨Nat.le_of_ble_eq_true rfl, Nat.le_of_ble_eq_true rfl⟩ (Nat.le_of_ble_eq_true rfl) (fun r_5 M_6 => ?_)
      refine mm_iadd dX12_shiftsBy_71 ?_
      refine mm_nm_int (fun v4_7 => ?_)
      refine mm_istore [1, 2, 3, 0, 4, 5] (lv2 := [(0, .ref 97), (2, .int v2), (3, .int v3_3), (4, .int v4_7), (5, .int v5), (6, .int v6_2)]) dX12_shiftsBy_72 (by decide) rfl ?_
      refine mm_aload_n 0 dX12_shiftsBy_74 rfl ?_
      refine mm_getR 108 dX12_shiftsBy_75 fl_RX12_41 lo_97 rfl ?_
      refine mm_aload_n 0 dX12_shiftsBy_78 rfl ?_
      refine mm_getR 128 dX12_shiftsBy_79 fl_RX12_101 lo_97 rfl ?_
      refine mm_iload 4 dX12_shiftsBy_82 rfl ?_
      refine mm_iaload dX12_shiftsBy_84 ?_
      refine mm_iaload dX12_shiftsBy_85 ?_
      refine mm_bipush (v := (-3)) dX12_shiftsBy_86 rfl ?_
      refine mm_iconst (v := 3) dX12_shiftsBy_88 rfl ?_
      refine mm_callSz (as := [.int (M_6.2.1 108 (M_6.2.1 128 v5.toNatClampNeg).toNatClampNeg), .int (-3), .int 3]) (st := []) (c_R_in E (M_6.2.1 108 (M_6.2.1 128 v5.toNatClampNeg).toNatClampNeg) (-3) 3 M_6) dX12_shiftsBy_89 mz_X12_in lk_RX12_169 sm_X12_in rfl ⟨Nat.le_of_ble_eq_true rfl, Nat.le_of_ble_eq_true rfl⟩ (Nat.le_of_ble_eq_true rfl) (fun b_8 M_9 => ?_)
      refine mm_jnP (P := fun j => ∀ (v3 : Int32) (v4 : Int32) (v5 : Int32) (M : mm_M), mm_G (fun x : Int32 => some (.int x)) E Y_X12_shiftsBy 2 102 [(0, .ref 97), (2, .int v2), (3, .int v3), (4, .int v4), (5, .int v5)] [] M (j v3 v4 v5 M)) ?_ (fun j102 hj102 => ?_)
      · intro v3 v4 v5 M_10
        refine mm_iincN 4 [1, 2, 3, 4, 0] (v := v5 + (-1)) (lv2 := fun v5_11 => [(0, .ref 97), (2, .int v2), (3, .int v3), (4, .int v4), (5, .int v5_11)]) dX12_shiftsBy_102 rfl rfl (by decide) (fun _ => rfl) (fun v5_11 => ?_)
        refine mm_goto 13 dX12_shiftsBy_105 rfl ?_
        exact ih v3 v4 v5_11 M_10
      refine mm_if_ne_b 102 dX12_shiftsBy_92 rfl ?_ ?_
      · refine mm_wk [0, 1, 2, 3, 4] rfl ?_
        exact hj102 v3_3 v4_7 v5 M_9
      · refine mm_iload 3 dX12_shiftsBy_95 rfl ?_
        refine mm_bipush (v := 100) dX12_shiftsBy_97 rfl ?_
        refine mm_iadd dX12_shiftsBy_99 ?_
        refine mm_nm_int (fun v4_12 => ?_)
        refine mm_istore [1, 2, 3, 0, 4, 5] (lv2 := [(0, .ref 97), (2, .int v2), (3, .int v3_3), (4, .int v4_12), (5, .int v5), (6, .int v6_2)]) dX12_shiftsBy_100 (by decide) rfl ?_
        refine mm_wk [0, 1, 2, 3, 4] rfl ?_
        exact hj102 v3_3 v4_12 v5 M_9
def f_R_shiftsBy (v1 : Int32) (v2 : Int32) (M : mm_M) : Option (Int32 × mm_M) := mm_let ((M.1 97 57) - 1) fun v5_1 => lp_R_shiftsBy_13 v2 (fun (v4 : Int32) (M_13 : mm_M) => some (v4, M_13)) mm_fu v1 0 v5_1 M
set_option maxHeartbeats 4000000 in
theorem c_R_shiftsBy (E : mm_E) (v1 : Int32) (v2 : Int32) (M : mm_M) : ∀ (r : Int32) (M2 : mm_M), f_R_shiftsBy v1 v2 M = some (r, M2) → mm_P E Y_X12_shiftsBy 2 [.ref 97, .int v1, .int v2] M (some (.int r)) M2 := by
  refine mm_entry (em := (fun x : Int32 => some (.int x))) (by decide +kernel) (Nat.le_of_ble_eq_true rfl) ?_
  show mm_G _ E _ _ 0 [(0, .ref 97), (1, .int v1), (2, .int v2)] [] M _
  unfold f_R_shiftsBy
  refine mm_iload_n 1 dX12_shiftsBy_0 rfl ?_
  refine mm_istore_n [1, 2, 3, 0] (lv2 := [(0, .ref 97), (1, .int v1), (2, .int v2), (3, .int v1)]) dX12_shiftsBy_1 (by decide) rfl ?_
  refine mm_iconst (v := 0) dX12_shiftsBy_2 rfl ?_
  refine mm_istore [1, 2, 3, 4, 0] (lv2 := [(0, .ref 97), (1, .int v1), (2, .int v2), (3, .int v1), (4, .int 0)]) dX12_shiftsBy_3 (by decide) rfl ?_
  refine mm_aload_n 0 dX12_shiftsBy_5 rfl ?_
  refine mm_getI dX12_shiftsBy_6 fl_RX12_381 lo_97 rfl ?_
  refine mm_iconst (v := 1) dX12_shiftsBy_9 rfl ?_
  refine mm_isub dX12_shiftsBy_10 ?_
  refine mm_nm_int (fun v5_1 => ?_)
  refine mm_istore [1, 2, 3, 4, 5, 0] (lv2 := [(0, .ref 97), (1, .int v1), (2, .int v2), (3, .int v1), (4, .int 0), (5, .int v5_1)]) dX12_shiftsBy_11 (by decide) rfl ?_
  refine mm_wk [0, 2, 3, 4, 5] rfl ?_
  refine lp_R_shiftsBy_13_ok E v2 ?_ mm_fu v1 0 v5_1 M
  · intro v4 M_13
    refine mm_iload 0 dX12_shiftsBy_108 rfl ?_
    exact mm_iret dX12_shiftsBy_110 rfl
def lp_R_shifting_65 (v2 : Int32) (v3 : Int32) (k92 : mm_M → Option (Int32 × mm_M)) : Nat → Int32 → mm_M → Option (Int32 × mm_M)
  | 0, _, _ => none
  | n + 1, v4, M => if 10 ≤ v4 then k92 M else if mm_in v4 (mm_al 108) = true then if mm_in v4 (mm_al 131) = true then mm_let (mm_setA M 131 (v4.toNatClampNeg) (M.2.1 108 v4.toNatClampNeg)) fun M_10 => mm_let (v4 + 1) fun v4_11 => lp_R_shifting_65 v2 v3 k92 n v4_11 M_10 else none else none
set_option maxHeartbeats 4000000 in
theorem lp_R_shifting_65_ok (E : mm_E) (v2 : Int32) (v3 : Int32) {k92 : mm_M → Option (Int32 × mm_M)} (hk92 : ∀ (M : mm_M), mm_G (fun x : Int32 => some (.int x)) E Y_X12_shifting 5 92 [(0, .ref 97), (2, .int v2), (3, .int v3)] [] M (k92 M)) : ∀ (n : Nat) (v4 : Int32) (M : mm_M), mm_G (fun x : Int32 => some (.int x)) E Y_X12_shifting 5 65 [(0, .ref 97), (2, .int v2), (3, .int v3), (4, .int v4)] [] M (lp_R_shifting_65 v2 v3 k92 n v4 M) := by
  intro n
  induction n with
  | zero => intro v4 M r M2 he; cases he
  | succ n ih =>
    intro v4 M
    rw [lp_R_shifting_65]
    refine mm_iload 3 dX12_shifting_65 rfl ?_
    refine mm_bipush (v := 10) dX12_shifting_67 rfl ?_
    refine mm_icmp_ge 92 dX12_shifting_69 rfl ?_ ?_
    · refine mm_wk [0, 1, 2] rfl ?_
      exact hk92  M
    · refine mm_aload_n 0 dX12_shifting_72 rfl ?_
      refine mm_getR 131 dX12_shifting_73 fl_RX12_110 lo_97 rfl ?_
      refine mm_iload 3 dX12_shifting_76 rfl ?_
      refine mm_aload_n 0 dX12_shifting_78 rfl ?_
      refine mm_getR 108 dX12_shifting_79 fl_RX12_41 lo_97 rfl ?_
      refine mm_iload 3 dX12_shifting_82 rfl ?_
      refine mm_iaload dX12_shifting_84 ?_
      refine mm_iastore dX12_shifting_85 ?_
      refine mm_nm_M (fun M_10 => ?_)
      refine mm_iincN 3 [1, 2, 3, 0] (v := v4 + 1) (lv2 := fun v4_11 => [(0, .ref 97), (2, .int v2), (3, .int v3), (4, .int v4_11)]) dX12_shifting_86 rfl rfl (by decide) (fun _ => rfl) (fun v4_11 => ?_)
      refine mm_goto 65 dX12_shifting_89 rfl ?_
      exact ih v4_11 M_10
def lp_R_shifting_98 (v2 : Int32) (v3 : Int32) (k123 : Int32 → mm_M → Option (Int32 × mm_M)) : Nat → Int32 → Int32 → mm_M → Option (Int32 × mm_M)
  | 0, _, _, _ => none
  | n + 1, v4, v5, M => if M.1 97 57 ≤ v5 then k123 v4 M else mm_let (v4 * ((2 * v2) + 1)) fun v4_13 => mm_let (v5 + 1) fun v5_14 => lp_R_shifting_98 v2 v3 k123 n v4_13 v5_14 M
set_option maxHeartbeats 4000000 in
theorem lp_R_shifting_98_ok (E : mm_E) (v2 : Int32) (v3 : Int32) {k123 : Int32 → mm_M → Option (Int32 × mm_M)} (hk123 : ∀ (v4 : Int32) (M : mm_M), mm_G (fun x : Int32 => some (.int x)) E Y_X12_shifting 5 123 [(0, .ref 97), (2, .int v2), (3, .int v3), (4, .int v4)] [] M (k123 v4 M)) : ∀ (n : Nat) (v4 : Int32) (v5 : Int32) (M : mm_M), mm_G (fun x : Int32 => some (.int x)) E Y_X12_shifting 5 98 [(0, .ref 97), (2, .int v2), (3, .int v3), (4, .int v4), (5, .int v5)] [] M (lp_R_shifting_98 v2 v3 k123 n v4 v5 M) := by
  intro n
  induction n with
  | zero => intro v4 v5 M r M2 he; cases he
  | succ n ih =>
    intro v4 v5 M
    rw [lp_R_shifting_98]
    refine mm_iload 4 dX12_shifting_98 rfl ?_
    refine mm_aload_n 0 dX12_shifting_100 rfl ?_
    refine mm_getI dX12_shifting_101 fl_RX12_381 lo_97 rfl ?_
    refine mm_icmp_ge 123 dX12_shifting_104 rfl ?_ ?_
    · refine mm_wk [0, 1, 2, 3] rfl ?_
      exact hk123 v4 M
    · refine mm_iload 3 dX12_shifting_107 rfl ?_
      refine mm_iconst (v := 2) dX12_shifting_109 rfl ?_
      refine mm_iload_n 1 dX12_shifting_110 rfl ?_
      refine mm_imul dX12_shifting_111 ?_
      refine mm_iconst (v := 1) dX12_shifting_112 rfl ?_
      refine mm_iadd dX12_shifting_113 ?_
      refine mm_imul dX12_shifting_114 ?_
      refine mm_nm_int (fun v4_13 => ?_)
      refine mm_istore [1, 2, 3, 0, 4] (lv2 := [(0, .ref 97), (2, .int v2), (3, .int v3), (4, .int v4_13), (5, .int v5)]) dX12_shifting_115 (by decide) rfl ?_
      refine mm_iincN 4 [1, 2, 3, 4, 0] (v := v5 + 1) (lv2 := fun v5_14 => [(0, .ref 97), (2, .int v2), (3, .int v3), (4, .int v4_13), (5, .int v5_14)]) dX12_shifting_117 rfl rfl (by decide) (fun _ => rfl) (fun v5_14 => ?_)
      refine mm_goto 98 dX12_shifting_120 rfl ?_
      exact ih v4_13 v5_14 M
def lp_R_shifting_133 (v2 : Int32) (v3 : Int32) (v4 : Int32) (k185 : Int32 → Int32 → mm_M → Option (Int32 × mm_M)) : Nat → Int32 → Int32 → Int32 → mm_M → Option (Int32 × mm_M)
  | 0, _, _, _, _ => none
  | n + 1, v5, v6, v7, M => if v4 ≤ v7 then k185 v5 v6 M else mm_bd (f_R_shiftsBy v7 v2 M) fun r_16 M_17 => mm_jn (fun (v5 : Int32) (v6 : Int32) (v7 : Int32) (M_18 : mm_M) => mm_let (v7 + 1) fun v7_19 => lp_R_shifting_133 v2 v3 v4 k185 n v5 v6 v7_19 M_18) fun j179 => if v6 ≤ r_16 then j179 v5 v6 v7 M_17 else mm_bd (f_R_canBe (M_17.1 97 12) true M_17) fun b_20 M_21 => if b_20 = true then j179 v7 r_16 v7 M_21 else j179 v5 v6 v7 M_21
set_option maxHeartbeats 4000000 in
theorem lp_R_shifting_133_ok (E : mm_E) (v2 : Int32) (v3 : Int32) (v4 : Int32) {k185 : Int32 → Int32 → mm_M → Option (Int32 × mm_M)} (hk185 : ∀ (v5 : Int32) (v6 : Int32) (M : mm_M), mm_G (fun x : Int32 => some (.int x)) E Y_X12_shifting 5 185 [(0, .ref 97), (2, .int v2), (3, .int v3), (5, .int v5), (6, .int v6)] [] M (k185 v5 v6 M)) : ∀ (n : Nat) (v5 : Int32) (v6 : Int32) (v7 : Int32) (M : mm_M), mm_G (fun x : Int32 => some (.int x)) E Y_X12_shifting 5 133 [(0, .ref 97), (2, .int v2), (3, .int v3), (4, .int v4), (5, .int v5), (6, .int v6), (7, .int v7)] [] M (lp_R_shifting_133 v2 v3 v4 k185 n v5 v6 v7 M) := by
  intro n
  induction n with
  | zero => intro v5 v6 v7 M r M2 he; cases he
  | succ n ih =>
    intro v5 v6 v7 M
    rw [lp_R_shifting_133]
    refine mm_iload 6 dX12_shifting_133 rfl ?_
    refine mm_iload 3 dX12_shifting_135 rfl ?_
    refine mm_icmp_ge 185 dX12_shifting_137 rfl ?_ ?_
    · refine mm_wk [0, 1, 2, 4, 5] rfl ?_
      exact hk185 v5 v6 M
    · refine mm_aload_n 0 dX12_shifting_140 rfl ?_
      refine mm_iload 6 dX12_shifting_141 rfl ?_
      refine mm_iload_n 1 dX12_shifting_143 rfl ?_
      refine mm_callVi (as := [.int v7, .int v2]) (st := []) (c_R_shiftsBy E v7 v2 M) dX12_shifting_144 mz_X12_shiftsBy lk_RX12_402 im_X12_shiftsBy se_X12_shiftsBy lo_97 rfl rfl rfl ⟨Nat.le_of_ble_eq_true rfl, Nat.le_of_ble_eq_true rfl⟩ (Nat.le_of_ble_eq_true rfl) (fun r_16 M_17 => ?_)
      refine mm_istore [1, 2, 3, 4, 5, 6, 7, 0] (lv2 := [(0, .ref 97), (2, .int v2), (3, .int v3), (4, .int v4), (5, .int v5), (6, .int v6), (7, .int v7), (8, .int r_16)]) dX12_shifting_147 (by decide) rfl ?_
      refine mm_iload 7 dX12_shifting_149 rfl ?_
      refine mm_iload 5 dX12_shifting_151 rfl ?_
      refine mm_jnP (P := fun j => ∀ (v5 : Int32) (v6 : Int32) (v7 : Int32) (M : mm_M), mm_G (fun x : Int32 => some (.int x)) E Y_X12_shifting 5 179 [(0, .ref 97), (2, .int v2), (3, .int v3), (4, .int v4), (5, .int v5), (6, .int v6), (7, .int v7)] [] M (j v5 v6 v7 M)) ?_ (fun j179 hj179 => ?_)
      · intro v5 v6 v7 M_18
        refine mm_iincN 6 [1, 2, 3, 4, 5, 6, 0] (v := v7 + 1) (lv2 := fun v7_19 => [(0, .ref 97), (2, .int v2), (3, .int v3), (4, .int v4), (5, .int v5), (6, .int v6), (7, .int v7_19)]) dX12_shifting_179 rfl rfl (by decide) (fun _ => rfl) (fun v7_19 => ?_)
        refine mm_goto 133 dX12_shifting_182 rfl ?_
        exact ih v5 v6 v7_19 M_18
      refine mm_icmp_ge 179 dX12_shifting_153 rfl ?_ ?_
      · refine mm_wk [0, 1, 2, 3, 4, 5, 6] rfl ?_
        exact hj179 v5 v6 v7 M_17
      · refine mm_aload_n 0 dX12_shifting_156 rfl ?_
        refine mm_aload_n 0 dX12_shifting_157 rfl ?_
        refine mm_getI dX12_shifting_158 fl_RX12_217 lo_97 rfl ?_
        refine mm_iconst (v := 1) dX12_shifting_161 rfl ?_
        refine mm_callVz (as := [.int (M_17.1 97 12), .int (mm_b true)]) (st := []) (c_R_canBe E (M_17.1 97 12) true M_17) dX12_shifting_162 mz_X12_canBe lk_RX12_363 im_X12_canBe se_X12_canBe lo_97 rfl rfl rfl ⟨Nat.le_of_ble_eq_true rfl, Nat.le_of_ble_eq_true rfl⟩ (Nat.le_of_ble_eq_true rfl) (fun b_20 M_21 => ?_)
        refine mm_if_ne_b 171 dX12_shifting_165 rfl ?_ ?_
        · refine mm_iload 7 dX12_shifting_171 rfl ?_
          refine mm_istore [1, 2, 3, 4, 5, 0, 6, 7] (lv2 := [(0, .ref 97), (2, .int v2), (3, .int v3), (4, .int v4), (5, .int v5), (6, .int r_16), (7, .int v7), (8, .int r_16)]) dX12_shifting_173 (by decide) rfl ?_
          refine mm_iload 6 dX12_shifting_175 rfl ?_
          refine mm_istore [1, 2, 3, 4, 0, 5, 6, 7] (lv2 := [(0, .ref 97), (2, .int v2), (3, .int v3), (4, .int v4), (5, .int v7), (6, .int r_16), (7, .int v7), (8, .int r_16)]) dX12_shifting_177 (by decide) rfl ?_
          refine mm_wk [0, 1, 2, 3, 4, 5, 6] rfl ?_
          exact hj179 v7 r_16 v7 M_21
        · refine mm_goto 179 dX12_shifting_168 rfl ?_
          refine mm_wk [0, 1, 2, 3, 4, 5, 6] rfl ?_
          exact hj179 v5 v6 v7 M_21
def lp_R_shifting_234 (v3 : Int32) (v5 : Int32) (v7 : Int32) (k273 : mm_M → Option (Int32 × mm_M)) : Nat → Int32 → mm_M → Option (Int32 × mm_M)
  | 0, _, _ => none
  | n + 1, v8, M => if 10 ≤ v8 then k273 M else mm_jn (fun (v8 : Int32) (M_25 : mm_M) => if mm_in v8 (mm_al 131) = true then if mm_in v8 (mm_al 108) = true then mm_let (mm_setA M_25 108 (v8.toNatClampNeg) (M_25.2.1 131 v8.toNatClampNeg)) fun M_26 => mm_let (v8 + 1) fun v8_27 => lp_R_shifting_234 v3 v5 v7 k273 n v8_27 M_26 else none else none) fun j253 => if v3 = 11 then if v5 = (-1) then j253 v8 M else k273 M else j253 v8 M
set_option maxHeartbeats 4000000 in
theorem lp_R_shifting_234_ok (E : mm_E) (v3 : Int32) (v5 : Int32) (v7 : Int32) {k273 : mm_M → Option (Int32 × mm_M)} (hk273 : ∀ (M : mm_M), mm_G (fun x : Int32 => some (.int x)) E Y_X12_shifting 5 273 [(7, .int v7)] [] M (k273 M)) : ∀ (n : Nat) (v8 : Int32) (M : mm_M), mm_G (fun x : Int32 => some (.int x)) E Y_X12_shifting 5 234 [(0, .ref 97), (3, .int v3), (5, .int v5), (7, .int v7), (8, .int v8)] [] M (lp_R_shifting_234 v3 v5 v7 k273 n v8 M) := by
  intro n
  induction n with
  | zero => intro v8 M r M2 he; cases he
  | succ n ih =>
    intro v8 M
    rw [lp_R_shifting_234]
    refine mm_iload 4 dX12_shifting_234 rfl ?_
    refine mm_bipush (v := 10) dX12_shifting_236 rfl ?_
    refine mm_icmp_ge 273 dX12_shifting_238 rfl ?_ ?_
    · refine mm_wk [3] rfl ?_
      exact hk273  M
    · refine mm_iload_n 1 dX12_shifting_241 rfl ?_
      refine mm_bipush (v := 11) dX12_shifting_242 rfl ?_
      refine mm_jnP (P := fun j => ∀ (v8 : Int32) (M : mm_M), mm_G (fun x : Int32 => some (.int x)) E Y_X12_shifting 5 253 [(0, .ref 97), (3, .int v3), (5, .int v5), (7, .int v7), (8, .int v8)] [] M (j v8 M)) ?_ (fun j253 hj253 => ?_)
      · intro v8 M_25
        refine mm_aload_n 0 dX12_shifting_253 rfl ?_
        refine mm_getR 108 dX12_shifting_254 fl_RX12_41 lo_97 rfl ?_
        refine mm_iload 4 dX12_shifting_257 rfl ?_
        refine mm_aload_n 0 dX12_shifting_259 rfl ?_
        refine mm_getR 131 dX12_shifting_260 fl_RX12_110 lo_97 rfl ?_
        refine mm_iload 4 dX12_shifting_263 rfl ?_
        refine mm_iaload dX12_shifting_265 ?_
        refine mm_iastore dX12_shifting_266 ?_
        refine mm_nm_M (fun M_26 => ?_)
        refine mm_iincN 4 [1, 2, 3, 4, 0] (v := v8 + 1) (lv2 := fun v8_27 => [(0, .ref 97), (3, .int v3), (5, .int v5), (7, .int v7), (8, .int v8_27)]) dX12_shifting_267 rfl rfl (by decide) (fun _ => rfl) (fun v8_27 => ?_)
        refine mm_goto 234 dX12_shifting_270 rfl ?_
        exact ih v8_27 M_26
      refine mm_icmp_ne 253 dX12_shifting_244 rfl ?_ ?_
      · exact hj253 v8 M
      · refine mm_iload 2 dX12_shifting_247 rfl ?_
        refine mm_iconst (v := (-1)) dX12_shifting_249 rfl ?_
        refine mm_icmp_ne 273 dX12_shifting_250 rfl ?_ ?_
        · refine mm_wk [3] rfl ?_
          exact hk273  M
        · exact hj253 v8 M
def f_R_shifting (v1 : Int32) (v2 : Int32) (v3 : Int32) (M : mm_M) : Option (Int32 × mm_M) := mm_bd (f_R_areStays v1 M) fun b_1 M_2 => if b_1 = true then mm_bd (f_R_bits v1 M_2) fun r_3 M_4 => if 5 < r_3 then some ((-1), M_4) else mm_bd (f_R_in v2 1 2 M_4) fun b_5 M_6 => if b_5 = true then mm_jn (fun (M_7 : mm_M) => mm_bd (f_R_laysWho v1 M_7) fun u_8 M_9 => lp_R_shifting_65 v2 v3 (fun (M_12 : mm_M) => lp_R_shifting_98 v2 v3 (fun (v4 : Int32) (M_15 : mm_M) => lp_R_shifting_133 v2 v3 v4 (fun (v5 : Int32) (v6 : Int32) (M_22 : mm_M) => mm_jn (fun (v5 : Int32) (v6 : Int32) (M_23 : mm_M) => mm_jn (fun (v5 : Int32) (s0 : Int32) (M_24 : mm_M) => lp_R_shifting_234 v3 v5 s0 (fun (M_28 : mm_M) => some (s0, M_28)) mm_fu 0 M_24) fun j229 => if v5 = (-1) then j229 v5 (-2) M_23 else if v3 ≤ 9 then if mm_in v3 (mm_al 108) = true then j229 v5 ((M_23.2.1 108 v3.toNatClampNeg) + 3) M_23 else none else j229 v5 v6 M_23) fun j199 => if v5 = (-1) then j199 v5 v6 M_22 else mm_bd (f_R_shiftsBy v5 v2 M_22) fun r_29 M_30 => j199 v5 v6 M_30) mm_fu (-1) 100 0 M_15) mm_fu 1 0 M_12) mm_fu 0 M_9) fun j57 => if v3 = 10 then j57 M_6 else if v3 = 11 then j57 M_6 else mm_bd (f_R_in v3 0 9 M_6) fun b_31 M_32 => if b_31 = true then mm_bd (f_R_has v1 v3 M_32) fun b_33 M_34 => if b_33 = true then j57 M_34 else some ((-1), M_34) else some ((-1), M_32) else some ((-1), M_6) else some ((-1), M_2)
set_option maxHeartbeats 4000000 in
theorem c_R_shifting (E : mm_E) (v1 : Int32) (v2 : Int32) (v3 : Int32) (M : mm_M) : ∀ (r : Int32) (M2 : mm_M), f_R_shifting v1 v2 v3 M = some (r, M2) → mm_P E Y_X12_shifting 5 [.ref 97, .int v1, .int v2, .int v3] M (some (.int r)) M2 := by
  refine mm_entry (em := (fun x : Int32 => some (.int x))) (by decide +kernel) (Nat.le_of_ble_eq_true rfl) ?_
  show mm_G _ E _ _ 0 [(0, .ref 97), (1, .int v1), (2, .int v2), (3, .int v3)] [] M _
  unfold f_R_shifting
  refine mm_aload_n 0 dX12_shifting_0 rfl ?_
  refine mm_iload_n 1 dX12_shifting_1 rfl ?_
  refine mm_callVz (as := [.int v1]) (st := []) (c_R_areStays E v1 M) dX12_shifting_2 mz_X12_areStays lk_RX12_360 im_X12_areStays se_X12_areStays lo_97 rfl rfl rfl ⟨Nat.le_of_ble_eq_true rfl, Nat.le_of_ble_eq_true rfl⟩ (Nat.le_of_ble_eq_true rfl) (fun b_1 M_2 => ?_)
  refine mm_if_eq_b 55 dX12_shifting_5 rfl ?_ ?_
  · refine mm_iconst (v := (-1)) dX12_shifting_55 rfl ?_
    exact mm_iret dX12_shifting_56 rfl
  · refine mm_iload_n 1 dX12_shifting_8 rfl ?_
    refine mm_callSi (as := [.int v1]) (st := []) (c_R_bits E v1 M_2) dX12_shifting_9 mz_X12_bits lk_RX12_367 sm_X12_bits rfl ⟨Nat.le_of_ble_eq_true rfl, Nat.le_of_ble_eq_true rfl⟩ (Nat.le_of_ble_eq_true rfl) (fun r_3 M_4 => ?_)
    refine mm_iconst (v := 5) dX12_shifting_12 rfl ?_
    refine mm_icmp_gt 55 dX12_shifting_13 rfl ?_ ?_
    · refine mm_iconst (v := (-1)) dX12_shifting_55 rfl ?_
      exact mm_iret dX12_shifting_56 rfl
    · refine mm_iload_n 2 dX12_shifting_16 rfl ?_
      refine mm_iconst (v := 1) dX12_shifting_17 rfl ?_
      refine mm_iconst (v := 2) dX12_shifting_18 rfl ?_
      refine mm_callSz (as := [.int v2, .int 1, .int 2]) (st := []) (c_R_in E v2 1 2 M_4) dX12_shifting_19 mz_X12_in lk_RX12_169 sm_X12_in rfl ⟨Nat.le_of_ble_eq_true rfl, Nat.le_of_ble_eq_true rfl⟩ (Nat.le_of_ble_eq_true rfl) (fun b_5 M_6 => ?_)
      refine mm_if_eq_b 55 dX12_shifting_22 rfl ?_ ?_
      · refine mm_iconst (v := (-1)) dX12_shifting_55 rfl ?_
        exact mm_iret dX12_shifting_56 rfl
      · refine mm_iload_n 3 dX12_shifting_25 rfl ?_
        refine mm_bipush (v := 10) dX12_shifting_26 rfl ?_
        refine mm_jnP (P := fun j => ∀ (M : mm_M), mm_G (fun x : Int32 => some (.int x)) E Y_X12_shifting 5 57 [(0, .ref 97), (1, .int v1), (2, .int v2), (3, .int v3)] [] M (j M)) ?_ (fun j57 hj57 => ?_)
        · intro M_7
          refine mm_aload_n 0 dX12_shifting_57 rfl ?_
          refine mm_iload_n 1 dX12_shifting_58 rfl ?_
          refine mm_callVv (as := [.int v1]) (st := []) (c_R_laysWho E v1 M_7) dX12_shifting_59 mz_X12_laysWho lk_RX12_393 im_X12_laysWho se_X12_laysWho lo_97 rfl rfl rfl ⟨Nat.le_of_ble_eq_true rfl, Nat.le_of_ble_eq_true rfl⟩ (Nat.le_of_ble_eq_true rfl) (fun u_8 M_9 => ?_)
          refine mm_iconst (v := 0) dX12_shifting_62 rfl ?_
          refine mm_istore [1, 2, 3, 4, 0] (lv2 := [(0, .ref 97), (1, .int v1), (2, .int v2), (3, .int v3), (4, .int 0)]) dX12_shifting_63 (by decide) rfl ?_
          refine mm_wk [0, 2, 3, 4] rfl ?_
          refine lp_R_shifting_65_ok E v2 v3 ?_ mm_fu 0 M_9
          · intro M_12
            refine mm_iconst (v := 1) dX12_shifting_92 rfl ?_
            refine mm_istore [1, 2, 3, 0] (lv2 := [(0, .ref 97), (2, .int v2), (3, .int v3), (4, .int 1)]) dX12_shifting_93 (by decide) rfl ?_
            refine mm_iconst (v := 0) dX12_shifting_95 rfl ?_
            refine mm_istore [1, 2, 3, 4, 0] (lv2 := [(0, .ref 97), (2, .int v2), (3, .int v3), (4, .int 1), (5, .int 0)]) dX12_shifting_96 (by decide) rfl ?_
            refine lp_R_shifting_98_ok E v2 v3 ?_ mm_fu 1 0 M_12
            · intro v4 M_15
              refine mm_iconst (v := (-1)) dX12_shifting_123 rfl ?_
              refine mm_istore [1, 2, 3, 4, 0] (lv2 := [(0, .ref 97), (2, .int v2), (3, .int v3), (4, .int v4), (5, .int (-1))]) dX12_shifting_124 (by decide) rfl ?_
              refine mm_bipush (v := 100) dX12_shifting_126 rfl ?_
              refine mm_istore [1, 2, 3, 4, 5, 0] (lv2 := [(0, .ref 97), (2, .int v2), (3, .int v3), (4, .int v4), (5, .int (-1)), (6, .int 100)]) dX12_shifting_128 (by decide) rfl ?_
              refine mm_iconst (v := 0) dX12_shifting_130 rfl ?_
              refine mm_istore [1, 2, 3, 4, 5, 6, 0] (lv2 := [(0, .ref 97), (2, .int v2), (3, .int v3), (4, .int v4), (5, .int (-1)), (6, .int 100), (7, .int 0)]) dX12_shifting_131 (by decide) rfl ?_
              refine lp_R_shifting_133_ok E v2 v3 v4 ?_ mm_fu (-1) 100 0 M_15
              · intro v5 v6 M_22
                refine mm_iload 3 dX12_shifting_185 rfl ?_
                refine mm_iconst (v := (-1)) dX12_shifting_187 rfl ?_
                refine mm_jnP (P := fun j => ∀ (v5 : Int32) (v6 : Int32) (M : mm_M), mm_G (fun x : Int32 => some (.int x)) E Y_X12_shifting 5 199 [(0, .ref 97), (3, .int v3), (5, .int v5), (6, .int v6)] [] M (j v5 v6 M)) ?_ (fun j199 hj199 => ?_)
                · intro v5 v6 M_23
                  refine mm_iload 2 dX12_shifting_199 rfl ?_
                  refine mm_iconst (v := (-1)) dX12_shifting_201 rfl ?_
                  refine mm_jnP (P := fun j => ∀ (v5 : Int32) (s0 : Int32) (M : mm_M), mm_G (fun x : Int32 => some (.int x)) E Y_X12_shifting 5 229 [(0, .ref 97), (3, .int v3), (5, .int v5)] [.int s0] M (j v5 s0 M)) ?_ (fun j229 hj229 => ?_)
                  · intro v5 s0 M_24
                    refine mm_istore [1, 2, 3, 0] (lv2 := [(0, .ref 97), (3, .int v3), (5, .int v5), (7, .int s0)]) dX12_shifting_229 (by decide) rfl ?_
                    refine mm_iconst (v := 0) dX12_shifting_231 rfl ?_
                    refine mm_istore [1, 2, 3, 4, 0] (lv2 := [(0, .ref 97), (3, .int v3), (5, .int v5), (7, .int s0), (8, .int 0)]) dX12_shifting_232 (by decide) rfl ?_
                    refine lp_R_shifting_234_ok E v3 v5 s0 ?_ mm_fu 0 M_24
                    · intro M_28
                      refine mm_iload 0 dX12_shifting_273 rfl ?_
                      exact mm_iret dX12_shifting_275 rfl
                  refine mm_icmp_ne 210 dX12_shifting_202 rfl ?_ ?_
                  · refine mm_iload_n 1 dX12_shifting_210 rfl ?_
                    refine mm_bipush (v := 9) dX12_shifting_211 rfl ?_
                    refine mm_icmp_le 221 dX12_shifting_213 rfl ?_ ?_
                    · refine mm_aload_n 0 dX12_shifting_221 rfl ?_
                      refine mm_getR 108 dX12_shifting_222 fl_RX12_41 lo_97 rfl ?_
                      refine mm_iload_n 1 dX12_shifting_225 rfl ?_
                      refine mm_iaload dX12_shifting_226 ?_
                      refine mm_iconst (v := 3) dX12_shifting_227 rfl ?_
                      refine mm_iadd dX12_shifting_228 ?_
                      refine mm_wk [0, 1, 2] rfl ?_
                      exact hj229 v5 ((M_23.2.1 108 v3.toNatClampNeg) + 3) M_23
                    · refine mm_iload 3 dX12_shifting_216 rfl ?_
                      refine mm_goto 229 dX12_shifting_218 rfl ?_
                      refine mm_wk [0, 1, 2] rfl ?_
                      exact hj229 v5 v6 M_23
                  · refine mm_bipush (v := (-2)) dX12_shifting_205 rfl ?_
                    refine mm_goto 229 dX12_shifting_207 rfl ?_
                    refine mm_wk [0, 1, 2] rfl ?_
                    exact hj229 v5 (-2) M_23
                refine mm_icmp_eq 199 dX12_shifting_188 rfl ?_ ?_
                · refine mm_wk [0, 2, 3, 4] rfl ?_
                  exact hj199 v5 v6 M_22
                · refine mm_aload_n 0 dX12_shifting_191 rfl ?_
                  refine mm_iload 3 dX12_shifting_192 rfl ?_
                  refine mm_iload_n 1 dX12_shifting_194 rfl ?_
                  refine mm_callVi (as := [.int v5, .int v2]) (st := []) (c_R_shiftsBy E v5 v2 M_22) dX12_shifting_195 mz_X12_shiftsBy lk_RX12_402 im_X12_shiftsBy se_X12_shiftsBy lo_97 rfl rfl rfl ⟨Nat.le_of_ble_eq_true rfl, Nat.le_of_ble_eq_true rfl⟩ (Nat.le_of_ble_eq_true rfl) (fun r_29 M_30 => ?_)
                  refine mm_pop dX12_shifting_198 rfl ?_
                  refine mm_wk [0, 2, 3, 4] rfl ?_
                  exact hj199 v5 v6 M_30
        refine mm_icmp_eq 57 dX12_shifting_28 rfl ?_ ?_
        · exact hj57  M_6
        · refine mm_iload_n 3 dX12_shifting_31 rfl ?_
          refine mm_bipush (v := 11) dX12_shifting_32 rfl ?_
          refine mm_icmp_eq 57 dX12_shifting_34 rfl ?_ ?_
          · exact hj57  M_6
          · refine mm_iload_n 3 dX12_shifting_37 rfl ?_
            refine mm_iconst (v := 0) dX12_shifting_38 rfl ?_
            refine mm_bipush (v := 9) dX12_shifting_39 rfl ?_
            refine mm_callSz (as := [.int v3, .int 0, .int 9]) (st := []) (c_R_in E v3 0 9 M_6) dX12_shifting_41 mz_X12_in lk_RX12_169 sm_X12_in rfl ⟨Nat.le_of_ble_eq_true rfl, Nat.le_of_ble_eq_true rfl⟩ (Nat.le_of_ble_eq_true rfl) (fun b_31 M_32 => ?_)
            refine mm_if_eq_b 55 dX12_shifting_44 rfl ?_ ?_
            · refine mm_iconst (v := (-1)) dX12_shifting_55 rfl ?_
              exact mm_iret dX12_shifting_56 rfl
            · refine mm_iload_n 1 dX12_shifting_47 rfl ?_
              refine mm_iload_n 3 dX12_shifting_48 rfl ?_
              refine mm_callSz (as := [.int v1, .int v3]) (st := []) (c_R_has E v1 v3 M_32) dX12_shifting_49 mz_X12_has lk_RX12_199 sm_X12_has rfl ⟨Nat.le_of_ble_eq_true rfl, Nat.le_of_ble_eq_true rfl⟩ (Nat.le_of_ble_eq_true rfl) (fun b_33 M_34 => ?_)
              refine mm_if_ne_b 57 dX12_shifting_52 rfl ?_ ?_
              · exact hj57  M_34
              · refine mm_iconst (v := (-1)) dX12_shifting_55 rfl ?_
                exact mm_iret dX12_shifting_56 rfl
def f_R_max (v0 : Int32) (v1 : Int32) (M : mm_M) : Option (Int32 × mm_M) := if v0 ≤ v1 then some (v1, M) else some (v0, M)
set_option maxHeartbeats 4000000 in
theorem c_R_max (E : mm_E) (v0 : Int32) (v1 : Int32) (M : mm_M) : ∀ (r : Int32) (M2 : mm_M), f_R_max v0 v1 M = some (r, M2) → mm_P E Y_X12_max 1 [.int v0, .int v1] M (some (.int r)) M2 := by
  refine mm_entry (em := (fun x : Int32 => some (.int x))) (by decide +kernel) (Nat.le_of_ble_eq_true rfl) ?_
  show mm_G _ E _ _ 0 [(0, .int v0), (1, .int v1)] [] M _
  unfold f_R_max
  refine mm_iload_n 0 dX12_max_0 rfl ?_
  refine mm_iload_n 1 dX12_max_1 rfl ?_
  refine mm_icmp_le 9 dX12_max_2 rfl ?_ ?_
  · refine mm_iload_n 1 dX12_max_9 rfl ?_
    exact mm_iret dX12_max_10 rfl
  · refine mm_iload_n 0 dX12_max_5 rfl ?_
    refine mm_goto 10 dX12_max_6 rfl ?_
    exact mm_iret dX12_max_10 rfl
def lp_R_mostWanted_5 (v1 : Int32) (v2 : Int32) (k31 : Int32 → mm_M → Option (Int32 × mm_M)) : Nat → Int32 → Int32 → mm_M → Option (Int32 × mm_M)
  | 0, _, _, _ => none
  | n + 1, v3, v4, M => if 24 ≤ v4 then k31 v3 M else mm_bd (f_R_wantAll v1 v2 v4 M) fun r_1 M_2 => mm_bd (f_R_max v3 r_1 M_2) fun r_3 M_4 => mm_let (v4 + 1) fun v4_5 => lp_R_mostWanted_5 v1 v2 k31 n r_3 v4_5 M_4
set_option maxHeartbeats 4000000 in
theorem lp_R_mostWanted_5_ok (E : mm_E) (v1 : Int32) (v2 : Int32) {k31 : Int32 → mm_M → Option (Int32 × mm_M)} (hk31 : ∀ (v3 : Int32) (M : mm_M), mm_G (fun x : Int32 => some (.int x)) E Y_X12_mostWanted 3 31 [(3, .int v3)] [] M (k31 v3 M)) : ∀ (n : Nat) (v3 : Int32) (v4 : Int32) (M : mm_M), mm_G (fun x : Int32 => some (.int x)) E Y_X12_mostWanted 3 5 [(0, .ref 97), (1, .int v1), (2, .int v2), (3, .int v3), (4, .int v4)] [] M (lp_R_mostWanted_5 v1 v2 k31 n v3 v4 M) := by
  intro n
  induction n with
  | zero => intro v3 v4 M r M2 he; cases he
  | succ n ih =>
    intro v3 v4 M
    rw [lp_R_mostWanted_5]
    refine mm_iload 4 dX12_mostWanted_5 rfl ?_
    refine mm_bipush (v := 24) dX12_mostWanted_7 rfl ?_
    refine mm_icmp_ge 31 dX12_mostWanted_9 rfl ?_ ?_
    · refine mm_wk [3] rfl ?_
      exact hk31 v3 M
    · refine mm_iload_n 3 dX12_mostWanted_12 rfl ?_
      refine mm_aload_n 0 dX12_mostWanted_13 rfl ?_
      refine mm_iload_n 1 dX12_mostWanted_14 rfl ?_
      refine mm_iload_n 2 dX12_mostWanted_15 rfl ?_
      refine mm_iload 4 dX12_mostWanted_16 rfl ?_
      refine mm_callVi (as := [.int v1, .int v2, .int v4]) (st := [.int v3]) (c_R_wantAll E v1 v2 v4 M) dX12_mostWanted_18 mz_X12_wantAll lk_RX12_234 im_X12_wantAll se_X12_wantAll lo_97 rfl rfl rfl ⟨Nat.le_of_ble_eq_true rfl, Nat.le_of_ble_eq_true rfl⟩ (Nat.le_of_ble_eq_true rfl) (fun r_1 M_2 => ?_)
      refine mm_callSi (as := [.int v3, .int r_1]) (st := []) (c_R_max E v3 r_1 M_2) dX12_mostWanted_21 mz_X12_max lk_RX12_405 sm_X12_max rfl ⟨Nat.le_of_ble_eq_true rfl, Nat.le_of_ble_eq_true rfl⟩ (Nat.le_of_ble_eq_true rfl) (fun r_3 M_4 => ?_)
      refine mm_istore_n [1, 2, 3, 0, 4] (lv2 := [(0, .ref 97), (1, .int v1), (2, .int v2), (3, .int r_3), (4, .int v4)]) dX12_mostWanted_24 (by decide) rfl ?_
      refine mm_iincN 4 [1, 2, 3, 4, 0] (v := v4 + 1) (lv2 := fun v4_5 => [(0, .ref 97), (1, .int v1), (2, .int v2), (3, .int r_3), (4, .int v4_5)]) dX12_mostWanted_25 rfl rfl (by decide) (fun _ => rfl) (fun v4_5 => ?_)
      refine mm_goto 5 dX12_mostWanted_28 rfl ?_
      exact ih r_3 v4_5 M_4
def f_R_mostWanted (v1 : Int32) (v2 : Int32) (M : mm_M) : Option (Int32 × mm_M) := lp_R_mostWanted_5 v1 v2 (fun (v3 : Int32) (M_6 : mm_M) => some (v3, M_6)) mm_fu 0 0 M
set_option maxHeartbeats 4000000 in
theorem c_R_mostWanted (E : mm_E) (v1 : Int32) (v2 : Int32) (M : mm_M) : ∀ (r : Int32) (M2 : mm_M), f_R_mostWanted v1 v2 M = some (r, M2) → mm_P E Y_X12_mostWanted 3 [.ref 97, .int v1, .int v2] M (some (.int r)) M2 := by
  refine mm_entry (em := (fun x : Int32 => some (.int x))) (by decide +kernel) (Nat.le_of_ble_eq_true rfl) ?_
  show mm_G _ E _ _ 0 [(0, .ref 97), (1, .int v1), (2, .int v2)] [] M _
  unfold f_R_mostWanted
  refine mm_iconst (v := 0) dX12_mostWanted_0 rfl ?_
  refine mm_istore_n [1, 2, 3, 0] (lv2 := [(0, .ref 97), (1, .int v1), (2, .int v2), (3, .int 0)]) dX12_mostWanted_1 (by decide) rfl ?_
  refine mm_iconst (v := 0) dX12_mostWanted_2 rfl ?_
  refine mm_istore [1, 2, 3, 4, 0] (lv2 := [(0, .ref 97), (1, .int v1), (2, .int v2), (3, .int 0), (4, .int 0)]) dX12_mostWanted_3 (by decide) rfl ?_
  refine lp_R_mostWanted_5_ok E v1 v2 ?_ mm_fu 0 0 M
  · intro v3 M_6
    refine mm_iload_n 0 dX12_mostWanted_31 rfl ?_
    exact mm_iret dX12_mostWanted_32 rfl
def f_R_moreOf (v1 : Int32) (v2 : Int32) (M : mm_M) : Option (Int32 × mm_M) := mm_bd (f_R_mostWanted v1 v2 M) fun r_1 M_2 => if mm_in v2 (mm_al 102) = true then mm_bd (f_R_max 0 (r_1 - (M_2.2.1 102 v2.toNatClampNeg)) M_2) fun r_3 M_4 => some (r_3, M_4) else none
set_option maxHeartbeats 4000000 in
theorem c_R_moreOf (E : mm_E) (v1 : Int32) (v2 : Int32) (M : mm_M) : ∀ (r : Int32) (M2 : mm_M), f_R_moreOf v1 v2 M = some (r, M2) → mm_P E Y_X12_moreOf 4 [.ref 97, .int v1, .int v2] M (some (.int r)) M2 := by
  refine mm_entry (em := (fun x : Int32 => some (.int x))) (by decide +kernel) (Nat.le_of_ble_eq_true rfl) ?_
  show mm_G _ E _ _ 0 [(0, .ref 97), (1, .int v1), (2, .int v2)] [] M _
  unfold f_R_moreOf
  refine mm_iconst (v := 0) dX12_moreOf_0 rfl ?_
  refine mm_aload_n 0 dX12_moreOf_1 rfl ?_
  refine mm_iload_n 1 dX12_moreOf_2 rfl ?_
  refine mm_iload_n 2 dX12_moreOf_3 rfl ?_
  refine mm_callVi (as := [.int v1, .int v2]) (st := [.int 0]) (c_R_mostWanted E v1 v2 M) dX12_moreOf_4 mz_X12_mostWanted lk_RX12_408 im_X12_mostWanted se_X12_mostWanted lo_97 rfl rfl rfl ⟨Nat.le_of_ble_eq_true rfl, Nat.le_of_ble_eq_true rfl⟩ (Nat.le_of_ble_eq_true rfl) (fun r_1 M_2 => ?_)
  refine mm_aload_n 0 dX12_moreOf_7 rfl ?_
  refine mm_getR 102 dX12_moreOf_8 fl_RX12_23 lo_97 rfl ?_
  refine mm_iload_n 2 dX12_moreOf_11 rfl ?_
  refine mm_iaload dX12_moreOf_12 ?_
  refine mm_isub dX12_moreOf_13 ?_
  refine mm_callSi (as := [.int 0, .int (r_1 - (M_2.2.1 102 v2.toNatClampNeg))]) (st := []) (c_R_max E 0 (r_1 - (M_2.2.1 102 v2.toNatClampNeg)) M_2) dX12_moreOf_14 mz_X12_max lk_RX12_405 sm_X12_max rfl ⟨Nat.le_of_ble_eq_true rfl, Nat.le_of_ble_eq_true rfl⟩ (Nat.le_of_ble_eq_true rfl) (fun r_3 M_4 => ?_)
  exact mm_iret dX12_moreOf_17 rfl
def lp_R_brings_8 (v1 : Int32) (k35 : Int32 → mm_M → Option (Int32 × mm_M)) : Nat → Int32 → Int32 → mm_M → Option (Int32 × mm_M)
  | 0, _, _, _ => none
  | n + 1, v2, v3, M => if 3 ≤ v3 then k35 v2 M else mm_bd (f_R_moreOf v1 v3 M) fun r_3 M_4 => if mm_in v3 (mm_al 103) = true then mm_let (v2 - (r_3 * (M_4.2.1 103 v3.toNatClampNeg))) fun v2_5 => mm_let (v3 + 1) fun v3_6 => lp_R_brings_8 v1 k35 n v2_5 v3_6 M_4 else none
set_option maxHeartbeats 4000000 in
theorem lp_R_brings_8_ok (E : mm_E) (v1 : Int32) {k35 : Int32 → mm_M → Option (Int32 × mm_M)} (hk35 : ∀ (v2 : Int32) (M : mm_M), mm_G (fun x : Int32 => some (.int x)) E Y_X12_brings 5 35 [(2, .int v2)] [] M (k35 v2 M)) : ∀ (n : Nat) (v2 : Int32) (v3 : Int32) (M : mm_M), mm_G (fun x : Int32 => some (.int x)) E Y_X12_brings 5 8 [(0, .ref 97), (1, .int v1), (2, .int v2), (3, .int v3)] [] M (lp_R_brings_8 v1 k35 n v2 v3 M) := by
  intro n
  induction n with
  | zero => intro v2 v3 M r M2 he; cases he
  | succ n ih =>
    intro v2 v3 M
    rw [lp_R_brings_8]
    refine mm_iload_n 3 dX12_brings_8 rfl ?_
    refine mm_iconst (v := 3) dX12_brings_9 rfl ?_
    refine mm_icmp_ge 35 dX12_brings_10 rfl ?_ ?_
    · refine mm_wk [2] rfl ?_
      exact hk35 v2 M
    · refine mm_iload_n 2 dX12_brings_13 rfl ?_
      refine mm_aload_n 0 dX12_brings_14 rfl ?_
      refine mm_iload_n 1 dX12_brings_15 rfl ?_
      refine mm_iload_n 3 dX12_brings_16 rfl ?_
      refine mm_callVi (as := [.int v1, .int v3]) (st := [.int v2]) (c_R_moreOf E v1 v3 M) dX12_brings_17 mz_X12_moreOf lk_RX12_411 im_X12_moreOf se_X12_moreOf lo_97 rfl rfl rfl ⟨Nat.le_of_ble_eq_true rfl, Nat.le_of_ble_eq_true rfl⟩ (Nat.le_of_ble_eq_true rfl) (fun r_3 M_4 => ?_)
      refine mm_aload_n 0 dX12_brings_20 rfl ?_
      refine mm_getR 103 dX12_brings_21 fl_RX12_26 lo_97 rfl ?_
      refine mm_iload_n 3 dX12_brings_24 rfl ?_
      refine mm_iaload dX12_brings_25 ?_
      refine mm_imul dX12_brings_26 ?_
      refine mm_isub dX12_brings_27 ?_
      refine mm_nm_int (fun v2_5 => ?_)
      refine mm_istore_n [1, 2, 0, 3] (lv2 := [(0, .ref 97), (1, .int v1), (2, .int v2_5), (3, .int v3)]) dX12_brings_28 (by decide) rfl ?_
      refine mm_iincN 3 [1, 2, 3, 0] (v := v3 + 1) (lv2 := fun v3_6 => [(0, .ref 97), (1, .int v1), (2, .int v2_5), (3, .int v3_6)]) dX12_brings_29 rfl rfl (by decide) (fun _ => rfl) (fun v3_6 => ?_)
      refine mm_goto 8 dX12_brings_32 rfl ?_
      exact ih v2_5 v3_6 M_4
def f_R_brings (v1 : Int32) (M : mm_M) : Option (Int32 × mm_M) := mm_bd (f_R_pricesOf v1 M) fun r_1 M_2 => lp_R_brings_8 v1 (fun (v2 : Int32) (M_7 : mm_M) => some (v2, M_7)) mm_fu r_1 0 M_2
set_option maxHeartbeats 4000000 in
theorem c_R_brings (E : mm_E) (v1 : Int32) (M : mm_M) : ∀ (r : Int32) (M2 : mm_M), f_R_brings v1 M = some (r, M2) → mm_P E Y_X12_brings 5 [.ref 97, .int v1] M (some (.int r)) M2 := by
  refine mm_entry (em := (fun x : Int32 => some (.int x))) (by decide +kernel) (Nat.le_of_ble_eq_true rfl) ?_
  show mm_G _ E _ _ 0 [(0, .ref 97), (1, .int v1)] [] M _
  unfold f_R_brings
  refine mm_aload_n 0 dX12_brings_0 rfl ?_
  refine mm_iload_n 1 dX12_brings_1 rfl ?_
  refine mm_callVi (as := [.int v1]) (st := []) (c_R_pricesOf E v1 M) dX12_brings_2 mz_X12_pricesOf lk_RX12_370 im_X12_pricesOf se_X12_pricesOf lo_97 rfl rfl rfl ⟨Nat.le_of_ble_eq_true rfl, Nat.le_of_ble_eq_true rfl⟩ (Nat.le_of_ble_eq_true rfl) (fun r_1 M_2 => ?_)
  refine mm_istore_n [1, 2, 0] (lv2 := [(0, .ref 97), (1, .int v1), (2, .int r_1)]) dX12_brings_5 (by decide) rfl ?_
  refine mm_iconst (v := 0) dX12_brings_6 rfl ?_
  refine mm_istore_n [1, 2, 3, 0] (lv2 := [(0, .ref 97), (1, .int v1), (2, .int r_1), (3, .int 0)]) dX12_brings_7 (by decide) rfl ?_
  refine lp_R_brings_8_ok E v1 ?_ mm_fu r_1 0 M_2
  · intro v2 M_7
    refine mm_iload_n 0 dX12_brings_35 rfl ?_
    exact mm_iret dX12_brings_36 rfl
def lp_R_larger_18 (v1 : Int32) (k86 : Int32 → Int32 → mm_M → Option (Int32 × mm_M)) : Nat → Int32 → Int32 → Int32 → mm_M → Option (Int32 × mm_M)
  | 0, _, _, _, _ => none
  | n + 1, v2, v3, v4, M => if 1024 ≤ v4 then k86 v2 v3 M else mm_jn (fun (v2 : Int32) (v3 : Int32) (v4 : Int32) (M_3 : mm_M) => mm_let (v4 + 1) fun v4_4 => lp_R_larger_18 v1 k86 n v2 v3 v4_4 M_3) fun j80 => if v4 &&& ((M.1 97 12) ^^^ (-1)) = 0 then mm_bd (f_R_brings v4 M) fun r_5 M_6 => mm_bd (f_R_isBetter v4 r_5 v2 v3 M_6) fun b_7 M_8 => if b_7 = true then mm_bd (f_R_canBe v4 false M_8) fun b_9 M_10 => if b_9 = true then j80 v4 r_5 v4 M_10 else j80 v2 v3 v4 M_10 else j80 v2 v3 v4 M_8 else j80 v2 v3 v4 M
set_option maxHeartbeats 4000000 in
theorem lp_R_larger_18_ok (E : mm_E) (v1 : Int32) {k86 : Int32 → Int32 → mm_M → Option (Int32 × mm_M)} (hk86 : ∀ (v2 : Int32) (v3 : Int32) (M : mm_M), mm_G (fun x : Int32 => some (.int x)) E Y_X12_larger 6 86 [(0, .ref 97), (1, .int v1), (2, .int v2), (3, .int v3)] [] M (k86 v2 v3 M)) : ∀ (n : Nat) (v2 : Int32) (v3 : Int32) (v4 : Int32) (M : mm_M), mm_G (fun x : Int32 => some (.int x)) E Y_X12_larger 6 18 [(0, .ref 97), (1, .int v1), (2, .int v2), (3, .int v3), (4, .int v4)] [] M (lp_R_larger_18 v1 k86 n v2 v3 v4 M) := by
  intro n
  induction n with
  | zero => intro v2 v3 v4 M r M2 he; cases he
  | succ n ih =>
    intro v2 v3 v4 M
    rw [lp_R_larger_18]
    refine mm_iload 4 dX12_larger_18 rfl ?_
    refine mm_sipush (v := 1024) dX12_larger_20 rfl ?_
    refine mm_icmp_ge 86 dX12_larger_23 rfl ?_ ?_
    · refine mm_wk [0, 1, 2, 3] rfl ?_
      exact hk86 v2 v3 M
    · refine mm_iload 4 dX12_larger_26 rfl ?_
      refine mm_aload_n 0 dX12_larger_28 rfl ?_
      refine mm_getI dX12_larger_29 fl_RX12_217 lo_97 rfl ?_
      refine mm_iconst (v := (-1)) dX12_larger_32 rfl ?_
      refine mm_ixor dX12_larger_33 ?_
      refine mm_iand dX12_larger_34 ?_
      refine mm_jnP (P := fun j => ∀ (v2 : Int32) (v3 : Int32) (v4 : Int32) (M : mm_M), mm_G (fun x : Int32 => some (.int x)) E Y_X12_larger 6 80 [(0, .ref 97), (1, .int v1), (2, .int v2), (3, .int v3), (4, .int v4)] [] M (j v2 v3 v4 M)) ?_ (fun j80 hj80 => ?_)
      · intro v2 v3 v4 M_3
        refine mm_iincN 4 [1, 2, 3, 4, 0] (v := v4 + 1) (lv2 := fun v4_4 => [(0, .ref 97), (1, .int v1), (2, .int v2), (3, .int v3), (4, .int v4_4)]) dX12_larger_80 rfl rfl (by decide) (fun _ => rfl) (fun v4_4 => ?_)
        refine mm_goto 18 dX12_larger_83 rfl ?_
        exact ih v2 v3 v4_4 M_3
      refine mm_if_eq 41 dX12_larger_35 rfl ?_ ?_
      · refine mm_aload_n 0 dX12_larger_41 rfl ?_
        refine mm_iload 4 dX12_larger_42 rfl ?_
        refine mm_callVi (as := [.int v4]) (st := []) (c_R_brings E v4 M) dX12_larger_44 mz_X12_brings lk_RX12_414 im_X12_brings se_X12_brings lo_97 rfl rfl rfl ⟨Nat.le_of_ble_eq_true rfl, Nat.le_of_ble_eq_true rfl⟩ (Nat.le_of_ble_eq_true rfl) (fun r_5 M_6 => ?_)
        refine mm_istore [1, 2, 3, 4, 5, 0] (lv2 := [(0, .ref 97), (1, .int v1), (2, .int v2), (3, .int v3), (4, .int v4), (5, .int r_5)]) dX12_larger_47 (by decide) rfl ?_
        refine mm_iload 4 dX12_larger_49 rfl ?_
        refine mm_iload 5 dX12_larger_51 rfl ?_
        refine mm_iload_n 2 dX12_larger_53 rfl ?_
        refine mm_iload_n 3 dX12_larger_54 rfl ?_
        refine mm_callSz (as := [.int v4, .int r_5, .int v2, .int v3]) (st := []) (c_R_isBetter E v4 r_5 v2 v3 M_6) dX12_larger_55 mz_X12_isBetter lk_RX12_373 sm_X12_isBetter rfl ⟨Nat.le_of_ble_eq_true rfl, Nat.le_of_ble_eq_true rfl⟩ (Nat.le_of_ble_eq_true rfl) (fun b_7 M_8 => ?_)
        refine mm_if_eq_b 80 dX12_larger_58 rfl ?_ ?_
        · refine mm_wk [0, 1, 2, 3, 4] rfl ?_
          exact hj80 v2 v3 v4 M_8
        · refine mm_aload_n 0 dX12_larger_61 rfl ?_
          refine mm_iload 4 dX12_larger_62 rfl ?_
          refine mm_iconst (v := 0) dX12_larger_64 rfl ?_
          refine mm_callVz (as := [.int v4, .int (mm_b false)]) (st := []) (c_R_canBe E v4 false M_8) dX12_larger_65 mz_X12_canBe lk_RX12_363 im_X12_canBe se_X12_canBe lo_97 rfl rfl rfl ⟨Nat.le_of_ble_eq_true rfl, Nat.le_of_ble_eq_true rfl⟩ (Nat.le_of_ble_eq_true rfl) (fun b_9 M_10 => ?_)
          refine mm_if_ne_b 74 dX12_larger_68 rfl ?_ ?_
          · refine mm_iload 4 dX12_larger_74 rfl ?_
            refine mm_istore_n [1, 2, 0, 3, 4, 5] (lv2 := [(0, .ref 97), (1, .int v1), (2, .int v4), (3, .int v3), (4, .int v4), (5, .int r_5)]) dX12_larger_76 (by decide) rfl ?_
            refine mm_iload 5 dX12_larger_77 rfl ?_
            refine mm_istore_n [1, 2, 3, 0, 4, 5] (lv2 := [(0, .ref 97), (1, .int v1), (2, .int v4), (3, .int r_5), (4, .int v4), (5, .int r_5)]) dX12_larger_79 (by decide) rfl ?_
            refine mm_wk [0, 1, 2, 3, 4] rfl ?_
            exact hj80 v4 r_5 v4 M_10
          · refine mm_goto 80 dX12_larger_71 rfl ?_
            refine mm_wk [0, 1, 2, 3, 4] rfl ?_
            exact hj80 v2 v3 v4 M_10
      · refine mm_goto 80 dX12_larger_38 rfl ?_
        exact hj80 v2 v3 v4 M
def f_R_larger (v1 : Int32) (M : mm_M) : Option (Int32 × mm_M) := mm_bd (f_R_in v1 0 4 M) fun b_1 M_2 => if b_1 = true then lp_R_larger_18 v1 (fun (v2 : Int32) (v3 : Int32) (M_11 : mm_M) => if v1 = 0 then some (v3, M_11) else if v1 = 1 then some (v2, M_11) else mm_bd (f_R_moreOf v2 (v1 - 2) M_11) fun r_12 M_13 => some (r_12, M_13)) mm_fu 0 0 1 M_2 else some ((-1), M_2)
set_option maxHeartbeats 4000000 in
theorem c_R_larger (E : mm_E) (v1 : Int32) (M : mm_M) : ∀ (r : Int32) (M2 : mm_M), f_R_larger v1 M = some (r, M2) → mm_P E Y_X12_larger 6 [.ref 97, .int v1] M (some (.int r)) M2 := by
  refine mm_entry (em := (fun x : Int32 => some (.int x))) (by decide +kernel) (Nat.le_of_ble_eq_true rfl) ?_
  show mm_G _ E _ _ 0 [(0, .ref 97), (1, .int v1)] [] M _
  unfold f_R_larger
  refine mm_iload_n 1 dX12_larger_0 rfl ?_
  refine mm_iconst (v := 0) dX12_larger_1 rfl ?_
  refine mm_iconst (v := 4) dX12_larger_2 rfl ?_
  refine mm_callSz (as := [.int v1, .int 0, .int 4]) (st := []) (c_R_in E v1 0 4 M) dX12_larger_3 mz_X12_in lk_RX12_169 sm_X12_in rfl ⟨Nat.le_of_ble_eq_true rfl, Nat.le_of_ble_eq_true rfl⟩ (Nat.le_of_ble_eq_true rfl) (fun b_1 M_2 => ?_)
  refine mm_if_ne_b 11 dX12_larger_6 rfl ?_ ?_
  · refine mm_iconst (v := 0) dX12_larger_11 rfl ?_
    refine mm_istore_n [1, 2, 0] (lv2 := [(0, .ref 97), (1, .int v1), (2, .int 0)]) dX12_larger_12 (by decide) rfl ?_
    refine mm_iconst (v := 0) dX12_larger_13 rfl ?_
    refine mm_istore_n [1, 2, 3, 0] (lv2 := [(0, .ref 97), (1, .int v1), (2, .int 0), (3, .int 0)]) dX12_larger_14 (by decide) rfl ?_
    refine mm_iconst (v := 1) dX12_larger_15 rfl ?_
    refine mm_istore [1, 2, 3, 4, 0] (lv2 := [(0, .ref 97), (1, .int v1), (2, .int 0), (3, .int 0), (4, .int 1)]) dX12_larger_16 (by decide) rfl ?_
    refine lp_R_larger_18_ok E v1 ?_ mm_fu 0 0 1 M_2
    · intro v2 v3 M_11
      refine mm_iload_n 1 dX12_larger_86 rfl ?_
      refine mm_if_ne 94 dX12_larger_87 rfl ?_ ?_
      · refine mm_iload_n 1 dX12_larger_94 rfl ?_
        refine mm_iconst (v := 1) dX12_larger_95 rfl ?_
        refine mm_icmp_ne 103 dX12_larger_96 rfl ?_ ?_
        · refine mm_aload_n 0 dX12_larger_103 rfl ?_
          refine mm_iload_n 2 dX12_larger_104 rfl ?_
          refine mm_iload_n 1 dX12_larger_105 rfl ?_
          refine mm_iconst (v := 2) dX12_larger_106 rfl ?_
          refine mm_isub dX12_larger_107 ?_
          refine mm_callVi (as := [.int v2, .int (v1 - 2)]) (st := []) (c_R_moreOf E v2 (v1 - 2) M_11) dX12_larger_108 mz_X12_moreOf lk_RX12_411 im_X12_moreOf se_X12_moreOf lo_97 rfl rfl rfl ⟨Nat.le_of_ble_eq_true rfl, Nat.le_of_ble_eq_true rfl⟩ (Nat.le_of_ble_eq_true rfl) (fun r_12 M_13 => ?_)
          exact mm_iret dX12_larger_111 rfl
        · refine mm_iload_n 2 dX12_larger_99 rfl ?_
          refine mm_goto 111 dX12_larger_100 rfl ?_
          exact mm_iret dX12_larger_111 rfl
      · refine mm_iload_n 3 dX12_larger_90 rfl ?_
        refine mm_goto 111 dX12_larger_91 rfl ?_
        exact mm_iret dX12_larger_111 rfl
  · refine mm_iconst (v := (-1)) dX12_larger_9 rfl ?_
    exact mm_iret dX12_larger_10 rfl
def lp_R_gcd_6 (k31 : Int64 → mm_M → Option (Int64 × mm_M)) : Nat → Int64 → Int64 → mm_M → Option (Int64 × mm_M)
  | 0, _, _, _ => none
  | n + 1, v4, v6, M => if lg_cmp v6 ((0 : Int64)) = 0 then k31 v4 M else if v6 = 0 then none else mm_let (mm_remL v4 v6) fun v8_1 => lp_R_gcd_6 k31 n v6 v8_1 M
set_option maxHeartbeats 4000000 in
theorem lp_R_gcd_6_ok (E : mm_E) {k31 : Int64 → mm_M → Option (Int64 × mm_M)} (hk31 : ∀ (v4 : Int64) (M : mm_M), mm_G (fun x : Int64 => some (.long x)) E Y_X12_gcd 1 31 [(4, .long v4)] [] M (k31 v4 M)) : ∀ (n : Nat) (v4 : Int64) (v6 : Int64) (M : mm_M), mm_G (fun x : Int64 => some (.long x)) E Y_X12_gcd 1 6 [(4, .long v4), (6, .long v6)] [] M (lp_R_gcd_6 k31 n v4 v6 M) := by
  intro n
  induction n with
  | zero => intro v4 v6 M r M2 he; cases he
  | succ n ih =>
    intro v4 v6 M
    rw [lp_R_gcd_6]
    refine mm_lload 1 dX12_gcd_6 rfl ?_
    refine mm_lconst (v := 0) dX12_gcd_8 rfl ?_
    refine mm_lcmp dX12_gcd_9 ?_
    refine mm_if_eq 31 dX12_gcd_10 rfl ?_ ?_
    · refine mm_wk [0] rfl ?_
      exact hk31 v4 M
    · refine mm_lload 0 dX12_gcd_13 rfl ?_
      refine mm_lload 1 dX12_gcd_15 rfl ?_
      refine mm_lrem dX12_gcd_17 ?_
      refine mm_nm_long (fun v8_1 => ?_)
      refine mm_lstore [1, 2, 0] (lv2 := [(4, .long v4), (6, .long v6), (8, .long v8_1)]) dX12_gcd_18 (by decide) rfl ?_
      refine mm_lload 1 dX12_gcd_20 rfl ?_
      refine mm_lstore [0, 1, 2] (lv2 := [(4, .long v6), (6, .long v6), (8, .long v8_1)]) dX12_gcd_22 (by decide) rfl ?_
      refine mm_lload 2 dX12_gcd_24 rfl ?_
      refine mm_lstore [1, 0, 2] (lv2 := [(4, .long v6), (6, .long v8_1), (8, .long v8_1)]) dX12_gcd_26 (by decide) rfl ?_
      refine mm_goto 6 dX12_gcd_28 rfl ?_
      refine mm_wk [0, 1] rfl ?_
      exact ih v6 v8_1 M
def f_R_gcd (v0 : Int64) (v2 : Int64) (M : mm_M) : Option (Int64 × mm_M) := lp_R_gcd_6 (fun (v4 : Int64) (M_2 : mm_M) => some (v4, M_2)) mm_fu v0 v2 M
set_option maxHeartbeats 4000000 in
theorem c_R_gcd (E : mm_E) (v0 : Int64) (v2 : Int64) (M : mm_M) : ∀ (r : Int64) (M2 : mm_M), f_R_gcd v0 v2 M = some (r, M2) → mm_P E Y_X12_gcd 1 [.long v0, .long v2] M (some (.long r)) M2 := by
  refine mm_entry (em := (fun x : Int64 => some (.long x))) (by decide +kernel) (Nat.le_of_ble_eq_true rfl) ?_
  show mm_G _ E _ _ 0 [(0, .long v0), (2, .long v2)] [] M _
  unfold f_R_gcd
  refine mm_lload_n 0 dX12_gcd_0 rfl ?_
  refine mm_lstore [1, 2, 0] (lv2 := [(0, .long v0), (2, .long v2), (4, .long v0)]) dX12_gcd_1 (by decide) rfl ?_
  refine mm_lload_n 1 dX12_gcd_3 rfl ?_
  refine mm_lstore [1, 2, 3, 0] (lv2 := [(0, .long v0), (2, .long v2), (4, .long v0), (6, .long v2)]) dX12_gcd_4 (by decide) rfl ?_
  refine mm_wk [2, 3] rfl ?_
  refine lp_R_gcd_6_ok E ?_ mm_fu v0 v2 M
  · intro v4 M_2
    refine mm_lload 0 dX12_gcd_31 rfl ?_
    exact mm_lret dX12_gcd_33 rfl
def lp_R_plantCost_4 (v1 : Int32) (k31 : Int32 → mm_M → Option (Int32 × mm_M)) : Nat → Int32 → Int32 → mm_M → Option (Int32 × mm_M)
  | 0, _, _, _ => none
  | n + 1, v2, v3, M => if 3 ≤ v3 then k31 v2 M else mm_bd (f_R_mostWanted v1 v3 M) fun r_1 M_2 => if mm_in v3 (mm_al 103) = true then mm_let (v2 + (r_1 * (M_2.2.1 103 v3.toNatClampNeg))) fun v2_3 => mm_let (v3 + 1) fun v3_4 => lp_R_plantCost_4 v1 k31 n v2_3 v3_4 M_2 else none
set_option maxHeartbeats 4000000 in
theorem lp_R_plantCost_4_ok (E : mm_E) (v1 : Int32) {k31 : Int32 → mm_M → Option (Int32 × mm_M)} (hk31 : ∀ (v2 : Int32) (M : mm_M), mm_G (fun x : Int32 => some (.int x)) E Y_X12_plantCost 4 31 [(2, .int v2)] [] M (k31 v2 M)) : ∀ (n : Nat) (v2 : Int32) (v3 : Int32) (M : mm_M), mm_G (fun x : Int32 => some (.int x)) E Y_X12_plantCost 4 4 [(0, .ref 97), (1, .int v1), (2, .int v2), (3, .int v3)] [] M (lp_R_plantCost_4 v1 k31 n v2 v3 M) := by
  intro n
  induction n with
  | zero => intro v2 v3 M r M2 he; cases he
  | succ n ih =>
    intro v2 v3 M
    rw [lp_R_plantCost_4]
    refine mm_iload_n 3 dX12_plantCost_4 rfl ?_
    refine mm_iconst (v := 3) dX12_plantCost_5 rfl ?_
    refine mm_icmp_ge 31 dX12_plantCost_6 rfl ?_ ?_
    · refine mm_wk [2] rfl ?_
      exact hk31 v2 M
    · refine mm_iload_n 2 dX12_plantCost_9 rfl ?_
      refine mm_aload_n 0 dX12_plantCost_10 rfl ?_
      refine mm_iload_n 1 dX12_plantCost_11 rfl ?_
      refine mm_iload_n 3 dX12_plantCost_12 rfl ?_
      refine mm_callVi (as := [.int v1, .int v3]) (st := [.int v2]) (c_R_mostWanted E v1 v3 M) dX12_plantCost_13 mz_X12_mostWanted lk_RX12_408 im_X12_mostWanted se_X12_mostWanted lo_97 rfl rfl rfl ⟨Nat.le_of_ble_eq_true rfl, Nat.le_of_ble_eq_true rfl⟩ (Nat.le_of_ble_eq_true rfl) (fun r_1 M_2 => ?_)
      refine mm_aload_n 0 dX12_plantCost_16 rfl ?_
      refine mm_getR 103 dX12_plantCost_17 fl_RX12_26 lo_97 rfl ?_
      refine mm_iload_n 3 dX12_plantCost_20 rfl ?_
      refine mm_iaload dX12_plantCost_21 ?_
      refine mm_imul dX12_plantCost_22 ?_
      refine mm_iadd dX12_plantCost_23 ?_
      refine mm_nm_int (fun v2_3 => ?_)
      refine mm_istore_n [1, 2, 0, 3] (lv2 := [(0, .ref 97), (1, .int v1), (2, .int v2_3), (3, .int v3)]) dX12_plantCost_24 (by decide) rfl ?_
      refine mm_iincN 3 [1, 2, 3, 0] (v := v3 + 1) (lv2 := fun v3_4 => [(0, .ref 97), (1, .int v1), (2, .int v2_3), (3, .int v3_4)]) dX12_plantCost_25 rfl rfl (by decide) (fun _ => rfl) (fun v3_4 => ?_)
      refine mm_goto 4 dX12_plantCost_28 rfl ?_
      exact ih v2_3 v3_4 M_2
def f_R_plantCost (v1 : Int32) (M : mm_M) : Option (Int32 × mm_M) := lp_R_plantCost_4 v1 (fun (v2 : Int32) (M_5 : mm_M) => some (v2, M_5)) mm_fu 0 0 M
set_option maxHeartbeats 4000000 in
theorem c_R_plantCost (E : mm_E) (v1 : Int32) (M : mm_M) : ∀ (r : Int32) (M2 : mm_M), f_R_plantCost v1 M = some (r, M2) → mm_P E Y_X12_plantCost 4 [.ref 97, .int v1] M (some (.int r)) M2 := by
  refine mm_entry (em := (fun x : Int32 => some (.int x))) (by decide +kernel) (Nat.le_of_ble_eq_true rfl) ?_
  show mm_G _ E _ _ 0 [(0, .ref 97), (1, .int v1)] [] M _
  unfold f_R_plantCost
  refine mm_iconst (v := 0) dX12_plantCost_0 rfl ?_
  refine mm_istore_n [1, 2, 0] (lv2 := [(0, .ref 97), (1, .int v1), (2, .int 0)]) dX12_plantCost_1 (by decide) rfl ?_
  refine mm_iconst (v := 0) dX12_plantCost_2 rfl ?_
  refine mm_istore_n [1, 2, 3, 0] (lv2 := [(0, .ref 97), (1, .int v1), (2, .int 0), (3, .int 0)]) dX12_plantCost_3 (by decide) rfl ?_
  refine lp_R_plantCost_4_ok E v1 ?_ mm_fu 0 0 M
  · intro v2 M_5
    refine mm_iload_n 0 dX12_plantCost_31 rfl ?_
    exact mm_iret dX12_plantCost_32 rfl
def lp_R_fair_60 (v1 : Int32) (v2 : Int32) (v3 : Int32) (v4 : Int32) (k147 : Int64 → mm_M → Option (Int64 × mm_M)) : Nat → Int64 → Int32 → mm_M → Option (Int64 × mm_M)
  | 0, _, _, _ => none
  | n + 1, v5, v7, M => if 1024 ≤ v7 then k147 v5 M else mm_jn (fun (v5 : Int64) (v7 : Int32) (M_14 : mm_M) => mm_let (v7 + 1) fun v7_15 => lp_R_fair_60 v1 v2 v3 v4 k147 n v5 v7_15 M_14) fun j141 => if v7 &&& (v1 ^^^ (-1)) = 0 then mm_bd (f_R_has v7 v2 M) fun b_16 M_17 => if b_16 = true then j141 v5 v7 M_17 else mm_bd (f_R_bits v7 M_17) fun r_18 M_19 => mm_bd (f_R_orders r_18 M_19) fun r_20 M_21 => mm_bd (f_R_bits v7 M_21) fun r_22 M_23 => mm_bd (f_R_orders ((v4 - 1) - r_22) M_23) fun r_24 M_25 => mm_let ((r_20.toInt64) * (r_24.toInt64)) fun v8_26 => mm_bd (f_R_plantCost (v7 ||| (1 <<< (v2 &&& 31))) M_25) fun r_27 M_28 => mm_bd (f_R_plantCost v7 M_28) fun r_29 M_30 => mm_let (v5 + (v8_26 * ((r_27 - r_29).toInt64))) fun v5_31 => j141 v5_31 v7 M_30 else j141 v5 v7 M
set_option maxHeartbeats 4000000 in
theorem lp_R_fair_60_ok (E : mm_E) (v1 : Int32) (v2 : Int32) (v3 : Int32) (v4 : Int32) {k147 : Int64 → mm_M → Option (Int64 × mm_M)} (hk147 : ∀ (v5 : Int64) (M : mm_M), mm_G (fun x : Int64 => some (.long x)) E Y_X12_fair 5 147 [(3, .int v3), (4, .int v4), (5, .long v5)] [] M (k147 v5 M)) : ∀ (n : Nat) (v5 : Int64) (v7 : Int32) (M : mm_M), mm_G (fun x : Int64 => some (.long x)) E Y_X12_fair 5 60 [(0, .ref 97), (1, .int v1), (2, .int v2), (3, .int v3), (4, .int v4), (5, .long v5), (7, .int v7)] [] M (lp_R_fair_60 v1 v2 v3 v4 k147 n v5 v7 M) := by
  intro n
  induction n with
  | zero => intro v5 v7 M r M2 he; cases he
  | succ n ih =>
    intro v5 v7 M
    rw [lp_R_fair_60]
    refine mm_iload 6 dX12_fair_60 rfl ?_
    refine mm_sipush (v := 1024) dX12_fair_62 rfl ?_
    refine mm_icmp_ge 147 dX12_fair_65 rfl ?_ ?_
    · refine mm_wk [3, 4, 5] rfl ?_
      exact hk147 v5 M
    · refine mm_iload 6 dX12_fair_68 rfl ?_
      refine mm_iload_n 1 dX12_fair_70 rfl ?_
      refine mm_iconst (v := (-1)) dX12_fair_71 rfl ?_
      refine mm_ixor dX12_fair_72 ?_
      refine mm_iand dX12_fair_73 ?_
      refine mm_jnP (P := fun j => ∀ (v5 : Int64) (v7 : Int32) (M : mm_M), mm_G (fun x : Int64 => some (.long x)) E Y_X12_fair 5 141 [(0, .ref 97), (1, .int v1), (2, .int v2), (3, .int v3), (4, .int v4), (5, .long v5), (7, .int v7)] [] M (j v5 v7 M)) ?_ (fun j141 hj141 => ?_)
      · intro v5 v7 M_14
        refine mm_iincN 6 [1, 2, 3, 4, 5, 6, 0] (v := v7 + 1) (lv2 := fun v7_15 => [(0, .ref 97), (1, .int v1), (2, .int v2), (3, .int v3), (4, .int v4), (5, .long v5), (7, .int v7_15)]) dX12_fair_141 rfl rfl (by decide) (fun _ => rfl) (fun v7_15 => ?_)
        refine mm_goto 60 dX12_fair_144 rfl ?_
        exact ih v5 v7_15 M_14
      refine mm_if_ne 141 dX12_fair_74 rfl ?_ ?_
      · exact hj141 v5 v7 M
      · refine mm_iload 6 dX12_fair_77 rfl ?_
        refine mm_iload_n 2 dX12_fair_79 rfl ?_
        refine mm_callSz (as := [.int v7, .int v2]) (st := []) (c_R_has E v7 v2 M) dX12_fair_80 mz_X12_has lk_RX12_199 sm_X12_has rfl ⟨Nat.le_of_ble_eq_true rfl, Nat.le_of_ble_eq_true rfl⟩ (Nat.le_of_ble_eq_true rfl) (fun b_16 M_17 => ?_)
        refine mm_if_eq_b 89 dX12_fair_83 rfl ?_ ?_
        · refine mm_iload 6 dX12_fair_89 rfl ?_
          refine mm_callSi (as := [.int v7]) (st := []) (c_R_bits E v7 M_17) dX12_fair_91 mz_X12_bits lk_RX12_367 sm_X12_bits rfl ⟨Nat.le_of_ble_eq_true rfl, Nat.le_of_ble_eq_true rfl⟩ (Nat.le_of_ble_eq_true rfl) (fun r_18 M_19 => ?_)
          refine mm_callSi (as := [.int r_18]) (st := []) (c_R_orders E r_18 M_19) dX12_fair_94 mz_X12_orders lk_RX12_384 sm_X12_orders rfl ⟨Nat.le_of_ble_eq_true rfl, Nat.le_of_ble_eq_true rfl⟩ (Nat.le_of_ble_eq_true rfl) (fun r_20 M_21 => ?_)
          refine mm_i2l dX12_fair_97 ?_
          refine mm_iload 4 dX12_fair_98 rfl ?_
          refine mm_iconst (v := 1) dX12_fair_100 rfl ?_
          refine mm_isub dX12_fair_101 ?_
          refine mm_iload 6 dX12_fair_102 rfl ?_
          refine mm_callSi (as := [.int v7]) (st := [.int (v4 - 1), .long (r_20.toInt64)]) (c_R_bits E v7 M_21) dX12_fair_104 mz_X12_bits lk_RX12_367 sm_X12_bits rfl ⟨Nat.le_of_ble_eq_true rfl, Nat.le_of_ble_eq_true rfl⟩ (Nat.le_of_ble_eq_true rfl) (fun r_22 M_23 => ?_)
          refine mm_isub dX12_fair_107 ?_
          refine mm_callSi (as := [.int ((v4 - 1) - r_22)]) (st := [.long (r_20.toInt64)]) (c_R_orders E ((v4 - 1) - r_22) M_23) dX12_fair_108 mz_X12_orders lk_RX12_384 sm_X12_orders rfl ⟨Nat.le_of_ble_eq_true rfl, Nat.le_of_ble_eq_true rfl⟩ (Nat.le_of_ble_eq_true rfl) (fun r_24 M_25 => ?_)
          refine mm_i2l dX12_fair_111 ?_
          refine mm_lmul dX12_fair_112 ?_
          refine mm_nm_long (fun v8_26 => ?_)
          refine mm_lstore [1, 2, 3, 4, 5, 6, 7, 0] (lv2 := [(0, .ref 97), (1, .int v1), (2, .int v2), (3, .int v3), (4, .int v4), (5, .long v5), (7, .int v7), (8, .long v8_26)]) dX12_fair_113 (by decide) rfl ?_
          refine mm_lload 5 dX12_fair_115 rfl ?_
          refine mm_lload 7 dX12_fair_117 rfl ?_
          refine mm_aload_n 0 dX12_fair_119 rfl ?_
          refine mm_iload 6 dX12_fair_120 rfl ?_
          refine mm_iconst (v := 1) dX12_fair_122 rfl ?_
          refine mm_iload_n 2 dX12_fair_123 rfl ?_
          refine mm_ishl dX12_fair_124 ?_
          refine mm_ior dX12_fair_125 ?_
          refine mm_callVi (as := [.int (v7 ||| (1 <<< (v2 &&& 31)))]) (st := [.long v8_26, .long v5]) (c_R_plantCost E (v7 ||| (1 <<< (v2 &&& 31))) M_25) dX12_fair_126 mz_X12_plantCost lk_RX12_419 im_X12_plantCost se_X12_plantCost lo_97 rfl rfl rfl ⟨Nat.le_of_ble_eq_true rfl, Nat.le_of_ble_eq_true rfl⟩ (Nat.le_of_ble_eq_true rfl) (fun r_27 M_28 => ?_)
          refine mm_aload_n 0 dX12_fair_129 rfl ?_
          refine mm_iload 6 dX12_fair_130 rfl ?_
          refine mm_callVi (as := [.int v7]) (st := [.int r_27, .long v8_26, .long v5]) (c_R_plantCost E v7 M_28) dX12_fair_132 mz_X12_plantCost lk_RX12_419 im_X12_plantCost se_X12_plantCost lo_97 rfl rfl rfl ⟨Nat.le_of_ble_eq_true rfl, Nat.le_of_ble_eq_true rfl⟩ (Nat.le_of_ble_eq_true rfl) (fun r_29 M_30 => ?_)
          refine mm_isub dX12_fair_135 ?_
          refine mm_i2l dX12_fair_136 ?_
          refine mm_lmul dX12_fair_137 ?_
          refine mm_ladd dX12_fair_138 ?_
          refine mm_nm_long (fun v5_31 => ?_)
          refine mm_lstore [1, 2, 3, 4, 5, 0, 6, 7] (lv2 := [(0, .ref 97), (1, .int v1), (2, .int v2), (3, .int v3), (4, .int v4), (5, .long v5_31), (7, .int v7), (8, .long v8_26)]) dX12_fair_139 (by decide) rfl ?_
          refine mm_wk [0, 1, 2, 3, 4, 5, 6] rfl ?_
          exact hj141 v5_31 v7 M_30
        · refine mm_goto 141 dX12_fair_86 rfl ?_
          exact hj141 v5 v7 M_17
def f_R_fair (v1 : Int32) (v2 : Int32) (v3 : Int32) (M : mm_M) : Option (Int64 × mm_M) := mm_bd (f_R_areStays v1 M) fun b_1 M_2 => if b_1 = true then mm_bd (f_R_bits v1 M_2) fun r_3 M_4 => if 8 < r_3 then some ((-1 : Int64), M_4) else mm_bd (f_R_in v2 0 9 M_4) fun b_5 M_6 => if b_5 = true then mm_bd (f_R_has v1 v2 M_6) fun b_7 M_8 => if b_7 = true then mm_bd (f_R_in v3 0 1 M_8) fun b_9 M_10 => if b_9 = true then mm_bd (f_R_bits v1 M_10) fun r_11 M_12 => mm_let ((0 : Int64)) fun v5_13 => lp_R_fair_60 v1 v2 v3 r_11 (fun (v5 : Int64) (M_32 : mm_M) => mm_bd (f_R_orders r_11 M_32) fun r_33 M_34 => mm_let (r_33.toInt64) fun v7_35 => mm_bd (f_R_gcd v5 v7_35 M_34) fun l_36 M_37 => if v3 = 0 then if l_36 = 0 then none else some (v5 / l_36, M_37) else if l_36 = 0 then none else some (v7_35 / l_36, M_37)) mm_fu v5_13 0 M_12 else some ((-1 : Int64), M_10) else some ((-1 : Int64), M_8) else some ((-1 : Int64), M_6) else some ((-1 : Int64), M_2)
set_option maxHeartbeats 4000000 in
theorem c_R_fair (E : mm_E) (v1 : Int32) (v2 : Int32) (v3 : Int32) (M : mm_M) : ∀ (r : Int64) (M2 : mm_M), f_R_fair v1 v2 v3 M = some (r, M2) → mm_P E Y_X12_fair 5 [.ref 97, .int v1, .int v2, .int v3] M (some (.long r)) M2 := by
  refine mm_entry (em := (fun x : Int64 => some (.long x))) (by decide +kernel) (Nat.le_of_ble_eq_true rfl) ?_
  show mm_G _ E _ _ 0 [(0, .ref 97), (1, .int v1), (2, .int v2), (3, .int v3)] [] M _
  unfold f_R_fair
  refine mm_aload_n 0 dX12_fair_0 rfl ?_
  refine mm_iload_n 1 dX12_fair_1 rfl ?_
  refine mm_callVz (as := [.int v1]) (st := []) (c_R_areStays E v1 M) dX12_fair_2 mz_X12_areStays lk_RX12_360 im_X12_areStays se_X12_areStays lo_97 rfl rfl rfl ⟨Nat.le_of_ble_eq_true rfl, Nat.le_of_ble_eq_true rfl⟩ (Nat.le_of_ble_eq_true rfl) (fun b_1 M_2 => ?_)
  refine mm_if_eq_b 44 dX12_fair_5 rfl ?_ ?_
  · refine mm_ldc2 dX12_fair_44 ct_RX12_417 ?_
    exact mm_lret dX12_fair_47 rfl
  · refine mm_iload_n 1 dX12_fair_8 rfl ?_
    refine mm_callSi (as := [.int v1]) (st := []) (c_R_bits E v1 M_2) dX12_fair_9 mz_X12_bits lk_RX12_367 sm_X12_bits rfl ⟨Nat.le_of_ble_eq_true rfl, Nat.le_of_ble_eq_true rfl⟩ (Nat.le_of_ble_eq_true rfl) (fun r_3 M_4 => ?_)
    refine mm_bipush (v := 8) dX12_fair_12 rfl ?_
    refine mm_icmp_gt 44 dX12_fair_14 rfl ?_ ?_
    · refine mm_ldc2 dX12_fair_44 ct_RX12_417 ?_
      exact mm_lret dX12_fair_47 rfl
    · refine mm_iload_n 2 dX12_fair_17 rfl ?_
      refine mm_iconst (v := 0) dX12_fair_18 rfl ?_
      refine mm_bipush (v := 9) dX12_fair_19 rfl ?_
      refine mm_callSz (as := [.int v2, .int 0, .int 9]) (st := []) (c_R_in E v2 0 9 M_4) dX12_fair_21 mz_X12_in lk_RX12_169 sm_X12_in rfl ⟨Nat.le_of_ble_eq_true rfl, Nat.le_of_ble_eq_true rfl⟩ (Nat.le_of_ble_eq_true rfl) (fun b_5 M_6 => ?_)
      refine mm_if_eq_b 44 dX12_fair_24 rfl ?_ ?_
      · refine mm_ldc2 dX12_fair_44 ct_RX12_417 ?_
        exact mm_lret dX12_fair_47 rfl
      · refine mm_iload_n 1 dX12_fair_27 rfl ?_
        refine mm_iload_n 2 dX12_fair_28 rfl ?_
        refine mm_callSz (as := [.int v1, .int v2]) (st := []) (c_R_has E v1 v2 M_6) dX12_fair_29 mz_X12_has lk_RX12_199 sm_X12_has rfl ⟨Nat.le_of_ble_eq_true rfl, Nat.le_of_ble_eq_true rfl⟩ (Nat.le_of_ble_eq_true rfl) (fun b_7 M_8 => ?_)
        refine mm_if_eq_b 44 dX12_fair_32 rfl ?_ ?_
        · refine mm_ldc2 dX12_fair_44 ct_RX12_417 ?_
          exact mm_lret dX12_fair_47 rfl
        · refine mm_iload_n 3 dX12_fair_35 rfl ?_
          refine mm_iconst (v := 0) dX12_fair_36 rfl ?_
          refine mm_iconst (v := 1) dX12_fair_37 rfl ?_
          refine mm_callSz (as := [.int v3, .int 0, .int 1]) (st := []) (c_R_in E v3 0 1 M_8) dX12_fair_38 mz_X12_in lk_RX12_169 sm_X12_in rfl ⟨Nat.le_of_ble_eq_true rfl, Nat.le_of_ble_eq_true rfl⟩ (Nat.le_of_ble_eq_true rfl) (fun b_9 M_10 => ?_)
          refine mm_if_ne_b 48 dX12_fair_41 rfl ?_ ?_
          · refine mm_iload_n 1 dX12_fair_48 rfl ?_
            refine mm_callSi (as := [.int v1]) (st := []) (c_R_bits E v1 M_10) dX12_fair_49 mz_X12_bits lk_RX12_367 sm_X12_bits rfl ⟨Nat.le_of_ble_eq_true rfl, Nat.le_of_ble_eq_true rfl⟩ (Nat.le_of_ble_eq_true rfl) (fun r_11 M_12 => ?_)
            refine mm_istore [1, 2, 3, 4, 0] (lv2 := [(0, .ref 97), (1, .int v1), (2, .int v2), (3, .int v3), (4, .int r_11)]) dX12_fair_52 (by decide) rfl ?_
            refine mm_lconst (v := 0) dX12_fair_54 rfl ?_
            refine mm_nm_long (fun v5_13 => ?_)
            refine mm_lstore [1, 2, 3, 4, 5, 0] (lv2 := [(0, .ref 97), (1, .int v1), (2, .int v2), (3, .int v3), (4, .int r_11), (5, .long v5_13)]) dX12_fair_55 (by decide) rfl ?_
            refine mm_iconst (v := 0) dX12_fair_57 rfl ?_
            refine mm_istore [1, 2, 3, 4, 5, 6, 0] (lv2 := [(0, .ref 97), (1, .int v1), (2, .int v2), (3, .int v3), (4, .int r_11), (5, .long v5_13), (7, .int 0)]) dX12_fair_58 (by decide) rfl ?_
            refine lp_R_fair_60_ok E v1 v2 v3 r_11 ?_ mm_fu v5_13 0 M_12
            · intro v5 M_32
              refine mm_iload 1 dX12_fair_147 rfl ?_
              refine mm_callSi (as := [.int r_11]) (st := []) (c_R_orders E r_11 M_32) dX12_fair_149 mz_X12_orders lk_RX12_384 sm_X12_orders rfl ⟨Nat.le_of_ble_eq_true rfl, Nat.le_of_ble_eq_true rfl⟩ (Nat.le_of_ble_eq_true rfl) (fun r_33 M_34 => ?_)
              refine mm_i2l dX12_fair_152 ?_
              refine mm_nm_long (fun v7_35 => ?_)
              refine mm_lstore [1, 2, 3, 0] (lv2 := [(3, .int v3), (4, .int r_11), (5, .long v5), (7, .long v7_35)]) dX12_fair_153 (by decide) rfl ?_
              refine mm_lload 2 dX12_fair_155 rfl ?_
              refine mm_lload 3 dX12_fair_157 rfl ?_
              refine mm_callSj (as := [.long v5, .long v7_35]) (st := []) (c_R_gcd E v5 v7_35 M_34) dX12_fair_159 mz_X12_gcd lk_RX12_422 sm_X12_gcd rfl ⟨Nat.le_of_ble_eq_true rfl, Nat.le_of_ble_eq_true rfl⟩ (Nat.le_of_ble_eq_true rfl) (fun l_36 M_37 => ?_)
              refine mm_lstore [1, 2, 3, 4, 0] (lv2 := [(3, .int v3), (4, .int r_11), (5, .long v5), (7, .long v7_35), (9, .long l_36)]) dX12_fair_162 (by decide) rfl ?_
              refine mm_iload_n 0 dX12_fair_164 rfl ?_
              refine mm_if_ne 176 dX12_fair_165 rfl ?_ ?_
              · refine mm_lload 3 dX12_fair_176 rfl ?_
                refine mm_lload 4 dX12_fair_178 rfl ?_
                refine mm_ldiv dX12_fair_180 ?_
                exact mm_lret dX12_fair_181 rfl
              · refine mm_lload 2 dX12_fair_168 rfl ?_
                refine mm_lload 4 dX12_fair_170 rfl ?_
                refine mm_ldiv dX12_fair_172 ?_
                refine mm_goto 181 dX12_fair_173 rfl ?_
                exact mm_lret dX12_fair_181 rfl
          · refine mm_ldc2 dX12_fair_44 ct_RX12_417 ?_
            exact mm_lret dX12_fair_47 rfl
def lp_R_harmBy_20 (k51 : mm_M → Option (Int32 × mm_M)) : Nat → Int32 → mm_M → Option (Int32 × mm_M)
  | 0, _, _ => none
  | n + 1, v3, M => if M.1 97 57 ≤ v3 then k51 M else if mm_in v3 (mm_al 132) = true then if mm_in (M.2.1 132 v3.toNatClampNeg) (mm_al 128) = true then if mm_in v3 (mm_al 122) = true then mm_let (mm_setA M 122 (v3.toNatClampNeg) (M.2.1 128 (M.2.1 132 v3.toNatClampNeg).toNatClampNeg)) fun M_4 => mm_let (v3 + 1) fun v3_5 => lp_R_harmBy_20 k51 n v3_5 M_4 else none else none else none
set_option maxHeartbeats 4000000 in
theorem lp_R_harmBy_20_ok (E : mm_E) {k51 : mm_M → Option (Int32 × mm_M)} (hk51 : ∀ (M : mm_M), mm_G (fun x : Int32 => some (.int x)) E Y_X12_harmBy 6 51 [(0, .ref 97)] [] M (k51 M)) : ∀ (n : Nat) (v3 : Int32) (M : mm_M), mm_G (fun x : Int32 => some (.int x)) E Y_X12_harmBy 6 20 [(0, .ref 97), (3, .int v3)] [] M (lp_R_harmBy_20 k51 n v3 M) := by
  intro n
  induction n with
  | zero => intro v3 M r M2 he; cases he
  | succ n ih =>
    intro v3 M
    rw [lp_R_harmBy_20]
    refine mm_iload_n 1 dX12_harmBy_20 rfl ?_
    refine mm_aload_n 0 dX12_harmBy_21 rfl ?_
    refine mm_getI dX12_harmBy_22 fl_RX12_381 lo_97 rfl ?_
    refine mm_icmp_ge 51 dX12_harmBy_25 rfl ?_ ?_
    · refine mm_wk [0] rfl ?_
      exact hk51  M
    · refine mm_aload_n 0 dX12_harmBy_28 rfl ?_
      refine mm_getR 122 dX12_harmBy_29 fl_RX12_83 lo_97 rfl ?_
      refine mm_iload_n 1 dX12_harmBy_32 rfl ?_
      refine mm_aload_n 0 dX12_harmBy_33 rfl ?_
      refine mm_getR 128 dX12_harmBy_34 fl_RX12_101 lo_97 rfl ?_
      refine mm_aload_n 0 dX12_harmBy_37 rfl ?_
      refine mm_getR 132 dX12_harmBy_38 fl_RX12_113 lo_97 rfl ?_
      refine mm_iload_n 1 dX12_harmBy_41 rfl ?_
      refine mm_iaload dX12_harmBy_42 ?_
      refine mm_iaload dX12_harmBy_43 ?_
      refine mm_iastore dX12_harmBy_44 ?_
      refine mm_nm_M (fun M_4 => ?_)
      refine mm_iincN 1 [1, 0] (v := v3 + 1) (lv2 := fun v3_5 => [(0, .ref 97), (3, .int v3_5)]) dX12_harmBy_45 rfl rfl (by decide) (fun _ => rfl) (fun v3_5 => ?_)
      refine mm_goto 20 dX12_harmBy_48 rfl ?_
      exact ih v3_5 M_4
def lp_R_harmBy_57 (k74 : mm_M → Option (Int32 × mm_M)) : Nat → Int32 → mm_M → Option (Int32 × mm_M)
  | 0, _, _ => none
  | n + 1, v3, M => if 24 ≤ v3 then k74 M else mm_bd (f_R_servesHour v3 M) fun u_9 M_10 => mm_let (v3 + 1) fun v3_11 => lp_R_harmBy_57 k74 n v3_11 M_10
set_option maxHeartbeats 4000000 in
theorem lp_R_harmBy_57_ok (E : mm_E) {k74 : mm_M → Option (Int32 × mm_M)} (hk74 : ∀ (M : mm_M), mm_G (fun x : Int32 => some (.int x)) E Y_X12_harmBy 6 74 [(0, .ref 97)] [] M (k74 M)) : ∀ (n : Nat) (v3 : Int32) (M : mm_M), mm_G (fun x : Int32 => some (.int x)) E Y_X12_harmBy 6 57 [(0, .ref 97), (3, .int v3)] [] M (lp_R_harmBy_57 k74 n v3 M) := by
  intro n
  induction n with
  | zero => intro v3 M r M2 he; cases he
  | succ n ih =>
    intro v3 M
    rw [lp_R_harmBy_57]
    refine mm_iload_n 1 dX12_harmBy_57 rfl ?_
    refine mm_bipush (v := 24) dX12_harmBy_58 rfl ?_
    refine mm_icmp_ge 74 dX12_harmBy_60 rfl ?_ ?_
    · refine mm_wk [0] rfl ?_
      exact hk74  M
    · refine mm_aload_n 0 dX12_harmBy_63 rfl ?_
      refine mm_iload_n 1 dX12_harmBy_64 rfl ?_
      refine mm_callVv (as := [.int v3]) (st := []) (c_R_servesHour E v3 M) dX12_harmBy_65 mz_X12_servesHour lk_RX12_341 im_X12_servesHour se_X12_servesHour lo_97 rfl rfl rfl ⟨Nat.le_of_ble_eq_true rfl, Nat.le_of_ble_eq_true rfl⟩ (Nat.le_of_ble_eq_true rfl) (fun u_9 M_10 => ?_)
      refine mm_iincN 1 [1, 0] (v := v3 + 1) (lv2 := fun v3_11 => [(0, .ref 97), (3, .int v3_11)]) dX12_harmBy_68 rfl rfl (by decide) (fun _ => rfl) (fun v3_11 => ?_)
      refine mm_goto 57 dX12_harmBy_71 rfl ?_
      exact ih v3_11 M_10
def f_R_harmBy (v1 : Int32) (v2 : Int32) (M : mm_M) : Option (Int32 × mm_M) := mm_bd (f_R_ordersBy (M.1 97 57) v1 v2 M) fun u_1 M_2 => mm_let (mm_setI M_2 97 46 (M_2.1 97 57)) fun M_3 => lp_R_harmBy_20 (fun (M_6 : mm_M) => mm_bd (f_R_startsDay M_6) fun u_7 M_8 => lp_R_harmBy_57 (fun (M_12 : mm_M) => some (M_12.1 97 47, M_12)) mm_fu 0 M_8) mm_fu 0 M_3
set_option maxHeartbeats 4000000 in
theorem c_R_harmBy (E : mm_E) (v1 : Int32) (v2 : Int32) (M : mm_M) : ∀ (r : Int32) (M2 : mm_M), f_R_harmBy v1 v2 M = some (r, M2) → mm_P E Y_X12_harmBy 6 [.ref 97, .int v1, .int v2] M (some (.int r)) M2 := by
  refine mm_entry (em := (fun x : Int32 => some (.int x))) (by decide +kernel) (Nat.le_of_ble_eq_true rfl) ?_
  show mm_G _ E _ _ 0 [(0, .ref 97), (1, .int v1), (2, .int v2)] [] M _
  unfold f_R_harmBy
  refine mm_aload_n 0 dX12_harmBy_0 rfl ?_
  refine mm_aload_n 0 dX12_harmBy_1 rfl ?_
  refine mm_getI dX12_harmBy_2 fl_RX12_381 lo_97 rfl ?_
  refine mm_iload_n 1 dX12_harmBy_5 rfl ?_
  refine mm_iload_n 2 dX12_harmBy_6 rfl ?_
  refine mm_callVv (as := [.int (M.1 97 57), .int v1, .int v2]) (st := []) (c_R_ordersBy E (M.1 97 57) v1 v2 M) dX12_harmBy_7 mz_X12_ordersBy lk_RX12_387 im_X12_ordersBy se_X12_ordersBy lo_97 rfl rfl rfl ⟨Nat.le_of_ble_eq_true rfl, Nat.le_of_ble_eq_true rfl⟩ (Nat.le_of_ble_eq_true rfl) (fun u_1 M_2 => ?_)
  refine mm_aload_n 0 dX12_harmBy_10 rfl ?_
  refine mm_aload_n 0 dX12_harmBy_11 rfl ?_
  refine mm_getI dX12_harmBy_12 fl_RX12_381 lo_97 rfl ?_
  refine mm_putI dX12_harmBy_15 fp_RX12_316 lo_97 rfl ?_
  refine mm_nm_M (fun M_3 => ?_)
  refine mm_iconst (v := 0) dX12_harmBy_18 rfl ?_
  refine mm_istore_n [1, 2, 3, 0] (lv2 := [(0, .ref 97), (1, .int v1), (2, .int v2), (3, .int 0)]) dX12_harmBy_19 (by decide) rfl ?_
  refine mm_wk [0, 3] rfl ?_
  refine lp_R_harmBy_20_ok E ?_ mm_fu 0 M_3
  · intro M_6
    refine mm_aload_n 0 dX12_harmBy_51 rfl ?_
    refine mm_callVv (as := []) (st := []) (c_R_startsDay E M_6) dX12_harmBy_52 mz_X12_startsDay lk_RX12_335 im_X12_startsDay se_X12_startsDay lo_97 rfl rfl rfl ⟨Nat.le_of_ble_eq_true rfl, Nat.le_of_ble_eq_true rfl⟩ (Nat.le_of_ble_eq_true rfl) (fun u_7 M_8 => ?_)
    refine mm_iconst (v := 0) dX12_harmBy_55 rfl ?_
    refine mm_istore_n [1, 0] (lv2 := [(0, .ref 97), (3, .int 0)]) dX12_harmBy_56 (by decide) rfl ?_
    refine lp_R_harmBy_57_ok E ?_ mm_fu 0 M_8
    · intro M_12
      refine mm_aload_n 0 dX12_harmBy_74 rfl ?_
      refine mm_getI dX12_harmBy_75 fl_RX12_328 lo_97 rfl ?_
      exact mm_iret dX12_harmBy_78 rfl
def lp_R_drought_61 (v2 : Int32) (v3 : Int32) (k100 : Int32 → Int32 → mm_M → Option (Int32 × mm_M)) : Nat → Int32 → Int32 → Int32 → mm_M → Option (Int32 × mm_M)
  | 0, _, _, _, _ => none
  | n + 1, v4, v5, v6, M => if v3 ≤ v6 then k100 v4 v5 M else mm_bd (f_R_harmBy v6 v3 M) fun r_13 M_14 => mm_jn (fun (v4 : Int32) (v5 : Int32) (v6 : Int32) (M_15 : mm_M) => mm_let (v6 + 1) fun v6_16 => lp_R_drought_61 v2 v3 k100 n v4 v5 v6_16 M_15) fun j94 => if r_13 < v5 then j94 v6 r_13 v6 M_14 else j94 v4 v5 v6 M_14
set_option maxHeartbeats 4000000 in
theorem lp_R_drought_61_ok (E : mm_E) (v2 : Int32) (v3 : Int32) {k100 : Int32 → Int32 → mm_M → Option (Int32 × mm_M)} (hk100 : ∀ (v4 : Int32) (v5 : Int32) (M : mm_M), mm_G (fun x : Int32 => some (.int x)) E Y_X12_drought 7 100 [(0, .ref 97), (2, .int v2), (3, .int v3), (4, .int v4), (5, .int v5)] [] M (k100 v4 v5 M)) : ∀ (n : Nat) (v4 : Int32) (v5 : Int32) (v6 : Int32) (M : mm_M), mm_G (fun x : Int32 => some (.int x)) E Y_X12_drought 7 61 [(0, .ref 97), (2, .int v2), (3, .int v3), (4, .int v4), (5, .int v5), (6, .int v6)] [] M (lp_R_drought_61 v2 v3 k100 n v4 v5 v6 M) := by
  intro n
  induction n with
  | zero => intro v4 v5 v6 M r M2 he; cases he
  | succ n ih =>
    intro v4 v5 v6 M
    rw [lp_R_drought_61]
    refine mm_iload 5 dX12_drought_61 rfl ?_
    refine mm_iload_n 2 dX12_drought_63 rfl ?_
    refine mm_icmp_ge 100 dX12_drought_64 rfl ?_ ?_
    · refine mm_wk [0, 1, 2, 3, 4] rfl ?_
      exact hk100 v4 v5 M
    · refine mm_aload_n 0 dX12_drought_67 rfl ?_
      refine mm_iload 5 dX12_drought_68 rfl ?_
      refine mm_iload_n 2 dX12_drought_70 rfl ?_
      refine mm_callVi (as := [.int v6, .int v3]) (st := []) (c_R_harmBy E v6 v3 M) dX12_drought_71 mz_X12_harmBy lk_RX12_427 im_X12_harmBy se_X12_harmBy lo_97 rfl rfl rfl ⟨Nat.le_of_ble_eq_true rfl, Nat.le_of_ble_eq_true rfl⟩ (Nat.le_of_ble_eq_true rfl) (fun r_13 M_14 => ?_)
      refine mm_istore [1, 2, 3, 4, 5, 6, 0] (lv2 := [(0, .ref 97), (2, .int v2), (3, .int v3), (4, .int v4), (5, .int v5), (6, .int v6), (7, .int r_13)]) dX12_drought_74 (by decide) rfl ?_
      refine mm_iload 6 dX12_drought_76 rfl ?_
      refine mm_iload 4 dX12_drought_78 rfl ?_
      refine mm_jnP (P := fun j => ∀ (v4 : Int32) (v5 : Int32) (v6 : Int32) (M : mm_M), mm_G (fun x : Int32 => some (.int x)) E Y_X12_drought 7 94 [(0, .ref 97), (2, .int v2), (3, .int v3), (4, .int v4), (5, .int v5), (6, .int v6)] [] M (j v4 v5 v6 M)) ?_ (fun j94 hj94 => ?_)
      · intro v4 v5 v6 M_15
        refine mm_iincN 5 [1, 2, 3, 4, 5, 0] (v := v6 + 1) (lv2 := fun v6_16 => [(0, .ref 97), (2, .int v2), (3, .int v3), (4, .int v4), (5, .int v5), (6, .int v6_16)]) dX12_drought_94 rfl rfl (by decide) (fun _ => rfl) (fun v6_16 => ?_)
        refine mm_goto 61 dX12_drought_97 rfl ?_
        exact ih v4 v5 v6_16 M_15
      refine mm_icmp_lt 86 dX12_drought_80 rfl ?_ ?_
      · refine mm_iload 6 dX12_drought_86 rfl ?_
        refine mm_istore [1, 2, 3, 4, 0, 5, 6] (lv2 := [(0, .ref 97), (2, .int v2), (3, .int v3), (4, .int v4), (5, .int r_13), (6, .int v6), (7, .int r_13)]) dX12_drought_88 (by decide) rfl ?_
        refine mm_iload 5 dX12_drought_90 rfl ?_
        refine mm_istore [1, 2, 3, 0, 4, 5, 6] (lv2 := [(0, .ref 97), (2, .int v2), (3, .int v3), (4, .int v6), (5, .int r_13), (6, .int v6), (7, .int r_13)]) dX12_drought_92 (by decide) rfl ?_
        refine mm_wk [0, 1, 2, 3, 4, 5] rfl ?_
        exact hj94 v6 r_13 v6 M_14
      · refine mm_goto 94 dX12_drought_83 rfl ?_
        refine mm_wk [0, 1, 2, 3, 4, 5] rfl ?_
        exact hj94 v4 v5 v6 M_14
def f_R_drought (v1 : Int32) (v2 : Int32) (M : mm_M) : Option (Int32 × mm_M) := mm_bd (f_R_areStays v1 M) fun b_1 M_2 => if b_1 = true then mm_bd (f_R_bits v1 M_2) fun r_3 M_4 => if r_3 ≤ 6 then mm_bd (f_R_bits v1 M_4) fun r_5 M_6 => mm_bd (f_R_in v2 (-1) (r_5 - 1) M_6) fun b_7 M_8 => if b_7 = true then mm_bd (f_R_laysWho v1 M_8) fun u_9 M_10 => mm_bd (f_R_orders (M_10.1 97 57) M_10) fun r_11 M_12 => lp_R_drought_61 v2 r_11 (fun (v4 : Int32) (v5 : Int32) (M_17 : mm_M) => mm_bd (f_R_ordersBy (M_17.1 97 57) v4 r_11 M_17) fun u_18 M_19 => if v2 = (-1) then some (v5, M_19) else if mm_in v2 (mm_al 132) = true then if mm_in (M_19.2.1 132 v2.toNatClampNeg) (mm_al 128) = true then some (M_19.2.1 128 (M_19.2.1 132 v2.toNatClampNeg).toNatClampNeg, M_19) else none else none) mm_fu 0 1000000000 0 M_12 else some ((-2), M_8) else some ((-3), M_4) else some ((-3), M_2)
set_option maxHeartbeats 4000000 in
theorem c_R_drought (E : mm_E) (v1 : Int32) (v2 : Int32) (M : mm_M) : ∀ (r : Int32) (M2 : mm_M), f_R_drought v1 v2 M = some (r, M2) → mm_P E Y_X12_drought 7 [.ref 97, .int v1, .int v2] M (some (.int r)) M2 := by
  refine mm_entry (em := (fun x : Int32 => some (.int x))) (by decide +kernel) (Nat.le_of_ble_eq_true rfl) ?_
  show mm_G _ E _ _ 0 [(0, .ref 97), (1, .int v1), (2, .int v2)] [] M _
  unfold f_R_drought
  refine mm_aload_n 0 dX12_drought_0 rfl ?_
  refine mm_iload_n 1 dX12_drought_1 rfl ?_
  refine mm_callVz (as := [.int v1]) (st := []) (c_R_areStays E v1 M) dX12_drought_2 mz_X12_areStays lk_RX12_360 im_X12_areStays se_X12_areStays lo_97 rfl rfl rfl ⟨Nat.le_of_ble_eq_true rfl, Nat.le_of_ble_eq_true rfl⟩ (Nat.le_of_ble_eq_true rfl) (fun b_1 M_2 => ?_)
  refine mm_if_eq_b 17 dX12_drought_5 rfl ?_ ?_
  · refine mm_bipush (v := (-3)) dX12_drought_17 rfl ?_
    exact mm_iret dX12_drought_19 rfl
  · refine mm_iload_n 1 dX12_drought_8 rfl ?_
    refine mm_callSi (as := [.int v1]) (st := []) (c_R_bits E v1 M_2) dX12_drought_9 mz_X12_bits lk_RX12_367 sm_X12_bits rfl ⟨Nat.le_of_ble_eq_true rfl, Nat.le_of_ble_eq_true rfl⟩ (Nat.le_of_ble_eq_true rfl) (fun r_3 M_4 => ?_)
    refine mm_bipush (v := 6) dX12_drought_12 rfl ?_
    refine mm_icmp_le 20 dX12_drought_14 rfl ?_ ?_
    · refine mm_iload_n 2 dX12_drought_20 rfl ?_
      refine mm_iconst (v := (-1)) dX12_drought_21 rfl ?_
      refine mm_iload_n 1 dX12_drought_22 rfl ?_
      refine mm_callSi (as := [.int v1]) (st := [.int (-1), .int v2]) (c_R_bits E v1 M_4) dX12_drought_23 mz_X12_bits lk_RX12_367 sm_X12_bits rfl ⟨Nat.le_of_ble_eq_true rfl, Nat.le_of_ble_eq_true rfl⟩ (Nat.le_of_ble_eq_true rfl) (fun r_5 M_6 => ?_)
      refine mm_iconst (v := 1) dX12_drought_26 rfl ?_
      refine mm_isub dX12_drought_27 ?_
      refine mm_callSz (as := [.int v2, .int (-1), .int (r_5 - 1)]) (st := []) (c_R_in E v2 (-1) (r_5 - 1) M_6) dX12_drought_28 mz_X12_in lk_RX12_169 sm_X12_in rfl ⟨Nat.le_of_ble_eq_true rfl, Nat.le_of_ble_eq_true rfl⟩ (Nat.le_of_ble_eq_true rfl) (fun b_7 M_8 => ?_)
      refine mm_if_ne_b 37 dX12_drought_31 rfl ?_ ?_
      · refine mm_aload_n 0 dX12_drought_37 rfl ?_
        refine mm_iload_n 1 dX12_drought_38 rfl ?_
        refine mm_callVv (as := [.int v1]) (st := []) (c_R_laysWho E v1 M_8) dX12_drought_39 mz_X12_laysWho lk_RX12_393 im_X12_laysWho se_X12_laysWho lo_97 rfl rfl rfl ⟨Nat.le_of_ble_eq_true rfl, Nat.le_of_ble_eq_true rfl⟩ (Nat.le_of_ble_eq_true rfl) (fun u_9 M_10 => ?_)
        refine mm_aload_n 0 dX12_drought_42 rfl ?_
        refine mm_getI dX12_drought_43 fl_RX12_381 lo_97 rfl ?_
        refine mm_callSi (as := [.int (M_10.1 97 57)]) (st := []) (c_R_orders E (M_10.1 97 57) M_10) dX12_drought_46 mz_X12_orders lk_RX12_384 sm_X12_orders rfl ⟨Nat.le_of_ble_eq_true rfl, Nat.le_of_ble_eq_true rfl⟩ (Nat.le_of_ble_eq_true rfl) (fun r_11 M_12 => ?_)
        refine mm_istore_n [1, 2, 3, 0] (lv2 := [(0, .ref 97), (1, .int v1), (2, .int v2), (3, .int r_11)]) dX12_drought_49 (by decide) rfl ?_
        refine mm_iconst (v := 0) dX12_drought_50 rfl ?_
        refine mm_istore [1, 2, 3, 4, 0] (lv2 := [(0, .ref 97), (1, .int v1), (2, .int v2), (3, .int r_11), (4, .int 0)]) dX12_drought_51 (by decide) rfl ?_
        refine mm_ldcw dX12_drought_53 ct_RX12_426 ?_
        refine mm_istore [1, 2, 3, 4, 5, 0] (lv2 := [(0, .ref 97), (1, .int v1), (2, .int v2), (3, .int r_11), (4, .int 0), (5, .int 1000000000)]) dX12_drought_56 (by decide) rfl ?_
        refine mm_iconst (v := 0) dX12_drought_58 rfl ?_
        refine mm_istore [1, 2, 3, 4, 5, 6, 0] (lv2 := [(0, .ref 97), (1, .int v1), (2, .int v2), (3, .int r_11), (4, .int 0), (5, .int 1000000000), (6, .int 0)]) dX12_drought_59 (by decide) rfl ?_
        refine mm_wk [0, 2, 3, 4, 5, 6] rfl ?_
        refine lp_R_drought_61_ok E v2 r_11 ?_ mm_fu 0 1000000000 0 M_12
        · intro v4 v5 M_17
          refine mm_aload_n 0 dX12_drought_100 rfl ?_
          refine mm_aload_n 0 dX12_drought_101 rfl ?_
          refine mm_getI dX12_drought_102 fl_RX12_381 lo_97 rfl ?_
          refine mm_iload 3 dX12_drought_105 rfl ?_
          refine mm_iload_n 2 dX12_drought_107 rfl ?_
          refine mm_callVv (as := [.int (M_17.1 97 57), .int v4, .int r_11]) (st := []) (c_R_ordersBy E (M_17.1 97 57) v4 r_11 M_17) dX12_drought_108 mz_X12_ordersBy lk_RX12_387 im_X12_ordersBy se_X12_ordersBy lo_97 rfl rfl rfl ⟨Nat.le_of_ble_eq_true rfl, Nat.le_of_ble_eq_true rfl⟩ (Nat.le_of_ble_eq_true rfl) (fun u_18 M_19 => ?_)
          refine mm_iload_n 1 dX12_drought_111 rfl ?_
          refine mm_iconst (v := (-1)) dX12_drought_112 rfl ?_
          refine mm_icmp_ne 121 dX12_drought_113 rfl ?_ ?_
          · refine mm_aload_n 0 dX12_drought_121 rfl ?_
            refine mm_getR 128 dX12_drought_122 fl_RX12_101 lo_97 rfl ?_
            refine mm_aload_n 0 dX12_drought_125 rfl ?_
            refine mm_getR 132 dX12_drought_126 fl_RX12_113 lo_97 rfl ?_
            refine mm_iload_n 1 dX12_drought_129 rfl ?_
            refine mm_iaload dX12_drought_130 ?_
            refine mm_iaload dX12_drought_131 ?_
            exact mm_iret dX12_drought_132 rfl
          · refine mm_iload 4 dX12_drought_116 rfl ?_
            refine mm_goto 132 dX12_drought_118 rfl ?_
            exact mm_iret dX12_drought_132 rfl
      · refine mm_bipush (v := (-2)) dX12_drought_34 rfl ?_
        exact mm_iret dX12_drought_36 rfl
    · refine mm_bipush (v := (-3)) dX12_drought_17 rfl ?_
      exact mm_iret dX12_drought_19 rfl
def lp_R_comesToMeter_13 (v1 : Int32) (v2 : Int32) (k45 : Int32 → mm_M → Option (Bool × mm_M)) : Nat → Int32 → Int32 → mm_M → Option (Bool × mm_M)
  | 0, _, _, _ => none
  | n + 1, v3, v4, M => if v1 ≤ v4 then k45 v3 M else if mm_in v4 (mm_al 134) = true then if mm_in ((72 * (M.2.1 134 v4.toNatClampNeg)) + v2) (mm_al 99) = true then mm_let (v3 + (M.2.1 99 ((72 * (M.2.1 134 v4.toNatClampNeg)) + v2).toNatClampNeg)) fun v3_1 => mm_let (v4 + 1) fun v4_2 => lp_R_comesToMeter_13 v1 v2 k45 n v3_1 v4_2 M else none else none
set_option maxHeartbeats 4000000 in
theorem lp_R_comesToMeter_13_ok (E : mm_E) (v1 : Int32) (v2 : Int32) {k45 : Int32 → mm_M → Option (Bool × mm_M)} (hk45 : ∀ (v3 : Int32) (M : mm_M), mm_G (fun x : Bool => some (.int (mm_b x))) E Y_X12_comesToMeter 1 45 [(0, .ref 97), (1, .int v1), (2, .int v2), (3, .int v3)] [] M (k45 v3 M)) : ∀ (n : Nat) (v3 : Int32) (v4 : Int32) (M : mm_M), mm_G (fun x : Bool => some (.int (mm_b x))) E Y_X12_comesToMeter 1 13 [(0, .ref 97), (1, .int v1), (2, .int v2), (3, .int v3), (4, .int v4)] [] M (lp_R_comesToMeter_13 v1 v2 k45 n v3 v4 M) := by
  intro n
  induction n with
  | zero => intro v3 v4 M r M2 he; cases he
  | succ n ih =>
    intro v3 v4 M
    rw [lp_R_comesToMeter_13]
    refine mm_iload 4 dX12_comesToMeter_13 rfl ?_
    refine mm_iload_n 1 dX12_comesToMeter_15 rfl ?_
    refine mm_icmp_ge 45 dX12_comesToMeter_16 rfl ?_ ?_
    · refine mm_wk [0, 1, 2, 3] rfl ?_
      exact hk45 v3 M
    · refine mm_iload_n 3 dX12_comesToMeter_19 rfl ?_
      refine mm_aload_n 0 dX12_comesToMeter_20 rfl ?_
      refine mm_getR 99 dX12_comesToMeter_21 fl_RX12_13 lo_97 rfl ?_
      refine mm_bipush (v := 72) dX12_comesToMeter_24 rfl ?_
      refine mm_aload_n 0 dX12_comesToMeter_26 rfl ?_
      refine mm_getR 134 dX12_comesToMeter_27 fl_RX12_119 lo_97 rfl ?_
      refine mm_iload 4 dX12_comesToMeter_30 rfl ?_
      refine mm_iaload dX12_comesToMeter_32 ?_
      refine mm_imul dX12_comesToMeter_33 ?_
      refine mm_iload_n 2 dX12_comesToMeter_34 rfl ?_
      refine mm_iadd dX12_comesToMeter_35 ?_
      refine mm_iaload dX12_comesToMeter_36 ?_
      refine mm_iadd dX12_comesToMeter_37 ?_
      refine mm_nm_int (fun v3_1 => ?_)
      refine mm_istore_n [1, 2, 3, 0, 4] (lv2 := [(0, .ref 97), (1, .int v1), (2, .int v2), (3, .int v3_1), (4, .int v4)]) dX12_comesToMeter_38 (by decide) rfl ?_
      refine mm_iincN 4 [1, 2, 3, 4, 0] (v := v4 + 1) (lv2 := fun v4_2 => [(0, .ref 97), (1, .int v1), (2, .int v2), (3, .int v3_1), (4, .int v4_2)]) dX12_comesToMeter_39 rfl rfl (by decide) (fun _ => rfl) (fun v4_2 => ?_)
      refine mm_goto 13 dX12_comesToMeter_42 rfl ?_
      exact ih v3_1 v4_2 M
def lp_R_comesToMeter_2 (v1 : Int32) (k55 : mm_M → Option (Bool × mm_M)) (k63 : mm_M → Option (Bool × mm_M)) : Nat → Int32 → mm_M → Option (Bool × mm_M)
  | 0, _, _ => none
  | n + 1, v2, M => if 24 ≤ v2 then k63 M else lp_R_comesToMeter_13 v1 v2 (fun (v3 : Int32) (M_3 : mm_M) => if mm_in v2 (mm_al 133) = true then if v3 = M_3.2.1 133 v2.toNatClampNeg then mm_let (v2 + 1) fun v2_4 => lp_R_comesToMeter_2 v1 k55 k63 n v2_4 M_3 else k55 M_3 else none) mm_fu 0 0 M
set_option maxHeartbeats 4000000 in
theorem lp_R_comesToMeter_2_ok (E : mm_E) (v1 : Int32) {k55 : mm_M → Option (Bool × mm_M)} {k63 : mm_M → Option (Bool × mm_M)} (hk55 : ∀ (M : mm_M), mm_G (fun x : Bool => some (.int (mm_b x))) E Y_X12_comesToMeter 1 55 [] [] M (k55 M)) (hk63 : ∀ (M : mm_M), mm_G (fun x : Bool => some (.int (mm_b x))) E Y_X12_comesToMeter 1 63 [] [] M (k63 M)) : ∀ (n : Nat) (v2 : Int32) (M : mm_M), mm_G (fun x : Bool => some (.int (mm_b x))) E Y_X12_comesToMeter 1 2 [(0, .ref 97), (1, .int v1), (2, .int v2)] [] M (lp_R_comesToMeter_2 v1 k55 k63 n v2 M) := by
  intro n
  induction n with
  | zero => intro v2 M r M2 he; cases he
  | succ n ih =>
    intro v2 M
    rw [lp_R_comesToMeter_2]
    refine mm_iload_n 2 dX12_comesToMeter_2 rfl ?_
    refine mm_bipush (v := 24) dX12_comesToMeter_3 rfl ?_
    refine mm_icmp_ge 63 dX12_comesToMeter_5 rfl ?_ ?_
    · refine mm_wk [] rfl ?_
      exact hk63  M
    · refine mm_iconst (v := 0) dX12_comesToMeter_8 rfl ?_
      refine mm_istore_n [1, 2, 3, 0] (lv2 := [(0, .ref 97), (1, .int v1), (2, .int v2), (3, .int 0)]) dX12_comesToMeter_9 (by decide) rfl ?_
      refine mm_iconst (v := 0) dX12_comesToMeter_10 rfl ?_
      refine mm_istore [1, 2, 3, 4, 0] (lv2 := [(0, .ref 97), (1, .int v1), (2, .int v2), (3, .int 0), (4, .int 0)]) dX12_comesToMeter_11 (by decide) rfl ?_
      refine lp_R_comesToMeter_13_ok E v1 v2 ?_ mm_fu 0 0 M
      · intro v3 M_3
        refine mm_iload_n 3 dX12_comesToMeter_45 rfl ?_
        refine mm_aload_n 0 dX12_comesToMeter_46 rfl ?_
        refine mm_getR 133 dX12_comesToMeter_47 fl_RX12_116 lo_97 rfl ?_
        refine mm_iload_n 2 dX12_comesToMeter_50 rfl ?_
        refine mm_iaload dX12_comesToMeter_51 ?_
        refine mm_icmp_eq 57 dX12_comesToMeter_52 rfl ?_ ?_
        · refine mm_iincN 2 [1, 2, 0, 3] (v := v2 + 1) (lv2 := fun v2_4 => [(0, .ref 97), (1, .int v1), (2, .int v2_4), (3, .int v3)]) dX12_comesToMeter_57 rfl rfl (by decide) (fun _ => rfl) (fun v2_4 => ?_)
          refine mm_goto 2 dX12_comesToMeter_60 rfl ?_
          refine mm_wk [0, 1, 2] rfl ?_
          exact ih v2_4 M_3
        · refine mm_wk [] rfl ?_
          exact hk55  M_3
def f_R_comesToMeter (v1 : Int32) (M : mm_M) : Option (Bool × mm_M) := lp_R_comesToMeter_2 v1 (fun (M_5 : mm_M) => some (false, M_5)) (fun (M_6 : mm_M) => some (true, M_6)) mm_fu 0 M
set_option maxHeartbeats 4000000 in
theorem c_R_comesToMeter (E : mm_E) (v1 : Int32) (M : mm_M) : ∀ (r : Bool) (M2 : mm_M), f_R_comesToMeter v1 M = some (r, M2) → mm_P E Y_X12_comesToMeter 1 [.ref 97, .int v1] M (some (.int (mm_b r))) M2 := by
  refine mm_entry (em := (fun x : Bool => some (.int (mm_b x)))) (by decide +kernel) (Nat.le_of_ble_eq_true rfl) ?_
  show mm_G _ E _ _ 0 [(0, .ref 97), (1, .int v1)] [] M _
  unfold f_R_comesToMeter
  refine mm_iconst (v := 0) dX12_comesToMeter_0 rfl ?_
  refine mm_istore_n [1, 2, 0] (lv2 := [(0, .ref 97), (1, .int v1), (2, .int 0)]) dX12_comesToMeter_1 (by decide) rfl ?_
  refine lp_R_comesToMeter_2_ok E v1 ?_ ?_ mm_fu 0 M
  · intro M_5
    refine mm_iconst (v := 0) dX12_comesToMeter_55 rfl ?_
    exact mm_zret (b := false) dX12_comesToMeter_56 rfl
  · intro M_6
    refine mm_iconst (v := 1) dX12_comesToMeter_63 rfl ?_
    exact mm_zret (b := true) dX12_comesToMeter_64 rfl
def lp_R_isMeterRow_7 (v1 : Int32) (k69 : mm_M → Option (Bool × mm_M)) (k77 : mm_M → Option (Bool × mm_M)) : Nat → Int32 → Int32 → mm_M → Option (Bool × mm_M)
  | 0, _, _, _ => none
  | n + 1, v3, v4, M => if v4 < 0 then k77 M else if mm_in v4 (mm_al 134) = true then mm_let (mm_setA M 134 (v4.toNatClampNeg) (mm_rem v3 12)) fun M_2 => mm_let (v3 / 12) fun v3_3 => if mm_in v4 (mm_al 134) = true then mm_bd (f_R_isDay (M_2.2.1 134 v4.toNatClampNeg) M_2) fun b_4 M_5 => if b_4 = true then mm_jn (fun (v3 : Int32) (v4 : Int32) (M_6 : mm_M) => mm_let (v4 + (-1)) fun v4_7 => lp_R_isMeterRow_7 v1 k69 k77 n v3 v4_7 M_6) fun j71 => if v1 - 1 ≤ v4 then j71 v3_3 v4 M_5 else if mm_in v4 (mm_al 134) = true then if mm_in (v4 + 1) (mm_al 134) = true then if M_5.2.1 134 v4.toNatClampNeg ≤ M_5.2.1 134 (v4 + 1).toNatClampNeg then j71 v3_3 v4 M_5 else k69 M_5 else none else none else k69 M_5 else none else none
set_option maxHeartbeats 4000000 in
theorem lp_R_isMeterRow_7_ok (E : mm_E) (v1 : Int32) {k69 : mm_M → Option (Bool × mm_M)} {k77 : mm_M → Option (Bool × mm_M)} (hk69 : ∀ (M : mm_M), mm_G (fun x : Bool => some (.int (mm_b x))) E Y_X12_isMeterRow 3 69 [] [] M (k69 M)) (hk77 : ∀ (M : mm_M), mm_G (fun x : Bool => some (.int (mm_b x))) E Y_X12_isMeterRow 3 77 [(0, .ref 97), (1, .int v1)] [] M (k77 M)) : ∀ (n : Nat) (v3 : Int32) (v4 : Int32) (M : mm_M), mm_G (fun x : Bool => some (.int (mm_b x))) E Y_X12_isMeterRow 3 7 [(0, .ref 97), (1, .int v1), (3, .int v3), (4, .int v4)] [] M (lp_R_isMeterRow_7 v1 k69 k77 n v3 v4 M) := by
  intro n
  induction n with
  | zero => intro v3 v4 M r M2 he; cases he
  | succ n ih =>
    intro v3 v4 M
    rw [lp_R_isMeterRow_7]
    refine mm_iload 3 dX12_isMeterRow_7 rfl ?_
    refine mm_if_lt 77 dX12_isMeterRow_9 rfl ?_ ?_
    · refine mm_wk [0, 1] rfl ?_
      exact hk77  M
    · refine mm_aload_n 0 dX12_isMeterRow_12 rfl ?_
      refine mm_getR 134 dX12_isMeterRow_13 fl_RX12_119 lo_97 rfl ?_
      refine mm_iload 3 dX12_isMeterRow_16 rfl ?_
      refine mm_iload_n 2 dX12_isMeterRow_18 rfl ?_
      refine mm_bipush (v := 12) dX12_isMeterRow_19 rfl ?_
      refine mm_irem_c dX12_isMeterRow_21 (by decide) ?_
      refine mm_iastore dX12_isMeterRow_22 ?_
      refine mm_nm_M (fun M_2 => ?_)
      refine mm_iload_n 2 dX12_isMeterRow_23 rfl ?_
      refine mm_bipush (v := 12) dX12_isMeterRow_24 rfl ?_
      refine mm_idiv_c dX12_isMeterRow_26 (by decide) ?_
      refine mm_nm_int (fun v3_3 => ?_)
      refine mm_istore_n [1, 2, 0, 3] (lv2 := [(0, .ref 97), (1, .int v1), (3, .int v3_3), (4, .int v4)]) dX12_isMeterRow_27 (by decide) rfl ?_
      refine mm_aload_n 0 dX12_isMeterRow_28 rfl ?_
      refine mm_aload_n 0 dX12_isMeterRow_29 rfl ?_
      refine mm_getR 134 dX12_isMeterRow_30 fl_RX12_119 lo_97 rfl ?_
      refine mm_iload 3 dX12_isMeterRow_33 rfl ?_
      refine mm_iaload dX12_isMeterRow_35 ?_
      refine mm_callVz (as := [.int (M_2.2.1 134 v4.toNatClampNeg)]) (st := []) (c_R_isDay E (M_2.2.1 134 v4.toNatClampNeg) M_2) dX12_isMeterRow_36 mz_X12_isDay lk_RX12_202 im_X12_isDay se_X12_isDay lo_97 rfl rfl rfl ⟨Nat.le_of_ble_eq_true rfl, Nat.le_of_ble_eq_true rfl⟩ (Nat.le_of_ble_eq_true rfl) (fun b_4 M_5 => ?_)
      refine mm_if_eq_b 69 dX12_isMeterRow_39 rfl ?_ ?_
      · refine mm_wk [] rfl ?_
        exact hk69  M_5
      · refine mm_iload 3 dX12_isMeterRow_42 rfl ?_
        refine mm_iload_n 1 dX12_isMeterRow_44 rfl ?_
        refine mm_iconst (v := 1) dX12_isMeterRow_45 rfl ?_
        refine mm_isub dX12_isMeterRow_46 ?_
        refine mm_jnP (P := fun j => ∀ (v3 : Int32) (v4 : Int32) (M : mm_M), mm_G (fun x : Bool => some (.int (mm_b x))) E Y_X12_isMeterRow 3 71 [(0, .ref 97), (1, .int v1), (3, .int v3), (4, .int v4)] [] M (j v3 v4 M)) ?_ (fun j71 hj71 => ?_)
        · intro v3 v4 M_6
          refine mm_iincN 3 [1, 2, 3, 0] (v := v4 + (-1)) (lv2 := fun v4_7 => [(0, .ref 97), (1, .int v1), (3, .int v3), (4, .int v4_7)]) dX12_isMeterRow_71 rfl rfl (by decide) (fun _ => rfl) (fun v4_7 => ?_)
          refine mm_goto 7 dX12_isMeterRow_74 rfl ?_
          exact ih v3 v4_7 M_6
        refine mm_icmp_ge 71 dX12_isMeterRow_47 rfl ?_ ?_
        · exact hj71 v3_3 v4 M_5
        · refine mm_aload_n 0 dX12_isMeterRow_50 rfl ?_
          refine mm_getR 134 dX12_isMeterRow_51 fl_RX12_119 lo_97 rfl ?_
          refine mm_iload 3 dX12_isMeterRow_54 rfl ?_
          refine mm_iaload dX12_isMeterRow_56 ?_
          refine mm_aload_n 0 dX12_isMeterRow_57 rfl ?_
          refine mm_getR 134 dX12_isMeterRow_58 fl_RX12_119 lo_97 rfl ?_
          refine mm_iload 3 dX12_isMeterRow_61 rfl ?_
          refine mm_iconst (v := 1) dX12_isMeterRow_63 rfl ?_
          refine mm_iadd dX12_isMeterRow_64 ?_
          refine mm_iaload dX12_isMeterRow_65 ?_
          refine mm_icmp_le 71 dX12_isMeterRow_66 rfl ?_ ?_
          · exact hj71 v3_3 v4 M_5
          · refine mm_wk [] rfl ?_
            exact hk69  M_5
def f_R_isMeterRow (v1 : Int32) (v2 : Int32) (M : mm_M) : Option (Bool × mm_M) := mm_let (v1 - 1) fun v4_1 => lp_R_isMeterRow_7 v1 (fun (M_8 : mm_M) => some (false, M_8)) (fun (M_9 : mm_M) => mm_bd (f_R_comesToMeter v1 M_9) fun b_10 M_11 => some (b_10, M_11)) mm_fu v2 v4_1 M
set_option maxHeartbeats 4000000 in
theorem c_R_isMeterRow (E : mm_E) (v1 : Int32) (v2 : Int32) (M : mm_M) : ∀ (r : Bool) (M2 : mm_M), f_R_isMeterRow v1 v2 M = some (r, M2) → mm_P E Y_X12_isMeterRow 3 [.ref 97, .int v1, .int v2] M (some (.int (mm_b r))) M2 := by
  refine mm_entry (em := (fun x : Bool => some (.int (mm_b x)))) (by decide +kernel) (Nat.le_of_ble_eq_true rfl) ?_
  show mm_G _ E _ _ 0 [(0, .ref 97), (1, .int v1), (2, .int v2)] [] M _
  unfold f_R_isMeterRow
  refine mm_iload_n 2 dX12_isMeterRow_0 rfl ?_
  refine mm_istore_n [1, 2, 3, 0] (lv2 := [(0, .ref 97), (1, .int v1), (2, .int v2), (3, .int v2)]) dX12_isMeterRow_1 (by decide) rfl ?_
  refine mm_iload_n 1 dX12_isMeterRow_2 rfl ?_
  refine mm_iconst (v := 1) dX12_isMeterRow_3 rfl ?_
  refine mm_isub dX12_isMeterRow_4 ?_
  refine mm_nm_int (fun v4_1 => ?_)
  refine mm_istore [1, 2, 3, 4, 0] (lv2 := [(0, .ref 97), (1, .int v1), (2, .int v2), (3, .int v2), (4, .int v4_1)]) dX12_isMeterRow_5 (by decide) rfl ?_
  refine mm_wk [0, 1, 3, 4] rfl ?_
  refine lp_R_isMeterRow_7_ok E v1 ?_ ?_ mm_fu v2 v4_1 M
  · intro M_8
    refine mm_iconst (v := 0) dX12_isMeterRow_69 rfl ?_
    exact mm_zret (b := false) dX12_isMeterRow_70 rfl
  · intro M_9
    refine mm_aload_n 0 dX12_isMeterRow_77 rfl ?_
    refine mm_iload_n 1 dX12_isMeterRow_78 rfl ?_
    refine mm_callVz (as := [.int v1]) (st := []) (c_R_comesToMeter E v1 M_9) dX12_isMeterRow_79 mz_X12_comesToMeter lk_RX12_430 im_X12_comesToMeter se_X12_comesToMeter lo_97 rfl rfl rfl ⟨Nat.le_of_ble_eq_true rfl, Nat.le_of_ble_eq_true rfl⟩ (Nat.le_of_ble_eq_true rfl) (fun b_10 M_11 => ?_)
    exact mm_zret (b := b_10) dX12_isMeterRow_82 rfl
