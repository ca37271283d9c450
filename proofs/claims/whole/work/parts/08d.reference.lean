def lp_R_rainOf_6 (v1 : Int32) (v2 : Int32) (v3 : Int32) (k61 : Int32 → mm_M → Option (Int32 × mm_M)) : Nat → Int32 → Int32 → mm_M → Option (Int32 × mm_M)
  | 0, _, _, _ => none
  | n + 1, v4, v5, M => if 10 ≤ v5 then k61 v4 M else mm_bd (f_R_has v1 v5 M) fun b_1 M_2 => mm_jn (fun (v5 : Int32) (s0 : Int32) (s1 : Int32) (M_3 : mm_M) => mm_let (s0 + s1) fun v4_4 => mm_let (v5 + 1) fun v5_5 => lp_R_rainOf_6 v1 v2 v3 k61 n v4_4 v5_5 M_3) fun j52 => mm_jn (fun (v5 : Int32) (s0 : Int32) (M_6 : mm_M) => j52 v5 s0 0 M_6) fun j51 => if b_1 = true then if mm_in v5 (mm_al 105) = true then if mm_in (M_2.2.1 105 v5.toNatClampNeg) (mm_al 101) = true then if M_2.2.1 101 (M_2.2.1 105 v5.toNatClampNeg).toNatClampNeg = v2 then mm_bd (f_R_wantOf v5 0 v3 M_2) fun r_7 M_8 => j52 v5 v4 r_7 M_8 else j51 v5 v4 M_2 else none else none else j51 v5 v4 M_2
set_option maxHeartbeats 4000000 in
theorem lp_R_rainOf_6_ok (E : mm_E) (v1 : Int32) (v2 : Int32) (v3 : Int32) {k61 : Int32 → mm_M → Option (Int32 × mm_M)} (hk61 : ∀ (v4 : Int32) (M : mm_M), mm_G (fun x : Int32 => some (.int x)) E Y_X12_rainOf 2 61 [(4, .int v4)] [] M (k61 v4 M)) : ∀ (n : Nat) (v4 : Int32) (v5 : Int32) (M : mm_M), mm_G (fun x : Int32 => some (.int x)) E Y_X12_rainOf 2 6 [(0, .ref 97), (1, .int v1), (2, .int v2), (3, .int v3), (4, .int v4), (5, .int v5)] [] M (lp_R_rainOf_6 v1 v2 v3 k61 n v4 v5 M) := by
  intro n
  induction n with
  | zero => intro v4 v5 M r M2 he; cases he
  | succ n ih =>
    intro v4 v5 M
    rw [lp_R_rainOf_6]
    refine mm_iload 5 dX12_rainOf_6 rfl ?_
    refine mm_bipush (v := 10) dX12_rainOf_8 rfl ?_
    refine mm_icmp_ge 61 dX12_rainOf_10 rfl ?_ ?_
    · refine mm_wk [4] rfl ?_
      exact hk61 v4 M
    · refine mm_iload 4 dX12_rainOf_13 rfl ?_
      refine mm_iload_n 1 dX12_rainOf_15 rfl ?_
      refine mm_iload 5 dX12_rainOf_16 rfl ?_
      refine mm_callSz (as := [.int v1, .int v5]) (st := [.int v4]) (c_R_has E v1 v5 M) dX12_rainOf_18 mz_X12_has lk_RX12_199 sm_X12_has rfl ⟨Nat.le_of_ble_eq_true rfl, Nat.le_of_ble_eq_true rfl⟩ (Nat.le_of_ble_eq_true rfl) (fun b_1 M_2 => ?_)
      refine mm_jnP (P := fun j => ∀ (v5 : Int32) (s0 : Int32) (s1 : Int32) (M : mm_M), mm_G (fun x : Int32 => some (.int x)) E Y_X12_rainOf 2 52 [(0, .ref 97), (1, .int v1), (2, .int v2), (3, .int v3), (5, .int v5)] [.int s1, .int s0] M (j v5 s0 s1 M)) ?_ (fun j52 hj52 => ?_)
      · intro v5 s0 s1 M_3
        refine mm_iadd dX12_rainOf_52 ?_
        refine mm_nm_int (fun v4_4 => ?_)
        refine mm_istore [1, 2, 3, 4, 0, 5] (lv2 := [(0, .ref 97), (1, .int v1), (2, .int v2), (3, .int v3), (4, .int v4_4), (5, .int v5)]) dX12_rainOf_53 (by decide) rfl ?_
        refine mm_iincN 5 [1, 2, 3, 4, 5, 0] (v := v5 + 1) (lv2 := fun v5_5 => [(0, .ref 97), (1, .int v1), (2, .int v2), (3, .int v3), (4, .int v4_4), (5, .int v5_5)]) dX12_rainOf_55 rfl rfl (by decide) (fun _ => rfl) (fun v5_5 => ?_)
        refine mm_goto 6 dX12_rainOf_58 rfl ?_
        exact ih v4_4 v5_5 M_3
      refine mm_jnP (P := fun j => ∀ (v5 : Int32) (s0 : Int32) (M : mm_M), mm_G (fun x : Int32 => some (.int x)) E Y_X12_rainOf 2 51 [(0, .ref 97), (1, .int v1), (2, .int v2), (3, .int v3), (5, .int v5)] [.int s0] M (j v5 s0 M)) ?_ (fun j51 hj51 => ?_)
      · intro v5 s0 M_6
        refine mm_iconst (v := 0) dX12_rainOf_51 rfl ?_
        exact hj52 v5 s0 0 M_6
      refine mm_if_eq_b 51 dX12_rainOf_21 rfl ?_ ?_
      · refine mm_wk [0, 1, 2, 3, 5] rfl ?_
        exact hj51 v5 v4 M_2
      · refine mm_aload_n 0 dX12_rainOf_24 rfl ?_
        refine mm_getR 101 dX12_rainOf_25 fl_RX12_20 lo_97 rfl ?_
        refine mm_aload_n 0 dX12_rainOf_28 rfl ?_
        refine mm_getR 105 dX12_rainOf_29 fl_RX12_32 lo_97 rfl ?_
        refine mm_iload 5 dX12_rainOf_32 rfl ?_
        refine mm_iaload dX12_rainOf_34 ?_
        refine mm_iaload dX12_rainOf_35 ?_
        refine mm_iload_n 2 dX12_rainOf_36 rfl ?_
        refine mm_icmp_ne 51 dX12_rainOf_37 rfl ?_ ?_
        · refine mm_wk [0, 1, 2, 3, 5] rfl ?_
          exact hj51 v5 v4 M_2
        · refine mm_aload_n 0 dX12_rainOf_40 rfl ?_
          refine mm_iload 5 dX12_rainOf_41 rfl ?_
          refine mm_iconst (v := 0) dX12_rainOf_43 rfl ?_
          refine mm_iload_n 3 dX12_rainOf_44 rfl ?_
          refine mm_callVi (as := [.int v5, .int 0, .int v3]) (st := [.int v4]) (c_R_wantOf E v5 0 v3 M_2) dX12_rainOf_45 mz_X12_wantOf lk_RX12_230 im_X12_wantOf se_X12_wantOf lo_97 rfl rfl rfl ⟨Nat.le_of_ble_eq_true rfl, Nat.le_of_ble_eq_true rfl⟩ (Nat.le_of_ble_eq_true rfl) (fun r_7 M_8 => ?_)
          refine mm_goto 52 dX12_rainOf_48 rfl ?_
          refine mm_wk [0, 1, 2, 3, 5] rfl ?_
          exact hj52 v5 v4 r_7 M_8
def f_R_rainOf (v1 : Int32) (v2 : Int32) (v3 : Int32) (M : mm_M) : Option (Int32 × mm_M) := lp_R_rainOf_6 v1 v2 v3 (fun (v4 : Int32) (M_9 : mm_M) => some (v4, M_9)) mm_fu 0 0 M
set_option maxHeartbeats 4000000 in
theorem c_R_rainOf (E : mm_E) (v1 : Int32) (v2 : Int32) (v3 : Int32) (M : mm_M) : ∀ (r : Int32) (M2 : mm_M), f_R_rainOf v1 v2 v3 M = some (r, M2) → mm_P E Y_X12_rainOf 2 [.ref 97, .int v1, .int v2, .int v3] M (some (.int r)) M2 := by
  refine mm_entry (em := (fun x : Int32 => some (.int x))) (by decide +kernel) (Nat.le_of_ble_eq_true rfl) ?_
  show mm_G _ E _ _ 0 [(0, .ref 97), (1, .int v1), (2, .int v2), (3, .int v3)] [] M _
  unfold f_R_rainOf
  refine mm_iconst (v := 0) dX12_rainOf_0 rfl ?_
  refine mm_istore [1, 2, 3, 4, 0] (lv2 := [(0, .ref 97), (1, .int v1), (2, .int v2), (3, .int v3), (4, .int 0)]) dX12_rainOf_1 (by decide) rfl ?_
  refine mm_iconst (v := 0) dX12_rainOf_3 rfl ?_
  refine mm_istore [1, 2, 3, 4, 5, 0] (lv2 := [(0, .ref 97), (1, .int v1), (2, .int v2), (3, .int v3), (4, .int 0), (5, .int 0)]) dX12_rainOf_4 (by decide) rfl ?_
  refine lp_R_rainOf_6_ok E v1 v2 v3 ?_ mm_fu 0 0 M
  · intro v4 M_9
    refine mm_iload 0 dX12_rainOf_61 rfl ?_
    exact mm_iret dX12_rainOf_63 rfl
def lp_R_whyNot_20 (v1 : Int32) (v2 : Int32) (v3 : Int32) (v4 : Bool) (k49 : Int32 → mm_M → Option (Int32 × mm_M)) (k58 : mm_M → Option (Int32 × mm_M)) : Nat → Int32 → mm_M → Option (Int32 × mm_M)
  | 0, _, _ => none
  | n + 1, v5, M => if 3 ≤ v5 then k58 M else mm_jn (fun (v5 : Int32) (M_2 : mm_M) => mm_let (v5 + 1) fun v5_3 => lp_R_whyNot_20 v1 v2 v3 v4 k49 k58 n v5_3 M_2) fun j52 => if v4 = true then mm_bd (f_R_wantAll v1 v5 v2 M) fun r_4 M_5 => if mm_in v5 (mm_al 102) = true then if r_4 ≤ M_5.2.1 102 v5.toNatClampNeg then j52 v5 M_5 else k49 v5 M_5 else none else j52 v5 M
set_option maxHeartbeats 4000000 in
theorem lp_R_whyNot_20_ok (E : mm_E) (v1 : Int32) (v2 : Int32) (v3 : Int32) (v4 : Bool) {k49 : Int32 → mm_M → Option (Int32 × mm_M)} {k58 : mm_M → Option (Int32 × mm_M)} (hk49 : ∀ (v5 : Int32) (M : mm_M), mm_G (fun x : Int32 => some (.int x)) E Y_X12_whyNot 3 49 [(5, .int v5)] [] M (k49 v5 M)) (hk58 : ∀ (M : mm_M), mm_G (fun x : Int32 => some (.int x)) E Y_X12_whyNot 3 58 [(0, .ref 97), (1, .int v1), (2, .int v2), (3, .int v3)] [] M (k58 M)) : ∀ (n : Nat) (v5 : Int32) (M : mm_M), mm_G (fun x : Int32 => some (.int x)) E Y_X12_whyNot 3 20 [(0, .ref 97), (1, .int v1), (2, .int v2), (3, .int v3), (4, .int (mm_b v4)), (5, .int v5)] [] M (lp_R_whyNot_20 v1 v2 v3 v4 k49 k58 n v5 M) := by
  intro n
  induction n with
  | zero => intro v5 M r M2 he; cases he
  | succ n ih =>
    intro v5 M
    rw [lp_R_whyNot_20]
    refine mm_iload 5 dX12_whyNot_20 rfl ?_
    refine mm_iconst (v := 3) dX12_whyNot_22 rfl ?_
    refine mm_icmp_ge 58 dX12_whyNot_23 rfl ?_ ?_
    · refine mm_wk [0, 1, 2, 3] rfl ?_
      exact hk58  M
    · refine mm_iload 4 dX12_whyNot_26 rfl ?_
      refine mm_jnP (P := fun j => ∀ (v5 : Int32) (M : mm_M), mm_G (fun x : Int32 => some (.int x)) E Y_X12_whyNot 3 52 [(0, .ref 97), (1, .int v1), (2, .int v2), (3, .int v3), (4, .int (mm_b v4)), (5, .int v5)] [] M (j v5 M)) ?_ (fun j52 hj52 => ?_)
      · intro v5 M_2
        refine mm_iincN 5 [1, 2, 3, 4, 5, 0] (v := v5 + 1) (lv2 := fun v5_3 => [(0, .ref 97), (1, .int v1), (2, .int v2), (3, .int v3), (4, .int (mm_b v4)), (5, .int v5_3)]) dX12_whyNot_52 rfl rfl (by decide) (fun _ => rfl) (fun v5_3 => ?_)
        refine mm_goto 20 dX12_whyNot_55 rfl ?_
        exact ih v5_3 M_2
      refine mm_if_eq_b 52 dX12_whyNot_28 rfl ?_ ?_
      · exact hj52 v5 M
      · refine mm_aload_n 0 dX12_whyNot_31 rfl ?_
        refine mm_iload_n 1 dX12_whyNot_32 rfl ?_
        refine mm_iload 5 dX12_whyNot_33 rfl ?_
        refine mm_iload_n 2 dX12_whyNot_35 rfl ?_
        refine mm_callVi (as := [.int v1, .int v5, .int v2]) (st := []) (c_R_wantAll E v1 v5 v2 M) dX12_whyNot_36 mz_X12_wantAll lk_RX12_234 im_X12_wantAll se_X12_wantAll lo_97 rfl rfl rfl ⟨Nat.le_of_ble_eq_true rfl, Nat.le_of_ble_eq_true rfl⟩ (Nat.le_of_ble_eq_true rfl) (fun r_4 M_5 => ?_)
        refine mm_aload_n 0 dX12_whyNot_39 rfl ?_
        refine mm_getR 102 dX12_whyNot_40 fl_RX12_23 lo_97 rfl ?_
        refine mm_iload 5 dX12_whyNot_43 rfl ?_
        refine mm_iaload dX12_whyNot_45 ?_
        refine mm_icmp_le 52 dX12_whyNot_46 rfl ?_ ?_
        · exact hj52 v5 M_5
        · refine mm_wk [5] rfl ?_
          exact hk49 v5 M_5
def lp_R_whyNot_61 (v1 : Int32) (v2 : Int32) (v3 : Int32) (k85 : Int32 → mm_M → Option (Int32 × mm_M)) (k96 : mm_M → Option (Int32 × mm_M)) : Nat → Int32 → mm_M → Option (Int32 × mm_M)
  | 0, _, _ => none
  | n + 1, v5, M => if 4 ≤ v5 then k96 M else mm_bd (f_R_rainOf v1 v5 v2 M) fun r_8 M_9 => if mm_in v5 (mm_al 104) = true then if r_8 ≤ M_9.2.1 104 v5.toNatClampNeg then mm_let (v5 + 1) fun v5_10 => lp_R_whyNot_61 v1 v2 v3 k85 k96 n v5_10 M_9 else k85 v5 M_9 else none
set_option maxHeartbeats 4000000 in
theorem lp_R_whyNot_61_ok (E : mm_E) (v1 : Int32) (v2 : Int32) (v3 : Int32) {k85 : Int32 → mm_M → Option (Int32 × mm_M)} {k96 : mm_M → Option (Int32 × mm_M)} (hk85 : ∀ (v5 : Int32) (M : mm_M), mm_G (fun x : Int32 => some (.int x)) E Y_X12_whyNot 3 85 [(5, .int v5)] [] M (k85 v5 M)) (hk96 : ∀ (M : mm_M), mm_G (fun x : Int32 => some (.int x)) E Y_X12_whyNot 3 96 [(0, .ref 97), (3, .int v3)] [] M (k96 M)) : ∀ (n : Nat) (v5 : Int32) (M : mm_M), mm_G (fun x : Int32 => some (.int x)) E Y_X12_whyNot 3 61 [(0, .ref 97), (1, .int v1), (2, .int v2), (3, .int v3), (5, .int v5)] [] M (lp_R_whyNot_61 v1 v2 v3 k85 k96 n v5 M) := by
  intro n
  induction n with
  | zero => intro v5 M r M2 he; cases he
  | succ n ih =>
    intro v5 M
    rw [lp_R_whyNot_61]
    refine mm_iload 4 dX12_whyNot_61 rfl ?_
    refine mm_iconst (v := 4) dX12_whyNot_63 rfl ?_
    refine mm_icmp_ge 96 dX12_whyNot_64 rfl ?_ ?_
    · refine mm_wk [0, 3] rfl ?_
      exact hk96  M
    · refine mm_aload_n 0 dX12_whyNot_67 rfl ?_
      refine mm_iload_n 1 dX12_whyNot_68 rfl ?_
      refine mm_iload 4 dX12_whyNot_69 rfl ?_
      refine mm_iload_n 2 dX12_whyNot_71 rfl ?_
      refine mm_callVi (as := [.int v1, .int v5, .int v2]) (st := []) (c_R_rainOf E v1 v5 v2 M) dX12_whyNot_72 mz_X12_rainOf lk_RX12_347 im_X12_rainOf se_X12_rainOf lo_97 rfl rfl rfl ⟨Nat.le_of_ble_eq_true rfl, Nat.le_of_ble_eq_true rfl⟩ (Nat.le_of_ble_eq_true rfl) (fun r_8 M_9 => ?_)
      refine mm_aload_n 0 dX12_whyNot_75 rfl ?_
      refine mm_getR 104 dX12_whyNot_76 fl_RX12_29 lo_97 rfl ?_
      refine mm_iload 4 dX12_whyNot_79 rfl ?_
      refine mm_iaload dX12_whyNot_81 ?_
      refine mm_icmp_le 90 dX12_whyNot_82 rfl ?_ ?_
      · refine mm_iincN 4 [1, 2, 3, 4, 0] (v := v5 + 1) (lv2 := fun v5_10 => [(0, .ref 97), (1, .int v1), (2, .int v2), (3, .int v3), (5, .int v5_10)]) dX12_whyNot_90 rfl rfl (by decide) (fun _ => rfl) (fun v5_10 => ?_)
        refine mm_goto 61 dX12_whyNot_93 rfl ?_
        exact ih v5_10 M_9
      · refine mm_wk [4] rfl ?_
        exact hk85 v5 M_9
def f_R_whyNot (v1 : Int32) (v2 : Int32) (v3 : Int32) (v4 : Bool) (M : mm_M) : Option (Int32 × mm_M) := if mm_in 0 (mm_al 102) = true then mm_jn (fun (M_1 : mm_M) => lp_R_whyNot_20 v1 v2 v3 v4 (fun (v5 : Int32) (M_6 : mm_M) => some (v5, M_6)) (fun (M_7 : mm_M) => lp_R_whyNot_61 v1 v2 v3 (fun (v5 : Int32) (M_11 : mm_M) => some (3 + v5, M_11)) (fun (M_12 : mm_M) => if v3 ≤ M_12.1 97 49 then some ((-1), M_12) else some (7, M_12)) mm_fu 0 M_7) mm_fu 1 M_1) fun j17 => if v3 ≤ M.2.1 102 (0 : Int32).toNatClampNeg then j17 M else if v4 = true then some (0, M) else j17 M else none
set_option maxHeartbeats 4000000 in
theorem c_R_whyNot (E : mm_E) (v1 : Int32) (v2 : Int32) (v3 : Int32) (v4 : Bool) (M : mm_M) : ∀ (r : Int32) (M2 : mm_M), f_R_whyNot v1 v2 v3 v4 M = some (r, M2) → mm_P E Y_X12_whyNot 3 [.ref 97, .int v1, .int v2, .int v3, .int (mm_b v4)] M (some (.int r)) M2 := by
  refine mm_entry (em := (fun x : Int32 => some (.int x))) (by decide +kernel) (Nat.le_of_ble_eq_true rfl) ?_
  show mm_G _ E _ _ 0 [(0, .ref 97), (1, .int v1), (2, .int v2), (3, .int v3), (4, .int (mm_b v4))] [] M _
  unfold f_R_whyNot
  refine mm_iload_n 3 dX12_whyNot_0 rfl ?_
  refine mm_aload_n 0 dX12_whyNot_1 rfl ?_
  refine mm_getR 102 dX12_whyNot_2 fl_RX12_23 lo_97 rfl ?_
  refine mm_iconst (v := 0) dX12_whyNot_5 rfl ?_
  refine mm_iaload dX12_whyNot_6 ?_
  refine mm_jnP (P := fun j => ∀ (M : mm_M), mm_G (fun x : Int32 => some (.int x)) E Y_X12_whyNot 3 17 [(0, .ref 97), (1, .int v1), (2, .int v2), (3, .int v3), (4, .int (mm_b v4))] [] M (j M)) ?_ (fun j17 hj17 => ?_)
  · intro M_1
    refine mm_iconst (v := 1) dX12_whyNot_17 rfl ?_
    refine mm_istore [1, 2, 3, 4, 5, 0] (lv2 := [(0, .ref 97), (1, .int v1), (2, .int v2), (3, .int v3), (4, .int (mm_b v4)), (5, .int 1)]) dX12_whyNot_18 (by decide) rfl ?_
    refine lp_R_whyNot_20_ok E v1 v2 v3 v4 ?_ ?_ mm_fu 1 M_1
    · intro v5 M_6
      refine mm_iload 0 dX12_whyNot_49 rfl ?_
      exact mm_iret dX12_whyNot_51 rfl
    · intro M_7
      refine mm_iconst (v := 0) dX12_whyNot_58 rfl ?_
      refine mm_istore [1, 2, 3, 4, 0] (lv2 := [(0, .ref 97), (1, .int v1), (2, .int v2), (3, .int v3), (5, .int 0)]) dX12_whyNot_59 (by decide) rfl ?_
      refine lp_R_whyNot_61_ok E v1 v2 v3 ?_ ?_ mm_fu 0 M_7
      · intro v5 M_11
        refine mm_iconst (v := 3) dX12_whyNot_85 rfl ?_
        refine mm_iload 0 dX12_whyNot_86 rfl ?_
        refine mm_iadd dX12_whyNot_88 ?_
        exact mm_iret dX12_whyNot_89 rfl
      · intro M_12
        refine mm_iload_n 1 dX12_whyNot_96 rfl ?_
        refine mm_aload_n 0 dX12_whyNot_97 rfl ?_
        refine mm_getI dX12_whyNot_98 fl_RX12_322 lo_97 rfl ?_
        refine mm_icmp_le 109 dX12_whyNot_101 rfl ?_ ?_
        · refine mm_iconst (v := (-1)) dX12_whyNot_109 rfl ?_
          exact mm_iret dX12_whyNot_110 rfl
        · refine mm_bipush (v := 7) dX12_whyNot_104 rfl ?_
          refine mm_goto 110 dX12_whyNot_106 rfl ?_
          exact mm_iret dX12_whyNot_110 rfl
  refine mm_icmp_le 17 dX12_whyNot_7 rfl ?_ ?_
  · exact hj17  M
  · refine mm_iload 4 dX12_whyNot_10 rfl ?_
    refine mm_if_eq_b 17 dX12_whyNot_12 rfl ?_ ?_
    · exact hj17  M
    · refine mm_iconst (v := 0) dX12_whyNot_15 rfl ?_
      exact mm_iret dX12_whyNot_16 rfl
def lp_R_canBe_10 (v1 : Int32) (v2 : Bool) (k70 : mm_M → Option (Bool × mm_M)) (k89 : mm_M → Option (Bool × mm_M)) : Nat → Int32 → mm_M → Option (Bool × mm_M)
  | 0, _, _ => none
  | n + 1, v3, M => if 24 ≤ v3 then k89 M else mm_bd (f_R_min 9999 ((M.1 97 49) + (M.1 97 11)) M) fun r_2 M_3 => mm_let (mm_setI M_3 97 49 r_2) fun M_4 => mm_bd (f_R_wantAll v1 0 v3 M_4) fun r_5 M_6 => mm_let (mm_setI M_6 97 50 v3) fun M_7 => mm_bd (f_R_whyNot v1 v3 r_5 v2 M_7) fun r_8 M_9 => mm_let (mm_setI M_9 97 51 r_8) fun M_10 => if M_10.1 97 51 = (-1) then mm_let (mm_setI M_10 97 49 ((M_10.1 97 49) - r_5)) fun M_11 => mm_let (v3 + 1) fun v3_12 => lp_R_canBe_10 v1 v2 k70 k89 n v3_12 M_11 else k70 M_10
set_option maxHeartbeats 4000000 in
theorem lp_R_canBe_10_ok (E : mm_E) (v1 : Int32) (v2 : Bool) {k70 : mm_M → Option (Bool × mm_M)} {k89 : mm_M → Option (Bool × mm_M)} (hk70 : ∀ (M : mm_M), mm_G (fun x : Bool => some (.int (mm_b x))) E Y_X12_canBe 4 70 [] [] M (k70 M)) (hk89 : ∀ (M : mm_M), mm_G (fun x : Bool => some (.int (mm_b x))) E Y_X12_canBe 4 89 [] [] M (k89 M)) : ∀ (n : Nat) (v3 : Int32) (M : mm_M), mm_G (fun x : Bool => some (.int (mm_b x))) E Y_X12_canBe 4 10 [(0, .ref 97), (1, .int v1), (2, .int (mm_b v2)), (3, .int v3)] [] M (lp_R_canBe_10 v1 v2 k70 k89 n v3 M) := by
  intro n
  induction n with
  | zero => intro v3 M r M2 he; cases he
  | succ n ih =>
    intro v3 M
    rw [lp_R_canBe_10]
    refine mm_iload_n 3 dX12_canBe_10 rfl ?_
    refine mm_bipush (v := 24) dX12_canBe_11 rfl ?_
    refine mm_icmp_ge 89 dX12_canBe_13 rfl ?_ ?_
    · refine mm_wk [] rfl ?_
      exact hk89  M
    · refine mm_aload_n 0 dX12_canBe_16 rfl ?_
      refine mm_sipush (v := 9999) dX12_canBe_17 rfl ?_
      refine mm_aload_n 0 dX12_canBe_20 rfl ?_
      refine mm_getI dX12_canBe_21 fl_RX12_322 lo_97 rfl ?_
      refine mm_aload_n 0 dX12_canBe_24 rfl ?_
      refine mm_getI dX12_canBe_25 fl_RX12_214 lo_97 rfl ?_
      refine mm_iadd dX12_canBe_28 ?_
      refine mm_callSi (as := [.int 9999, .int ((M.1 97 49) + (M.1 97 11))]) (st := [.ref 97]) (c_R_min E 9999 ((M.1 97 49) + (M.1 97 11)) M) dX12_canBe_29 mz_X12_min lk_RX12_183 sm_X12_min rfl ⟨Nat.le_of_ble_eq_true rfl, Nat.le_of_ble_eq_true rfl⟩ (Nat.le_of_ble_eq_true rfl) (fun r_2 M_3 => ?_)
      refine mm_putI dX12_canBe_32 fp_RX12_322 lo_97 rfl ?_
      refine mm_nm_M (fun M_4 => ?_)
      refine mm_aload_n 0 dX12_canBe_35 rfl ?_
      refine mm_iload_n 1 dX12_canBe_36 rfl ?_
      refine mm_iconst (v := 0) dX12_canBe_37 rfl ?_
      refine mm_iload_n 3 dX12_canBe_38 rfl ?_
      refine mm_callVi (as := [.int v1, .int 0, .int v3]) (st := []) (c_R_wantAll E v1 0 v3 M_4) dX12_canBe_39 mz_X12_wantAll lk_RX12_234 im_X12_wantAll se_X12_wantAll lo_97 rfl rfl rfl ⟨Nat.le_of_ble_eq_true rfl, Nat.le_of_ble_eq_true rfl⟩ (Nat.le_of_ble_eq_true rfl) (fun r_5 M_6 => ?_)
      refine mm_istore [1, 2, 3, 4, 0] (lv2 := [(0, .ref 97), (1, .int v1), (2, .int (mm_b v2)), (3, .int v3), (4, .int r_5)]) dX12_canBe_42 (by decide) rfl ?_
      refine mm_aload_n 0 dX12_canBe_44 rfl ?_
      refine mm_iload_n 3 dX12_canBe_45 rfl ?_
      refine mm_putI dX12_canBe_46 fp_RX12_350 lo_97 rfl ?_
      refine mm_nm_M (fun M_7 => ?_)
      refine mm_aload_n 0 dX12_canBe_49 rfl ?_
      refine mm_aload_n 0 dX12_canBe_50 rfl ?_
      refine mm_iload_n 1 dX12_canBe_51 rfl ?_
      refine mm_iload_n 3 dX12_canBe_52 rfl ?_
      refine mm_iload 4 dX12_canBe_53 rfl ?_
      refine mm_iload_n 2 dX12_canBe_55 rfl ?_
      refine mm_callVi (as := [.int v1, .int v3, .int r_5, .int (mm_b v2)]) (st := [.ref 97]) (c_R_whyNot E v1 v3 r_5 v2 M_7) dX12_canBe_56 mz_X12_whyNot lk_RX12_353 im_X12_whyNot se_X12_whyNot lo_97 rfl rfl rfl ⟨Nat.le_of_ble_eq_true rfl, Nat.le_of_ble_eq_true rfl⟩ (Nat.le_of_ble_eq_true rfl) (fun r_8 M_9 => ?_)
      refine mm_putI dX12_canBe_59 fp_RX12_357 lo_97 rfl ?_
      refine mm_nm_M (fun M_10 => ?_)
      refine mm_aload_n 0 dX12_canBe_62 rfl ?_
      refine mm_getI dX12_canBe_63 fl_RX12_357 lo_97 rfl ?_
      refine mm_iconst (v := (-1)) dX12_canBe_66 rfl ?_
      refine mm_icmp_eq 72 dX12_canBe_67 rfl ?_ ?_
      · refine mm_aload_n 0 dX12_canBe_72 rfl ?_
        refine mm_aload_n 0 dX12_canBe_73 rfl ?_
        refine mm_getI dX12_canBe_74 fl_RX12_322 lo_97 rfl ?_
        refine mm_iload 4 dX12_canBe_77 rfl ?_
        refine mm_isub dX12_canBe_79 ?_
        refine mm_putI dX12_canBe_80 fp_RX12_322 lo_97 rfl ?_
        refine mm_nm_M (fun M_11 => ?_)
        refine mm_iincN 3 [1, 2, 3, 0, 4] (v := v3 + 1) (lv2 := fun v3_12 => [(0, .ref 97), (1, .int v1), (2, .int (mm_b v2)), (3, .int v3_12), (4, .int r_5)]) dX12_canBe_83 rfl rfl (by decide) (fun _ => rfl) (fun v3_12 => ?_)
        refine mm_goto 10 dX12_canBe_86 rfl ?_
        refine mm_wk [0, 1, 2, 3] rfl ?_
        exact ih v3_12 M_11
      · refine mm_wk [] rfl ?_
        exact hk70  M_10
def f_R_canBe (v1 : Int32) (v2 : Bool) (M : mm_M) : Option (Bool × mm_M) := mm_let (mm_setI M 97 49 (M.1 97 10)) fun M_1 => lp_R_canBe_10 v1 v2 (fun (M_13 : mm_M) => some (false, M_13)) (fun (M_14 : mm_M) => some (true, M_14)) mm_fu 0 M_1
set_option maxHeartbeats 4000000 in
theorem c_R_canBe (E : mm_E) (v1 : Int32) (v2 : Bool) (M : mm_M) : ∀ (r : Bool) (M2 : mm_M), f_R_canBe v1 v2 M = some (r, M2) → mm_P E Y_X12_canBe 4 [.ref 97, .int v1, .int (mm_b v2)] M (some (.int (mm_b r))) M2 := by
  refine mm_entry (em := (fun x : Bool => some (.int (mm_b x)))) (by decide +kernel) (Nat.le_of_ble_eq_true rfl) ?_
  show mm_G _ E _ _ 0 [(0, .ref 97), (1, .int v1), (2, .int (mm_b v2))] [] M _
  unfold f_R_canBe
  refine mm_aload_n 0 dX12_canBe_0 rfl ?_
  refine mm_aload_n 0 dX12_canBe_1 rfl ?_
  refine mm_getI dX12_canBe_2 fl_RX12_141 lo_97 rfl ?_
  refine mm_putI dX12_canBe_5 fp_RX12_322 lo_97 rfl ?_
  refine mm_nm_M (fun M_1 => ?_)
  refine mm_iconst (v := 0) dX12_canBe_8 rfl ?_
  refine mm_istore_n [1, 2, 3, 0] (lv2 := [(0, .ref 97), (1, .int v1), (2, .int (mm_b v2)), (3, .int 0)]) dX12_canBe_9 (by decide) rfl ?_
  refine lp_R_canBe_10_ok E v1 v2 ?_ ?_ mm_fu 0 M_1
  · intro M_13
    refine mm_iconst (v := 0) dX12_canBe_70 rfl ?_
    exact mm_zret (b := false) dX12_canBe_71 rfl
  · intro M_14
    refine mm_iconst (v := 1) dX12_canBe_89 rfl ?_
    exact mm_zret (b := true) dX12_canBe_90 rfl
def f_R_can (v1 : Int32) (v2 : Int32) (M : mm_M) : Option (Int32 × mm_M) := mm_bd (f_R_areStays v1 M) fun b_1 M_2 => if b_1 = true then mm_bd (f_R_in v2 0 2 M_2) fun b_3 M_4 => if b_3 = true then mm_bd (f_R_canBe v1 true M_4) fun b_5 M_6 => if v2 = 0 then if b_5 = true then some (1, M_6) else some (0, M_6) else if b_5 = true then some ((-2), M_6) else if v2 = 1 then some (M_6.1 97 50, M_6) else some (M_6.1 97 51, M_6) else some ((-3), M_4) else some ((-3), M_2)
set_option maxHeartbeats 4000000 in
theorem c_R_can (E : mm_E) (v1 : Int32) (v2 : Int32) (M : mm_M) : ∀ (r : Int32) (M2 : mm_M), f_R_can v1 v2 M = some (r, M2) → mm_P E Y_X12_can 5 [.ref 97, .int v1, .int v2] M (some (.int r)) M2 := by
  refine mm_entry (em := (fun x : Int32 => some (.int x))) (by decide +kernel) (Nat.le_of_ble_eq_true rfl) ?_
  show mm_G _ E _ _ 0 [(0, .ref 97), (1, .int v1), (2, .int v2)] [] M _
  unfold f_R_can
  refine mm_aload_n 0 dX12_can_0 rfl ?_
  refine mm_iload_n 1 dX12_can_1 rfl ?_
  refine mm_callVz (as := [.int v1]) (st := []) (c_R_areStays E v1 M) dX12_can_2 mz_X12_areStays lk_RX12_360 im_X12_areStays se_X12_areStays lo_97 rfl rfl rfl ⟨Nat.le_of_ble_eq_true rfl, Nat.le_of_ble_eq_true rfl⟩ (Nat.le_of_ble_eq_true rfl) (fun b_1 M_2 => ?_)
  refine mm_if_eq_b 17 dX12_can_5 rfl ?_ ?_
  · refine mm_bipush (v := (-3)) dX12_can_17 rfl ?_
    exact mm_iret dX12_can_19 rfl
  · refine mm_iload_n 2 dX12_can_8 rfl ?_
    refine mm_iconst (v := 0) dX12_can_9 rfl ?_
    refine mm_iconst (v := 2) dX12_can_10 rfl ?_
    refine mm_callSz (as := [.int v2, .int 0, .int 2]) (st := []) (c_R_in E v2 0 2 M_2) dX12_can_11 mz_X12_in lk_RX12_169 sm_X12_in rfl ⟨Nat.le_of_ble_eq_true rfl, Nat.le_of_ble_eq_true rfl⟩ (Nat.le_of_ble_eq_true rfl) (fun b_3 M_4 => ?_)
    refine mm_if_ne_b 20 dX12_can_14 rfl ?_ ?_
    · refine mm_aload_n 0 dX12_can_20 rfl ?_
      refine mm_iload_n 1 dX12_can_21 rfl ?_
      refine mm_iconst (v := 1) dX12_can_22 rfl ?_
      refine mm_callVz (as := [.int v1, .int (mm_b true)]) (st := []) (c_R_canBe E v1 true M_4) dX12_can_23 mz_X12_canBe lk_RX12_363 im_X12_canBe se_X12_canBe lo_97 rfl rfl rfl ⟨Nat.le_of_ble_eq_true rfl, Nat.le_of_ble_eq_true rfl⟩ (Nat.le_of_ble_eq_true rfl) (fun b_5 M_6 => ?_)
      refine mm_istore_n [1, 2, 3, 0] (lv2 := [(0, .ref 97), (1, .int v1), (2, .int v2), (3, .int (mm_b b_5))]) dX12_can_26 (by decide) rfl ?_
      refine mm_iload_n 2 dX12_can_27 rfl ?_
      refine mm_if_ne 43 dX12_can_28 rfl ?_ ?_
      · refine mm_iload_n 3 dX12_can_43 rfl ?_
        refine mm_if_eq_b 52 dX12_can_44 rfl ?_ ?_
        · refine mm_iload_n 2 dX12_can_52 rfl ?_
          refine mm_iconst (v := 1) dX12_can_53 rfl ?_
          refine mm_icmp_ne 64 dX12_can_54 rfl ?_ ?_
          · refine mm_aload_n 0 dX12_can_64 rfl ?_
            refine mm_getI dX12_can_65 fl_RX12_357 lo_97 rfl ?_
            exact mm_iret dX12_can_68 rfl
          · refine mm_aload_n 0 dX12_can_57 rfl ?_
            refine mm_getI dX12_can_58 fl_RX12_350 lo_97 rfl ?_
            refine mm_goto 68 dX12_can_61 rfl ?_
            exact mm_iret dX12_can_68 rfl
        · refine mm_bipush (v := (-2)) dX12_can_47 rfl ?_
          refine mm_goto 68 dX12_can_49 rfl ?_
          exact mm_iret dX12_can_68 rfl
      · refine mm_iload_n 3 dX12_can_31 rfl ?_
        refine mm_if_eq_b 39 dX12_can_32 rfl ?_ ?_
        · refine mm_iconst (v := 0) dX12_can_39 rfl ?_
          refine mm_goto 68 dX12_can_40 rfl ?_
          exact mm_iret dX12_can_68 rfl
        · refine mm_iconst (v := 1) dX12_can_35 rfl ?_
          refine mm_goto 68 dX12_can_36 rfl ?_
          exact mm_iret dX12_can_68 rfl
    · refine mm_bipush (v := (-3)) dX12_can_17 rfl ?_
      exact mm_iret dX12_can_19 rfl
def lp_R_pricesOf_4 (v1 : Int32) (k37 : Int32 → mm_M → Option (Int32 × mm_M)) : Nat → Int32 → Int32 → mm_M → Option (Int32 × mm_M)
  | 0, _, _, _ => none
  | n + 1, v2, v3, M => if 10 ≤ v3 then k37 v2 M else mm_bd (f_R_has v1 v3 M) fun b_1 M_2 => mm_jn (fun (v3 : Int32) (s0 : Int32) (s1 : Int32) (M_3 : mm_M) => mm_let (s0 + s1) fun v2_4 => mm_let (v3 + 1) fun v3_5 => lp_R_pricesOf_4 v1 k37 n v2_4 v3_5 M_3) fun j29 => if b_1 = true then if mm_in v3 (mm_al 107) = true then j29 v3 v2 (M_2.2.1 107 v3.toNatClampNeg) M_2 else none else j29 v3 v2 0 M_2
set_option maxHeartbeats 4000000 in
theorem lp_R_pricesOf_4_ok (E : mm_E) (v1 : Int32) {k37 : Int32 → mm_M → Option (Int32 × mm_M)} (hk37 : ∀ (v2 : Int32) (M : mm_M), mm_G (fun x : Int32 => some (.int x)) E Y_X12_pricesOf 2 37 [(2, .int v2)] [] M (k37 v2 M)) : ∀ (n : Nat) (v2 : Int32) (v3 : Int32) (M : mm_M), mm_G (fun x : Int32 => some (.int x)) E Y_X12_pricesOf 2 4 [(0, .ref 97), (1, .int v1), (2, .int v2), (3, .int v3)] [] M (lp_R_pricesOf_4 v1 k37 n v2 v3 M) := by
  intro n
  induction n with
  | zero => intro v2 v3 M r M2 he; cases he
  | succ n ih =>
    intro v2 v3 M
    rw [lp_R_pricesOf_4]
    refine mm_iload_n 3 dX12_pricesOf_4 rfl ?_
    refine mm_bipush (v := 10) dX12_pricesOf_5 rfl ?_
    refine mm_icmp_ge 37 dX12_pricesOf_7 rfl ?_ ?_
    · refine mm_wk [2] rfl ?_
      exact hk37 v2 M
    · refine mm_iload_n 2 dX12_pricesOf_10 rfl ?_
      refine mm_iload_n 1 dX12_pricesOf_11 rfl ?_
      refine mm_iload_n 3 dX12_pricesOf_12 rfl ?_
      refine mm_callSz (as := [.int v1, .int v3]) (st := [.int v2]) (c_R_has E v1 v3 M) dX12_pricesOf_13 mz_X12_has lk_RX12_199 sm_X12_has rfl ⟨Nat.le_of_ble_eq_true rfl, Nat.le_of_ble_eq_true rfl⟩ (Nat.le_of_ble_eq_true rfl) (fun b_1 M_2 => ?_)
      refine mm_jnP (P := fun j => ∀ (v3 : Int32) (s0 : Int32) (s1 : Int32) (M : mm_M), mm_G (fun x : Int32 => some (.int x)) E Y_X12_pricesOf 2 29 [(0, .ref 97), (1, .int v1), (3, .int v3)] [.int s1, .int s0] M (j v3 s0 s1 M)) ?_ (fun j29 hj29 => ?_)
      · intro v3 s0 s1 M_3
        refine mm_iadd dX12_pricesOf_29 ?_
        refine mm_nm_int (fun v2_4 => ?_)
        refine mm_istore_n [1, 2, 0, 3] (lv2 := [(0, .ref 97), (1, .int v1), (2, .int v2_4), (3, .int v3)]) dX12_pricesOf_30 (by decide) rfl ?_
        refine mm_iincN 3 [1, 2, 3, 0] (v := v3 + 1) (lv2 := fun v3_5 => [(0, .ref 97), (1, .int v1), (2, .int v2_4), (3, .int v3_5)]) dX12_pricesOf_31 rfl rfl (by decide) (fun _ => rfl) (fun v3_5 => ?_)
        refine mm_goto 4 dX12_pricesOf_34 rfl ?_
        exact ih v2_4 v3_5 M_3
      refine mm_if_eq_b 28 dX12_pricesOf_16 rfl ?_ ?_
      · refine mm_iconst (v := 0) dX12_pricesOf_28 rfl ?_
        refine mm_wk [0, 1, 3] rfl ?_
        exact hj29 v3 v2 0 M_2
      · refine mm_aload_n 0 dX12_pricesOf_19 rfl ?_
        refine mm_getR 107 dX12_pricesOf_20 fl_RX12_38 lo_97 rfl ?_
        refine mm_iload_n 3 dX12_pricesOf_23 rfl ?_
        refine mm_iaload dX12_pricesOf_24 ?_
        refine mm_goto 29 dX12_pricesOf_25 rfl ?_
        refine mm_wk [0, 1, 3] rfl ?_
        exact hj29 v3 v2 (M_2.2.1 107 v3.toNatClampNeg) M_2
def f_R_pricesOf (v1 : Int32) (M : mm_M) : Option (Int32 × mm_M) := lp_R_pricesOf_4 v1 (fun (v2 : Int32) (M_6 : mm_M) => some (v2, M_6)) mm_fu 0 0 M
set_option maxHeartbeats 4000000 in
theorem c_R_pricesOf (E : mm_E) (v1 : Int32) (M : mm_M) : ∀ (r : Int32) (M2 : mm_M), f_R_pricesOf v1 M = some (r, M2) → mm_P E Y_X12_pricesOf 2 [.ref 97, .int v1] M (some (.int r)) M2 := by
  refine mm_entry (em := (fun x : Int32 => some (.int x))) (by decide +kernel) (Nat.le_of_ble_eq_true rfl) ?_
  show mm_G _ E _ _ 0 [(0, .ref 97), (1, .int v1)] [] M _
  unfold f_R_pricesOf
  refine mm_iconst (v := 0) dX12_pricesOf_0 rfl ?_
  refine mm_istore_n [1, 2, 0] (lv2 := [(0, .ref 97), (1, .int v1), (2, .int 0)]) dX12_pricesOf_1 (by decide) rfl ?_
  refine mm_iconst (v := 0) dX12_pricesOf_2 rfl ?_
  refine mm_istore_n [1, 2, 3, 0] (lv2 := [(0, .ref 97), (1, .int v1), (2, .int 0), (3, .int 0)]) dX12_pricesOf_3 (by decide) rfl ?_
  refine lp_R_pricesOf_4_ok E v1 ?_ mm_fu 0 0 M
  · intro v2 M_6
    refine mm_iload_n 0 dX12_pricesOf_37 rfl ?_
    exact mm_iret dX12_pricesOf_38 rfl
def lp_R_bits_4 (v0 : Int32) (k24 : Int32 → mm_M → Option (Int32 × mm_M)) : Nat → Int32 → Int32 → mm_M → Option (Int32 × mm_M)
  | 0, _, _, _ => none
  | n + 1, v1, v2, M => if 12 ≤ v2 then k24 v1 M else mm_let (v1 + ((v0 >>> (v2 &&& 31)) &&& 1)) fun v1_1 => mm_let (v2 + 1) fun v2_2 => lp_R_bits_4 v0 k24 n v1_1 v2_2 M
set_option maxHeartbeats 4000000 in
theorem lp_R_bits_4_ok (E : mm_E) (v0 : Int32) {k24 : Int32 → mm_M → Option (Int32 × mm_M)} (hk24 : ∀ (v1 : Int32) (M : mm_M), mm_G (fun x : Int32 => some (.int x)) E Y_X12_bits 1 24 [(1, .int v1)] [] M (k24 v1 M)) : ∀ (n : Nat) (v1 : Int32) (v2 : Int32) (M : mm_M), mm_G (fun x : Int32 => some (.int x)) E Y_X12_bits 1 4 [(0, .int v0), (1, .int v1), (2, .int v2)] [] M (lp_R_bits_4 v0 k24 n v1 v2 M) := by
  intro n
  induction n with
  | zero => intro v1 v2 M r M2 he; cases he
  | succ n ih =>
    intro v1 v2 M
    rw [lp_R_bits_4]
    refine mm_iload_n 2 dX12_bits_4 rfl ?_
    refine mm_bipush (v := 12) dX12_bits_5 rfl ?_
    refine mm_icmp_ge 24 dX12_bits_7 rfl ?_ ?_
    · refine mm_wk [1] rfl ?_
      exact hk24 v1 M
    · refine mm_iload_n 1 dX12_bits_10 rfl ?_
      refine mm_iload_n 0 dX12_bits_11 rfl ?_
      refine mm_iload_n 2 dX12_bits_12 rfl ?_
      refine mm_ishr dX12_bits_13 ?_
      refine mm_iconst (v := 1) dX12_bits_14 rfl ?_
      refine mm_iand dX12_bits_15 ?_
      refine mm_iadd dX12_bits_16 ?_
      refine mm_nm_int (fun v1_1 => ?_)
      refine mm_istore_n [1, 0, 2] (lv2 := [(0, .int v0), (1, .int v1_1), (2, .int v2)]) dX12_bits_17 (by decide) rfl ?_
      refine mm_iincN 2 [1, 2, 0] (v := v2 + 1) (lv2 := fun v2_2 => [(0, .int v0), (1, .int v1_1), (2, .int v2_2)]) dX12_bits_18 rfl rfl (by decide) (fun _ => rfl) (fun v2_2 => ?_)
      refine mm_goto 4 dX12_bits_21 rfl ?_
      exact ih v1_1 v2_2 M
def f_R_bits (v0 : Int32) (M : mm_M) : Option (Int32 × mm_M) := lp_R_bits_4 v0 (fun (v1 : Int32) (M_3 : mm_M) => some (v1, M_3)) mm_fu 0 0 M
set_option maxHeartbeats 4000000 in
theorem c_R_bits (E : mm_E) (v0 : Int32) (M : mm_M) : ∀ (r : Int32) (M2 : mm_M), f_R_bits v0 M = some (r, M2) → mm_P E Y_X12_bits 1 [.int v0] M (some (.int r)) M2 := by
  refine mm_entry (em := (fun x : Int32 => some (.int x))) (by decide +kernel) (Nat.le_of_ble_eq_true rfl) ?_
  show mm_G _ E _ _ 0 [(0, .int v0)] [] M _
  unfold f_R_bits
  refine mm_iconst (v := 0) dX12_bits_0 rfl ?_
  refine mm_istore_n [1, 0] (lv2 := [(0, .int v0), (1, .int 0)]) dX12_bits_1 (by decide) rfl ?_
  refine mm_iconst (v := 0) dX12_bits_2 rfl ?_
  refine mm_istore_n [1, 2, 0] (lv2 := [(0, .int v0), (1, .int 0), (2, .int 0)]) dX12_bits_3 (by decide) rfl ?_
  refine lp_R_bits_4_ok E v0 ?_ mm_fu 0 0 M
  · intro v1 M_3
    refine mm_iload_n 0 dX12_bits_24 rfl ?_
    exact mm_iret dX12_bits_25 rfl
def f_R_isBetter (v0 : Int32) (v1 : Int32) (v2 : Int32) (v3 : Int32) (M : mm_M) : Option (Bool × mm_M) := mm_jn (fun (M_1 : mm_M) => some (true, M_1)) fun j21 => if v3 < v1 then j21 M else if v1 = v3 then mm_bd (f_R_bits v0 M) fun r_2 M_3 => mm_bd (f_R_bits v2 M_3) fun r_4 M_5 => if r_4 ≤ r_2 then some (false, M_5) else j21 M_5 else some (false, M)
set_option maxHeartbeats 4000000 in
theorem c_R_isBetter (E : mm_E) (v0 : Int32) (v1 : Int32) (v2 : Int32) (v3 : Int32) (M : mm_M) : ∀ (r : Bool) (M2 : mm_M), f_R_isBetter v0 v1 v2 v3 M = some (r, M2) → mm_P E Y_X12_isBetter 2 [.int v0, .int v1, .int v2, .int v3] M (some (.int (mm_b r))) M2 := by
  refine mm_entry (em := (fun x : Bool => some (.int (mm_b x)))) (by decide +kernel) (Nat.le_of_ble_eq_true rfl) ?_
  show mm_G _ E _ _ 0 [(0, .int v0), (1, .int v1), (2, .int v2), (3, .int v3)] [] M _
  unfold f_R_isBetter
  refine mm_iload_n 1 dX12_isBetter_0 rfl ?_
  refine mm_iload_n 3 dX12_isBetter_1 rfl ?_
  refine mm_jnP (P := fun j => ∀ (M : mm_M), mm_G (fun x : Bool => some (.int (mm_b x))) E Y_X12_isBetter 2 21 [] [] M (j M)) ?_ (fun j21 hj21 => ?_)
  · intro M_1
    refine mm_iconst (v := 1) dX12_isBetter_21 rfl ?_
    refine mm_goto 26 dX12_isBetter_22 rfl ?_
    exact mm_zret (b := true) dX12_isBetter_26 rfl
  refine mm_icmp_gt 21 dX12_isBetter_2 rfl ?_ ?_
  · refine mm_wk [] rfl ?_
    exact hj21  M
  · refine mm_iload_n 1 dX12_isBetter_5 rfl ?_
    refine mm_iload_n 3 dX12_isBetter_6 rfl ?_
    refine mm_icmp_ne 25 dX12_isBetter_7 rfl ?_ ?_
    · refine mm_iconst (v := 0) dX12_isBetter_25 rfl ?_
      exact mm_zret (b := false) dX12_isBetter_26 rfl
    · refine mm_iload_n 0 dX12_isBetter_10 rfl ?_
      refine mm_callSi (as := [.int v0]) (st := []) (c_R_bits E v0 M) dX12_isBetter_11 mz_X12_bits lk_RX12_367 sm_X12_bits rfl ⟨Nat.le_of_ble_eq_true rfl, Nat.le_of_ble_eq_true rfl⟩ (Nat.le_of_ble_eq_true rfl) (fun r_2 M_3 => ?_)
      refine mm_iload_n 2 dX12_isBetter_14 rfl ?_
      refine mm_callSi (as := [.int v2]) (st := [.int r_2]) (c_R_bits E v2 M_3) dX12_isBetter_15 mz_X12_bits lk_RX12_367 sm_X12_bits rfl ⟨Nat.le_of_ble_eq_true rfl, Nat.le_of_ble_eq_true rfl⟩ (Nat.le_of_ble_eq_true rfl) (fun r_4 M_5 => ?_)
      refine mm_icmp_ge 25 dX12_isBetter_18 rfl ?_ ?_
      · refine mm_iconst (v := 0) dX12_isBetter_25 rfl ?_
        exact mm_zret (b := false) dX12_isBetter_26 rfl
      · refine mm_wk [] rfl ?_
        exact hj21  M_5
def lp_R_bestOf_4 (v1 : Int32) (k54 : Int32 → mm_M → Option (Int32 × mm_M)) : Nat → Int32 → Int32 → mm_M → Option (Int32 × mm_M)
  | 0, _, _, _ => none
  | n + 1, v2, v3, M => if 1024 ≤ v3 then k54 v2 M else mm_jn (fun (v2 : Int32) (v3 : Int32) (M_1 : mm_M) => mm_let (v3 + 1) fun v3_2 => lp_R_bestOf_4 v1 k54 n v2 v3_2 M_1) fun j48 => if v3 &&& (v1 ^^^ (-1)) = 0 then mm_bd (f_R_pricesOf v3 M) fun r_3 M_4 => mm_bd (f_R_pricesOf v2 M_4) fun r_5 M_6 => mm_bd (f_R_isBetter v3 r_3 v2 r_5 M_6) fun b_7 M_8 => if b_7 = true then mm_bd (f_R_canBe v3 true M_8) fun b_9 M_10 => if b_9 = true then j48 v3 v3 M_10 else j48 v2 v3 M_10 else j48 v2 v3 M_8 else j48 v2 v3 M
set_option maxHeartbeats 4000000 in
theorem lp_R_bestOf_4_ok (E : mm_E) (v1 : Int32) {k54 : Int32 → mm_M → Option (Int32 × mm_M)} (hk54 : ∀ (v2 : Int32) (M : mm_M), mm_G (fun x : Int32 => some (.int x)) E Y_X12_bestOf 5 54 [(2, .int v2)] [] M (k54 v2 M)) : ∀ (n : Nat) (v2 : Int32) (v3 : Int32) (M : mm_M), mm_G (fun x : Int32 => some (.int x)) E Y_X12_bestOf 5 4 [(0, .ref 97), (1, .int v1), (2, .int v2), (3, .int v3)] [] M (lp_R_bestOf_4 v1 k54 n v2 v3 M) := by
  intro n
  induction n with
  | zero => intro v2 v3 M r M2 he; cases he
  | succ n ih =>
    intro v2 v3 M
    rw [lp_R_bestOf_4]
    refine mm_iload_n 3 dX12_bestOf_4 rfl ?_
    refine mm_sipush (v := 1024) dX12_bestOf_5 rfl ?_
    refine mm_icmp_ge 54 dX12_bestOf_8 rfl ?_ ?_
    · refine mm_wk [2] rfl ?_
      exact hk54 v2 M
    · refine mm_iload_n 3 dX12_bestOf_11 rfl ?_
      refine mm_iload_n 1 dX12_bestOf_12 rfl ?_
      refine mm_iconst (v := (-1)) dX12_bestOf_13 rfl ?_
      refine mm_ixor dX12_bestOf_14 ?_
      refine mm_iand dX12_bestOf_15 ?_
      refine mm_jnP (P := fun j => ∀ (v2 : Int32) (v3 : Int32) (M : mm_M), mm_G (fun x : Int32 => some (.int x)) E Y_X12_bestOf 5 48 [(0, .ref 97), (1, .int v1), (2, .int v2), (3, .int v3)] [] M (j v2 v3 M)) ?_ (fun j48 hj48 => ?_)
      · intro v2 v3 M_1
        refine mm_iincN 3 [1, 2, 3, 0] (v := v3 + 1) (lv2 := fun v3_2 => [(0, .ref 97), (1, .int v1), (2, .int v2), (3, .int v3_2)]) dX12_bestOf_48 rfl rfl (by decide) (fun _ => rfl) (fun v3_2 => ?_)
        refine mm_goto 4 dX12_bestOf_51 rfl ?_
        exact ih v2 v3_2 M_1
      refine mm_if_ne 48 dX12_bestOf_16 rfl ?_ ?_
      · exact hj48 v2 v3 M
      · refine mm_iload_n 3 dX12_bestOf_19 rfl ?_
        refine mm_aload_n 0 dX12_bestOf_20 rfl ?_
        refine mm_iload_n 3 dX12_bestOf_21 rfl ?_
        refine mm_callVi (as := [.int v3]) (st := [.int v3]) (c_R_pricesOf E v3 M) dX12_bestOf_22 mz_X12_pricesOf lk_RX12_370 im_X12_pricesOf se_X12_pricesOf lo_97 rfl rfl rfl ⟨Nat.le_of_ble_eq_true rfl, Nat.le_of_ble_eq_true rfl⟩ (Nat.le_of_ble_eq_true rfl) (fun r_3 M_4 => ?_)
        refine mm_iload_n 2 dX12_bestOf_25 rfl ?_
        refine mm_aload_n 0 dX12_bestOf_26 rfl ?_
        refine mm_iload_n 2 dX12_bestOf_27 rfl ?_
        refine mm_callVi (as := [.int v2]) (st := [.int v2, .int r_3, .int v3]) (c_R_pricesOf E v2 M_4) dX12_bestOf_28 mz_X12_pricesOf lk_RX12_370 im_X12_pricesOf se_X12_pricesOf lo_97 rfl rfl rfl ⟨Nat.le_of_ble_eq_true rfl, Nat.le_of_ble_eq_true rfl⟩ (Nat.le_of_ble_eq_true rfl) (fun r_5 M_6 => ?_)
        refine mm_callSz (as := [.int v3, .int r_3, .int v2, .int r_5]) (st := []) (c_R_isBetter E v3 r_3 v2 r_5 M_6) dX12_bestOf_31 mz_X12_isBetter lk_RX12_373 sm_X12_isBetter rfl ⟨Nat.le_of_ble_eq_true rfl, Nat.le_of_ble_eq_true rfl⟩ (Nat.le_of_ble_eq_true rfl) (fun b_7 M_8 => ?_)
        refine mm_if_eq_b 48 dX12_bestOf_34 rfl ?_ ?_
        · exact hj48 v2 v3 M_8
        · refine mm_aload_n 0 dX12_bestOf_37 rfl ?_
          refine mm_iload_n 3 dX12_bestOf_38 rfl ?_
          refine mm_iconst (v := 1) dX12_bestOf_39 rfl ?_
          refine mm_callVz (as := [.int v3, .int (mm_b true)]) (st := []) (c_R_canBe E v3 true M_8) dX12_bestOf_40 mz_X12_canBe lk_RX12_363 im_X12_canBe se_X12_canBe lo_97 rfl rfl rfl ⟨Nat.le_of_ble_eq_true rfl, Nat.le_of_ble_eq_true rfl⟩ (Nat.le_of_ble_eq_true rfl) (fun b_9 M_10 => ?_)
          refine mm_if_eq_b 48 dX12_bestOf_43 rfl ?_ ?_
          · exact hj48 v2 v3 M_10
          · refine mm_iload_n 3 dX12_bestOf_46 rfl ?_
            refine mm_istore_n [1, 2, 0, 3] (lv2 := [(0, .ref 97), (1, .int v1), (2, .int v3), (3, .int v3)]) dX12_bestOf_47 (by decide) rfl ?_
            exact hj48 v3 v3 M_10
def f_R_bestOf (v1 : Int32) (M : mm_M) : Option (Int32 × mm_M) := lp_R_bestOf_4 v1 (fun (v2 : Int32) (M_11 : mm_M) => some (v2, M_11)) mm_fu 0 1 M
set_option maxHeartbeats 4000000 in
theorem c_R_bestOf (E : mm_E) (v1 : Int32) (M : mm_M) : ∀ (r : Int32) (M2 : mm_M), f_R_bestOf v1 M = some (r, M2) → mm_P E Y_X12_bestOf 5 [.ref 97, .int v1] M (some (.int r)) M2 := by
  refine mm_entry (em := (fun x : Int32 => some (.int x))) (by decide +kernel) (Nat.le_of_ble_eq_true rfl) ?_
  show mm_G _ E _ _ 0 [(0, .ref 97), (1, .int v1)] [] M _
  unfold f_R_bestOf
  refine mm_iconst (v := 0) dX12_bestOf_0 rfl ?_
  refine mm_istore_n [1, 2, 0] (lv2 := [(0, .ref 97), (1, .int v1), (2, .int 0)]) dX12_bestOf_1 (by decide) rfl ?_
  refine mm_iconst (v := 1) dX12_bestOf_2 rfl ?_
  refine mm_istore_n [1, 2, 3, 0] (lv2 := [(0, .ref 97), (1, .int v1), (2, .int 0), (3, .int 1)]) dX12_bestOf_3 (by decide) rfl ?_
  refine lp_R_bestOf_4_ok E v1 ?_ mm_fu 0 1 M
  · intro v2 M_11
    refine mm_iload_n 0 dX12_bestOf_54 rfl ?_
    exact mm_iret dX12_bestOf_55 rfl
def f_R_best (v1 : Int32) (M : mm_M) : Option (Int32 × mm_M) := mm_bd (f_R_in v1 0 1 M) fun b_1 M_2 => if b_1 = true then mm_bd (f_R_bestOf (M_2.1 97 12) M_2) fun r_3 M_4 => if v1 = 0 then mm_bd (f_R_pricesOf r_3 M_4) fun r_5 M_6 => some (r_5, M_6) else some (r_3, M_4) else some ((-1), M_2)
set_option maxHeartbeats 4000000 in
theorem c_R_best (E : mm_E) (v1 : Int32) (M : mm_M) : ∀ (r : Int32) (M2 : mm_M), f_R_best v1 M = some (r, M2) → mm_P E Y_X12_best 6 [.ref 97, .int v1] M (some (.int r)) M2 := by
  refine mm_entry (em := (fun x : Int32 => some (.int x))) (by decide +kernel) (Nat.le_of_ble_eq_true rfl) ?_
  show mm_G _ E _ _ 0 [(0, .ref 97), (1, .int v1)] [] M _
  unfold f_R_best
  refine mm_iload_n 1 dX12_best_0 rfl ?_
  refine mm_iconst (v := 0) dX12_best_1 rfl ?_
  refine mm_iconst (v := 1) dX12_best_2 rfl ?_
  refine mm_callSz (as := [.int v1, .int 0, .int 1]) (st := []) (c_R_in E v1 0 1 M) dX12_best_3 mz_X12_in lk_RX12_169 sm_X12_in rfl ⟨Nat.le_of_ble_eq_true rfl, Nat.le_of_ble_eq_true rfl⟩ (Nat.le_of_ble_eq_true rfl) (fun b_1 M_2 => ?_)
  refine mm_if_ne_b 11 dX12_best_6 rfl ?_ ?_
  · refine mm_aload_n 0 dX12_best_11 rfl ?_
    refine mm_aload_n 0 dX12_best_12 rfl ?_
    refine mm_getI dX12_best_13 fl_RX12_217 lo_97 rfl ?_
    refine mm_callVi (as := [.int (M_2.1 97 12)]) (st := []) (c_R_bestOf E (M_2.1 97 12) M_2) dX12_best_16 mz_X12_bestOf lk_RX12_377 im_X12_bestOf se_X12_bestOf lo_97 rfl rfl rfl ⟨Nat.le_of_ble_eq_true rfl, Nat.le_of_ble_eq_true rfl⟩ (Nat.le_of_ble_eq_true rfl) (fun r_3 M_4 => ?_)
    refine mm_istore_n [1, 2, 0] (lv2 := [(0, .ref 97), (1, .int v1), (2, .int r_3)]) dX12_best_19 (by decide) rfl ?_
    refine mm_iload_n 1 dX12_best_20 rfl ?_
    refine mm_if_ne 32 dX12_best_21 rfl ?_ ?_
    · refine mm_iload_n 2 dX12_best_32 rfl ?_
      exact mm_iret dX12_best_33 rfl
    · refine mm_aload_n 0 dX12_best_24 rfl ?_
      refine mm_iload_n 2 dX12_best_25 rfl ?_
      refine mm_callVi (as := [.int r_3]) (st := []) (c_R_pricesOf E r_3 M_4) dX12_best_26 mz_X12_pricesOf lk_RX12_370 im_X12_pricesOf se_X12_pricesOf lo_97 rfl rfl rfl ⟨Nat.le_of_ble_eq_true rfl, Nat.le_of_ble_eq_true rfl⟩ (Nat.le_of_ble_eq_true rfl) (fun r_5 M_6 => ?_)
      refine mm_goto 33 dX12_best_29 rfl ?_
      exact mm_iret dX12_best_33 rfl
  · refine mm_iconst (v := (-1)) dX12_best_9 rfl ?_
    exact mm_iret dX12_best_10 rfl
def lp_R_smallest_4 (k54 : Int32 → mm_M → Option (Int32 × mm_M)) : Nat → Int32 → Int32 → mm_M → Option (Int32 × mm_M)
  | 0, _, _, _ => none
  | n + 1, v1, v2, M => if 1024 ≤ v2 then k54 v1 M else mm_jn (fun (v1 : Int32) (v2 : Int32) (M_1 : mm_M) => mm_let (v2 + 1) fun v2_2 => lp_R_smallest_4 k54 n v1 v2_2 M_1) fun j48 => if v2 &&& ((M.1 97 12) ^^^ (-1)) = 0 then mm_jn (fun (v1 : Int32) (v2 : Int32) (M_3 : mm_M) => mm_bd (f_R_canBe v2 true M_3) fun b_4 M_5 => if b_4 = true then j48 v1 v2 M_5 else j48 v2 v2 M_5) fun j37 => if v1 = 0 then j37 v1 v2 M else mm_bd (f_R_bits v2 M) fun r_6 M_7 => mm_bd (f_R_bits v1 M_7) fun r_8 M_9 => if r_8 ≤ r_6 then j48 v1 v2 M_9 else j37 v1 v2 M_9 else j48 v1 v2 M
set_option maxHeartbeats 4000000 in
theorem lp_R_smallest_4_ok (E : mm_E) {k54 : Int32 → mm_M → Option (Int32 × mm_M)} (hk54 : ∀ (v1 : Int32) (M : mm_M), mm_G (fun x : Int32 => some (.int x)) E Y_X12_smallest 5 54 [(1, .int v1)] [] M (k54 v1 M)) : ∀ (n : Nat) (v1 : Int32) (v2 : Int32) (M : mm_M), mm_G (fun x : Int32 => some (.int x)) E Y_X12_smallest 5 4 [(0, .ref 97), (1, .int v1), (2, .int v2)] [] M (lp_R_smallest_4 k54 n v1 v2 M) := by
  intro n
  induction n with
  | zero => intro v1 v2 M r M2 he; cases he
  | succ n ih =>
    intro v1 v2 M
    rw [lp_R_smallest_4]
    refine mm_iload_n 2 dX12_smallest_4 rfl ?_
    refine mm_sipush (v := 1024) dX12_smallest_5 rfl ?_
    refine mm_icmp_ge 54 dX12_smallest_8 rfl ?_ ?_
    · refine mm_wk [1] rfl ?_
      exact hk54 v1 M
    · refine mm_iload_n 2 dX12_smallest_11 rfl ?_
      refine mm_aload_n 0 dX12_smallest_12 rfl ?_
      refine mm_getI dX12_smallest_13 fl_RX12_217 lo_97 rfl ?_
      refine mm_iconst (v := (-1)) dX12_smallest_16 rfl ?_
      refine mm_ixor dX12_smallest_17 ?_
      refine mm_iand dX12_smallest_18 ?_
      refine mm_jnP (P := fun j => ∀ (v1 : Int32) (v2 : Int32) (M : mm_M), mm_G (fun x : Int32 => some (.int x)) E Y_X12_smallest 5 48 [(0, .ref 97), (1, .int v1), (2, .int v2)] [] M (j v1 v2 M)) ?_ (fun j48 hj48 => ?_)
      · intro v1 v2 M_1
        refine mm_iincN 2 [1, 2, 0] (v := v2 + 1) (lv2 := fun v2_2 => [(0, .ref 97), (1, .int v1), (2, .int v2_2)]) dX12_smallest_48 rfl rfl (by decide) (fun _ => rfl) (fun v2_2 => ?_)
        refine mm_goto 4 dX12_smallest_51 rfl ?_
        exact ih v1 v2_2 M_1
      refine mm_if_ne 48 dX12_smallest_19 rfl ?_ ?_
      · exact hj48 v1 v2 M
      · refine mm_iload_n 1 dX12_smallest_22 rfl ?_
        refine mm_jnP (P := fun j => ∀ (v1 : Int32) (v2 : Int32) (M : mm_M), mm_G (fun x : Int32 => some (.int x)) E Y_X12_smallest 5 37 [(0, .ref 97), (1, .int v1), (2, .int v2)] [] M (j v1 v2 M)) ?_ (fun j37 hj37 => ?_)
        · intro v1 v2 M_3
          refine mm_aload_n 0 dX12_smallest_37 rfl ?_
          refine mm_iload_n 2 dX12_smallest_38 rfl ?_
          refine mm_iconst (v := 1) dX12_smallest_39 rfl ?_
          refine mm_callVz (as := [.int v2, .int (mm_b true)]) (st := []) (c_R_canBe E v2 true M_3) dX12_smallest_40 mz_X12_canBe lk_RX12_363 im_X12_canBe se_X12_canBe lo_97 rfl rfl rfl ⟨Nat.le_of_ble_eq_true rfl, Nat.le_of_ble_eq_true rfl⟩ (Nat.le_of_ble_eq_true rfl) (fun b_4 M_5 => ?_)
          refine mm_if_ne_b 48 dX12_smallest_43 rfl ?_ ?_
          · exact hj48 v1 v2 M_5
          · refine mm_iload_n 2 dX12_smallest_46 rfl ?_
            refine mm_istore_n [1, 0, 2] (lv2 := [(0, .ref 97), (1, .int v2), (2, .int v2)]) dX12_smallest_47 (by decide) rfl ?_
            exact hj48 v2 v2 M_5
        refine mm_if_eq 37 dX12_smallest_23 rfl ?_ ?_
        · exact hj37 v1 v2 M
        · refine mm_iload_n 2 dX12_smallest_26 rfl ?_
          refine mm_callSi (as := [.int v2]) (st := []) (c_R_bits E v2 M) dX12_smallest_27 mz_X12_bits lk_RX12_367 sm_X12_bits rfl ⟨Nat.le_of_ble_eq_true rfl, Nat.le_of_ble_eq_true rfl⟩ (Nat.le_of_ble_eq_true rfl) (fun r_6 M_7 => ?_)
          refine mm_iload_n 1 dX12_smallest_30 rfl ?_
          refine mm_callSi (as := [.int v1]) (st := [.int r_6]) (c_R_bits E v1 M_7) dX12_smallest_31 mz_X12_bits lk_RX12_367 sm_X12_bits rfl ⟨Nat.le_of_ble_eq_true rfl, Nat.le_of_ble_eq_true rfl⟩ (Nat.le_of_ble_eq_true rfl) (fun r_8 M_9 => ?_)
          refine mm_icmp_ge 48 dX12_smallest_34 rfl ?_ ?_
          · exact hj48 v1 v2 M_9
          · exact hj37 v1 v2 M_9
def f_R_smallest (M : mm_M) : Option (Int32 × mm_M) := lp_R_smallest_4 (fun (v1 : Int32) (M_10 : mm_M) => some (v1, M_10)) mm_fu 0 1 M
set_option maxHeartbeats 4000000 in
theorem c_R_smallest (E : mm_E) (M : mm_M) : ∀ (r : Int32) (M2 : mm_M), f_R_smallest M = some (r, M2) → mm_P E Y_X12_smallest 5 [.ref 97] M (some (.int r)) M2 := by
  refine mm_entry (em := (fun x : Int32 => some (.int x))) (by decide +kernel) (Nat.le_of_ble_eq_true rfl) ?_
  show mm_G _ E _ _ 0 [(0, .ref 97)] [] M _
  unfold f_R_smallest
  refine mm_iconst (v := 0) dX12_smallest_0 rfl ?_
  refine mm_istore_n [1, 0] (lv2 := [(0, .ref 97), (1, .int 0)]) dX12_smallest_1 (by decide) rfl ?_
  refine mm_iconst (v := 1) dX12_smallest_2 rfl ?_
  refine mm_istore_n [1, 2, 0] (lv2 := [(0, .ref 97), (1, .int 0), (2, .int 1)]) dX12_smallest_3 (by decide) rfl ?_
  refine lp_R_smallest_4_ok E ?_ mm_fu 0 1 M
  · intro v1 M_10
    refine mm_iload_n 0 dX12_smallest_54 rfl ?_
    exact mm_iret dX12_smallest_55 rfl
def f_R_costs (v1 : Int32) (M : mm_M) : Option (Int32 × mm_M) := mm_bd (f_R_isStay v1 M) fun b_1 M_2 => if b_1 = true then mm_bd (f_R_bestOf (M_2.1 97 12) M_2) fun r_3 M_4 => mm_bd (f_R_bestOf ((M_4.1 97 12) &&& ((1 <<< (v1 &&& 31)) ^^^ (-1))) M_4) fun r_5 M_6 => mm_bd (f_R_pricesOf r_5 M_6) fun r_7 M_8 => mm_bd (f_R_pricesOf r_3 M_8) fun r_9 M_10 => mm_bd (f_R_has r_3 v1 M_10) fun b_11 M_12 => if b_11 = true then if mm_in v1 (mm_al 107) = true then some (r_7 - (r_9 - (M_12.2.1 107 v1.toNatClampNeg)), M_12) else none else some (r_7 - (r_9 - 0), M_12) else some ((-1000000), M_2)
set_option maxHeartbeats 4000000 in
theorem c_R_costs (E : mm_E) (v1 : Int32) (M : mm_M) : ∀ (r : Int32) (M2 : mm_M), f_R_costs v1 M = some (r, M2) → mm_P E Y_X12_costs 6 [.ref 97, .int v1] M (some (.int r)) M2 := by
  refine mm_entry (em := (fun x : Int32 => some (.int x))) (by decide +kernel) (Nat.le_of_ble_eq_true rfl) ?_
  show mm_G _ E _ _ 0 [(0, .ref 97), (1, .int v1)] [] M _
  unfold f_R_costs
  refine mm_aload_n 0 dX12_costs_0 rfl ?_
  refine mm_iload_n 1 dX12_costs_1 rfl ?_
  refine mm_callVz (as := [.int v1]) (st := []) (c_R_isStay E v1 M) dX12_costs_2 mz_X12_isStay lk_RX12_220 im_X12_isStay se_X12_isStay lo_97 rfl rfl rfl ⟨Nat.le_of_ble_eq_true rfl, Nat.le_of_ble_eq_true rfl⟩ (Nat.le_of_ble_eq_true rfl) (fun b_1 M_2 => ?_)
  refine mm_if_ne_b 12 dX12_costs_5 rfl ?_ ?_
  · refine mm_aload_n 0 dX12_costs_12 rfl ?_
    refine mm_aload_n 0 dX12_costs_13 rfl ?_
    refine mm_getI dX12_costs_14 fl_RX12_217 lo_97 rfl ?_
    refine mm_callVi (as := [.int (M_2.1 97 12)]) (st := []) (c_R_bestOf E (M_2.1 97 12) M_2) dX12_costs_17 mz_X12_bestOf lk_RX12_377 im_X12_bestOf se_X12_bestOf lo_97 rfl rfl rfl ⟨Nat.le_of_ble_eq_true rfl, Nat.le_of_ble_eq_true rfl⟩ (Nat.le_of_ble_eq_true rfl) (fun r_3 M_4 => ?_)
    refine mm_istore_n [1, 2, 0] (lv2 := [(0, .ref 97), (1, .int v1), (2, .int r_3)]) dX12_costs_20 (by decide) rfl ?_
    refine mm_aload_n 0 dX12_costs_21 rfl ?_
    refine mm_aload_n 0 dX12_costs_22 rfl ?_
    refine mm_getI dX12_costs_23 fl_RX12_217 lo_97 rfl ?_
    refine mm_iconst (v := 1) dX12_costs_26 rfl ?_
    refine mm_iload_n 1 dX12_costs_27 rfl ?_
    refine mm_ishl dX12_costs_28 ?_
    refine mm_iconst (v := (-1)) dX12_costs_29 rfl ?_
    refine mm_ixor dX12_costs_30 ?_
    refine mm_iand dX12_costs_31 ?_
    refine mm_callVi (as := [.int ((M_4.1 97 12) &&& ((1 <<< (v1 &&& 31)) ^^^ (-1)))]) (st := []) (c_R_bestOf E ((M_4.1 97 12) &&& ((1 <<< (v1 &&& 31)) ^^^ (-1))) M_4) dX12_costs_32 mz_X12_bestOf lk_RX12_377 im_X12_bestOf se_X12_bestOf lo_97 rfl rfl rfl ⟨Nat.le_of_ble_eq_true rfl, Nat.le_of_ble_eq_true rfl⟩ (Nat.le_of_ble_eq_true rfl) (fun r_5 M_6 => ?_)
    refine mm_istore_n [1, 2, 3, 0] (lv2 := [(0, .ref 97), (1, .int v1), (2, .int r_3), (3, .int r_5)]) dX12_costs_35 (by decide) rfl ?_
    refine mm_aload_n 0 dX12_costs_36 rfl ?_
    refine mm_iload_n 3 dX12_costs_37 rfl ?_
    refine mm_callVi (as := [.int r_5]) (st := []) (c_R_pricesOf E r_5 M_6) dX12_costs_38 mz_X12_pricesOf lk_RX12_370 im_X12_pricesOf se_X12_pricesOf lo_97 rfl rfl rfl ⟨Nat.le_of_ble_eq_true rfl, Nat.le_of_ble_eq_true rfl⟩ (Nat.le_of_ble_eq_true rfl) (fun r_7 M_8 => ?_)
    refine mm_aload_n 0 dX12_costs_41 rfl ?_
    refine mm_iload_n 2 dX12_costs_42 rfl ?_
    refine mm_callVi (as := [.int r_3]) (st := [.int r_7]) (c_R_pricesOf E r_3 M_8) dX12_costs_43 mz_X12_pricesOf lk_RX12_370 im_X12_pricesOf se_X12_pricesOf lo_97 rfl rfl rfl ⟨Nat.le_of_ble_eq_true rfl, Nat.le_of_ble_eq_true rfl⟩ (Nat.le_of_ble_eq_true rfl) (fun r_9 M_10 => ?_)
    refine mm_iload_n 2 dX12_costs_46 rfl ?_
    refine mm_iload_n 1 dX12_costs_47 rfl ?_
    refine mm_callSz (as := [.int r_3, .int v1]) (st := [.int r_9, .int r_7]) (c_R_has E r_3 v1 M_10) dX12_costs_48 mz_X12_has lk_RX12_199 sm_X12_has rfl ⟨Nat.le_of_ble_eq_true rfl, Nat.le_of_ble_eq_true rfl⟩ (Nat.le_of_ble_eq_true rfl) (fun b_11 M_12 => ?_)
    refine mm_if_eq_b 63 dX12_costs_51 rfl ?_ ?_
    · refine mm_iconst (v := 0) dX12_costs_63 rfl ?_
      refine mm_isub dX12_costs_64 ?_
      refine mm_isub dX12_costs_65 ?_
      exact mm_iret dX12_costs_66 rfl
    · refine mm_aload_n 0 dX12_costs_54 rfl ?_
      refine mm_getR 107 dX12_costs_55 fl_RX12_38 lo_97 rfl ?_
      refine mm_iload_n 1 dX12_costs_58 rfl ?_
      refine mm_iaload dX12_costs_59 ?_
      refine mm_goto 64 dX12_costs_60 rfl ?_
      refine mm_isub dX12_costs_64 ?_
      refine mm_isub dX12_costs_65 ?_
      exact mm_iret dX12_costs_66 rfl
  · refine mm_ldcw dX12_costs_8 ct_RX12_380 ?_
    exact mm_iret dX12_costs_11 rfl
def lp_R_takesRooms_54 (v1 : Int32) (v2 : Int32) (v3 : Int32) (v4 : Int32) (k87 : mm_M → Option (Bool × mm_M)) (k114 : Int32 → mm_M → Option (Bool × mm_M)) : Nat → Int32 → mm_M → Option (Bool × mm_M)
  | 0, _, _ => none
  | n + 1, v6, M => if v6 ≤ 0 then k114 v6 M else if mm_in (v6 - 1) (mm_al 129) = true then if M.2.1 129 (v6 - 1).toNatClampNeg < v4 then k114 v6 M else if mm_in (v6 - 1) (mm_al 129) = true then if M.2.1 129 (v6 - 1).toNatClampNeg = v4 then k87 M else if mm_in (v6 - 1) (mm_al 129) = true then if mm_in v6 (mm_al 129) = true then mm_let (mm_setA M 129 (v6.toNatClampNeg) (M.2.1 129 (v6 - 1).toNatClampNeg)) fun M_7 => mm_let (v6 - 1) fun v6_8 => lp_R_takesRooms_54 v1 v2 v3 v4 k87 k114 n v6_8 M_7 else none else none else none else none
set_option maxHeartbeats 4000000 in
theorem lp_R_takesRooms_54_ok (E : mm_E) (v1 : Int32) (v2 : Int32) (v3 : Int32) (v4 : Int32) {k87 : mm_M → Option (Bool × mm_M)} {k114 : Int32 → mm_M → Option (Bool × mm_M)} (hk87 : ∀ (M : mm_M), mm_G (fun x : Bool => some (.int (mm_b x))) E Y_X12_takesRooms 4 87 [] [] M (k87 M)) (hk114 : ∀ (v6 : Int32) (M : mm_M), mm_G (fun x : Bool => some (.int (mm_b x))) E Y_X12_takesRooms 4 114 [(0, .ref 97), (1, .int v1), (2, .int v2), (3, .int v3), (4, .int v4), (6, .int v6)] [] M (k114 v6 M)) : ∀ (n : Nat) (v6 : Int32) (M : mm_M), mm_G (fun x : Bool => some (.int (mm_b x))) E Y_X12_takesRooms 4 54 [(0, .ref 97), (1, .int v1), (2, .int v2), (3, .int v3), (4, .int v4), (6, .int v6)] [] M (lp_R_takesRooms_54 v1 v2 v3 v4 k87 k114 n v6 M) := by
  intro n
  induction n with
  | zero => intro v6 M r M2 he; cases he
  | succ n ih =>
    intro v6 M
    rw [lp_R_takesRooms_54]
    refine mm_iload 5 dX12_takesRooms_54 rfl ?_
    refine mm_if_le 114 dX12_takesRooms_56 rfl ?_ ?_
    · exact hk114 v6 M
    · refine mm_aload_n 0 dX12_takesRooms_59 rfl ?_
      refine mm_getR 129 dX12_takesRooms_60 fl_RX12_104 lo_97 rfl ?_
      refine mm_iload 5 dX12_takesRooms_63 rfl ?_
      refine mm_iconst (v := 1) dX12_takesRooms_65 rfl ?_
      refine mm_isub dX12_takesRooms_66 ?_
      refine mm_iaload dX12_takesRooms_67 ?_
      refine mm_iload 4 dX12_takesRooms_68 rfl ?_
      refine mm_icmp_lt 114 dX12_takesRooms_70 rfl ?_ ?_
      · exact hk114 v6 M
      · refine mm_aload_n 0 dX12_takesRooms_73 rfl ?_
        refine mm_getR 129 dX12_takesRooms_74 fl_RX12_104 lo_97 rfl ?_
        refine mm_iload 5 dX12_takesRooms_77 rfl ?_
        refine mm_iconst (v := 1) dX12_takesRooms_79 rfl ?_
        refine mm_isub dX12_takesRooms_80 ?_
        refine mm_iaload dX12_takesRooms_81 ?_
        refine mm_iload 4 dX12_takesRooms_82 rfl ?_
        refine mm_icmp_ne 89 dX12_takesRooms_84 rfl ?_ ?_
        · refine mm_aload_n 0 dX12_takesRooms_89 rfl ?_
          refine mm_getR 129 dX12_takesRooms_90 fl_RX12_104 lo_97 rfl ?_
          refine mm_iload 5 dX12_takesRooms_93 rfl ?_
          refine mm_aload_n 0 dX12_takesRooms_95 rfl ?_
          refine mm_getR 129 dX12_takesRooms_96 fl_RX12_104 lo_97 rfl ?_
          refine mm_iload 5 dX12_takesRooms_99 rfl ?_
          refine mm_iconst (v := 1) dX12_takesRooms_101 rfl ?_
          refine mm_isub dX12_takesRooms_102 ?_
          refine mm_iaload dX12_takesRooms_103 ?_
          refine mm_iastore dX12_takesRooms_104 ?_
          refine mm_nm_M (fun M_7 => ?_)
          refine mm_iload 5 dX12_takesRooms_105 rfl ?_
          refine mm_iconst (v := 1) dX12_takesRooms_107 rfl ?_
          refine mm_isub dX12_takesRooms_108 ?_
          refine mm_nm_int (fun v6_8 => ?_)
          refine mm_istore [1, 2, 3, 4, 5, 0] (lv2 := [(0, .ref 97), (1, .int v1), (2, .int v2), (3, .int v3), (4, .int v4), (6, .int v6_8)]) dX12_takesRooms_109 (by decide) rfl ?_
          refine mm_goto 54 dX12_takesRooms_111 rfl ?_
          exact ih v6_8 M_7
        · refine mm_wk [] rfl ?_
          exact hk87  M
def lp_R_takesRooms_2 (v1 : Int32) (v2 : Int32) (k24 : mm_M → Option (Bool × mm_M)) (k49 : mm_M → Option (Bool × mm_M)) (k87 : mm_M → Option (Bool × mm_M)) (k129 : mm_M → Option (Bool × mm_M)) : Nat → Int32 → mm_M → Option (Bool × mm_M)
  | 0, _, _ => none
  | n + 1, v3, M => if v2 ≤ v3 then k129 M else if mm_in v3 (mm_bl 98) = true then mm_let (M.2.1 98 v3.toNatClampNeg) fun v4_1 => mm_bd (f_R_isRoom v4_1 M) fun b_2 M_3 => if b_2 = true then mm_bd (f_R_stayIn v4_1 M_3) fun r_4 M_5 => mm_jn (fun (v3 : Int32) (v4 : Int32) (M_6 : mm_M) => lp_R_takesRooms_54 v1 v2 v3 v4 (fun (M_9 : mm_M) => k87 M_9) (fun (v6 : Int32) (M_10 : mm_M) => if mm_in v6 (mm_al 129) = true then mm_let (mm_setA M_10 129 (v6.toNatClampNeg) v4) fun M_11 => mm_let (v3 + 1) fun v3_12 => lp_R_takesRooms_2 v1 v2 k24 k49 k87 k129 n v3_12 M_11 else none) mm_fu v3 M_6) fun j51 => if r_4 = (-1) then j51 v3 v4_1 M_5 else mm_bd (f_R_has v1 r_4 M_5) fun b_13 M_14 => if b_13 = true then j51 v3 v4_1 M_14 else k49 M_14 else k24 M_3 else none
set_option maxHeartbeats 4000000 in
theorem lp_R_takesRooms_2_ok (E : mm_E) (v1 : Int32) (v2 : Int32) {k24 : mm_M → Option (Bool × mm_M)} {k49 : mm_M → Option (Bool × mm_M)} {k87 : mm_M → Option (Bool × mm_M)} {k129 : mm_M → Option (Bool × mm_M)} (hk24 : ∀ (M : mm_M), mm_G (fun x : Bool => some (.int (mm_b x))) E Y_X12_takesRooms 4 24 [] [] M (k24 M)) (hk49 : ∀ (M : mm_M), mm_G (fun x : Bool => some (.int (mm_b x))) E Y_X12_takesRooms 4 49 [] [] M (k49 M)) (hk87 : ∀ (M : mm_M), mm_G (fun x : Bool => some (.int (mm_b x))) E Y_X12_takesRooms 4 87 [] [] M (k87 M)) (hk129 : ∀ (M : mm_M), mm_G (fun x : Bool => some (.int (mm_b x))) E Y_X12_takesRooms 4 129 [] [] M (k129 M)) : ∀ (n : Nat) (v3 : Int32) (M : mm_M), mm_G (fun x : Bool => some (.int (mm_b x))) E Y_X12_takesRooms 4 2 [(0, .ref 97), (1, .int v1), (2, .int v2), (3, .int v3)] [] M (lp_R_takesRooms_2 v1 v2 k24 k49 k87 k129 n v3 M) := by
  intro n
  induction n with
  | zero => intro v3 M r M2 he; cases he
  | succ n ih =>
    intro v3 M
    rw [lp_R_takesRooms_2]
    refine mm_iload_n 3 dX12_takesRooms_2 rfl ?_
    refine mm_iload_n 2 dX12_takesRooms_3 rfl ?_
    refine mm_icmp_ge 129 dX12_takesRooms_4 rfl ?_ ?_
    · refine mm_wk [] rfl ?_
      exact hk129  M
    · refine mm_aload_n 0 dX12_takesRooms_7 rfl ?_
      refine mm_getR 98 dX12_takesRooms_8 fl_RX12_7 lo_97 rfl ?_
      refine mm_iload_n 3 dX12_takesRooms_11 rfl ?_
      refine mm_baload dX12_takesRooms_12 ?_
      refine mm_nm_int (fun v4_1 => ?_)
      refine mm_istore [1, 2, 3, 4, 0] (lv2 := [(0, .ref 97), (1, .int v1), (2, .int v2), (3, .int v3), (4, .int v4_1)]) dX12_takesRooms_13 (by decide) rfl ?_
      refine mm_aload_n 0 dX12_takesRooms_15 rfl ?_
      refine mm_iload 4 dX12_takesRooms_16 rfl ?_
      refine mm_callVz (as := [.int v4_1]) (st := []) (c_R_isRoom E v4_1 M) dX12_takesRooms_18 mz_X12_isRoom lk_RX12_223 im_X12_isRoom se_X12_isRoom lo_97 rfl rfl rfl ⟨Nat.le_of_ble_eq_true rfl, Nat.le_of_ble_eq_true rfl⟩ (Nat.le_of_ble_eq_true rfl) (fun b_2 M_3 => ?_)
      refine mm_if_ne_b 26 dX12_takesRooms_21 rfl ?_ ?_
      · refine mm_aload_n 0 dX12_takesRooms_26 rfl ?_
        refine mm_iload 4 dX12_takesRooms_27 rfl ?_
        refine mm_callVi (as := [.int v4_1]) (st := []) (c_R_stayIn E v4_1 M_3) dX12_takesRooms_29 mz_X12_stayIn lk_RX12_226 im_X12_stayIn se_X12_stayIn lo_97 rfl rfl rfl ⟨Nat.le_of_ble_eq_true rfl, Nat.le_of_ble_eq_true rfl⟩ (Nat.le_of_ble_eq_true rfl) (fun r_4 M_5 => ?_)
        refine mm_istore [1, 2, 3, 4, 5, 0] (lv2 := [(0, .ref 97), (1, .int v1), (2, .int v2), (3, .int v3), (4, .int v4_1), (5, .int r_4)]) dX12_takesRooms_32 (by decide) rfl ?_
        refine mm_iload 5 dX12_takesRooms_34 rfl ?_
        refine mm_iconst (v := (-1)) dX12_takesRooms_36 rfl ?_
        refine mm_jnP (P := fun j => ∀ (v3 : Int32) (v4 : Int32) (M : mm_M), mm_G (fun x : Bool => some (.int (mm_b x))) E Y_X12_takesRooms 4 51 [(0, .ref 97), (1, .int v1), (2, .int v2), (3, .int v3), (4, .int v4)] [] M (j v3 v4 M)) ?_ (fun j51 hj51 => ?_)
        · intro v3 v4 M_6
          refine mm_iload_n 3 dX12_takesRooms_51 rfl ?_
          refine mm_istore [1, 2, 3, 4, 5, 0] (lv2 := [(0, .ref 97), (1, .int v1), (2, .int v2), (3, .int v3), (4, .int v4), (6, .int v3)]) dX12_takesRooms_52 (by decide) rfl ?_
          refine lp_R_takesRooms_54_ok E v1 v2 v3 v4 ?_ ?_ mm_fu v3 M_6
          · intro M_9
            exact hk87  M_9
          · intro v6 M_10
            refine mm_aload_n 0 dX12_takesRooms_114 rfl ?_
            refine mm_getR 129 dX12_takesRooms_115 fl_RX12_104 lo_97 rfl ?_
            refine mm_iload 5 dX12_takesRooms_118 rfl ?_
            refine mm_iload 4 dX12_takesRooms_120 rfl ?_
            refine mm_iastore dX12_takesRooms_122 ?_
            refine mm_nm_M (fun M_11 => ?_)
            refine mm_iincN 3 [1, 2, 3, 0, 4, 5] (v := v3 + 1) (lv2 := fun v3_12 => [(0, .ref 97), (1, .int v1), (2, .int v2), (3, .int v3_12), (4, .int v4), (6, .int v6)]) dX12_takesRooms_123 rfl rfl (by decide) (fun _ => rfl) (fun v3_12 => ?_)
            refine mm_goto 2 dX12_takesRooms_126 rfl ?_
            refine mm_wk [0, 1, 2, 3] rfl ?_
            exact ih v3_12 M_11
        refine mm_icmp_eq 51 dX12_takesRooms_37 rfl ?_ ?_
        · refine mm_wk [0, 1, 2, 3, 4] rfl ?_
          exact hj51 v3 v4_1 M_5
        · refine mm_iload_n 1 dX12_takesRooms_40 rfl ?_
          refine mm_iload 5 dX12_takesRooms_41 rfl ?_
          refine mm_callSz (as := [.int v1, .int r_4]) (st := []) (c_R_has E v1 r_4 M_5) dX12_takesRooms_43 mz_X12_has lk_RX12_199 sm_X12_has rfl ⟨Nat.le_of_ble_eq_true rfl, Nat.le_of_ble_eq_true rfl⟩ (Nat.le_of_ble_eq_true rfl) (fun b_13 M_14 => ?_)
          refine mm_if_ne_b 51 dX12_takesRooms_46 rfl ?_ ?_
          · refine mm_wk [0, 1, 2, 3, 4] rfl ?_
            exact hj51 v3 v4_1 M_14
          · refine mm_wk [] rfl ?_
            exact hk49  M_14
      · refine mm_wk [] rfl ?_
        exact hk24  M_3
def f_R_takesRooms (v1 : Int32) (v2 : Int32) (M : mm_M) : Option (Bool × mm_M) := lp_R_takesRooms_2 v1 v2 (fun (M_15 : mm_M) => some (false, M_15)) (fun (M_16 : mm_M) => some (false, M_16)) (fun (M_17 : mm_M) => some (false, M_17)) (fun (M_18 : mm_M) => some (true, M_18)) mm_fu 0 M
set_option maxHeartbeats 4000000 in
theorem c_R_takesRooms (E : mm_E) (v1 : Int32) (v2 : Int32) (M : mm_M) : ∀ (r : Bool) (M2 : mm_M), f_R_takesRooms v1 v2 M = some (r, M2) → mm_P E Y_X12_takesRooms 4 [.ref 97, .int v1, .int v2] M (some (.int (mm_b r))) M2 := by
  refine mm_entry (em := (fun x : Bool => some (.int (mm_b x)))) (by decide +kernel) (Nat.le_of_ble_eq_true rfl) ?_
  show mm_G _ E _ _ 0 [(0, .ref 97), (1, .int v1), (2, .int v2)] [] M _
  unfold f_R_takesRooms
  refine mm_iconst (v := 0) dX12_takesRooms_0 rfl ?_
  refine mm_istore_n [1, 2, 3, 0] (lv2 := [(0, .ref 97), (1, .int v1), (2, .int v2), (3, .int 0)]) dX12_takesRooms_1 (by decide) rfl ?_
  refine lp_R_takesRooms_2_ok E v1 v2 ?_ ?_ ?_ ?_ mm_fu 0 M
  · intro M_15
    refine mm_iconst (v := 0) dX12_takesRooms_24 rfl ?_
    exact mm_zret (b := false) dX12_takesRooms_25 rfl
  · intro M_16
    refine mm_iconst (v := 0) dX12_takesRooms_49 rfl ?_
    exact mm_zret (b := false) dX12_takesRooms_50 rfl
  · intro M_17
    refine mm_iconst (v := 0) dX12_takesRooms_87 rfl ?_
    exact mm_zret (b := false) dX12_takesRooms_88 rfl
  · intro M_18
    refine mm_iconst (v := 1) dX12_takesRooms_129 rfl ?_
    exact mm_zret (b := true) dX12_takesRooms_130 rfl
def lp_R_laysWho_7 (v1 : Int32) (k50 : mm_M → Option (Unit × mm_M)) : Nat → Int32 → mm_M → Option (Unit × mm_M)
  | 0, _, _ => none
  | n + 1, v2, M => if 10 ≤ v2 then k50 M else mm_bd (f_R_has v1 v2 M) fun b_2 M_3 => mm_jn (fun (v2 : Int32) (M_4 : mm_M) => mm_let (v2 + 1) fun v2_5 => lp_R_laysWho_7 v1 k50 n v2_5 M_4) fun j44 => if b_2 = true then if mm_in (M_3.1 97 57) (mm_al 128) = true then mm_let (mm_setA M_3 128 ((M_3.1 97 57).toNatClampNeg) v2) fun M_6 => mm_let (mm_setI M_6 97 57 ((M_6.1 97 57) + 1)) fun M_7 => j44 v2 M_7 else none else j44 v2 M_3
set_option maxHeartbeats 4000000 in
theorem lp_R_laysWho_7_ok (E : mm_E) (v1 : Int32) {k50 : mm_M → Option (Unit × mm_M)} (hk50 : ∀ (M : mm_M), mm_G (fun _ : Unit => none) E Y_X12_laysWho 2 50 [] [] M (k50 M)) : ∀ (n : Nat) (v2 : Int32) (M : mm_M), mm_G (fun _ : Unit => none) E Y_X12_laysWho 2 7 [(0, .ref 97), (1, .int v1), (2, .int v2)] [] M (lp_R_laysWho_7 v1 k50 n v2 M) := by
  intro n
  induction n with
  | zero => intro v2 M r M2 he; cases he
  | succ n ih =>
    intro v2 M
    rw [lp_R_laysWho_7]
    refine mm_iload_n 2 dX12_laysWho_7 rfl ?_
    refine mm_bipush (v := 10) dX12_laysWho_8 rfl ?_
    refine mm_icmp_ge 50 dX12_laysWho_10 rfl ?_ ?_
    · refine mm_wk [] rfl ?_
      exact hk50  M
    · refine mm_iload_n 1 dX12_laysWho_13 rfl ?_
      refine mm_iload_n 2 dX12_laysWho_14 rfl ?_
      refine mm_callSz (as := [.int v1, .int v2]) (st := []) (c_R_has E v1 v2 M) dX12_laysWho_15 mz_X12_has lk_RX12_199 sm_X12_has rfl ⟨Nat.le_of_ble_eq_true rfl, Nat.le_of_ble_eq_true rfl⟩ (Nat.le_of_ble_eq_true rfl) (fun b_2 M_3 => ?_)
      refine mm_jnP (P := fun j => ∀ (v2 : Int32) (M : mm_M), mm_G (fun _ : Unit => none) E Y_X12_laysWho 2 44 [(0, .ref 97), (1, .int v1), (2, .int v2)] [] M (j v2 M)) ?_ (fun j44 hj44 => ?_)
      · intro v2 M_4
        refine mm_iincN 2 [1, 2, 0] (v := v2 + 1) (lv2 := fun v2_5 => [(0, .ref 97), (1, .int v1), (2, .int v2_5)]) dX12_laysWho_44 rfl rfl (by decide) (fun _ => rfl) (fun v2_5 => ?_)
        refine mm_goto 7 dX12_laysWho_47 rfl ?_
        exact ih v2_5 M_4
      refine mm_if_ne_b 24 dX12_laysWho_18 rfl ?_ ?_
      · refine mm_aload_n 0 dX12_laysWho_24 rfl ?_
        refine mm_getR 128 dX12_laysWho_25 fl_RX12_101 lo_97 rfl ?_
        refine mm_aload_n 0 dX12_laysWho_28 rfl ?_
        refine mm_getI dX12_laysWho_29 fl_RX12_381 lo_97 rfl ?_
        refine mm_iload_n 2 dX12_laysWho_32 rfl ?_
        refine mm_iastore dX12_laysWho_33 ?_
        refine mm_nm_M (fun M_6 => ?_)
        refine mm_aload_n 0 dX12_laysWho_34 rfl ?_
        refine mm_aload_n 0 dX12_laysWho_35 rfl ?_
        refine mm_getI dX12_laysWho_36 fl_RX12_381 lo_97 rfl ?_
        refine mm_iconst (v := 1) dX12_laysWho_39 rfl ?_
        refine mm_iadd dX12_laysWho_40 ?_
        refine mm_putI dX12_laysWho_41 fp_RX12_381 lo_97 rfl ?_
        refine mm_nm_M (fun M_7 => ?_)
        exact hj44 v2 M_7
      · refine mm_goto 44 dX12_laysWho_21 rfl ?_
        exact hj44 v2 M_3
def f_R_laysWho (v1 : Int32) (M : mm_M) : Option (Unit × mm_M) := mm_let (mm_setI M 97 57 0) fun M_1 => lp_R_laysWho_7 v1 (fun (M_8 : mm_M) => some ((), M_8)) mm_fu 0 M_1
set_option maxHeartbeats 4000000 in
theorem c_R_laysWho (E : mm_E) (v1 : Int32) (M : mm_M) : ∀ (r : Unit) (M2 : mm_M), f_R_laysWho v1 M = some (r, M2) → mm_P E Y_X12_laysWho 2 [.ref 97, .int v1] M none M2 := by
  refine mm_entry (em := (fun _ : Unit => none)) (by decide +kernel) (Nat.le_of_ble_eq_true rfl) ?_
  show mm_G _ E _ _ 0 [(0, .ref 97), (1, .int v1)] [] M _
  unfold f_R_laysWho
  refine mm_aload_n 0 dX12_laysWho_0 rfl ?_
  refine mm_iconst (v := 0) dX12_laysWho_1 rfl ?_
  refine mm_putI dX12_laysWho_2 fp_RX12_381 lo_97 rfl ?_
  refine mm_nm_M (fun M_1 => ?_)
  refine mm_iconst (v := 0) dX12_laysWho_5 rfl ?_
  refine mm_istore_n [1, 2, 0] (lv2 := [(0, .ref 97), (1, .int v1), (2, .int 0)]) dX12_laysWho_6 (by decide) rfl ?_
  refine lp_R_laysWho_7_ok E v1 ?_ mm_fu 0 M_1
  · intro M_8
    exact mm_vret dX12_laysWho_50 rfl
def lp_R_orders_4 (v0 : Int32) (k19 : Int32 → mm_M → Option (Int32 × mm_M)) : Nat → Int32 → Int32 → mm_M → Option (Int32 × mm_M)
  | 0, _, _, _ => none
  | n + 1, v1, v2, M => if v0 < v2 then k19 v1 M else mm_let (v1 * v2) fun v1_1 => mm_let (v2 + 1) fun v2_2 => lp_R_orders_4 v0 k19 n v1_1 v2_2 M
set_option maxHeartbeats 4000000 in
theorem lp_R_orders_4_ok (E : mm_E) (v0 : Int32) {k19 : Int32 → mm_M → Option (Int32 × mm_M)} (hk19 : ∀ (v1 : Int32) (M : mm_M), mm_G (fun x : Int32 => some (.int x)) E Y_X12_orders 1 19 [(1, .int v1)] [] M (k19 v1 M)) : ∀ (n : Nat) (v1 : Int32) (v2 : Int32) (M : mm_M), mm_G (fun x : Int32 => some (.int x)) E Y_X12_orders 1 4 [(0, .int v0), (1, .int v1), (2, .int v2)] [] M (lp_R_orders_4 v0 k19 n v1 v2 M) := by
  intro n
  induction n with
  | zero => intro v1 v2 M r M2 he; cases he
  | succ n ih =>
    intro v1 v2 M
    rw [lp_R_orders_4]
    refine mm_iload_n 2 dX12_orders_4 rfl ?_
    refine mm_iload_n 0 dX12_orders_5 rfl ?_
    refine mm_icmp_gt 19 dX12_orders_6 rfl ?_ ?_
    · refine mm_wk [1] rfl ?_
      exact hk19 v1 M
    · refine mm_iload_n 1 dX12_orders_9 rfl ?_
      refine mm_iload_n 2 dX12_orders_10 rfl ?_
      refine mm_imul dX12_orders_11 ?_
      refine mm_nm_int (fun v1_1 => ?_)
      refine mm_istore_n [1, 0, 2] (lv2 := [(0, .int v0), (1, .int v1_1), (2, .int v2)]) dX12_orders_12 (by decide) rfl ?_
      refine mm_iincN 2 [1, 2, 0] (v := v2 + 1) (lv2 := fun v2_2 => [(0, .int v0), (1, .int v1_1), (2, .int v2_2)]) dX12_orders_13 rfl rfl (by decide) (fun _ => rfl) (fun v2_2 => ?_)
      refine mm_goto 4 dX12_orders_16 rfl ?_
      exact ih v1_1 v2_2 M
def f_R_orders (v0 : Int32) (M : mm_M) : Option (Int32 × mm_M) := lp_R_orders_4 v0 (fun (v1 : Int32) (M_3 : mm_M) => some (v1, M_3)) mm_fu 1 2 M
set_option maxHeartbeats 4000000 in
theorem c_R_orders (E : mm_E) (v0 : Int32) (M : mm_M) : ∀ (r : Int32) (M2 : mm_M), f_R_orders v0 M = some (r, M2) → mm_P E Y_X12_orders 1 [.int v0] M (some (.int r)) M2 := by
  refine mm_entry (em := (fun x : Int32 => some (.int x))) (by decide +kernel) (Nat.le_of_ble_eq_true rfl) ?_
  show mm_G _ E _ _ 0 [(0, .int v0)] [] M _
  unfold f_R_orders
  refine mm_iconst (v := 1) dX12_orders_0 rfl ?_
  refine mm_istore_n [1, 0] (lv2 := [(0, .int v0), (1, .int 1)]) dX12_orders_1 (by decide) rfl ?_
  refine mm_iconst (v := 2) dX12_orders_2 rfl ?_
  refine mm_istore_n [1, 2, 0] (lv2 := [(0, .int v0), (1, .int 1), (2, .int 2)]) dX12_orders_3 (by decide) rfl ?_
  refine lp_R_orders_4_ok E v0 ?_ mm_fu 1 2 M
  · intro v1 M_3
    refine mm_iload_n 0 dX12_orders_19 rfl ?_
    exact mm_iret dX12_orders_20 rfl
def lp_R_ordersBy_44 (v1 : Int32) (v4 : Int32) (v5 : Int32) (v6 : Int32) (v7 : Int32) (k89 : Int32 → mm_M → Option (Unit × mm_M)) : Nat → Int32 → Int32 → mm_M → Option (Unit × mm_M)
  | 0, _, _, _ => none
  | n + 1, v8, v9, M => mm_bd (f_R_has v6 v9 M) fun b_4 M_5 => mm_jn (fun (v8 : Int32) (v9 : Int32) (M_6 : mm_M) => mm_bd (f_R_has v6 v9 M_6) fun b_7 M_8 => mm_jn (fun (v9 : Int32) (s0 : Int32) (M_9 : mm_M) => mm_let (v9 + 1) fun v9_10 => lp_R_ordersBy_44 v1 v4 v5 v6 v7 k89 n s0 v9_10 M_9) fun j78 => if b_7 = true then j78 v9 v8 M_8 else j78 v9 (v8 - 1) M_8) fun j59 => if b_4 = true then j59 v8 v9 M_5 else if v8 ≤ 0 then k89 v9 M_5 else j59 v8 v9 M_5
set_option maxHeartbeats 4000000 in
theorem lp_R_ordersBy_44_ok (E : mm_E) (v1 : Int32) (v4 : Int32) (v5 : Int32) (v6 : Int32) (v7 : Int32) {k89 : Int32 → mm_M → Option (Unit × mm_M)} (hk89 : ∀ (v9 : Int32) (M : mm_M), mm_G (fun _ : Unit => none) E Y_X12_ordersBy 2 89 [(0, .ref 97), (1, .int v1), (4, .int v4), (5, .int v5), (6, .int v6), (7, .int v7), (9, .int v9)] [] M (k89 v9 M)) : ∀ (n : Nat) (v8 : Int32) (v9 : Int32) (M : mm_M), mm_G (fun _ : Unit => none) E Y_X12_ordersBy 2 44 [(0, .ref 97), (1, .int v1), (4, .int v4), (5, .int v5), (6, .int v6), (7, .int v7), (8, .int v8), (9, .int v9)] [] M (lp_R_ordersBy_44 v1 v4 v5 v6 v7 k89 n v8 v9 M) := by
  intro n
  induction n with
  | zero => intro v8 v9 M r M2 he; cases he
  | succ n ih =>
    intro v8 v9 M
    rw [lp_R_ordersBy_44]
    refine mm_iload 4 dX12_ordersBy_44 rfl ?_
    refine mm_iload 7 dX12_ordersBy_46 rfl ?_
    refine mm_callSz (as := [.int v6, .int v9]) (st := []) (c_R_has E v6 v9 M) dX12_ordersBy_48 mz_X12_has lk_RX12_199 sm_X12_has rfl ⟨Nat.le_of_ble_eq_true rfl, Nat.le_of_ble_eq_true rfl⟩ (Nat.le_of_ble_eq_true rfl) (fun b_4 M_5 => ?_)
    refine mm_jnP (P := fun j => ∀ (v8 : Int32) (v9 : Int32) (M : mm_M), mm_G (fun _ : Unit => none) E Y_X12_ordersBy 2 59 [(0, .ref 97), (1, .int v1), (4, .int v4), (5, .int v5), (6, .int v6), (7, .int v7), (8, .int v8), (9, .int v9)] [] M (j v8 v9 M)) ?_ (fun j59 hj59 => ?_)
    · intro v8 v9 M_6
      refine mm_iload 4 dX12_ordersBy_59 rfl ?_
      refine mm_iload 7 dX12_ordersBy_61 rfl ?_
      refine mm_callSz (as := [.int v6, .int v9]) (st := []) (c_R_has E v6 v9 M_6) dX12_ordersBy_63 mz_X12_has lk_RX12_199 sm_X12_has rfl ⟨Nat.le_of_ble_eq_true rfl, Nat.le_of_ble_eq_true rfl⟩ (Nat.le_of_ble_eq_true rfl) (fun b_7 M_8 => ?_)
      refine mm_jnP (P := fun j => ∀ (v9 : Int32) (s0 : Int32) (M : mm_M), mm_G (fun _ : Unit => none) E Y_X12_ordersBy 2 78 [(0, .ref 97), (1, .int v1), (4, .int v4), (5, .int v5), (6, .int v6), (7, .int v7), (9, .int v9)] [.int s0] M (j v9 s0 M)) ?_ (fun j78 hj78 => ?_)
      · intro v9 s0 M_9
        refine mm_istore [1, 2, 3, 4, 5, 6, 0, 7] (lv2 := [(0, .ref 97), (1, .int v1), (4, .int v4), (5, .int v5), (6, .int v6), (7, .int v7), (8, .int s0), (9, .int v9)]) dX12_ordersBy_78 (by decide) rfl ?_
        refine mm_iload 7 dX12_ordersBy_80 rfl ?_
        refine mm_iconst (v := 1) dX12_ordersBy_82 rfl ?_
        refine mm_iadd dX12_ordersBy_83 ?_
        refine mm_nm_int (fun v9_10 => ?_)
        refine mm_istore [1, 2, 3, 4, 5, 6, 7, 0] (lv2 := [(0, .ref 97), (1, .int v1), (4, .int v4), (5, .int v5), (6, .int v6), (7, .int v7), (8, .int s0), (9, .int v9_10)]) dX12_ordersBy_84 (by decide) rfl ?_
        refine mm_goto 44 dX12_ordersBy_86 rfl ?_
        exact ih s0 v9_10 M_9
      refine mm_if_eq_b 74 dX12_ordersBy_66 rfl ?_ ?_
      · refine mm_iload 6 dX12_ordersBy_74 rfl ?_
        refine mm_iconst (v := 1) dX12_ordersBy_76 rfl ?_
        refine mm_isub dX12_ordersBy_77 ?_
        refine mm_wk [0, 1, 2, 3, 4, 5, 7] rfl ?_
        exact hj78 v9 (v8 - 1) M_8
      · refine mm_iload 6 dX12_ordersBy_69 rfl ?_
        refine mm_goto 78 dX12_ordersBy_71 rfl ?_
        refine mm_wk [0, 1, 2, 3, 4, 5, 7] rfl ?_
        exact hj78 v9 v8 M_8
    refine mm_if_ne_b 59 dX12_ordersBy_51 rfl ?_ ?_
    · exact hj59 v8 v9 M_5
    · refine mm_iload 6 dX12_ordersBy_54 rfl ?_
      refine mm_if_le 89 dX12_ordersBy_56 rfl ?_ ?_
      · refine mm_wk [0, 1, 2, 3, 4, 5, 7] rfl ?_
        exact hk89 v9 M_5
      · exact hj59 v8 v9 M_5
def lp_R_ordersBy_12 (v1 : Int32) (k113 : mm_M → Option (Unit × mm_M)) : Nat → Int32 → Int32 → Int32 → Int32 → mm_M → Option (Unit × mm_M)
  | 0, _, _, _, _, _ => none
  | n + 1, v4, v5, v6, v7, M => if v1 ≤ v7 then k113 M else if v1 - v7 = 0 then none else mm_let (v5 / (v1 - v7)) fun v5_1 => if v5_1 = 0 then none else mm_let (v4 / v5_1) fun v8_2 => if v5_1 = 0 then none else mm_let (mm_rem v4 v5_1) fun v4_3 => lp_R_ordersBy_44 v1 v4_3 v5_1 v6 v7 (fun (v9 : Int32) (M_11 : mm_M) => mm_let (v6 ||| (1 <<< (v9 &&& 31))) fun v6_12 => if mm_in v7 (mm_al 132) = true then mm_let (mm_setA M_11 132 (v7.toNatClampNeg) v9) fun M_13 => mm_let (v7 + 1) fun v7_14 => lp_R_ordersBy_12 v1 k113 n v4_3 v5_1 v6_12 v7_14 M_13 else none) mm_fu v8_2 0 M
set_option maxHeartbeats 4000000 in
theorem lp_R_ordersBy_12_ok (E : mm_E) (v1 : Int32) {k113 : mm_M → Option (Unit × mm_M)} (hk113 : ∀ (M : mm_M), mm_G (fun _ : Unit => none) E Y_X12_ordersBy 2 113 [] [] M (k113 M)) : ∀ (n : Nat) (v4 : Int32) (v5 : Int32) (v6 : Int32) (v7 : Int32) (M : mm_M), mm_G (fun _ : Unit => none) E Y_X12_ordersBy 2 12 [(0, .ref 97), (1, .int v1), (4, .int v4), (5, .int v5), (6, .int v6), (7, .int v7)] [] M (lp_R_ordersBy_12 v1 k113 n v4 v5 v6 v7 M) := by
  intro n
  induction n with
  | zero => intro v4 v5 v6 v7 M r M2 he; cases he
  | succ n ih =>
    intro v4 v5 v6 v7 M
    rw [lp_R_ordersBy_12]
    refine mm_iload 5 dX12_ordersBy_12 rfl ?_
    refine mm_iload_n 1 dX12_ordersBy_14 rfl ?_
    refine mm_icmp_ge 113 dX12_ordersBy_15 rfl ?_ ?_
    · refine mm_wk [] rfl ?_
      exact hk113  M
    · refine mm_iload 3 dX12_ordersBy_18 rfl ?_
      refine mm_iload_n 1 dX12_ordersBy_20 rfl ?_
      refine mm_iload 5 dX12_ordersBy_21 rfl ?_
      refine mm_isub dX12_ordersBy_23 ?_
      refine mm_idiv dX12_ordersBy_24 ?_
      refine mm_nm_int (fun v5_1 => ?_)
      refine mm_istore [1, 2, 3, 0, 4, 5] (lv2 := [(0, .ref 97), (1, .int v1), (4, .int v4), (5, .int v5_1), (6, .int v6), (7, .int v7)]) dX12_ordersBy_25 (by decide) rfl ?_
      refine mm_iload 2 dX12_ordersBy_27 rfl ?_
      refine mm_iload 3 dX12_ordersBy_29 rfl ?_
      refine mm_idiv dX12_ordersBy_31 ?_
      refine mm_nm_int (fun v8_2 => ?_)
      refine mm_istore [1, 2, 3, 4, 5, 6, 0] (lv2 := [(0, .ref 97), (1, .int v1), (4, .int v4), (5, .int v5_1), (6, .int v6), (7, .int v7), (8, .int v8_2)]) dX12_ordersBy_32 (by decide) rfl ?_
      refine mm_iload 2 dX12_ordersBy_34 rfl ?_
      refine mm_iload 3 dX12_ordersBy_36 rfl ?_
      refine mm_irem dX12_ordersBy_38 ?_
      refine mm_nm_int (fun v4_3 => ?_)
      refine mm_istore [1, 2, 0, 3, 4, 5, 6] (lv2 := [(0, .ref 97), (1, .int v1), (4, .int v4_3), (5, .int v5_1), (6, .int v6), (7, .int v7), (8, .int v8_2)]) dX12_ordersBy_39 (by decide) rfl ?_
      refine mm_iconst (v := 0) dX12_ordersBy_41 rfl ?_
      refine mm_istore [1, 2, 3, 4, 5, 6, 7, 0] (lv2 := [(0, .ref 97), (1, .int v1), (4, .int v4_3), (5, .int v5_1), (6, .int v6), (7, .int v7), (8, .int v8_2), (9, .int 0)]) dX12_ordersBy_42 (by decide) rfl ?_
      refine lp_R_ordersBy_44_ok E v1 v4_3 v5_1 v6 v7 ?_ mm_fu v8_2 0 M
      · intro v9 M_11
        refine mm_iload 4 dX12_ordersBy_89 rfl ?_
        refine mm_iconst (v := 1) dX12_ordersBy_91 rfl ?_
        refine mm_iload 6 dX12_ordersBy_92 rfl ?_
        refine mm_ishl dX12_ordersBy_94 ?_
        refine mm_ior dX12_ordersBy_95 ?_
        refine mm_nm_int (fun v6_12 => ?_)
        refine mm_istore [1, 2, 3, 4, 0, 5, 6] (lv2 := [(0, .ref 97), (1, .int v1), (4, .int v4_3), (5, .int v5_1), (6, .int v6_12), (7, .int v7), (9, .int v9)]) dX12_ordersBy_96 (by decide) rfl ?_
        refine mm_aload_n 0 dX12_ordersBy_98 rfl ?_
        refine mm_getR 132 dX12_ordersBy_99 fl_RX12_113 lo_97 rfl ?_
        refine mm_iload 5 dX12_ordersBy_102 rfl ?_
        refine mm_iload 6 dX12_ordersBy_104 rfl ?_
        refine mm_iastore dX12_ordersBy_106 ?_
        refine mm_nm_M (fun M_13 => ?_)
        refine mm_iincN 5 [1, 2, 3, 4, 5, 0, 6] (v := v7 + 1) (lv2 := fun v7_14 => [(0, .ref 97), (1, .int v1), (4, .int v4_3), (5, .int v5_1), (6, .int v6_12), (7, .int v7_14), (9, .int v9)]) dX12_ordersBy_107 rfl rfl (by decide) (fun _ => rfl) (fun v7_14 => ?_)
        refine mm_goto 12 dX12_ordersBy_110 rfl ?_
        refine mm_wk [0, 1, 2, 3, 4, 5] rfl ?_
        exact ih v4_3 v5_1 v6_12 v7_14 M_13
def f_R_ordersBy (v1 : Int32) (v2 : Int32) (v3 : Int32) (M : mm_M) : Option (Unit × mm_M) := lp_R_ordersBy_12 v1 (fun (M_15 : mm_M) => some ((), M_15)) mm_fu v2 v3 0 0 M
set_option maxHeartbeats 4000000 in
theorem c_R_ordersBy (E : mm_E) (v1 : Int32) (v2 : Int32) (v3 : Int32) (M : mm_M) : ∀ (r : Unit) (M2 : mm_M), f_R_ordersBy v1 v2 v3 M = some (r, M2) → mm_P E Y_X12_ordersBy 2 [.ref 97, .int v1, .int v2, .int v3] M none M2 := by
  refine mm_entry (em := (fun _ : Unit => none)) (by decide +kernel) (Nat.le_of_ble_eq_true rfl) ?_
  show mm_G _ E _ _ 0 [(0, .ref 97), (1, .int v1), (2, .int v2), (3, .int v3)] [] M _
  unfold f_R_ordersBy
  refine mm_iload_n 2 dX12_ordersBy_0 rfl ?_
  refine mm_istore [1, 2, 3, 4, 0] (lv2 := [(0, .ref 97), (1, .int v1), (2, .int v2), (3, .int v3), (4, .int v2)]) dX12_ordersBy_1 (by decide) rfl ?_
  refine mm_iload_n 3 dX12_ordersBy_3 rfl ?_
  refine mm_istore [1, 2, 3, 4, 5, 0] (lv2 := [(0, .ref 97), (1, .int v1), (2, .int v2), (3, .int v3), (4, .int v2), (5, .int v3)]) dX12_ordersBy_4 (by decide) rfl ?_
  refine mm_iconst (v := 0) dX12_ordersBy_6 rfl ?_
  refine mm_istore [1, 2, 3, 4, 5, 6, 0] (lv2 := [(0, .ref 97), (1, .int v1), (2, .int v2), (3, .int v3), (4, .int v2), (5, .int v3), (6, .int 0)]) dX12_ordersBy_7 (by decide) rfl ?_
  refine mm_iconst (v := 0) dX12_ordersBy_9 rfl ?_
  refine mm_istore [1, 2, 3, 4, 5, 6, 7, 0] (lv2 := [(0, .ref 97), (1, .int v1), (2, .int v2), (3, .int v3), (4, .int v2), (5, .int v3), (6, .int 0), (7, .int 0)]) dX12_ordersBy_10 (by decide) rfl ?_
  refine mm_wk [0, 1, 4, 5, 6, 7] rfl ?_
  refine lp_R_ordersBy_12_ok E v1 ?_ mm_fu v2 v3 0 0 M
  · intro M_15
    exact mm_vret dX12_ordersBy_113 rfl
def lp_R_firstRooms_27 (v1 : Int32) (v2 : Int32) (k63 : mm_M → Option (Int32 × mm_M)) : Nat → Int32 → mm_M → Option (Int32 × mm_M)
  | 0, _, _ => none
  | n + 1, v3, M => if M.1 97 57 ≤ v3 then k63 M else if mm_in v3 (mm_al 128) = true then if mm_in v3 (mm_al 132) = true then if mm_in (M.2.1 132 v3.toNatClampNeg) (mm_al 129) = true then if mm_in (M.2.1 128 v3.toNatClampNeg) (mm_al 105) = true then mm_let (mm_setA M 105 ((M.2.1 128 v3.toNatClampNeg).toNatClampNeg) (M.2.1 129 (M.2.1 132 v3.toNatClampNeg).toNatClampNeg)) fun M_5 => mm_let (v3 + 1) fun v3_6 => lp_R_firstRooms_27 v1 v2 k63 n v3_6 M_5 else none else none else none else none
set_option maxHeartbeats 4000000 in
theorem lp_R_firstRooms_27_ok (E : mm_E) (v1 : Int32) (v2 : Int32) {k63 : mm_M → Option (Int32 × mm_M)} (hk63 : ∀ (M : mm_M), mm_G (fun x : Int32 => some (.int x)) E Y_X12_firstRooms 5 63 [(0, .ref 97), (1, .int v1), (2, .int v2)] [] M (k63 M)) : ∀ (n : Nat) (v3 : Int32) (M : mm_M), mm_G (fun x : Int32 => some (.int x)) E Y_X12_firstRooms 5 27 [(0, .ref 97), (1, .int v1), (2, .int v2), (3, .int v3)] [] M (lp_R_firstRooms_27 v1 v2 k63 n v3 M) := by
  intro n
  induction n with
  | zero => intro v3 M r M2 he; cases he
  | succ n ih =>
    intro v3 M
    rw [lp_R_firstRooms_27]
    refine mm_iload_n 3 dX12_firstRooms_27 rfl ?_
    refine mm_aload_n 0 dX12_firstRooms_28 rfl ?_
    refine mm_getI dX12_firstRooms_29 fl_RX12_381 lo_97 rfl ?_
    refine mm_icmp_ge 63 dX12_firstRooms_32 rfl ?_ ?_
    · refine mm_wk [0, 1, 2] rfl ?_
      exact hk63  M
    · refine mm_aload_n 0 dX12_firstRooms_35 rfl ?_
      refine mm_getR 105 dX12_firstRooms_36 fl_RX12_32 lo_97 rfl ?_
      refine mm_aload_n 0 dX12_firstRooms_39 rfl ?_
      refine mm_getR 128 dX12_firstRooms_40 fl_RX12_101 lo_97 rfl ?_
      refine mm_iload_n 3 dX12_firstRooms_43 rfl ?_
      refine mm_iaload dX12_firstRooms_44 ?_
      refine mm_aload_n 0 dX12_firstRooms_45 rfl ?_
      refine mm_getR 129 dX12_firstRooms_46 fl_RX12_104 lo_97 rfl ?_
      refine mm_aload_n 0 dX12_firstRooms_49 rfl ?_
      refine mm_getR 132 dX12_firstRooms_50 fl_RX12_113 lo_97 rfl ?_
      refine mm_iload_n 3 dX12_firstRooms_53 rfl ?_
      refine mm_iaload dX12_firstRooms_54 ?_
      refine mm_iaload dX12_firstRooms_55 ?_
      refine mm_iastore dX12_firstRooms_56 ?_
      refine mm_nm_M (fun M_5 => ?_)
      refine mm_iincN 3 [1, 2, 3, 0] (v := v3 + 1) (lv2 := fun v3_6 => [(0, .ref 97), (1, .int v1), (2, .int v2), (3, .int v3_6)]) dX12_firstRooms_57 rfl rfl (by decide) (fun _ => rfl) (fun v3_6 => ?_)
      refine mm_goto 27 dX12_firstRooms_60 rfl ?_
      exact ih v3_6 M_5
def lp_R_firstRooms_10 (v1 : Int32) (k75 : Int32 → mm_M → Option (Int32 × mm_M)) (k83 : mm_M → Option (Int32 × mm_M)) : Nat → Int32 → mm_M → Option (Int32 × mm_M)
  | 0, _, _ => none
  | n + 1, v2, M => if v1 ≤ v2 then k83 M else mm_bd (f_R_ordersBy (M.1 97 57) v2 v1 M) fun u_3 M_4 => lp_R_firstRooms_27 v1 v2 (fun (M_7 : mm_M) => mm_bd (f_R_canBe (M_7.1 97 12) true M_7) fun b_8 M_9 => if b_8 = true then k75 v2 M_9 else mm_let (v2 + 1) fun v2_10 => lp_R_firstRooms_10 v1 k75 k83 n v2_10 M_9) mm_fu 0 M_4
set_option maxHeartbeats 4000000 in
theorem lp_R_firstRooms_10_ok (E : mm_E) (v1 : Int32) {k75 : Int32 → mm_M → Option (Int32 × mm_M)} {k83 : mm_M → Option (Int32 × mm_M)} (hk75 : ∀ (v2 : Int32) (M : mm_M), mm_G (fun x : Int32 => some (.int x)) E Y_X12_firstRooms 5 75 [(2, .int v2)] [] M (k75 v2 M)) (hk83 : ∀ (M : mm_M), mm_G (fun x : Int32 => some (.int x)) E Y_X12_firstRooms 5 83 [] [] M (k83 M)) : ∀ (n : Nat) (v2 : Int32) (M : mm_M), mm_G (fun x : Int32 => some (.int x)) E Y_X12_firstRooms 5 10 [(0, .ref 97), (1, .int v1), (2, .int v2)] [] M (lp_R_firstRooms_10 v1 k75 k83 n v2 M) := by
  intro n
  induction n with
  | zero => intro v2 M r M2 he; cases he
  | succ n ih =>
    intro v2 M
    rw [lp_R_firstRooms_10]
    refine mm_iload_n 2 dX12_firstRooms_10 rfl ?_
    refine mm_iload_n 1 dX12_firstRooms_11 rfl ?_
    refine mm_icmp_ge 83 dX12_firstRooms_12 rfl ?_ ?_
    · refine mm_wk [] rfl ?_
      exact hk83  M
    · refine mm_aload_n 0 dX12_firstRooms_15 rfl ?_
      refine mm_aload_n 0 dX12_firstRooms_16 rfl ?_
      refine mm_getI dX12_firstRooms_17 fl_RX12_381 lo_97 rfl ?_
      refine mm_iload_n 2 dX12_firstRooms_20 rfl ?_
      refine mm_iload_n 1 dX12_firstRooms_21 rfl ?_
      refine mm_callVv (as := [.int (M.1 97 57), .int v2, .int v1]) (st := []) (c_R_ordersBy E (M.1 97 57) v2 v1 M) dX12_firstRooms_22 mz_X12_ordersBy lk_RX12_387 im_X12_ordersBy se_X12_ordersBy lo_97 rfl rfl rfl ⟨Nat.le_of_ble_eq_true rfl, Nat.le_of_ble_eq_true rfl⟩ (Nat.le_of_ble_eq_true rfl) (fun u_3 M_4 => ?_)
      refine mm_iconst (v := 0) dX12_firstRooms_25 rfl ?_
      refine mm_istore_n [1, 2, 3, 0] (lv2 := [(0, .ref 97), (1, .int v1), (2, .int v2), (3, .int 0)]) dX12_firstRooms_26 (by decide) rfl ?_
      refine lp_R_firstRooms_27_ok E v1 v2 ?_ mm_fu 0 M_4
      · intro M_7
        refine mm_aload_n 0 dX12_firstRooms_63 rfl ?_
        refine mm_aload_n 0 dX12_firstRooms_64 rfl ?_
        refine mm_getI dX12_firstRooms_65 fl_RX12_217 lo_97 rfl ?_
        refine mm_iconst (v := 1) dX12_firstRooms_68 rfl ?_
        refine mm_callVz (as := [.int (M_7.1 97 12), .int (mm_b true)]) (st := []) (c_R_canBe E (M_7.1 97 12) true M_7) dX12_firstRooms_69 mz_X12_canBe lk_RX12_363 im_X12_canBe se_X12_canBe lo_97 rfl rfl rfl ⟨Nat.le_of_ble_eq_true rfl, Nat.le_of_ble_eq_true rfl⟩ (Nat.le_of_ble_eq_true rfl) (fun b_8 M_9 => ?_)
        refine mm_if_eq_b 77 dX12_firstRooms_72 rfl ?_ ?_
        · refine mm_iincN 2 [1, 2, 0] (v := v2 + 1) (lv2 := fun v2_10 => [(0, .ref 97), (1, .int v1), (2, .int v2_10)]) dX12_firstRooms_77 rfl rfl (by decide) (fun _ => rfl) (fun v2_10 => ?_)
          refine mm_goto 10 dX12_firstRooms_80 rfl ?_
          exact ih v2_10 M_9
        · refine mm_wk [2] rfl ?_
          exact hk75 v2 M_9
def f_R_firstRooms (M : mm_M) : Option (Int32 × mm_M) := mm_bd (f_R_orders (M.1 97 57) M) fun r_1 M_2 => lp_R_firstRooms_10 r_1 (fun (v2 : Int32) (M_11 : mm_M) => some (v2, M_11)) (fun (M_12 : mm_M) => some ((-1), M_12)) mm_fu 0 M_2
set_option maxHeartbeats 4000000 in
theorem c_R_firstRooms (E : mm_E) (M : mm_M) : ∀ (r : Int32) (M2 : mm_M), f_R_firstRooms M = some (r, M2) → mm_P E Y_X12_firstRooms 5 [.ref 97] M (some (.int r)) M2 := by
  refine mm_entry (em := (fun x : Int32 => some (.int x))) (by decide +kernel) (Nat.le_of_ble_eq_true rfl) ?_
  show mm_G _ E _ _ 0 [(0, .ref 97)] [] M _
  unfold f_R_firstRooms
  refine mm_aload_n 0 dX12_firstRooms_0 rfl ?_
  refine mm_getI dX12_firstRooms_1 fl_RX12_381 lo_97 rfl ?_
  refine mm_callSi (as := [.int (M.1 97 57)]) (st := []) (c_R_orders E (M.1 97 57) M) dX12_firstRooms_4 mz_X12_orders lk_RX12_384 sm_X12_orders rfl ⟨Nat.le_of_ble_eq_true rfl, Nat.le_of_ble_eq_true rfl⟩ (Nat.le_of_ble_eq_true rfl) (fun r_1 M_2 => ?_)
  refine mm_istore_n [1, 0] (lv2 := [(0, .ref 97), (1, .int r_1)]) dX12_firstRooms_7 (by decide) rfl ?_
  refine mm_iconst (v := 0) dX12_firstRooms_8 rfl ?_
  refine mm_istore_n [1, 2, 0] (lv2 := [(0, .ref 97), (1, .int r_1), (2, .int 0)]) dX12_firstRooms_9 (by decide) rfl ?_
  refine lp_R_firstRooms_10_ok E r_1 ?_ ?_ mm_fu 0 M_2
  · intro v2 M_11
    refine mm_iload_n 0 dX12_firstRooms_75 rfl ?_
    exact mm_iret dX12_firstRooms_76 rfl
  · intro M_12
    refine mm_iconst (v := (-1)) dX12_firstRooms_83 rfl ?_
    exact mm_iret dX12_firstRooms_84 rfl
def lp_R_rooms_85 (v3 : Int32) (k112 : mm_M → Option (Int32 × mm_M)) : Nat → Int32 → mm_M → Option (Int32 × mm_M)
  | 0, _, _ => none
  | n + 1, v4, M => if 10 ≤ v4 then k112 M else if mm_in v4 (mm_al 105) = true then if mm_in v4 (mm_al 130) = true then mm_let (mm_setA M 130 (v4.toNatClampNeg) (M.2.1 105 v4.toNatClampNeg)) fun M_13 => mm_let (v4 + 1) fun v4_14 => lp_R_rooms_85 v3 k112 n v4_14 M_13 else none else none
set_option maxHeartbeats 4000000 in
theorem lp_R_rooms_85_ok (E : mm_E) (v3 : Int32) {k112 : mm_M → Option (Int32 × mm_M)} (hk112 : ∀ (M : mm_M), mm_G (fun x : Int32 => some (.int x)) E Y_X12_rooms 6 112 [(0, .ref 97), (3, .int v3)] [] M (k112 M)) : ∀ (n : Nat) (v4 : Int32) (M : mm_M), mm_G (fun x : Int32 => some (.int x)) E Y_X12_rooms 6 85 [(0, .ref 97), (3, .int v3), (4, .int v4)] [] M (lp_R_rooms_85 v3 k112 n v4 M) := by
  intro n
  induction n with
  | zero => intro v4 M r M2 he; cases he
  | succ n ih =>
    intro v4 M
    rw [lp_R_rooms_85]
    refine mm_iload 2 dX12_rooms_85 rfl ?_
    refine mm_bipush (v := 10) dX12_rooms_87 rfl ?_
    refine mm_icmp_ge 112 dX12_rooms_89 rfl ?_ ?_
    · refine mm_wk [0, 1] rfl ?_
      exact hk112  M
    · refine mm_aload_n 0 dX12_rooms_92 rfl ?_
      refine mm_getR 130 dX12_rooms_93 fl_RX12_107 lo_97 rfl ?_
      refine mm_iload 2 dX12_rooms_96 rfl ?_
      refine mm_aload_n 0 dX12_rooms_98 rfl ?_
      refine mm_getR 105 dX12_rooms_99 fl_RX12_32 lo_97 rfl ?_
      refine mm_iload 2 dX12_rooms_102 rfl ?_
      refine mm_iaload dX12_rooms_104 ?_
      refine mm_iastore dX12_rooms_105 ?_
      refine mm_nm_M (fun M_13 => ?_)
      refine mm_iincN 2 [1, 2, 0] (v := v4 + 1) (lv2 := fun v4_14 => [(0, .ref 97), (3, .int v3), (4, .int v4_14)]) dX12_rooms_106 rfl rfl (by decide) (fun _ => rfl) (fun v4_14 => ?_)
      refine mm_goto 85 dX12_rooms_109 rfl ?_
      exact ih v4_14 M_13
def lp_R_rooms_160 (v3 : Int32) (v4 : Int32) (v5 : Int32) (k199 : mm_M → Option (Int32 × mm_M)) : Nat → Int32 → mm_M → Option (Int32 × mm_M)
  | 0, _, _ => none
  | n + 1, v6, M => if 10 ≤ v6 then k199 M else mm_jn (fun (v6 : Int32) (M_19 : mm_M) => if mm_in v6 (mm_al 130) = true then if mm_in v6 (mm_al 105) = true then mm_let (mm_setA M_19 105 (v6.toNatClampNeg) (M_19.2.1 130 v6.toNatClampNeg)) fun M_20 => mm_let (v6 + 1) fun v6_21 => lp_R_rooms_160 v3 v4 v5 k199 n v6_21 M_20 else none else none) fun j179 => if v3 = 10 then if v4 = (-1) then j179 v6 M else k199 M else j179 v6 M
set_option maxHeartbeats 4000000 in
theorem lp_R_rooms_160_ok (E : mm_E) (v3 : Int32) (v4 : Int32) (v5 : Int32) {k199 : mm_M → Option (Int32 × mm_M)} (hk199 : ∀ (M : mm_M), mm_G (fun x : Int32 => some (.int x)) E Y_X12_rooms 6 199 [(5, .int v5)] [] M (k199 M)) : ∀ (n : Nat) (v6 : Int32) (M : mm_M), mm_G (fun x : Int32 => some (.int x)) E Y_X12_rooms 6 160 [(0, .ref 97), (3, .int v3), (4, .int v4), (5, .int v5), (6, .int v6)] [] M (lp_R_rooms_160 v3 v4 v5 k199 n v6 M) := by
  intro n
  induction n with
  | zero => intro v6 M r M2 he; cases he
  | succ n ih =>
    intro v6 M
    rw [lp_R_rooms_160]
    refine mm_iload 4 dX12_rooms_160 rfl ?_
    refine mm_bipush (v := 10) dX12_rooms_162 rfl ?_
    refine mm_icmp_ge 199 dX12_rooms_164 rfl ?_ ?_
    · refine mm_wk [3] rfl ?_
      exact hk199  M
    · refine mm_iload_n 1 dX12_rooms_167 rfl ?_
      refine mm_bipush (v := 10) dX12_rooms_168 rfl ?_
      refine mm_jnP (P := fun j => ∀ (v6 : Int32) (M : mm_M), mm_G (fun x : Int32 => some (.int x)) E Y_X12_rooms 6 179 [(0, .ref 97), (3, .int v3), (4, .int v4), (5, .int v5), (6, .int v6)] [] M (j v6 M)) ?_ (fun j179 hj179 => ?_)
      · intro v6 M_19
        refine mm_aload_n 0 dX12_rooms_179 rfl ?_
        refine mm_getR 105 dX12_rooms_180 fl_RX12_32 lo_97 rfl ?_
        refine mm_iload 4 dX12_rooms_183 rfl ?_
        refine mm_aload_n 0 dX12_rooms_185 rfl ?_
        refine mm_getR 130 dX12_rooms_186 fl_RX12_107 lo_97 rfl ?_
        refine mm_iload 4 dX12_rooms_189 rfl ?_
        refine mm_iaload dX12_rooms_191 ?_
        refine mm_iastore dX12_rooms_192 ?_
        refine mm_nm_M (fun M_20 => ?_)
        refine mm_iincN 4 [1, 2, 3, 4, 0] (v := v6 + 1) (lv2 := fun v6_21 => [(0, .ref 97), (3, .int v3), (4, .int v4), (5, .int v5), (6, .int v6_21)]) dX12_rooms_193 rfl rfl (by decide) (fun _ => rfl) (fun v6_21 => ?_)
        refine mm_goto 160 dX12_rooms_196 rfl ?_
        exact ih v6_21 M_20
      refine mm_icmp_ne 179 dX12_rooms_170 rfl ?_ ?_
      · exact hj179 v6 M
      · refine mm_iload 2 dX12_rooms_173 rfl ?_
        refine mm_iconst (v := (-1)) dX12_rooms_175 rfl ?_
        refine mm_icmp_ne 199 dX12_rooms_176 rfl ?_ ?_
        · refine mm_wk [3] rfl ?_
          exact hk199  M
        · exact hj179 v6 M
def f_R_rooms (v1 : Int32) (v2 : Int32) (v3 : Int32) (M : mm_M) : Option (Int32 × mm_M) := mm_bd (f_R_areStays v1 M) fun b_1 M_2 => if b_1 = true then mm_bd (f_R_bits v1 M_2) fun r_3 M_4 => if r_3 = v2 then mm_bd (f_R_in v2 1 6 M_4) fun b_5 M_6 => if b_5 = true then mm_jn (fun (M_7 : mm_M) => if v2 ≤ M_7.1 97 1 then mm_let (mm_setI M_7 97 1 0) fun M_8 => mm_bd (f_R_takesRooms v1 v2 M_8) fun b_9 M_10 => if b_9 = true then mm_bd (f_R_laysWho v1 M_10) fun u_11 M_12 => lp_R_rooms_85 v3 (fun (M_15 : mm_M) => mm_bd (f_R_firstRooms M_15) fun r_16 M_17 => mm_jn (fun (v4 : Int32) (s0 : Int32) (M_18 : mm_M) => lp_R_rooms_160 v3 v4 s0 (fun (M_22 : mm_M) => some (s0, M_22)) mm_fu 0 M_18) fun j155 => if v3 = 10 then if r_16 = (-1) then j155 r_16 0 M_17 else j155 r_16 1 M_17 else if r_16 = (-1) then j155 r_16 (-2) M_17 else if mm_in v3 (mm_al 105) = true then j155 r_16 (M_17.2.1 105 v3.toNatClampNeg) M_17 else none) mm_fu 0 M_12 else some ((-3), M_10) else some ((-1), M_7)) fun j50 => if v3 = 10 then j50 M_6 else mm_bd (f_R_in v3 0 9 M_6) fun b_23 M_24 => if b_23 = true then mm_bd (f_R_has v1 v3 M_24) fun b_25 M_26 => if b_25 = true then j50 M_26 else some ((-1), M_26) else some ((-1), M_24) else some ((-1), M_6) else some ((-1), M_4) else some ((-1), M_2)
set_option maxHeartbeats 4000000 in
theorem c_R_rooms (E : mm_E) (v1 : Int32) (v2 : Int32) (v3 : Int32) (M : mm_M) : ∀ (r : Int32) (M2 : mm_M), f_R_rooms v1 v2 v3 M = some (r, M2) → mm_P E Y_X12_rooms 6 [.ref 97, .int v1, .int v2, .int v3] M (some (.int r)) M2 := by
  refine mm_entry (em := (fun x : Int32 => some (.int x))) (by decide +kernel) (Nat.le_of_ble_eq_true rfl) ?_
  show mm_G _ E _ _ 0 [(0, .ref 97), (1, .int v1), (2, .int v2), (3, .int v3)] [] M _
  unfold f_R_rooms
  refine mm_aload_n 0 dX12_rooms_0 rfl ?_
  refine mm_iload_n 1 dX12_rooms_1 rfl ?_
  refine mm_callVz (as := [.int v1]) (st := []) (c_R_areStays E v1 M) dX12_rooms_2 mz_X12_areStays lk_RX12_360 im_X12_areStays se_X12_areStays lo_97 rfl rfl rfl ⟨Nat.le_of_ble_eq_true rfl, Nat.le_of_ble_eq_true rfl⟩ (Nat.le_of_ble_eq_true rfl) (fun b_1 M_2 => ?_)
  refine mm_if_eq_b 58 dX12_rooms_5 rfl ?_ ?_
  · refine mm_iconst (v := (-1)) dX12_rooms_58 rfl ?_
    exact mm_iret dX12_rooms_59 rfl
  · refine mm_iload_n 1 dX12_rooms_8 rfl ?_
    refine mm_callSi (as := [.int v1]) (st := []) (c_R_bits E v1 M_2) dX12_rooms_9 mz_X12_bits lk_RX12_367 sm_X12_bits rfl ⟨Nat.le_of_ble_eq_true rfl, Nat.le_of_ble_eq_true rfl⟩ (Nat.le_of_ble_eq_true rfl) (fun r_3 M_4 => ?_)
    refine mm_iload_n 2 dX12_rooms_12 rfl ?_
    refine mm_icmp_ne 58 dX12_rooms_13 rfl ?_ ?_
    · refine mm_iconst (v := (-1)) dX12_rooms_58 rfl ?_
      exact mm_iret dX12_rooms_59 rfl
    · refine mm_iload_n 2 dX12_rooms_16 rfl ?_
      refine mm_iconst (v := 1) dX12_rooms_17 rfl ?_
      refine mm_bipush (v := 6) dX12_rooms_18 rfl ?_
      refine mm_callSz (as := [.int v2, .int 1, .int 6]) (st := []) (c_R_in E v2 1 6 M_4) dX12_rooms_20 mz_X12_in lk_RX12_169 sm_X12_in rfl ⟨Nat.le_of_ble_eq_true rfl, Nat.le_of_ble_eq_true rfl⟩ (Nat.le_of_ble_eq_true rfl) (fun b_5 M_6 => ?_)
      refine mm_if_eq_b 58 dX12_rooms_23 rfl ?_ ?_
      · refine mm_iconst (v := (-1)) dX12_rooms_58 rfl ?_
        exact mm_iret dX12_rooms_59 rfl
      · refine mm_iload_n 3 dX12_rooms_26 rfl ?_
        refine mm_bipush (v := 10) dX12_rooms_27 rfl ?_
        refine mm_jnP (P := fun j => ∀ (M : mm_M), mm_G (fun x : Int32 => some (.int x)) E Y_X12_rooms 6 50 [(0, .ref 97), (1, .int v1), (2, .int v2), (3, .int v3)] [] M (j M)) ?_ (fun j50 hj50 => ?_)
        · intro M_7
          refine mm_iload_n 2 dX12_rooms_50 rfl ?_
          refine mm_aload_n 0 dX12_rooms_51 rfl ?_
          refine mm_getI dX12_rooms_52 fl_RX12_144 lo_97 rfl ?_
          refine mm_icmp_le 60 dX12_rooms_55 rfl ?_ ?_
          · refine mm_aload_n 0 dX12_rooms_60 rfl ?_
            refine mm_iconst (v := 0) dX12_rooms_61 rfl ?_
            refine mm_putI dX12_rooms_62 fp_RX12_144 lo_97 rfl ?_
            refine mm_nm_M (fun M_8 => ?_)
            refine mm_aload_n 0 dX12_rooms_65 rfl ?_
            refine mm_iload_n 1 dX12_rooms_66 rfl ?_
            refine mm_iload_n 2 dX12_rooms_67 rfl ?_
            refine mm_callVz (as := [.int v1, .int v2]) (st := []) (c_R_takesRooms E v1 v2 M_8) dX12_rooms_68 mz_X12_takesRooms lk_RX12_390 im_X12_takesRooms se_X12_takesRooms lo_97 rfl rfl rfl ⟨Nat.le_of_ble_eq_true rfl, Nat.le_of_ble_eq_true rfl⟩ (Nat.le_of_ble_eq_true rfl) (fun b_9 M_10 => ?_)
            refine mm_if_ne_b 77 dX12_rooms_71 rfl ?_ ?_
            · refine mm_aload_n 0 dX12_rooms_77 rfl ?_
              refine mm_iload_n 1 dX12_rooms_78 rfl ?_
              refine mm_callVv (as := [.int v1]) (st := []) (c_R_laysWho E v1 M_10) dX12_rooms_79 mz_X12_laysWho lk_RX12_393 im_X12_laysWho se_X12_laysWho lo_97 rfl rfl rfl ⟨Nat.le_of_ble_eq_true rfl, Nat.le_of_ble_eq_true rfl⟩ (Nat.le_of_ble_eq_true rfl) (fun u_11 M_12 => ?_)
              refine mm_iconst (v := 0) dX12_rooms_82 rfl ?_
              refine mm_istore [1, 2, 3, 4, 0] (lv2 := [(0, .ref 97), (1, .int v1), (2, .int v2), (3, .int v3), (4, .int 0)]) dX12_rooms_83 (by decide) rfl ?_
              refine mm_wk [0, 3, 4] rfl ?_
              refine lp_R_rooms_85_ok E v3 ?_ mm_fu 0 M_12
              · intro M_15
                refine mm_aload_n 0 dX12_rooms_112 rfl ?_
                refine mm_callVi (as := []) (st := []) (c_R_firstRooms E M_15) dX12_rooms_113 mz_X12_firstRooms lk_RX12_396 im_X12_firstRooms se_X12_firstRooms lo_97 rfl rfl rfl ⟨Nat.le_of_ble_eq_true rfl, Nat.le_of_ble_eq_true rfl⟩ (Nat.le_of_ble_eq_true rfl) (fun r_16 M_17 => ?_)
                refine mm_istore [1, 2, 0] (lv2 := [(0, .ref 97), (3, .int v3), (4, .int r_16)]) dX12_rooms_116 (by decide) rfl ?_
                refine mm_iload_n 1 dX12_rooms_118 rfl ?_
                refine mm_bipush (v := 10) dX12_rooms_119 rfl ?_
                refine mm_jnP (P := fun j => ∀ (v4 : Int32) (s0 : Int32) (M : mm_M), mm_G (fun x : Int32 => some (.int x)) E Y_X12_rooms 6 155 [(0, .ref 97), (3, .int v3), (4, .int v4)] [.int s0] M (j v4 s0 M)) ?_ (fun j155 hj155 => ?_)
                · intro v4 s0 M_18
                  refine mm_istore [1, 2, 3, 0] (lv2 := [(0, .ref 97), (3, .int v3), (4, .int v4), (5, .int s0)]) dX12_rooms_155 (by decide) rfl ?_
                  refine mm_iconst (v := 0) dX12_rooms_157 rfl ?_
                  refine mm_istore [1, 2, 3, 4, 0] (lv2 := [(0, .ref 97), (3, .int v3), (4, .int v4), (5, .int s0), (6, .int 0)]) dX12_rooms_158 (by decide) rfl ?_
                  refine lp_R_rooms_160_ok E v3 v4 s0 ?_ mm_fu 0 M_18
                  · intro M_22
                    refine mm_iload 0 dX12_rooms_199 rfl ?_
                    exact mm_iret dX12_rooms_201 rfl
                refine mm_icmp_ne 138 dX12_rooms_121 rfl ?_ ?_
                · refine mm_iload 2 dX12_rooms_138 rfl ?_
                  refine mm_iconst (v := (-1)) dX12_rooms_140 rfl ?_
                  refine mm_icmp_ne 149 dX12_rooms_141 rfl ?_ ?_
                  · refine mm_aload_n 0 dX12_rooms_149 rfl ?_
                    refine mm_getR 105 dX12_rooms_150 fl_RX12_32 lo_97 rfl ?_
                    refine mm_iload_n 1 dX12_rooms_153 rfl ?_
                    refine mm_iaload dX12_rooms_154 ?_
                    exact hj155 r_16 (M_17.2.1 105 v3.toNatClampNeg) M_17
                  · refine mm_bipush (v := (-2)) dX12_rooms_144 rfl ?_
                    refine mm_goto 155 dX12_rooms_146 rfl ?_
                    exact hj155 r_16 (-2) M_17
                · refine mm_iload 2 dX12_rooms_124 rfl ?_
                  refine mm_iconst (v := (-1)) dX12_rooms_126 rfl ?_
                  refine mm_icmp_ne 134 dX12_rooms_127 rfl ?_ ?_
                  · refine mm_iconst (v := 1) dX12_rooms_134 rfl ?_
                    refine mm_goto 155 dX12_rooms_135 rfl ?_
                    exact hj155 r_16 1 M_17
                  · refine mm_iconst (v := 0) dX12_rooms_130 rfl ?_
                    refine mm_goto 155 dX12_rooms_131 rfl ?_
                    exact hj155 r_16 0 M_17
            · refine mm_bipush (v := (-3)) dX12_rooms_74 rfl ?_
              exact mm_iret dX12_rooms_76 rfl
          · refine mm_iconst (v := (-1)) dX12_rooms_58 rfl ?_
            exact mm_iret dX12_rooms_59 rfl
        refine mm_icmp_eq 50 dX12_rooms_29 rfl ?_ ?_
        · exact hj50  M_6
        · refine mm_iload_n 3 dX12_rooms_32 rfl ?_
          refine mm_iconst (v := 0) dX12_rooms_33 rfl ?_
          refine mm_bipush (v := 9) dX12_rooms_34 rfl ?_
          refine mm_callSz (as := [.int v3, .int 0, .int 9]) (st := []) (c_R_in E v3 0 9 M_6) dX12_rooms_36 mz_X12_in lk_RX12_169 sm_X12_in rfl ⟨Nat.le_of_ble_eq_true rfl, Nat.le_of_ble_eq_true rfl⟩ (Nat.le_of_ble_eq_true rfl) (fun b_23 M_24 => ?_)
          refine mm_if_eq_b 58 dX12_rooms_39 rfl ?_ ?_
          · refine mm_iconst (v := (-1)) dX12_rooms_58 rfl ?_
            exact mm_iret dX12_rooms_59 rfl
          · refine mm_iload_n 1 dX12_rooms_42 rfl ?_
            refine mm_iload_n 3 dX12_rooms_43 rfl ?_
            refine mm_callSz (as := [.int v1, .int v3]) (st := []) (c_R_has E v1 v3 M_24) dX12_rooms_44 mz_X12_has lk_RX12_199 sm_X12_has rfl ⟨Nat.le_of_ble_eq_true rfl, Nat.le_of_ble_eq_true rfl⟩ (Nat.le_of_ble_eq_true rfl) (fun b_25 M_26 => ?_)
            refine mm_if_eq_b 58 dX12_rooms_47 rfl ?_ ?_
            · refine mm_iconst (v := (-1)) dX12_rooms_58 rfl ?_
              exact mm_iret dX12_rooms_59 rfl
            · exact hj50  M_26
