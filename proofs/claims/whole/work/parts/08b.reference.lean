def lp_R_wantAll_6 (v1 : Int32) (v2 : Int32) (v3 : Int32) (k45 : Int32 → mm_M → Option (Int32 × mm_M)) : Nat → Int32 → Int32 → mm_M → Option (Int32 × mm_M)
  | 0, _, _, _ => none
  | n + 1, v4, v5, M => if 10 ≤ v5 then k45 v4 M else mm_bd (f_R_has v1 v5 M) fun b_1 M_2 => mm_jn (fun (v5 : Int32) (s0 : Int32) (s1 : Int32) (M_3 : mm_M) => mm_let (s0 + s1) fun v4_4 => mm_let (v5 + 1) fun v5_5 => lp_R_wantAll_6 v1 v2 v3 k45 n v4_4 v5_5 M_3) fun j36 => if b_1 = true then mm_bd (f_R_wantOf v5 v2 v3 M_2) fun r_6 M_7 => j36 v5 v4 r_6 M_7 else j36 v5 v4 0 M_2
set_option maxHeartbeats 4000000 in
theorem lp_R_wantAll_6_ok (E : mm_E) (v1 : Int32) (v2 : Int32) (v3 : Int32) {k45 : Int32 → mm_M → Option (Int32 × mm_M)} (hk45 : ∀ (v4 : Int32) (M : mm_M), mm_G (fun x : Int32 => some (.int x)) E Y_X12_wantAll 2 45 [(4, .int v4)] [] M (k45 v4 M)) : ∀ (n : Nat) (v4 : Int32) (v5 : Int32) (M : mm_M), mm_G (fun x : Int32 => some (.int x)) E Y_X12_wantAll 2 6 [(0, .ref 97), (1, .int v1), (2, .int v2), (3, .int v3), (4, .int v4), (5, .int v5)] [] M (lp_R_wantAll_6 v1 v2 v3 k45 n v4 v5 M) := by
  intro n
  induction n with
  | zero => intro v4 v5 M r M2 he; cases he
  | succ n ih =>
    intro v4 v5 M
    rw [lp_R_wantAll_6]
    refine mm_iload 5 dX12_wantAll_6 rfl ?_
    refine mm_bipush (v := 10) dX12_wantAll_8 rfl ?_
    refine mm_icmp_ge 45 dX12_wantAll_10 rfl ?_ ?_
    · refine mm_wk [4] rfl ?_
      exact hk45 v4 M
    · refine mm_iload 4 dX12_wantAll_13 rfl ?_
      refine mm_iload_n 1 dX12_wantAll_15 rfl ?_
      refine mm_iload 5 dX12_wantAll_16 rfl ?_
      refine mm_callSz (as := [.int v1, .int v5]) (st := [.int v4]) (c_R_has E v1 v5 M) dX12_wantAll_18 mz_X12_has lk_RX12_199 sm_X12_has rfl ⟨Nat.le_of_ble_eq_true rfl, Nat.le_of_ble_eq_true rfl⟩ (Nat.le_of_ble_eq_true rfl) (fun b_1 M_2 => ?_)
      refine mm_jnP (P := fun j => ∀ (v5 : Int32) (s0 : Int32) (s1 : Int32) (M : mm_M), mm_G (fun x : Int32 => some (.int x)) E Y_X12_wantAll 2 36 [(0, .ref 97), (1, .int v1), (2, .int v2), (3, .int v3), (5, .int v5)] [.int s1, .int s0] M (j v5 s0 s1 M)) ?_ (fun j36 hj36 => ?_)
      · intro v5 s0 s1 M_3
        refine mm_iadd dX12_wantAll_36 ?_
        refine mm_nm_int (fun v4_4 => ?_)
        refine mm_istore [1, 2, 3, 4, 0, 5] (lv2 := [(0, .ref 97), (1, .int v1), (2, .int v2), (3, .int v3), (4, .int v4_4), (5, .int v5)]) dX12_wantAll_37 (by decide) rfl ?_
        refine mm_iincN 5 [1, 2, 3, 4, 5, 0] (v := v5 + 1) (lv2 := fun v5_5 => [(0, .ref 97), (1, .int v1), (2, .int v2), (3, .int v3), (4, .int v4_4), (5, .int v5_5)]) dX12_wantAll_39 rfl rfl (by decide) (fun _ => rfl) (fun v5_5 => ?_)
        refine mm_goto 6 dX12_wantAll_42 rfl ?_
        exact ih v4_4 v5_5 M_3
      refine mm_if_eq_b 35 dX12_wantAll_21 rfl ?_ ?_
      · refine mm_iconst (v := 0) dX12_wantAll_35 rfl ?_
        refine mm_wk [0, 1, 2, 3, 5] rfl ?_
        exact hj36 v5 v4 0 M_2
      · refine mm_aload_n 0 dX12_wantAll_24 rfl ?_
        refine mm_iload 5 dX12_wantAll_25 rfl ?_
        refine mm_iload_n 2 dX12_wantAll_27 rfl ?_
        refine mm_iload_n 3 dX12_wantAll_28 rfl ?_
        refine mm_callVi (as := [.int v5, .int v2, .int v3]) (st := [.int v4]) (c_R_wantOf E v5 v2 v3 M_2) dX12_wantAll_29 mz_X12_wantOf lk_RX12_230 im_X12_wantOf se_X12_wantOf lo_97 rfl rfl rfl ⟨Nat.le_of_ble_eq_true rfl, Nat.le_of_ble_eq_true rfl⟩ (Nat.le_of_ble_eq_true rfl) (fun r_6 M_7 => ?_)
        refine mm_goto 36 dX12_wantAll_32 rfl ?_
        refine mm_wk [0, 1, 2, 3, 5] rfl ?_
        exact hj36 v5 v4 r_6 M_7
def f_R_wantAll (v1 : Int32) (v2 : Int32) (v3 : Int32) (M : mm_M) : Option (Int32 × mm_M) := lp_R_wantAll_6 v1 v2 v3 (fun (v4 : Int32) (M_8 : mm_M) => some (v4, M_8)) mm_fu 0 0 M
set_option maxHeartbeats 4000000 in
theorem c_R_wantAll (E : mm_E) (v1 : Int32) (v2 : Int32) (v3 : Int32) (M : mm_M) : ∀ (r : Int32) (M2 : mm_M), f_R_wantAll v1 v2 v3 M = some (r, M2) → mm_P E Y_X12_wantAll 2 [.ref 97, .int v1, .int v2, .int v3] M (some (.int r)) M2 := by
  refine mm_entry (em := (fun x : Int32 => some (.int x))) (by decide +kernel) (Nat.le_of_ble_eq_true rfl) ?_
  show mm_G _ E _ _ 0 [(0, .ref 97), (1, .int v1), (2, .int v2), (3, .int v3)] [] M _
  unfold f_R_wantAll
  refine mm_iconst (v := 0) dX12_wantAll_0 rfl ?_
  refine mm_istore [1, 2, 3, 4, 0] (lv2 := [(0, .ref 97), (1, .int v1), (2, .int v2), (3, .int v3), (4, .int 0)]) dX12_wantAll_1 (by decide) rfl ?_
  refine mm_iconst (v := 0) dX12_wantAll_3 rfl ?_
  refine mm_istore [1, 2, 3, 4, 5, 0] (lv2 := [(0, .ref 97), (1, .int v1), (2, .int v2), (3, .int v3), (4, .int 0), (5, .int 0)]) dX12_wantAll_4 (by decide) rfl ?_
  refine lp_R_wantAll_6_ok E v1 v2 v3 ?_ mm_fu 0 0 M
  · intro v4 M_8
    refine mm_iload 0 dX12_wantAll_45 rfl ?_
    exact mm_iret dX12_wantAll_47 rfl
def f_R_wants (v1 : Int32) (v2 : Int32) (M : mm_M) : Option (Int32 × mm_M) := mm_bd (f_R_isKind v1 M) fun b_1 M_2 => if b_1 = true then mm_bd (f_R_isHour v2 M_2) fun b_3 M_4 => if b_3 = true then mm_bd (f_R_wantAll (M_4.1 97 12) v1 v2 M_4) fun r_5 M_6 => some (r_5, M_6) else some ((-1), M_4) else some ((-1), M_2)
set_option maxHeartbeats 4000000 in
theorem c_R_wants (E : mm_E) (v1 : Int32) (v2 : Int32) (M : mm_M) : ∀ (r : Int32) (M2 : mm_M), f_R_wants v1 v2 M = some (r, M2) → mm_P E Y_X12_wants 3 [.ref 97, .int v1, .int v2] M (some (.int r)) M2 := by
  refine mm_entry (em := (fun x : Int32 => some (.int x))) (by decide +kernel) (Nat.le_of_ble_eq_true rfl) ?_
  show mm_G _ E _ _ 0 [(0, .ref 97), (1, .int v1), (2, .int v2)] [] M _
  unfold f_R_wants
  refine mm_iload_n 1 dX12_wants_0 rfl ?_
  refine mm_callSz (as := [.int v1]) (st := []) (c_R_isKind E v1 M) dX12_wants_1 mz_X12_isKind lk_RX12_205 sm_X12_isKind rfl ⟨Nat.le_of_ble_eq_true rfl, Nat.le_of_ble_eq_true rfl⟩ (Nat.le_of_ble_eq_true rfl) (fun b_1 M_2 => ?_)
  refine mm_if_eq_b 27 dX12_wants_4 rfl ?_ ?_
  · refine mm_iconst (v := (-1)) dX12_wants_27 rfl ?_
    exact mm_iret dX12_wants_28 rfl
  · refine mm_iload_n 2 dX12_wants_7 rfl ?_
    refine mm_callSz (as := [.int v2]) (st := []) (c_R_isHour E v2 M_2) dX12_wants_8 mz_X12_isHour lk_RX12_208 sm_X12_isHour rfl ⟨Nat.le_of_ble_eq_true rfl, Nat.le_of_ble_eq_true rfl⟩ (Nat.le_of_ble_eq_true rfl) (fun b_3 M_4 => ?_)
    refine mm_if_eq_b 27 dX12_wants_11 rfl ?_ ?_
    · refine mm_iconst (v := (-1)) dX12_wants_27 rfl ?_
      exact mm_iret dX12_wants_28 rfl
    · refine mm_aload_n 0 dX12_wants_14 rfl ?_
      refine mm_aload_n 0 dX12_wants_15 rfl ?_
      refine mm_getI dX12_wants_16 fl_RX12_217 lo_97 rfl ?_
      refine mm_iload_n 1 dX12_wants_19 rfl ?_
      refine mm_iload_n 2 dX12_wants_20 rfl ?_
      refine mm_callVi (as := [.int (M_4.1 97 12), .int v1, .int v2]) (st := []) (c_R_wantAll E (M_4.1 97 12) v1 v2 M_4) dX12_wants_21 mz_X12_wantAll lk_RX12_234 im_X12_wantAll se_X12_wantAll lo_97 rfl rfl rfl ⟨Nat.le_of_ble_eq_true rfl, Nat.le_of_ble_eq_true rfl⟩ (Nat.le_of_ble_eq_true rfl) (fun r_5 M_6 => ?_)
      refine mm_goto 28 dX12_wants_24 rfl ?_
      exact mm_iret dX12_wants_28 rfl
def f_R_factOf (v0 : Int32) (M : mm_M) : Option (Int32 × mm_M) := if v0 = 99 then some (4, M) else if v0 = 100 then some (3, M) else if v0 = 101 then some ((-1), M) else if v0 = 102 then some (2, M) else if v0 = 103 then some (8, M) else if v0 = 104 then some ((-1), M) else if v0 = 105 then some ((-1), M) else if v0 = 106 then some ((-1), M) else if v0 = 107 then some (6, M) else if v0 = 108 then some ((-1), M) else if v0 = 109 then some ((-1), M) else if v0 = 110 then some (7, M) else if v0 = 111 then some ((-1), M) else if v0 = 112 then some ((-1), M) else if v0 = 113 then some ((-1), M) else if v0 = 114 then some (1, M) else if v0 = 115 then some (0, M) else if v0 = 116 then some (5, M) else some ((-1), M)
set_option maxHeartbeats 4000000 in
theorem c_R_factOf (E : mm_E) (v0 : Int32) (M : mm_M) : ∀ (r : Int32) (M2 : mm_M), f_R_factOf v0 M = some (r, M2) → mm_P E Y_X12_factOf 1 [.int v0] M (some (.int r)) M2 := by
  refine mm_entry (em := (fun x : Int32 => some (.int x))) (by decide +kernel) (Nat.le_of_ble_eq_true rfl) ?_
  show mm_G _ E _ _ 0 [(0, .int v0)] [] M _
  unfold f_R_factOf
  refine mm_iload_n 0 dX12_factOf_0 rfl ?_
  refine mm_tabC 99 96 dX12_factOf_1 (by decide) (by decide) rfl rfl ?_ (fun h99 => ?_)
  · refine mm_iconst (v := 4) dX12_factOf_96 rfl ?_
    exact mm_iret dX12_factOf_97 rfl
  refine mm_tabC 100 94 dX12_factOf_1 (by decide) (by decide) rfl rfl ?_ (fun h100 => ?_)
  · refine mm_iconst (v := 3) dX12_factOf_94 rfl ?_
    exact mm_iret dX12_factOf_95 rfl
  refine mm_tabC 101 109 dX12_factOf_1 (by decide) (by decide) rfl rfl ?_ (fun h101 => ?_)
  · refine mm_iconst (v := (-1)) dX12_factOf_109 rfl ?_
    exact mm_iret dX12_factOf_110 rfl
  refine mm_tabC 102 92 dX12_factOf_1 (by decide) (by decide) rfl rfl ?_ (fun h102 => ?_)
  · refine mm_iconst (v := 2) dX12_factOf_92 rfl ?_
    exact mm_iret dX12_factOf_93 rfl
  refine mm_tabC 103 106 dX12_factOf_1 (by decide) (by decide) rfl rfl ?_ (fun h103 => ?_)
  · refine mm_bipush (v := 8) dX12_factOf_106 rfl ?_
    exact mm_iret dX12_factOf_108 rfl
  refine mm_tabC 104 109 dX12_factOf_1 (by decide) (by decide) rfl rfl ?_ (fun h104 => ?_)
  · refine mm_iconst (v := (-1)) dX12_factOf_109 rfl ?_
    exact mm_iret dX12_factOf_110 rfl
  refine mm_tabC 105 109 dX12_factOf_1 (by decide) (by decide) rfl rfl ?_ (fun h105 => ?_)
  · refine mm_iconst (v := (-1)) dX12_factOf_109 rfl ?_
    exact mm_iret dX12_factOf_110 rfl
  refine mm_tabC 106 109 dX12_factOf_1 (by decide) (by decide) rfl rfl ?_ (fun h106 => ?_)
  · refine mm_iconst (v := (-1)) dX12_factOf_109 rfl ?_
    exact mm_iret dX12_factOf_110 rfl
  refine mm_tabC 107 100 dX12_factOf_1 (by decide) (by decide) rfl rfl ?_ (fun h107 => ?_)
  · refine mm_bipush (v := 6) dX12_factOf_100 rfl ?_
    exact mm_iret dX12_factOf_102 rfl
  refine mm_tabC 108 109 dX12_factOf_1 (by decide) (by decide) rfl rfl ?_ (fun h108 => ?_)
  · refine mm_iconst (v := (-1)) dX12_factOf_109 rfl ?_
    exact mm_iret dX12_factOf_110 rfl
  refine mm_tabC 109 109 dX12_factOf_1 (by decide) (by decide) rfl rfl ?_ (fun h109 => ?_)
  · refine mm_iconst (v := (-1)) dX12_factOf_109 rfl ?_
    exact mm_iret dX12_factOf_110 rfl
  refine mm_tabC 110 103 dX12_factOf_1 (by decide) (by decide) rfl rfl ?_ (fun h110 => ?_)
  · refine mm_bipush (v := 7) dX12_factOf_103 rfl ?_
    exact mm_iret dX12_factOf_105 rfl
  refine mm_tabC 111 109 dX12_factOf_1 (by decide) (by decide) rfl rfl ?_ (fun h111 => ?_)
  · refine mm_iconst (v := (-1)) dX12_factOf_109 rfl ?_
    exact mm_iret dX12_factOf_110 rfl
  refine mm_tabC 112 109 dX12_factOf_1 (by decide) (by decide) rfl rfl ?_ (fun h112 => ?_)
  · refine mm_iconst (v := (-1)) dX12_factOf_109 rfl ?_
    exact mm_iret dX12_factOf_110 rfl
  refine mm_tabC 113 109 dX12_factOf_1 (by decide) (by decide) rfl rfl ?_ (fun h113 => ?_)
  · refine mm_iconst (v := (-1)) dX12_factOf_109 rfl ?_
    exact mm_iret dX12_factOf_110 rfl
  refine mm_tabC 114 90 dX12_factOf_1 (by decide) (by decide) rfl rfl ?_ (fun h114 => ?_)
  · refine mm_iconst (v := 1) dX12_factOf_90 rfl ?_
    exact mm_iret dX12_factOf_91 rfl
  refine mm_tabC 115 88 dX12_factOf_1 (by decide) (by decide) rfl rfl ?_ (fun h115 => ?_)
  · refine mm_iconst (v := 0) dX12_factOf_88 rfl ?_
    exact mm_iret dX12_factOf_89 rfl
  refine mm_tabC 116 98 dX12_factOf_1 (by decide) (by decide) rfl rfl ?_ (fun h116 => ?_)
  · refine mm_iconst (v := 5) dX12_factOf_98 rfl ?_
    exact mm_iret dX12_factOf_99 rfl
  refine mm_tabD 109 dX12_factOf_1 ?_ rfl ?_
  · have := lv_neT (a := 99) h99 (by decide); have := lv_neT (a := 100) h100 (by decide); have := lv_neT (a := 101) h101 (by decide); have := lv_neT (a := 102) h102 (by decide); have := lv_neT (a := 103) h103 (by decide); have := lv_neT (a := 104) h104 (by decide); have := lv_neT (a := 105) h105 (by decide); have := lv_neT (a := 106) h106 (by decide); have := lv_neT (a := 107) h107 (by decide); have := lv_neT (a := 108) h108 (by decide); have := lv_neT (a := 109) h109 (by decide); have := lv_neT (a := 110) h110 (by decide); have := lv_neT (a := 111) h111 (by decide); have := lv_neT (a := 112) h112 (by decide); have := lv_neT (a := 113) h113 (by decide); have := lv_neT (a := 114) h114 (by decide); have := lv_neT (a := 115) h115 (by decide); have := lv_neT (a := 116) h116 (by decide)
    omega
  refine mm_iconst (v := (-1)) dX12_factOf_109 rfl ?_
  exact mm_iret dX12_factOf_110 rfl
def f_R_notes (v1 : Int32) (v2 : Int32) (M : mm_M) : Option (Unit × mm_M) := if mm_in (M.1 97 23) (mm_al 109) = true then mm_let (mm_setA M 109 ((M.1 97 23).toNatClampNeg) ((1048576 * v1) + v2)) fun M_1 => mm_let (mm_setI M_1 97 23 ((M_1.1 97 23) + 1)) fun M_2 => some ((), M_2) else none
set_option maxHeartbeats 4000000 in
theorem c_R_notes (E : mm_E) (v1 : Int32) (v2 : Int32) (M : mm_M) : ∀ (r : Unit) (M2 : mm_M), f_R_notes v1 v2 M = some (r, M2) → mm_P E Y_X12_notes 1 [.ref 97, .int v1, .int v2] M none M2 := by
  refine mm_entry (em := (fun _ : Unit => none)) (by decide +kernel) (Nat.le_of_ble_eq_true rfl) ?_
  show mm_G _ E _ _ 0 [(0, .ref 97), (1, .int v1), (2, .int v2)] [] M _
  unfold f_R_notes
  refine mm_aload_n 0 dX12_notes_0 rfl ?_
  refine mm_getR 109 dX12_notes_1 fl_RX12_44 lo_97 rfl ?_
  refine mm_aload_n 0 dX12_notes_4 rfl ?_
  refine mm_getI dX12_notes_5 fl_RX12_237 lo_97 rfl ?_
  refine mm_ldc dX12_notes_8 ct_RX12_240 ?_
  refine mm_iload_n 1 dX12_notes_10 rfl ?_
  refine mm_imul dX12_notes_11 ?_
  refine mm_iload_n 2 dX12_notes_12 rfl ?_
  refine mm_iadd dX12_notes_13 ?_
  refine mm_iastore dX12_notes_14 ?_
  refine mm_nm_M (fun M_1 => ?_)
  refine mm_aload_n 0 dX12_notes_15 rfl ?_
  refine mm_aload_n 0 dX12_notes_16 rfl ?_
  refine mm_getI dX12_notes_17 fl_RX12_237 lo_97 rfl ?_
  refine mm_iconst (v := 1) dX12_notes_20 rfl ?_
  refine mm_iadd dX12_notes_21 ?_
  refine mm_putI dX12_notes_22 fp_RX12_237 lo_97 rfl ?_
  refine mm_nm_M (fun M_2 => ?_)
  exact mm_vret dX12_notes_25 rfl
def lp_R_readsNumber_10 (v1 : Int32) (k27 : mm_M → Option (Bool × mm_M)) (k69 : mm_M → Option (Bool × mm_M)) : Nat → mm_M → Option (Bool × mm_M)
  | 0, _ => none
  | n + 1, M => mm_bd (f_R_isDigit M) fun b_3 M_4 => if b_3 = true then if M_4.1 97 2 = v1 + 5 then k27 M_4 else mm_bd (f_R_here M_4) fun r_5 M_6 => mm_let (mm_setI M_6 97 5 (((10 * (M_4.1 97 5)) + r_5) - 48)) fun M_7 => mm_let (mm_setI M_7 97 2 ((M_7.1 97 2) + 1)) fun M_8 => lp_R_readsNumber_10 v1 k27 k69 n M_8 else k69 M_4
set_option maxHeartbeats 4000000 in
theorem lp_R_readsNumber_10_ok (E : mm_E) (v1 : Int32) {k27 : mm_M → Option (Bool × mm_M)} {k69 : mm_M → Option (Bool × mm_M)} (hk27 : ∀ (M : mm_M), mm_G (fun x : Bool => some (.int (mm_b x))) E Y_X12_readsNumber 3 27 [(0, .ref 97)] [] M (k27 M)) (hk69 : ∀ (M : mm_M), mm_G (fun x : Bool => some (.int (mm_b x))) E Y_X12_readsNumber 3 69 [] [] M (k69 M)) : ∀ (n : Nat) (M : mm_M), mm_G (fun x : Bool => some (.int (mm_b x))) E Y_X12_readsNumber 3 10 [(0, .ref 97), (1, .int v1)] [] M (lp_R_readsNumber_10 v1 k27 k69 n M) := by
  intro n
  induction n with
  | zero => intro M r M2 he; cases he
  | succ n ih =>
    intro M
    rw [lp_R_readsNumber_10]
    refine mm_aload_n 0 dX12_readsNumber_10 rfl ?_
    refine mm_callVz (as := []) (st := []) (c_R_isDigit E M) dX12_readsNumber_11 mz_X12_isDigit lk_RX12_157 im_X12_isDigit se_X12_isDigit lo_97 rfl rfl rfl ⟨Nat.le_of_ble_eq_true rfl, Nat.le_of_ble_eq_true rfl⟩ (Nat.le_of_ble_eq_true rfl) (fun b_3 M_4 => ?_)
    refine mm_if_eq_b 69 dX12_readsNumber_14 rfl ?_ ?_
    · refine mm_wk [] rfl ?_
      exact hk69  M_4
    · refine mm_aload_n 0 dX12_readsNumber_17 rfl ?_
      refine mm_getI dX12_readsNumber_18 fl_RX12_151 lo_97 rfl ?_
      refine mm_iload_n 1 dX12_readsNumber_21 rfl ?_
      refine mm_iconst (v := 5) dX12_readsNumber_22 rfl ?_
      refine mm_iadd dX12_readsNumber_23 ?_
      refine mm_icmp_ne 37 dX12_readsNumber_24 rfl ?_ ?_
      · refine mm_aload_n 0 dX12_readsNumber_37 rfl ?_
        refine mm_bipush (v := 10) dX12_readsNumber_38 rfl ?_
        refine mm_aload_n 0 dX12_readsNumber_40 rfl ?_
        refine mm_getI dX12_readsNumber_41 fl_RX12_154 lo_97 rfl ?_
        refine mm_imul dX12_readsNumber_44 ?_
        refine mm_aload_n 0 dX12_readsNumber_45 rfl ?_
        refine mm_callVi (as := []) (st := [.int (10 * (M_4.1 97 5)), .ref 97]) (c_R_here E M_4) dX12_readsNumber_46 mz_X12_here lk_RX12_165 im_X12_here se_X12_here lo_97 rfl rfl rfl ⟨Nat.le_of_ble_eq_true rfl, Nat.le_of_ble_eq_true rfl⟩ (Nat.le_of_ble_eq_true rfl) (fun r_5 M_6 => ?_)
        refine mm_iadd dX12_readsNumber_49 ?_
        refine mm_bipush (v := 48) dX12_readsNumber_50 rfl ?_
        refine mm_isub dX12_readsNumber_52 ?_
        refine mm_putI dX12_readsNumber_53 fp_RX12_154 lo_97 rfl ?_
        refine mm_nm_M (fun M_7 => ?_)
        refine mm_aload_n 0 dX12_readsNumber_56 rfl ?_
        refine mm_aload_n 0 dX12_readsNumber_57 rfl ?_
        refine mm_getI dX12_readsNumber_58 fl_RX12_151 lo_97 rfl ?_
        refine mm_iconst (v := 1) dX12_readsNumber_61 rfl ?_
        refine mm_iadd dX12_readsNumber_62 ?_
        refine mm_putI dX12_readsNumber_63 fp_RX12_151 lo_97 rfl ?_
        refine mm_nm_M (fun M_8 => ?_)
        refine mm_goto 10 dX12_readsNumber_66 rfl ?_
        exact ih  M_8
      · refine mm_wk [0] rfl ?_
        exact hk27  M_4
def f_R_readsNumber (M : mm_M) : Option (Bool × mm_M) := mm_let (M.1 97 2) fun v1_1 => mm_let (mm_setI M 97 5 0) fun M_2 => lp_R_readsNumber_10 v1_1 (fun (M_9 : mm_M) => mm_bd (f_R_wrongAt 2 (M_9.1 97 2) M_9) fun b_10 M_11 => some (b_10, M_11)) (fun (M_12 : mm_M) => some (true, M_12)) mm_fu M_2
set_option maxHeartbeats 4000000 in
theorem c_R_readsNumber (E : mm_E) (M : mm_M) : ∀ (r : Bool) (M2 : mm_M), f_R_readsNumber M = some (r, M2) → mm_P E Y_X12_readsNumber 3 [.ref 97] M (some (.int (mm_b r))) M2 := by
  refine mm_entry (em := (fun x : Bool => some (.int (mm_b x)))) (by decide +kernel) (Nat.le_of_ble_eq_true rfl) ?_
  show mm_G _ E _ _ 0 [(0, .ref 97)] [] M _
  unfold f_R_readsNumber
  refine mm_aload_n 0 dX12_readsNumber_0 rfl ?_
  refine mm_getI dX12_readsNumber_1 fl_RX12_151 lo_97 rfl ?_
  refine mm_nm_int (fun v1_1 => ?_)
  refine mm_istore_n [1, 0] (lv2 := [(0, .ref 97), (1, .int v1_1)]) dX12_readsNumber_4 (by decide) rfl ?_
  refine mm_aload_n 0 dX12_readsNumber_5 rfl ?_
  refine mm_iconst (v := 0) dX12_readsNumber_6 rfl ?_
  refine mm_putI dX12_readsNumber_7 fp_RX12_154 lo_97 rfl ?_
  refine mm_nm_M (fun M_2 => ?_)
  refine lp_R_readsNumber_10_ok E v1_1 ?_ ?_ mm_fu M_2
  · intro M_9
    refine mm_aload_n 0 dX12_readsNumber_27 rfl ?_
    refine mm_iconst (v := 2) dX12_readsNumber_28 rfl ?_
    refine mm_aload_n 0 dX12_readsNumber_29 rfl ?_
    refine mm_getI dX12_readsNumber_30 fl_RX12_151 lo_97 rfl ?_
    refine mm_callVz (as := [.int 2, .int (M_9.1 97 2)]) (st := []) (c_R_wrongAt E 2 (M_9.1 97 2) M_9) dX12_readsNumber_33 mz_X12_wrongAt lk_RX12_161 im_X12_wrongAt se_X12_wrongAt lo_97 rfl rfl rfl ⟨Nat.le_of_ble_eq_true rfl, Nat.le_of_ble_eq_true rfl⟩ (Nat.le_of_ble_eq_true rfl) (fun b_10 M_11 => ?_)
    exact mm_zret (b := b_10) dX12_readsNumber_36 rfl
  · intro M_12
    refine mm_iconst (v := 1) dX12_readsNumber_69 rfl ?_
    exact mm_zret (b := true) dX12_readsNumber_70 rfl
def f_R_opens (v1 : Int32) (M : mm_M) : Option (Bool × mm_M) := if M.1 97 22 = 6 then mm_bd (f_R_wrongAt 5 (M.1 97 2) M) fun b_5 M_6 => some (b_5, M_6) else mm_let (mm_setI M 97 22 ((M.1 97 22) + 1)) fun M_1 => if mm_in (M_1.1 97 24) (mm_al 110) = true then mm_let (mm_setA M_1 110 ((M_1.1 97 24).toNatClampNeg) (1048576 * v1)) fun M_2 => mm_let (mm_setI M_2 97 24 ((M_2.1 97 24) + 1)) fun M_3 => mm_let (mm_setI M_3 97 2 ((M_3.1 97 2) + 1)) fun M_4 => some (true, M_4) else none
set_option maxHeartbeats 4000000 in
theorem c_R_opens (E : mm_E) (v1 : Int32) (M : mm_M) : ∀ (r : Bool) (M2 : mm_M), f_R_opens v1 M = some (r, M2) → mm_P E Y_X12_opens 2 [.ref 97, .int v1] M (some (.int (mm_b r))) M2 := by
  refine mm_entry (em := (fun x : Bool => some (.int (mm_b x)))) (by decide +kernel) (Nat.le_of_ble_eq_true rfl) ?_
  show mm_G _ E _ _ 0 [(0, .ref 97), (1, .int v1)] [] M _
  unfold f_R_opens
  refine mm_aload_n 0 dX12_opens_0 rfl ?_
  refine mm_getI dX12_opens_1 fl_RX12_241 lo_97 rfl ?_
  refine mm_bipush (v := 6) dX12_opens_4 rfl ?_
  refine mm_icmp_ne 19 dX12_opens_6 rfl ?_ ?_
  · refine mm_aload_n 0 dX12_opens_19 rfl ?_
    refine mm_aload_n 0 dX12_opens_20 rfl ?_
    refine mm_getI dX12_opens_21 fl_RX12_241 lo_97 rfl ?_
    refine mm_iconst (v := 1) dX12_opens_24 rfl ?_
    refine mm_iadd dX12_opens_25 ?_
    refine mm_putI dX12_opens_26 fp_RX12_241 lo_97 rfl ?_
    refine mm_nm_M (fun M_1 => ?_)
    refine mm_aload_n 0 dX12_opens_29 rfl ?_
    refine mm_getR 110 dX12_opens_30 fl_RX12_47 lo_97 rfl ?_
    refine mm_aload_n 0 dX12_opens_33 rfl ?_
    refine mm_getI dX12_opens_34 fl_RX12_244 lo_97 rfl ?_
    refine mm_ldc dX12_opens_37 ct_RX12_240 ?_
    refine mm_iload_n 1 dX12_opens_39 rfl ?_
    refine mm_imul dX12_opens_40 ?_
    refine mm_iastore dX12_opens_41 ?_
    refine mm_nm_M (fun M_2 => ?_)
    refine mm_aload_n 0 dX12_opens_42 rfl ?_
    refine mm_aload_n 0 dX12_opens_43 rfl ?_
    refine mm_getI dX12_opens_44 fl_RX12_244 lo_97 rfl ?_
    refine mm_iconst (v := 1) dX12_opens_47 rfl ?_
    refine mm_iadd dX12_opens_48 ?_
    refine mm_putI dX12_opens_49 fp_RX12_244 lo_97 rfl ?_
    refine mm_nm_M (fun M_3 => ?_)
    refine mm_aload_n 0 dX12_opens_52 rfl ?_
    refine mm_aload_n 0 dX12_opens_53 rfl ?_
    refine mm_getI dX12_opens_54 fl_RX12_151 lo_97 rfl ?_
    refine mm_iconst (v := 1) dX12_opens_57 rfl ?_
    refine mm_iadd dX12_opens_58 ?_
    refine mm_putI dX12_opens_59 fp_RX12_151 lo_97 rfl ?_
    refine mm_nm_M (fun M_4 => ?_)
    refine mm_iconst (v := 1) dX12_opens_62 rfl ?_
    exact mm_zret (b := true) dX12_opens_63 rfl
  · refine mm_aload_n 0 dX12_opens_9 rfl ?_
    refine mm_iconst (v := 5) dX12_opens_10 rfl ?_
    refine mm_aload_n 0 dX12_opens_11 rfl ?_
    refine mm_getI dX12_opens_12 fl_RX12_151 lo_97 rfl ?_
    refine mm_callVz (as := [.int 5, .int (M.1 97 2)]) (st := []) (c_R_wrongAt E 5 (M.1 97 2) M) dX12_opens_15 mz_X12_wrongAt lk_RX12_161 im_X12_wrongAt se_X12_wrongAt lo_97 rfl rfl rfl ⟨Nat.le_of_ble_eq_true rfl, Nat.le_of_ble_eq_true rfl⟩ (Nat.le_of_ble_eq_true rfl) (fun b_5 M_6 => ?_)
    exact mm_zret (b := b_5) dX12_opens_18 rfl
def lp_R_readsFactor_0 (k18 : mm_M → Option (Bool × mm_M)) (k20 : mm_M → Option (Bool × mm_M)) : Nat → mm_M → Option (Bool × mm_M)
  | 0, _ => none
  | n + 1, M => mm_bd (f_R_here M) fun r_1 M_2 => if r_1 = 91 then mm_bd (f_R_opens 14 M_2) fun b_3 M_4 => if b_3 = true then lp_R_readsFactor_0 k18 k20 n M_4 else k18 M_4 else k20 M_2
set_option maxHeartbeats 4000000 in
theorem lp_R_readsFactor_0_ok (E : mm_E) {k18 : mm_M → Option (Bool × mm_M)} {k20 : mm_M → Option (Bool × mm_M)} (hk18 : ∀ (M : mm_M), mm_G (fun x : Bool => some (.int (mm_b x))) E Y_X12_readsFactor 4 18 [] [] M (k18 M)) (hk20 : ∀ (M : mm_M), mm_G (fun x : Bool => some (.int (mm_b x))) E Y_X12_readsFactor 4 20 [(0, .ref 97)] [] M (k20 M)) : ∀ (n : Nat) (M : mm_M), mm_G (fun x : Bool => some (.int (mm_b x))) E Y_X12_readsFactor 4 0 [(0, .ref 97)] [] M (lp_R_readsFactor_0 k18 k20 n M) := by
  intro n
  induction n with
  | zero => intro M r M2 he; cases he
  | succ n ih =>
    intro M
    rw [lp_R_readsFactor_0]
    refine mm_aload_n 0 dX12_readsFactor_0 rfl ?_
    refine mm_callVi (as := []) (st := []) (c_R_here E M) dX12_readsFactor_1 mz_X12_here lk_RX12_165 im_X12_here se_X12_here lo_97 rfl rfl rfl ⟨Nat.le_of_ble_eq_true rfl, Nat.le_of_ble_eq_true rfl⟩ (Nat.le_of_ble_eq_true rfl) (fun r_1 M_2 => ?_)
    refine mm_bipush (v := 91) dX12_readsFactor_4 rfl ?_
    refine mm_icmp_ne 20 dX12_readsFactor_6 rfl ?_ ?_
    · exact hk20  M_2
    · refine mm_aload_n 0 dX12_readsFactor_9 rfl ?_
      refine mm_bipush (v := 14) dX12_readsFactor_10 rfl ?_
      refine mm_callVz (as := [.int 14]) (st := []) (c_R_opens E 14 M_2) dX12_readsFactor_12 mz_X12_opens lk_RX12_254 im_X12_opens se_X12_opens lo_97 rfl rfl rfl ⟨Nat.le_of_ble_eq_true rfl, Nat.le_of_ble_eq_true rfl⟩ (Nat.le_of_ble_eq_true rfl) (fun b_3 M_4 => ?_)
      refine mm_if_ne_b 0 dX12_readsFactor_15 rfl ?_ ?_
      · exact ih  M_4
      · refine mm_wk [] rfl ?_
        exact hk18  M_4
def f_R_readsFactor (M : mm_M) : Option (Bool × mm_M) := lp_R_readsFactor_0 (fun (M_5 : mm_M) => some (false, M_5)) (fun (M_6 : mm_M) => mm_bd (f_R_isDigit M_6) fun b_7 M_8 => if b_7 = true then mm_bd (f_R_readsNumber M_8) fun b_18 M_19 => if b_18 = true then mm_bd (f_R_notes 0 (M_19.1 97 5) M_19) fun u_20 M_21 => some (true, M_21) else some (false, M_19) else mm_bd (f_R_here M_8) fun r_9 M_10 => mm_bd (f_R_factOf r_9 M_10) fun r_11 M_12 => if r_11 = (-1) then mm_bd (f_R_wrongAt 1 (M_12.1 97 2) M_12) fun b_16 M_17 => some (b_16, M_17) else mm_bd (f_R_notes 1 r_11 M_12) fun u_13 M_14 => mm_let (mm_setI M_14 97 2 ((M_14.1 97 2) + 1)) fun M_15 => some (true, M_15)) mm_fu M
set_option maxHeartbeats 4000000 in
theorem c_R_readsFactor (E : mm_E) (M : mm_M) : ∀ (r : Bool) (M2 : mm_M), f_R_readsFactor M = some (r, M2) → mm_P E Y_X12_readsFactor 4 [.ref 97] M (some (.int (mm_b r))) M2 := by
  refine mm_entry (em := (fun x : Bool => some (.int (mm_b x)))) (by decide +kernel) (Nat.le_of_ble_eq_true rfl) ?_
  show mm_G _ E _ _ 0 [(0, .ref 97)] [] M _
  unfold f_R_readsFactor
  refine lp_R_readsFactor_0_ok E ?_ ?_ mm_fu M
  · intro M_5
    refine mm_iconst (v := 0) dX12_readsFactor_18 rfl ?_
    exact mm_zret (b := false) dX12_readsFactor_19 rfl
  · intro M_6
    refine mm_aload_n 0 dX12_readsFactor_20 rfl ?_
    refine mm_callVz (as := []) (st := []) (c_R_isDigit E M_6) dX12_readsFactor_21 mz_X12_isDigit lk_RX12_157 im_X12_isDigit se_X12_isDigit lo_97 rfl rfl rfl ⟨Nat.le_of_ble_eq_true rfl, Nat.le_of_ble_eq_true rfl⟩ (Nat.le_of_ble_eq_true rfl) (fun b_7 M_8 => ?_)
    refine mm_if_eq_b 47 dX12_readsFactor_24 rfl ?_ ?_
    · refine mm_aload_n 0 dX12_readsFactor_47 rfl ?_
      refine mm_callVi (as := []) (st := []) (c_R_here E M_8) dX12_readsFactor_48 mz_X12_here lk_RX12_165 im_X12_here se_X12_here lo_97 rfl rfl rfl ⟨Nat.le_of_ble_eq_true rfl, Nat.le_of_ble_eq_true rfl⟩ (Nat.le_of_ble_eq_true rfl) (fun r_9 M_10 => ?_)
      refine mm_callSi (as := [.int r_9]) (st := []) (c_R_factOf E r_9 M_10) dX12_readsFactor_51 mz_X12_factOf lk_RX12_260 sm_X12_factOf rfl ⟨Nat.le_of_ble_eq_true rfl, Nat.le_of_ble_eq_true rfl⟩ (Nat.le_of_ble_eq_true rfl) (fun r_11 M_12 => ?_)
      refine mm_istore_n [1, 0] (lv2 := [(0, .ref 97), (1, .int r_11)]) dX12_readsFactor_54 (by decide) rfl ?_
      refine mm_iload_n 1 dX12_readsFactor_55 rfl ?_
      refine mm_iconst (v := (-1)) dX12_readsFactor_56 rfl ?_
      refine mm_icmp_ne 70 dX12_readsFactor_57 rfl ?_ ?_
      · refine mm_aload_n 0 dX12_readsFactor_70 rfl ?_
        refine mm_iconst (v := 1) dX12_readsFactor_71 rfl ?_
        refine mm_iload_n 1 dX12_readsFactor_72 rfl ?_
        refine mm_callVv (as := [.int 1, .int r_11]) (st := []) (c_R_notes E 1 r_11 M_12) dX12_readsFactor_73 mz_X12_notes lk_RX12_250 im_X12_notes se_X12_notes lo_97 rfl rfl rfl ⟨Nat.le_of_ble_eq_true rfl, Nat.le_of_ble_eq_true rfl⟩ (Nat.le_of_ble_eq_true rfl) (fun u_13 M_14 => ?_)
        refine mm_aload_n 0 dX12_readsFactor_76 rfl ?_
        refine mm_aload_n 0 dX12_readsFactor_77 rfl ?_
        refine mm_getI dX12_readsFactor_78 fl_RX12_151 lo_97 rfl ?_
        refine mm_iconst (v := 1) dX12_readsFactor_81 rfl ?_
        refine mm_iadd dX12_readsFactor_82 ?_
        refine mm_putI dX12_readsFactor_83 fp_RX12_151 lo_97 rfl ?_
        refine mm_nm_M (fun M_15 => ?_)
        refine mm_iconst (v := 1) dX12_readsFactor_86 rfl ?_
        exact mm_zret (b := true) dX12_readsFactor_87 rfl
      · refine mm_aload_n 0 dX12_readsFactor_60 rfl ?_
        refine mm_iconst (v := 1) dX12_readsFactor_61 rfl ?_
        refine mm_aload_n 0 dX12_readsFactor_62 rfl ?_
        refine mm_getI dX12_readsFactor_63 fl_RX12_151 lo_97 rfl ?_
        refine mm_callVz (as := [.int 1, .int (M_12.1 97 2)]) (st := []) (c_R_wrongAt E 1 (M_12.1 97 2) M_12) dX12_readsFactor_66 mz_X12_wrongAt lk_RX12_161 im_X12_wrongAt se_X12_wrongAt lo_97 rfl rfl rfl ⟨Nat.le_of_ble_eq_true rfl, Nat.le_of_ble_eq_true rfl⟩ (Nat.le_of_ble_eq_true rfl) (fun b_16 M_17 => ?_)
        exact mm_zret (b := b_16) dX12_readsFactor_69 rfl
    · refine mm_aload_n 0 dX12_readsFactor_27 rfl ?_
      refine mm_callVz (as := []) (st := []) (c_R_readsNumber E M_8) dX12_readsFactor_28 mz_X12_readsNumber lk_RX12_257 im_X12_readsNumber se_X12_readsNumber lo_97 rfl rfl rfl ⟨Nat.le_of_ble_eq_true rfl, Nat.le_of_ble_eq_true rfl⟩ (Nat.le_of_ble_eq_true rfl) (fun b_18 M_19 => ?_)
      refine mm_if_ne_b 36 dX12_readsFactor_31 rfl ?_ ?_
      · refine mm_aload_n 0 dX12_readsFactor_36 rfl ?_
        refine mm_iconst (v := 0) dX12_readsFactor_37 rfl ?_
        refine mm_aload_n 0 dX12_readsFactor_38 rfl ?_
        refine mm_getI dX12_readsFactor_39 fl_RX12_154 lo_97 rfl ?_
        refine mm_callVv (as := [.int 0, .int (M_19.1 97 5)]) (st := []) (c_R_notes E 0 (M_19.1 97 5) M_19) dX12_readsFactor_42 mz_X12_notes lk_RX12_250 im_X12_notes se_X12_notes lo_97 rfl rfl rfl ⟨Nat.le_of_ble_eq_true rfl, Nat.le_of_ble_eq_true rfl⟩ (Nat.le_of_ble_eq_true rfl) (fun u_20 M_21 => ?_)
        refine mm_iconst (v := 1) dX12_readsFactor_45 rfl ?_
        exact mm_zret (b := true) dX12_readsFactor_46 rfl
      · refine mm_iconst (v := 0) dX12_readsFactor_34 rfl ?_
        exact mm_zret (b := false) dX12_readsFactor_35 rfl
def f_R_sumSign (v0 : Int32) (M : mm_M) : Option (Int32 × mm_M) := if v0 = 43 then some (2, M) else if v0 = 45 then some (3, M) else if v0 = 42 then some (4, M) else if v0 = 47 then some (5, M) else if v0 = 37 then some (6, M) else some ((-1), M)
set_option maxHeartbeats 4000000 in
theorem c_R_sumSign (E : mm_E) (v0 : Int32) (M : mm_M) : ∀ (r : Int32) (M2 : mm_M), f_R_sumSign v0 M = some (r, M2) → mm_P E Y_X12_sumSign 1 [.int v0] M (some (.int r)) M2 := by
  refine mm_entry (em := (fun x : Int32 => some (.int x))) (by decide +kernel) (Nat.le_of_ble_eq_true rfl) ?_
  show mm_G _ E _ _ 0 [(0, .int v0)] [] M _
  unfold f_R_sumSign
  refine mm_iload_n 0 dX12_sumSign_0 rfl ?_
  refine mm_bipush (v := 43) dX12_sumSign_1 rfl ?_
  refine mm_icmp_ne 10 dX12_sumSign_3 rfl ?_ ?_
  · refine mm_iload_n 0 dX12_sumSign_10 rfl ?_
    refine mm_bipush (v := 45) dX12_sumSign_11 rfl ?_
    refine mm_icmp_ne 20 dX12_sumSign_13 rfl ?_ ?_
    · refine mm_iload_n 0 dX12_sumSign_20 rfl ?_
      refine mm_bipush (v := 42) dX12_sumSign_21 rfl ?_
      refine mm_icmp_ne 30 dX12_sumSign_23 rfl ?_ ?_
      · refine mm_iload_n 0 dX12_sumSign_30 rfl ?_
        refine mm_bipush (v := 47) dX12_sumSign_31 rfl ?_
        refine mm_icmp_ne 40 dX12_sumSign_33 rfl ?_ ?_
        · refine mm_iload_n 0 dX12_sumSign_40 rfl ?_
          refine mm_bipush (v := 37) dX12_sumSign_41 rfl ?_
          refine mm_icmp_ne 51 dX12_sumSign_43 rfl ?_ ?_
          · refine mm_iconst (v := (-1)) dX12_sumSign_51 rfl ?_
            exact mm_iret dX12_sumSign_52 rfl
          · refine mm_bipush (v := 6) dX12_sumSign_46 rfl ?_
            refine mm_goto 52 dX12_sumSign_48 rfl ?_
            exact mm_iret dX12_sumSign_52 rfl
        · refine mm_iconst (v := 5) dX12_sumSign_36 rfl ?_
          refine mm_goto 52 dX12_sumSign_37 rfl ?_
          exact mm_iret dX12_sumSign_52 rfl
      · refine mm_iconst (v := 4) dX12_sumSign_26 rfl ?_
        refine mm_goto 52 dX12_sumSign_27 rfl ?_
        exact mm_iret dX12_sumSign_52 rfl
    · refine mm_iconst (v := 3) dX12_sumSign_16 rfl ?_
      refine mm_goto 52 dX12_sumSign_17 rfl ?_
      exact mm_iret dX12_sumSign_52 rfl
  · refine mm_iconst (v := 2) dX12_sumSign_6 rfl ?_
    refine mm_goto 52 dX12_sumSign_7 rfl ?_
    exact mm_iret dX12_sumSign_52 rfl
def lp_R_hasOpenSum_2 (k24 : mm_M → Option (Bool × mm_M)) (k32 : mm_M → Option (Bool × mm_M)) : Nat → Int32 → mm_M → Option (Bool × mm_M)
  | 0, _, _ => none
  | n + 1, v2, M => if M.1 97 24 ≤ v2 then k32 M else if mm_in v2 (mm_al 110) = true then if (M.2.1 110 v2.toNatClampNeg) / 1048576 = 14 then k24 M else mm_let (v2 + 1) fun v2_1 => lp_R_hasOpenSum_2 k24 k32 n v2_1 M else none
set_option maxHeartbeats 4000000 in
theorem lp_R_hasOpenSum_2_ok (E : mm_E) {k24 : mm_M → Option (Bool × mm_M)} {k32 : mm_M → Option (Bool × mm_M)} (hk24 : ∀ (M : mm_M), mm_G (fun x : Bool => some (.int (mm_b x))) E Y_X12_hasOpenSum 1 24 [] [] M (k24 M)) (hk32 : ∀ (M : mm_M), mm_G (fun x : Bool => some (.int (mm_b x))) E Y_X12_hasOpenSum 1 32 [] [] M (k32 M)) : ∀ (n : Nat) (v2 : Int32) (M : mm_M), mm_G (fun x : Bool => some (.int (mm_b x))) E Y_X12_hasOpenSum 1 2 [(0, .ref 97), (2, .int v2)] [] M (lp_R_hasOpenSum_2 k24 k32 n v2 M) := by
  intro n
  induction n with
  | zero => intro v2 M r M2 he; cases he
  | succ n ih =>
    intro v2 M
    rw [lp_R_hasOpenSum_2]
    refine mm_iload_n 1 dX12_hasOpenSum_2 rfl ?_
    refine mm_aload_n 0 dX12_hasOpenSum_3 rfl ?_
    refine mm_getI dX12_hasOpenSum_4 fl_RX12_244 lo_97 rfl ?_
    refine mm_icmp_ge 32 dX12_hasOpenSum_7 rfl ?_ ?_
    · refine mm_wk [] rfl ?_
      exact hk32  M
    · refine mm_aload_n 0 dX12_hasOpenSum_10 rfl ?_
      refine mm_getR 110 dX12_hasOpenSum_11 fl_RX12_47 lo_97 rfl ?_
      refine mm_iload_n 1 dX12_hasOpenSum_14 rfl ?_
      refine mm_iaload dX12_hasOpenSum_15 ?_
      refine mm_ldc dX12_hasOpenSum_16 ct_RX12_240 ?_
      refine mm_idiv_c dX12_hasOpenSum_18 (by decide) ?_
      refine mm_bipush (v := 14) dX12_hasOpenSum_19 rfl ?_
      refine mm_icmp_ne 26 dX12_hasOpenSum_21 rfl ?_ ?_
      · refine mm_iincN 1 [1, 0] (v := v2 + 1) (lv2 := fun v2_1 => [(0, .ref 97), (2, .int v2_1)]) dX12_hasOpenSum_26 rfl rfl (by decide) (fun _ => rfl) (fun v2_1 => ?_)
        refine mm_goto 2 dX12_hasOpenSum_29 rfl ?_
        exact ih v2_1 M
      · refine mm_wk [] rfl ?_
        exact hk24  M
def f_R_hasOpenSum (v1 : Int32) (M : mm_M) : Option (Bool × mm_M) := lp_R_hasOpenSum_2 (fun (M_2 : mm_M) => some (true, M_2)) (fun (M_3 : mm_M) => some (false, M_3)) mm_fu v1 M
set_option maxHeartbeats 4000000 in
theorem c_R_hasOpenSum (E : mm_E) (v1 : Int32) (M : mm_M) : ∀ (r : Bool) (M2 : mm_M), f_R_hasOpenSum v1 M = some (r, M2) → mm_P E Y_X12_hasOpenSum 1 [.ref 97, .int v1] M (some (.int (mm_b r))) M2 := by
  refine mm_entry (em := (fun x : Bool => some (.int (mm_b x)))) (by decide +kernel) (Nat.le_of_ble_eq_true rfl) ?_
  show mm_G _ E _ _ 0 [(0, .ref 97), (1, .int v1)] [] M _
  unfold f_R_hasOpenSum
  refine mm_iload_n 1 dX12_hasOpenSum_0 rfl ?_
  refine mm_istore_n [1, 2, 0] (lv2 := [(0, .ref 97), (1, .int v1), (2, .int v1)]) dX12_hasOpenSum_1 (by decide) rfl ?_
  refine mm_wk [0, 2] rfl ?_
  refine lp_R_hasOpenSum_2_ok E ?_ ?_ mm_fu v1 M
  · intro M_2
    refine mm_iconst (v := 1) dX12_hasOpenSum_24 rfl ?_
    exact mm_zret (b := true) dX12_hasOpenSum_25 rfl
  · intro M_3
    refine mm_iconst (v := 0) dX12_hasOpenSum_32 rfl ?_
    exact mm_zret (b := false) dX12_hasOpenSum_33 rfl
def f_R_top (M : mm_M) : Option (Int32 × mm_M) := if M.1 97 24 = 0 then some ((-1), M) else if mm_in ((M.1 97 24) - 1) (mm_al 110) = true then some ((M.2.1 110 ((M.1 97 24) - 1).toNatClampNeg) / 1048576, M) else none
set_option maxHeartbeats 4000000 in
theorem c_R_top (E : mm_E) (M : mm_M) : ∀ (r : Int32) (M2 : mm_M), f_R_top M = some (r, M2) → mm_P E Y_X12_top 1 [.ref 97] M (some (.int r)) M2 := by
  refine mm_entry (em := (fun x : Int32 => some (.int x))) (by decide +kernel) (Nat.le_of_ble_eq_true rfl) ?_
  show mm_G _ E _ _ 0 [(0, .ref 97)] [] M _
  unfold f_R_top
  refine mm_aload_n 0 dX12_top_0 rfl ?_
  refine mm_getI dX12_top_1 fl_RX12_244 lo_97 rfl ?_
  refine mm_if_ne 11 dX12_top_4 rfl ?_ ?_
  · refine mm_aload_n 0 dX12_top_11 rfl ?_
    refine mm_getR 110 dX12_top_12 fl_RX12_47 lo_97 rfl ?_
    refine mm_aload_n 0 dX12_top_15 rfl ?_
    refine mm_getI dX12_top_16 fl_RX12_244 lo_97 rfl ?_
    refine mm_iconst (v := 1) dX12_top_19 rfl ?_
    refine mm_isub dX12_top_20 ?_
    refine mm_iaload dX12_top_21 ?_
    refine mm_ldc dX12_top_22 ct_RX12_240 ?_
    refine mm_idiv_c dX12_top_24 (by decide) ?_
    exact mm_iret dX12_top_25 rfl
  · refine mm_iconst (v := (-1)) dX12_top_7 rfl ?_
    refine mm_goto 25 dX12_top_8 rfl ?_
    exact mm_iret dX12_top_25 rfl
def lp_R_closesSums_0 (v1 : Bool) (k59 : mm_M → Option (Unit × mm_M)) : Nat → mm_M → Option (Unit × mm_M)
  | 0, _ => none
  | n + 1, M => mm_bd (f_R_top M) fun r_1 M_2 => mm_jn (fun (M_3 : mm_M) => mm_bd (f_R_top M_3) fun r_4 M_5 => mm_bd (f_R_notes r_4 0 M_5) fun u_6 M_7 => mm_let (mm_setI M_7 97 24 ((M_7.1 97 24) - 1)) fun M_8 => lp_R_closesSums_0 v1 k59 n M_8) fun j37 => mm_jn (fun (M_9 : mm_M) => if v1 = true then mm_bd (f_R_top M_9) fun r_10 M_11 => if r_10 = 2 then j37 M_11 else mm_bd (f_R_top M_11) fun r_12 M_13 => if r_12 = 3 then j37 M_13 else k59 M_13 else k59 M_9) fun j17 => if r_1 < 4 then j17 M_2 else mm_bd (f_R_top M_2) fun r_14 M_15 => if r_14 ≤ 6 then j37 M_15 else j17 M_15
set_option maxHeartbeats 4000000 in
theorem lp_R_closesSums_0_ok (E : mm_E) (v1 : Bool) {k59 : mm_M → Option (Unit × mm_M)} (hk59 : ∀ (M : mm_M), mm_G (fun _ : Unit => none) E Y_X12_closesSums 2 59 [] [] M (k59 M)) : ∀ (n : Nat) (M : mm_M), mm_G (fun _ : Unit => none) E Y_X12_closesSums 2 0 [(0, .ref 97), (1, .int (mm_b v1))] [] M (lp_R_closesSums_0 v1 k59 n M) := by
  intro n
  induction n with
  | zero => intro M r M2 he; cases he
  | succ n ih =>
    intro M
    rw [lp_R_closesSums_0]
    refine mm_aload_n 0 dX12_closesSums_0 rfl ?_
    refine mm_callVi (as := []) (st := []) (c_R_top E M) dX12_closesSums_1 mz_X12_top lk_RX12_247 im_X12_top se_X12_top lo_97 rfl rfl rfl ⟨Nat.le_of_ble_eq_true rfl, Nat.le_of_ble_eq_true rfl⟩ (Nat.le_of_ble_eq_true rfl) (fun r_1 M_2 => ?_)
    refine mm_iconst (v := 4) dX12_closesSums_4 rfl ?_
    refine mm_jnP (P := fun j => ∀ (M : mm_M), mm_G (fun _ : Unit => none) E Y_X12_closesSums 2 37 [(0, .ref 97), (1, .int (mm_b v1))] [] M (j M)) ?_ (fun j37 hj37 => ?_)
    · intro M_3
      refine mm_aload_n 0 dX12_closesSums_37 rfl ?_
      refine mm_aload_n 0 dX12_closesSums_38 rfl ?_
      refine mm_callVi (as := []) (st := [.ref 97]) (c_R_top E M_3) dX12_closesSums_39 mz_X12_top lk_RX12_247 im_X12_top se_X12_top lo_97 rfl rfl rfl ⟨Nat.le_of_ble_eq_true rfl, Nat.le_of_ble_eq_true rfl⟩ (Nat.le_of_ble_eq_true rfl) (fun r_4 M_5 => ?_)
      refine mm_iconst (v := 0) dX12_closesSums_42 rfl ?_
      refine mm_callVv (as := [.int r_4, .int 0]) (st := []) (c_R_notes E r_4 0 M_5) dX12_closesSums_43 mz_X12_notes lk_RX12_250 im_X12_notes se_X12_notes lo_97 rfl rfl rfl ⟨Nat.le_of_ble_eq_true rfl, Nat.le_of_ble_eq_true rfl⟩ (Nat.le_of_ble_eq_true rfl) (fun u_6 M_7 => ?_)
      refine mm_aload_n 0 dX12_closesSums_46 rfl ?_
      refine mm_aload_n 0 dX12_closesSums_47 rfl ?_
      refine mm_getI dX12_closesSums_48 fl_RX12_244 lo_97 rfl ?_
      refine mm_iconst (v := 1) dX12_closesSums_51 rfl ?_
      refine mm_isub dX12_closesSums_52 ?_
      refine mm_putI dX12_closesSums_53 fp_RX12_244 lo_97 rfl ?_
      refine mm_nm_M (fun M_8 => ?_)
      refine mm_goto 0 dX12_closesSums_56 rfl ?_
      exact ih  M_8
    refine mm_jnP (P := fun j => ∀ (M : mm_M), mm_G (fun _ : Unit => none) E Y_X12_closesSums 2 17 [(0, .ref 97), (1, .int (mm_b v1))] [] M (j M)) ?_ (fun j17 hj17 => ?_)
    · intro M_9
      refine mm_iload_n 1 dX12_closesSums_17 rfl ?_
      refine mm_if_eq_b 59 dX12_closesSums_18 rfl ?_ ?_
      · refine mm_wk [] rfl ?_
        exact hk59  M_9
      · refine mm_aload_n 0 dX12_closesSums_21 rfl ?_
        refine mm_callVi (as := []) (st := []) (c_R_top E M_9) dX12_closesSums_22 mz_X12_top lk_RX12_247 im_X12_top se_X12_top lo_97 rfl rfl rfl ⟨Nat.le_of_ble_eq_true rfl, Nat.le_of_ble_eq_true rfl⟩ (Nat.le_of_ble_eq_true rfl) (fun r_10 M_11 => ?_)
        refine mm_iconst (v := 2) dX12_closesSums_25 rfl ?_
        refine mm_icmp_eq 37 dX12_closesSums_26 rfl ?_ ?_
        · exact hj37  M_11
        · refine mm_aload_n 0 dX12_closesSums_29 rfl ?_
          refine mm_callVi (as := []) (st := []) (c_R_top E M_11) dX12_closesSums_30 mz_X12_top lk_RX12_247 im_X12_top se_X12_top lo_97 rfl rfl rfl ⟨Nat.le_of_ble_eq_true rfl, Nat.le_of_ble_eq_true rfl⟩ (Nat.le_of_ble_eq_true rfl) (fun r_12 M_13 => ?_)
          refine mm_iconst (v := 3) dX12_closesSums_33 rfl ?_
          refine mm_icmp_ne 59 dX12_closesSums_34 rfl ?_ ?_
          · refine mm_wk [] rfl ?_
            exact hk59  M_13
          · exact hj37  M_13
    refine mm_icmp_lt 17 dX12_closesSums_5 rfl ?_ ?_
    · exact hj17  M_2
    · refine mm_aload_n 0 dX12_closesSums_8 rfl ?_
      refine mm_callVi (as := []) (st := []) (c_R_top E M_2) dX12_closesSums_9 mz_X12_top lk_RX12_247 im_X12_top se_X12_top lo_97 rfl rfl rfl ⟨Nat.le_of_ble_eq_true rfl, Nat.le_of_ble_eq_true rfl⟩ (Nat.le_of_ble_eq_true rfl) (fun r_14 M_15 => ?_)
      refine mm_bipush (v := 6) dX12_closesSums_12 rfl ?_
      refine mm_icmp_le 37 dX12_closesSums_14 rfl ?_ ?_
      · exact hj37  M_15
      · exact hj17  M_15
def f_R_closesSums (v1 : Bool) (M : mm_M) : Option (Unit × mm_M) := lp_R_closesSums_0 v1 (fun (M_16 : mm_M) => some ((), M_16)) mm_fu M
set_option maxHeartbeats 4000000 in
theorem c_R_closesSums (E : mm_E) (v1 : Bool) (M : mm_M) : ∀ (r : Unit) (M2 : mm_M), f_R_closesSums v1 M = some (r, M2) → mm_P E Y_X12_closesSums 2 [.ref 97, .int (mm_b v1)] M none M2 := by
  refine mm_entry (em := (fun _ : Unit => none)) (by decide +kernel) (Nat.le_of_ble_eq_true rfl) ?_
  show mm_G _ E _ _ 0 [(0, .ref 97), (1, .int (mm_b v1))] [] M _
  unfold f_R_closesSums
  refine lp_R_closesSums_0_ok E v1 ?_ mm_fu M
  · intro M_16
    exact mm_vret dX12_closesSums_59 rfl
def lp_R_readsSum_14 (v1 : Int32) (k81 : mm_M → Option (Bool × mm_M)) (k138 : mm_M → Option (Bool × mm_M)) : Nat → mm_M → Option (Bool × mm_M)
  | 0, _ => none
  | n + 1, M => mm_bd (f_R_here M) fun r_4 M_5 => mm_bd (f_R_sumSign r_4 M_5) fun r_6 M_7 => mm_jn (fun (M_8 : mm_M) => lp_R_readsSum_14 v1 k81 k138 n M_8) fun j163 => if r_6 = (-1) then mm_bd (f_R_here M_7) fun r_9 M_10 => if r_9 = 93 then mm_bd (f_R_hasOpenSum v1 M_10) fun b_11 M_12 => if b_11 = true then mm_bd (f_R_closesSums true M_12) fun u_13 M_14 => mm_let (mm_setI M_14 97 24 ((M_14.1 97 24) - 1)) fun M_15 => mm_let (mm_setI M_15 97 22 ((M_15.1 97 22) - 1)) fun M_16 => mm_let (mm_setI M_16 97 2 ((M_16.1 97 2) + 1)) fun M_17 => j163 M_17 else k138 M_12 else k138 M_10 else mm_jn (fun (v2 : Int32) (s1 : Bool) (M_18 : mm_M) => mm_bd (f_R_closesSums s1 M_18) fun u_19 M_20 => if mm_in (M_20.1 97 24) (mm_al 110) = true then mm_let (mm_setA M_20 110 ((M_20.1 97 24).toNatClampNeg) (1048576 * v2)) fun M_21 => mm_let (mm_setI M_21 97 24 ((M_21.1 97 24) + 1)) fun M_22 => mm_let (mm_setI M_22 97 2 ((M_22.1 97 2) + 1)) fun M_23 => mm_bd (f_R_readsFactor M_23) fun b_24 M_25 => if b_24 = true then j163 M_25 else k81 M_25 else none) fun j38 => if 4 ≤ r_6 then j38 r_6 false M_7 else j38 r_6 true M_7
set_option maxHeartbeats 4000000 in
theorem lp_R_readsSum_14_ok (E : mm_E) (v1 : Int32) {k81 : mm_M → Option (Bool × mm_M)} {k138 : mm_M → Option (Bool × mm_M)} (hk81 : ∀ (M : mm_M), mm_G (fun x : Bool => some (.int (mm_b x))) E Y_X12_readsSum 5 81 [] [] M (k81 M)) (hk138 : ∀ (M : mm_M), mm_G (fun x : Bool => some (.int (mm_b x))) E Y_X12_readsSum 5 138 [(0, .ref 97), (1, .int v1)] [] M (k138 M)) : ∀ (n : Nat) (M : mm_M), mm_G (fun x : Bool => some (.int (mm_b x))) E Y_X12_readsSum 5 14 [(0, .ref 97), (1, .int v1)] [] M (lp_R_readsSum_14 v1 k81 k138 n M) := by
  intro n
  induction n with
  | zero => intro M r M2 he; cases he
  | succ n ih =>
    intro M
    rw [lp_R_readsSum_14]
    refine mm_aload_n 0 dX12_readsSum_14 rfl ?_
    refine mm_callVi (as := []) (st := []) (c_R_here E M) dX12_readsSum_15 mz_X12_here lk_RX12_165 im_X12_here se_X12_here lo_97 rfl rfl rfl ⟨Nat.le_of_ble_eq_true rfl, Nat.le_of_ble_eq_true rfl⟩ (Nat.le_of_ble_eq_true rfl) (fun r_4 M_5 => ?_)
    refine mm_callSi (as := [.int r_4]) (st := []) (c_R_sumSign E r_4 M_5) dX12_readsSum_18 mz_X12_sumSign lk_RX12_266 sm_X12_sumSign rfl ⟨Nat.le_of_ble_eq_true rfl, Nat.le_of_ble_eq_true rfl⟩ (Nat.le_of_ble_eq_true rfl) (fun r_6 M_7 => ?_)
    refine mm_istore_n [1, 2, 0] (lv2 := [(0, .ref 97), (1, .int v1), (2, .int r_6)]) dX12_readsSum_21 (by decide) rfl ?_
    refine mm_iload_n 2 dX12_readsSum_22 rfl ?_
    refine mm_iconst (v := (-1)) dX12_readsSum_23 rfl ?_
    refine mm_jnP (P := fun j => ∀ (M : mm_M), mm_G (fun x : Bool => some (.int (mm_b x))) E Y_X12_readsSum 5 163 [(0, .ref 97), (1, .int v1)] [] M (j M)) ?_ (fun j163 hj163 => ?_)
    · intro M_8
      refine mm_goto 14 dX12_readsSum_163 rfl ?_
      exact ih  M_8
    refine mm_icmp_eq 83 dX12_readsSum_24 rfl ?_ ?_
    · refine mm_aload_n 0 dX12_readsSum_83 rfl ?_
      refine mm_callVi (as := []) (st := []) (c_R_here E M_7) dX12_readsSum_84 mz_X12_here lk_RX12_165 im_X12_here se_X12_here lo_97 rfl rfl rfl ⟨Nat.le_of_ble_eq_true rfl, Nat.le_of_ble_eq_true rfl⟩ (Nat.le_of_ble_eq_true rfl) (fun r_9 M_10 => ?_)
      refine mm_bipush (v := 93) dX12_readsSum_87 rfl ?_
      refine mm_icmp_ne 138 dX12_readsSum_89 rfl ?_ ?_
      · refine mm_wk [0, 1] rfl ?_
        exact hk138  M_10
      · refine mm_aload_n 0 dX12_readsSum_92 rfl ?_
        refine mm_iload_n 1 dX12_readsSum_93 rfl ?_
        refine mm_callVz (as := [.int v1]) (st := []) (c_R_hasOpenSum E v1 M_10) dX12_readsSum_94 mz_X12_hasOpenSum lk_RX12_273 im_X12_hasOpenSum se_X12_hasOpenSum lo_97 rfl rfl rfl ⟨Nat.le_of_ble_eq_true rfl, Nat.le_of_ble_eq_true rfl⟩ (Nat.le_of_ble_eq_true rfl) (fun b_11 M_12 => ?_)
        refine mm_if_eq_b 138 dX12_readsSum_97 rfl ?_ ?_
        · refine mm_wk [0, 1] rfl ?_
          exact hk138  M_12
        · refine mm_aload_n 0 dX12_readsSum_100 rfl ?_
          refine mm_iconst (v := 1) dX12_readsSum_101 rfl ?_
          refine mm_callVv (as := [.int (mm_b true)]) (st := []) (c_R_closesSums E true M_12) dX12_readsSum_102 mz_X12_closesSums lk_RX12_269 im_X12_closesSums se_X12_closesSums lo_97 rfl rfl rfl ⟨Nat.le_of_ble_eq_true rfl, Nat.le_of_ble_eq_true rfl⟩ (Nat.le_of_ble_eq_true rfl) (fun u_13 M_14 => ?_)
          refine mm_aload_n 0 dX12_readsSum_105 rfl ?_
          refine mm_aload_n 0 dX12_readsSum_106 rfl ?_
          refine mm_getI dX12_readsSum_107 fl_RX12_244 lo_97 rfl ?_
          refine mm_iconst (v := 1) dX12_readsSum_110 rfl ?_
          refine mm_isub dX12_readsSum_111 ?_
          refine mm_putI dX12_readsSum_112 fp_RX12_244 lo_97 rfl ?_
          refine mm_nm_M (fun M_15 => ?_)
          refine mm_aload_n 0 dX12_readsSum_115 rfl ?_
          refine mm_aload_n 0 dX12_readsSum_116 rfl ?_
          refine mm_getI dX12_readsSum_117 fl_RX12_241 lo_97 rfl ?_
          refine mm_iconst (v := 1) dX12_readsSum_120 rfl ?_
          refine mm_isub dX12_readsSum_121 ?_
          refine mm_putI dX12_readsSum_122 fp_RX12_241 lo_97 rfl ?_
          refine mm_nm_M (fun M_16 => ?_)
          refine mm_aload_n 0 dX12_readsSum_125 rfl ?_
          refine mm_aload_n 0 dX12_readsSum_126 rfl ?_
          refine mm_getI dX12_readsSum_127 fl_RX12_151 lo_97 rfl ?_
          refine mm_iconst (v := 1) dX12_readsSum_130 rfl ?_
          refine mm_iadd dX12_readsSum_131 ?_
          refine mm_putI dX12_readsSum_132 fp_RX12_151 lo_97 rfl ?_
          refine mm_nm_M (fun M_17 => ?_)
          refine mm_goto 163 dX12_readsSum_135 rfl ?_
          refine mm_wk [0, 1] rfl ?_
          exact hj163  M_17
    · refine mm_aload_n 0 dX12_readsSum_27 rfl ?_
      refine mm_iload_n 2 dX12_readsSum_28 rfl ?_
      refine mm_iconst (v := 4) dX12_readsSum_29 rfl ?_
      refine mm_jnP (P := fun j => ∀ (v2 : Int32) (s1 : Bool) (M : mm_M), mm_G (fun x : Bool => some (.int (mm_b x))) E Y_X12_readsSum 5 38 [(0, .ref 97), (1, .int v1), (2, .int v2)] [.int (mm_b s1), .ref 97] M (j v2 s1 M)) ?_ (fun j38 hj38 => ?_)
      · intro v2 s1 M_18
        refine mm_callVv (as := [.int (mm_b s1)]) (st := []) (c_R_closesSums E s1 M_18) dX12_readsSum_38 mz_X12_closesSums lk_RX12_269 im_X12_closesSums se_X12_closesSums lo_97 rfl rfl rfl ⟨Nat.le_of_ble_eq_true rfl, Nat.le_of_ble_eq_true rfl⟩ (Nat.le_of_ble_eq_true rfl) (fun u_19 M_20 => ?_)
        refine mm_aload_n 0 dX12_readsSum_41 rfl ?_
        refine mm_getR 110 dX12_readsSum_42 fl_RX12_47 lo_97 rfl ?_
        refine mm_aload_n 0 dX12_readsSum_45 rfl ?_
        refine mm_getI dX12_readsSum_46 fl_RX12_244 lo_97 rfl ?_
        refine mm_ldc dX12_readsSum_49 ct_RX12_240 ?_
        refine mm_iload_n 2 dX12_readsSum_51 rfl ?_
        refine mm_imul dX12_readsSum_52 ?_
        refine mm_iastore dX12_readsSum_53 ?_
        refine mm_nm_M (fun M_21 => ?_)
        refine mm_aload_n 0 dX12_readsSum_54 rfl ?_
        refine mm_aload_n 0 dX12_readsSum_55 rfl ?_
        refine mm_getI dX12_readsSum_56 fl_RX12_244 lo_97 rfl ?_
        refine mm_iconst (v := 1) dX12_readsSum_59 rfl ?_
        refine mm_iadd dX12_readsSum_60 ?_
        refine mm_putI dX12_readsSum_61 fp_RX12_244 lo_97 rfl ?_
        refine mm_nm_M (fun M_22 => ?_)
        refine mm_aload_n 0 dX12_readsSum_64 rfl ?_
        refine mm_aload_n 0 dX12_readsSum_65 rfl ?_
        refine mm_getI dX12_readsSum_66 fl_RX12_151 lo_97 rfl ?_
        refine mm_iconst (v := 1) dX12_readsSum_69 rfl ?_
        refine mm_iadd dX12_readsSum_70 ?_
        refine mm_putI dX12_readsSum_71 fp_RX12_151 lo_97 rfl ?_
        refine mm_nm_M (fun M_23 => ?_)
        refine mm_aload_n 0 dX12_readsSum_74 rfl ?_
        refine mm_callVz (as := []) (st := []) (c_R_readsFactor E M_23) dX12_readsSum_75 mz_X12_readsFactor lk_RX12_263 im_X12_readsFactor se_X12_readsFactor lo_97 rfl rfl rfl ⟨Nat.le_of_ble_eq_true rfl, Nat.le_of_ble_eq_true rfl⟩ (Nat.le_of_ble_eq_true rfl) (fun b_24 M_25 => ?_)
        refine mm_if_ne_b 163 dX12_readsSum_78 rfl ?_ ?_
        · refine mm_wk [0, 1] rfl ?_
          exact hj163  M_25
        · refine mm_wk [] rfl ?_
          exact hk81  M_25
      refine mm_icmp_ge 37 dX12_readsSum_30 rfl ?_ ?_
      · refine mm_iconst (v := 0) dX12_readsSum_37 rfl ?_
        exact hj38 r_6 false M_7
      · refine mm_iconst (v := 1) dX12_readsSum_33 rfl ?_
        refine mm_goto 38 dX12_readsSum_34 rfl ?_
        exact hj38 r_6 true M_7
def f_R_readsSum (M : mm_M) : Option (Bool × mm_M) := mm_let (M.1 97 24) fun v1_1 => mm_bd (f_R_readsFactor M) fun b_2 M_3 => if b_2 = true then lp_R_readsSum_14 v1_1 (fun (M_26 : mm_M) => some (false, M_26)) (fun (M_27 : mm_M) => mm_bd (f_R_hasOpenSum v1_1 M_27) fun b_28 M_29 => if b_28 = true then mm_bd (f_R_wrongAt 1 (M_29.1 97 2) M_29) fun b_32 M_33 => some (b_32, M_33) else mm_bd (f_R_closesSums true M_29) fun u_30 M_31 => some (true, M_31)) mm_fu M_3 else some (false, M_3)
set_option maxHeartbeats 4000000 in
theorem c_R_readsSum (E : mm_E) (M : mm_M) : ∀ (r : Bool) (M2 : mm_M), f_R_readsSum M = some (r, M2) → mm_P E Y_X12_readsSum 5 [.ref 97] M (some (.int (mm_b r))) M2 := by
  refine mm_entry (em := (fun x : Bool => some (.int (mm_b x)))) (by decide +kernel) (Nat.le_of_ble_eq_true rfl) ?_
  show mm_G _ E _ _ 0 [(0, .ref 97)] [] M _
  unfold f_R_readsSum
  refine mm_aload_n 0 dX12_readsSum_0 rfl ?_
  refine mm_getI dX12_readsSum_1 fl_RX12_244 lo_97 rfl ?_
  refine mm_nm_int (fun v1_1 => ?_)
  refine mm_istore_n [1, 0] (lv2 := [(0, .ref 97), (1, .int v1_1)]) dX12_readsSum_4 (by decide) rfl ?_
  refine mm_aload_n 0 dX12_readsSum_5 rfl ?_
  refine mm_callVz (as := []) (st := []) (c_R_readsFactor E M) dX12_readsSum_6 mz_X12_readsFactor lk_RX12_263 im_X12_readsFactor se_X12_readsFactor lo_97 rfl rfl rfl ⟨Nat.le_of_ble_eq_true rfl, Nat.le_of_ble_eq_true rfl⟩ (Nat.le_of_ble_eq_true rfl) (fun b_2 M_3 => ?_)
  refine mm_if_ne_b 14 dX12_readsSum_9 rfl ?_ ?_
  · refine lp_R_readsSum_14_ok E v1_1 ?_ ?_ mm_fu M_3
    · intro M_26
      refine mm_iconst (v := 0) dX12_readsSum_81 rfl ?_
      exact mm_zret (b := false) dX12_readsSum_82 rfl
    · intro M_27
      refine mm_aload_n 0 dX12_readsSum_138 rfl ?_
      refine mm_iload_n 1 dX12_readsSum_139 rfl ?_
      refine mm_callVz (as := [.int v1_1]) (st := []) (c_R_hasOpenSum E v1_1 M_27) dX12_readsSum_140 mz_X12_hasOpenSum lk_RX12_273 im_X12_hasOpenSum se_X12_hasOpenSum lo_97 rfl rfl rfl ⟨Nat.le_of_ble_eq_true rfl, Nat.le_of_ble_eq_true rfl⟩ (Nat.le_of_ble_eq_true rfl) (fun b_28 M_29 => ?_)
      refine mm_if_eq_b 156 dX12_readsSum_143 rfl ?_ ?_
      · refine mm_aload_n 0 dX12_readsSum_156 rfl ?_
        refine mm_iconst (v := 1) dX12_readsSum_157 rfl ?_
        refine mm_callVv (as := [.int (mm_b true)]) (st := []) (c_R_closesSums E true M_29) dX12_readsSum_158 mz_X12_closesSums lk_RX12_269 im_X12_closesSums se_X12_closesSums lo_97 rfl rfl rfl ⟨Nat.le_of_ble_eq_true rfl, Nat.le_of_ble_eq_true rfl⟩ (Nat.le_of_ble_eq_true rfl) (fun u_30 M_31 => ?_)
        refine mm_iconst (v := 1) dX12_readsSum_161 rfl ?_
        exact mm_zret (b := true) dX12_readsSum_162 rfl
      · refine mm_aload_n 0 dX12_readsSum_146 rfl ?_
        refine mm_iconst (v := 1) dX12_readsSum_147 rfl ?_
        refine mm_aload_n 0 dX12_readsSum_148 rfl ?_
        refine mm_getI dX12_readsSum_149 fl_RX12_151 lo_97 rfl ?_
        refine mm_callVz (as := [.int 1, .int (M_29.1 97 2)]) (st := []) (c_R_wrongAt E 1 (M_29.1 97 2) M_29) dX12_readsSum_152 mz_X12_wrongAt lk_RX12_161 im_X12_wrongAt se_X12_wrongAt lo_97 rfl rfl rfl ⟨Nat.le_of_ble_eq_true rfl, Nat.le_of_ble_eq_true rfl⟩ (Nat.le_of_ble_eq_true rfl) (fun b_32 M_33 => ?_)
        exact mm_zret (b := b_32) dX12_readsSum_155 rfl
  · refine mm_iconst (v := 0) dX12_readsSum_12 rfl ?_
    exact mm_zret (b := false) dX12_readsSum_13 rfl
def lp_R_endsPiece_0 (k39 : mm_M → Option (Unit × mm_M)) : Nat → mm_M → Option (Unit × mm_M)
  | 0, _ => none
  | n + 1, M => mm_bd (f_R_top M) fun r_1 M_2 => if r_1 = 10 then mm_bd (f_R_notes 10 0 M_2) fun u_3 M_4 => mm_let (mm_setI M_4 97 24 ((M_4.1 97 24) - 1)) fun M_5 => mm_let (mm_setI M_5 97 22 ((M_5.1 97 22) - 1)) fun M_6 => lp_R_endsPiece_0 k39 n M_6 else k39 M_2
set_option maxHeartbeats 4000000 in
theorem lp_R_endsPiece_0_ok (E : mm_E) {k39 : mm_M → Option (Unit × mm_M)} (hk39 : ∀ (M : mm_M), mm_G (fun _ : Unit => none) E Y_X12_endsPiece 2 39 [] [] M (k39 M)) : ∀ (n : Nat) (M : mm_M), mm_G (fun _ : Unit => none) E Y_X12_endsPiece 2 0 [(0, .ref 97)] [] M (lp_R_endsPiece_0 k39 n M) := by
  intro n
  induction n with
  | zero => intro M r M2 he; cases he
  | succ n ih =>
    intro M
    rw [lp_R_endsPiece_0]
    refine mm_aload_n 0 dX12_endsPiece_0 rfl ?_
    refine mm_callVi (as := []) (st := []) (c_R_top E M) dX12_endsPiece_1 mz_X12_top lk_RX12_247 im_X12_top se_X12_top lo_97 rfl rfl rfl ⟨Nat.le_of_ble_eq_true rfl, Nat.le_of_ble_eq_true rfl⟩ (Nat.le_of_ble_eq_true rfl) (fun r_1 M_2 => ?_)
    refine mm_bipush (v := 10) dX12_endsPiece_4 rfl ?_
    refine mm_icmp_ne 39 dX12_endsPiece_6 rfl ?_ ?_
    · refine mm_wk [] rfl ?_
      exact hk39  M_2
    · refine mm_aload_n 0 dX12_endsPiece_9 rfl ?_
      refine mm_bipush (v := 10) dX12_endsPiece_10 rfl ?_
      refine mm_iconst (v := 0) dX12_endsPiece_12 rfl ?_
      refine mm_callVv (as := [.int 10, .int 0]) (st := []) (c_R_notes E 10 0 M_2) dX12_endsPiece_13 mz_X12_notes lk_RX12_250 im_X12_notes se_X12_notes lo_97 rfl rfl rfl ⟨Nat.le_of_ble_eq_true rfl, Nat.le_of_ble_eq_true rfl⟩ (Nat.le_of_ble_eq_true rfl) (fun u_3 M_4 => ?_)
      refine mm_aload_n 0 dX12_endsPiece_16 rfl ?_
      refine mm_aload_n 0 dX12_endsPiece_17 rfl ?_
      refine mm_getI dX12_endsPiece_18 fl_RX12_244 lo_97 rfl ?_
      refine mm_iconst (v := 1) dX12_endsPiece_21 rfl ?_
      refine mm_isub dX12_endsPiece_22 ?_
      refine mm_putI dX12_endsPiece_23 fp_RX12_244 lo_97 rfl ?_
      refine mm_nm_M (fun M_5 => ?_)
      refine mm_aload_n 0 dX12_endsPiece_26 rfl ?_
      refine mm_aload_n 0 dX12_endsPiece_27 rfl ?_
      refine mm_getI dX12_endsPiece_28 fl_RX12_241 lo_97 rfl ?_
      refine mm_iconst (v := 1) dX12_endsPiece_31 rfl ?_
      refine mm_isub dX12_endsPiece_32 ?_
      refine mm_putI dX12_endsPiece_33 fp_RX12_241 lo_97 rfl ?_
      refine mm_nm_M (fun M_6 => ?_)
      refine mm_goto 0 dX12_endsPiece_36 rfl ?_
      exact ih  M_6
def f_R_endsPiece (M : mm_M) : Option (Unit × mm_M) := lp_R_endsPiece_0 (fun (M_7 : mm_M) => some ((), M_7)) mm_fu M
set_option maxHeartbeats 4000000 in
theorem c_R_endsPiece (E : mm_E) (M : mm_M) : ∀ (r : Unit) (M2 : mm_M), f_R_endsPiece M = some (r, M2) → mm_P E Y_X12_endsPiece 2 [.ref 97] M none M2 := by
  refine mm_entry (em := (fun _ : Unit => none)) (by decide +kernel) (Nat.le_of_ble_eq_true rfl) ?_
  show mm_G _ E _ _ 0 [(0, .ref 97)] [] M _
  unfold f_R_endsPiece
  refine lp_R_endsPiece_0_ok E ?_ mm_fu M
  · intro M_7
    exact mm_vret dX12_endsPiece_39 rfl
def f_R_readsCompared (M : mm_M) : Option (Bool × mm_M) := mm_bd (f_R_readsSum M) fun b_1 M_2 => if b_1 = true then mm_bd (f_R_here M_2) fun r_3 M_4 => mm_jn (fun (s0 : Int32) (M_5 : mm_M) => if s0 = (-1) then mm_bd (f_R_wrongAt 1 (M_5.1 97 2) M_5) fun b_13 M_14 => some (b_13, M_14) else mm_let (mm_setI M_5 97 2 ((M_5.1 97 2) + 1)) fun M_6 => mm_bd (f_R_readsSum M_6) fun b_7 M_8 => if b_7 = true then mm_bd (f_R_notes s0 0 M_8) fun u_9 M_10 => mm_bd (f_R_endsPiece M_10) fun u_11 M_12 => some (true, M_12) else some (false, M_8)) fun j52 => if r_3 = 60 then j52 7 M_4 else mm_bd (f_R_here M_4) fun r_15 M_16 => if r_15 = 62 then j52 8 M_16 else mm_bd (f_R_here M_16) fun r_17 M_18 => if r_17 = 61 then j52 9 M_18 else j52 (-1) M_18 else some (false, M_2)
set_option maxHeartbeats 4000000 in
theorem c_R_readsCompared (E : mm_E) (M : mm_M) : ∀ (r : Bool) (M2 : mm_M), f_R_readsCompared M = some (r, M2) → mm_P E Y_X12_readsCompared 6 [.ref 97] M (some (.int (mm_b r))) M2 := by
  refine mm_entry (em := (fun x : Bool => some (.int (mm_b x)))) (by decide +kernel) (Nat.le_of_ble_eq_true rfl) ?_
  show mm_G _ E _ _ 0 [(0, .ref 97)] [] M _
  unfold f_R_readsCompared
  refine mm_aload_n 0 dX12_readsCompared_0 rfl ?_
  refine mm_callVz (as := []) (st := []) (c_R_readsSum E M) dX12_readsCompared_1 mz_X12_readsSum lk_RX12_276 im_X12_readsSum se_X12_readsSum lo_97 rfl rfl rfl ⟨Nat.le_of_ble_eq_true rfl, Nat.le_of_ble_eq_true rfl⟩ (Nat.le_of_ble_eq_true rfl) (fun b_1 M_2 => ?_)
  refine mm_if_ne_b 9 dX12_readsCompared_4 rfl ?_ ?_
  · refine mm_aload_n 0 dX12_readsCompared_9 rfl ?_
    refine mm_callVi (as := []) (st := []) (c_R_here E M_2) dX12_readsCompared_10 mz_X12_here lk_RX12_165 im_X12_here se_X12_here lo_97 rfl rfl rfl ⟨Nat.le_of_ble_eq_true rfl, Nat.le_of_ble_eq_true rfl⟩ (Nat.le_of_ble_eq_true rfl) (fun r_3 M_4 => ?_)
    refine mm_bipush (v := 60) dX12_readsCompared_13 rfl ?_
    refine mm_jnP (P := fun j => ∀ (s0 : Int32) (M : mm_M), mm_G (fun x : Bool => some (.int (mm_b x))) E Y_X12_readsCompared 6 52 [(0, .ref 97)] [.int s0] M (j s0 M)) ?_ (fun j52 hj52 => ?_)
    · intro s0 M_5
      refine mm_istore_n [1, 0] (lv2 := [(0, .ref 97), (1, .int s0)]) dX12_readsCompared_52 (by decide) rfl ?_
      refine mm_iload_n 1 dX12_readsCompared_53 rfl ?_
      refine mm_iconst (v := (-1)) dX12_readsCompared_54 rfl ?_
      refine mm_icmp_ne 68 dX12_readsCompared_55 rfl ?_ ?_
      · refine mm_aload_n 0 dX12_readsCompared_68 rfl ?_
        refine mm_aload_n 0 dX12_readsCompared_69 rfl ?_
        refine mm_getI dX12_readsCompared_70 fl_RX12_151 lo_97 rfl ?_
        refine mm_iconst (v := 1) dX12_readsCompared_73 rfl ?_
        refine mm_iadd dX12_readsCompared_74 ?_
        refine mm_putI dX12_readsCompared_75 fp_RX12_151 lo_97 rfl ?_
        refine mm_nm_M (fun M_6 => ?_)
        refine mm_aload_n 0 dX12_readsCompared_78 rfl ?_
        refine mm_callVz (as := []) (st := []) (c_R_readsSum E M_6) dX12_readsCompared_79 mz_X12_readsSum lk_RX12_276 im_X12_readsSum se_X12_readsSum lo_97 rfl rfl rfl ⟨Nat.le_of_ble_eq_true rfl, Nat.le_of_ble_eq_true rfl⟩ (Nat.le_of_ble_eq_true rfl) (fun b_7 M_8 => ?_)
        refine mm_if_ne_b 87 dX12_readsCompared_82 rfl ?_ ?_
        · refine mm_aload_n 0 dX12_readsCompared_87 rfl ?_
          refine mm_iload_n 1 dX12_readsCompared_88 rfl ?_
          refine mm_iconst (v := 0) dX12_readsCompared_89 rfl ?_
          refine mm_callVv (as := [.int s0, .int 0]) (st := []) (c_R_notes E s0 0 M_8) dX12_readsCompared_90 mz_X12_notes lk_RX12_250 im_X12_notes se_X12_notes lo_97 rfl rfl rfl ⟨Nat.le_of_ble_eq_true rfl, Nat.le_of_ble_eq_true rfl⟩ (Nat.le_of_ble_eq_true rfl) (fun u_9 M_10 => ?_)
          refine mm_aload_n 0 dX12_readsCompared_93 rfl ?_
          refine mm_callVv (as := []) (st := []) (c_R_endsPiece E M_10) dX12_readsCompared_94 mz_X12_endsPiece lk_RX12_279 im_X12_endsPiece se_X12_endsPiece lo_97 rfl rfl rfl ⟨Nat.le_of_ble_eq_true rfl, Nat.le_of_ble_eq_true rfl⟩ (Nat.le_of_ble_eq_true rfl) (fun u_11 M_12 => ?_)
          refine mm_iconst (v := 1) dX12_readsCompared_97 rfl ?_
          exact mm_zret (b := true) dX12_readsCompared_98 rfl
        · refine mm_iconst (v := 0) dX12_readsCompared_85 rfl ?_
          exact mm_zret (b := false) dX12_readsCompared_86 rfl
      · refine mm_aload_n 0 dX12_readsCompared_58 rfl ?_
        refine mm_iconst (v := 1) dX12_readsCompared_59 rfl ?_
        refine mm_aload_n 0 dX12_readsCompared_60 rfl ?_
        refine mm_getI dX12_readsCompared_61 fl_RX12_151 lo_97 rfl ?_
        refine mm_callVz (as := [.int 1, .int (M_5.1 97 2)]) (st := []) (c_R_wrongAt E 1 (M_5.1 97 2) M_5) dX12_readsCompared_64 mz_X12_wrongAt lk_RX12_161 im_X12_wrongAt se_X12_wrongAt lo_97 rfl rfl rfl ⟨Nat.le_of_ble_eq_true rfl, Nat.le_of_ble_eq_true rfl⟩ (Nat.le_of_ble_eq_true rfl) (fun b_13 M_14 => ?_)
        exact mm_zret (b := b_13) dX12_readsCompared_67 rfl
    refine mm_icmp_ne 23 dX12_readsCompared_15 rfl ?_ ?_
    · refine mm_aload_n 0 dX12_readsCompared_23 rfl ?_
      refine mm_callVi (as := []) (st := []) (c_R_here E M_4) dX12_readsCompared_24 mz_X12_here lk_RX12_165 im_X12_here se_X12_here lo_97 rfl rfl rfl ⟨Nat.le_of_ble_eq_true rfl, Nat.le_of_ble_eq_true rfl⟩ (Nat.le_of_ble_eq_true rfl) (fun r_15 M_16 => ?_)
      refine mm_bipush (v := 62) dX12_readsCompared_27 rfl ?_
      refine mm_icmp_ne 37 dX12_readsCompared_29 rfl ?_ ?_
      · refine mm_aload_n 0 dX12_readsCompared_37 rfl ?_
        refine mm_callVi (as := []) (st := []) (c_R_here E M_16) dX12_readsCompared_38 mz_X12_here lk_RX12_165 im_X12_here se_X12_here lo_97 rfl rfl rfl ⟨Nat.le_of_ble_eq_true rfl, Nat.le_of_ble_eq_true rfl⟩ (Nat.le_of_ble_eq_true rfl) (fun r_17 M_18 => ?_)
        refine mm_bipush (v := 61) dX12_readsCompared_41 rfl ?_
        refine mm_icmp_ne 51 dX12_readsCompared_43 rfl ?_ ?_
        · refine mm_iconst (v := (-1)) dX12_readsCompared_51 rfl ?_
          exact hj52 (-1) M_18
        · refine mm_bipush (v := 9) dX12_readsCompared_46 rfl ?_
          refine mm_goto 52 dX12_readsCompared_48 rfl ?_
          exact hj52 9 M_18
      · refine mm_bipush (v := 8) dX12_readsCompared_32 rfl ?_
        refine mm_goto 52 dX12_readsCompared_34 rfl ?_
        exact hj52 8 M_16
    · refine mm_bipush (v := 7) dX12_readsCompared_18 rfl ?_
      refine mm_goto 52 dX12_readsCompared_20 rfl ?_
      exact hj52 7 M_4
  · refine mm_iconst (v := 0) dX12_readsCompared_7 rfl ?_
    exact mm_zret (b := false) dX12_readsCompared_8 rfl
def lp_R_lands_0 (v1 : Bool) (k73 : mm_M → Option (Unit × mm_M)) : Nat → mm_M → Option (Unit × mm_M)
  | 0, _ => none
  | n + 1, M => mm_bd (f_R_top M) fun r_1 M_2 => mm_jn (fun (M_3 : mm_M) => if mm_in ((M_3.1 97 24) - 1) (mm_al 110) = true then mm_let (mm_rem (M_3.2.1 110 ((M_3.1 97 24) - 1).toNatClampNeg) 1048576) fun v2_4 => if mm_in v2_4 (mm_al 109) = true then if mm_in v2_4 (mm_al 109) = true then mm_let (mm_setA M_3 109 (v2_4.toNatClampNeg) ((1048576 * ((M_3.2.1 109 v2_4.toNatClampNeg) / 1048576)) + (M_3.1 97 23))) fun M_5 => mm_let (mm_setI M_5 97 24 ((M_5.1 97 24) - 1)) fun M_6 => lp_R_lands_0 v1 k73 n M_6 else none else none else none) fun j22 => if r_1 = 11 then j22 M_2 else if v1 = true then mm_bd (f_R_top M_2) fun r_7 M_8 => if r_7 = 12 then j22 M_8 else k73 M_8 else k73 M_2
set_option maxHeartbeats 4000000 in
theorem lp_R_lands_0_ok (E : mm_E) (v1 : Bool) {k73 : mm_M → Option (Unit × mm_M)} (hk73 : ∀ (M : mm_M), mm_G (fun _ : Unit => none) E Y_X12_lands 2 73 [] [] M (k73 M)) : ∀ (n : Nat) (M : mm_M), mm_G (fun _ : Unit => none) E Y_X12_lands 2 0 [(0, .ref 97), (1, .int (mm_b v1))] [] M (lp_R_lands_0 v1 k73 n M) := by
  intro n
  induction n with
  | zero => intro M r M2 he; cases he
  | succ n ih =>
    intro M
    rw [lp_R_lands_0]
    refine mm_aload_n 0 dX12_lands_0 rfl ?_
    refine mm_callVi (as := []) (st := []) (c_R_top E M) dX12_lands_1 mz_X12_top lk_RX12_247 im_X12_top se_X12_top lo_97 rfl rfl rfl ⟨Nat.le_of_ble_eq_true rfl, Nat.le_of_ble_eq_true rfl⟩ (Nat.le_of_ble_eq_true rfl) (fun r_1 M_2 => ?_)
    refine mm_bipush (v := 11) dX12_lands_4 rfl ?_
    refine mm_jnP (P := fun j => ∀ (M : mm_M), mm_G (fun _ : Unit => none) E Y_X12_lands 2 22 [(0, .ref 97), (1, .int (mm_b v1))] [] M (j M)) ?_ (fun j22 hj22 => ?_)
    · intro M_3
      refine mm_aload_n 0 dX12_lands_22 rfl ?_
      refine mm_getR 110 dX12_lands_23 fl_RX12_47 lo_97 rfl ?_
      refine mm_aload_n 0 dX12_lands_26 rfl ?_
      refine mm_getI dX12_lands_27 fl_RX12_244 lo_97 rfl ?_
      refine mm_iconst (v := 1) dX12_lands_30 rfl ?_
      refine mm_isub dX12_lands_31 ?_
      refine mm_iaload dX12_lands_32 ?_
      refine mm_ldc dX12_lands_33 ct_RX12_240 ?_
      refine mm_irem_c dX12_lands_35 (by decide) ?_
      refine mm_nm_int (fun v2_4 => ?_)
      refine mm_istore_n [1, 2, 0] (lv2 := [(0, .ref 97), (1, .int (mm_b v1)), (2, .int v2_4)]) dX12_lands_36 (by decide) rfl ?_
      refine mm_aload_n 0 dX12_lands_37 rfl ?_
      refine mm_getR 109 dX12_lands_38 fl_RX12_44 lo_97 rfl ?_
      refine mm_iload_n 2 dX12_lands_41 rfl ?_
      refine mm_ldc dX12_lands_42 ct_RX12_240 ?_
      refine mm_aload_n 0 dX12_lands_44 rfl ?_
      refine mm_getR 109 dX12_lands_45 fl_RX12_44 lo_97 rfl ?_
      refine mm_iload_n 2 dX12_lands_48 rfl ?_
      refine mm_iaload dX12_lands_49 ?_
      refine mm_ldc dX12_lands_50 ct_RX12_240 ?_
      refine mm_idiv_c dX12_lands_52 (by decide) ?_
      refine mm_imul dX12_lands_53 ?_
      refine mm_aload_n 0 dX12_lands_54 rfl ?_
      refine mm_getI dX12_lands_55 fl_RX12_237 lo_97 rfl ?_
      refine mm_iadd dX12_lands_58 ?_
      refine mm_iastore dX12_lands_59 ?_
      refine mm_nm_M (fun M_5 => ?_)
      refine mm_aload_n 0 dX12_lands_60 rfl ?_
      refine mm_aload_n 0 dX12_lands_61 rfl ?_
      refine mm_getI dX12_lands_62 fl_RX12_244 lo_97 rfl ?_
      refine mm_iconst (v := 1) dX12_lands_65 rfl ?_
      refine mm_isub dX12_lands_66 ?_
      refine mm_putI dX12_lands_67 fp_RX12_244 lo_97 rfl ?_
      refine mm_nm_M (fun M_6 => ?_)
      refine mm_goto 0 dX12_lands_70 rfl ?_
      refine mm_wk [0, 1] rfl ?_
      exact ih  M_6
    refine mm_icmp_eq 22 dX12_lands_6 rfl ?_ ?_
    · exact hj22  M_2
    · refine mm_iload_n 1 dX12_lands_9 rfl ?_
      refine mm_if_eq_b 73 dX12_lands_10 rfl ?_ ?_
      · refine mm_wk [] rfl ?_
        exact hk73  M_2
      · refine mm_aload_n 0 dX12_lands_13 rfl ?_
        refine mm_callVi (as := []) (st := []) (c_R_top E M_2) dX12_lands_14 mz_X12_top lk_RX12_247 im_X12_top se_X12_top lo_97 rfl rfl rfl ⟨Nat.le_of_ble_eq_true rfl, Nat.le_of_ble_eq_true rfl⟩ (Nat.le_of_ble_eq_true rfl) (fun r_7 M_8 => ?_)
        refine mm_bipush (v := 12) dX12_lands_17 rfl ?_
        refine mm_icmp_ne 73 dX12_lands_19 rfl ?_ ?_
        · refine mm_wk [] rfl ?_
          exact hk73  M_8
        · exact hj22  M_8
def f_R_lands (v1 : Bool) (M : mm_M) : Option (Unit × mm_M) := lp_R_lands_0 v1 (fun (M_9 : mm_M) => some ((), M_9)) mm_fu M
set_option maxHeartbeats 4000000 in
theorem c_R_lands (E : mm_E) (v1 : Bool) (M : mm_M) : ∀ (r : Unit) (M2 : mm_M), f_R_lands v1 M = some (r, M2) → mm_P E Y_X12_lands 2 [.ref 97, .int (mm_b v1)] M none M2 := by
  refine mm_entry (em := (fun _ : Unit => none)) (by decide +kernel) (Nat.le_of_ble_eq_true rfl) ?_
  show mm_G _ E _ _ 0 [(0, .ref 97), (1, .int (mm_b v1))] [] M _
  unfold f_R_lands
  refine lp_R_lands_0_ok E v1 ?_ mm_fu M
  · intro M_9
    exact mm_vret dX12_lands_73 rfl
def f_R_jumps (v1 : Int32) (M : mm_M) : Option (Unit × mm_M) := if mm_in (M.1 97 24) (mm_al 110) = true then mm_let (mm_setA M 110 ((M.1 97 24).toNatClampNeg) ((1048576 * v1) + (M.1 97 23))) fun M_1 => mm_let (mm_setI M_1 97 24 ((M_1.1 97 24) + 1)) fun M_2 => mm_bd (f_R_notes v1 0 M_2) fun u_3 M_4 => mm_let (mm_setI M_4 97 2 ((M_4.1 97 2) + 1)) fun M_5 => some ((), M_5) else none
set_option maxHeartbeats 4000000 in
theorem c_R_jumps (E : mm_E) (v1 : Int32) (M : mm_M) : ∀ (r : Unit) (M2 : mm_M), f_R_jumps v1 M = some (r, M2) → mm_P E Y_X12_jumps 2 [.ref 97, .int v1] M none M2 := by
  refine mm_entry (em := (fun _ : Unit => none)) (by decide +kernel) (Nat.le_of_ble_eq_true rfl) ?_
  show mm_G _ E _ _ 0 [(0, .ref 97), (1, .int v1)] [] M _
  unfold f_R_jumps
  refine mm_aload_n 0 dX12_jumps_0 rfl ?_
  refine mm_getR 110 dX12_jumps_1 fl_RX12_47 lo_97 rfl ?_
  refine mm_aload_n 0 dX12_jumps_4 rfl ?_
  refine mm_getI dX12_jumps_5 fl_RX12_244 lo_97 rfl ?_
  refine mm_ldc dX12_jumps_8 ct_RX12_240 ?_
  refine mm_iload_n 1 dX12_jumps_10 rfl ?_
  refine mm_imul dX12_jumps_11 ?_
  refine mm_aload_n 0 dX12_jumps_12 rfl ?_
  refine mm_getI dX12_jumps_13 fl_RX12_237 lo_97 rfl ?_
  refine mm_iadd dX12_jumps_16 ?_
  refine mm_iastore dX12_jumps_17 ?_
  refine mm_nm_M (fun M_1 => ?_)
  refine mm_aload_n 0 dX12_jumps_18 rfl ?_
  refine mm_aload_n 0 dX12_jumps_19 rfl ?_
  refine mm_getI dX12_jumps_20 fl_RX12_244 lo_97 rfl ?_
  refine mm_iconst (v := 1) dX12_jumps_23 rfl ?_
  refine mm_iadd dX12_jumps_24 ?_
  refine mm_putI dX12_jumps_25 fp_RX12_244 lo_97 rfl ?_
  refine mm_nm_M (fun M_2 => ?_)
  refine mm_aload_n 0 dX12_jumps_28 rfl ?_
  refine mm_iload_n 1 dX12_jumps_29 rfl ?_
  refine mm_iconst (v := 0) dX12_jumps_30 rfl ?_
  refine mm_callVv (as := [.int v1, .int 0]) (st := []) (c_R_notes E v1 0 M_2) dX12_jumps_31 mz_X12_notes lk_RX12_250 im_X12_notes se_X12_notes lo_97 rfl rfl rfl ⟨Nat.le_of_ble_eq_true rfl, Nat.le_of_ble_eq_true rfl⟩ (Nat.le_of_ble_eq_true rfl) (fun u_3 M_4 => ?_)
  refine mm_aload_n 0 dX12_jumps_34 rfl ?_
  refine mm_aload_n 0 dX12_jumps_35 rfl ?_
  refine mm_getI dX12_jumps_36 fl_RX12_151 lo_97 rfl ?_
  refine mm_iconst (v := 1) dX12_jumps_39 rfl ?_
  refine mm_iadd dX12_jumps_40 ?_
  refine mm_putI dX12_jumps_41 fp_RX12_151 lo_97 rfl ?_
  refine mm_nm_M (fun M_5 => ?_)
  exact mm_vret dX12_jumps_44 rfl
def lp_R_readsCondition_92 (k143 : mm_M → Option (Bool × mm_M)) (k152 : mm_M → Option (Bool × mm_M)) : Nat → mm_M → Option (Bool × mm_M)
  | 0, _ => none
  | n + 1, M => mm_bd (f_R_here M) fun r_19 M_20 => if r_19 = 41 then mm_bd (f_R_lands true M_20) fun u_21 M_22 => mm_let (mm_setI M_22 97 24 ((M_22.1 97 24) - 1)) fun M_23 => mm_let (mm_setI M_23 97 22 ((M_23.1 97 22) - 1)) fun M_24 => mm_let (mm_setI M_24 97 2 ((M_24.1 97 2) + 1)) fun M_25 => if M_25.1 97 24 = 0 then k143 M_25 else mm_bd (f_R_endsPiece M_25) fun u_26 M_27 => lp_R_readsCondition_92 k143 k152 n M_27 else k152 M_20
set_option maxHeartbeats 4000000 in
theorem lp_R_readsCondition_92_ok (E : mm_E) {k143 : mm_M → Option (Bool × mm_M)} {k152 : mm_M → Option (Bool × mm_M)} (hk143 : ∀ (M : mm_M), mm_G (fun x : Bool => some (.int (mm_b x))) E Y_X12_readsCondition 7 143 [] [] M (k143 M)) (hk152 : ∀ (M : mm_M), mm_G (fun x : Bool => some (.int (mm_b x))) E Y_X12_readsCondition 7 152 [(0, .ref 97)] [] M (k152 M)) : ∀ (n : Nat) (M : mm_M), mm_G (fun x : Bool => some (.int (mm_b x))) E Y_X12_readsCondition 7 92 [(0, .ref 97)] [] M (lp_R_readsCondition_92 k143 k152 n M) := by
  intro n
  induction n with
  | zero => intro M r M2 he; cases he
  | succ n ih =>
    intro M
    rw [lp_R_readsCondition_92]
    refine mm_aload_n 0 dX12_readsCondition_92 rfl ?_
    refine mm_callVi (as := []) (st := []) (c_R_here E M) dX12_readsCondition_93 mz_X12_here lk_RX12_165 im_X12_here se_X12_here lo_97 rfl rfl rfl ⟨Nat.le_of_ble_eq_true rfl, Nat.le_of_ble_eq_true rfl⟩ (Nat.le_of_ble_eq_true rfl) (fun r_19 M_20 => ?_)
    refine mm_bipush (v := 41) dX12_readsCondition_96 rfl ?_
    refine mm_icmp_ne 152 dX12_readsCondition_98 rfl ?_ ?_
    · exact hk152  M_20
    · refine mm_aload_n 0 dX12_readsCondition_101 rfl ?_
      refine mm_iconst (v := 1) dX12_readsCondition_102 rfl ?_
      refine mm_callVv (as := [.int (mm_b true)]) (st := []) (c_R_lands E true M_20) dX12_readsCondition_103 mz_X12_lands lk_RX12_285 im_X12_lands se_X12_lands lo_97 rfl rfl rfl ⟨Nat.le_of_ble_eq_true rfl, Nat.le_of_ble_eq_true rfl⟩ (Nat.le_of_ble_eq_true rfl) (fun u_21 M_22 => ?_)
      refine mm_aload_n 0 dX12_readsCondition_106 rfl ?_
      refine mm_aload_n 0 dX12_readsCondition_107 rfl ?_
      refine mm_getI dX12_readsCondition_108 fl_RX12_244 lo_97 rfl ?_
      refine mm_iconst (v := 1) dX12_readsCondition_111 rfl ?_
      refine mm_isub dX12_readsCondition_112 ?_
      refine mm_putI dX12_readsCondition_113 fp_RX12_244 lo_97 rfl ?_
      refine mm_nm_M (fun M_23 => ?_)
      refine mm_aload_n 0 dX12_readsCondition_116 rfl ?_
      refine mm_aload_n 0 dX12_readsCondition_117 rfl ?_
      refine mm_getI dX12_readsCondition_118 fl_RX12_241 lo_97 rfl ?_
      refine mm_iconst (v := 1) dX12_readsCondition_121 rfl ?_
      refine mm_isub dX12_readsCondition_122 ?_
      refine mm_putI dX12_readsCondition_123 fp_RX12_241 lo_97 rfl ?_
      refine mm_nm_M (fun M_24 => ?_)
      refine mm_aload_n 0 dX12_readsCondition_126 rfl ?_
      refine mm_aload_n 0 dX12_readsCondition_127 rfl ?_
      refine mm_getI dX12_readsCondition_128 fl_RX12_151 lo_97 rfl ?_
      refine mm_iconst (v := 1) dX12_readsCondition_131 rfl ?_
      refine mm_iadd dX12_readsCondition_132 ?_
      refine mm_putI dX12_readsCondition_133 fp_RX12_151 lo_97 rfl ?_
      refine mm_nm_M (fun M_25 => ?_)
      refine mm_aload_n 0 dX12_readsCondition_136 rfl ?_
      refine mm_getI dX12_readsCondition_137 fl_RX12_244 lo_97 rfl ?_
      refine mm_if_ne 145 dX12_readsCondition_140 rfl ?_ ?_
      · refine mm_aload_n 0 dX12_readsCondition_145 rfl ?_
        refine mm_callVv (as := []) (st := []) (c_R_endsPiece E M_25) dX12_readsCondition_146 mz_X12_endsPiece lk_RX12_279 im_X12_endsPiece se_X12_endsPiece lo_97 rfl rfl rfl ⟨Nat.le_of_ble_eq_true rfl, Nat.le_of_ble_eq_true rfl⟩ (Nat.le_of_ble_eq_true rfl) (fun u_26 M_27 => ?_)
        refine mm_goto 92 dX12_readsCondition_149 rfl ?_
        exact ih  M_27
      · refine mm_wk [] rfl ?_
        exact hk143  M_25
def lp_R_readsCondition_40 (k81 : mm_M → Option (Bool × mm_M)) (k90 : mm_M → Option (Bool × mm_M)) (k143 : mm_M → Option (Bool × mm_M)) (k170 : mm_M → Option (Bool × mm_M)) : Nat → mm_M → Option (Bool × mm_M)
  | 0, _ => none
  | n + 1, M => mm_bd (f_R_here M) fun r_7 M_8 => mm_jn (fun (M_9 : mm_M) => mm_bd (f_R_here M_9) fun r_10 M_11 => mm_jn (fun (s1 : Int32) (M_12 : mm_M) => mm_bd (f_R_opens s1 M_12) fun b_13 M_14 => if b_13 = true then lp_R_readsCondition_40 k81 k90 k143 k170 n M_14 else k81 M_14) fun j75 => if r_10 = 33 then j75 10 M_11 else j75 13 M_11) fun j58 => if r_7 = 33 then j58 M_8 else mm_bd (f_R_here M_8) fun r_15 M_16 => if r_15 = 40 then j58 M_16 else mm_bd (f_R_readsCompared M_16) fun b_17 M_18 => if b_17 = true then lp_R_readsCondition_92 (fun (M_28 : mm_M) => k143 M_28) (fun (M_29 : mm_M) => mm_bd (f_R_here M_29) fun r_30 M_31 => mm_jn (fun (M_32 : mm_M) => mm_bd (f_R_here M_32) fun r_33 M_34 => mm_jn (fun (s1 : Bool) (M_35 : mm_M) => mm_bd (f_R_lands s1 M_35) fun u_36 M_37 => mm_bd (f_R_here M_37) fun r_38 M_39 => mm_jn (fun (s1 : Int32) (M_40 : mm_M) => mm_bd (f_R_jumps s1 M_40) fun u_41 M_42 => lp_R_readsCondition_40 k81 k90 k143 k170 n M_42) fun j215 => if r_38 = 38 then j215 11 M_39 else j215 12 M_39) fun j195 => if r_33 = 124 then j195 true M_34 else j195 false M_34) fun j180 => if r_30 = 38 then j180 M_31 else mm_bd (f_R_here M_31) fun r_43 M_44 => if r_43 = 124 then j180 M_44 else k170 M_44) mm_fu M_18 else k90 M_18
set_option maxHeartbeats 4000000 in
theorem lp_R_readsCondition_40_ok (E : mm_E) {k81 : mm_M → Option (Bool × mm_M)} {k90 : mm_M → Option (Bool × mm_M)} {k143 : mm_M → Option (Bool × mm_M)} {k170 : mm_M → Option (Bool × mm_M)} (hk81 : ∀ (M : mm_M), mm_G (fun x : Bool => some (.int (mm_b x))) E Y_X12_readsCondition 7 81 [] [] M (k81 M)) (hk90 : ∀ (M : mm_M), mm_G (fun x : Bool => some (.int (mm_b x))) E Y_X12_readsCondition 7 90 [] [] M (k90 M)) (hk143 : ∀ (M : mm_M), mm_G (fun x : Bool => some (.int (mm_b x))) E Y_X12_readsCondition 7 143 [] [] M (k143 M)) (hk170 : ∀ (M : mm_M), mm_G (fun x : Bool => some (.int (mm_b x))) E Y_X12_readsCondition 7 170 [(0, .ref 97)] [] M (k170 M)) : ∀ (n : Nat) (M : mm_M), mm_G (fun x : Bool => some (.int (mm_b x))) E Y_X12_readsCondition 7 40 [(0, .ref 97)] [] M (lp_R_readsCondition_40 k81 k90 k143 k170 n M) := by
  intro n
  induction n with
  | zero => intro M r M2 he; cases he
  | succ n ih =>
    intro M
    rw [lp_R_readsCondition_40]
    refine mm_aload_n 0 dX12_readsCondition_40 rfl ?_
    refine mm_callVi (as := []) (st := []) (c_R_here E M) dX12_readsCondition_41 mz_X12_here lk_RX12_165 im_X12_here se_X12_here lo_97 rfl rfl rfl ⟨Nat.le_of_ble_eq_true rfl, Nat.le_of_ble_eq_true rfl⟩ (Nat.le_of_ble_eq_true rfl) (fun r_7 M_8 => ?_)
    refine mm_bipush (v := 33) dX12_readsCondition_44 rfl ?_
    refine mm_jnP (P := fun j => ∀ (M : mm_M), mm_G (fun x : Bool => some (.int (mm_b x))) E Y_X12_readsCondition 7 58 [(0, .ref 97)] [] M (j M)) ?_ (fun j58 hj58 => ?_)
    · intro M_9
      refine mm_aload_n 0 dX12_readsCondition_58 rfl ?_
      refine mm_aload_n 0 dX12_readsCondition_59 rfl ?_
      refine mm_callVi (as := []) (st := [.ref 97]) (c_R_here E M_9) dX12_readsCondition_60 mz_X12_here lk_RX12_165 im_X12_here se_X12_here lo_97 rfl rfl rfl ⟨Nat.le_of_ble_eq_true rfl, Nat.le_of_ble_eq_true rfl⟩ (Nat.le_of_ble_eq_true rfl) (fun r_10 M_11 => ?_)
      refine mm_bipush (v := 33) dX12_readsCondition_63 rfl ?_
      refine mm_jnP (P := fun j => ∀ (s1 : Int32) (M : mm_M), mm_G (fun x : Bool => some (.int (mm_b x))) E Y_X12_readsCondition 7 75 [(0, .ref 97)] [.int s1, .ref 97] M (j s1 M)) ?_ (fun j75 hj75 => ?_)
      · intro s1 M_12
        refine mm_callVz (as := [.int s1]) (st := []) (c_R_opens E s1 M_12) dX12_readsCondition_75 mz_X12_opens lk_RX12_254 im_X12_opens se_X12_opens lo_97 rfl rfl rfl ⟨Nat.le_of_ble_eq_true rfl, Nat.le_of_ble_eq_true rfl⟩ (Nat.le_of_ble_eq_true rfl) (fun b_13 M_14 => ?_)
        refine mm_if_ne_b 40 dX12_readsCondition_78 rfl ?_ ?_
        · exact ih  M_14
        · refine mm_wk [] rfl ?_
          exact hk81  M_14
      refine mm_icmp_ne 73 dX12_readsCondition_65 rfl ?_ ?_
      · refine mm_bipush (v := 13) dX12_readsCondition_73 rfl ?_
        exact hj75 13 M_11
      · refine mm_bipush (v := 10) dX12_readsCondition_68 rfl ?_
        refine mm_goto 75 dX12_readsCondition_70 rfl ?_
        exact hj75 10 M_11
    refine mm_icmp_eq 58 dX12_readsCondition_46 rfl ?_ ?_
    · exact hj58  M_8
    · refine mm_aload_n 0 dX12_readsCondition_49 rfl ?_
      refine mm_callVi (as := []) (st := []) (c_R_here E M_8) dX12_readsCondition_50 mz_X12_here lk_RX12_165 im_X12_here se_X12_here lo_97 rfl rfl rfl ⟨Nat.le_of_ble_eq_true rfl, Nat.le_of_ble_eq_true rfl⟩ (Nat.le_of_ble_eq_true rfl) (fun r_15 M_16 => ?_)
      refine mm_bipush (v := 40) dX12_readsCondition_53 rfl ?_
      refine mm_icmp_ne 83 dX12_readsCondition_55 rfl ?_ ?_
      · refine mm_aload_n 0 dX12_readsCondition_83 rfl ?_
        refine mm_callVz (as := []) (st := []) (c_R_readsCompared E M_16) dX12_readsCondition_84 mz_X12_readsCompared lk_RX12_282 im_X12_readsCompared se_X12_readsCompared lo_97 rfl rfl rfl ⟨Nat.le_of_ble_eq_true rfl, Nat.le_of_ble_eq_true rfl⟩ (Nat.le_of_ble_eq_true rfl) (fun b_17 M_18 => ?_)
        refine mm_if_ne_b 92 dX12_readsCondition_87 rfl ?_ ?_
        · refine lp_R_readsCondition_92_ok E ?_ ?_ mm_fu M_18
          · intro M_28
            exact hk143  M_28
          · intro M_29
            refine mm_aload_n 0 dX12_readsCondition_152 rfl ?_
            refine mm_callVi (as := []) (st := []) (c_R_here E M_29) dX12_readsCondition_153 mz_X12_here lk_RX12_165 im_X12_here se_X12_here lo_97 rfl rfl rfl ⟨Nat.le_of_ble_eq_true rfl, Nat.le_of_ble_eq_true rfl⟩ (Nat.le_of_ble_eq_true rfl) (fun r_30 M_31 => ?_)
            refine mm_bipush (v := 38) dX12_readsCondition_156 rfl ?_
            refine mm_jnP (P := fun j => ∀ (M : mm_M), mm_G (fun x : Bool => some (.int (mm_b x))) E Y_X12_readsCondition 7 180 [(0, .ref 97)] [] M (j M)) ?_ (fun j180 hj180 => ?_)
            · intro M_32
              refine mm_aload_n 0 dX12_readsCondition_180 rfl ?_
              refine mm_aload_n 0 dX12_readsCondition_181 rfl ?_
              refine mm_callVi (as := []) (st := [.ref 97]) (c_R_here E M_32) dX12_readsCondition_182 mz_X12_here lk_RX12_165 im_X12_here se_X12_here lo_97 rfl rfl rfl ⟨Nat.le_of_ble_eq_true rfl, Nat.le_of_ble_eq_true rfl⟩ (Nat.le_of_ble_eq_true rfl) (fun r_33 M_34 => ?_)
              refine mm_bipush (v := 124) dX12_readsCondition_185 rfl ?_
              refine mm_jnP (P := fun j => ∀ (s1 : Bool) (M : mm_M), mm_G (fun x : Bool => some (.int (mm_b x))) E Y_X12_readsCondition 7 195 [(0, .ref 97)] [.int (mm_b s1), .ref 97] M (j s1 M)) ?_ (fun j195 hj195 => ?_)
              · intro s1 M_35
                refine mm_callVv (as := [.int (mm_b s1)]) (st := []) (c_R_lands E s1 M_35) dX12_readsCondition_195 mz_X12_lands lk_RX12_285 im_X12_lands se_X12_lands lo_97 rfl rfl rfl ⟨Nat.le_of_ble_eq_true rfl, Nat.le_of_ble_eq_true rfl⟩ (Nat.le_of_ble_eq_true rfl) (fun u_36 M_37 => ?_)
                refine mm_aload_n 0 dX12_readsCondition_198 rfl ?_
                refine mm_aload_n 0 dX12_readsCondition_199 rfl ?_
                refine mm_callVi (as := []) (st := [.ref 97]) (c_R_here E M_37) dX12_readsCondition_200 mz_X12_here lk_RX12_165 im_X12_here se_X12_here lo_97 rfl rfl rfl ⟨Nat.le_of_ble_eq_true rfl, Nat.le_of_ble_eq_true rfl⟩ (Nat.le_of_ble_eq_true rfl) (fun r_38 M_39 => ?_)
                refine mm_bipush (v := 38) dX12_readsCondition_203 rfl ?_
                refine mm_jnP (P := fun j => ∀ (s1 : Int32) (M : mm_M), mm_G (fun x : Bool => some (.int (mm_b x))) E Y_X12_readsCondition 7 215 [(0, .ref 97)] [.int s1, .ref 97] M (j s1 M)) ?_ (fun j215 hj215 => ?_)
                · intro s1 M_40
                  refine mm_callVv (as := [.int s1]) (st := []) (c_R_jumps E s1 M_40) dX12_readsCondition_215 mz_X12_jumps lk_RX12_288 im_X12_jumps se_X12_jumps lo_97 rfl rfl rfl ⟨Nat.le_of_ble_eq_true rfl, Nat.le_of_ble_eq_true rfl⟩ (Nat.le_of_ble_eq_true rfl) (fun u_41 M_42 => ?_)
                  refine mm_goto 40 dX12_readsCondition_218 rfl ?_
                  exact ih  M_42
                refine mm_icmp_ne 213 dX12_readsCondition_205 rfl ?_ ?_
                · refine mm_bipush (v := 12) dX12_readsCondition_213 rfl ?_
                  exact hj215 12 M_39
                · refine mm_bipush (v := 11) dX12_readsCondition_208 rfl ?_
                  refine mm_goto 215 dX12_readsCondition_210 rfl ?_
                  exact hj215 11 M_39
              refine mm_icmp_ne 194 dX12_readsCondition_187 rfl ?_ ?_
              · refine mm_iconst (v := 0) dX12_readsCondition_194 rfl ?_
                exact hj195 false M_34
              · refine mm_iconst (v := 1) dX12_readsCondition_190 rfl ?_
                refine mm_goto 195 dX12_readsCondition_191 rfl ?_
                exact hj195 true M_34
            refine mm_icmp_eq 180 dX12_readsCondition_158 rfl ?_ ?_
            · exact hj180  M_31
            · refine mm_aload_n 0 dX12_readsCondition_161 rfl ?_
              refine mm_callVi (as := []) (st := []) (c_R_here E M_31) dX12_readsCondition_162 mz_X12_here lk_RX12_165 im_X12_here se_X12_here lo_97 rfl rfl rfl ⟨Nat.le_of_ble_eq_true rfl, Nat.le_of_ble_eq_true rfl⟩ (Nat.le_of_ble_eq_true rfl) (fun r_43 M_44 => ?_)
              refine mm_bipush (v := 124) dX12_readsCondition_165 rfl ?_
              refine mm_icmp_eq 180 dX12_readsCondition_167 rfl ?_ ?_
              · exact hj180  M_44
              · exact hk170  M_44
        · refine mm_wk [] rfl ?_
          exact hk90  M_18
      · exact hj58  M_16
def f_R_readsCondition (M : mm_M) : Option (Bool × mm_M) := mm_bd (f_R_here M) fun r_1 M_2 => if r_1 = 40 then mm_let (mm_setI M_2 97 22 0) fun M_3 => mm_let (mm_setI M_3 97 24 0) fun M_4 => mm_bd (f_R_opens 13 M_4) fun b_5 M_6 => if b_5 = true then lp_R_readsCondition_40 (fun (M_45 : mm_M) => some (false, M_45)) (fun (M_46 : mm_M) => some (false, M_46)) (fun (M_47 : mm_M) => some (true, M_47)) (fun (M_48 : mm_M) => mm_bd (f_R_wrongAt 1 (M_48.1 97 2) M_48) fun b_49 M_50 => some (b_49, M_50)) mm_fu M_6 else some (false, M_6) else mm_bd (f_R_wrongAt 1 (M_2.1 97 2) M_2) fun b_51 M_52 => some (b_51, M_52)
set_option maxHeartbeats 4000000 in
theorem c_R_readsCondition (E : mm_E) (M : mm_M) : ∀ (r : Bool) (M2 : mm_M), f_R_readsCondition M = some (r, M2) → mm_P E Y_X12_readsCondition 7 [.ref 97] M (some (.int (mm_b r))) M2 := by
  refine mm_entry (em := (fun x : Bool => some (.int (mm_b x)))) (by decide +kernel) (Nat.le_of_ble_eq_true rfl) ?_
  show mm_G _ E _ _ 0 [(0, .ref 97)] [] M _
  unfold f_R_readsCondition
  refine mm_aload_n 0 dX12_readsCondition_0 rfl ?_
  refine mm_callVi (as := []) (st := []) (c_R_here E M) dX12_readsCondition_1 mz_X12_here lk_RX12_165 im_X12_here se_X12_here lo_97 rfl rfl rfl ⟨Nat.le_of_ble_eq_true rfl, Nat.le_of_ble_eq_true rfl⟩ (Nat.le_of_ble_eq_true rfl) (fun r_1 M_2 => ?_)
  refine mm_bipush (v := 40) dX12_readsCondition_4 rfl ?_
  refine mm_icmp_eq 19 dX12_readsCondition_6 rfl ?_ ?_
  · refine mm_aload_n 0 dX12_readsCondition_19 rfl ?_
    refine mm_iconst (v := 0) dX12_readsCondition_20 rfl ?_
    refine mm_putI dX12_readsCondition_21 fp_RX12_241 lo_97 rfl ?_
    refine mm_nm_M (fun M_3 => ?_)
    refine mm_aload_n 0 dX12_readsCondition_24 rfl ?_
    refine mm_iconst (v := 0) dX12_readsCondition_25 rfl ?_
    refine mm_putI dX12_readsCondition_26 fp_RX12_244 lo_97 rfl ?_
    refine mm_nm_M (fun M_4 => ?_)
    refine mm_aload_n 0 dX12_readsCondition_29 rfl ?_
    refine mm_bipush (v := 13) dX12_readsCondition_30 rfl ?_
    refine mm_callVz (as := [.int 13]) (st := []) (c_R_opens E 13 M_4) dX12_readsCondition_32 mz_X12_opens lk_RX12_254 im_X12_opens se_X12_opens lo_97 rfl rfl rfl ⟨Nat.le_of_ble_eq_true rfl, Nat.le_of_ble_eq_true rfl⟩ (Nat.le_of_ble_eq_true rfl) (fun b_5 M_6 => ?_)
    refine mm_if_ne_b 40 dX12_readsCondition_35 rfl ?_ ?_
    · refine lp_R_readsCondition_40_ok E ?_ ?_ ?_ ?_ mm_fu M_6
      · intro M_45
        refine mm_iconst (v := 0) dX12_readsCondition_81 rfl ?_
        exact mm_zret (b := false) dX12_readsCondition_82 rfl
      · intro M_46
        refine mm_iconst (v := 0) dX12_readsCondition_90 rfl ?_
        exact mm_zret (b := false) dX12_readsCondition_91 rfl
      · intro M_47
        refine mm_iconst (v := 1) dX12_readsCondition_143 rfl ?_
        exact mm_zret (b := true) dX12_readsCondition_144 rfl
      · intro M_48
        refine mm_aload_n 0 dX12_readsCondition_170 rfl ?_
        refine mm_iconst (v := 1) dX12_readsCondition_171 rfl ?_
        refine mm_aload_n 0 dX12_readsCondition_172 rfl ?_
        refine mm_getI dX12_readsCondition_173 fl_RX12_151 lo_97 rfl ?_
        refine mm_callVz (as := [.int 1, .int (M_48.1 97 2)]) (st := []) (c_R_wrongAt E 1 (M_48.1 97 2) M_48) dX12_readsCondition_176 mz_X12_wrongAt lk_RX12_161 im_X12_wrongAt se_X12_wrongAt lo_97 rfl rfl rfl ⟨Nat.le_of_ble_eq_true rfl, Nat.le_of_ble_eq_true rfl⟩ (Nat.le_of_ble_eq_true rfl) (fun b_49 M_50 => ?_)
        exact mm_zret (b := b_49) dX12_readsCondition_179 rfl
    · refine mm_iconst (v := 0) dX12_readsCondition_38 rfl ?_
      exact mm_zret (b := false) dX12_readsCondition_39 rfl
  · refine mm_aload_n 0 dX12_readsCondition_9 rfl ?_
    refine mm_iconst (v := 1) dX12_readsCondition_10 rfl ?_
    refine mm_aload_n 0 dX12_readsCondition_11 rfl ?_
    refine mm_getI dX12_readsCondition_12 fl_RX12_151 lo_97 rfl ?_
    refine mm_callVz (as := [.int 1, .int (M_2.1 97 2)]) (st := []) (c_R_wrongAt E 1 (M_2.1 97 2) M_2) dX12_readsCondition_15 mz_X12_wrongAt lk_RX12_161 im_X12_wrongAt se_X12_wrongAt lo_97 rfl rfl rfl ⟨Nat.le_of_ble_eq_true rfl, Nat.le_of_ble_eq_true rfl⟩ (Nat.le_of_ble_eq_true rfl) (fun b_51 M_52 => ?_)
    exact mm_zret (b := b_51) dX12_readsCondition_18 rfl
def f_R_readsClause (M : mm_M) : Option (Bool × mm_M) := mm_bd (f_R_here M) fun r_1 M_2 => mm_jn (fun (v1 : Int32) (M_3 : mm_M) => if M_3.1 97 25 = 12 then mm_bd (f_R_wrongAt 4 (M_3.1 97 2) M_3) fun b_16 M_17 => some (b_16, M_17) else if mm_in (M_3.1 97 25) (mm_al 111) = true then mm_let (mm_setA M_3 111 ((M_3.1 97 25).toNatClampNeg) v1) fun M_4 => mm_let (mm_setI M_4 97 2 ((M_4.1 97 2) + 1)) fun M_5 => if mm_in (M_5.1 97 25) (mm_al 112) = true then mm_let (mm_setA M_5 112 ((M_5.1 97 25).toNatClampNeg) (M_5.1 97 23)) fun M_6 => mm_let (mm_setI M_6 97 22 0) fun M_7 => mm_let (mm_setI M_7 97 24 0) fun M_8 => mm_bd (f_R_readsSum M_8) fun b_9 M_10 => if b_9 = true then if mm_in (M_10.1 97 25) (mm_al 113) = true then mm_let (mm_setA M_10 113 ((M_10.1 97 25).toNatClampNeg) (M_10.1 97 23)) fun M_11 => mm_bd (f_R_readsCondition M_11) fun b_12 M_13 => if b_12 = true then if mm_in (M_13.1 97 25) (mm_al 114) = true then mm_let (mm_setA M_13 114 ((M_13.1 97 25).toNatClampNeg) (M_13.1 97 23)) fun M_14 => mm_let (mm_setI M_14 97 25 ((M_14.1 97 25) + 1)) fun M_15 => some (true, M_15) else none else some (false, M_13) else none else some (false, M_10) else none else none) fun j27 => if r_1 = 112 then j27 r_1 M_2 else if r_1 = 109 then j27 r_1 M_2 else mm_bd (f_R_wrongAt 1 (M_2.1 97 2) M_2) fun b_18 M_19 => some (b_18, M_19)
set_option maxHeartbeats 4000000 in
theorem c_R_readsClause (E : mm_E) (M : mm_M) : ∀ (r : Bool) (M2 : mm_M), f_R_readsClause M = some (r, M2) → mm_P E Y_X12_readsClause 8 [.ref 97] M (some (.int (mm_b r))) M2 := by
  refine mm_entry (em := (fun x : Bool => some (.int (mm_b x)))) (by decide +kernel) (Nat.le_of_ble_eq_true rfl) ?_
  show mm_G _ E _ _ 0 [(0, .ref 97)] [] M _
  unfold f_R_readsClause
  refine mm_aload_n 0 dX12_readsClause_0 rfl ?_
  refine mm_callVi (as := []) (st := []) (c_R_here E M) dX12_readsClause_1 mz_X12_here lk_RX12_165 im_X12_here se_X12_here lo_97 rfl rfl rfl ⟨Nat.le_of_ble_eq_true rfl, Nat.le_of_ble_eq_true rfl⟩ (Nat.le_of_ble_eq_true rfl) (fun r_1 M_2 => ?_)
  refine mm_istore_n [1, 0] (lv2 := [(0, .ref 97), (1, .int r_1)]) dX12_readsClause_4 (by decide) rfl ?_
  refine mm_iload_n 1 dX12_readsClause_5 rfl ?_
  refine mm_bipush (v := 112) dX12_readsClause_6 rfl ?_
  refine mm_jnP (P := fun j => ∀ (v1 : Int32) (M : mm_M), mm_G (fun x : Bool => some (.int (mm_b x))) E Y_X12_readsClause 8 27 [(0, .ref 97), (1, .int v1)] [] M (j v1 M)) ?_ (fun j27 hj27 => ?_)
  · intro v1 M_3
    refine mm_aload_n 0 dX12_readsClause_27 rfl ?_
    refine mm_getI dX12_readsClause_28 fl_RX12_291 lo_97 rfl ?_
    refine mm_bipush (v := 12) dX12_readsClause_31 rfl ?_
    refine mm_icmp_ne 46 dX12_readsClause_33 rfl ?_ ?_
    · refine mm_aload_n 0 dX12_readsClause_46 rfl ?_
      refine mm_getR 111 dX12_readsClause_47 fl_RX12_50 lo_97 rfl ?_
      refine mm_aload_n 0 dX12_readsClause_50 rfl ?_
      refine mm_getI dX12_readsClause_51 fl_RX12_291 lo_97 rfl ?_
      refine mm_iload_n 1 dX12_readsClause_54 rfl ?_
      refine mm_iastore dX12_readsClause_55 ?_
      refine mm_nm_M (fun M_4 => ?_)
      refine mm_aload_n 0 dX12_readsClause_56 rfl ?_
      refine mm_aload_n 0 dX12_readsClause_57 rfl ?_
      refine mm_getI dX12_readsClause_58 fl_RX12_151 lo_97 rfl ?_
      refine mm_iconst (v := 1) dX12_readsClause_61 rfl ?_
      refine mm_iadd dX12_readsClause_62 ?_
      refine mm_putI dX12_readsClause_63 fp_RX12_151 lo_97 rfl ?_
      refine mm_nm_M (fun M_5 => ?_)
      refine mm_aload_n 0 dX12_readsClause_66 rfl ?_
      refine mm_getR 112 dX12_readsClause_67 fl_RX12_53 lo_97 rfl ?_
      refine mm_aload_n 0 dX12_readsClause_70 rfl ?_
      refine mm_getI dX12_readsClause_71 fl_RX12_291 lo_97 rfl ?_
      refine mm_aload_n 0 dX12_readsClause_74 rfl ?_
      refine mm_getI dX12_readsClause_75 fl_RX12_237 lo_97 rfl ?_
      refine mm_iastore dX12_readsClause_78 ?_
      refine mm_nm_M (fun M_6 => ?_)
      refine mm_aload_n 0 dX12_readsClause_79 rfl ?_
      refine mm_iconst (v := 0) dX12_readsClause_80 rfl ?_
      refine mm_putI dX12_readsClause_81 fp_RX12_241 lo_97 rfl ?_
      refine mm_nm_M (fun M_7 => ?_)
      refine mm_aload_n 0 dX12_readsClause_84 rfl ?_
      refine mm_iconst (v := 0) dX12_readsClause_85 rfl ?_
      refine mm_putI dX12_readsClause_86 fp_RX12_244 lo_97 rfl ?_
      refine mm_nm_M (fun M_8 => ?_)
      refine mm_aload_n 0 dX12_readsClause_89 rfl ?_
      refine mm_callVz (as := []) (st := []) (c_R_readsSum E M_8) dX12_readsClause_90 mz_X12_readsSum lk_RX12_276 im_X12_readsSum se_X12_readsSum lo_97 rfl rfl rfl ⟨Nat.le_of_ble_eq_true rfl, Nat.le_of_ble_eq_true rfl⟩ (Nat.le_of_ble_eq_true rfl) (fun b_9 M_10 => ?_)
      refine mm_if_ne_b 98 dX12_readsClause_93 rfl ?_ ?_
      · refine mm_aload_n 0 dX12_readsClause_98 rfl ?_
        refine mm_getR 113 dX12_readsClause_99 fl_RX12_56 lo_97 rfl ?_
        refine mm_aload_n 0 dX12_readsClause_102 rfl ?_
        refine mm_getI dX12_readsClause_103 fl_RX12_291 lo_97 rfl ?_
        refine mm_aload_n 0 dX12_readsClause_106 rfl ?_
        refine mm_getI dX12_readsClause_107 fl_RX12_237 lo_97 rfl ?_
        refine mm_iastore dX12_readsClause_110 ?_
        refine mm_nm_M (fun M_11 => ?_)
        refine mm_aload_n 0 dX12_readsClause_111 rfl ?_
        refine mm_callVz (as := []) (st := []) (c_R_readsCondition E M_11) dX12_readsClause_112 mz_X12_readsCondition lk_RX12_294 im_X12_readsCondition se_X12_readsCondition lo_97 rfl rfl rfl ⟨Nat.le_of_ble_eq_true rfl, Nat.le_of_ble_eq_true rfl⟩ (Nat.le_of_ble_eq_true rfl) (fun b_12 M_13 => ?_)
        refine mm_if_ne_b 120 dX12_readsClause_115 rfl ?_ ?_
        · refine mm_aload_n 0 dX12_readsClause_120 rfl ?_
          refine mm_getR 114 dX12_readsClause_121 fl_RX12_59 lo_97 rfl ?_
          refine mm_aload_n 0 dX12_readsClause_124 rfl ?_
          refine mm_getI dX12_readsClause_125 fl_RX12_291 lo_97 rfl ?_
          refine mm_aload_n 0 dX12_readsClause_128 rfl ?_
          refine mm_getI dX12_readsClause_129 fl_RX12_237 lo_97 rfl ?_
          refine mm_iastore dX12_readsClause_132 ?_
          refine mm_nm_M (fun M_14 => ?_)
          refine mm_aload_n 0 dX12_readsClause_133 rfl ?_
          refine mm_aload_n 0 dX12_readsClause_134 rfl ?_
          refine mm_getI dX12_readsClause_135 fl_RX12_291 lo_97 rfl ?_
          refine mm_iconst (v := 1) dX12_readsClause_138 rfl ?_
          refine mm_iadd dX12_readsClause_139 ?_
          refine mm_putI dX12_readsClause_140 fp_RX12_291 lo_97 rfl ?_
          refine mm_nm_M (fun M_15 => ?_)
          refine mm_iconst (v := 1) dX12_readsClause_143 rfl ?_
          exact mm_zret (b := true) dX12_readsClause_144 rfl
        · refine mm_iconst (v := 0) dX12_readsClause_118 rfl ?_
          exact mm_zret (b := false) dX12_readsClause_119 rfl
      · refine mm_iconst (v := 0) dX12_readsClause_96 rfl ?_
        exact mm_zret (b := false) dX12_readsClause_97 rfl
    · refine mm_aload_n 0 dX12_readsClause_36 rfl ?_
      refine mm_iconst (v := 4) dX12_readsClause_37 rfl ?_
      refine mm_aload_n 0 dX12_readsClause_38 rfl ?_
      refine mm_getI dX12_readsClause_39 fl_RX12_151 lo_97 rfl ?_
      refine mm_callVz (as := [.int 4, .int (M_3.1 97 2)]) (st := []) (c_R_wrongAt E 4 (M_3.1 97 2) M_3) dX12_readsClause_42 mz_X12_wrongAt lk_RX12_161 im_X12_wrongAt se_X12_wrongAt lo_97 rfl rfl rfl ⟨Nat.le_of_ble_eq_true rfl, Nat.le_of_ble_eq_true rfl⟩ (Nat.le_of_ble_eq_true rfl) (fun b_16 M_17 => ?_)
      exact mm_zret (b := b_16) dX12_readsClause_45 rfl
  refine mm_icmp_eq 27 dX12_readsClause_8 rfl ?_ ?_
  · exact hj27 r_1 M_2
  · refine mm_iload_n 1 dX12_readsClause_11 rfl ?_
    refine mm_bipush (v := 109) dX12_readsClause_12 rfl ?_
    refine mm_icmp_eq 27 dX12_readsClause_14 rfl ?_ ?_
    · exact hj27 r_1 M_2
    · refine mm_aload_n 0 dX12_readsClause_17 rfl ?_
      refine mm_iconst (v := 1) dX12_readsClause_18 rfl ?_
      refine mm_aload_n 0 dX12_readsClause_19 rfl ?_
      refine mm_getI dX12_readsClause_20 fl_RX12_151 lo_97 rfl ?_
      refine mm_callVz (as := [.int 1, .int (M_2.1 97 2)]) (st := []) (c_R_wrongAt E 1 (M_2.1 97 2) M_2) dX12_readsClause_23 mz_X12_wrongAt lk_RX12_161 im_X12_wrongAt se_X12_wrongAt lo_97 rfl rfl rfl ⟨Nat.le_of_ble_eq_true rfl, Nat.le_of_ble_eq_true rfl⟩ (Nat.le_of_ble_eq_true rfl) (fun b_18 M_19 => ?_)
      exact mm_zret (b := b_18) dX12_readsClause_26 rfl
