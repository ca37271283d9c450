def f_H_rooms (v1 : Int32) (v2 : Int32) (v3 : Int32) (M : mm_M) : Option (Int32 × mm_M) := mm_bd (f_H_areStays v1 6 M) fun b_1 M_2 => if b_1 = true then mm_bd (f_Integer_bitCount v1 M_2) fun r_3 M_4 => if v2 = r_3 then mm_bd (f_Tape_size M_4) fun r_5 M_6 => if r_5 < v2 then some ((-1), M_6) else mm_jn (fun (M_7 : mm_M) => mm_bd (f_H_roomsOnTape v1 v2 M_7) fun r_8 M_9 => mm_bd (f_Tape_clear M_9) fun u_10 M_11 => if r_8 = (-1) then some ((-3), M_11) else mm_bd (f_Load_begin M_11) fun u_12 M_13 => mm_bd (f_Mover_findRooms v1 r_8 M_13) fun b_14 M_15 => if v3 = 10 then mm_jn (fun (v5 : Bool) (M_16 : mm_M) => if v5 = true then some (1, M_16) else some (0, M_16)) fun j127 => if b_14 = true then mm_bd (f_Mover_moveIn v1 M_15) fun u_17 M_18 => j127 b_14 M_18 else j127 b_14 M_15 else if b_14 = true then if mm_in v3 (mm_al 94) = true then some (M_15.2.1 94 v3.toNatClampNeg, M_15) else none else some ((-2), M_15)) fun j45 => if v3 = 10 then j45 M_6 else mm_bd (f_H_isIn v1 v3 M_6) fun b_19 M_20 => if b_19 = true then j45 M_20 else some ((-1), M_20) else some ((-1), M_4) else some ((-1), M_2)
set_option maxHeartbeats 4000000 in
theorem c_H_rooms (E : mm_E) (v1 : Int32) (v2 : Int32) (v3 : Int32) (M : mm_M) : ∀ (r : Int32) (M2 : mm_M), f_H_rooms v1 v2 v3 M = some (r, M2) → mm_P E Y_X11_rooms 66 [.ref 0, .int v1, .int v2, .int v3] M (some (.int r)) M2 := by
  refine mm_entry (em := (fun x : Int32 => some (.int x))) (by decide +kernel) (Nat.le_of_ble_eq_true rfl) ?_
  show mm_G _ E _ _ 0 [(0, .ref 0), (1, .int v1), (2, .int v2), (3, .int v3)] [] M _
  unfold f_H_rooms
  refine mm_aload_n 0 dX11_rooms_0 rfl ?_
  refine mm_iload_n 1 dX11_rooms_1 rfl ?_
  refine mm_bipush (v := 6) dX11_rooms_2 rfl ?_
  refine mm_callVz (as := [.int v1, .int 6]) (st := []) (c_H_areStays E v1 6 M) dX11_rooms_4 mz_X11_areStays lk_RX11_203 im_X11_areStays se_X11_areStays lo_0 rfl rfl rfl ⟨Nat.le_of_ble_eq_true rfl, Nat.le_of_ble_eq_true rfl⟩ (Nat.le_of_ble_eq_true rfl) (fun b_1 M_2 => ?_)
  refine mm_if_eq_b 43 dX11_rooms_7 rfl ?_ ?_
  · refine mm_iconst (v := (-1)) dX11_rooms_43 rfl ?_
    exact mm_iret dX11_rooms_44 rfl
  · refine mm_iload_n 2 dX11_rooms_10 rfl ?_
    refine mm_iload_n 1 dX11_rooms_11 rfl ?_
    refine mm_callSi (as := [.int v1]) (st := [.int v2]) (c_Integer_bitCount E v1 M_2) dX11_rooms_12 mz_J6_bitCount_0f7a4 lk_RX11_226 sm_J6_bitCount_0f7a4 rfl ⟨Nat.le_of_ble_eq_true rfl, Nat.le_of_ble_eq_true rfl⟩ (Nat.le_of_ble_eq_true rfl) (fun r_3 M_4 => ?_)
    refine mm_icmp_ne 43 dX11_rooms_15 rfl ?_ ?_
    · refine mm_iconst (v := (-1)) dX11_rooms_43 rfl ?_
      exact mm_iret dX11_rooms_44 rfl
    · refine mm_iload_n 2 dX11_rooms_18 rfl ?_
      refine mm_aload_n 0 dX11_rooms_19 rfl ?_
      refine mm_getR 1 dX11_rooms_20 fl_RX11_12 lo_0 rfl ?_
      refine mm_callVi (as := []) (st := [.int v2]) (c_Tape_size E M_4) dX11_rooms_23 mz_X9_size lk_RX11_100 im_X9_size se_X9_size lo_1 rfl rfl rfl ⟨Nat.le_of_ble_eq_true rfl, Nat.le_of_ble_eq_true rfl⟩ (Nat.le_of_ble_eq_true rfl) (fun r_5 M_6 => ?_)
      refine mm_icmp_gt 43 dX11_rooms_26 rfl ?_ ?_
      · refine mm_iconst (v := (-1)) dX11_rooms_43 rfl ?_
        exact mm_iret dX11_rooms_44 rfl
      · refine mm_iload_n 3 dX11_rooms_29 rfl ?_
        refine mm_bipush (v := 10) dX11_rooms_30 rfl ?_
        refine mm_jnP (P := fun j => ∀ (M : mm_M), mm_G (fun x : Int32 => some (.int x)) E Y_X11_rooms 66 45 [(0, .ref 0), (1, .int v1), (2, .int v2), (3, .int v3)] [] M (j M)) ?_ (fun j45 hj45 => ?_)
        · intro M_7
          refine mm_aload_n 0 dX11_rooms_45 rfl ?_
          refine mm_iload_n 1 dX11_rooms_46 rfl ?_
          refine mm_iload_n 2 dX11_rooms_47 rfl ?_
          refine mm_callVi (as := [.int v1, .int v2]) (st := []) (c_H_roomsOnTape E v1 v2 M_7) dX11_rooms_48 mz_X11_roomsOnTape lk_RX11_234 im_X11_roomsOnTape se_X11_roomsOnTape lo_0 rfl rfl rfl ⟨Nat.le_of_ble_eq_true rfl, Nat.le_of_ble_eq_true rfl⟩ (Nat.le_of_ble_eq_true rfl) (fun r_8 M_9 => ?_)
          refine mm_istore [1, 2, 3, 4, 0] (lv2 := [(0, .ref 0), (1, .int v1), (2, .int v2), (3, .int v3), (4, .int r_8)]) dX11_rooms_51 (by decide) rfl ?_
          refine mm_aload_n 0 dX11_rooms_53 rfl ?_
          refine mm_getR 1 dX11_rooms_54 fl_RX11_12 lo_0 rfl ?_
          refine mm_callVv (as := []) (st := []) (c_Tape_clear E M_9) dX11_rooms_57 mz_X9_clear lk_RX11_116 im_X9_clear se_X9_clear lo_1 rfl rfl rfl ⟨Nat.le_of_ble_eq_true rfl, Nat.le_of_ble_eq_true rfl⟩ (Nat.le_of_ble_eq_true rfl) (fun u_10 M_11 => ?_)
          refine mm_iload 4 dX11_rooms_60 rfl ?_
          refine mm_iconst (v := (-1)) dX11_rooms_62 rfl ?_
          refine mm_icmp_ne 69 dX11_rooms_63 rfl ?_ ?_
          · refine mm_aload_n 0 dX11_rooms_69 rfl ?_
            refine mm_getR 56 dX11_rooms_70 fl_RX11_71 lo_0 rfl ?_
            refine mm_callVv (as := []) (st := []) (c_Load_begin E M_11) dX11_rooms_73 mz_X5_begin lk_RX11_177 im_X5_begin se_X5_begin lo_56 rfl rfl rfl ⟨Nat.le_of_ble_eq_true rfl, Nat.le_of_ble_eq_true rfl⟩ (Nat.le_of_ble_eq_true rfl) (fun u_12 M_13 => ?_)
            refine mm_aload_n 0 dX11_rooms_76 rfl ?_
            refine mm_getR 93 dX11_rooms_77 fl_RX11_96 lo_0 rfl ?_
            refine mm_iload_n 1 dX11_rooms_80 rfl ?_
            refine mm_iload 4 dX11_rooms_81 rfl ?_
            refine mm_callVz (as := [.int v1, .int r_8]) (st := []) (c_Mover_findRooms E v1 r_8 M_13) dX11_rooms_83 mz_X6_findRooms lk_RX11_237 im_X6_findRooms se_X6_findRooms lo_93 rfl rfl rfl ⟨Nat.le_of_ble_eq_true rfl, Nat.le_of_ble_eq_true rfl⟩ (Nat.le_of_ble_eq_true rfl) (fun b_14 M_15 => ?_)
            refine mm_istore [1, 2, 3, 4, 5, 0] (lv2 := [(0, .ref 0), (1, .int v1), (2, .int v2), (3, .int v3), (4, .int r_8), (5, .int (mm_b b_14))]) dX11_rooms_86 (by decide) rfl ?_
            refine mm_iload_n 3 dX11_rooms_88 rfl ?_
            refine mm_bipush (v := 10) dX11_rooms_89 rfl ?_
            refine mm_icmp_eq 114 dX11_rooms_91 rfl ?_ ?_
            · refine mm_iload 5 dX11_rooms_114 rfl ?_
              refine mm_jnP (P := fun j => ∀ (v5 : Bool) (M : mm_M), mm_G (fun x : Int32 => some (.int x)) E Y_X11_rooms 66 127 [(5, .int (mm_b v5))] [] M (j v5 M)) ?_ (fun j127 hj127 => ?_)
              · intro v5 M_16
                refine mm_iload 0 dX11_rooms_127 rfl ?_
                refine mm_if_eq_b 136 dX11_rooms_129 rfl ?_ ?_
                · refine mm_iconst (v := 0) dX11_rooms_136 rfl ?_
                  exact mm_iret dX11_rooms_137 rfl
                · refine mm_iconst (v := 1) dX11_rooms_132 rfl ?_
                  refine mm_goto 137 dX11_rooms_133 rfl ?_
                  exact mm_iret dX11_rooms_137 rfl
              refine mm_if_eq_b 127 dX11_rooms_116 rfl ?_ ?_
              · refine mm_wk [5] rfl ?_
                exact hj127 b_14 M_15
              · refine mm_aload_n 0 dX11_rooms_119 rfl ?_
                refine mm_getR 93 dX11_rooms_120 fl_RX11_96 lo_0 rfl ?_
                refine mm_iload_n 1 dX11_rooms_123 rfl ?_
                refine mm_callVv (as := [.int v1]) (st := []) (c_Mover_moveIn E v1 M_15) dX11_rooms_124 mz_X6_moveIn lk_RX11_243 im_X6_moveIn se_X6_moveIn lo_93 rfl rfl rfl ⟨Nat.le_of_ble_eq_true rfl, Nat.le_of_ble_eq_true rfl⟩ (Nat.le_of_ble_eq_true rfl) (fun u_17 M_18 => ?_)
                refine mm_wk [5] rfl ?_
                exact hj127 b_14 M_18
            · refine mm_iload 5 dX11_rooms_94 rfl ?_
              refine mm_if_eq_b 111 dX11_rooms_96 rfl ?_ ?_
              · refine mm_bipush (v := (-2)) dX11_rooms_111 rfl ?_
                exact mm_iret dX11_rooms_113 rfl
              · refine mm_aload_n 0 dX11_rooms_99 rfl ?_
                refine mm_getR 93 dX11_rooms_100 fl_RX11_96 lo_0 rfl ?_
                refine mm_getR 94 dX11_rooms_103 fl_RX11_240 lo_93 rfl ?_
                refine mm_iload_n 3 dX11_rooms_106 rfl ?_
                refine mm_iaload dX11_rooms_107 ?_
                refine mm_goto 113 dX11_rooms_108 rfl ?_
                exact mm_iret dX11_rooms_113 rfl
          · refine mm_bipush (v := (-3)) dX11_rooms_66 rfl ?_
            exact mm_iret dX11_rooms_68 rfl
        refine mm_icmp_eq 45 dX11_rooms_32 rfl ?_ ?_
        · exact hj45  M_6
        · refine mm_iload_n 1 dX11_rooms_35 rfl ?_
          refine mm_iload_n 3 dX11_rooms_36 rfl ?_
          refine mm_callSz (as := [.int v1, .int v3]) (st := []) (c_H_isIn E v1 v3 M_6) dX11_rooms_37 mz_X11_isIn lk_RX11_231 sm_X11_isIn rfl ⟨Nat.le_of_ble_eq_true rfl, Nat.le_of_ble_eq_true rfl⟩ (Nat.le_of_ble_eq_true rfl) (fun b_19 M_20 => ?_)
          refine mm_if_ne_b 45 dX11_rooms_40 rfl ?_ ?_
          · exact hj45  M_20
          · refine mm_iconst (v := (-1)) dX11_rooms_43 rfl ?_
            exact mm_iret dX11_rooms_44 rfl
def f_Math_abs (v0 : Int32) (M : mm_M) : Option (Int32 × mm_M) := if 0 ≤ v0 then some (v0, M) else some (-v0, M)
set_option maxHeartbeats 4000000 in
theorem c_Math_abs (E : mm_E) (v0 : Int32) (M : mm_M) : ∀ (r : Int32) (M2 : mm_M), f_Math_abs v0 M = some (r, M2) → mm_P E Y_J9_abs_0f7a4 1 [.int v0] M (some (.int r)) M2 := by
  refine mm_entry (em := (fun x : Int32 => some (.int x))) (by decide +kernel) (Nat.le_of_ble_eq_true rfl) ?_
  show mm_G _ E _ _ 0 [(0, .int v0)] [] M _
  unfold f_Math_abs
  refine mm_iload_n 0 dJ9_abs_0f7a4_0 rfl ?_
  refine mm_if_ge 9 dJ9_abs_0f7a4_1 rfl ?_ ?_
  · refine mm_iload_n 0 dJ9_abs_0f7a4_9 rfl ?_
    exact mm_iret dJ9_abs_0f7a4_10 rfl
  · refine mm_iload_n 0 dJ9_abs_0f7a4_4 rfl ?_
    refine mm_ineg dJ9_abs_0f7a4_5 ?_
    refine mm_goto 10 dJ9_abs_0f7a4_6 rfl ?_
    exact mm_iret dJ9_abs_0f7a4_10 rfl
def lp_Mover_findShiftsFrom_53 (F : Int32 → Int32 → mm_M → Option (Unit × mm_M)) (v1 : Int32) (v2 : Int32) (k159 : mm_M → Option (Unit × mm_M)) : Nat → Int32 → mm_M → Option (Unit × mm_M)
  | 0, _, _ => none
  | n + 1, v3, M => if M.1 93 7 < v3 then k159 M else if mm_in v1 (mm_al 31) = true then mm_let ((M.2.1 31 v1.toNatClampNeg) + v3) fun v4_4 => mm_bd (f_Math_abs v3 M) fun r_5 M_6 => mm_let (v2 + r_5) fun v5_7 => mm_bd (f_Math_abs v4_4 M_6) fun r_8 M_9 => mm_jn (fun (v3 : Int32) (M_10 : mm_M) => mm_let (v3 + 1) fun v3_11 => lp_Mover_findShiftsFrom_53 F v1 v2 k159 n v3_11 M_10) fun j153 => if 3 < r_8 then j153 v3 M_9 else if M_9.1 93 8 ≤ v5_7 then j153 v3 M_9 else if mm_in v1 (mm_al 96) = true then mm_let (mm_setA M_9 96 (v1.toNatClampNeg) v4_4) fun M_12 => mm_bd (f_Load_setShift v1 v4_4 M_12) fun u_13 M_14 => mm_bd (f_Load_include v1 M_14) fun u_15 M_16 => mm_bd (f_Load_fits M_16) fun b_17 M_18 => mm_jn (fun (v3 : Int32) (M_19 : mm_M) => mm_bd (f_Load_exclude v1 M_19) fun u_20 M_21 => j153 v3 M_21) fun j145 => if b_17 = true then mm_bd (F (v1 + 1) v5_7 M_18) fun u_22 M_23 => j145 v3 M_23 else j145 v3 M_18 else none else none
set_option maxHeartbeats 4000000 in
theorem lp_Mover_findShiftsFrom_53_ok (E : mm_E) {nd : Nat} {F : Int32 → Int32 → mm_M → Option (Unit × mm_M)} (hF : 4 ≤ nd ∧ (∀ (v1 : Int32) (v2 : Int32) (M : mm_M) (r : Unit) (M2 : mm_M), F v1 v2 M = some (r, M2) → mm_P E Y_X6_findShiftsFrom nd [.ref 93, .int v1, .int v2] M none M2)) (v1 : Int32) (v2 : Int32) {k159 : mm_M → Option (Unit × mm_M)} (hk159 : ∀ (M : mm_M), mm_G (fun _ : Unit => none) E Y_X6_findShiftsFrom (nd + 1) 159 [] [] M (k159 M)) : ∀ (n : Nat) (v3 : Int32) (M : mm_M), mm_G (fun _ : Unit => none) E Y_X6_findShiftsFrom (nd + 1) 53 [(0, .ref 93), (1, .int v1), (2, .int v2), (3, .int v3)] [] M (lp_Mover_findShiftsFrom_53 F v1 v2 k159 n v3 M) := by
  have hB := hF.1
  intro n
  induction n with
  | zero => intro v3 M r M2 he; cases he
  | succ n ih =>
    intro v3 M
    rw [lp_Mover_findShiftsFrom_53]
    refine mm_iload_n 3 dX6_findShiftsFrom_53 rfl ?_
    refine mm_aload_n 0 dX6_findShiftsFrom_54 rfl ?_
    refine mm_getI dX6_findShiftsFrom_55 fl_RX6_77 lo_93 rfl ?_
    refine mm_icmp_gt 159 dX6_findShiftsFrom_58 rfl ?_ ?_
    · refine mm_wk [] rfl ?_
      exact hk159  M
    · refine mm_aload_n 0 dX6_findShiftsFrom_61 rfl ?_
      refine mm_getR 27 dX6_findShiftsFrom_62 fl_RX6_25 lo_93 rfl ?_
      refine mm_getR 31 dX6_findShiftsFrom_65 fl_RX6_92 lo_27 rfl ?_
      refine mm_iload_n 1 dX6_findShiftsFrom_68 rfl ?_
      refine mm_iaload dX6_findShiftsFrom_69 ?_
      refine mm_iload_n 3 dX6_findShiftsFrom_70 rfl ?_
      refine mm_iadd dX6_findShiftsFrom_71 ?_
      refine mm_nm_int (fun v4_4 => ?_)
      refine mm_istore [1, 2, 3, 4, 0] (lv2 := [(0, .ref 93), (1, .int v1), (2, .int v2), (3, .int v3), (4, .int v4_4)]) dX6_findShiftsFrom_72 (by decide) rfl ?_
      refine mm_iload_n 2 dX6_findShiftsFrom_74 rfl ?_
      refine mm_iload_n 3 dX6_findShiftsFrom_75 rfl ?_
      refine mm_callSi (as := [.int v3]) (st := [.int v2]) (c_Math_abs E v3 M) dX6_findShiftsFrom_76 mz_J9_abs_0f7a4 lk_RX6_95 sm_J9_abs_0f7a4 rfl ⟨by omega, by show 8 + (1 + 11) + _ ≤ _; omega⟩ (Nat.le_of_ble_eq_true rfl) (fun r_5 M_6 => ?_)
      refine mm_iadd dX6_findShiftsFrom_79 ?_
      refine mm_nm_int (fun v5_7 => ?_)
      refine mm_istore [1, 2, 3, 4, 5, 0] (lv2 := [(0, .ref 93), (1, .int v1), (2, .int v2), (3, .int v3), (4, .int v4_4), (5, .int v5_7)]) dX6_findShiftsFrom_80 (by decide) rfl ?_
      refine mm_iload 4 dX6_findShiftsFrom_82 rfl ?_
      refine mm_callSi (as := [.int v4_4]) (st := []) (c_Math_abs E v4_4 M_6) dX6_findShiftsFrom_84 mz_J9_abs_0f7a4 lk_RX6_95 sm_J9_abs_0f7a4 rfl ⟨by omega, by show 8 + (1 + 11) + _ ≤ _; omega⟩ (Nat.le_of_ble_eq_true rfl) (fun r_8 M_9 => ?_)
      refine mm_iconst (v := 3) dX6_findShiftsFrom_87 rfl ?_
      refine mm_jnP (P := fun j => ∀ (v3 : Int32) (M : mm_M), mm_G (fun _ : Unit => none) E Y_X6_findShiftsFrom (nd + 1) 153 [(0, .ref 93), (1, .int v1), (2, .int v2), (3, .int v3)] [] M (j v3 M)) ?_ (fun j153 hj153 => ?_)
      · intro v3 M_10
        refine mm_iincN 3 [1, 2, 3, 0] (v := v3 + 1) (lv2 := fun v3_11 => [(0, .ref 93), (1, .int v1), (2, .int v2), (3, .int v3_11)]) dX6_findShiftsFrom_153 rfl rfl (by decide) (fun _ => rfl) (fun v3_11 => ?_)
        refine mm_goto 53 dX6_findShiftsFrom_156 rfl ?_
        exact ih v3_11 M_10
      refine mm_icmp_gt 153 dX6_findShiftsFrom_88 rfl ?_ ?_
      · refine mm_wk [0, 1, 2, 3] rfl ?_
        exact hj153 v3 M_9
      · refine mm_iload 5 dX6_findShiftsFrom_91 rfl ?_
        refine mm_aload_n 0 dX6_findShiftsFrom_93 rfl ?_
        refine mm_getI dX6_findShiftsFrom_94 fl_RX6_80 lo_93 rfl ?_
        refine mm_icmp_ge 153 dX6_findShiftsFrom_97 rfl ?_ ?_
        · refine mm_wk [0, 1, 2, 3] rfl ?_
          exact hj153 v3 M_9
        · refine mm_aload_n 0 dX6_findShiftsFrom_100 rfl ?_
          refine mm_getR 96 dX6_findShiftsFrom_101 fl_RX6_18 lo_93 rfl ?_
          refine mm_iload_n 1 dX6_findShiftsFrom_104 rfl ?_
          refine mm_iload 4 dX6_findShiftsFrom_105 rfl ?_
          refine mm_iastore dX6_findShiftsFrom_107 ?_
          refine mm_nm_M (fun M_12 => ?_)
          refine mm_aload_n 0 dX6_findShiftsFrom_108 rfl ?_
          refine mm_getR 56 dX6_findShiftsFrom_109 fl_RX6_29 lo_93 rfl ?_
          refine mm_iload_n 1 dX6_findShiftsFrom_112 rfl ?_
          refine mm_iload 4 dX6_findShiftsFrom_113 rfl ?_
          refine mm_callVv (as := [.int v1, .int v4_4]) (st := []) (c_Load_setShift E v1 v4_4 M_12) dX6_findShiftsFrom_115 mz_X5_setShift lk_RX6_101 im_X5_setShift se_X5_setShift lo_56 rfl rfl rfl ⟨by omega, by show 8 + (7 + 11) + _ ≤ _; omega⟩ (Nat.le_of_ble_eq_true rfl) (fun u_13 M_14 => ?_)
          refine mm_aload_n 0 dX6_findShiftsFrom_118 rfl ?_
          refine mm_getR 56 dX6_findShiftsFrom_119 fl_RX6_29 lo_93 rfl ?_
          refine mm_iload_n 1 dX6_findShiftsFrom_122 rfl ?_
          refine mm_callVv (as := [.int v1]) (st := []) (c_Load_include E v1 M_14) dX6_findShiftsFrom_123 mz_X5_include lk_RX6_64 im_X5_include se_X5_include lo_56 rfl rfl rfl ⟨by omega, by show 8 + (2 + 11) + _ ≤ _; omega⟩ (Nat.le_of_ble_eq_true rfl) (fun u_15 M_16 => ?_)
          refine mm_aload_n 0 dX6_findShiftsFrom_126 rfl ?_
          refine mm_getR 56 dX6_findShiftsFrom_127 fl_RX6_29 lo_93 rfl ?_
          refine mm_callVz (as := []) (st := []) (c_Load_fits E M_16) dX6_findShiftsFrom_130 mz_X5_fits lk_RX6_67 im_X5_fits se_X5_fits lo_56 rfl rfl rfl ⟨by omega, by show 8 + (1 + 11) + _ ≤ _; omega⟩ (Nat.le_of_ble_eq_true rfl) (fun b_17 M_18 => ?_)
          refine mm_jnP (P := fun j => ∀ (v3 : Int32) (M : mm_M), mm_G (fun _ : Unit => none) E Y_X6_findShiftsFrom (nd + 1) 145 [(0, .ref 93), (1, .int v1), (2, .int v2), (3, .int v3)] [] M (j v3 M)) ?_ (fun j145 hj145 => ?_)
          · intro v3 M_19
            refine mm_aload_n 0 dX6_findShiftsFrom_145 rfl ?_
            refine mm_getR 56 dX6_findShiftsFrom_146 fl_RX6_29 lo_93 rfl ?_
            refine mm_iload_n 1 dX6_findShiftsFrom_149 rfl ?_
            refine mm_callVv (as := [.int v1]) (st := []) (c_Load_exclude E v1 M_19) dX6_findShiftsFrom_150 mz_X5_exclude lk_RX6_71 im_X5_exclude se_X5_exclude lo_56 rfl rfl rfl ⟨by omega, by show 8 + (2 + 11) + _ ≤ _; omega⟩ (Nat.le_of_ble_eq_true rfl) (fun u_20 M_21 => ?_)
            exact hj153 v3 M_21
          refine mm_if_eq_b 145 dX6_findShiftsFrom_133 rfl ?_ ?_
          · refine mm_wk [0, 1, 2, 3] rfl ?_
            exact hj145 v3 M_18
          · refine mm_aload_n 0 dX6_findShiftsFrom_136 rfl ?_
            refine mm_iload_n 1 dX6_findShiftsFrom_137 rfl ?_
            refine mm_iconst (v := 1) dX6_findShiftsFrom_138 rfl ?_
            refine mm_iadd dX6_findShiftsFrom_139 ?_
            refine mm_iload 5 dX6_findShiftsFrom_140 rfl ?_
            refine mm_callVv (as := [.int (v1 + 1), .int v5_7]) (st := []) (hF.2 (v1 + 1) v5_7 M_18) dX6_findShiftsFrom_142 mz_X6_findShiftsFrom lk_RX6_83 im_X6_findShiftsFrom se_X6_findShiftsFrom lo_93 rfl rfl rfl ⟨by omega, by show 8 + (6 + 11) + _ ≤ _; omega⟩ (Nat.le_of_ble_eq_true rfl) (fun u_22 M_23 => ?_)
            refine mm_wk [0, 1, 2, 3] rfl ?_
            exact hj145 v3 M_23
def fb_Mover_findShiftsFrom (F : Int32 → Int32 → mm_M → Option (Unit × mm_M)) (v1 : Int32) (v2 : Int32) (M : mm_M) : Option (Unit × mm_M) := if v1 < 10 then mm_bd (f_H_isIn (M.1 93 3) v1 M) fun b_1 M_2 => if b_1 = true then mm_let (-(M_2.1 93 7)) fun v3_3 => lp_Mover_findShiftsFrom_53 F v1 v2 (fun (M_24 : mm_M) => some ((), M_24)) mm_fu v3_3 M_2 else mm_bd (F (v1 + 1) v2 M_2) fun u_25 M_26 => some ((), M_26) else mm_let (mm_setI M 93 8 v2) fun M_27 => if mm_cpok 96 95 0 0 10 = true then mm_let (mm_cp M_27 96 95 0 0 10) fun M_28 => some ((), M_28) else none
set_option maxHeartbeats 4000000 in
theorem cb_Mover_findShiftsFrom (E : mm_E) {nd : Nat} {F : Int32 → Int32 → mm_M → Option (Unit × mm_M)} (hF : 4 ≤ nd ∧ (∀ (v1 : Int32) (v2 : Int32) (M : mm_M) (r : Unit) (M2 : mm_M), F v1 v2 M = some (r, M2) → mm_P E Y_X6_findShiftsFrom nd [.ref 93, .int v1, .int v2] M none M2)) (v1 : Int32) (v2 : Int32) (M : mm_M) : ∀ (r : Unit) (M2 : mm_M), fb_Mover_findShiftsFrom F v1 v2 M = some (r, M2) → mm_P E Y_X6_findShiftsFrom (nd + 1) [.ref 93, .int v1, .int v2] M none M2 := by
  have hB := hF.1
  refine mm_entry (em := (fun _ : Unit => none)) (by decide +kernel) (Nat.le_of_ble_eq_true rfl) ?_
  show mm_G _ E _ _ 0 [(0, .ref 93), (1, .int v1), (2, .int v2)] [] M _
  unfold fb_Mover_findShiftsFrom
  refine mm_iload_n 1 dX6_findShiftsFrom_0 rfl ?_
  refine mm_bipush (v := 10) dX6_findShiftsFrom_1 rfl ?_
  refine mm_icmp_lt 27 dX6_findShiftsFrom_3 rfl ?_ ?_
  · refine mm_aload_n 0 dX6_findShiftsFrom_27 rfl ?_
    refine mm_getI dX6_findShiftsFrom_28 fl_RX6_33 lo_93 rfl ?_
    refine mm_iload_n 1 dX6_findShiftsFrom_31 rfl ?_
    refine mm_callSNz (as := [.int (M.1 93 3), .int v1]) (st := []) (c_H_isIn E (M.1 93 3) v1 M) dX6_findShiftsFrom_32 mz_X11_isIn lk_RX6_52 sm_X11_isIn rfl ⟨by omega, by show 8 + (2 + 11) + _ ≤ _; omega⟩ (Nat.le_of_ble_eq_true rfl) (fun b_1 M_2 => ?_)
    refine mm_if_ne_b 47 dX6_findShiftsFrom_35 rfl ?_ ?_
    · refine mm_aload_n 0 dX6_findShiftsFrom_47 rfl ?_
      refine mm_getI dX6_findShiftsFrom_48 fl_RX6_77 lo_93 rfl ?_
      refine mm_ineg dX6_findShiftsFrom_51 ?_
      refine mm_nm_int (fun v3_3 => ?_)
      refine mm_istore_n [1, 2, 3, 0] (lv2 := [(0, .ref 93), (1, .int v1), (2, .int v2), (3, .int v3_3)]) dX6_findShiftsFrom_52 (by decide) rfl ?_
      refine lp_Mover_findShiftsFrom_53_ok E hF v1 v2 ?_ mm_fu v3_3 M_2
      · intro M_24
        exact mm_vret dX6_findShiftsFrom_159 rfl
    · refine mm_aload_n 0 dX6_findShiftsFrom_38 rfl ?_
      refine mm_iload_n 1 dX6_findShiftsFrom_39 rfl ?_
      refine mm_iconst (v := 1) dX6_findShiftsFrom_40 rfl ?_
      refine mm_iadd dX6_findShiftsFrom_41 ?_
      refine mm_iload_n 2 dX6_findShiftsFrom_42 rfl ?_
      refine mm_callVv (as := [.int (v1 + 1), .int v2]) (st := []) (hF.2 (v1 + 1) v2 M_2) dX6_findShiftsFrom_43 mz_X6_findShiftsFrom lk_RX6_83 im_X6_findShiftsFrom se_X6_findShiftsFrom lo_93 rfl rfl rfl ⟨by omega, by show 8 + (6 + 11) + _ ≤ _; omega⟩ (Nat.le_of_ble_eq_true rfl) (fun u_25 M_26 => ?_)
      exact mm_vret dX6_findShiftsFrom_46 rfl
  · refine mm_aload_n 0 dX6_findShiftsFrom_6 rfl ?_
    refine mm_iload_n 2 dX6_findShiftsFrom_7 rfl ?_
    refine mm_putI dX6_findShiftsFrom_8 fp_RX6_80 lo_93 rfl ?_
    refine mm_nm_M (fun M_27 => ?_)
    refine mm_aload_n 0 dX6_findShiftsFrom_11 rfl ?_
    refine mm_getR 96 dX6_findShiftsFrom_12 fl_RX6_18 lo_93 rfl ?_
    refine mm_iconst (v := 0) dX6_findShiftsFrom_15 rfl ?_
    refine mm_aload_n 0 dX6_findShiftsFrom_16 rfl ?_
    refine mm_getR 95 dX6_findShiftsFrom_17 fl_RX6_15 lo_93 rfl ?_
    refine mm_iconst (v := 0) dX6_findShiftsFrom_20 rfl ?_
    refine mm_bipush (v := 10) dX6_findShiftsFrom_21 rfl ?_
    refine mm_copy dX6_findShiftsFrom_23 lk_RX6_86 wd_copy ⟨Nat.le_of_ble_eq_true rfl, Nat.le_of_ble_eq_true rfl⟩ ?_
    refine mm_nm_M (fun M_28 => ?_)
    exact mm_vret dX6_findShiftsFrom_26 rfl
def f_Mover_findShiftsFrom : Nat → Int32 → Int32 → mm_M → Option (Unit × mm_M)
  | 0, _, _, _ => none
  | n + 1, v1, v2, M => fb_Mover_findShiftsFrom (f_Mover_findShiftsFrom n) v1 v2 M
theorem c_Mover_findShiftsFrom_ok (E : mm_E) : ∀ (n nd : Nat), nd = 4 + n → ∀ (v1 : Int32) (v2 : Int32) (M : mm_M) (r : Unit) (M2 : mm_M), f_Mover_findShiftsFrom n v1 v2 M = some (r, M2) → mm_P E Y_X6_findShiftsFrom nd [.ref 93, .int v1, .int v2] M none M2 := by
  intro n
  induction n with
  | zero => intro nd hnd v1 v2 M r M2 h; cases h
  | succ n ih =>
    intro nd hnd
    obtain ⟨nd, rfl⟩ : ∃ k, nd = k + 1 := ⟨4 + n, by omega⟩
    intro v1 v2 M r M2 h
    rw [f_Mover_findShiftsFrom] at h
    exact cb_Mover_findShiftsFrom E (F := f_Mover_findShiftsFrom n) (nd := nd) ⟨by omega, ih nd (by omega)⟩ v1 v2 M r M2 h
theorem c_Mover_findShiftsFrom (E : mm_E) (n : Nat) (v1 : Int32) (v2 : Int32) (M : mm_M) : ∀ (r : Unit) (M2 : mm_M), f_Mover_findShiftsFrom n v1 v2 M = some (r, M2) → mm_P E Y_X6_findShiftsFrom (4 + n) [.ref 93, .int v1, .int v2] M none M2 := c_Mover_findShiftsFrom_ok E n _ rfl v1 v2 M
def f_Mover_findShifts (v1 : Int32) (v2 : Int32) (M : mm_M) : Option (Bool × mm_M) := mm_let (mm_setI M 93 3 v1) fun M_1 => mm_let (mm_setI M_1 93 7 v2) fun M_2 => mm_let (mm_setI M_2 93 8 11) fun M_3 => mm_bd (f_Load_turnTo ((M_3.1 27 0) &&& (v1 ^^^ (-1))) M_3) fun u_4 M_5 => mm_bd (f_Mover_findShiftsFrom mm_rd 0 0 M_5) fun u_6 M_7 => if 11 ≤ M_7.1 93 8 then some (false, M_7) else some (true, M_7)
set_option maxHeartbeats 4000000 in
theorem c_Mover_findShifts (E : mm_E) (v1 : Int32) (v2 : Int32) (M : mm_M) : ∀ (r : Bool) (M2 : mm_M), f_Mover_findShifts v1 v2 M = some (r, M2) → mm_P E Y_X6_findShifts 65 [.ref 93, .int v1, .int v2] M (some (.int (mm_b r))) M2 := by
  refine mm_entry (em := (fun x : Bool => some (.int (mm_b x)))) (by decide +kernel) (Nat.le_of_ble_eq_true rfl) ?_
  show mm_G _ E _ _ 0 [(0, .ref 93), (1, .int v1), (2, .int v2)] [] M _
  unfold f_Mover_findShifts
  refine mm_aload_n 0 dX6_findShifts_0 rfl ?_
  refine mm_iload_n 1 dX6_findShifts_1 rfl ?_
  refine mm_putI dX6_findShifts_2 fp_RX6_33 lo_93 rfl ?_
  refine mm_nm_M (fun M_1 => ?_)
  refine mm_aload_n 0 dX6_findShifts_5 rfl ?_
  refine mm_iload_n 2 dX6_findShifts_6 rfl ?_
  refine mm_putI dX6_findShifts_7 fp_RX6_77 lo_93 rfl ?_
  refine mm_nm_M (fun M_2 => ?_)
  refine mm_aload_n 0 dX6_findShifts_10 rfl ?_
  refine mm_bipush (v := 11) dX6_findShifts_11 rfl ?_
  refine mm_putI dX6_findShifts_13 fp_RX6_80 lo_93 rfl ?_
  refine mm_nm_M (fun M_3 => ?_)
  refine mm_aload_n 0 dX6_findShifts_16 rfl ?_
  refine mm_getR 56 dX6_findShifts_17 fl_RX6_29 lo_93 rfl ?_
  refine mm_aload_n 0 dX6_findShifts_20 rfl ?_
  refine mm_getR 27 dX6_findShifts_21 fl_RX6_25 lo_93 rfl ?_
  refine mm_getI dX6_findShifts_24 fl_RX6_37 lo_27 rfl ?_
  refine mm_iload_n 1 dX6_findShifts_27 rfl ?_
  refine mm_iconst (v := (-1)) dX6_findShifts_28 rfl ?_
  refine mm_ixor dX6_findShifts_29 ?_
  refine mm_iand dX6_findShifts_30 ?_
  refine mm_callVv (as := [.int ((M_3.1 27 0) &&& (v1 ^^^ (-1)))]) (st := []) (c_Load_turnTo E ((M_3.1 27 0) &&& (v1 ^^^ (-1))) M_3) dX6_findShifts_31 mz_X5_turnTo lk_RX6_42 im_X5_turnTo se_X5_turnTo lo_56 rfl rfl rfl ⟨Nat.le_of_ble_eq_true rfl, Nat.le_of_ble_eq_true rfl⟩ (Nat.le_of_ble_eq_true rfl) (fun u_4 M_5 => ?_)
  refine mm_aload_n 0 dX6_findShifts_34 rfl ?_
  refine mm_iconst (v := 0) dX6_findShifts_35 rfl ?_
  refine mm_iconst (v := 0) dX6_findShifts_36 rfl ?_
  refine mm_callVv (as := [.int 0, .int 0]) (st := []) (c_Mover_findShiftsFrom E mm_rd 0 0 M_5) dX6_findShifts_37 mz_X6_findShiftsFrom lk_RX6_83 im_X6_findShiftsFrom se_X6_findShiftsFrom lo_93 rfl rfl rfl ⟨Nat.le_of_ble_eq_true rfl, Nat.le_of_ble_eq_true rfl⟩ (Nat.le_of_ble_eq_true rfl) (fun u_6 M_7 => ?_)
  refine mm_aload_n 0 dX6_findShifts_40 rfl ?_
  refine mm_getI dX6_findShifts_41 fl_RX6_80 lo_93 rfl ?_
  refine mm_bipush (v := 11) dX6_findShifts_44 rfl ?_
  refine mm_icmp_ge 53 dX6_findShifts_46 rfl ?_ ?_
  · refine mm_iconst (v := 0) dX6_findShifts_53 rfl ?_
    exact mm_zret (b := false) dX6_findShifts_54 rfl
  · refine mm_iconst (v := 1) dX6_findShifts_49 rfl ?_
    refine mm_goto 54 dX6_findShifts_50 rfl ?_
    exact mm_zret (b := true) dX6_findShifts_54 rfl
def lp_Mover_shiftAll_2 (v1 : Int32) (k37 : mm_M → Option (Unit × mm_M)) : Nat → Int32 → mm_M → Option (Unit × mm_M)
  | 0, _, _ => none
  | n + 1, v2, M => if 10 ≤ v2 then k37 M else mm_bd (f_H_isIn v1 v2 M) fun b_1 M_2 => mm_jn (fun (v2 : Int32) (M_3 : mm_M) => mm_let (v2 + 1) fun v2_4 => lp_Mover_shiftAll_2 v1 k37 n v2_4 M_3) fun j31 => if b_1 = true then if mm_in v2 (mm_al 95) = true then if mm_in v2 (mm_al 31) = true then mm_let (mm_setA M_2 31 (v2.toNatClampNeg) (M_2.2.1 95 v2.toNatClampNeg)) fun M_5 => j31 v2 M_5 else none else none else j31 v2 M_2
set_option maxHeartbeats 4000000 in
theorem lp_Mover_shiftAll_2_ok (E : mm_E) (v1 : Int32) {k37 : mm_M → Option (Unit × mm_M)} (hk37 : ∀ (M : mm_M), mm_G (fun _ : Unit => none) E Y_X6_shiftAll 3 37 [] [] M (k37 M)) : ∀ (n : Nat) (v2 : Int32) (M : mm_M), mm_G (fun _ : Unit => none) E Y_X6_shiftAll 3 2 [(0, .ref 93), (1, .int v1), (2, .int v2)] [] M (lp_Mover_shiftAll_2 v1 k37 n v2 M) := by
  intro n
  induction n with
  | zero => intro v2 M r M2 he; cases he
  | succ n ih =>
    intro v2 M
    rw [lp_Mover_shiftAll_2]
    refine mm_iload_n 2 dX6_shiftAll_2 rfl ?_
    refine mm_bipush (v := 10) dX6_shiftAll_3 rfl ?_
    refine mm_icmp_ge 37 dX6_shiftAll_5 rfl ?_ ?_
    · refine mm_wk [] rfl ?_
      exact hk37  M
    · refine mm_iload_n 1 dX6_shiftAll_8 rfl ?_
      refine mm_iload_n 2 dX6_shiftAll_9 rfl ?_
      refine mm_callSNz (as := [.int v1, .int v2]) (st := []) (c_H_isIn E v1 v2 M) dX6_shiftAll_10 mz_X11_isIn lk_RX6_52 sm_X11_isIn rfl ⟨Nat.le_of_ble_eq_true rfl, Nat.le_of_ble_eq_true rfl⟩ (Nat.le_of_ble_eq_true rfl) (fun b_1 M_2 => ?_)
      refine mm_jnP (P := fun j => ∀ (v2 : Int32) (M : mm_M), mm_G (fun _ : Unit => none) E Y_X6_shiftAll 3 31 [(0, .ref 93), (1, .int v1), (2, .int v2)] [] M (j v2 M)) ?_ (fun j31 hj31 => ?_)
      · intro v2 M_3
        refine mm_iincN 2 [1, 2, 0] (v := v2 + 1) (lv2 := fun v2_4 => [(0, .ref 93), (1, .int v1), (2, .int v2_4)]) dX6_shiftAll_31 rfl rfl (by decide) (fun _ => rfl) (fun v2_4 => ?_)
        refine mm_goto 2 dX6_shiftAll_34 rfl ?_
        exact ih v2_4 M_3
      refine mm_if_eq_b 31 dX6_shiftAll_13 rfl ?_ ?_
      · exact hj31 v2 M_2
      · refine mm_aload_n 0 dX6_shiftAll_16 rfl ?_
        refine mm_getR 27 dX6_shiftAll_17 fl_RX6_25 lo_93 rfl ?_
        refine mm_getR 31 dX6_shiftAll_20 fl_RX6_92 lo_27 rfl ?_
        refine mm_iload_n 2 dX6_shiftAll_23 rfl ?_
        refine mm_aload_n 0 dX6_shiftAll_24 rfl ?_
        refine mm_getR 95 dX6_shiftAll_25 fl_RX6_15 lo_93 rfl ?_
        refine mm_iload_n 2 dX6_shiftAll_28 rfl ?_
        refine mm_iaload dX6_shiftAll_29 ?_
        refine mm_iastore dX6_shiftAll_30 ?_
        refine mm_nm_M (fun M_5 => ?_)
        exact hj31 v2 M_5
def f_Mover_shiftAll (v1 : Int32) (M : mm_M) : Option (Unit × mm_M) := lp_Mover_shiftAll_2 v1 (fun (M_6 : mm_M) => some ((), M_6)) mm_fu 0 M
set_option maxHeartbeats 4000000 in
theorem c_Mover_shiftAll (E : mm_E) (v1 : Int32) (M : mm_M) : ∀ (r : Unit) (M2 : mm_M), f_Mover_shiftAll v1 M = some (r, M2) → mm_P E Y_X6_shiftAll 3 [.ref 93, .int v1] M none M2 := by
  refine mm_entry (em := (fun _ : Unit => none)) (by decide +kernel) (Nat.le_of_ble_eq_true rfl) ?_
  show mm_G _ E _ _ 0 [(0, .ref 93), (1, .int v1)] [] M _
  unfold f_Mover_shiftAll
  refine mm_iconst (v := 0) dX6_shiftAll_0 rfl ?_
  refine mm_istore_n [1, 2, 0] (lv2 := [(0, .ref 93), (1, .int v1), (2, .int 0)]) dX6_shiftAll_1 (by decide) rfl ?_
  refine lp_Mover_shiftAll_2_ok E v1 ?_ mm_fu 0 M
  · intro M_6
    exact mm_vret dX6_shiftAll_37 rfl
def f_H_shifting (v1 : Int32) (v2 : Int32) (v3 : Int32) (M : mm_M) : Option (Int32 × mm_M) := mm_bd (f_H_areStays v1 5 M) fun b_1 M_2 => if b_1 = true then if v2 < 1 then some ((-1), M_2) else if 2 < v2 then some ((-1), M_2) else mm_jn (fun (M_3 : mm_M) => mm_bd (f_Load_begin M_3) fun u_4 M_5 => mm_bd (f_Mover_findShifts v1 v2 M_5) fun b_6 M_7 => if b_6 = true then mm_jn (fun (M_8 : mm_M) => if 10 ≤ v3 then some (M_8.1 93 8, M_8) else if mm_in v3 (mm_al 95) = true then some ((M_8.2.1 95 v3.toNatClampNeg) + 3, M_8) else none) fun j77 => if v3 = 11 then mm_bd (f_Mover_shiftAll v1 M_7) fun u_9 M_10 => j77 M_10 else j77 M_7 else some ((-2), M_7)) fun j41 => if v3 = 10 then j41 M_2 else if v3 = 11 then j41 M_2 else mm_bd (f_H_isIn v1 v3 M_2) fun b_11 M_12 => if b_11 = true then j41 M_12 else some ((-1), M_12) else some ((-1), M_2)
set_option maxHeartbeats 4000000 in
theorem c_H_shifting (E : mm_E) (v1 : Int32) (v2 : Int32) (v3 : Int32) (M : mm_M) : ∀ (r : Int32) (M2 : mm_M), f_H_shifting v1 v2 v3 M = some (r, M2) → mm_P E Y_X11_shifting 66 [.ref 0, .int v1, .int v2, .int v3] M (some (.int r)) M2 := by
  refine mm_entry (em := (fun x : Int32 => some (.int x))) (by decide +kernel) (Nat.le_of_ble_eq_true rfl) ?_
  show mm_G _ E _ _ 0 [(0, .ref 0), (1, .int v1), (2, .int v2), (3, .int v3)] [] M _
  unfold f_H_shifting
  refine mm_aload_n 0 dX11_shifting_0 rfl ?_
  refine mm_iload_n 1 dX11_shifting_1 rfl ?_
  refine mm_iconst (v := 5) dX11_shifting_2 rfl ?_
  refine mm_callVz (as := [.int v1, .int 5]) (st := []) (c_H_areStays E v1 5 M) dX11_shifting_3 mz_X11_areStays lk_RX11_203 im_X11_areStays se_X11_areStays lo_0 rfl rfl rfl ⟨Nat.le_of_ble_eq_true rfl, Nat.le_of_ble_eq_true rfl⟩ (Nat.le_of_ble_eq_true rfl) (fun b_1 M_2 => ?_)
  refine mm_if_eq_b 39 dX11_shifting_6 rfl ?_ ?_
  · refine mm_iconst (v := (-1)) dX11_shifting_39 rfl ?_
    exact mm_iret dX11_shifting_40 rfl
  · refine mm_iload_n 2 dX11_shifting_9 rfl ?_
    refine mm_iconst (v := 1) dX11_shifting_10 rfl ?_
    refine mm_icmp_lt 39 dX11_shifting_11 rfl ?_ ?_
    · refine mm_iconst (v := (-1)) dX11_shifting_39 rfl ?_
      exact mm_iret dX11_shifting_40 rfl
    · refine mm_iload_n 2 dX11_shifting_14 rfl ?_
      refine mm_iconst (v := 2) dX11_shifting_15 rfl ?_
      refine mm_icmp_gt 39 dX11_shifting_16 rfl ?_ ?_
      · refine mm_iconst (v := (-1)) dX11_shifting_39 rfl ?_
        exact mm_iret dX11_shifting_40 rfl
      · refine mm_iload_n 3 dX11_shifting_19 rfl ?_
        refine mm_bipush (v := 10) dX11_shifting_20 rfl ?_
        refine mm_jnP (P := fun j => ∀ (M : mm_M), mm_G (fun x : Int32 => some (.int x)) E Y_X11_shifting 66 41 [(0, .ref 0), (1, .int v1), (2, .int v2), (3, .int v3)] [] M (j M)) ?_ (fun j41 hj41 => ?_)
        · intro M_3
          refine mm_aload_n 0 dX11_shifting_41 rfl ?_
          refine mm_getR 56 dX11_shifting_42 fl_RX11_71 lo_0 rfl ?_
          refine mm_callVv (as := []) (st := []) (c_Load_begin E M_3) dX11_shifting_45 mz_X5_begin lk_RX11_177 im_X5_begin se_X5_begin lo_56 rfl rfl rfl ⟨Nat.le_of_ble_eq_true rfl, Nat.le_of_ble_eq_true rfl⟩ (Nat.le_of_ble_eq_true rfl) (fun u_4 M_5 => ?_)
          refine mm_aload_n 0 dX11_shifting_48 rfl ?_
          refine mm_getR 93 dX11_shifting_49 fl_RX11_96 lo_0 rfl ?_
          refine mm_iload_n 1 dX11_shifting_52 rfl ?_
          refine mm_iload_n 2 dX11_shifting_53 rfl ?_
          refine mm_callVz (as := [.int v1, .int v2]) (st := []) (c_Mover_findShifts E v1 v2 M_5) dX11_shifting_54 mz_X6_findShifts lk_RX11_246 im_X6_findShifts se_X6_findShifts lo_93 rfl rfl rfl ⟨Nat.le_of_ble_eq_true rfl, Nat.le_of_ble_eq_true rfl⟩ (Nat.le_of_ble_eq_true rfl) (fun b_6 M_7 => ?_)
          refine mm_if_ne_b 63 dX11_shifting_57 rfl ?_ ?_
          · refine mm_iload_n 3 dX11_shifting_63 rfl ?_
            refine mm_bipush (v := 11) dX11_shifting_64 rfl ?_
            refine mm_jnP (P := fun j => ∀ (M : mm_M), mm_G (fun x : Int32 => some (.int x)) E Y_X11_shifting 66 77 [(0, .ref 0), (3, .int v3)] [] M (j M)) ?_ (fun j77 hj77 => ?_)
            · intro M_8
              refine mm_iload_n 1 dX11_shifting_77 rfl ?_
              refine mm_bipush (v := 10) dX11_shifting_78 rfl ?_
              refine mm_icmp_ge 97 dX11_shifting_80 rfl ?_ ?_
              · refine mm_aload_n 0 dX11_shifting_97 rfl ?_
                refine mm_getR 93 dX11_shifting_98 fl_RX11_96 lo_0 rfl ?_
                refine mm_getI dX11_shifting_101 fl_RX11_255 lo_93 rfl ?_
                exact mm_iret dX11_shifting_104 rfl
              · refine mm_aload_n 0 dX11_shifting_83 rfl ?_
                refine mm_getR 93 dX11_shifting_84 fl_RX11_96 lo_0 rfl ?_
                refine mm_getR 95 dX11_shifting_87 fl_RX11_252 lo_93 rfl ?_
                refine mm_iload_n 1 dX11_shifting_90 rfl ?_
                refine mm_iaload dX11_shifting_91 ?_
                refine mm_iconst (v := 3) dX11_shifting_92 rfl ?_
                refine mm_iadd dX11_shifting_93 ?_
                refine mm_goto 104 dX11_shifting_94 rfl ?_
                exact mm_iret dX11_shifting_104 rfl
            refine mm_icmp_ne 77 dX11_shifting_66 rfl ?_ ?_
            · refine mm_wk [0, 3] rfl ?_
              exact hj77  M_7
            · refine mm_aload_n 0 dX11_shifting_69 rfl ?_
              refine mm_getR 93 dX11_shifting_70 fl_RX11_96 lo_0 rfl ?_
              refine mm_iload_n 1 dX11_shifting_73 rfl ?_
              refine mm_callVv (as := [.int v1]) (st := []) (c_Mover_shiftAll E v1 M_7) dX11_shifting_74 mz_X6_shiftAll lk_RX11_249 im_X6_shiftAll se_X6_shiftAll lo_93 rfl rfl rfl ⟨Nat.le_of_ble_eq_true rfl, Nat.le_of_ble_eq_true rfl⟩ (Nat.le_of_ble_eq_true rfl) (fun u_9 M_10 => ?_)
              refine mm_wk [0, 3] rfl ?_
              exact hj77  M_10
          · refine mm_bipush (v := (-2)) dX11_shifting_60 rfl ?_
            exact mm_iret dX11_shifting_62 rfl
        refine mm_icmp_eq 41 dX11_shifting_22 rfl ?_ ?_
        · exact hj41  M_2
        · refine mm_iload_n 3 dX11_shifting_25 rfl ?_
          refine mm_bipush (v := 11) dX11_shifting_26 rfl ?_
          refine mm_icmp_eq 41 dX11_shifting_28 rfl ?_ ?_
          · exact hj41  M_2
          · refine mm_iload_n 1 dX11_shifting_31 rfl ?_
            refine mm_iload_n 3 dX11_shifting_32 rfl ?_
            refine mm_callSz (as := [.int v1, .int v3]) (st := []) (c_H_isIn E v1 v3 M_2) dX11_shifting_33 mz_X11_isIn lk_RX11_231 sm_X11_isIn rfl ⟨Nat.le_of_ble_eq_true rfl, Nat.le_of_ble_eq_true rfl⟩ (Nat.le_of_ble_eq_true rfl) (fun b_11 M_12 => ?_)
            refine mm_if_ne_b 41 dX11_shifting_36 rfl ?_ ?_
            · exact hj41  M_12
            · refine mm_iconst (v := (-1)) dX11_shifting_39 rfl ?_
              exact mm_iret dX11_shifting_40 rfl
def lp_Load_peakOf_4 (v1 : Int32) (k32 : Int32 → mm_M → Option (Int32 × mm_M)) : Nat → Int32 → Int32 → mm_M → Option (Int32 × mm_M)
  | 0, _, _, _ => none
  | n + 1, v2, v3, M => if 24 ≤ v3 then k32 v2 M else if mm_in ((v1 * 24) + v3) (mm_al 69) = true then mm_bd (f_Math_max v2 (M.2.1 69 ((v1 * 24) + v3).toNatClampNeg) M) fun r_1 M_2 => mm_let (v3 + 1) fun v3_3 => lp_Load_peakOf_4 v1 k32 n r_1 v3_3 M_2 else none
set_option maxHeartbeats 4000000 in
theorem lp_Load_peakOf_4_ok (E : mm_E) (v1 : Int32) {k32 : Int32 → mm_M → Option (Int32 × mm_M)} (hk32 : ∀ (v2 : Int32) (M : mm_M), mm_G (fun x : Int32 => some (.int x)) E Y_X5_peakOf 2 32 [(2, .int v2)] [] M (k32 v2 M)) : ∀ (n : Nat) (v2 : Int32) (v3 : Int32) (M : mm_M), mm_G (fun x : Int32 => some (.int x)) E Y_X5_peakOf 2 4 [(0, .ref 56), (1, .int v1), (2, .int v2), (3, .int v3)] [] M (lp_Load_peakOf_4 v1 k32 n v2 v3 M) := by
  intro n
  induction n with
  | zero => intro v2 v3 M r M2 he; cases he
  | succ n ih =>
    intro v2 v3 M
    rw [lp_Load_peakOf_4]
    refine mm_iload_n 3 dX5_peakOf_4 rfl ?_
    refine mm_bipush (v := 24) dX5_peakOf_5 rfl ?_
    refine mm_icmp_ge 32 dX5_peakOf_7 rfl ?_ ?_
    · refine mm_wk [2] rfl ?_
      exact hk32 v2 M
    · refine mm_iload_n 2 dX5_peakOf_10 rfl ?_
      refine mm_aload_n 0 dX5_peakOf_11 rfl ?_
      refine mm_getR 69 dX5_peakOf_12 fl_RX5_20 lo_56 rfl ?_
      refine mm_iload_n 1 dX5_peakOf_15 rfl ?_
      refine mm_bipush (v := 24) dX5_peakOf_16 rfl ?_
      refine mm_imul dX5_peakOf_18 ?_
      refine mm_iload_n 3 dX5_peakOf_19 rfl ?_
      refine mm_iadd dX5_peakOf_20 ?_
      refine mm_iaload dX5_peakOf_21 ?_
      refine mm_callSi (as := [.int v2, .int (M.2.1 69 ((v1 * 24) + v3).toNatClampNeg)]) (st := []) (c_Math_max E v2 (M.2.1 69 ((v1 * 24) + v3).toNatClampNeg) M) dX5_peakOf_22 mz_J9_max_7cf53 lk_RX5_122 sm_J9_max_7cf53 rfl ⟨Nat.le_of_ble_eq_true rfl, Nat.le_of_ble_eq_true rfl⟩ (Nat.le_of_ble_eq_true rfl) (fun r_1 M_2 => ?_)
      refine mm_istore_n [1, 2, 0, 3] (lv2 := [(0, .ref 56), (1, .int v1), (2, .int r_1), (3, .int v3)]) dX5_peakOf_25 (by decide) rfl ?_
      refine mm_iincN 3 [1, 2, 3, 0] (v := v3 + 1) (lv2 := fun v3_3 => [(0, .ref 56), (1, .int v1), (2, .int r_1), (3, .int v3_3)]) dX5_peakOf_26 rfl rfl (by decide) (fun _ => rfl) (fun v3_3 => ?_)
      refine mm_goto 4 dX5_peakOf_29 rfl ?_
      exact ih r_1 v3_3 M_2
def f_Load_peakOf (v1 : Int32) (M : mm_M) : Option (Int32 × mm_M) := lp_Load_peakOf_4 v1 (fun (v2 : Int32) (M_4 : mm_M) => some (v2, M_4)) mm_fu 0 0 M
set_option maxHeartbeats 4000000 in
theorem c_Load_peakOf (E : mm_E) (v1 : Int32) (M : mm_M) : ∀ (r : Int32) (M2 : mm_M), f_Load_peakOf v1 M = some (r, M2) → mm_P E Y_X5_peakOf 2 [.ref 56, .int v1] M (some (.int r)) M2 := by
  refine mm_entry (em := (fun x : Int32 => some (.int x))) (by decide +kernel) (Nat.le_of_ble_eq_true rfl) ?_
  show mm_G _ E _ _ 0 [(0, .ref 56), (1, .int v1)] [] M _
  unfold f_Load_peakOf
  refine mm_iconst (v := 0) dX5_peakOf_0 rfl ?_
  refine mm_istore_n [1, 2, 0] (lv2 := [(0, .ref 56), (1, .int v1), (2, .int 0)]) dX5_peakOf_1 (by decide) rfl ?_
  refine mm_iconst (v := 0) dX5_peakOf_2 rfl ?_
  refine mm_istore_n [1, 2, 3, 0] (lv2 := [(0, .ref 56), (1, .int v1), (2, .int 0), (3, .int 0)]) dX5_peakOf_3 (by decide) rfl ?_
  refine lp_Load_peakOf_4_ok E v1 ?_ mm_fu 0 0 M
  · intro v2 M_4
    refine mm_iload_n 0 dX5_peakOf_32 rfl ?_
    exact mm_iret dX5_peakOf_33 rfl
def f_Chooser_moreOf (v1 : Int32) (M : mm_M) : Option (Int32 × mm_M) := mm_bd (f_Load_peakOf v1 M) fun r_1 M_2 => if mm_in v1 (mm_al 24) = true then mm_bd (f_Math_max 0 (r_1 - (M_2.2.1 24 v1.toNatClampNeg)) M_2) fun r_3 M_4 => some (r_3, M_4) else none
set_option maxHeartbeats 4000000 in
theorem c_Chooser_moreOf (E : mm_E) (v1 : Int32) (M : mm_M) : ∀ (r : Int32) (M2 : mm_M), f_Chooser_moreOf v1 M = some (r, M2) → mm_P E Y_X0_moreOf 3 [.ref 71, .int v1] M (some (.int r)) M2 := by
  refine mm_entry (em := (fun x : Int32 => some (.int x))) (by decide +kernel) (Nat.le_of_ble_eq_true rfl) ?_
  show mm_G _ E _ _ 0 [(0, .ref 71), (1, .int v1)] [] M _
  unfold f_Chooser_moreOf
  refine mm_iconst (v := 0) dX0_moreOf_0 rfl ?_
  refine mm_aload_n 0 dX0_moreOf_1 rfl ?_
  refine mm_getR 56 dX0_moreOf_2 fl_RX0_23 lo_71 rfl ?_
  refine mm_iload_n 1 dX0_moreOf_5 rfl ?_
  refine mm_callVi (as := [.int v1]) (st := [.int 0]) (c_Load_peakOf E v1 M) dX0_moreOf_6 mz_X5_peakOf lk_RX0_84 im_X5_peakOf se_X5_peakOf lo_56 rfl rfl rfl ⟨Nat.le_of_ble_eq_true rfl, Nat.le_of_ble_eq_true rfl⟩ (Nat.le_of_ble_eq_true rfl) (fun r_1 M_2 => ?_)
  refine mm_aload_n 0 dX0_moreOf_9 rfl ?_
  refine mm_getR 22 dX0_moreOf_10 fl_RX0_15 lo_71 rfl ?_
  refine mm_getR 24 dX0_moreOf_13 fl_RX0_87 lo_22 rfl ?_
  refine mm_iload_n 1 dX0_moreOf_16 rfl ?_
  refine mm_iaload dX0_moreOf_17 ?_
  refine mm_isub dX0_moreOf_18 ?_
  refine mm_callSi (as := [.int 0, .int (r_1 - (M_2.2.1 24 v1.toNatClampNeg))]) (st := []) (c_Math_max E 0 (r_1 - (M_2.2.1 24 v1.toNatClampNeg)) M_2) dX0_moreOf_19 mz_J9_max_7cf53 lk_RX0_90 sm_J9_max_7cf53 rfl ⟨Nat.le_of_ble_eq_true rfl, Nat.le_of_ble_eq_true rfl⟩ (Nat.le_of_ble_eq_true rfl) (fun r_3 M_4 => ?_)
  exact mm_iret dX0_moreOf_22 rfl
def f_Load_fitsButForPlant (M : mm_M) : Option (Bool × mm_M) := mm_bd (f_Load_fitsFrom 3 M) fun b_1 M_2 => some (b_1, M_2)
set_option maxHeartbeats 4000000 in
theorem c_Load_fitsButForPlant (E : mm_E) (M : mm_M) : ∀ (r : Bool) (M2 : mm_M), f_Load_fitsButForPlant M = some (r, M2) → mm_P E Y_X5_fitsButForPlant 4 [.ref 56] M (some (.int (mm_b r))) M2 := by
  refine mm_entry (em := (fun x : Bool => some (.int (mm_b x)))) (by decide +kernel) (Nat.le_of_ble_eq_true rfl) ?_
  show mm_G _ E _ _ 0 [(0, .ref 56)] [] M _
  unfold f_Load_fitsButForPlant
  refine mm_aload_n 0 dX5_fitsButForPlant_0 rfl ?_
  refine mm_iconst (v := 3) dX5_fitsButForPlant_1 rfl ?_
  refine mm_callVz (as := [.int 3]) (st := []) (c_Load_fitsFrom E 3 M) dX5_fitsButForPlant_2 mz_X5_fitsFrom lk_RX5_96 im_X5_fitsFrom se_X5_fitsFrom lo_56 rfl rfl rfl ⟨Nat.le_of_ble_eq_true rfl, Nat.le_of_ble_eq_true rfl⟩ (Nat.le_of_ble_eq_true rfl) (fun b_1 M_2 => ?_)
  exact mm_zret (b := b_1) dX5_fitsButForPlant_5 rfl
def lp_Chooser_tryLarger_13 (v1 : Int32) (k45 : Int32 → mm_M → Option (Unit × mm_M)) : Nat → Int32 → Int32 → mm_M → Option (Unit × mm_M)
  | 0, _, _, _ => none
  | n + 1, v3, v4, M => if 3 ≤ v4 then k45 v3 M else mm_bd (f_Chooser_moreOf v4 M) fun r_3 M_4 => if mm_in v4 (mm_al 25) = true then mm_let (v3 - (r_3 * (M_4.2.1 25 v4.toNatClampNeg))) fun v3_5 => mm_let (v4 + 1) fun v4_6 => lp_Chooser_tryLarger_13 v1 k45 n v3_5 v4_6 M_4 else none
set_option maxHeartbeats 4000000 in
theorem lp_Chooser_tryLarger_13_ok (E : mm_E) (v1 : Int32) {k45 : Int32 → mm_M → Option (Unit × mm_M)} (hk45 : ∀ (v3 : Int32) (M : mm_M), mm_G (fun _ : Unit => none) E Y_X0_tryLarger 5 45 [(0, .ref 71), (1, .int v1), (3, .int v3)] [] M (k45 v3 M)) : ∀ (n : Nat) (v3 : Int32) (v4 : Int32) (M : mm_M), mm_G (fun _ : Unit => none) E Y_X0_tryLarger 5 13 [(0, .ref 71), (1, .int v1), (3, .int v3), (4, .int v4)] [] M (lp_Chooser_tryLarger_13 v1 k45 n v3 v4 M) := by
  intro n
  induction n with
  | zero => intro v3 v4 M r M2 he; cases he
  | succ n ih =>
    intro v3 v4 M
    rw [lp_Chooser_tryLarger_13]
    refine mm_iload 3 dX0_tryLarger_13 rfl ?_
    refine mm_iconst (v := 3) dX0_tryLarger_15 rfl ?_
    refine mm_icmp_ge 45 dX0_tryLarger_16 rfl ?_ ?_
    · refine mm_wk [0, 1, 2] rfl ?_
      exact hk45 v3 M
    · refine mm_iload_n 2 dX0_tryLarger_19 rfl ?_
      refine mm_aload_n 0 dX0_tryLarger_20 rfl ?_
      refine mm_iload 3 dX0_tryLarger_21 rfl ?_
      refine mm_callVi (as := [.int v4]) (st := [.int v3]) (c_Chooser_moreOf E v4 M) dX0_tryLarger_23 mz_X0_moreOf lk_RX0_73 im_X0_moreOf se_X0_moreOf lo_71 rfl rfl rfl ⟨Nat.le_of_ble_eq_true rfl, Nat.le_of_ble_eq_true rfl⟩ (Nat.le_of_ble_eq_true rfl) (fun r_3 M_4 => ?_)
      refine mm_aload_n 0 dX0_tryLarger_26 rfl ?_
      refine mm_getR 22 dX0_tryLarger_27 fl_RX0_15 lo_71 rfl ?_
      refine mm_getR 25 dX0_tryLarger_30 fl_RX0_76 lo_22 rfl ?_
      refine mm_iload 3 dX0_tryLarger_33 rfl ?_
      refine mm_iaload dX0_tryLarger_35 ?_
      refine mm_imul dX0_tryLarger_36 ?_
      refine mm_isub dX0_tryLarger_37 ?_
      refine mm_nm_int (fun v3_5 => ?_)
      refine mm_istore_n [1, 2, 0, 3] (lv2 := [(0, .ref 71), (1, .int v1), (3, .int v3_5), (4, .int v4)]) dX0_tryLarger_38 (by decide) rfl ?_
      refine mm_iincN 3 [1, 2, 3, 0] (v := v4 + 1) (lv2 := fun v4_6 => [(0, .ref 71), (1, .int v1), (3, .int v3_5), (4, .int v4_6)]) dX0_tryLarger_39 rfl rfl (by decide) (fun _ => rfl) (fun v4_6 => ?_)
      refine mm_goto 13 dX0_tryLarger_42 rfl ?_
      exact ih v3_5 v4_6 M_4
def f_Chooser_tryLarger (v1 : Int32) (v2 : Int32) (M : mm_M) : Option (Unit × mm_M) := mm_bd (f_Load_turnTo v1 M) fun u_1 M_2 => lp_Chooser_tryLarger_13 v1 (fun (v3 : Int32) (M_7 : mm_M) => mm_bd (f_Chooser_isBetter v3 v1 (M_7.1 71 3) (M_7.1 71 4) M_7) fun b_8 M_9 => if b_8 = true then mm_bd (f_Load_fitsButForPlant M_9) fun b_10 M_11 => if b_10 = true then mm_let (mm_setI M_11 71 3 v3) fun M_12 => mm_let (mm_setI M_12 71 4 v1) fun M_13 => some ((), M_13) else some ((), M_11) else some ((), M_9)) mm_fu v2 0 M_2
set_option maxHeartbeats 4000000 in
theorem c_Chooser_tryLarger (E : mm_E) (v1 : Int32) (v2 : Int32) (M : mm_M) : ∀ (r : Unit) (M2 : mm_M), f_Chooser_tryLarger v1 v2 M = some (r, M2) → mm_P E Y_X0_tryLarger 5 [.ref 71, .int v1, .int v2] M none M2 := by
  refine mm_entry (em := (fun _ : Unit => none)) (by decide +kernel) (Nat.le_of_ble_eq_true rfl) ?_
  show mm_G _ E _ _ 0 [(0, .ref 71), (1, .int v1), (2, .int v2)] [] M _
  unfold f_Chooser_tryLarger
  refine mm_aload_n 0 dX0_tryLarger_0 rfl ?_
  refine mm_getR 56 dX0_tryLarger_1 fl_RX0_23 lo_71 rfl ?_
  refine mm_iload_n 1 dX0_tryLarger_4 rfl ?_
  refine mm_callVv (as := [.int v1]) (st := []) (c_Load_turnTo E v1 M) dX0_tryLarger_5 mz_X5_turnTo lk_RX0_50 im_X5_turnTo se_X5_turnTo lo_56 rfl rfl rfl ⟨Nat.le_of_ble_eq_true rfl, Nat.le_of_ble_eq_true rfl⟩ (Nat.le_of_ble_eq_true rfl) (fun u_1 M_2 => ?_)
  refine mm_iload_n 2 dX0_tryLarger_8 rfl ?_
  refine mm_istore_n [1, 2, 3, 0] (lv2 := [(0, .ref 71), (1, .int v1), (2, .int v2), (3, .int v2)]) dX0_tryLarger_9 (by decide) rfl ?_
  refine mm_iconst (v := 0) dX0_tryLarger_10 rfl ?_
  refine mm_istore [1, 2, 3, 4, 0] (lv2 := [(0, .ref 71), (1, .int v1), (2, .int v2), (3, .int v2), (4, .int 0)]) dX0_tryLarger_11 (by decide) rfl ?_
  refine mm_wk [0, 1, 3, 4] rfl ?_
  refine lp_Chooser_tryLarger_13_ok E v1 ?_ mm_fu v2 0 M_2
  · intro v3 M_7
    refine mm_iload_n 2 dX0_tryLarger_45 rfl ?_
    refine mm_iload_n 1 dX0_tryLarger_46 rfl ?_
    refine mm_aload_n 0 dX0_tryLarger_47 rfl ?_
    refine mm_getI dX0_tryLarger_48 fl_RX0_63 lo_71 rfl ?_
    refine mm_aload_n 0 dX0_tryLarger_51 rfl ?_
    refine mm_getI dX0_tryLarger_52 fl_RX0_66 lo_71 rfl ?_
    refine mm_callSz (as := [.int v3, .int v1, .int (M_7.1 71 3), .int (M_7.1 71 4)]) (st := []) (c_Chooser_isBetter E v3 v1 (M_7.1 71 3) (M_7.1 71 4) M_7) dX0_tryLarger_55 mz_X0_isBetter lk_RX0_37 sm_X0_isBetter rfl ⟨Nat.le_of_ble_eq_true rfl, Nat.le_of_ble_eq_true rfl⟩ (Nat.le_of_ble_eq_true rfl) (fun b_8 M_9 => ?_)
    refine mm_if_eq_b 81 dX0_tryLarger_58 rfl ?_ ?_
    · exact mm_vret dX0_tryLarger_81 rfl
    · refine mm_aload_n 0 dX0_tryLarger_61 rfl ?_
      refine mm_getR 56 dX0_tryLarger_62 fl_RX0_23 lo_71 rfl ?_
      refine mm_callVz (as := []) (st := []) (c_Load_fitsButForPlant E M_9) dX0_tryLarger_65 mz_X5_fitsButForPlant lk_RX0_81 im_X5_fitsButForPlant se_X5_fitsButForPlant lo_56 rfl rfl rfl ⟨Nat.le_of_ble_eq_true rfl, Nat.le_of_ble_eq_true rfl⟩ (Nat.le_of_ble_eq_true rfl) (fun b_10 M_11 => ?_)
      refine mm_if_eq_b 81 dX0_tryLarger_68 rfl ?_ ?_
      · exact mm_vret dX0_tryLarger_81 rfl
      · refine mm_aload_n 0 dX0_tryLarger_71 rfl ?_
        refine mm_iload_n 2 dX0_tryLarger_72 rfl ?_
        refine mm_putI dX0_tryLarger_73 fp_RX0_63 lo_71 rfl ?_
        refine mm_nm_M (fun M_12 => ?_)
        refine mm_aload_n 0 dX0_tryLarger_76 rfl ?_
        refine mm_iload_n 1 dX0_tryLarger_77 rfl ?_
        refine mm_putI dX0_tryLarger_78 fp_RX0_66 lo_71 rfl ?_
        refine mm_nm_M (fun M_13 => ?_)
        exact mm_vret dX0_tryLarger_81 rfl
def lp_Chooser_chooseLarger_12 (k70 : mm_M → Option (Unit × mm_M)) : Nat → Int32 → mm_M → Option (Unit × mm_M)
  | 0, _, _ => none
  | n + 1, v1, M => if 1024 ≤ v1 then k70 M else mm_bd (f_H_isPart v1 (M.1 27 0) M) fun b_3 M_4 => mm_jn (fun (v1 : Int32) (M_5 : mm_M) => mm_let (v1 + 1) fun v1_6 => lp_Chooser_chooseLarger_12 k70 n v1_6 M_5) fun j64 => if b_3 = true then mm_bd (f_Register_pricesOf_27 v1 M_4) fun r_7 M_8 => mm_bd (f_Chooser_isBetter r_7 v1 (M_8.1 71 3) (M_8.1 71 4) M_8) fun b_9 M_10 => if b_9 = true then mm_bd (f_Chooser_tryLarger v1 r_7 M_10) fun u_11 M_12 => j64 v1 M_12 else j64 v1 M_10 else j64 v1 M_4
set_option maxHeartbeats 4000000 in
theorem lp_Chooser_chooseLarger_12_ok (E : mm_E) {k70 : mm_M → Option (Unit × mm_M)} (hk70 : ∀ (M : mm_M), mm_G (fun _ : Unit => none) E Y_X0_chooseLarger 6 70 [(0, .ref 71)] [] M (k70 M)) : ∀ (n : Nat) (v1 : Int32) (M : mm_M), mm_G (fun _ : Unit => none) E Y_X0_chooseLarger 6 12 [(0, .ref 71), (1, .int v1)] [] M (lp_Chooser_chooseLarger_12 k70 n v1 M) := by
  intro n
  induction n with
  | zero => intro v1 M r M2 he; cases he
  | succ n ih =>
    intro v1 M
    rw [lp_Chooser_chooseLarger_12]
    refine mm_iload_n 1 dX0_chooseLarger_12 rfl ?_
    refine mm_sipush (v := 1024) dX0_chooseLarger_13 rfl ?_
    refine mm_icmp_ge 70 dX0_chooseLarger_16 rfl ?_ ?_
    · refine mm_wk [0] rfl ?_
      exact hk70  M
    · refine mm_iload_n 1 dX0_chooseLarger_19 rfl ?_
      refine mm_aload_n 0 dX0_chooseLarger_20 rfl ?_
      refine mm_getR 27 dX0_chooseLarger_21 fl_RX0_19 lo_71 rfl ?_
      refine mm_getI dX0_chooseLarger_24 fl_RX0_59 lo_27 rfl ?_
      refine mm_callSNz (as := [.int v1, .int (M.1 27 0)]) (st := []) (c_H_isPart E v1 (M.1 27 0) M) dX0_chooseLarger_27 mz_X11_isPart lk_RX0_27 sm_X11_isPart rfl ⟨Nat.le_of_ble_eq_true rfl, Nat.le_of_ble_eq_true rfl⟩ (Nat.le_of_ble_eq_true rfl) (fun b_3 M_4 => ?_)
      refine mm_jnP (P := fun j => ∀ (v1 : Int32) (M : mm_M), mm_G (fun _ : Unit => none) E Y_X0_chooseLarger 6 64 [(0, .ref 71), (1, .int v1)] [] M (j v1 M)) ?_ (fun j64 hj64 => ?_)
      · intro v1 M_5
        refine mm_iincN 1 [1, 0] (v := v1 + 1) (lv2 := fun v1_6 => [(0, .ref 71), (1, .int v1_6)]) dX0_chooseLarger_64 rfl rfl (by decide) (fun _ => rfl) (fun v1_6 => ?_)
        refine mm_goto 12 dX0_chooseLarger_67 rfl ?_
        exact ih v1_6 M_5
      refine mm_if_eq_b 64 dX0_chooseLarger_30 rfl ?_ ?_
      · exact hj64 v1 M_4
      · refine mm_aload_n 0 dX0_chooseLarger_33 rfl ?_
        refine mm_getR 27 dX0_chooseLarger_34 fl_RX0_19 lo_71 rfl ?_
        refine mm_iload_n 1 dX0_chooseLarger_37 rfl ?_
        refine mm_callVi (as := [.int v1]) (st := []) (c_Register_pricesOf_27 E v1 M_4) dX0_chooseLarger_38 mz_X7_pricesOf lk_RX0_31 im_X7_pricesOf se_X7_pricesOf lo_27 rfl rfl rfl ⟨Nat.le_of_ble_eq_true rfl, Nat.le_of_ble_eq_true rfl⟩ (Nat.le_of_ble_eq_true rfl) (fun r_7 M_8 => ?_)
        refine mm_istore_n [1, 2, 0] (lv2 := [(0, .ref 71), (1, .int v1), (2, .int r_7)]) dX0_chooseLarger_41 (by decide) rfl ?_
        refine mm_iload_n 2 dX0_chooseLarger_42 rfl ?_
        refine mm_iload_n 1 dX0_chooseLarger_43 rfl ?_
        refine mm_aload_n 0 dX0_chooseLarger_44 rfl ?_
        refine mm_getI dX0_chooseLarger_45 fl_RX0_63 lo_71 rfl ?_
        refine mm_aload_n 0 dX0_chooseLarger_48 rfl ?_
        refine mm_getI dX0_chooseLarger_49 fl_RX0_66 lo_71 rfl ?_
        refine mm_callSz (as := [.int r_7, .int v1, .int (M_8.1 71 3), .int (M_8.1 71 4)]) (st := []) (c_Chooser_isBetter E r_7 v1 (M_8.1 71 3) (M_8.1 71 4) M_8) dX0_chooseLarger_52 mz_X0_isBetter lk_RX0_37 sm_X0_isBetter rfl ⟨Nat.le_of_ble_eq_true rfl, Nat.le_of_ble_eq_true rfl⟩ (Nat.le_of_ble_eq_true rfl) (fun b_9 M_10 => ?_)
        refine mm_if_eq_b 64 dX0_chooseLarger_55 rfl ?_ ?_
        · refine mm_wk [0, 1] rfl ?_
          exact hj64 v1 M_10
        · refine mm_aload_n 0 dX0_chooseLarger_58 rfl ?_
          refine mm_iload_n 1 dX0_chooseLarger_59 rfl ?_
          refine mm_iload_n 2 dX0_chooseLarger_60 rfl ?_
          refine mm_callVv (as := [.int v1, .int r_7]) (st := []) (c_Chooser_tryLarger E v1 r_7 M_10) dX0_chooseLarger_61 mz_X0_tryLarger lk_RX0_69 im_X0_tryLarger se_X0_tryLarger lo_71 rfl rfl rfl ⟨Nat.le_of_ble_eq_true rfl, Nat.le_of_ble_eq_true rfl⟩ (Nat.le_of_ble_eq_true rfl) (fun u_11 M_12 => ?_)
          refine mm_wk [0, 1] rfl ?_
          exact hj64 v1 M_12
def lp_Chooser_chooseLarger_83 (k105 : mm_M → Option (Unit × mm_M)) : Nat → Int32 → mm_M → Option (Unit × mm_M)
  | 0, _, _ => none
  | n + 1, v1, M => if 3 ≤ v1 then k105 M else mm_bd (f_Chooser_moreOf v1 M) fun r_16 M_17 => if mm_in v1 (mm_al 72) = true then mm_let (mm_setA M_17 72 (v1.toNatClampNeg) r_16) fun M_18 => mm_let (v1 + 1) fun v1_19 => lp_Chooser_chooseLarger_83 k105 n v1_19 M_18 else none
set_option maxHeartbeats 4000000 in
theorem lp_Chooser_chooseLarger_83_ok (E : mm_E) {k105 : mm_M → Option (Unit × mm_M)} (hk105 : ∀ (M : mm_M), mm_G (fun _ : Unit => none) E Y_X0_chooseLarger 6 105 [] [] M (k105 M)) : ∀ (n : Nat) (v1 : Int32) (M : mm_M), mm_G (fun _ : Unit => none) E Y_X0_chooseLarger 6 83 [(0, .ref 71), (1, .int v1)] [] M (lp_Chooser_chooseLarger_83 k105 n v1 M) := by
  intro n
  induction n with
  | zero => intro v1 M r M2 he; cases he
  | succ n ih =>
    intro v1 M
    rw [lp_Chooser_chooseLarger_83]
    refine mm_iload_n 1 dX0_chooseLarger_83 rfl ?_
    refine mm_iconst (v := 3) dX0_chooseLarger_84 rfl ?_
    refine mm_icmp_ge 105 dX0_chooseLarger_85 rfl ?_ ?_
    · refine mm_wk [] rfl ?_
      exact hk105  M
    · refine mm_aload_n 0 dX0_chooseLarger_88 rfl ?_
      refine mm_getR 72 dX0_chooseLarger_89 fl_RX0_9 lo_71 rfl ?_
      refine mm_iload_n 1 dX0_chooseLarger_92 rfl ?_
      refine mm_aload_n 0 dX0_chooseLarger_93 rfl ?_
      refine mm_iload_n 1 dX0_chooseLarger_94 rfl ?_
      refine mm_callVi (as := [.int v1]) (st := [.int v1, .ref 72]) (c_Chooser_moreOf E v1 M) dX0_chooseLarger_95 mz_X0_moreOf lk_RX0_73 im_X0_moreOf se_X0_moreOf lo_71 rfl rfl rfl ⟨Nat.le_of_ble_eq_true rfl, Nat.le_of_ble_eq_true rfl⟩ (Nat.le_of_ble_eq_true rfl) (fun r_16 M_17 => ?_)
      refine mm_iastore dX0_chooseLarger_98 ?_
      refine mm_nm_M (fun M_18 => ?_)
      refine mm_iincN 1 [1, 0] (v := v1 + 1) (lv2 := fun v1_19 => [(0, .ref 71), (1, .int v1_19)]) dX0_chooseLarger_99 rfl rfl (by decide) (fun _ => rfl) (fun v1_19 => ?_)
      refine mm_goto 83 dX0_chooseLarger_102 rfl ?_
      exact ih v1_19 M_18
def f_Chooser_chooseLarger (M : mm_M) : Option (Unit × mm_M) := mm_let (mm_setI M 71 3 0) fun M_1 => mm_let (mm_setI M_1 71 4 0) fun M_2 => lp_Chooser_chooseLarger_12 (fun (M_13 : mm_M) => mm_bd (f_Load_turnTo (M_13.1 71 4) M_13) fun u_14 M_15 => lp_Chooser_chooseLarger_83 (fun (M_20 : mm_M) => some ((), M_20)) mm_fu 0 M_15) mm_fu 1 M_2
set_option maxHeartbeats 4000000 in
theorem c_Chooser_chooseLarger (E : mm_E) (M : mm_M) : ∀ (r : Unit) (M2 : mm_M), f_Chooser_chooseLarger M = some (r, M2) → mm_P E Y_X0_chooseLarger 6 [.ref 71] M none M2 := by
  refine mm_entry (em := (fun _ : Unit => none)) (by decide +kernel) (Nat.le_of_ble_eq_true rfl) ?_
  show mm_G _ E _ _ 0 [(0, .ref 71)] [] M _
  unfold f_Chooser_chooseLarger
  refine mm_aload_n 0 dX0_chooseLarger_0 rfl ?_
  refine mm_iconst (v := 0) dX0_chooseLarger_1 rfl ?_
  refine mm_putI dX0_chooseLarger_2 fp_RX0_63 lo_71 rfl ?_
  refine mm_nm_M (fun M_1 => ?_)
  refine mm_aload_n 0 dX0_chooseLarger_5 rfl ?_
  refine mm_iconst (v := 0) dX0_chooseLarger_6 rfl ?_
  refine mm_putI dX0_chooseLarger_7 fp_RX0_66 lo_71 rfl ?_
  refine mm_nm_M (fun M_2 => ?_)
  refine mm_iconst (v := 1) dX0_chooseLarger_10 rfl ?_
  refine mm_istore_n [1, 0] (lv2 := [(0, .ref 71), (1, .int 1)]) dX0_chooseLarger_11 (by decide) rfl ?_
  refine lp_Chooser_chooseLarger_12_ok E ?_ mm_fu 1 M_2
  · intro M_13
    refine mm_aload_n 0 dX0_chooseLarger_70 rfl ?_
    refine mm_getR 56 dX0_chooseLarger_71 fl_RX0_23 lo_71 rfl ?_
    refine mm_aload_n 0 dX0_chooseLarger_74 rfl ?_
    refine mm_getI dX0_chooseLarger_75 fl_RX0_66 lo_71 rfl ?_
    refine mm_callVv (as := [.int (M_13.1 71 4)]) (st := []) (c_Load_turnTo E (M_13.1 71 4) M_13) dX0_chooseLarger_78 mz_X5_turnTo lk_RX0_50 im_X5_turnTo se_X5_turnTo lo_56 rfl rfl rfl ⟨Nat.le_of_ble_eq_true rfl, Nat.le_of_ble_eq_true rfl⟩ (Nat.le_of_ble_eq_true rfl) (fun u_14 M_15 => ?_)
    refine mm_iconst (v := 0) dX0_chooseLarger_81 rfl ?_
    refine mm_istore_n [1, 0] (lv2 := [(0, .ref 71), (1, .int 0)]) dX0_chooseLarger_82 (by decide) rfl ?_
    refine lp_Chooser_chooseLarger_83_ok E ?_ mm_fu 0 M_15
    · intro M_20
      exact mm_vret dX0_chooseLarger_105 rfl
def f_H_larger (v1 : Int32) (M : mm_M) : Option (Int32 × mm_M) := mm_bd (f_H_isBelow v1 5 M) fun b_1 M_2 => if b_1 = true then mm_bd (f_Load_begin M_2) fun u_3 M_4 => mm_bd (f_Chooser_chooseLarger M_4) fun u_5 M_6 => if v1 = 0 then some (M_6.1 71 3, M_6) else if v1 = 1 then some (M_6.1 71 4, M_6) else if mm_in (v1 - 2) (mm_al 72) = true then some (M_6.2.1 72 (v1 - 2).toNatClampNeg, M_6) else none else some ((-1), M_2)
set_option maxHeartbeats 4000000 in
theorem c_H_larger (E : mm_E) (v1 : Int32) (M : mm_M) : ∀ (r : Int32) (M2 : mm_M), f_H_larger v1 M = some (r, M2) → mm_P E Y_X11_larger 7 [.ref 0, .int v1] M (some (.int r)) M2 := by
  refine mm_entry (em := (fun x : Int32 => some (.int x))) (by decide +kernel) (Nat.le_of_ble_eq_true rfl) ?_
  show mm_G _ E _ _ 0 [(0, .ref 0), (1, .int v1)] [] M _
  unfold f_H_larger
  refine mm_iload_n 1 dX11_larger_0 rfl ?_
  refine mm_iconst (v := 5) dX11_larger_1 rfl ?_
  refine mm_callSz (as := [.int v1, .int 5]) (st := []) (c_H_isBelow E v1 5 M) dX11_larger_2 mz_X11_isBelow lk_RX11_108 sm_X11_isBelow rfl ⟨Nat.le_of_ble_eq_true rfl, Nat.le_of_ble_eq_true rfl⟩ (Nat.le_of_ble_eq_true rfl) (fun b_1 M_2 => ?_)
  refine mm_if_ne_b 10 dX11_larger_5 rfl ?_ ?_
  · refine mm_aload_n 0 dX11_larger_10 rfl ?_
    refine mm_getR 56 dX11_larger_11 fl_RX11_71 lo_0 rfl ?_
    refine mm_callVv (as := []) (st := []) (c_Load_begin E M_2) dX11_larger_14 mz_X5_begin lk_RX11_177 im_X5_begin se_X5_begin lo_56 rfl rfl rfl ⟨Nat.le_of_ble_eq_true rfl, Nat.le_of_ble_eq_true rfl⟩ (Nat.le_of_ble_eq_true rfl) (fun u_3 M_4 => ?_)
    refine mm_aload_n 0 dX11_larger_17 rfl ?_
    refine mm_getR 71 dX11_larger_18 fl_RX11_80 lo_0 rfl ?_
    refine mm_callVv (as := []) (st := []) (c_Chooser_chooseLarger E M_4) dX11_larger_21 mz_X0_chooseLarger lk_RX11_258 im_X0_chooseLarger se_X0_chooseLarger lo_71 rfl rfl rfl ⟨Nat.le_of_ble_eq_true rfl, Nat.le_of_ble_eq_true rfl⟩ (Nat.le_of_ble_eq_true rfl) (fun u_5 M_6 => ?_)
    refine mm_iload_n 1 dX11_larger_24 rfl ?_
    refine mm_if_ne 36 dX11_larger_25 rfl ?_ ?_
    · refine mm_iload_n 1 dX11_larger_36 rfl ?_
      refine mm_iconst (v := 1) dX11_larger_37 rfl ?_
      refine mm_icmp_ne 51 dX11_larger_38 rfl ?_ ?_
      · refine mm_aload_n 0 dX11_larger_51 rfl ?_
        refine mm_getR 71 dX11_larger_52 fl_RX11_80 lo_0 rfl ?_
        refine mm_getR 72 dX11_larger_55 fl_RX11_267 lo_71 rfl ?_
        refine mm_iload_n 1 dX11_larger_58 rfl ?_
        refine mm_iconst (v := 2) dX11_larger_59 rfl ?_
        refine mm_isub dX11_larger_60 ?_
        refine mm_iaload dX11_larger_61 ?_
        exact mm_iret dX11_larger_62 rfl
      · refine mm_aload_n 0 dX11_larger_41 rfl ?_
        refine mm_getR 71 dX11_larger_42 fl_RX11_80 lo_0 rfl ?_
        refine mm_getI dX11_larger_45 fl_RX11_264 lo_71 rfl ?_
        refine mm_goto 62 dX11_larger_48 rfl ?_
        exact mm_iret dX11_larger_62 rfl
    · refine mm_aload_n 0 dX11_larger_28 rfl ?_
      refine mm_getR 71 dX11_larger_29 fl_RX11_80 lo_0 rfl ?_
      refine mm_getI dX11_larger_32 fl_RX11_261 lo_71 rfl ?_
      exact mm_iret dX11_larger_35 rfl
  · refine mm_iconst (v := (-1)) dX11_larger_8 rfl ?_
    exact mm_iret dX11_larger_9 rfl
def lp_Chooser_factorial_4 (v0 : Int32) (k20 : Int64 → mm_M → Option (Int64 × mm_M)) : Nat → Int64 → Int32 → mm_M → Option (Int64 × mm_M)
  | 0, _, _, _ => none
  | n + 1, v1, v3, M => if v0 < v3 then k20 v1 M else mm_let (v1 * (v3.toInt64)) fun v1_2 => mm_let (v3 + 1) fun v3_3 => lp_Chooser_factorial_4 v0 k20 n v1_2 v3_3 M
set_option maxHeartbeats 4000000 in
theorem lp_Chooser_factorial_4_ok (E : mm_E) (v0 : Int32) {k20 : Int64 → mm_M → Option (Int64 × mm_M)} (hk20 : ∀ (v1 : Int64) (M : mm_M), mm_G (fun x : Int64 => some (.long x)) E Y_X0_factorial 1 20 [(1, .long v1)] [] M (k20 v1 M)) : ∀ (n : Nat) (v1 : Int64) (v3 : Int32) (M : mm_M), mm_G (fun x : Int64 => some (.long x)) E Y_X0_factorial 1 4 [(0, .int v0), (1, .long v1), (3, .int v3)] [] M (lp_Chooser_factorial_4 v0 k20 n v1 v3 M) := by
  intro n
  induction n with
  | zero => intro v1 v3 M r M2 he; cases he
  | succ n ih =>
    intro v1 v3 M
    rw [lp_Chooser_factorial_4]
    refine mm_iload_n 2 dX0_factorial_4 rfl ?_
    refine mm_iload_n 0 dX0_factorial_5 rfl ?_
    refine mm_icmp_gt 20 dX0_factorial_6 rfl ?_ ?_
    · refine mm_wk [1] rfl ?_
      exact hk20 v1 M
    · refine mm_lload_n 1 dX0_factorial_9 rfl ?_
      refine mm_iload_n 2 dX0_factorial_10 rfl ?_
      refine mm_i2l dX0_factorial_11 ?_
      refine mm_lmul dX0_factorial_12 ?_
      refine mm_nm_long (fun v1_2 => ?_)
      refine mm_lstore_n [1, 0, 2] (lv2 := [(0, .int v0), (1, .long v1_2), (3, .int v3)]) dX0_factorial_13 (by decide) rfl ?_
      refine mm_iincN 2 [1, 2, 0] (v := v3 + 1) (lv2 := fun v3_3 => [(0, .int v0), (1, .long v1_2), (3, .int v3_3)]) dX0_factorial_14 rfl rfl (by decide) (fun _ => rfl) (fun v3_3 => ?_)
      refine mm_goto 4 dX0_factorial_17 rfl ?_
      exact ih v1_2 v3_3 M
def f_Chooser_factorial (v0 : Int32) (M : mm_M) : Option (Int64 × mm_M) := mm_let ((1 : Int64)) fun v1_1 => lp_Chooser_factorial_4 v0 (fun (v1 : Int64) (M_4 : mm_M) => some (v1, M_4)) mm_fu v1_1 2 M
set_option maxHeartbeats 4000000 in
theorem c_Chooser_factorial (E : mm_E) (v0 : Int32) (M : mm_M) : ∀ (r : Int64) (M2 : mm_M), f_Chooser_factorial v0 M = some (r, M2) → mm_P E Y_X0_factorial 1 [.int v0] M (some (.long r)) M2 := by
  refine mm_entry (em := (fun x : Int64 => some (.long x))) (by decide +kernel) (Nat.le_of_ble_eq_true rfl) ?_
  show mm_G _ E _ _ 0 [(0, .int v0)] [] M _
  unfold f_Chooser_factorial
  refine mm_lconst (v := 1) dX0_factorial_0 rfl ?_
  refine mm_nm_long (fun v1_1 => ?_)
  refine mm_lstore_n [1, 0] (lv2 := [(0, .int v0), (1, .long v1_1)]) dX0_factorial_1 (by decide) rfl ?_
  refine mm_iconst (v := 2) dX0_factorial_2 rfl ?_
  refine mm_istore_n [1, 2, 0] (lv2 := [(0, .int v0), (1, .long v1_1), (3, .int 2)]) dX0_factorial_3 (by decide) rfl ?_
  refine lp_Chooser_factorial_4_ok E v0 ?_ mm_fu v1_1 2 M
  · intro v1 M_4
    refine mm_lload_n 0 dX0_factorial_20 rfl ?_
    exact mm_lret dX0_factorial_21 rfl
def lp_Chooser_reduce_9 (v1 : Int64) (v3 : Int64) (k44 : Int64 → mm_M → Option (Unit × mm_M)) : Nat → Int64 → Int64 → Int32 → mm_M → Option (Unit × mm_M)
  | 0, _, _, _, _ => none
  | n + 1, v5, v7, v9, M => if 100 ≤ v9 then k44 v5 M else if lg_cmp v7 ((0 : Int64)) = 0 then k44 v5 M else if v7 = 0 then none else mm_let (mm_remL v5 v7) fun v10_1 => mm_let (v9 + 1) fun v9_2 => lp_Chooser_reduce_9 v1 v3 k44 n v7 v10_1 v9_2 M
set_option maxHeartbeats 4000000 in
theorem lp_Chooser_reduce_9_ok (E : mm_E) (v1 : Int64) (v3 : Int64) {k44 : Int64 → mm_M → Option (Unit × mm_M)} (hk44 : ∀ (v5 : Int64) (M : mm_M), mm_G (fun _ : Unit => none) E Y_X0_reduce 1 44 [(0, .ref 71), (1, .long v1), (3, .long v3), (5, .long v5)] [] M (k44 v5 M)) : ∀ (n : Nat) (v5 : Int64) (v7 : Int64) (v9 : Int32) (M : mm_M), mm_G (fun _ : Unit => none) E Y_X0_reduce 1 9 [(0, .ref 71), (1, .long v1), (3, .long v3), (5, .long v5), (7, .long v7), (9, .int v9)] [] M (lp_Chooser_reduce_9 v1 v3 k44 n v5 v7 v9 M) := by
  intro n
  induction n with
  | zero => intro v5 v7 v9 M r M2 he; cases he
  | succ n ih =>
    intro v5 v7 v9 M
    rw [lp_Chooser_reduce_9]
    refine mm_iload 5 dX0_reduce_9 rfl ?_
    refine mm_bipush (v := 100) dX0_reduce_11 rfl ?_
    refine mm_icmp_ge 44 dX0_reduce_13 rfl ?_ ?_
    · refine mm_wk [0, 1, 2, 3] rfl ?_
      exact hk44 v5 M
    · refine mm_lload 4 dX0_reduce_16 rfl ?_
      refine mm_lconst (v := 0) dX0_reduce_18 rfl ?_
      refine mm_lcmp dX0_reduce_19 ?_
      refine mm_if_eq 44 dX0_reduce_20 rfl ?_ ?_
      · refine mm_wk [0, 1, 2, 3] rfl ?_
        exact hk44 v5 M
      · refine mm_lload 3 dX0_reduce_23 rfl ?_
        refine mm_lload 4 dX0_reduce_25 rfl ?_
        refine mm_lrem dX0_reduce_27 ?_
        refine mm_nm_long (fun v10_1 => ?_)
        refine mm_lstore [1, 2, 3, 4, 5, 6, 0] (lv2 := [(0, .ref 71), (1, .long v1), (3, .long v3), (5, .long v5), (7, .long v7), (9, .int v9), (10, .long v10_1)]) dX0_reduce_28 (by decide) rfl ?_
        refine mm_lload 4 dX0_reduce_30 rfl ?_
        refine mm_lstore [1, 2, 3, 0, 4, 5, 6] (lv2 := [(0, .ref 71), (1, .long v1), (3, .long v3), (5, .long v7), (7, .long v7), (9, .int v9), (10, .long v10_1)]) dX0_reduce_32 (by decide) rfl ?_
        refine mm_lload 6 dX0_reduce_34 rfl ?_
        refine mm_lstore [1, 2, 3, 4, 0, 5, 6] (lv2 := [(0, .ref 71), (1, .long v1), (3, .long v3), (5, .long v7), (7, .long v10_1), (9, .int v9), (10, .long v10_1)]) dX0_reduce_36 (by decide) rfl ?_
        refine mm_iincN 5 [1, 2, 3, 4, 5, 0, 6] (v := v9 + 1) (lv2 := fun v9_2 => [(0, .ref 71), (1, .long v1), (3, .long v3), (5, .long v7), (7, .long v10_1), (9, .int v9_2), (10, .long v10_1)]) dX0_reduce_38 rfl rfl (by decide) (fun _ => rfl) (fun v9_2 => ?_)
        refine mm_goto 9 dX0_reduce_41 rfl ?_
        refine mm_wk [0, 1, 2, 3, 4, 5] rfl ?_
        exact ih v7 v10_1 v9_2 M
def f_Chooser_reduce (v1 : Int64) (v3 : Int64) (M : mm_M) : Option (Unit × mm_M) := lp_Chooser_reduce_9 v1 v3 (fun (v5 : Int64) (M_3 : mm_M) => mm_let (mm_setJ M_3 71 6 v1) fun M_4 => mm_let (mm_setJ M_4 71 7 v3) fun M_5 => if lg_cmp v5 ((1 : Int64)) ≤ 0 then some ((), M_5) else if v5 = 0 then none else mm_let (mm_setJ M_5 71 6 (v1 / v5)) fun M_6 => if v5 = 0 then none else mm_let (mm_setJ M_6 71 7 (v3 / v5)) fun M_7 => some ((), M_7)) mm_fu v3 v1 0 M
set_option maxHeartbeats 4000000 in
theorem c_Chooser_reduce (E : mm_E) (v1 : Int64) (v3 : Int64) (M : mm_M) : ∀ (r : Unit) (M2 : mm_M), f_Chooser_reduce v1 v3 M = some (r, M2) → mm_P E Y_X0_reduce 1 [.ref 71, .long v1, .long v3] M none M2 := by
  refine mm_entry (em := (fun _ : Unit => none)) (by decide +kernel) (Nat.le_of_ble_eq_true rfl) ?_
  show mm_G _ E _ _ 0 [(0, .ref 71), (1, .long v1), (3, .long v3)] [] M _
  unfold f_Chooser_reduce
  refine mm_lload_n 2 dX0_reduce_0 rfl ?_
  refine mm_lstore [1, 2, 3, 0] (lv2 := [(0, .ref 71), (1, .long v1), (3, .long v3), (5, .long v3)]) dX0_reduce_1 (by decide) rfl ?_
  refine mm_lload_n 1 dX0_reduce_3 rfl ?_
  refine mm_lstore [1, 2, 3, 4, 0] (lv2 := [(0, .ref 71), (1, .long v1), (3, .long v3), (5, .long v3), (7, .long v1)]) dX0_reduce_4 (by decide) rfl ?_
  refine mm_iconst (v := 0) dX0_reduce_6 rfl ?_
  refine mm_istore [1, 2, 3, 4, 5, 0] (lv2 := [(0, .ref 71), (1, .long v1), (3, .long v3), (5, .long v3), (7, .long v1), (9, .int 0)]) dX0_reduce_7 (by decide) rfl ?_
  refine lp_Chooser_reduce_9_ok E v1 v3 ?_ mm_fu v3 v1 0 M
  · intro v5 M_3
    refine mm_aload_n 0 dX0_reduce_44 rfl ?_
    refine mm_lload_n 1 dX0_reduce_45 rfl ?_
    refine mm_putJ dX0_reduce_46 fp_RX0_110 lo_71 rfl ?_
    refine mm_nm_M (fun M_4 => ?_)
    refine mm_aload_n 0 dX0_reduce_49 rfl ?_
    refine mm_lload_n 2 dX0_reduce_50 rfl ?_
    refine mm_putJ dX0_reduce_51 fp_RX0_114 lo_71 rfl ?_
    refine mm_nm_M (fun M_5 => ?_)
    refine mm_lload 3 dX0_reduce_54 rfl ?_
    refine mm_lconst (v := 1) dX0_reduce_56 rfl ?_
    refine mm_lcmp dX0_reduce_57 ?_
    refine mm_if_le 77 dX0_reduce_58 rfl ?_ ?_
    · exact mm_vret dX0_reduce_77 rfl
    · refine mm_aload_n 0 dX0_reduce_61 rfl ?_
      refine mm_lload_n 1 dX0_reduce_62 rfl ?_
      refine mm_lload 3 dX0_reduce_63 rfl ?_
      refine mm_ldiv dX0_reduce_65 ?_
      refine mm_putJ dX0_reduce_66 fp_RX0_110 lo_71 rfl ?_
      refine mm_nm_M (fun M_6 => ?_)
      refine mm_aload_n 0 dX0_reduce_69 rfl ?_
      refine mm_lload_n 2 dX0_reduce_70 rfl ?_
      refine mm_lload 3 dX0_reduce_71 rfl ?_
      refine mm_ldiv dX0_reduce_73 ?_
      refine mm_putJ dX0_reduce_74 fp_RX0_114 lo_71 rfl ?_
      refine mm_nm_M (fun M_7 => ?_)
      exact mm_vret dX0_reduce_77 rfl
def lp_Chooser_plantCostOf_13 (k50 : Int64 → mm_M → Option (Int64 × mm_M)) : Nat → Int64 → Int32 → mm_M → Option (Int64 × mm_M)
  | 0, _, _, _ => none
  | n + 1, v2, v4, M => if 3 ≤ v4 then k50 v2 M else mm_bd (f_Load_peakOf v4 M) fun r_4 M_5 => if mm_in v4 (mm_al 25) = true then mm_let (v2 + ((r_4.toInt64) * ((M_5.2.1 25 v4.toNatClampNeg).toInt64))) fun v2_6 => mm_let (v4 + 1) fun v4_7 => lp_Chooser_plantCostOf_13 k50 n v2_6 v4_7 M_5 else none
set_option maxHeartbeats 4000000 in
theorem lp_Chooser_plantCostOf_13_ok (E : mm_E) {k50 : Int64 → mm_M → Option (Int64 × mm_M)} (hk50 : ∀ (v2 : Int64) (M : mm_M), mm_G (fun x : Int64 => some (.long x)) E Y_X0_plantCostOf 4 50 [(2, .long v2)] [] M (k50 v2 M)) : ∀ (n : Nat) (v2 : Int64) (v4 : Int32) (M : mm_M), mm_G (fun x : Int64 => some (.long x)) E Y_X0_plantCostOf 4 13 [(0, .ref 71), (2, .long v2), (4, .int v4)] [] M (lp_Chooser_plantCostOf_13 k50 n v2 v4 M) := by
  intro n
  induction n with
  | zero => intro v2 v4 M r M2 he; cases he
  | succ n ih =>
    intro v2 v4 M
    rw [lp_Chooser_plantCostOf_13]
    refine mm_iload 2 dX0_plantCostOf_13 rfl ?_
    refine mm_iconst (v := 3) dX0_plantCostOf_15 rfl ?_
    refine mm_icmp_ge 50 dX0_plantCostOf_16 rfl ?_ ?_
    · refine mm_wk [1] rfl ?_
      exact hk50 v2 M
    · refine mm_lload_n 1 dX0_plantCostOf_19 rfl ?_
      refine mm_aload_n 0 dX0_plantCostOf_20 rfl ?_
      refine mm_getR 56 dX0_plantCostOf_21 fl_RX0_23 lo_71 rfl ?_
      refine mm_iload 2 dX0_plantCostOf_24 rfl ?_
      refine mm_callVi (as := [.int v4]) (st := [.long v2]) (c_Load_peakOf E v4 M) dX0_plantCostOf_26 mz_X5_peakOf lk_RX0_84 im_X5_peakOf se_X5_peakOf lo_56 rfl rfl rfl ⟨Nat.le_of_ble_eq_true rfl, Nat.le_of_ble_eq_true rfl⟩ (Nat.le_of_ble_eq_true rfl) (fun r_4 M_5 => ?_)
      refine mm_i2l dX0_plantCostOf_29 ?_
      refine mm_aload_n 0 dX0_plantCostOf_30 rfl ?_
      refine mm_getR 22 dX0_plantCostOf_31 fl_RX0_15 lo_71 rfl ?_
      refine mm_getR 25 dX0_plantCostOf_34 fl_RX0_76 lo_22 rfl ?_
      refine mm_iload 2 dX0_plantCostOf_37 rfl ?_
      refine mm_iaload dX0_plantCostOf_39 ?_
      refine mm_i2l dX0_plantCostOf_40 ?_
      refine mm_lmul dX0_plantCostOf_41 ?_
      refine mm_ladd dX0_plantCostOf_42 ?_
      refine mm_nm_long (fun v2_6 => ?_)
      refine mm_lstore_n [1, 0, 2] (lv2 := [(0, .ref 71), (2, .long v2_6), (4, .int v4)]) dX0_plantCostOf_43 (by decide) rfl ?_
      refine mm_iincN 2 [1, 2, 0] (v := v4 + 1) (lv2 := fun v4_7 => [(0, .ref 71), (2, .long v2_6), (4, .int v4_7)]) dX0_plantCostOf_44 rfl rfl (by decide) (fun _ => rfl) (fun v4_7 => ?_)
      refine mm_goto 13 dX0_plantCostOf_47 rfl ?_
      exact ih v2_6 v4_7 M_5
def f_Chooser_plantCostOf (v1 : Int32) (M : mm_M) : Option (Int64 × mm_M) := mm_bd (f_Load_turnTo v1 M) fun u_1 M_2 => mm_let ((0 : Int64)) fun v2_3 => lp_Chooser_plantCostOf_13 (fun (v2 : Int64) (M_8 : mm_M) => some (v2, M_8)) mm_fu v2_3 0 M_2
set_option maxHeartbeats 4000000 in
theorem c_Chooser_plantCostOf (E : mm_E) (v1 : Int32) (M : mm_M) : ∀ (r : Int64) (M2 : mm_M), f_Chooser_plantCostOf v1 M = some (r, M2) → mm_P E Y_X0_plantCostOf 4 [.ref 71, .int v1] M (some (.long r)) M2 := by
  refine mm_entry (em := (fun x : Int64 => some (.long x))) (by decide +kernel) (Nat.le_of_ble_eq_true rfl) ?_
  show mm_G _ E _ _ 0 [(0, .ref 71), (1, .int v1)] [] M _
  unfold f_Chooser_plantCostOf
  refine mm_aload_n 0 dX0_plantCostOf_0 rfl ?_
  refine mm_getR 56 dX0_plantCostOf_1 fl_RX0_23 lo_71 rfl ?_
  refine mm_iload_n 1 dX0_plantCostOf_4 rfl ?_
  refine mm_callVv (as := [.int v1]) (st := []) (c_Load_turnTo E v1 M) dX0_plantCostOf_5 mz_X5_turnTo lk_RX0_50 im_X5_turnTo se_X5_turnTo lo_56 rfl rfl rfl ⟨Nat.le_of_ble_eq_true rfl, Nat.le_of_ble_eq_true rfl⟩ (Nat.le_of_ble_eq_true rfl) (fun u_1 M_2 => ?_)
  refine mm_lconst (v := 0) dX0_plantCostOf_8 rfl ?_
  refine mm_nm_long (fun v2_3 => ?_)
  refine mm_lstore_n [1, 2, 0] (lv2 := [(0, .ref 71), (1, .int v1), (2, .long v2_3)]) dX0_plantCostOf_9 (by decide) rfl ?_
  refine mm_iconst (v := 0) dX0_plantCostOf_10 rfl ?_
  refine mm_istore [1, 2, 3, 0] (lv2 := [(0, .ref 71), (1, .int v1), (2, .long v2_3), (4, .int 0)]) dX0_plantCostOf_11 (by decide) rfl ?_
  refine mm_wk [0, 2, 3] rfl ?_
  refine lp_Chooser_plantCostOf_13_ok E ?_ mm_fu v2_3 0 M_2
  · intro v2 M_8
    refine mm_lload_n 0 dX0_plantCostOf_50 rfl ?_
    exact mm_lret dX0_plantCostOf_51 rfl
def lp_Chooser_shareOut_11 (v1 : Int32) (v2 : Int32) (v3 : Int32) (k97 : Int64 → mm_M → Option (Unit × mm_M)) : Nat → Int64 → Int32 → mm_M → Option (Unit × mm_M)
  | 0, _, _, _ => none
  | n + 1, v4, v6, M => if 1024 ≤ v6 then k97 v4 M else mm_bd (f_H_isPart v6 v1 M) fun b_4 M_5 => mm_jn (fun (v4 : Int64) (v6 : Int32) (M_6 : mm_M) => mm_let (v6 + 1) fun v6_7 => lp_Chooser_shareOut_11 v1 v2 v3 k97 n v4 v6_7 M_6) fun j91 => if b_4 = true then mm_bd (f_Integer_bitCount (v6 &&& ((1 <<< (v2 &&& 31)) ^^^ (-1))) M_5) fun r_8 M_9 => mm_bd (f_Chooser_factorial r_8 M_9) fun l_10 M_11 => mm_bd (f_Chooser_factorial ((v3 - 1) - r_8) M_11) fun l_12 M_13 => mm_let (l_10 * l_12) fun v8_14 => mm_bd (f_Chooser_plantCostOf v6 M_13) fun l_15 M_16 => mm_let (v8_14 * l_15) fun v10_17 => mm_bd (f_H_isIn v6 v2 M_16) fun b_18 M_19 => mm_jn (fun (v6 : Int32) (s0 : Int64) (s1 : Int64) (M_20 : mm_M) => mm_let (s0 + s1) fun v4_21 => j91 v4_21 v6 M_20) fun j88 => if b_18 = true then j88 v6 v4 v10_17 M_19 else j88 v6 v4 (-v10_17) M_19 else j91 v4 v6 M_5
set_option maxHeartbeats 4000000 in
theorem lp_Chooser_shareOut_11_ok (E : mm_E) (v1 : Int32) (v2 : Int32) (v3 : Int32) {k97 : Int64 → mm_M → Option (Unit × mm_M)} (hk97 : ∀ (v4 : Int64) (M : mm_M), mm_G (fun _ : Unit => none) E Y_X0_shareOut 5 97 [(0, .ref 71), (3, .int v3), (4, .long v4)] [] M (k97 v4 M)) : ∀ (n : Nat) (v4 : Int64) (v6 : Int32) (M : mm_M), mm_G (fun _ : Unit => none) E Y_X0_shareOut 5 11 [(0, .ref 71), (1, .int v1), (2, .int v2), (3, .int v3), (4, .long v4), (6, .int v6)] [] M (lp_Chooser_shareOut_11 v1 v2 v3 k97 n v4 v6 M) := by
  intro n
  induction n with
  | zero => intro v4 v6 M r M2 he; cases he
  | succ n ih =>
    intro v4 v6 M
    rw [lp_Chooser_shareOut_11]
    refine mm_iload 5 dX0_shareOut_11 rfl ?_
    refine mm_sipush (v := 1024) dX0_shareOut_13 rfl ?_
    refine mm_icmp_ge 97 dX0_shareOut_16 rfl ?_ ?_
    · refine mm_wk [0, 3, 4] rfl ?_
      exact hk97 v4 M
    · refine mm_iload 5 dX0_shareOut_19 rfl ?_
      refine mm_iload_n 1 dX0_shareOut_21 rfl ?_
      refine mm_callSNz (as := [.int v6, .int v1]) (st := []) (c_H_isPart E v6 v1 M) dX0_shareOut_22 mz_X11_isPart lk_RX0_27 sm_X11_isPart rfl ⟨Nat.le_of_ble_eq_true rfl, Nat.le_of_ble_eq_true rfl⟩ (Nat.le_of_ble_eq_true rfl) (fun b_4 M_5 => ?_)
      refine mm_jnP (P := fun j => ∀ (v4 : Int64) (v6 : Int32) (M : mm_M), mm_G (fun _ : Unit => none) E Y_X0_shareOut 5 91 [(0, .ref 71), (1, .int v1), (2, .int v2), (3, .int v3), (4, .long v4), (6, .int v6)] [] M (j v4 v6 M)) ?_ (fun j91 hj91 => ?_)
      · intro v4 v6 M_6
        refine mm_iincN 5 [1, 2, 3, 4, 5, 0] (v := v6 + 1) (lv2 := fun v6_7 => [(0, .ref 71), (1, .int v1), (2, .int v2), (3, .int v3), (4, .long v4), (6, .int v6_7)]) dX0_shareOut_91 rfl rfl (by decide) (fun _ => rfl) (fun v6_7 => ?_)
        refine mm_goto 11 dX0_shareOut_94 rfl ?_
        exact ih v4 v6_7 M_6
      refine mm_if_eq_b 91 dX0_shareOut_25 rfl ?_ ?_
      · exact hj91 v4 v6 M_5
      · refine mm_iload 5 dX0_shareOut_28 rfl ?_
        refine mm_iconst (v := 1) dX0_shareOut_30 rfl ?_
        refine mm_iload_n 2 dX0_shareOut_31 rfl ?_
        refine mm_ishl dX0_shareOut_32 ?_
        refine mm_iconst (v := (-1)) dX0_shareOut_33 rfl ?_
        refine mm_ixor dX0_shareOut_34 ?_
        refine mm_iand dX0_shareOut_35 ?_
        refine mm_callSi (as := [.int (v6 &&& ((1 <<< (v2 &&& 31)) ^^^ (-1)))]) (st := []) (c_Integer_bitCount E (v6 &&& ((1 <<< (v2 &&& 31)) ^^^ (-1))) M_5) dX0_shareOut_36 mz_J6_bitCount_0f7a4 lk_RX0_45 sm_J6_bitCount_0f7a4 rfl ⟨Nat.le_of_ble_eq_true rfl, Nat.le_of_ble_eq_true rfl⟩ (Nat.le_of_ble_eq_true rfl) (fun r_8 M_9 => ?_)
        refine mm_istore [1, 2, 3, 4, 5, 6, 0] (lv2 := [(0, .ref 71), (1, .int v1), (2, .int v2), (3, .int v3), (4, .long v4), (6, .int v6), (7, .int r_8)]) dX0_shareOut_39 (by decide) rfl ?_
        refine mm_iload 6 dX0_shareOut_41 rfl ?_
        refine mm_callSj (as := [.int r_8]) (st := []) (c_Chooser_factorial E r_8 M_9) dX0_shareOut_43 mz_X0_factorial lk_RX0_96 sm_X0_factorial rfl ⟨Nat.le_of_ble_eq_true rfl, Nat.le_of_ble_eq_true rfl⟩ (Nat.le_of_ble_eq_true rfl) (fun l_10 M_11 => ?_)
        refine mm_iload_n 3 dX0_shareOut_46 rfl ?_
        refine mm_iconst (v := 1) dX0_shareOut_47 rfl ?_
        refine mm_isub dX0_shareOut_48 ?_
        refine mm_iload 6 dX0_shareOut_49 rfl ?_
        refine mm_isub dX0_shareOut_51 ?_
        refine mm_callSj (as := [.int ((v3 - 1) - r_8)]) (st := [.long l_10]) (c_Chooser_factorial E ((v3 - 1) - r_8) M_11) dX0_shareOut_52 mz_X0_factorial lk_RX0_96 sm_X0_factorial rfl ⟨Nat.le_of_ble_eq_true rfl, Nat.le_of_ble_eq_true rfl⟩ (Nat.le_of_ble_eq_true rfl) (fun l_12 M_13 => ?_)
        refine mm_lmul dX0_shareOut_55 ?_
        refine mm_nm_long (fun v8_14 => ?_)
        refine mm_lstore [1, 2, 3, 4, 5, 6, 7, 0] (lv2 := [(0, .ref 71), (1, .int v1), (2, .int v2), (3, .int v3), (4, .long v4), (6, .int v6), (7, .int r_8), (8, .long v8_14)]) dX0_shareOut_56 (by decide) rfl ?_
        refine mm_lload 7 dX0_shareOut_58 rfl ?_
        refine mm_aload_n 0 dX0_shareOut_60 rfl ?_
        refine mm_iload 5 dX0_shareOut_61 rfl ?_
        refine mm_callVj (as := [.int v6]) (st := [.long v8_14]) (c_Chooser_plantCostOf E v6 M_13) dX0_shareOut_63 mz_X0_plantCostOf lk_RX0_100 im_X0_plantCostOf se_X0_plantCostOf lo_71 rfl rfl rfl ⟨Nat.le_of_ble_eq_true rfl, Nat.le_of_ble_eq_true rfl⟩ (Nat.le_of_ble_eq_true rfl) (fun l_15 M_16 => ?_)
        refine mm_lmul dX0_shareOut_66 ?_
        refine mm_nm_long (fun v10_17 => ?_)
        refine mm_lstore [1, 2, 3, 4, 5, 6, 7, 8, 0] (lv2 := [(0, .ref 71), (1, .int v1), (2, .int v2), (3, .int v3), (4, .long v4), (6, .int v6), (7, .int r_8), (8, .long v8_14), (10, .long v10_17)]) dX0_shareOut_67 (by decide) rfl ?_
        refine mm_lload 4 dX0_shareOut_69 rfl ?_
        refine mm_iload 5 dX0_shareOut_71 rfl ?_
        refine mm_iload_n 2 dX0_shareOut_73 rfl ?_
        refine mm_callSNz (as := [.int v6, .int v2]) (st := [.long v4]) (c_H_isIn E v6 v2 M_16) dX0_shareOut_74 mz_X11_isIn lk_RX0_103 sm_X11_isIn rfl ⟨Nat.le_of_ble_eq_true rfl, Nat.le_of_ble_eq_true rfl⟩ (Nat.le_of_ble_eq_true rfl) (fun b_18 M_19 => ?_)
        refine mm_jnP (P := fun j => ∀ (v6 : Int32) (s0 : Int64) (s1 : Int64) (M : mm_M), mm_G (fun _ : Unit => none) E Y_X0_shareOut 5 88 [(0, .ref 71), (1, .int v1), (2, .int v2), (3, .int v3), (6, .int v6)] [.long s1, .long s0] M (j v6 s0 s1 M)) ?_ (fun j88 hj88 => ?_)
        · intro v6 s0 s1 M_20
          refine mm_ladd dX0_shareOut_88 ?_
          refine mm_nm_long (fun v4_21 => ?_)
          refine mm_lstore [1, 2, 3, 4, 0, 5] (lv2 := [(0, .ref 71), (1, .int v1), (2, .int v2), (3, .int v3), (4, .long v4_21), (6, .int v6)]) dX0_shareOut_89 (by decide) rfl ?_
          exact hj91 v4_21 v6 M_20
        refine mm_if_eq_b 85 dX0_shareOut_77 rfl ?_ ?_
        · refine mm_lload 8 dX0_shareOut_85 rfl ?_
          refine mm_lneg dX0_shareOut_87 ?_
          refine mm_wk [0, 1, 2, 3, 5] rfl ?_
          exact hj88 v6 v4 (-v10_17) M_19
        · refine mm_lload 8 dX0_shareOut_80 rfl ?_
          refine mm_goto 88 dX0_shareOut_82 rfl ?_
          refine mm_wk [0, 1, 2, 3, 5] rfl ?_
          exact hj88 v6 v4 v10_17 M_19
def f_Chooser_shareOut (v1 : Int32) (v2 : Int32) (M : mm_M) : Option (Unit × mm_M) := mm_bd (f_Integer_bitCount v1 M) fun r_1 M_2 => mm_let ((0 : Int64)) fun v4_3 => lp_Chooser_shareOut_11 v1 v2 r_1 (fun (v4 : Int64) (M_22 : mm_M) => mm_bd (f_Chooser_factorial r_1 M_22) fun l_23 M_24 => mm_bd (f_Chooser_reduce v4 l_23 M_24) fun u_25 M_26 => some ((), M_26)) mm_fu v4_3 0 M_2
set_option maxHeartbeats 4000000 in
theorem c_Chooser_shareOut (E : mm_E) (v1 : Int32) (v2 : Int32) (M : mm_M) : ∀ (r : Unit) (M2 : mm_M), f_Chooser_shareOut v1 v2 M = some (r, M2) → mm_P E Y_X0_shareOut 5 [.ref 71, .int v1, .int v2] M none M2 := by
  refine mm_entry (em := (fun _ : Unit => none)) (by decide +kernel) (Nat.le_of_ble_eq_true rfl) ?_
  show mm_G _ E _ _ 0 [(0, .ref 71), (1, .int v1), (2, .int v2)] [] M _
  unfold f_Chooser_shareOut
  refine mm_iload_n 1 dX0_shareOut_0 rfl ?_
  refine mm_callSi (as := [.int v1]) (st := []) (c_Integer_bitCount E v1 M) dX0_shareOut_1 mz_J6_bitCount_0f7a4 lk_RX0_45 sm_J6_bitCount_0f7a4 rfl ⟨Nat.le_of_ble_eq_true rfl, Nat.le_of_ble_eq_true rfl⟩ (Nat.le_of_ble_eq_true rfl) (fun r_1 M_2 => ?_)
  refine mm_istore_n [1, 2, 3, 0] (lv2 := [(0, .ref 71), (1, .int v1), (2, .int v2), (3, .int r_1)]) dX0_shareOut_4 (by decide) rfl ?_
  refine mm_lconst (v := 0) dX0_shareOut_5 rfl ?_
  refine mm_nm_long (fun v4_3 => ?_)
  refine mm_lstore [1, 2, 3, 4, 0] (lv2 := [(0, .ref 71), (1, .int v1), (2, .int v2), (3, .int r_1), (4, .long v4_3)]) dX0_shareOut_6 (by decide) rfl ?_
  refine mm_iconst (v := 0) dX0_shareOut_8 rfl ?_
  refine mm_istore [1, 2, 3, 4, 5, 0] (lv2 := [(0, .ref 71), (1, .int v1), (2, .int v2), (3, .int r_1), (4, .long v4_3), (6, .int 0)]) dX0_shareOut_9 (by decide) rfl ?_
  refine lp_Chooser_shareOut_11_ok E v1 v2 r_1 ?_ mm_fu v4_3 0 M_2
  · intro v4 M_22
    refine mm_aload_n 0 dX0_shareOut_97 rfl ?_
    refine mm_lload 2 dX0_shareOut_98 rfl ?_
    refine mm_iload_n 1 dX0_shareOut_100 rfl ?_
    refine mm_callSj (as := [.int r_1]) (st := [.long v4, .ref 71]) (c_Chooser_factorial E r_1 M_22) dX0_shareOut_101 mz_X0_factorial lk_RX0_96 sm_X0_factorial rfl ⟨Nat.le_of_ble_eq_true rfl, Nat.le_of_ble_eq_true rfl⟩ (Nat.le_of_ble_eq_true rfl) (fun l_23 M_24 => ?_)
    refine mm_callVv (as := [.long v4, .long l_23]) (st := []) (c_Chooser_reduce E v4 l_23 M_24) dX0_shareOut_104 mz_X0_reduce lk_RX0_106 im_X0_reduce se_X0_reduce lo_71 rfl rfl rfl ⟨Nat.le_of_ble_eq_true rfl, Nat.le_of_ble_eq_true rfl⟩ (Nat.le_of_ble_eq_true rfl) (fun u_25 M_26 => ?_)
    exact mm_vret dX0_shareOut_107 rfl
def f_H_fair (v1 : Int32) (v2 : Int32) (v3 : Int32) (M : mm_M) : Option (Int64 × mm_M) := mm_bd (f_H_areStays v1 8 M) fun b_1 M_2 => if b_1 = true then mm_bd (f_H_isIn v1 v2 M_2) fun b_3 M_4 => if b_3 = true then mm_bd (f_H_isBelow v3 2 M_4) fun b_5 M_6 => if b_5 = true then mm_bd (f_Load_begin M_6) fun u_7 M_8 => mm_bd (f_Chooser_shareOut v1 v2 M_8) fun u_9 M_10 => if v3 = 0 then some (M_10.2.2 71 6, M_10) else some (M_10.2.2 71 7, M_10) else some ((-1 : Int64), M_6) else some ((-1 : Int64), M_4) else some ((-1 : Int64), M_2)
set_option maxHeartbeats 4000000 in
theorem c_H_fair (E : mm_E) (v1 : Int32) (v2 : Int32) (v3 : Int32) (M : mm_M) : ∀ (r : Int64) (M2 : mm_M), f_H_fair v1 v2 v3 M = some (r, M2) → mm_P E Y_X11_fair 6 [.ref 0, .int v1, .int v2, .int v3] M (some (.long r)) M2 := by
  refine mm_entry (em := (fun x : Int64 => some (.long x))) (by decide +kernel) (Nat.le_of_ble_eq_true rfl) ?_
  show mm_G _ E _ _ 0 [(0, .ref 0), (1, .int v1), (2, .int v2), (3, .int v3)] [] M _
  unfold f_H_fair
  refine mm_aload_n 0 dX11_fair_0 rfl ?_
  refine mm_iload_n 1 dX11_fair_1 rfl ?_
  refine mm_bipush (v := 8) dX11_fair_2 rfl ?_
  refine mm_callVz (as := [.int v1, .int 8]) (st := []) (c_H_areStays E v1 8 M) dX11_fair_4 mz_X11_areStays lk_RX11_203 im_X11_areStays se_X11_areStays lo_0 rfl rfl rfl ⟨Nat.le_of_ble_eq_true rfl, Nat.le_of_ble_eq_true rfl⟩ (Nat.le_of_ble_eq_true rfl) (fun b_1 M_2 => ?_)
  refine mm_if_eq_b 26 dX11_fair_7 rfl ?_ ?_
  · refine mm_ldc2 dX11_fair_26 ct_RX11_270 ?_
    exact mm_lret dX11_fair_29 rfl
  · refine mm_iload_n 1 dX11_fair_10 rfl ?_
    refine mm_iload_n 2 dX11_fair_11 rfl ?_
    refine mm_callSz (as := [.int v1, .int v2]) (st := []) (c_H_isIn E v1 v2 M_2) dX11_fair_12 mz_X11_isIn lk_RX11_231 sm_X11_isIn rfl ⟨Nat.le_of_ble_eq_true rfl, Nat.le_of_ble_eq_true rfl⟩ (Nat.le_of_ble_eq_true rfl) (fun b_3 M_4 => ?_)
    refine mm_if_eq_b 26 dX11_fair_15 rfl ?_ ?_
    · refine mm_ldc2 dX11_fair_26 ct_RX11_270 ?_
      exact mm_lret dX11_fair_29 rfl
    · refine mm_iload_n 3 dX11_fair_18 rfl ?_
      refine mm_iconst (v := 2) dX11_fair_19 rfl ?_
      refine mm_callSz (as := [.int v3, .int 2]) (st := []) (c_H_isBelow E v3 2 M_4) dX11_fair_20 mz_X11_isBelow lk_RX11_108 sm_X11_isBelow rfl ⟨Nat.le_of_ble_eq_true rfl, Nat.le_of_ble_eq_true rfl⟩ (Nat.le_of_ble_eq_true rfl) (fun b_5 M_6 => ?_)
      refine mm_if_ne_b 30 dX11_fair_23 rfl ?_ ?_
      · refine mm_aload_n 0 dX11_fair_30 rfl ?_
        refine mm_getR 56 dX11_fair_31 fl_RX11_71 lo_0 rfl ?_
        refine mm_callVv (as := []) (st := []) (c_Load_begin E M_6) dX11_fair_34 mz_X5_begin lk_RX11_177 im_X5_begin se_X5_begin lo_56 rfl rfl rfl ⟨Nat.le_of_ble_eq_true rfl, Nat.le_of_ble_eq_true rfl⟩ (Nat.le_of_ble_eq_true rfl) (fun u_7 M_8 => ?_)
        refine mm_aload_n 0 dX11_fair_37 rfl ?_
        refine mm_getR 71 dX11_fair_38 fl_RX11_80 lo_0 rfl ?_
        refine mm_iload_n 1 dX11_fair_41 rfl ?_
        refine mm_iload_n 2 dX11_fair_42 rfl ?_
        refine mm_callVv (as := [.int v1, .int v2]) (st := []) (c_Chooser_shareOut E v1 v2 M_8) dX11_fair_43 mz_X0_shareOut lk_RX11_272 im_X0_shareOut se_X0_shareOut lo_71 rfl rfl rfl ⟨Nat.le_of_ble_eq_true rfl, Nat.le_of_ble_eq_true rfl⟩ (Nat.le_of_ble_eq_true rfl) (fun u_9 M_10 => ?_)
        refine mm_iload_n 3 dX11_fair_46 rfl ?_
        refine mm_if_ne 60 dX11_fair_47 rfl ?_ ?_
        · refine mm_aload_n 0 dX11_fair_60 rfl ?_
          refine mm_getR 71 dX11_fair_61 fl_RX11_80 lo_0 rfl ?_
          refine mm_getJ dX11_fair_64 fl_RX11_280 lo_71 rfl ?_
          exact mm_lret dX11_fair_67 rfl
        · refine mm_aload_n 0 dX11_fair_50 rfl ?_
          refine mm_getR 71 dX11_fair_51 fl_RX11_80 lo_0 rfl ?_
          refine mm_getJ dX11_fair_54 fl_RX11_276 lo_71 rfl ?_
          refine mm_goto 67 dX11_fair_57 rfl ?_
          exact mm_lret dX11_fair_67 rfl
      · refine mm_ldc2 dX11_fair_26 ct_RX11_270 ?_
        exact mm_lret dX11_fair_29 rfl
def lp_Load_throughPipes_4 (v1 : Int32) (k41 : Int32 → mm_M → Option (Int32 × mm_M)) : Nat → Int32 → Int32 → mm_M → Option (Int32 × mm_M)
  | 0, _, _, _ => none
  | n + 1, v2, v3, M => if 4 ≤ v3 then k41 v2 M else if mm_in v3 (mm_al 26) = true then if mm_in ((v3 * 24) + v1) (mm_al 70) = true then mm_bd (f_Math_min (M.2.1 26 v3.toNatClampNeg) (M.2.1 70 ((v3 * 24) + v1).toNatClampNeg) M) fun r_1 M_2 => mm_let (v2 + r_1) fun v2_3 => mm_let (v3 + 1) fun v3_4 => lp_Load_throughPipes_4 v1 k41 n v2_3 v3_4 M_2 else none else none
set_option maxHeartbeats 4000000 in
theorem lp_Load_throughPipes_4_ok (E : mm_E) (v1 : Int32) {k41 : Int32 → mm_M → Option (Int32 × mm_M)} (hk41 : ∀ (v2 : Int32) (M : mm_M), mm_G (fun x : Int32 => some (.int x)) E Y_X5_throughPipes 2 41 [(2, .int v2)] [] M (k41 v2 M)) : ∀ (n : Nat) (v2 : Int32) (v3 : Int32) (M : mm_M), mm_G (fun x : Int32 => some (.int x)) E Y_X5_throughPipes 2 4 [(0, .ref 56), (1, .int v1), (2, .int v2), (3, .int v3)] [] M (lp_Load_throughPipes_4 v1 k41 n v2 v3 M) := by
  intro n
  induction n with
  | zero => intro v2 v3 M r M2 he; cases he
  | succ n ih =>
    intro v2 v3 M
    rw [lp_Load_throughPipes_4]
    refine mm_iload_n 3 dX5_throughPipes_4 rfl ?_
    refine mm_iconst (v := 4) dX5_throughPipes_5 rfl ?_
    refine mm_icmp_ge 41 dX5_throughPipes_6 rfl ?_ ?_
    · refine mm_wk [2] rfl ?_
      exact hk41 v2 M
    · refine mm_iload_n 2 dX5_throughPipes_9 rfl ?_
      refine mm_aload_n 0 dX5_throughPipes_10 rfl ?_
      refine mm_getR 22 dX5_throughPipes_11 fl_RX5_26 lo_56 rfl ?_
      refine mm_getR 26 dX5_throughPipes_14 fl_RX5_119 lo_22 rfl ?_
      refine mm_iload_n 3 dX5_throughPipes_17 rfl ?_
      refine mm_iaload dX5_throughPipes_18 ?_
      refine mm_aload_n 0 dX5_throughPipes_19 rfl ?_
      refine mm_getR 70 dX5_throughPipes_20 fl_RX5_23 lo_56 rfl ?_
      refine mm_iload_n 3 dX5_throughPipes_23 rfl ?_
      refine mm_bipush (v := 24) dX5_throughPipes_24 rfl ?_
      refine mm_imul dX5_throughPipes_26 ?_
      refine mm_iload_n 1 dX5_throughPipes_27 rfl ?_
      refine mm_iadd dX5_throughPipes_28 ?_
      refine mm_iaload dX5_throughPipes_29 ?_
      refine mm_callSi (as := [.int (M.2.1 26 v3.toNatClampNeg), .int (M.2.1 70 ((v3 * 24) + v1).toNatClampNeg)]) (st := [.int v2]) (c_Math_min E (M.2.1 26 v3.toNatClampNeg) (M.2.1 70 ((v3 * 24) + v1).toNatClampNeg) M) dX5_throughPipes_30 mz_J9_min_7cf53 lk_RX5_125 sm_J9_min_7cf53 rfl ⟨Nat.le_of_ble_eq_true rfl, Nat.le_of_ble_eq_true rfl⟩ (Nat.le_of_ble_eq_true rfl) (fun r_1 M_2 => ?_)
      refine mm_iadd dX5_throughPipes_33 ?_
      refine mm_nm_int (fun v2_3 => ?_)
      refine mm_istore_n [1, 2, 0, 3] (lv2 := [(0, .ref 56), (1, .int v1), (2, .int v2_3), (3, .int v3)]) dX5_throughPipes_34 (by decide) rfl ?_
      refine mm_iincN 3 [1, 2, 3, 0] (v := v3 + 1) (lv2 := fun v3_4 => [(0, .ref 56), (1, .int v1), (2, .int v2_3), (3, .int v3_4)]) dX5_throughPipes_35 rfl rfl (by decide) (fun _ => rfl) (fun v3_4 => ?_)
      refine mm_goto 4 dX5_throughPipes_38 rfl ?_
      exact ih v2_3 v3_4 M_2
def f_Load_throughPipes (v1 : Int32) (M : mm_M) : Option (Int32 × mm_M) := lp_Load_throughPipes_4 v1 (fun (v2 : Int32) (M_5 : mm_M) => some (v2, M_5)) mm_fu 0 0 M
set_option maxHeartbeats 4000000 in
theorem c_Load_throughPipes (E : mm_E) (v1 : Int32) (M : mm_M) : ∀ (r : Int32) (M2 : mm_M), f_Load_throughPipes v1 M = some (r, M2) → mm_P E Y_X5_throughPipes 2 [.ref 56, .int v1] M (some (.int r)) M2 := by
  refine mm_entry (em := (fun x : Int32 => some (.int x))) (by decide +kernel) (Nat.le_of_ble_eq_true rfl) ?_
  show mm_G _ E _ _ 0 [(0, .ref 56), (1, .int v1)] [] M _
  unfold f_Load_throughPipes
  refine mm_iconst (v := 0) dX5_throughPipes_0 rfl ?_
  refine mm_istore_n [1, 2, 0] (lv2 := [(0, .ref 56), (1, .int v1), (2, .int 0)]) dX5_throughPipes_1 (by decide) rfl ?_
  refine mm_iconst (v := 0) dX5_throughPipes_2 rfl ?_
  refine mm_istore_n [1, 2, 3, 0] (lv2 := [(0, .ref 56), (1, .int v1), (2, .int 0), (3, .int 0)]) dX5_throughPipes_3 (by decide) rfl ?_
  refine lp_Load_throughPipes_4_ok E v1 ?_ mm_fu 0 0 M
  · intro v2 M_5
    refine mm_iload_n 0 dX5_throughPipes_41 rfl ?_
    exact mm_iret dX5_throughPipes_42 rfl
def lp_Service_readRainTops_18 (k78 : mm_M → Option (Unit × mm_M)) : Nat → Int32 → Int32 → mm_M → Option (Unit × mm_M)
  | 0, _, _, _ => none
  | n + 1, v2, v3, M => if 24 ≤ v3 then k78 M else mm_bd (f_House_afterInflow v2 M) fun r_4 M_5 => if mm_in 0 (mm_al 24) = true then mm_bd (f_Math_min (M_5.2.1 24 (0 : Int32).toNatClampNeg) r_4 M_5) fun r_6 M_7 => if mm_in v3 (mm_al 90) = true then mm_let (mm_setA M_7 90 (v3.toNatClampNeg) r_6) fun M_8 => if mm_in v3 (mm_al 90) = true then mm_bd (f_Load_throughPipes v3 M_8) fun r_9 M_10 => mm_bd (f_Math_min (M_8.2.1 90 v3.toNatClampNeg) r_9 M_10) fun r_11 M_12 => mm_let (r_4 - r_11) fun v2_13 => mm_let (v3 + 1) fun v3_14 => lp_Service_readRainTops_18 k78 n v2_13 v3_14 M_12 else none else none else none
set_option maxHeartbeats 4000000 in
theorem lp_Service_readRainTops_18_ok (E : mm_E) {k78 : mm_M → Option (Unit × mm_M)} (hk78 : ∀ (M : mm_M), mm_G (fun _ : Unit => none) E Y_X8_readRainTops 4 78 [] [] M (k78 M)) : ∀ (n : Nat) (v2 : Int32) (v3 : Int32) (M : mm_M), mm_G (fun _ : Unit => none) E Y_X8_readRainTops 4 18 [(0, .ref 73), (2, .int v2), (3, .int v3)] [] M (lp_Service_readRainTops_18 k78 n v2 v3 M) := by
  intro n
  induction n with
  | zero => intro v2 v3 M r M2 he; cases he
  | succ n ih =>
    intro v2 v3 M
    rw [lp_Service_readRainTops_18]
    refine mm_iload_n 2 dX8_readRainTops_18 rfl ?_
    refine mm_bipush (v := 24) dX8_readRainTops_19 rfl ?_
    refine mm_icmp_ge 78 dX8_readRainTops_21 rfl ?_ ?_
    · refine mm_wk [] rfl ?_
      exact hk78  M
    · refine mm_aload_n 0 dX8_readRainTops_24 rfl ?_
      refine mm_getR 22 dX8_readRainTops_25 fl_RX8_41 lo_73 rfl ?_
      refine mm_iload_n 1 dX8_readRainTops_28 rfl ?_
      refine mm_callVi (as := [.int v2]) (st := []) (c_House_afterInflow E v2 M) dX8_readRainTops_29 mz_X2_afterInflow lk_RX8_82 im_X2_afterInflow se_X2_afterInflow lo_22 rfl rfl rfl ⟨Nat.le_of_ble_eq_true rfl, Nat.le_of_ble_eq_true rfl⟩ (Nat.le_of_ble_eq_true rfl) (fun r_4 M_5 => ?_)
      refine mm_istore_n [1, 0, 2] (lv2 := [(0, .ref 73), (2, .int r_4), (3, .int v3)]) dX8_readRainTops_32 (by decide) rfl ?_
      refine mm_aload_n 0 dX8_readRainTops_33 rfl ?_
      refine mm_getR 90 dX8_readRainTops_34 fl_RX8_32 lo_73 rfl ?_
      refine mm_iload_n 2 dX8_readRainTops_37 rfl ?_
      refine mm_aload_n 0 dX8_readRainTops_38 rfl ?_
      refine mm_getR 22 dX8_readRainTops_39 fl_RX8_41 lo_73 rfl ?_
      refine mm_getR 24 dX8_readRainTops_42 fl_RX8_86 lo_22 rfl ?_
      refine mm_iconst (v := 0) dX8_readRainTops_45 rfl ?_
      refine mm_iaload dX8_readRainTops_46 ?_
      refine mm_iload_n 1 dX8_readRainTops_47 rfl ?_
      refine mm_callSi (as := [.int (M_5.2.1 24 (0 : Int32).toNatClampNeg), .int r_4]) (st := [.int v3, .ref 90]) (c_Math_min E (M_5.2.1 24 (0 : Int32).toNatClampNeg) r_4 M_5) dX8_readRainTops_48 mz_J9_min_7cf53 lk_RX8_135 sm_J9_min_7cf53 rfl ⟨Nat.le_of_ble_eq_true rfl, Nat.le_of_ble_eq_true rfl⟩ (Nat.le_of_ble_eq_true rfl) (fun r_6 M_7 => ?_)
      refine mm_iastore dX8_readRainTops_51 ?_
      refine mm_nm_M (fun M_8 => ?_)
      refine mm_iload_n 1 dX8_readRainTops_52 rfl ?_
      refine mm_aload_n 0 dX8_readRainTops_53 rfl ?_
      refine mm_getR 90 dX8_readRainTops_54 fl_RX8_32 lo_73 rfl ?_
      refine mm_iload_n 2 dX8_readRainTops_57 rfl ?_
      refine mm_iaload dX8_readRainTops_58 ?_
      refine mm_aload_n 0 dX8_readRainTops_59 rfl ?_
      refine mm_getR 56 dX8_readRainTops_60 fl_RX8_53 lo_73 rfl ?_
      refine mm_iload_n 2 dX8_readRainTops_63 rfl ?_
      refine mm_callVi (as := [.int v3]) (st := [.int (M_8.2.1 90 v3.toNatClampNeg), .int r_4]) (c_Load_throughPipes E v3 M_8) dX8_readRainTops_64 mz_X5_throughPipes lk_RX8_157 im_X5_throughPipes se_X5_throughPipes lo_56 rfl rfl rfl ⟨Nat.le_of_ble_eq_true rfl, Nat.le_of_ble_eq_true rfl⟩ (Nat.le_of_ble_eq_true rfl) (fun r_9 M_10 => ?_)
      refine mm_callSi (as := [.int (M_8.2.1 90 v3.toNatClampNeg), .int r_9]) (st := [.int r_4]) (c_Math_min E (M_8.2.1 90 v3.toNatClampNeg) r_9 M_10) dX8_readRainTops_67 mz_J9_min_7cf53 lk_RX8_135 sm_J9_min_7cf53 rfl ⟨Nat.le_of_ble_eq_true rfl, Nat.le_of_ble_eq_true rfl⟩ (Nat.le_of_ble_eq_true rfl) (fun r_11 M_12 => ?_)
      refine mm_isub dX8_readRainTops_70 ?_
      refine mm_nm_int (fun v2_13 => ?_)
      refine mm_istore_n [1, 0, 2] (lv2 := [(0, .ref 73), (2, .int v2_13), (3, .int v3)]) dX8_readRainTops_71 (by decide) rfl ?_
      refine mm_iincN 2 [1, 2, 0] (v := v3 + 1) (lv2 := fun v3_14 => [(0, .ref 73), (2, .int v2_13), (3, .int v3_14)]) dX8_readRainTops_72 rfl rfl (by decide) (fun _ => rfl) (fun v3_14 => ?_)
      refine mm_goto 18 dX8_readRainTops_75 rfl ?_
      exact ih v2_13 v3_14 M_12
def f_Service_readRainTops (v1 : Int32) (M : mm_M) : Option (Unit × mm_M) := mm_bd (f_Load_turnTo v1 M) fun u_1 M_2 => mm_let (M_2.1 22 5) fun v2_3 => lp_Service_readRainTops_18 (fun (M_15 : mm_M) => some ((), M_15)) mm_fu v2_3 0 M_2
set_option maxHeartbeats 4000000 in
theorem c_Service_readRainTops (E : mm_E) (v1 : Int32) (M : mm_M) : ∀ (r : Unit) (M2 : mm_M), f_Service_readRainTops v1 M = some (r, M2) → mm_P E Y_X8_readRainTops 4 [.ref 73, .int v1] M none M2 := by
  refine mm_entry (em := (fun _ : Unit => none)) (by decide +kernel) (Nat.le_of_ble_eq_true rfl) ?_
  show mm_G _ E _ _ 0 [(0, .ref 73), (1, .int v1)] [] M _
  unfold f_Service_readRainTops
  refine mm_aload_n 0 dX8_readRainTops_0 rfl ?_
  refine mm_getR 56 dX8_readRainTops_1 fl_RX8_53 lo_73 rfl ?_
  refine mm_iload_n 1 dX8_readRainTops_4 rfl ?_
  refine mm_callVv (as := [.int v1]) (st := []) (c_Load_turnTo E v1 M) dX8_readRainTops_5 mz_X5_turnTo lk_RX8_151 im_X5_turnTo se_X5_turnTo lo_56 rfl rfl rfl ⟨Nat.le_of_ble_eq_true rfl, Nat.le_of_ble_eq_true rfl⟩ (Nat.le_of_ble_eq_true rfl) (fun u_1 M_2 => ?_)
  refine mm_aload_n 0 dX8_readRainTops_8 rfl ?_
  refine mm_getR 22 dX8_readRainTops_9 fl_RX8_41 lo_73 rfl ?_
  refine mm_getI dX8_readRainTops_12 fl_RX8_66 lo_22 rfl ?_
  refine mm_nm_int (fun v2_3 => ?_)
  refine mm_istore_n [1, 2, 0] (lv2 := [(0, .ref 73), (1, .int v1), (2, .int v2_3)]) dX8_readRainTops_15 (by decide) rfl ?_
  refine mm_iconst (v := 0) dX8_readRainTops_16 rfl ?_
  refine mm_istore_n [1, 2, 3, 0] (lv2 := [(0, .ref 73), (1, .int v1), (2, .int v2_3), (3, .int 0)]) dX8_readRainTops_17 (by decide) rfl ?_
  refine mm_wk [0, 2, 3] rfl ?_
  refine lp_Service_readRainTops_18_ok E ?_ mm_fu v2_3 0 M_2
  · intro M_15
    exact mm_vret dX8_readRainTops_78 rfl
def f_Service_rainLeft (v1 : Int32) (v2 : Int32) (M : mm_M) : Option (Int32 × mm_M) := if mm_in v2 (mm_al 90) = true then mm_bd (f_Load_throughPipes v2 M) fun r_1 M_2 => if mm_in v1 (mm_al 26) = true then if mm_in ((v1 * 24) + v2) (mm_al 70) = true then mm_bd (f_Math_min ((M.2.1 90 v2.toNatClampNeg) - r_1) ((M_2.2.1 26 v1.toNatClampNeg) - (M_2.2.1 70 ((v1 * 24) + v2).toNatClampNeg)) M_2) fun r_3 M_4 => some (r_3, M_4) else none else none else none
set_option maxHeartbeats 4000000 in
theorem c_Service_rainLeft (E : mm_E) (v1 : Int32) (v2 : Int32) (M : mm_M) : ∀ (r : Int32) (M2 : mm_M), f_Service_rainLeft v1 v2 M = some (r, M2) → mm_P E Y_X8_rainLeft 3 [.ref 73, .int v1, .int v2] M (some (.int r)) M2 := by
  refine mm_entry (em := (fun x : Int32 => some (.int x))) (by decide +kernel) (Nat.le_of_ble_eq_true rfl) ?_
  show mm_G _ E _ _ 0 [(0, .ref 73), (1, .int v1), (2, .int v2)] [] M _
  unfold f_Service_rainLeft
  refine mm_aload_n 0 dX8_rainLeft_0 rfl ?_
  refine mm_getR 90 dX8_rainLeft_1 fl_RX8_32 lo_73 rfl ?_
  refine mm_iload_n 2 dX8_rainLeft_4 rfl ?_
  refine mm_iaload dX8_rainLeft_5 ?_
  refine mm_aload_n 0 dX8_rainLeft_6 rfl ?_
  refine mm_getR 56 dX8_rainLeft_7 fl_RX8_53 lo_73 rfl ?_
  refine mm_iload_n 2 dX8_rainLeft_10 rfl ?_
  refine mm_callVi (as := [.int v2]) (st := [.int (M.2.1 90 v2.toNatClampNeg)]) (c_Load_throughPipes E v2 M) dX8_rainLeft_11 mz_X5_throughPipes lk_RX8_157 im_X5_throughPipes se_X5_throughPipes lo_56 rfl rfl rfl ⟨Nat.le_of_ble_eq_true rfl, Nat.le_of_ble_eq_true rfl⟩ (Nat.le_of_ble_eq_true rfl) (fun r_1 M_2 => ?_)
  refine mm_isub dX8_rainLeft_14 ?_
  refine mm_aload_n 0 dX8_rainLeft_15 rfl ?_
  refine mm_getR 22 dX8_rainLeft_16 fl_RX8_41 lo_73 rfl ?_
  refine mm_getR 26 dX8_rainLeft_19 fl_RX8_95 lo_22 rfl ?_
  refine mm_iload_n 1 dX8_rainLeft_22 rfl ?_
  refine mm_iaload dX8_rainLeft_23 ?_
  refine mm_aload_n 0 dX8_rainLeft_24 rfl ?_
  refine mm_getR 56 dX8_rainLeft_25 fl_RX8_53 lo_73 rfl ?_
  refine mm_getR 70 dX8_rainLeft_28 fl_RX8_175 lo_56 rfl ?_
  refine mm_iload_n 1 dX8_rainLeft_31 rfl ?_
  refine mm_bipush (v := 24) dX8_rainLeft_32 rfl ?_
  refine mm_imul dX8_rainLeft_34 ?_
  refine mm_iload_n 2 dX8_rainLeft_35 rfl ?_
  refine mm_iadd dX8_rainLeft_36 ?_
  refine mm_iaload dX8_rainLeft_37 ?_
  refine mm_isub dX8_rainLeft_38 ?_
  refine mm_callSi (as := [.int ((M.2.1 90 v2.toNatClampNeg) - r_1), .int ((M_2.2.1 26 v1.toNatClampNeg) - (M_2.2.1 70 ((v1 * 24) + v2).toNatClampNeg))]) (st := []) (c_Math_min E ((M.2.1 90 v2.toNatClampNeg) - r_1) ((M_2.2.1 26 v1.toNatClampNeg) - (M_2.2.1 70 ((v1 * 24) + v2).toNatClampNeg)) M_2) dX8_rainLeft_39 mz_J9_min_7cf53 lk_RX8_135 sm_J9_min_7cf53 rfl ⟨Nat.le_of_ble_eq_true rfl, Nat.le_of_ble_eq_true rfl⟩ (Nat.le_of_ble_eq_true rfl) (fun r_3 M_4 => ?_)
  exact mm_iret dX8_rainLeft_42 rfl
def lp_Service_harmBehind_4 (v1 : Int32) (k104 : Int32 → mm_M → Option (Int32 × mm_M)) : Nat → Int32 → Int32 → mm_M → Option (Int32 × mm_M)
  | 0, _, _, _ => none
  | n + 1, v2, v3, M => if 72 ≤ v3 then k104 v2 M else if mm_in v1 10 = true then if mm_in v3 (mm_al (58 + v1.toNatClampNeg)) = true then mm_let (M.2.1 (58 + v1.toNatClampNeg) v3.toNatClampNeg) fun v4_1 => mm_jn (fun (v2 : Int32) (v3 : Int32) (M_2 : mm_M) => mm_let (v3 + 1) fun v3_3 => lp_Service_harmBehind_4 v1 k104 n v2 v3_3 M_2) fun j98 => if v4_1 ≤ 0 then j98 v2 v3 M else mm_jn (fun (v2 : Int32) (v3 : Int32) (v4 : Int32) (s0 : Int32) (M_4 : mm_M) => mm_bd (f_Math_max 0 s0 M_4) fun r_5 M_6 => mm_bd (f_Math_min v4 r_5 M_6) fun r_7 M_8 => mm_bd (f_Service_harmOf v1 v3 (v4 - r_7) M_8) fun r_9 M_10 => mm_let (v2 + r_9) fun v2_11 => j98 v2_11 v3 M_10) fun j73 => if 24 ≤ v3 then if mm_in (v3 / 24) (mm_al 24) = true then if mm_in v3 (mm_al 69) = true then j73 v2 v3 v4_1 ((M.2.1 24 (v3 / 24).toNatClampNeg) - (M.2.1 69 v3.toNatClampNeg)) M else none else none else if mm_in v1 (mm_al 68) = true then mm_bd (f_Service_rainLeft (M.2.1 68 v1.toNatClampNeg) v3 M) fun r_12 M_13 => j73 v2 v3 v4_1 r_12 M_13 else none else none else none
set_option maxHeartbeats 4000000 in
theorem lp_Service_harmBehind_4_ok (E : mm_E) (v1 : Int32) {k104 : Int32 → mm_M → Option (Int32 × mm_M)} (hk104 : ∀ (v2 : Int32) (M : mm_M), mm_G (fun x : Int32 => some (.int x)) E Y_X8_harmBehind 5 104 [(2, .int v2)] [] M (k104 v2 M)) : ∀ (n : Nat) (v2 : Int32) (v3 : Int32) (M : mm_M), mm_G (fun x : Int32 => some (.int x)) E Y_X8_harmBehind 5 4 [(0, .ref 73), (1, .int v1), (2, .int v2), (3, .int v3)] [] M (lp_Service_harmBehind_4 v1 k104 n v2 v3 M) := by
  intro n
  induction n with
  | zero => intro v2 v3 M r M2 he; cases he
  | succ n ih =>
    intro v2 v3 M
    rw [lp_Service_harmBehind_4]
    refine mm_iload_n 3 dX8_harmBehind_4 rfl ?_
    refine mm_bipush (v := 72) dX8_harmBehind_5 rfl ?_
    refine mm_icmp_ge 104 dX8_harmBehind_7 rfl ?_ ?_
    · refine mm_wk [2] rfl ?_
      exact hk104 v2 M
    · refine mm_aload_n 0 dX8_harmBehind_10 rfl ?_
      refine mm_getR 56 dX8_harmBehind_11 fl_RX8_53 lo_73 rfl ?_
      refine mm_getR 57 dX8_harmBehind_14 fl_RX8_125 lo_56 rfl ?_
      refine mm_iload_n 1 dX8_harmBehind_17 rfl ?_
      refine mm_aaload dX8_harmBehind_18 lo_57 ?_
      refine mm_iload_n 3 dX8_harmBehind_19 rfl ?_
      refine mm_iaload dX8_harmBehind_20 ?_
      refine mm_nm_int (fun v4_1 => ?_)
      refine mm_istore [1, 2, 3, 4, 0] (lv2 := [(0, .ref 73), (1, .int v1), (2, .int v2), (3, .int v3), (4, .int v4_1)]) dX8_harmBehind_21 (by decide) rfl ?_
      refine mm_iload 4 dX8_harmBehind_23 rfl ?_
      refine mm_jnP (P := fun j => ∀ (v2 : Int32) (v3 : Int32) (M : mm_M), mm_G (fun x : Int32 => some (.int x)) E Y_X8_harmBehind 5 98 [(0, .ref 73), (1, .int v1), (2, .int v2), (3, .int v3)] [] M (j v2 v3 M)) ?_ (fun j98 hj98 => ?_)
      · intro v2 v3 M_2
        refine mm_iincN 3 [1, 2, 3, 0] (v := v3 + 1) (lv2 := fun v3_3 => [(0, .ref 73), (1, .int v1), (2, .int v2), (3, .int v3_3)]) dX8_harmBehind_98 rfl rfl (by decide) (fun _ => rfl) (fun v3_3 => ?_)
        refine mm_goto 4 dX8_harmBehind_101 rfl ?_
        exact ih v2 v3_3 M_2
      refine mm_if_le 98 dX8_harmBehind_25 rfl ?_ ?_
      · refine mm_wk [0, 1, 2, 3] rfl ?_
        exact hj98 v2 v3 M
      · refine mm_iload_n 3 dX8_harmBehind_28 rfl ?_
        refine mm_bipush (v := 24) dX8_harmBehind_29 rfl ?_
        refine mm_jnP (P := fun j => ∀ (v2 : Int32) (v3 : Int32) (v4 : Int32) (s0 : Int32) (M : mm_M), mm_G (fun x : Int32 => some (.int x)) E Y_X8_harmBehind 5 73 [(0, .ref 73), (1, .int v1), (2, .int v2), (3, .int v3), (4, .int v4)] [.int s0] M (j v2 v3 v4 s0 M)) ?_ (fun j73 hj73 => ?_)
        · intro v2 v3 v4 s0 M_4
          refine mm_istore [1, 2, 3, 4, 5, 0] (lv2 := [(0, .ref 73), (1, .int v1), (2, .int v2), (3, .int v3), (4, .int v4), (5, .int s0)]) dX8_harmBehind_73 (by decide) rfl ?_
          refine mm_iload_n 2 dX8_harmBehind_75 rfl ?_
          refine mm_aload_n 0 dX8_harmBehind_76 rfl ?_
          refine mm_iload_n 1 dX8_harmBehind_77 rfl ?_
          refine mm_iload_n 3 dX8_harmBehind_78 rfl ?_
          refine mm_iload 4 dX8_harmBehind_79 rfl ?_
          refine mm_iload 4 dX8_harmBehind_81 rfl ?_
          refine mm_iconst (v := 0) dX8_harmBehind_83 rfl ?_
          refine mm_iload 5 dX8_harmBehind_84 rfl ?_
          refine mm_callSi (as := [.int 0, .int s0]) (st := [.int v4, .int v4, .int v3, .int v1, .ref 73, .int v2]) (c_Math_max E 0 s0 M_4) dX8_harmBehind_86 mz_J9_max_7cf53 lk_RX8_172 sm_J9_max_7cf53 rfl ⟨Nat.le_of_ble_eq_true rfl, Nat.le_of_ble_eq_true rfl⟩ (Nat.le_of_ble_eq_true rfl) (fun r_5 M_6 => ?_)
          refine mm_callSi (as := [.int v4, .int r_5]) (st := [.int v4, .int v3, .int v1, .ref 73, .int v2]) (c_Math_min E v4 r_5 M_6) dX8_harmBehind_89 mz_J9_min_7cf53 lk_RX8_135 sm_J9_min_7cf53 rfl ⟨Nat.le_of_ble_eq_true rfl, Nat.le_of_ble_eq_true rfl⟩ (Nat.le_of_ble_eq_true rfl) (fun r_7 M_8 => ?_)
          refine mm_isub dX8_harmBehind_92 ?_
          refine mm_callVi (as := [.int v1, .int v3, .int (v4 - r_7)]) (st := [.int v2]) (c_Service_harmOf E v1 v3 (v4 - r_7) M_8) dX8_harmBehind_93 mz_X8_harmOf lk_RX8_140 im_X8_harmOf se_X8_harmOf lo_73 rfl rfl rfl ⟨Nat.le_of_ble_eq_true rfl, Nat.le_of_ble_eq_true rfl⟩ (Nat.le_of_ble_eq_true rfl) (fun r_9 M_10 => ?_)
          refine mm_iadd dX8_harmBehind_96 ?_
          refine mm_nm_int (fun v2_11 => ?_)
          refine mm_istore_n [1, 2, 0, 3, 4, 5] (lv2 := [(0, .ref 73), (1, .int v1), (2, .int v2_11), (3, .int v3), (4, .int v4), (5, .int s0)]) dX8_harmBehind_97 (by decide) rfl ?_
          refine mm_wk [0, 1, 2, 3] rfl ?_
          exact hj98 v2_11 v3 M_10
        refine mm_icmp_ge 51 dX8_harmBehind_31 rfl ?_ ?_
        · refine mm_aload_n 0 dX8_harmBehind_51 rfl ?_
          refine mm_getR 22 dX8_harmBehind_52 fl_RX8_41 lo_73 rfl ?_
          refine mm_getR 24 dX8_harmBehind_55 fl_RX8_86 lo_22 rfl ?_
          refine mm_iload_n 3 dX8_harmBehind_58 rfl ?_
          refine mm_bipush (v := 24) dX8_harmBehind_59 rfl ?_
          refine mm_idiv_c dX8_harmBehind_61 (by decide) ?_
          refine mm_iaload dX8_harmBehind_62 ?_
          refine mm_aload_n 0 dX8_harmBehind_63 rfl ?_
          refine mm_getR 56 dX8_harmBehind_64 fl_RX8_53 lo_73 rfl ?_
          refine mm_getR 69 dX8_harmBehind_67 fl_RX8_169 lo_56 rfl ?_
          refine mm_iload_n 3 dX8_harmBehind_70 rfl ?_
          refine mm_iaload dX8_harmBehind_71 ?_
          refine mm_isub dX8_harmBehind_72 ?_
          exact hj73 v2 v3 v4_1 ((M.2.1 24 (v3 / 24).toNatClampNeg) - (M.2.1 69 v3.toNatClampNeg)) M
        · refine mm_aload_n 0 dX8_harmBehind_34 rfl ?_
          refine mm_aload_n 0 dX8_harmBehind_35 rfl ?_
          refine mm_getR 56 dX8_harmBehind_36 fl_RX8_53 lo_73 rfl ?_
          refine mm_getR 68 dX8_harmBehind_39 fl_RX8_128 lo_56 rfl ?_
          refine mm_iload_n 1 dX8_harmBehind_42 rfl ?_
          refine mm_iaload dX8_harmBehind_43 ?_
          refine mm_iload_n 3 dX8_harmBehind_44 rfl ?_
          refine mm_callVi (as := [.int (M.2.1 68 v1.toNatClampNeg), .int v3]) (st := []) (c_Service_rainLeft E (M.2.1 68 v1.toNatClampNeg) v3 M) dX8_harmBehind_45 mz_X8_rainLeft lk_RX8_166 im_X8_rainLeft se_X8_rainLeft lo_73 rfl rfl rfl ⟨Nat.le_of_ble_eq_true rfl, Nat.le_of_ble_eq_true rfl⟩ (Nat.le_of_ble_eq_true rfl) (fun r_12 M_13 => ?_)
          refine mm_goto 73 dX8_harmBehind_48 rfl ?_
          exact hj73 v2 v3 v4_1 r_12 M_13
def f_Service_harmBehind (v1 : Int32) (M : mm_M) : Option (Int32 × mm_M) := lp_Service_harmBehind_4 v1 (fun (v2 : Int32) (M_14 : mm_M) => some (v2, M_14)) mm_fu 0 0 M
set_option maxHeartbeats 4000000 in
theorem c_Service_harmBehind (E : mm_E) (v1 : Int32) (M : mm_M) : ∀ (r : Int32) (M2 : mm_M), f_Service_harmBehind v1 M = some (r, M2) → mm_P E Y_X8_harmBehind 5 [.ref 73, .int v1] M (some (.int r)) M2 := by
  refine mm_entry (em := (fun x : Int32 => some (.int x))) (by decide +kernel) (Nat.le_of_ble_eq_true rfl) ?_
  show mm_G _ E _ _ 0 [(0, .ref 73), (1, .int v1)] [] M _
  unfold f_Service_harmBehind
  refine mm_iconst (v := 0) dX8_harmBehind_0 rfl ?_
  refine mm_istore_n [1, 2, 0] (lv2 := [(0, .ref 73), (1, .int v1), (2, .int 0)]) dX8_harmBehind_1 (by decide) rfl ?_
  refine mm_iconst (v := 0) dX8_harmBehind_2 rfl ?_
  refine mm_istore_n [1, 2, 3, 0] (lv2 := [(0, .ref 73), (1, .int v1), (2, .int 0), (3, .int 0)]) dX8_harmBehind_3 (by decide) rfl ?_
  refine lp_Service_harmBehind_4_ok E v1 ?_ mm_fu 0 0 M
  · intro v2 M_14
    refine mm_iload_n 0 dX8_harmBehind_104 rfl ?_
    exact mm_iret dX8_harmBehind_105 rfl
def lp_Service_chooseNext_5 (v1 : Int32) (v2 : Int32) (k80 : mm_M → Option (Unit × mm_M)) : Nat → Bool → Int32 → mm_M → Option (Unit × mm_M)
  | 0, _, _, _ => none
  | n + 1, v3, v4, M => if 10 ≤ v4 then k80 M else mm_bd (f_H_isIn v2 v4 M) fun b_1 M_2 => mm_jn (fun (v3 : Bool) (v4 : Int32) (M_3 : mm_M) => mm_let (v4 + 1) fun v4_4 => lp_Service_chooseNext_5 v1 v2 k80 n v3 v4_4 M_3) fun j74 => if b_1 = true then mm_bd (f_Service_harmBehind v4 M_2) fun r_5 M_6 => if mm_in (v1 ||| (1 <<< (v4 &&& 31))) (mm_al 91) = true then mm_let (r_5 + (M_6.2.1 91 (v1 ||| (1 <<< (v4 &&& 31))).toNatClampNeg)) fun v5_7 => mm_jn (fun (v4 : Int32) (v5 : Int32) (M_8 : mm_M) => if mm_in v1 (mm_al 91) = true then mm_let (mm_setA M_8 91 (v1.toNatClampNeg) v5) fun M_9 => if mm_in v1 (mm_al 92) = true then mm_let (mm_setA M_9 92 (v1.toNatClampNeg) v4) fun M_10 => j74 true v4 M_10 else none else none) fun j56 => if v3 = true then if mm_in v1 (mm_al 91) = true then if M_6.2.1 91 v1.toNatClampNeg ≤ v5_7 then j74 v3 v4 M_6 else j56 v4 v5_7 M_6 else none else j56 v4 v5_7 M_6 else none else j74 v3 v4 M_2
set_option maxHeartbeats 4000000 in
theorem lp_Service_chooseNext_5_ok (E : mm_E) (v1 : Int32) (v2 : Int32) {k80 : mm_M → Option (Unit × mm_M)} (hk80 : ∀ (M : mm_M), mm_G (fun _ : Unit => none) E Y_X8_chooseNext 6 80 [] [] M (k80 M)) : ∀ (n : Nat) (v3 : Bool) (v4 : Int32) (M : mm_M), mm_G (fun _ : Unit => none) E Y_X8_chooseNext 6 5 [(0, .ref 73), (1, .int v1), (2, .int v2), (3, .int (mm_b v3)), (4, .int v4)] [] M (lp_Service_chooseNext_5 v1 v2 k80 n v3 v4 M) := by
  intro n
  induction n with
  | zero => intro v3 v4 M r M2 he; cases he
  | succ n ih =>
    intro v3 v4 M
    rw [lp_Service_chooseNext_5]
    refine mm_iload 4 dX8_chooseNext_5 rfl ?_
    refine mm_bipush (v := 10) dX8_chooseNext_7 rfl ?_
    refine mm_icmp_ge 80 dX8_chooseNext_9 rfl ?_ ?_
    · refine mm_wk [] rfl ?_
      exact hk80  M
    · refine mm_iload_n 2 dX8_chooseNext_12 rfl ?_
      refine mm_iload 4 dX8_chooseNext_13 rfl ?_
      refine mm_callSNz (as := [.int v2, .int v4]) (st := []) (c_H_isIn E v2 v4 M) dX8_chooseNext_15 mz_X11_isIn lk_RX8_160 sm_X11_isIn rfl ⟨Nat.le_of_ble_eq_true rfl, Nat.le_of_ble_eq_true rfl⟩ (Nat.le_of_ble_eq_true rfl) (fun b_1 M_2 => ?_)
      refine mm_jnP (P := fun j => ∀ (v3 : Bool) (v4 : Int32) (M : mm_M), mm_G (fun _ : Unit => none) E Y_X8_chooseNext 6 74 [(0, .ref 73), (1, .int v1), (2, .int v2), (3, .int (mm_b v3)), (4, .int v4)] [] M (j v3 v4 M)) ?_ (fun j74 hj74 => ?_)
      · intro v3 v4 M_3
        refine mm_iincN 4 [1, 2, 3, 4, 0] (v := v4 + 1) (lv2 := fun v4_4 => [(0, .ref 73), (1, .int v1), (2, .int v2), (3, .int (mm_b v3)), (4, .int v4_4)]) dX8_chooseNext_74 rfl rfl (by decide) (fun _ => rfl) (fun v4_4 => ?_)
        refine mm_goto 5 dX8_chooseNext_77 rfl ?_
        exact ih v3 v4_4 M_3
      refine mm_if_eq_b 74 dX8_chooseNext_18 rfl ?_ ?_
      · exact hj74 v3 v4 M_2
      · refine mm_aload_n 0 dX8_chooseNext_21 rfl ?_
        refine mm_iload 4 dX8_chooseNext_22 rfl ?_
        refine mm_callVi (as := [.int v4]) (st := []) (c_Service_harmBehind E v4 M_2) dX8_chooseNext_24 mz_X8_harmBehind lk_RX8_163 im_X8_harmBehind se_X8_harmBehind lo_73 rfl rfl rfl ⟨Nat.le_of_ble_eq_true rfl, Nat.le_of_ble_eq_true rfl⟩ (Nat.le_of_ble_eq_true rfl) (fun r_5 M_6 => ?_)
        refine mm_aload_n 0 dX8_chooseNext_27 rfl ?_
        refine mm_getR 91 dX8_chooseNext_28 fl_RX8_35 lo_73 rfl ?_
        refine mm_iload_n 1 dX8_chooseNext_31 rfl ?_
        refine mm_iconst (v := 1) dX8_chooseNext_32 rfl ?_
        refine mm_iload 4 dX8_chooseNext_33 rfl ?_
        refine mm_ishl dX8_chooseNext_35 ?_
        refine mm_ior dX8_chooseNext_36 ?_
        refine mm_iaload dX8_chooseNext_37 ?_
        refine mm_iadd dX8_chooseNext_38 ?_
        refine mm_nm_int (fun v5_7 => ?_)
        refine mm_istore [1, 2, 3, 4, 5, 0] (lv2 := [(0, .ref 73), (1, .int v1), (2, .int v2), (3, .int (mm_b v3)), (4, .int v4), (5, .int v5_7)]) dX8_chooseNext_39 (by decide) rfl ?_
        refine mm_iload_n 3 dX8_chooseNext_41 rfl ?_
        refine mm_jnP (P := fun j => ∀ (v4 : Int32) (v5 : Int32) (M : mm_M), mm_G (fun _ : Unit => none) E Y_X8_chooseNext 6 56 [(0, .ref 73), (1, .int v1), (2, .int v2), (4, .int v4), (5, .int v5)] [] M (j v4 v5 M)) ?_ (fun j56 hj56 => ?_)
        · intro v4 v5 M_8
          refine mm_iconst (v := 1) dX8_chooseNext_56 rfl ?_
          refine mm_istore_n [1, 2, 3, 0, 4, 5] (lv2 := [(0, .ref 73), (1, .int v1), (2, .int v2), (3, .int 1), (4, .int v4), (5, .int v5)]) dX8_chooseNext_57 (by decide) rfl ?_
          refine mm_aload_n 0 dX8_chooseNext_58 rfl ?_
          refine mm_getR 91 dX8_chooseNext_59 fl_RX8_35 lo_73 rfl ?_
          refine mm_iload_n 1 dX8_chooseNext_62 rfl ?_
          refine mm_iload 5 dX8_chooseNext_63 rfl ?_
          refine mm_iastore dX8_chooseNext_65 ?_
          refine mm_nm_M (fun M_9 => ?_)
          refine mm_aload_n 0 dX8_chooseNext_66 rfl ?_
          refine mm_getR 92 dX8_chooseNext_67 fl_RX8_38 lo_73 rfl ?_
          refine mm_iload_n 1 dX8_chooseNext_70 rfl ?_
          refine mm_iload 4 dX8_chooseNext_71 rfl ?_
          refine mm_iastore dX8_chooseNext_73 ?_
          refine mm_nm_M (fun M_10 => ?_)
          refine mm_wk [0, 1, 2, 3, 4] rfl ?_
          exact hj74 true v4 M_10
        refine mm_if_eq_b 56 dX8_chooseNext_42 rfl ?_ ?_
        · refine mm_wk [0, 1, 2, 4, 5] rfl ?_
          exact hj56 v4 v5_7 M_6
        · refine mm_iload 5 dX8_chooseNext_45 rfl ?_
          refine mm_aload_n 0 dX8_chooseNext_47 rfl ?_
          refine mm_getR 91 dX8_chooseNext_48 fl_RX8_35 lo_73 rfl ?_
          refine mm_iload_n 1 dX8_chooseNext_51 rfl ?_
          refine mm_iaload dX8_chooseNext_52 ?_
          refine mm_icmp_ge 74 dX8_chooseNext_53 rfl ?_ ?_
          · refine mm_wk [0, 1, 2, 3, 4] rfl ?_
            exact hj74 v3 v4 M_6
          · refine mm_wk [0, 1, 2, 4, 5] rfl ?_
            exact hj56 v4 v5_7 M_6
def f_Service_chooseNext (v1 : Int32) (v2 : Int32) (M : mm_M) : Option (Unit × mm_M) := lp_Service_chooseNext_5 v1 v2 (fun (M_11 : mm_M) => some ((), M_11)) mm_fu false 0 M
set_option maxHeartbeats 4000000 in
theorem c_Service_chooseNext (E : mm_E) (v1 : Int32) (v2 : Int32) (M : mm_M) : ∀ (r : Unit) (M2 : mm_M), f_Service_chooseNext v1 v2 M = some (r, M2) → mm_P E Y_X8_chooseNext 6 [.ref 73, .int v1, .int v2] M none M2 := by
  refine mm_entry (em := (fun _ : Unit => none)) (by decide +kernel) (Nat.le_of_ble_eq_true rfl) ?_
  show mm_G _ E _ _ 0 [(0, .ref 73), (1, .int v1), (2, .int v2)] [] M _
  unfold f_Service_chooseNext
  refine mm_iconst (v := 0) dX8_chooseNext_0 rfl ?_
  refine mm_istore_n [1, 2, 3, 0] (lv2 := [(0, .ref 73), (1, .int v1), (2, .int v2), (3, .int 0)]) dX8_chooseNext_1 (by decide) rfl ?_
  refine mm_iconst (v := 0) dX8_chooseNext_2 rfl ?_
  refine mm_istore [1, 2, 3, 4, 0] (lv2 := [(0, .ref 73), (1, .int v1), (2, .int v2), (3, .int 0), (4, .int 0)]) dX8_chooseNext_3 (by decide) rfl ?_
  refine lp_Service_chooseNext_5_ok E v1 v2 ?_ mm_fu false 0 M
  · intro M_11
    exact mm_vret dX8_chooseNext_80 rfl
