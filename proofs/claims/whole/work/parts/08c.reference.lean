def lp_R_law_46 (k86 : Bool → mm_M → Option (Int32 × mm_M)) : Nat → Bool → mm_M → Option (Int32 × mm_M)
  | 0, _, _ => none
  | n + 1, v2, M => if v2 = true then if M.1 97 3 ≤ M.1 97 2 then k86 v2 M else mm_bd (f_R_takes 59 M) fun b_9 M_10 => mm_jn (fun (s0 : Bool) (M_11 : mm_M) => lp_R_law_46 k86 n s0 M_11) fun j82 => mm_jn (fun (M_12 : mm_M) => j82 false M_12) fun j81 => if b_9 = true then mm_bd (f_R_readsClause M_10) fun b_13 M_14 => if b_13 = true then j82 true M_14 else j81 M_14 else j81 M_10 else k86 v2 M
set_option maxHeartbeats 4000000 in
theorem lp_R_law_46_ok (E : mm_E) {k86 : Bool → mm_M → Option (Int32 × mm_M)} (hk86 : ∀ (v2 : Bool) (M : mm_M), mm_G (fun x : Int32 => some (.int x)) E Y_X12_law 9 86 [(0, .ref 97), (2, .int (mm_b v2))] [] M (k86 v2 M)) : ∀ (n : Nat) (v2 : Bool) (M : mm_M), mm_G (fun x : Int32 => some (.int x)) E Y_X12_law 9 46 [(0, .ref 97), (2, .int (mm_b v2))] [] M (lp_R_law_46 k86 n v2 M) := by
  intro n
  induction n with
  | zero => intro v2 M r M2 he; cases he
  | succ n ih =>
    intro v2 M
    rw [lp_R_law_46]
    refine mm_iload_n 1 dX12_law_46 rfl ?_
    refine mm_if_eq_b 86 dX12_law_47 rfl ?_ ?_
    · exact hk86 v2 M
    · refine mm_aload_n 0 dX12_law_50 rfl ?_
      refine mm_getI dX12_law_51 fl_RX12_151 lo_97 rfl ?_
      refine mm_aload_n 0 dX12_law_54 rfl ?_
      refine mm_getI dX12_law_55 fl_RX12_187 lo_97 rfl ?_
      refine mm_icmp_ge 86 dX12_law_58 rfl ?_ ?_
      · exact hk86 v2 M
      · refine mm_aload_n 0 dX12_law_61 rfl ?_
        refine mm_bipush (v := 59) dX12_law_62 rfl ?_
        refine mm_callVz (as := [.int 59]) (st := []) (c_R_takes E 59 M) dX12_law_64 mz_X12_takes lk_RX12_176 im_X12_takes se_X12_takes lo_97 rfl rfl rfl ⟨Nat.le_of_ble_eq_true rfl, Nat.le_of_ble_eq_true rfl⟩ (Nat.le_of_ble_eq_true rfl) (fun b_9 M_10 => ?_)
        refine mm_jnP (P := fun j => ∀ (s0 : Bool) (M : mm_M), mm_G (fun x : Int32 => some (.int x)) E Y_X12_law 9 82 [(0, .ref 97)] [.int (mm_b s0)] M (j s0 M)) ?_ (fun j82 hj82 => ?_)
        · intro s0 M_11
          refine mm_istore_n [1, 0] (lv2 := [(0, .ref 97), (2, .int (mm_b s0))]) dX12_law_82 (by decide) rfl ?_
          refine mm_goto 46 dX12_law_83 rfl ?_
          exact ih s0 M_11
        refine mm_jnP (P := fun j => ∀ (M : mm_M), mm_G (fun x : Int32 => some (.int x)) E Y_X12_law 9 81 [(0, .ref 97)] [] M (j M)) ?_ (fun j81 hj81 => ?_)
        · intro M_12
          refine mm_iconst (v := 0) dX12_law_81 rfl ?_
          exact hj82 false M_12
        refine mm_if_eq_b 81 dX12_law_67 rfl ?_ ?_
        · refine mm_wk [0] rfl ?_
          exact hj81  M_10
        · refine mm_aload_n 0 dX12_law_70 rfl ?_
          refine mm_callVz (as := []) (st := []) (c_R_readsClause E M_10) dX12_law_71 mz_X12_readsClause lk_RX12_297 im_X12_readsClause se_X12_readsClause lo_97 rfl rfl rfl ⟨Nat.le_of_ble_eq_true rfl, Nat.le_of_ble_eq_true rfl⟩ (Nat.le_of_ble_eq_true rfl) (fun b_13 M_14 => ?_)
          refine mm_if_eq_b 81 dX12_law_74 rfl ?_ ?_
          · refine mm_wk [0] rfl ?_
            exact hj81  M_14
          · refine mm_iconst (v := 1) dX12_law_77 rfl ?_
            refine mm_goto 82 dX12_law_78 rfl ?_
            refine mm_wk [0] rfl ?_
            exact hj82 true M_14
def lp_R_law_110 (k136 : mm_M → Option (Int32 × mm_M)) : Nat → Int32 → mm_M → Option (Int32 × mm_M)
  | 0, _, _ => none
  | n + 1, v3, M => if M.1 97 23 ≤ v3 then k136 M else if mm_in v3 (mm_al 109) = true then if mm_in v3 (mm_al 115) = true then mm_let (mm_setA M 115 (v3.toNatClampNeg) (M.2.1 109 v3.toNatClampNeg)) fun M_18 => mm_let (v3 + 1) fun v3_19 => lp_R_law_110 k136 n v3_19 M_18 else none else none
set_option maxHeartbeats 4000000 in
theorem lp_R_law_110_ok (E : mm_E) {k136 : mm_M → Option (Int32 × mm_M)} (hk136 : ∀ (M : mm_M), mm_G (fun x : Int32 => some (.int x)) E Y_X12_law 9 136 [(0, .ref 97)] [] M (k136 M)) : ∀ (n : Nat) (v3 : Int32) (M : mm_M), mm_G (fun x : Int32 => some (.int x)) E Y_X12_law 9 110 [(0, .ref 97), (3, .int v3)] [] M (lp_R_law_110 k136 n v3 M) := by
  intro n
  induction n with
  | zero => intro v3 M r M2 he; cases he
  | succ n ih =>
    intro v3 M
    rw [lp_R_law_110]
    refine mm_iload_n 1 dX12_law_110 rfl ?_
    refine mm_aload_n 0 dX12_law_111 rfl ?_
    refine mm_getI dX12_law_112 fl_RX12_237 lo_97 rfl ?_
    refine mm_icmp_ge 136 dX12_law_115 rfl ?_ ?_
    · refine mm_wk [0] rfl ?_
      exact hk136  M
    · refine mm_aload_n 0 dX12_law_118 rfl ?_
      refine mm_getR 115 dX12_law_119 fl_RX12_62 lo_97 rfl ?_
      refine mm_iload_n 1 dX12_law_122 rfl ?_
      refine mm_aload_n 0 dX12_law_123 rfl ?_
      refine mm_getR 109 dX12_law_124 fl_RX12_44 lo_97 rfl ?_
      refine mm_iload_n 1 dX12_law_127 rfl ?_
      refine mm_iaload dX12_law_128 ?_
      refine mm_iastore dX12_law_129 ?_
      refine mm_nm_M (fun M_18 => ?_)
      refine mm_iincN 1 [1, 0] (v := v3 + 1) (lv2 := fun v3_19 => [(0, .ref 97), (3, .int v3_19)]) dX12_law_130 rfl rfl (by decide) (fun _ => rfl) (fun v3_19 => ?_)
      refine mm_goto 110 dX12_law_133 rfl ?_
      exact ih v3_19 M_18
def lp_R_law_138 (k200 : mm_M → Option (Int32 × mm_M)) : Nat → Int32 → mm_M → Option (Int32 × mm_M)
  | 0, _, _ => none
  | n + 1, v3, M => if M.1 97 25 ≤ v3 then k200 M else if mm_in v3 (mm_al 111) = true then if mm_in v3 (mm_al 116) = true then mm_let (mm_setA M 116 (v3.toNatClampNeg) (M.2.1 111 v3.toNatClampNeg)) fun M_21 => if mm_in v3 (mm_al 112) = true then if mm_in v3 (mm_al 117) = true then mm_let (mm_setA M_21 117 (v3.toNatClampNeg) (M_21.2.1 112 v3.toNatClampNeg)) fun M_22 => if mm_in v3 (mm_al 113) = true then if mm_in v3 (mm_al 118) = true then mm_let (mm_setA M_22 118 (v3.toNatClampNeg) (M_22.2.1 113 v3.toNatClampNeg)) fun M_23 => if mm_in v3 (mm_al 114) = true then if mm_in v3 (mm_al 119) = true then mm_let (mm_setA M_23 119 (v3.toNatClampNeg) (M_23.2.1 114 v3.toNatClampNeg)) fun M_24 => mm_let (v3 + 1) fun v3_25 => lp_R_law_138 k200 n v3_25 M_24 else none else none else none else none else none else none else none else none
set_option maxHeartbeats 4000000 in
theorem lp_R_law_138_ok (E : mm_E) {k200 : mm_M → Option (Int32 × mm_M)} (hk200 : ∀ (M : mm_M), mm_G (fun x : Int32 => some (.int x)) E Y_X12_law 9 200 [(0, .ref 97)] [] M (k200 M)) : ∀ (n : Nat) (v3 : Int32) (M : mm_M), mm_G (fun x : Int32 => some (.int x)) E Y_X12_law 9 138 [(0, .ref 97), (3, .int v3)] [] M (lp_R_law_138 k200 n v3 M) := by
  intro n
  induction n with
  | zero => intro v3 M r M2 he; cases he
  | succ n ih =>
    intro v3 M
    rw [lp_R_law_138]
    refine mm_iload_n 1 dX12_law_138 rfl ?_
    refine mm_aload_n 0 dX12_law_139 rfl ?_
    refine mm_getI dX12_law_140 fl_RX12_291 lo_97 rfl ?_
    refine mm_icmp_ge 200 dX12_law_143 rfl ?_ ?_
    · refine mm_wk [0] rfl ?_
      exact hk200  M
    · refine mm_aload_n 0 dX12_law_146 rfl ?_
      refine mm_getR 116 dX12_law_147 fl_RX12_65 lo_97 rfl ?_
      refine mm_iload_n 1 dX12_law_150 rfl ?_
      refine mm_aload_n 0 dX12_law_151 rfl ?_
      refine mm_getR 111 dX12_law_152 fl_RX12_50 lo_97 rfl ?_
      refine mm_iload_n 1 dX12_law_155 rfl ?_
      refine mm_iaload dX12_law_156 ?_
      refine mm_iastore dX12_law_157 ?_
      refine mm_nm_M (fun M_21 => ?_)
      refine mm_aload_n 0 dX12_law_158 rfl ?_
      refine mm_getR 117 dX12_law_159 fl_RX12_68 lo_97 rfl ?_
      refine mm_iload_n 1 dX12_law_162 rfl ?_
      refine mm_aload_n 0 dX12_law_163 rfl ?_
      refine mm_getR 112 dX12_law_164 fl_RX12_53 lo_97 rfl ?_
      refine mm_iload_n 1 dX12_law_167 rfl ?_
      refine mm_iaload dX12_law_168 ?_
      refine mm_iastore dX12_law_169 ?_
      refine mm_nm_M (fun M_22 => ?_)
      refine mm_aload_n 0 dX12_law_170 rfl ?_
      refine mm_getR 118 dX12_law_171 fl_RX12_71 lo_97 rfl ?_
      refine mm_iload_n 1 dX12_law_174 rfl ?_
      refine mm_aload_n 0 dX12_law_175 rfl ?_
      refine mm_getR 113 dX12_law_176 fl_RX12_56 lo_97 rfl ?_
      refine mm_iload_n 1 dX12_law_179 rfl ?_
      refine mm_iaload dX12_law_180 ?_
      refine mm_iastore dX12_law_181 ?_
      refine mm_nm_M (fun M_23 => ?_)
      refine mm_aload_n 0 dX12_law_182 rfl ?_
      refine mm_getR 119 dX12_law_183 fl_RX12_74 lo_97 rfl ?_
      refine mm_iload_n 1 dX12_law_186 rfl ?_
      refine mm_aload_n 0 dX12_law_187 rfl ?_
      refine mm_getR 114 dX12_law_188 fl_RX12_59 lo_97 rfl ?_
      refine mm_iload_n 1 dX12_law_191 rfl ?_
      refine mm_iaload dX12_law_192 ?_
      refine mm_iastore dX12_law_193 ?_
      refine mm_nm_M (fun M_24 => ?_)
      refine mm_iincN 1 [1, 0] (v := v3 + 1) (lv2 := fun v3_25 => [(0, .ref 97), (3, .int v3_25)]) dX12_law_194 rfl rfl (by decide) (fun _ => rfl) (fun v3_25 => ?_)
      refine mm_goto 138 dX12_law_197 rfl ?_
      exact ih v3_25 M_24
def f_R_law (v1 : Int32) (M : mm_M) : Option (Int32 × mm_M) := mm_bd (f_R_in v1 1 160 M) fun b_1 M_2 => if b_1 = true then if v1 ≤ M_2.1 97 1 then mm_let (mm_setI M_2 97 2 0) fun M_3 => mm_let (mm_setI M_3 97 3 v1) fun M_4 => mm_let (mm_setI M_4 97 23 0) fun M_5 => mm_let (mm_setI M_5 97 25 0) fun M_6 => mm_bd (f_R_readsClause M_6) fun b_7 M_8 => lp_R_law_46 (fun (v2 : Bool) (M_15 : mm_M) => mm_let (mm_setI M_15 97 1 0) fun M_16 => if v2 = true then mm_let (mm_setI M_16 97 26 (M_16.1 97 25)) fun M_17 => lp_R_law_110 (fun (M_20 : mm_M) => lp_R_law_138 (fun (M_26 : mm_M) => some (M_26.1 97 25, M_26)) mm_fu 0 M_20) mm_fu 0 M_17 else some (M_16.1 97 4, M_16)) mm_fu b_7 M_8 else some ((-1), M_2) else some ((-1), M_2)
set_option maxHeartbeats 4000000 in
theorem c_R_law (E : mm_E) (v1 : Int32) (M : mm_M) : ∀ (r : Int32) (M2 : mm_M), f_R_law v1 M = some (r, M2) → mm_P E Y_X12_law 9 [.ref 97, .int v1] M (some (.int r)) M2 := by
  refine mm_entry (em := (fun x : Int32 => some (.int x))) (by decide +kernel) (Nat.le_of_ble_eq_true rfl) ?_
  show mm_G _ E _ _ 0 [(0, .ref 97), (1, .int v1)] [] M _
  unfold f_R_law
  refine mm_iload_n 1 dX12_law_0 rfl ?_
  refine mm_iconst (v := 1) dX12_law_1 rfl ?_
  refine mm_sipush (v := 160) dX12_law_2 rfl ?_
  refine mm_callSz (as := [.int v1, .int 1, .int 160]) (st := []) (c_R_in E v1 1 160 M) dX12_law_5 mz_X12_in lk_RX12_169 sm_X12_in rfl ⟨Nat.le_of_ble_eq_true rfl, Nat.le_of_ble_eq_true rfl⟩ (Nat.le_of_ble_eq_true rfl) (fun b_1 M_2 => ?_)
  refine mm_if_eq_b 19 dX12_law_8 rfl ?_ ?_
  · refine mm_iconst (v := (-1)) dX12_law_19 rfl ?_
    exact mm_iret dX12_law_20 rfl
  · refine mm_iload_n 1 dX12_law_11 rfl ?_
    refine mm_aload_n 0 dX12_law_12 rfl ?_
    refine mm_getI dX12_law_13 fl_RX12_144 lo_97 rfl ?_
    refine mm_icmp_le 21 dX12_law_16 rfl ?_ ?_
    · refine mm_aload_n 0 dX12_law_21 rfl ?_
      refine mm_iconst (v := 0) dX12_law_22 rfl ?_
      refine mm_putI dX12_law_23 fp_RX12_151 lo_97 rfl ?_
      refine mm_nm_M (fun M_3 => ?_)
      refine mm_aload_n 0 dX12_law_26 rfl ?_
      refine mm_iload_n 1 dX12_law_27 rfl ?_
      refine mm_putI dX12_law_28 fp_RX12_187 lo_97 rfl ?_
      refine mm_nm_M (fun M_4 => ?_)
      refine mm_aload_n 0 dX12_law_31 rfl ?_
      refine mm_iconst (v := 0) dX12_law_32 rfl ?_
      refine mm_putI dX12_law_33 fp_RX12_237 lo_97 rfl ?_
      refine mm_nm_M (fun M_5 => ?_)
      refine mm_aload_n 0 dX12_law_36 rfl ?_
      refine mm_iconst (v := 0) dX12_law_37 rfl ?_
      refine mm_putI dX12_law_38 fp_RX12_291 lo_97 rfl ?_
      refine mm_nm_M (fun M_6 => ?_)
      refine mm_aload_n 0 dX12_law_41 rfl ?_
      refine mm_callVz (as := []) (st := []) (c_R_readsClause E M_6) dX12_law_42 mz_X12_readsClause lk_RX12_297 im_X12_readsClause se_X12_readsClause lo_97 rfl rfl rfl ⟨Nat.le_of_ble_eq_true rfl, Nat.le_of_ble_eq_true rfl⟩ (Nat.le_of_ble_eq_true rfl) (fun b_7 M_8 => ?_)
      refine mm_istore_n [1, 2, 0] (lv2 := [(0, .ref 97), (1, .int v1), (2, .int (mm_b b_7))]) dX12_law_45 (by decide) rfl ?_
      refine mm_wk [0, 2] rfl ?_
      refine lp_R_law_46_ok E ?_ mm_fu b_7 M_8
      · intro v2 M_15
        refine mm_aload_n 0 dX12_law_86 rfl ?_
        refine mm_iconst (v := 0) dX12_law_87 rfl ?_
        refine mm_putI dX12_law_88 fp_RX12_144 lo_97 rfl ?_
        refine mm_nm_M (fun M_16 => ?_)
        refine mm_iload_n 1 dX12_law_91 rfl ?_
        refine mm_if_ne_b 100 dX12_law_92 rfl ?_ ?_
        · refine mm_aload_n 0 dX12_law_100 rfl ?_
          refine mm_aload_n 0 dX12_law_101 rfl ?_
          refine mm_getI dX12_law_102 fl_RX12_291 lo_97 rfl ?_
          refine mm_putI dX12_law_105 fp_RX12_300 lo_97 rfl ?_
          refine mm_nm_M (fun M_17 => ?_)
          refine mm_iconst (v := 0) dX12_law_108 rfl ?_
          refine mm_istore_n [1, 2, 0] (lv2 := [(0, .ref 97), (2, .int (mm_b v2)), (3, .int 0)]) dX12_law_109 (by decide) rfl ?_
          refine mm_wk [0, 2] rfl ?_
          refine lp_R_law_110_ok E ?_ mm_fu 0 M_17
          · intro M_20
            refine mm_iconst (v := 0) dX12_law_136 rfl ?_
            refine mm_istore_n [1, 0] (lv2 := [(0, .ref 97), (3, .int 0)]) dX12_law_137 (by decide) rfl ?_
            refine lp_R_law_138_ok E ?_ mm_fu 0 M_20
            · intro M_26
              refine mm_aload_n 0 dX12_law_200 rfl ?_
              refine mm_getI dX12_law_201 fl_RX12_291 lo_97 rfl ?_
              exact mm_iret dX12_law_204 rfl
        · refine mm_aload_n 0 dX12_law_95 rfl ?_
          refine mm_getI dX12_law_96 fl_RX12_193 lo_97 rfl ?_
          exact mm_iret dX12_law_99 rfl
    · refine mm_iconst (v := (-1)) dX12_law_19 rfl ?_
      exact mm_iret dX12_law_20 rfl
def lp_R_startsDay_20 (k39 : mm_M → Option (Unit × mm_M)) : Nat → Int32 → mm_M → Option (Unit × mm_M)
  | 0, _, _ => none
  | n + 1, v1, M => if 10 ≤ v1 then k39 M else if mm_in v1 (mm_al 127) = true then mm_let (mm_setA M 127 (v1.toNatClampNeg) 0) fun M_4 => mm_let (v1 + 1) fun v1_5 => lp_R_startsDay_20 k39 n v1_5 M_4 else none
set_option maxHeartbeats 4000000 in
theorem lp_R_startsDay_20_ok (E : mm_E) {k39 : mm_M → Option (Unit × mm_M)} (hk39 : ∀ (M : mm_M), mm_G (fun _ : Unit => none) E Y_X12_startsDay 1 39 [] [] M (k39 M)) : ∀ (n : Nat) (v1 : Int32) (M : mm_M), mm_G (fun _ : Unit => none) E Y_X12_startsDay 1 20 [(0, .ref 97), (1, .int v1)] [] M (lp_R_startsDay_20 k39 n v1 M) := by
  intro n
  induction n with
  | zero => intro v1 M r M2 he; cases he
  | succ n ih =>
    intro v1 M
    rw [lp_R_startsDay_20]
    refine mm_iload_n 1 dX12_startsDay_20 rfl ?_
    refine mm_bipush (v := 10) dX12_startsDay_21 rfl ?_
    refine mm_icmp_ge 39 dX12_startsDay_23 rfl ?_ ?_
    · refine mm_wk [] rfl ?_
      exact hk39  M
    · refine mm_aload_n 0 dX12_startsDay_26 rfl ?_
      refine mm_getR 127 dX12_startsDay_27 fl_RX12_98 lo_97 rfl ?_
      refine mm_iload_n 1 dX12_startsDay_30 rfl ?_
      refine mm_iconst (v := 0) dX12_startsDay_31 rfl ?_
      refine mm_iastore dX12_startsDay_32 ?_
      refine mm_nm_M (fun M_4 => ?_)
      refine mm_iincN 1 [1, 0] (v := v1 + 1) (lv2 := fun v1_5 => [(0, .ref 97), (1, .int v1_5)]) dX12_startsDay_33 rfl rfl (by decide) (fun _ => rfl) (fun v1_5 => ?_)
      refine mm_goto 20 dX12_startsDay_36 rfl ?_
      exact ih v1_5 M_4
def f_R_startsDay (M : mm_M) : Option (Unit × mm_M) := mm_let (mm_setI M 97 47 0) fun M_1 => mm_let (mm_setI M_1 97 48 0) fun M_2 => mm_let (mm_setI M_2 97 49 (M_2.1 97 10)) fun M_3 => lp_R_startsDay_20 (fun (M_6 : mm_M) => some ((), M_6)) mm_fu 0 M_3
set_option maxHeartbeats 4000000 in
theorem c_R_startsDay (E : mm_E) (M : mm_M) : ∀ (r : Unit) (M2 : mm_M), f_R_startsDay M = some (r, M2) → mm_P E Y_X12_startsDay 1 [.ref 97] M none M2 := by
  refine mm_entry (em := (fun _ : Unit => none)) (by decide +kernel) (Nat.le_of_ble_eq_true rfl) ?_
  show mm_G _ E _ _ 0 [(0, .ref 97)] [] M _
  unfold f_R_startsDay
  refine mm_aload_n 0 dX12_startsDay_0 rfl ?_
  refine mm_iconst (v := 0) dX12_startsDay_1 rfl ?_
  refine mm_putI dX12_startsDay_2 fp_RX12_328 lo_97 rfl ?_
  refine mm_nm_M (fun M_1 => ?_)
  refine mm_aload_n 0 dX12_startsDay_5 rfl ?_
  refine mm_iconst (v := 0) dX12_startsDay_6 rfl ?_
  refine mm_putI dX12_startsDay_7 fp_RX12_325 lo_97 rfl ?_
  refine mm_nm_M (fun M_2 => ?_)
  refine mm_aload_n 0 dX12_startsDay_10 rfl ?_
  refine mm_aload_n 0 dX12_startsDay_11 rfl ?_
  refine mm_getI dX12_startsDay_12 fl_RX12_141 lo_97 rfl ?_
  refine mm_putI dX12_startsDay_15 fp_RX12_322 lo_97 rfl ?_
  refine mm_nm_M (fun M_3 => ?_)
  refine mm_iconst (v := 0) dX12_startsDay_18 rfl ?_
  refine mm_istore_n [1, 0] (lv2 := [(0, .ref 97), (1, .int 0)]) dX12_startsDay_19 (by decide) rfl ?_
  refine lp_R_startsDay_20_ok E ?_ mm_fu 0 M_3
  · intro M_6
    exact mm_vret dX12_startsDay_39 rfl
def f_R_feels (v1 : Int32) (v2 : Int32) (v3 : Int32) (v4 : Int32) (v5 : Int32) (M : mm_M) : Option (Unit × mm_M) := if mm_in 0 (mm_al 121) = true then mm_let (mm_setA M 121 ((0 : Int32).toNatClampNeg) v1) fun M_1 => if mm_in v1 (mm_al 105) = true then if mm_in 1 (mm_al 121) = true then mm_let (mm_setA M_1 121 ((1 : Int32).toNatClampNeg) (M_1.2.1 105 v1.toNatClampNeg)) fun M_2 => if mm_in v1 (mm_al 105) = true then if mm_in (M_2.2.1 105 v1.toNatClampNeg) (mm_al 101) = true then if mm_in 2 (mm_al 121) = true then mm_let (mm_setA M_2 121 ((2 : Int32).toNatClampNeg) (M_2.2.1 101 (M_2.2.1 105 v1.toNatClampNeg).toNatClampNeg)) fun M_3 => if mm_in v1 (mm_al 106) = true then if mm_in 3 (mm_al 121) = true then mm_let (mm_setA M_3 121 ((3 : Int32).toNatClampNeg) (M_3.2.1 106 v1.toNatClampNeg)) fun M_4 => if mm_in v1 (mm_al 107) = true then if mm_in 4 (mm_al 121) = true then mm_let (mm_setA M_4 121 ((4 : Int32).toNatClampNeg) (M_4.2.1 107 v1.toNatClampNeg)) fun M_5 => if mm_in 5 (mm_al 121) = true then mm_let (mm_setA M_5 121 ((5 : Int32).toNatClampNeg) v2) fun M_6 => if mm_in 6 (mm_al 121) = true then mm_let (mm_setA M_6 121 ((6 : Int32).toNatClampNeg) v3) fun M_7 => if mm_in 7 (mm_al 121) = true then mm_let (mm_setA M_7 121 ((7 : Int32).toNatClampNeg) v4) fun M_8 => if mm_in 8 (mm_al 121) = true then mm_let (mm_setA M_8 121 ((8 : Int32).toNatClampNeg) v5) fun M_9 => some ((), M_9) else none else none else none else none else none else none else none else none else none else none else none else none else none else none
set_option maxHeartbeats 4000000 in
theorem c_R_feels (E : mm_E) (v1 : Int32) (v2 : Int32) (v3 : Int32) (v4 : Int32) (v5 : Int32) (M : mm_M) : ∀ (r : Unit) (M2 : mm_M), f_R_feels v1 v2 v3 v4 v5 M = some (r, M2) → mm_P E Y_X12_feels 1 [.ref 97, .int v1, .int v2, .int v3, .int v4, .int v5] M none M2 := by
  refine mm_entry (em := (fun _ : Unit => none)) (by decide +kernel) (Nat.le_of_ble_eq_true rfl) ?_
  show mm_G _ E _ _ 0 [(0, .ref 97), (1, .int v1), (2, .int v2), (3, .int v3), (4, .int v4), (5, .int v5)] [] M _
  unfold f_R_feels
  refine mm_aload_n 0 dX12_feels_0 rfl ?_
  refine mm_getR 121 dX12_feels_1 fl_RX12_80 lo_97 rfl ?_
  refine mm_iconst (v := 0) dX12_feels_4 rfl ?_
  refine mm_iload_n 1 dX12_feels_5 rfl ?_
  refine mm_iastore dX12_feels_6 ?_
  refine mm_nm_M (fun M_1 => ?_)
  refine mm_aload_n 0 dX12_feels_7 rfl ?_
  refine mm_getR 121 dX12_feels_8 fl_RX12_80 lo_97 rfl ?_
  refine mm_iconst (v := 1) dX12_feels_11 rfl ?_
  refine mm_aload_n 0 dX12_feels_12 rfl ?_
  refine mm_getR 105 dX12_feels_13 fl_RX12_32 lo_97 rfl ?_
  refine mm_iload_n 1 dX12_feels_16 rfl ?_
  refine mm_iaload dX12_feels_17 ?_
  refine mm_iastore dX12_feels_18 ?_
  refine mm_nm_M (fun M_2 => ?_)
  refine mm_aload_n 0 dX12_feels_19 rfl ?_
  refine mm_getR 121 dX12_feels_20 fl_RX12_80 lo_97 rfl ?_
  refine mm_iconst (v := 2) dX12_feels_23 rfl ?_
  refine mm_aload_n 0 dX12_feels_24 rfl ?_
  refine mm_getR 101 dX12_feels_25 fl_RX12_20 lo_97 rfl ?_
  refine mm_aload_n 0 dX12_feels_28 rfl ?_
  refine mm_getR 105 dX12_feels_29 fl_RX12_32 lo_97 rfl ?_
  refine mm_iload_n 1 dX12_feels_32 rfl ?_
  refine mm_iaload dX12_feels_33 ?_
  refine mm_iaload dX12_feels_34 ?_
  refine mm_iastore dX12_feels_35 ?_
  refine mm_nm_M (fun M_3 => ?_)
  refine mm_aload_n 0 dX12_feels_36 rfl ?_
  refine mm_getR 121 dX12_feels_37 fl_RX12_80 lo_97 rfl ?_
  refine mm_iconst (v := 3) dX12_feels_40 rfl ?_
  refine mm_aload_n 0 dX12_feels_41 rfl ?_
  refine mm_getR 106 dX12_feels_42 fl_RX12_35 lo_97 rfl ?_
  refine mm_iload_n 1 dX12_feels_45 rfl ?_
  refine mm_iaload dX12_feels_46 ?_
  refine mm_iastore dX12_feels_47 ?_
  refine mm_nm_M (fun M_4 => ?_)
  refine mm_aload_n 0 dX12_feels_48 rfl ?_
  refine mm_getR 121 dX12_feels_49 fl_RX12_80 lo_97 rfl ?_
  refine mm_iconst (v := 4) dX12_feels_52 rfl ?_
  refine mm_aload_n 0 dX12_feels_53 rfl ?_
  refine mm_getR 107 dX12_feels_54 fl_RX12_38 lo_97 rfl ?_
  refine mm_iload_n 1 dX12_feels_57 rfl ?_
  refine mm_iaload dX12_feels_58 ?_
  refine mm_iastore dX12_feels_59 ?_
  refine mm_nm_M (fun M_5 => ?_)
  refine mm_aload_n 0 dX12_feels_60 rfl ?_
  refine mm_getR 121 dX12_feels_61 fl_RX12_80 lo_97 rfl ?_
  refine mm_iconst (v := 5) dX12_feels_64 rfl ?_
  refine mm_iload_n 2 dX12_feels_65 rfl ?_
  refine mm_iastore dX12_feels_66 ?_
  refine mm_nm_M (fun M_6 => ?_)
  refine mm_aload_n 0 dX12_feels_67 rfl ?_
  refine mm_getR 121 dX12_feels_68 fl_RX12_80 lo_97 rfl ?_
  refine mm_bipush (v := 6) dX12_feels_71 rfl ?_
  refine mm_iload_n 3 dX12_feels_73 rfl ?_
  refine mm_iastore dX12_feels_74 ?_
  refine mm_nm_M (fun M_7 => ?_)
  refine mm_aload_n 0 dX12_feels_75 rfl ?_
  refine mm_getR 121 dX12_feels_76 fl_RX12_80 lo_97 rfl ?_
  refine mm_bipush (v := 7) dX12_feels_79 rfl ?_
  refine mm_iload 4 dX12_feels_81 rfl ?_
  refine mm_iastore dX12_feels_83 ?_
  refine mm_nm_M (fun M_8 => ?_)
  refine mm_aload_n 0 dX12_feels_84 rfl ?_
  refine mm_getR 121 dX12_feels_85 fl_RX12_80 lo_97 rfl ?_
  refine mm_bipush (v := 8) dX12_feels_88 rfl ?_
  refine mm_iload 5 dX12_feels_90 rfl ?_
  refine mm_iastore dX12_feels_92 ?_
  refine mm_nm_M (fun M_9 => ?_)
  exact mm_vret dX12_feels_93 rfl
def f_R_reckon (v0 : Int32) (v1 : Int32) (v2 : Int32) (M : mm_M) : Option (Int32 × mm_M) := if v0 = 2 then some (v1 + v2, M) else if v0 = 3 then some (v1 - v2, M) else if v0 = 4 then some (v1 * v2, M) else if v0 = 5 then if v2 = 0 then none else some (v1 / v2, M) else if v0 = 6 then if v2 = 0 then none else some (mm_rem v1 v2, M) else if v0 = 7 then if v2 ≤ v1 then some (0, M) else some (1, M) else if v0 = 8 then if v1 ≤ v2 then some (0, M) else some (1, M) else if v1 = v2 then some (1, M) else some (0, M)
set_option maxHeartbeats 4000000 in
theorem c_R_reckon (E : mm_E) (v0 : Int32) (v1 : Int32) (v2 : Int32) (M : mm_M) : ∀ (r : Int32) (M2 : mm_M), f_R_reckon v0 v1 v2 M = some (r, M2) → mm_P E Y_X12_reckon 1 [.int v0, .int v1, .int v2] M (some (.int r)) M2 := by
  refine mm_entry (em := (fun x : Int32 => some (.int x))) (by decide +kernel) (Nat.le_of_ble_eq_true rfl) ?_
  show mm_G _ E _ _ 0 [(0, .int v0), (1, .int v1), (2, .int v2)] [] M _
  unfold f_R_reckon
  refine mm_iload_n 0 dX12_reckon_0 rfl ?_
  refine mm_tabC 2 44 dX12_reckon_1 (by decide) (by decide) rfl rfl ?_ (fun h2 => ?_)
  · refine mm_iload_n 1 dX12_reckon_44 rfl ?_
    refine mm_iload_n 2 dX12_reckon_45 rfl ?_
    refine mm_iadd dX12_reckon_46 ?_
    exact mm_iret dX12_reckon_47 rfl
  refine mm_tabC 3 48 dX12_reckon_1 (by decide) (by decide) rfl rfl ?_ (fun h3 => ?_)
  · refine mm_iload_n 1 dX12_reckon_48 rfl ?_
    refine mm_iload_n 2 dX12_reckon_49 rfl ?_
    refine mm_isub dX12_reckon_50 ?_
    exact mm_iret dX12_reckon_51 rfl
  refine mm_tabC 4 52 dX12_reckon_1 (by decide) (by decide) rfl rfl ?_ (fun h4 => ?_)
  · refine mm_iload_n 1 dX12_reckon_52 rfl ?_
    refine mm_iload_n 2 dX12_reckon_53 rfl ?_
    refine mm_imul dX12_reckon_54 ?_
    exact mm_iret dX12_reckon_55 rfl
  refine mm_tabC 5 56 dX12_reckon_1 (by decide) (by decide) rfl rfl ?_ (fun h5 => ?_)
  · refine mm_iload_n 1 dX12_reckon_56 rfl ?_
    refine mm_iload_n 2 dX12_reckon_57 rfl ?_
    refine mm_idiv dX12_reckon_58 ?_
    exact mm_iret dX12_reckon_59 rfl
  refine mm_tabC 6 60 dX12_reckon_1 (by decide) (by decide) rfl rfl ?_ (fun h6 => ?_)
  · refine mm_iload_n 1 dX12_reckon_60 rfl ?_
    refine mm_iload_n 2 dX12_reckon_61 rfl ?_
    refine mm_irem dX12_reckon_62 ?_
    exact mm_iret dX12_reckon_63 rfl
  refine mm_tabC 7 64 dX12_reckon_1 (by decide) (by decide) rfl rfl ?_ (fun h7 => ?_)
  · refine mm_iload_n 1 dX12_reckon_64 rfl ?_
    refine mm_iload_n 2 dX12_reckon_65 rfl ?_
    refine mm_icmp_ge 73 dX12_reckon_66 rfl ?_ ?_
    · refine mm_iconst (v := 0) dX12_reckon_73 rfl ?_
      exact mm_iret dX12_reckon_74 rfl
    · refine mm_iconst (v := 1) dX12_reckon_69 rfl ?_
      refine mm_goto 74 dX12_reckon_70 rfl ?_
      exact mm_iret dX12_reckon_74 rfl
  refine mm_tabC 8 75 dX12_reckon_1 (by decide) (by decide) rfl rfl ?_ (fun h8 => ?_)
  · refine mm_iload_n 1 dX12_reckon_75 rfl ?_
    refine mm_iload_n 2 dX12_reckon_76 rfl ?_
    refine mm_icmp_le 84 dX12_reckon_77 rfl ?_ ?_
    · refine mm_iconst (v := 0) dX12_reckon_84 rfl ?_
      exact mm_iret dX12_reckon_85 rfl
    · refine mm_iconst (v := 1) dX12_reckon_80 rfl ?_
      refine mm_goto 85 dX12_reckon_81 rfl ?_
      exact mm_iret dX12_reckon_85 rfl
  refine mm_tabD 86 dX12_reckon_1 ?_ rfl ?_
  · have := lv_neT (a := 2) h2 (by decide); have := lv_neT (a := 3) h3 (by decide); have := lv_neT (a := 4) h4 (by decide); have := lv_neT (a := 5) h5 (by decide); have := lv_neT (a := 6) h6 (by decide); have := lv_neT (a := 7) h7 (by decide); have := lv_neT (a := 8) h8 (by decide)
    omega
  refine mm_iload_n 1 dX12_reckon_86 rfl ?_
  refine mm_iload_n 2 dX12_reckon_87 rfl ?_
  refine mm_icmp_ne 95 dX12_reckon_88 rfl ?_ ?_
  · refine mm_iconst (v := 0) dX12_reckon_95 rfl ?_
    exact mm_iret dX12_reckon_96 rfl
  · refine mm_iconst (v := 1) dX12_reckon_91 rfl ?_
    refine mm_goto 96 dX12_reckon_92 rfl ?_
    exact mm_iret dX12_reckon_96 rfl
def lp_R_comesTo_16 (v2 : Int32) (v4 : Int32) (k201 : mm_M → Option (Int32 × mm_M)) (k233 : mm_M → Option (Int32 × mm_M)) : Nat → Int32 → Int32 → mm_M → Option (Int32 × mm_M)
  | 0, _, _, _ => none
  | n + 1, v3, v5, M => if v2 ≤ v5 then k233 M else if mm_in v5 (mm_al 115) = true then mm_let ((M.2.1 115 v5.toNatClampNeg) / 1048576) fun v6_2 => if mm_in v5 (mm_al 115) = true then mm_let (mm_rem (M.2.1 115 v5.toNatClampNeg) 1048576) fun v7_3 => mm_let (v5 + 1) fun v5_4 => mm_jn (fun (v3 : Int32) (v5 : Int32) (M_5 : mm_M) => lp_R_comesTo_16 v2 v4 k201 k233 n v3 v5 M_5) fun j230 => mm_jn (fun (v3 : Int32) (v5 : Int32) (v6 : Int32) (v7 : Int32) (M_6 : mm_M) => mm_jn (fun (v3 : Int32) (v5 : Int32) (s1 : Int32) (s2 : Int32) (M_7 : mm_M) => if mm_in s1 (mm_al 120) = true then mm_let (mm_setA M_7 120 (s1.toNatClampNeg) s2) fun M_8 => mm_let (v3 + 1) fun v3_9 => j230 v3_9 v5 M_8 else none) fun j85 => if v6 = 0 then j85 v3 v5 v3 v7 M_6 else if mm_in v7 (mm_al 121) = true then j85 v3 v5 v3 (M_6.2.1 121 v7.toNatClampNeg) M_6 else none) fun j63 => if v6_2 = 0 then j63 v3 v5_4 v6_2 v7_3 M else if v6_2 = 1 then j63 v3 v5_4 v6_2 v7_3 M else if v6_2 = 10 then if mm_in (v3 - 1) (mm_al 120) = true then if mm_in (v3 - 1) (mm_al 120) = true then mm_let (mm_setA M 120 ((v3 - 1).toNatClampNeg) (1 - (M.2.1 120 (v3 - 1).toNatClampNeg))) fun M_20 => j230 v3 v5_4 M_20 else none else none else mm_jn (fun (v3 : Int32) (v5 : Int32) (v6 : Int32) (v7 : Int32) (M_10 : mm_M) => if mm_in (v3 - 1) (mm_al 120) = true then mm_jn (fun (v3 : Int32) (v5 : Int32) (v7 : Int32) (s0 : Int32) (s1 : Bool) (M_11 : mm_M) => if s0 = mm_b s1 then mm_let (v4 + v7) fun v5_13 => j230 v3 v5_13 M_11 else mm_let (v3 - 1) fun v3_12 => j230 v3_12 v5 M_11) fun j155 => if v6 = 12 then j155 v3 v5 v7 (M_10.2.1 120 (v3 - 1).toNatClampNeg) true M_10 else j155 v3 v5 v7 (M_10.2.1 120 (v3 - 1).toNatClampNeg) false M_10 else none) fun j135 => if v6_2 = 11 then j135 v3 v5_4 v6_2 v7_3 M else if v6_2 = 12 then j135 v3 v5_4 v6_2 v7_3 M else mm_let (v3 - 1) fun v3_14 => mm_jn (fun (v3 : Int32) (v5 : Int32) (v6 : Int32) (M_15 : mm_M) => if mm_in (v3 - 1) (mm_al 120) = true then if mm_in v3 (mm_al 120) = true then mm_bd (f_R_reckon v6 (M_15.2.1 120 (v3 - 1).toNatClampNeg) (M_15.2.1 120 v3.toNatClampNeg) M_15) fun r_16 M_17 => if mm_in (v3 - 1) (mm_al 120) = true then mm_let (mm_setA M_17 120 ((v3 - 1).toNatClampNeg) r_16) fun M_18 => j230 v3 v5 M_18 else none else none else none) fun j203 => mm_jn (fun (v3 : Int32) (v5 : Int32) (v6 : Int32) (M_19 : mm_M) => if mm_in v3 (mm_al 120) = true then if M_19.2.1 120 v3.toNatClampNeg = 0 then k201 M_19 else j203 v3 v5 v6 M_19 else none) fun j192 => if v6_2 = 5 then j192 v3_14 v5_4 v6_2 M else if v6_2 = 6 then j192 v3_14 v5_4 v6_2 M else j203 v3_14 v5_4 v6_2 M else none else none
set_option maxHeartbeats 4000000 in
theorem lp_R_comesTo_16_ok (E : mm_E) (v2 : Int32) (v4 : Int32) {k201 : mm_M → Option (Int32 × mm_M)} {k233 : mm_M → Option (Int32 × mm_M)} (hk201 : ∀ (M : mm_M), mm_G (fun x : Int32 => some (.int x)) E Y_X12_comesTo 2 201 [] [] M (k201 M)) (hk233 : ∀ (M : mm_M), mm_G (fun x : Int32 => some (.int x)) E Y_X12_comesTo 2 233 [(0, .ref 97)] [] M (k233 M)) : ∀ (n : Nat) (v3 : Int32) (v5 : Int32) (M : mm_M), mm_G (fun x : Int32 => some (.int x)) E Y_X12_comesTo 2 16 [(0, .ref 97), (2, .int v2), (3, .int v3), (4, .int v4), (5, .int v5)] [] M (lp_R_comesTo_16 v2 v4 k201 k233 n v3 v5 M) := by
  intro n
  induction n with
  | zero => intro v3 v5 M r M2 he; cases he
  | succ n ih =>
    intro v3 v5 M
    rw [lp_R_comesTo_16]
    refine mm_iload 4 dX12_comesTo_16 rfl ?_
    refine mm_iload_n 1 dX12_comesTo_18 rfl ?_
    refine mm_icmp_ge 233 dX12_comesTo_19 rfl ?_ ?_
    · refine mm_wk [0] rfl ?_
      exact hk233  M
    · refine mm_aload_n 0 dX12_comesTo_22 rfl ?_
      refine mm_getR 115 dX12_comesTo_23 fl_RX12_62 lo_97 rfl ?_
      refine mm_iload 4 dX12_comesTo_26 rfl ?_
      refine mm_iaload dX12_comesTo_28 ?_
      refine mm_ldc dX12_comesTo_29 ct_RX12_240 ?_
      refine mm_idiv_c dX12_comesTo_31 (by decide) ?_
      refine mm_nm_int (fun v6_2 => ?_)
      refine mm_istore [1, 2, 3, 4, 5, 0] (lv2 := [(0, .ref 97), (2, .int v2), (3, .int v3), (4, .int v4), (5, .int v5), (6, .int v6_2)]) dX12_comesTo_32 (by decide) rfl ?_
      refine mm_aload_n 0 dX12_comesTo_34 rfl ?_
      refine mm_getR 115 dX12_comesTo_35 fl_RX12_62 lo_97 rfl ?_
      refine mm_iload 4 dX12_comesTo_38 rfl ?_
      refine mm_iaload dX12_comesTo_40 ?_
      refine mm_ldc dX12_comesTo_41 ct_RX12_240 ?_
      refine mm_irem_c dX12_comesTo_43 (by decide) ?_
      refine mm_nm_int (fun v7_3 => ?_)
      refine mm_istore [1, 2, 3, 4, 5, 6, 0] (lv2 := [(0, .ref 97), (2, .int v2), (3, .int v3), (4, .int v4), (5, .int v5), (6, .int v6_2), (7, .int v7_3)]) dX12_comesTo_44 (by decide) rfl ?_
      refine mm_iload 4 dX12_comesTo_46 rfl ?_
      refine mm_iconst (v := 1) dX12_comesTo_48 rfl ?_
      refine mm_iadd dX12_comesTo_49 ?_
      refine mm_nm_int (fun v5_4 => ?_)
      refine mm_istore [1, 2, 3, 4, 0, 5, 6] (lv2 := [(0, .ref 97), (2, .int v2), (3, .int v3), (4, .int v4), (5, .int v5_4), (6, .int v6_2), (7, .int v7_3)]) dX12_comesTo_50 (by decide) rfl ?_
      refine mm_iload 5 dX12_comesTo_52 rfl ?_
      refine mm_jnP (P := fun j => ∀ (v3 : Int32) (v5 : Int32) (M : mm_M), mm_G (fun x : Int32 => some (.int x)) E Y_X12_comesTo 2 230 [(0, .ref 97), (2, .int v2), (3, .int v3), (4, .int v4), (5, .int v5)] [] M (j v3 v5 M)) ?_ (fun j230 hj230 => ?_)
      · intro v3 v5 M_5
        refine mm_goto 16 dX12_comesTo_230 rfl ?_
        exact ih v3 v5 M_5
      refine mm_jnP (P := fun j => ∀ (v3 : Int32) (v5 : Int32) (v6 : Int32) (v7 : Int32) (M : mm_M), mm_G (fun x : Int32 => some (.int x)) E Y_X12_comesTo 2 63 [(0, .ref 97), (2, .int v2), (3, .int v3), (4, .int v4), (5, .int v5), (6, .int v6), (7, .int v7)] [] M (j v3 v5 v6 v7 M)) ?_ (fun j63 hj63 => ?_)
      · intro v3 v5 v6 v7 M_6
        refine mm_aload_n 0 dX12_comesTo_63 rfl ?_
        refine mm_getR 120 dX12_comesTo_64 fl_RX12_77 lo_97 rfl ?_
        refine mm_iload_n 2 dX12_comesTo_67 rfl ?_
        refine mm_iload 5 dX12_comesTo_68 rfl ?_
        refine mm_jnP (P := fun j => ∀ (v3 : Int32) (v5 : Int32) (s1 : Int32) (s2 : Int32) (M : mm_M), mm_G (fun x : Int32 => some (.int x)) E Y_X12_comesTo 2 85 [(0, .ref 97), (2, .int v2), (3, .int v3), (4, .int v4), (5, .int v5)] [.int s2, .int s1, .ref 120] M (j v3 v5 s1 s2 M)) ?_ (fun j85 hj85 => ?_)
        · intro v3 v5 s1 s2 M_7
          refine mm_iastore dX12_comesTo_85 ?_
          refine mm_nm_M (fun M_8 => ?_)
          refine mm_iload_n 2 dX12_comesTo_86 rfl ?_
          refine mm_iconst (v := 1) dX12_comesTo_87 rfl ?_
          refine mm_iadd dX12_comesTo_88 ?_
          refine mm_nm_int (fun v3_9 => ?_)
          refine mm_istore_n [1, 2, 0, 3, 4] (lv2 := [(0, .ref 97), (2, .int v2), (3, .int v3_9), (4, .int v4), (5, .int v5)]) dX12_comesTo_89 (by decide) rfl ?_
          refine mm_goto 230 dX12_comesTo_90 rfl ?_
          exact hj230 v3_9 v5 M_8
        refine mm_if_ne 78 dX12_comesTo_70 rfl ?_ ?_
        · refine mm_aload_n 0 dX12_comesTo_78 rfl ?_
          refine mm_getR 121 dX12_comesTo_79 fl_RX12_80 lo_97 rfl ?_
          refine mm_iload 6 dX12_comesTo_82 rfl ?_
          refine mm_iaload dX12_comesTo_84 ?_
          refine mm_wk [0, 1, 2, 3, 4] rfl ?_
          exact hj85 v3 v5 v3 (M_6.2.1 121 v7.toNatClampNeg) M_6
        · refine mm_iload 6 dX12_comesTo_73 rfl ?_
          refine mm_goto 85 dX12_comesTo_75 rfl ?_
          refine mm_wk [0, 1, 2, 3, 4] rfl ?_
          exact hj85 v3 v5 v3 v7 M_6
      refine mm_if_eq 63 dX12_comesTo_54 rfl ?_ ?_
      · exact hj63 v3 v5_4 v6_2 v7_3 M
      · refine mm_iload 5 dX12_comesTo_57 rfl ?_
        refine mm_iconst (v := 1) dX12_comesTo_59 rfl ?_
        refine mm_icmp_ne 93 dX12_comesTo_60 rfl ?_ ?_
        · refine mm_iload 5 dX12_comesTo_93 rfl ?_
          refine mm_bipush (v := 10) dX12_comesTo_95 rfl ?_
          refine mm_icmp_ne 121 dX12_comesTo_97 rfl ?_ ?_
          · refine mm_iload 5 dX12_comesTo_121 rfl ?_
            refine mm_bipush (v := 11) dX12_comesTo_123 rfl ?_
            refine mm_jnP (P := fun j => ∀ (v3 : Int32) (v5 : Int32) (v6 : Int32) (v7 : Int32) (M : mm_M), mm_G (fun x : Int32 => some (.int x)) E Y_X12_comesTo 2 135 [(0, .ref 97), (2, .int v2), (3, .int v3), (4, .int v4), (5, .int v5), (6, .int v6), (7, .int v7)] [] M (j v3 v5 v6 v7 M)) ?_ (fun j135 hj135 => ?_)
            · intro v3 v5 v6 v7 M_10
              refine mm_aload_n 0 dX12_comesTo_135 rfl ?_
              refine mm_getR 120 dX12_comesTo_136 fl_RX12_77 lo_97 rfl ?_
              refine mm_iload_n 2 dX12_comesTo_139 rfl ?_
              refine mm_iconst (v := 1) dX12_comesTo_140 rfl ?_
              refine mm_isub dX12_comesTo_141 ?_
              refine mm_iaload dX12_comesTo_142 ?_
              refine mm_iload 5 dX12_comesTo_143 rfl ?_
              refine mm_bipush (v := 12) dX12_comesTo_145 rfl ?_
              refine mm_jnP (P := fun j => ∀ (v3 : Int32) (v5 : Int32) (v7 : Int32) (s0 : Int32) (s1 : Bool) (M : mm_M), mm_G (fun x : Int32 => some (.int x)) E Y_X12_comesTo 2 155 [(0, .ref 97), (2, .int v2), (3, .int v3), (4, .int v4), (5, .int v5), (7, .int v7)] [.int (mm_b s1), .int s0] M (j v3 v5 v7 s0 s1 M)) ?_ (fun j155 hj155 => ?_)
              · intro v3 v5 v7 s0 s1 M_11
                refine mm_icmp_ne 168 dX12_comesTo_155 rfl ?_ ?_
                · refine mm_iload_n 2 dX12_comesTo_168 rfl ?_
                  refine mm_iconst (v := 1) dX12_comesTo_169 rfl ?_
                  refine mm_isub dX12_comesTo_170 ?_
                  refine mm_nm_int (fun v3_12 => ?_)
                  refine mm_istore_n [1, 2, 0, 3, 4, 5] (lv2 := [(0, .ref 97), (2, .int v2), (3, .int v3_12), (4, .int v4), (5, .int v5), (7, .int v7)]) dX12_comesTo_171 (by decide) rfl ?_
                  refine mm_goto 230 dX12_comesTo_172 rfl ?_
                  refine mm_wk [0, 1, 2, 3, 4] rfl ?_
                  exact hj230 v3_12 v5 M_11
                · refine mm_iload 3 dX12_comesTo_158 rfl ?_
                  refine mm_iload 5 dX12_comesTo_160 rfl ?_
                  refine mm_iadd dX12_comesTo_162 ?_
                  refine mm_nm_int (fun v5_13 => ?_)
                  refine mm_istore [1, 2, 3, 4, 0, 5] (lv2 := [(0, .ref 97), (2, .int v2), (3, .int v3), (4, .int v4), (5, .int v5_13), (7, .int v7)]) dX12_comesTo_163 (by decide) rfl ?_
                  refine mm_goto 230 dX12_comesTo_165 rfl ?_
                  refine mm_wk [0, 1, 2, 3, 4] rfl ?_
                  exact hj230 v3 v5_13 M_11
              refine mm_icmp_ne 154 dX12_comesTo_147 rfl ?_ ?_
              · refine mm_iconst (v := 0) dX12_comesTo_154 rfl ?_
                refine mm_wk [0, 1, 2, 3, 4, 6] rfl ?_
                exact hj155 v3 v5 v7 (M_10.2.1 120 (v3 - 1).toNatClampNeg) false M_10
              · refine mm_iconst (v := 1) dX12_comesTo_150 rfl ?_
                refine mm_goto 155 dX12_comesTo_151 rfl ?_
                refine mm_wk [0, 1, 2, 3, 4, 6] rfl ?_
                exact hj155 v3 v5 v7 (M_10.2.1 120 (v3 - 1).toNatClampNeg) true M_10
            refine mm_icmp_eq 135 dX12_comesTo_125 rfl ?_ ?_
            · exact hj135 v3 v5_4 v6_2 v7_3 M
            · refine mm_iload 5 dX12_comesTo_128 rfl ?_
              refine mm_bipush (v := 12) dX12_comesTo_130 rfl ?_
              refine mm_icmp_ne 175 dX12_comesTo_132 rfl ?_ ?_
              · refine mm_iload_n 2 dX12_comesTo_175 rfl ?_
                refine mm_iconst (v := 1) dX12_comesTo_176 rfl ?_
                refine mm_isub dX12_comesTo_177 ?_
                refine mm_nm_int (fun v3_14 => ?_)
                refine mm_istore_n [1, 2, 0, 3, 4, 5, 6] (lv2 := [(0, .ref 97), (2, .int v2), (3, .int v3_14), (4, .int v4), (5, .int v5_4), (6, .int v6_2), (7, .int v7_3)]) dX12_comesTo_178 (by decide) rfl ?_
                refine mm_iload 5 dX12_comesTo_179 rfl ?_
                refine mm_iconst (v := 5) dX12_comesTo_181 rfl ?_
                refine mm_jnP (P := fun j => ∀ (v3 : Int32) (v5 : Int32) (v6 : Int32) (M : mm_M), mm_G (fun x : Int32 => some (.int x)) E Y_X12_comesTo 2 203 [(0, .ref 97), (2, .int v2), (3, .int v3), (4, .int v4), (5, .int v5), (6, .int v6)] [] M (j v3 v5 v6 M)) ?_ (fun j203 hj203 => ?_)
                · intro v3 v5 v6 M_15
                  refine mm_aload_n 0 dX12_comesTo_203 rfl ?_
                  refine mm_getR 120 dX12_comesTo_204 fl_RX12_77 lo_97 rfl ?_
                  refine mm_iload_n 2 dX12_comesTo_207 rfl ?_
                  refine mm_iconst (v := 1) dX12_comesTo_208 rfl ?_
                  refine mm_isub dX12_comesTo_209 ?_
                  refine mm_iload 5 dX12_comesTo_210 rfl ?_
                  refine mm_aload_n 0 dX12_comesTo_212 rfl ?_
                  refine mm_getR 120 dX12_comesTo_213 fl_RX12_77 lo_97 rfl ?_
                  refine mm_iload_n 2 dX12_comesTo_216 rfl ?_
                  refine mm_iconst (v := 1) dX12_comesTo_217 rfl ?_
                  refine mm_isub dX12_comesTo_218 ?_
                  refine mm_iaload dX12_comesTo_219 ?_
                  refine mm_aload_n 0 dX12_comesTo_220 rfl ?_
                  refine mm_getR 120 dX12_comesTo_221 fl_RX12_77 lo_97 rfl ?_
                  refine mm_iload_n 2 dX12_comesTo_224 rfl ?_
                  refine mm_iaload dX12_comesTo_225 ?_
                  refine mm_callSi (as := [.int v6, .int (M_15.2.1 120 (v3 - 1).toNatClampNeg), .int (M_15.2.1 120 v3.toNatClampNeg)]) (st := [.int (v3 - 1), .ref 120]) (c_R_reckon E v6 (M_15.2.1 120 (v3 - 1).toNatClampNeg) (M_15.2.1 120 v3.toNatClampNeg) M_15) dX12_comesTo_226 mz_X12_reckon lk_RX12_303 sm_X12_reckon rfl ⟨Nat.le_of_ble_eq_true rfl, Nat.le_of_ble_eq_true rfl⟩ (Nat.le_of_ble_eq_true rfl) (fun r_16 M_17 => ?_)
                  refine mm_iastore dX12_comesTo_229 ?_
                  refine mm_nm_M (fun M_18 => ?_)
                  refine mm_wk [0, 1, 2, 3, 4] rfl ?_
                  exact hj230 v3 v5 M_18
                refine mm_jnP (P := fun j => ∀ (v3 : Int32) (v5 : Int32) (v6 : Int32) (M : mm_M), mm_G (fun x : Int32 => some (.int x)) E Y_X12_comesTo 2 192 [(0, .ref 97), (2, .int v2), (3, .int v3), (4, .int v4), (5, .int v5), (6, .int v6)] [] M (j v3 v5 v6 M)) ?_ (fun j192 hj192 => ?_)
                · intro v3 v5 v6 M_19
                  refine mm_aload_n 0 dX12_comesTo_192 rfl ?_
                  refine mm_getR 120 dX12_comesTo_193 fl_RX12_77 lo_97 rfl ?_
                  refine mm_iload_n 2 dX12_comesTo_196 rfl ?_
                  refine mm_iaload dX12_comesTo_197 ?_
                  refine mm_if_ne 203 dX12_comesTo_198 rfl ?_ ?_
                  · exact hj203 v3 v5 v6 M_19
                  · refine mm_wk [] rfl ?_
                    exact hk201  M_19
                refine mm_icmp_eq 192 dX12_comesTo_182 rfl ?_ ?_
                · refine mm_wk [0, 1, 2, 3, 4, 5] rfl ?_
                  exact hj192 v3_14 v5_4 v6_2 M
                · refine mm_iload 5 dX12_comesTo_185 rfl ?_
                  refine mm_bipush (v := 6) dX12_comesTo_187 rfl ?_
                  refine mm_icmp_ne 203 dX12_comesTo_189 rfl ?_ ?_
                  · refine mm_wk [0, 1, 2, 3, 4, 5] rfl ?_
                    exact hj203 v3_14 v5_4 v6_2 M
                  · refine mm_wk [0, 1, 2, 3, 4, 5] rfl ?_
                    exact hj192 v3_14 v5_4 v6_2 M
              · exact hj135 v3 v5_4 v6_2 v7_3 M
          · refine mm_aload_n 0 dX12_comesTo_100 rfl ?_
            refine mm_getR 120 dX12_comesTo_101 fl_RX12_77 lo_97 rfl ?_
            refine mm_iload_n 2 dX12_comesTo_104 rfl ?_
            refine mm_iconst (v := 1) dX12_comesTo_105 rfl ?_
            refine mm_isub dX12_comesTo_106 ?_
            refine mm_iconst (v := 1) dX12_comesTo_107 rfl ?_
            refine mm_aload_n 0 dX12_comesTo_108 rfl ?_
            refine mm_getR 120 dX12_comesTo_109 fl_RX12_77 lo_97 rfl ?_
            refine mm_iload_n 2 dX12_comesTo_112 rfl ?_
            refine mm_iconst (v := 1) dX12_comesTo_113 rfl ?_
            refine mm_isub dX12_comesTo_114 ?_
            refine mm_iaload dX12_comesTo_115 ?_
            refine mm_isub dX12_comesTo_116 ?_
            refine mm_iastore dX12_comesTo_117 ?_
            refine mm_nm_M (fun M_20 => ?_)
            refine mm_goto 230 dX12_comesTo_118 rfl ?_
            refine mm_wk [0, 1, 2, 3, 4] rfl ?_
            exact hj230 v3 v5_4 M_20
        · exact hj63 v3 v5_4 v6_2 v7_3 M
def f_R_comesTo (v1 : Int32) (v2 : Int32) (M : mm_M) : Option (Int32 × mm_M) := mm_let (180 * (v1 / 180)) fun v4_1 => lp_R_comesTo_16 v2 v4_1 (fun (M_21 : mm_M) => some (0, M_21)) (fun (M_22 : mm_M) => if mm_in 0 (mm_al 120) = true then some (M_22.2.1 120 (0 : Int32).toNatClampNeg, M_22) else none) mm_fu 0 v1 M
set_option maxHeartbeats 4000000 in
theorem c_R_comesTo (E : mm_E) (v1 : Int32) (v2 : Int32) (M : mm_M) : ∀ (r : Int32) (M2 : mm_M), f_R_comesTo v1 v2 M = some (r, M2) → mm_P E Y_X12_comesTo 2 [.ref 97, .int v1, .int v2] M (some (.int r)) M2 := by
  refine mm_entry (em := (fun x : Int32 => some (.int x))) (by decide +kernel) (Nat.le_of_ble_eq_true rfl) ?_
  show mm_G _ E _ _ 0 [(0, .ref 97), (1, .int v1), (2, .int v2)] [] M _
  unfold f_R_comesTo
  refine mm_iconst (v := 0) dX12_comesTo_0 rfl ?_
  refine mm_istore_n [1, 2, 3, 0] (lv2 := [(0, .ref 97), (1, .int v1), (2, .int v2), (3, .int 0)]) dX12_comesTo_1 (by decide) rfl ?_
  refine mm_sipush (v := 180) dX12_comesTo_2 rfl ?_
  refine mm_iload_n 1 dX12_comesTo_5 rfl ?_
  refine mm_sipush (v := 180) dX12_comesTo_6 rfl ?_
  refine mm_idiv_c dX12_comesTo_9 (by decide) ?_
  refine mm_imul dX12_comesTo_10 ?_
  refine mm_nm_int (fun v4_1 => ?_)
  refine mm_istore [1, 2, 3, 4, 0] (lv2 := [(0, .ref 97), (1, .int v1), (2, .int v2), (3, .int 0), (4, .int v4_1)]) dX12_comesTo_11 (by decide) rfl ?_
  refine mm_iload_n 1 dX12_comesTo_13 rfl ?_
  refine mm_istore [1, 2, 3, 4, 5, 0] (lv2 := [(0, .ref 97), (1, .int v1), (2, .int v2), (3, .int 0), (4, .int v4_1), (5, .int v1)]) dX12_comesTo_14 (by decide) rfl ?_
  refine mm_wk [0, 2, 3, 4, 5] rfl ?_
  refine lp_R_comesTo_16_ok E v2 v4_1 ?_ ?_ mm_fu 0 v1 M
  · intro M_21
    refine mm_iconst (v := 0) dX12_comesTo_201 rfl ?_
    exact mm_iret dX12_comesTo_202 rfl
  · intro M_22
    refine mm_aload_n 0 dX12_comesTo_233 rfl ?_
    refine mm_getR 120 dX12_comesTo_234 fl_RX12_77 lo_97 rfl ?_
    refine mm_iconst (v := 0) dX12_comesTo_237 rfl ?_
    refine mm_iaload dX12_comesTo_238 ?_
    exact mm_iret dX12_comesTo_239 rfl
def lp_R_byLaw_3 (v1 : Int32) (v2 : Int32) (v3 : Int32) (k48 : Int32 → mm_M → Option (Int32 × mm_M)) (k96 : mm_M → Option (Int32 × mm_M)) : Nat → Int32 → mm_M → Option (Int32 × mm_M)
  | 0, _, _ => none
  | n + 1, v4, M => if M.1 97 26 ≤ v4 then k96 M else if mm_in v4 (mm_al 116) = true then mm_jn (fun (v4 : Int32) (M_1 : mm_M) => mm_let (v4 + 1) fun v4_2 => lp_R_byLaw_3 v1 v2 v3 k48 k96 n v4_2 M_1) fun j90 => if M.2.1 116 v4.toNatClampNeg = v1 then if mm_in v4 (mm_al 118) = true then if mm_in v4 (mm_al 119) = true then mm_bd (f_R_comesTo (M.2.1 118 v4.toNatClampNeg) (M.2.1 119 v4.toNatClampNeg) M) fun r_3 M_4 => if r_3 = 1 then k48 v4 M_4 else j90 v4 M_4 else none else none else j90 v4 M else none
set_option maxHeartbeats 4000000 in
theorem lp_R_byLaw_3_ok (E : mm_E) (v1 : Int32) (v2 : Int32) (v3 : Int32) {k48 : Int32 → mm_M → Option (Int32 × mm_M)} {k96 : mm_M → Option (Int32 × mm_M)} (hk48 : ∀ (v4 : Int32) (M : mm_M), mm_G (fun x : Int32 => some (.int x)) E Y_X12_byLaw 3 48 [(0, .ref 97), (2, .int v2), (4, .int v4)] [] M (k48 v4 M)) (hk96 : ∀ (M : mm_M), mm_G (fun x : Int32 => some (.int x)) E Y_X12_byLaw 3 96 [(3, .int v3)] [] M (k96 M)) : ∀ (n : Nat) (v4 : Int32) (M : mm_M), mm_G (fun x : Int32 => some (.int x)) E Y_X12_byLaw 3 3 [(0, .ref 97), (1, .int v1), (2, .int v2), (3, .int v3), (4, .int v4)] [] M (lp_R_byLaw_3 v1 v2 v3 k48 k96 n v4 M) := by
  intro n
  induction n with
  | zero => intro v4 M r M2 he; cases he
  | succ n ih =>
    intro v4 M
    rw [lp_R_byLaw_3]
    refine mm_iload 4 dX12_byLaw_3 rfl ?_
    refine mm_aload_n 0 dX12_byLaw_5 rfl ?_
    refine mm_getI dX12_byLaw_6 fl_RX12_300 lo_97 rfl ?_
    refine mm_icmp_ge 96 dX12_byLaw_9 rfl ?_ ?_
    · refine mm_wk [3] rfl ?_
      exact hk96  M
    · refine mm_aload_n 0 dX12_byLaw_12 rfl ?_
      refine mm_getR 116 dX12_byLaw_13 fl_RX12_65 lo_97 rfl ?_
      refine mm_iload 4 dX12_byLaw_16 rfl ?_
      refine mm_iaload dX12_byLaw_18 ?_
      refine mm_iload_n 1 dX12_byLaw_19 rfl ?_
      refine mm_jnP (P := fun j => ∀ (v4 : Int32) (M : mm_M), mm_G (fun x : Int32 => some (.int x)) E Y_X12_byLaw 3 90 [(0, .ref 97), (1, .int v1), (2, .int v2), (3, .int v3), (4, .int v4)] [] M (j v4 M)) ?_ (fun j90 hj90 => ?_)
      · intro v4 M_1
        refine mm_iincN 4 [1, 2, 3, 4, 0] (v := v4 + 1) (lv2 := fun v4_2 => [(0, .ref 97), (1, .int v1), (2, .int v2), (3, .int v3), (4, .int v4_2)]) dX12_byLaw_90 rfl rfl (by decide) (fun _ => rfl) (fun v4_2 => ?_)
        refine mm_goto 3 dX12_byLaw_93 rfl ?_
        exact ih v4_2 M_1
      refine mm_icmp_ne 90 dX12_byLaw_20 rfl ?_ ?_
      · exact hj90 v4 M
      · refine mm_aload_n 0 dX12_byLaw_23 rfl ?_
        refine mm_aload_n 0 dX12_byLaw_24 rfl ?_
        refine mm_getR 118 dX12_byLaw_25 fl_RX12_71 lo_97 rfl ?_
        refine mm_iload 4 dX12_byLaw_28 rfl ?_
        refine mm_iaload dX12_byLaw_30 ?_
        refine mm_aload_n 0 dX12_byLaw_31 rfl ?_
        refine mm_getR 119 dX12_byLaw_32 fl_RX12_74 lo_97 rfl ?_
        refine mm_iload 4 dX12_byLaw_35 rfl ?_
        refine mm_iaload dX12_byLaw_37 ?_
        refine mm_callVi (as := [.int (M.2.1 118 v4.toNatClampNeg), .int (M.2.1 119 v4.toNatClampNeg)]) (st := []) (c_R_comesTo E (M.2.1 118 v4.toNatClampNeg) (M.2.1 119 v4.toNatClampNeg) M) dX12_byLaw_38 mz_X12_comesTo lk_RX12_306 im_X12_comesTo se_X12_comesTo lo_97 rfl rfl rfl ⟨Nat.le_of_ble_eq_true rfl, Nat.le_of_ble_eq_true rfl⟩ (Nat.le_of_ble_eq_true rfl) (fun r_3 M_4 => ?_)
        refine mm_iconst (v := 1) dX12_byLaw_41 rfl ?_
        refine mm_icmp_eq 48 dX12_byLaw_42 rfl ?_ ?_
        · refine mm_wk [0, 2, 4] rfl ?_
          exact hk48 v4 M_4
        · refine mm_goto 90 dX12_byLaw_45 rfl ?_
          exact hj90 v4 M_4
def f_R_byLaw (v1 : Int32) (v2 : Int32) (v3 : Int32) (M : mm_M) : Option (Int32 × mm_M) := lp_R_byLaw_3 v1 v2 v3 (fun (v4 : Int32) (M_5 : mm_M) => if mm_in v4 (mm_al 117) = true then if mm_in v4 (mm_al 118) = true then mm_bd (f_R_comesTo (M_5.2.1 117 v4.toNatClampNeg) (M_5.2.1 118 v4.toNatClampNeg) M_5) fun r_6 M_7 => if 0 ≤ r_6 then if r_6 ≤ v2 then some (r_6, M_7) else some (v2, M_7) else some (0, M_7) else none else none) (fun (M_8 : mm_M) => some (v3, M_8)) mm_fu 0 M
set_option maxHeartbeats 4000000 in
theorem c_R_byLaw (E : mm_E) (v1 : Int32) (v2 : Int32) (v3 : Int32) (M : mm_M) : ∀ (r : Int32) (M2 : mm_M), f_R_byLaw v1 v2 v3 M = some (r, M2) → mm_P E Y_X12_byLaw 3 [.ref 97, .int v1, .int v2, .int v3] M (some (.int r)) M2 := by
  refine mm_entry (em := (fun x : Int32 => some (.int x))) (by decide +kernel) (Nat.le_of_ble_eq_true rfl) ?_
  show mm_G _ E _ _ 0 [(0, .ref 97), (1, .int v1), (2, .int v2), (3, .int v3)] [] M _
  unfold f_R_byLaw
  refine mm_iconst (v := 0) dX12_byLaw_0 rfl ?_
  refine mm_istore [1, 2, 3, 4, 0] (lv2 := [(0, .ref 97), (1, .int v1), (2, .int v2), (3, .int v3), (4, .int 0)]) dX12_byLaw_1 (by decide) rfl ?_
  refine lp_R_byLaw_3_ok E v1 v2 v3 ?_ ?_ mm_fu 0 M
  · intro v4 M_5
    refine mm_aload_n 0 dX12_byLaw_48 rfl ?_
    refine mm_aload_n 0 dX12_byLaw_49 rfl ?_
    refine mm_getR 117 dX12_byLaw_50 fl_RX12_68 lo_97 rfl ?_
    refine mm_iload 2 dX12_byLaw_53 rfl ?_
    refine mm_iaload dX12_byLaw_55 ?_
    refine mm_aload_n 0 dX12_byLaw_56 rfl ?_
    refine mm_getR 118 dX12_byLaw_57 fl_RX12_71 lo_97 rfl ?_
    refine mm_iload 2 dX12_byLaw_60 rfl ?_
    refine mm_iaload dX12_byLaw_62 ?_
    refine mm_callVi (as := [.int (M_5.2.1 117 v4.toNatClampNeg), .int (M_5.2.1 118 v4.toNatClampNeg)]) (st := []) (c_R_comesTo E (M_5.2.1 117 v4.toNatClampNeg) (M_5.2.1 118 v4.toNatClampNeg) M_5) dX12_byLaw_63 mz_X12_comesTo lk_RX12_306 im_X12_comesTo se_X12_comesTo lo_97 rfl rfl rfl ⟨Nat.le_of_ble_eq_true rfl, Nat.le_of_ble_eq_true rfl⟩ (Nat.le_of_ble_eq_true rfl) (fun r_6 M_7 => ?_)
    refine mm_istore [1, 2, 3, 0] (lv2 := [(0, .ref 97), (2, .int v2), (4, .int v4), (5, .int r_6)]) dX12_byLaw_66 (by decide) rfl ?_
    refine mm_iload 3 dX12_byLaw_68 rfl ?_
    refine mm_if_ge 77 dX12_byLaw_70 rfl ?_ ?_
    · refine mm_iload 3 dX12_byLaw_77 rfl ?_
      refine mm_iload_n 1 dX12_byLaw_79 rfl ?_
      refine mm_icmp_le 87 dX12_byLaw_80 rfl ?_ ?_
      · refine mm_iload 3 dX12_byLaw_87 rfl ?_
        exact mm_iret dX12_byLaw_89 rfl
      · refine mm_iload_n 1 dX12_byLaw_83 rfl ?_
        refine mm_goto 89 dX12_byLaw_84 rfl ?_
        exact mm_iret dX12_byLaw_89 rfl
    · refine mm_iconst (v := 0) dX12_byLaw_73 rfl ?_
      refine mm_goto 89 dX12_byLaw_74 rfl ?_
      exact mm_iret dX12_byLaw_89 rfl
  · intro M_8
    refine mm_iload_n 0 dX12_byLaw_96 rfl ?_
    exact mm_iret dX12_byLaw_97 rfl
def f_R_soonOf (v1 : Int32) (v2 : Int32) (M : mm_M) : Option (Int32 × mm_M) := mm_bd (f_R_feels v1 v2 0 0 0 M) fun u_1 M_2 => mm_bd (f_R_byLaw 112 999 0 M_2) fun r_3 M_4 => some (r_3, M_4)
set_option maxHeartbeats 4000000 in
theorem c_R_soonOf (E : mm_E) (v1 : Int32) (v2 : Int32) (M : mm_M) : ∀ (r : Int32) (M2 : mm_M), f_R_soonOf v1 v2 M = some (r, M2) → mm_P E Y_X12_soonOf 4 [.ref 97, .int v1, .int v2] M (some (.int r)) M2 := by
  refine mm_entry (em := (fun x : Int32 => some (.int x))) (by decide +kernel) (Nat.le_of_ble_eq_true rfl) ?_
  show mm_G _ E _ _ 0 [(0, .ref 97), (1, .int v1), (2, .int v2)] [] M _
  unfold f_R_soonOf
  refine mm_aload_n 0 dX12_soonOf_0 rfl ?_
  refine mm_iload_n 1 dX12_soonOf_1 rfl ?_
  refine mm_iload_n 2 dX12_soonOf_2 rfl ?_
  refine mm_iconst (v := 0) dX12_soonOf_3 rfl ?_
  refine mm_iconst (v := 0) dX12_soonOf_4 rfl ?_
  refine mm_iconst (v := 0) dX12_soonOf_5 rfl ?_
  refine mm_callVv (as := [.int v1, .int v2, .int 0, .int 0, .int 0]) (st := []) (c_R_feels E v1 v2 0 0 0 M) dX12_soonOf_6 mz_X12_feels lk_RX12_309 im_X12_feels se_X12_feels lo_97 rfl rfl rfl ⟨Nat.le_of_ble_eq_true rfl, Nat.le_of_ble_eq_true rfl⟩ (Nat.le_of_ble_eq_true rfl) (fun u_1 M_2 => ?_)
  refine mm_aload_n 0 dX12_soonOf_9 rfl ?_
  refine mm_bipush (v := 112) dX12_soonOf_10 rfl ?_
  refine mm_sipush (v := 999) dX12_soonOf_12 rfl ?_
  refine mm_iconst (v := 0) dX12_soonOf_15 rfl ?_
  refine mm_callVi (as := [.int 112, .int 999, .int 0]) (st := []) (c_R_byLaw E 112 999 0 M_2) dX12_soonOf_16 mz_X12_byLaw lk_RX12_313 im_X12_byLaw se_X12_byLaw lo_97 rfl rfl rfl ⟨Nat.le_of_ble_eq_true rfl, Nat.le_of_ble_eq_true rfl⟩ (Nat.le_of_ble_eq_true rfl) (fun r_3 M_4 => ?_)
  exact mm_iret dX12_soonOf_19 rfl
def lp_R_laysOrder_41 (v1 : Int32) (v2 : Int32) (k88 : Int32 → mm_M → Option (Unit × mm_M)) : Nat → Int32 → mm_M → Option (Unit × mm_M)
  | 0, _, _ => none
  | n + 1, v3, M => if v3 ≤ 0 then k88 v3 M else if mm_in (v3 - 1) (mm_al 122) = true then if mm_in (M.2.1 122 (v3 - 1).toNatClampNeg) (mm_al 123) = true then if mm_in v2 (mm_al 123) = true then if M.2.1 123 v2.toNatClampNeg ≤ M.2.1 123 (M.2.1 122 (v3 - 1).toNatClampNeg).toNatClampNeg then k88 v3 M else if mm_in (v3 - 1) (mm_al 122) = true then if mm_in v3 (mm_al 122) = true then mm_let (mm_setA M 122 (v3.toNatClampNeg) (M.2.1 122 (v3 - 1).toNatClampNeg)) fun M_10 => mm_let (v3 - 1) fun v3_11 => lp_R_laysOrder_41 v1 v2 k88 n v3_11 M_10 else none else none else none else none else none
set_option maxHeartbeats 4000000 in
theorem lp_R_laysOrder_41_ok (E : mm_E) (v1 : Int32) (v2 : Int32) {k88 : Int32 → mm_M → Option (Unit × mm_M)} (hk88 : ∀ (v3 : Int32) (M : mm_M), mm_G (fun _ : Unit => none) E Y_X12_laysOrder 5 88 [(0, .ref 97), (1, .int v1), (2, .int v2), (3, .int v3)] [] M (k88 v3 M)) : ∀ (n : Nat) (v3 : Int32) (M : mm_M), mm_G (fun _ : Unit => none) E Y_X12_laysOrder 5 41 [(0, .ref 97), (1, .int v1), (2, .int v2), (3, .int v3)] [] M (lp_R_laysOrder_41 v1 v2 k88 n v3 M) := by
  intro n
  induction n with
  | zero => intro v3 M r M2 he; cases he
  | succ n ih =>
    intro v3 M
    rw [lp_R_laysOrder_41]
    refine mm_iload_n 3 dX12_laysOrder_41 rfl ?_
    refine mm_if_le 88 dX12_laysOrder_42 rfl ?_ ?_
    · exact hk88 v3 M
    · refine mm_aload_n 0 dX12_laysOrder_45 rfl ?_
      refine mm_getR 123 dX12_laysOrder_46 fl_RX12_86 lo_97 rfl ?_
      refine mm_aload_n 0 dX12_laysOrder_49 rfl ?_
      refine mm_getR 122 dX12_laysOrder_50 fl_RX12_83 lo_97 rfl ?_
      refine mm_iload_n 3 dX12_laysOrder_53 rfl ?_
      refine mm_iconst (v := 1) dX12_laysOrder_54 rfl ?_
      refine mm_isub dX12_laysOrder_55 ?_
      refine mm_iaload dX12_laysOrder_56 ?_
      refine mm_iaload dX12_laysOrder_57 ?_
      refine mm_aload_n 0 dX12_laysOrder_58 rfl ?_
      refine mm_getR 123 dX12_laysOrder_59 fl_RX12_86 lo_97 rfl ?_
      refine mm_iload_n 2 dX12_laysOrder_62 rfl ?_
      refine mm_iaload dX12_laysOrder_63 ?_
      refine mm_icmp_ge 88 dX12_laysOrder_64 rfl ?_ ?_
      · exact hk88 v3 M
      · refine mm_aload_n 0 dX12_laysOrder_67 rfl ?_
        refine mm_getR 122 dX12_laysOrder_68 fl_RX12_83 lo_97 rfl ?_
        refine mm_iload_n 3 dX12_laysOrder_71 rfl ?_
        refine mm_aload_n 0 dX12_laysOrder_72 rfl ?_
        refine mm_getR 122 dX12_laysOrder_73 fl_RX12_83 lo_97 rfl ?_
        refine mm_iload_n 3 dX12_laysOrder_76 rfl ?_
        refine mm_iconst (v := 1) dX12_laysOrder_77 rfl ?_
        refine mm_isub dX12_laysOrder_78 ?_
        refine mm_iaload dX12_laysOrder_79 ?_
        refine mm_iastore dX12_laysOrder_80 ?_
        refine mm_nm_M (fun M_10 => ?_)
        refine mm_iload_n 3 dX12_laysOrder_81 rfl ?_
        refine mm_iconst (v := 1) dX12_laysOrder_82 rfl ?_
        refine mm_isub dX12_laysOrder_83 ?_
        refine mm_nm_int (fun v3_11 => ?_)
        refine mm_istore_n [1, 2, 3, 0] (lv2 := [(0, .ref 97), (1, .int v1), (2, .int v2), (3, .int v3_11)]) dX12_laysOrder_84 (by decide) rfl ?_
        refine mm_goto 41 dX12_laysOrder_85 rfl ?_
        exact ih v3_11 M_10
def lp_R_laysOrder_7 (v1 : Int32) (k111 : mm_M → Option (Unit × mm_M)) : Nat → Int32 → mm_M → Option (Unit × mm_M)
  | 0, _, _ => none
  | n + 1, v2, M => if 10 ≤ v2 then k111 M else mm_bd (f_R_isStay v2 M) fun b_2 M_3 => mm_jn (fun (v2 : Int32) (M_4 : mm_M) => mm_let (v2 + 1) fun v2_5 => lp_R_laysOrder_7 v1 k111 n v2_5 M_4) fun j105 => if b_2 = true then mm_bd (f_R_soonOf v2 v1 M_3) fun r_6 M_7 => if mm_in v2 (mm_al 123) = true then mm_let (mm_setA M_7 123 (v2.toNatClampNeg) r_6) fun M_8 => mm_let (M_8.1 97 46) fun v3_9 => lp_R_laysOrder_41 v1 v2 (fun (v3 : Int32) (M_12 : mm_M) => if mm_in v3 (mm_al 122) = true then mm_let (mm_setA M_12 122 (v3.toNatClampNeg) v2) fun M_13 => mm_let (mm_setI M_13 97 46 ((M_13.1 97 46) + 1)) fun M_14 => j105 v2 M_14 else none) mm_fu v3_9 M_8 else none else j105 v2 M_3
set_option maxHeartbeats 4000000 in
theorem lp_R_laysOrder_7_ok (E : mm_E) (v1 : Int32) {k111 : mm_M → Option (Unit × mm_M)} (hk111 : ∀ (M : mm_M), mm_G (fun _ : Unit => none) E Y_X12_laysOrder 5 111 [] [] M (k111 M)) : ∀ (n : Nat) (v2 : Int32) (M : mm_M), mm_G (fun _ : Unit => none) E Y_X12_laysOrder 5 7 [(0, .ref 97), (1, .int v1), (2, .int v2)] [] M (lp_R_laysOrder_7 v1 k111 n v2 M) := by
  intro n
  induction n with
  | zero => intro v2 M r M2 he; cases he
  | succ n ih =>
    intro v2 M
    rw [lp_R_laysOrder_7]
    refine mm_iload_n 2 dX12_laysOrder_7 rfl ?_
    refine mm_bipush (v := 10) dX12_laysOrder_8 rfl ?_
    refine mm_icmp_ge 111 dX12_laysOrder_10 rfl ?_ ?_
    · refine mm_wk [] rfl ?_
      exact hk111  M
    · refine mm_aload_n 0 dX12_laysOrder_13 rfl ?_
      refine mm_iload_n 2 dX12_laysOrder_14 rfl ?_
      refine mm_callVz (as := [.int v2]) (st := []) (c_R_isStay E v2 M) dX12_laysOrder_15 mz_X12_isStay lk_RX12_220 im_X12_isStay se_X12_isStay lo_97 rfl rfl rfl ⟨Nat.le_of_ble_eq_true rfl, Nat.le_of_ble_eq_true rfl⟩ (Nat.le_of_ble_eq_true rfl) (fun b_2 M_3 => ?_)
      refine mm_jnP (P := fun j => ∀ (v2 : Int32) (M : mm_M), mm_G (fun _ : Unit => none) E Y_X12_laysOrder 5 105 [(0, .ref 97), (1, .int v1), (2, .int v2)] [] M (j v2 M)) ?_ (fun j105 hj105 => ?_)
      · intro v2 M_4
        refine mm_iincN 2 [1, 2, 0] (v := v2 + 1) (lv2 := fun v2_5 => [(0, .ref 97), (1, .int v1), (2, .int v2_5)]) dX12_laysOrder_105 rfl rfl (by decide) (fun _ => rfl) (fun v2_5 => ?_)
        refine mm_goto 7 dX12_laysOrder_108 rfl ?_
        exact ih v2_5 M_4
      refine mm_if_ne_b 24 dX12_laysOrder_18 rfl ?_ ?_
      · refine mm_aload_n 0 dX12_laysOrder_24 rfl ?_
        refine mm_getR 123 dX12_laysOrder_25 fl_RX12_86 lo_97 rfl ?_
        refine mm_iload_n 2 dX12_laysOrder_28 rfl ?_
        refine mm_aload_n 0 dX12_laysOrder_29 rfl ?_
        refine mm_iload_n 2 dX12_laysOrder_30 rfl ?_
        refine mm_iload_n 1 dX12_laysOrder_31 rfl ?_
        refine mm_callVi (as := [.int v2, .int v1]) (st := [.int v2, .ref 123]) (c_R_soonOf E v2 v1 M_3) dX12_laysOrder_32 mz_X12_soonOf lk_RX12_319 im_X12_soonOf se_X12_soonOf lo_97 rfl rfl rfl ⟨Nat.le_of_ble_eq_true rfl, Nat.le_of_ble_eq_true rfl⟩ (Nat.le_of_ble_eq_true rfl) (fun r_6 M_7 => ?_)
        refine mm_iastore dX12_laysOrder_35 ?_
        refine mm_nm_M (fun M_8 => ?_)
        refine mm_aload_n 0 dX12_laysOrder_36 rfl ?_
        refine mm_getI dX12_laysOrder_37 fl_RX12_316 lo_97 rfl ?_
        refine mm_nm_int (fun v3_9 => ?_)
        refine mm_istore_n [1, 2, 3, 0] (lv2 := [(0, .ref 97), (1, .int v1), (2, .int v2), (3, .int v3_9)]) dX12_laysOrder_40 (by decide) rfl ?_
        refine lp_R_laysOrder_41_ok E v1 v2 ?_ mm_fu v3_9 M_8
        · intro v3 M_12
          refine mm_aload_n 0 dX12_laysOrder_88 rfl ?_
          refine mm_getR 122 dX12_laysOrder_89 fl_RX12_83 lo_97 rfl ?_
          refine mm_iload_n 3 dX12_laysOrder_92 rfl ?_
          refine mm_iload_n 2 dX12_laysOrder_93 rfl ?_
          refine mm_iastore dX12_laysOrder_94 ?_
          refine mm_nm_M (fun M_13 => ?_)
          refine mm_aload_n 0 dX12_laysOrder_95 rfl ?_
          refine mm_aload_n 0 dX12_laysOrder_96 rfl ?_
          refine mm_getI dX12_laysOrder_97 fl_RX12_316 lo_97 rfl ?_
          refine mm_iconst (v := 1) dX12_laysOrder_100 rfl ?_
          refine mm_iadd dX12_laysOrder_101 ?_
          refine mm_putI dX12_laysOrder_102 fp_RX12_316 lo_97 rfl ?_
          refine mm_nm_M (fun M_14 => ?_)
          refine mm_wk [0, 1, 2] rfl ?_
          exact hj105 v2 M_14
      · refine mm_goto 105 dX12_laysOrder_21 rfl ?_
        exact hj105 v2 M_3
def f_R_laysOrder (v1 : Int32) (M : mm_M) : Option (Unit × mm_M) := mm_let (mm_setI M 97 46 0) fun M_1 => lp_R_laysOrder_7 v1 (fun (M_15 : mm_M) => some ((), M_15)) mm_fu 0 M_1
set_option maxHeartbeats 4000000 in
theorem c_R_laysOrder (E : mm_E) (v1 : Int32) (M : mm_M) : ∀ (r : Unit) (M2 : mm_M), f_R_laysOrder v1 M = some (r, M2) → mm_P E Y_X12_laysOrder 5 [.ref 97, .int v1] M none M2 := by
  refine mm_entry (em := (fun _ : Unit => none)) (by decide +kernel) (Nat.le_of_ble_eq_true rfl) ?_
  show mm_G _ E _ _ 0 [(0, .ref 97), (1, .int v1)] [] M _
  unfold f_R_laysOrder
  refine mm_aload_n 0 dX12_laysOrder_0 rfl ?_
  refine mm_iconst (v := 0) dX12_laysOrder_1 rfl ?_
  refine mm_putI dX12_laysOrder_2 fp_RX12_316 lo_97 rfl ?_
  refine mm_nm_M (fun M_1 => ?_)
  refine mm_iconst (v := 0) dX12_laysOrder_5 rfl ?_
  refine mm_istore_n [1, 2, 0] (lv2 := [(0, .ref 97), (1, .int v1), (2, .int 0)]) dX12_laysOrder_6 (by decide) rfl ?_
  refine lp_R_laysOrder_7_ok E v1 ?_ mm_fu 0 M_1
  · intro M_15
    exact mm_vret dX12_laysOrder_111 rfl
def f_R_gives (v1 : Int32) (v2 : Int32) (v3 : Int32) (M : mm_M) : Option (Unit × mm_M) := mm_bd (f_R_wantOf v1 v2 v3 M) fun r_1 M_2 => if mm_in v2 (mm_al 124) = true then mm_bd (f_R_min r_1 (M_2.2.1 124 v2.toNatClampNeg) M_2) fun r_3 M_4 => if mm_in v1 (mm_al 105) = true then if mm_in (M_4.2.1 105 v1.toNatClampNeg) (mm_al 101) = true then mm_let (M_4.2.1 101 (M_4.2.1 105 v1.toNatClampNeg).toNatClampNeg) fun v6_5 => mm_jn (fun (v4 : Int32) (v5 : Int32) (M_6 : mm_M) => if mm_in v2 (mm_al 124) = true then if mm_in v2 (mm_al 124) = true then mm_let (mm_setA M_6 124 (v2.toNatClampNeg) ((M_6.2.1 124 v2.toNatClampNeg) - v5)) fun M_7 => if mm_in (((72 * v1) + (24 * v2)) + v3) (mm_al 126) = true then mm_let (mm_setA M_7 126 ((((72 * v1) + (24 * v2)) + v3).toNatClampNeg) v5) fun M_8 => if v5 = v4 then some ((), M_8) else if mm_in v1 (mm_al 127) = true then if mm_in v1 (mm_al 127) = true then mm_let (mm_setA M_8 127 (v1.toNatClampNeg) (((M_8.2.1 127 v1.toNatClampNeg) + v4) - v5)) fun M_9 => mm_let (mm_setI M_9 97 48 (((M_9.1 97 48) + v4) - v5)) fun M_10 => mm_bd (f_R_feels v1 v3 v2 v4 (v4 - v5) M_10) fun u_11 M_12 => mm_bd (f_R_byLaw 109 99 1 M_12) fun r_13 M_14 => mm_let (mm_setI M_14 97 47 ((M_12.1 97 47) + (r_13 * (v4 - v5)))) fun M_15 => some ((), M_15) else none else none else none else none else none) fun j88 => if v2 = 0 then if mm_in v6_5 (mm_al 125) = true then mm_bd (f_R_min (M_4.2.1 125 v6_5.toNatClampNeg) (M_4.1 97 49) M_4) fun r_16 M_17 => mm_bd (f_R_min r_3 r_16 M_17) fun r_18 M_19 => if mm_in v6_5 (mm_al 125) = true then if mm_in v6_5 (mm_al 125) = true then mm_let (mm_setA M_19 125 (v6_5.toNatClampNeg) ((M_19.2.1 125 v6_5.toNatClampNeg) - r_18)) fun M_20 => mm_let (mm_setI M_20 97 49 ((M_20.1 97 49) - r_18)) fun M_21 => j88 r_1 r_18 M_21 else none else none else none else j88 r_1 r_3 M_4 else none else none else none
set_option maxHeartbeats 4000000 in
theorem c_R_gives (E : mm_E) (v1 : Int32) (v2 : Int32) (v3 : Int32) (M : mm_M) : ∀ (r : Unit) (M2 : mm_M), f_R_gives v1 v2 v3 M = some (r, M2) → mm_P E Y_X12_gives 4 [.ref 97, .int v1, .int v2, .int v3] M none M2 := by
  refine mm_entry (em := (fun _ : Unit => none)) (by decide +kernel) (Nat.le_of_ble_eq_true rfl) ?_
  show mm_G _ E _ _ 0 [(0, .ref 97), (1, .int v1), (2, .int v2), (3, .int v3)] [] M _
  unfold f_R_gives
  refine mm_aload_n 0 dX12_gives_0 rfl ?_
  refine mm_iload_n 1 dX12_gives_1 rfl ?_
  refine mm_iload_n 2 dX12_gives_2 rfl ?_
  refine mm_iload_n 3 dX12_gives_3 rfl ?_
  refine mm_callVi (as := [.int v1, .int v2, .int v3]) (st := []) (c_R_wantOf E v1 v2 v3 M) dX12_gives_4 mz_X12_wantOf lk_RX12_230 im_X12_wantOf se_X12_wantOf lo_97 rfl rfl rfl ⟨Nat.le_of_ble_eq_true rfl, Nat.le_of_ble_eq_true rfl⟩ (Nat.le_of_ble_eq_true rfl) (fun r_1 M_2 => ?_)
  refine mm_istore [1, 2, 3, 4, 0] (lv2 := [(0, .ref 97), (1, .int v1), (2, .int v2), (3, .int v3), (4, .int r_1)]) dX12_gives_7 (by decide) rfl ?_
  refine mm_iload 4 dX12_gives_9 rfl ?_
  refine mm_aload_n 0 dX12_gives_11 rfl ?_
  refine mm_getR 124 dX12_gives_12 fl_RX12_89 lo_97 rfl ?_
  refine mm_iload_n 2 dX12_gives_15 rfl ?_
  refine mm_iaload dX12_gives_16 ?_
  refine mm_callSi (as := [.int r_1, .int (M_2.2.1 124 v2.toNatClampNeg)]) (st := []) (c_R_min E r_1 (M_2.2.1 124 v2.toNatClampNeg) M_2) dX12_gives_17 mz_X12_min lk_RX12_183 sm_X12_min rfl ⟨Nat.le_of_ble_eq_true rfl, Nat.le_of_ble_eq_true rfl⟩ (Nat.le_of_ble_eq_true rfl) (fun r_3 M_4 => ?_)
  refine mm_istore [1, 2, 3, 4, 5, 0] (lv2 := [(0, .ref 97), (1, .int v1), (2, .int v2), (3, .int v3), (4, .int r_1), (5, .int r_3)]) dX12_gives_20 (by decide) rfl ?_
  refine mm_aload_n 0 dX12_gives_22 rfl ?_
  refine mm_getR 101 dX12_gives_23 fl_RX12_20 lo_97 rfl ?_
  refine mm_aload_n 0 dX12_gives_26 rfl ?_
  refine mm_getR 105 dX12_gives_27 fl_RX12_32 lo_97 rfl ?_
  refine mm_iload_n 1 dX12_gives_30 rfl ?_
  refine mm_iaload dX12_gives_31 ?_
  refine mm_iaload dX12_gives_32 ?_
  refine mm_nm_int (fun v6_5 => ?_)
  refine mm_istore [1, 2, 3, 4, 5, 6, 0] (lv2 := [(0, .ref 97), (1, .int v1), (2, .int v2), (3, .int v3), (4, .int r_1), (5, .int r_3), (6, .int v6_5)]) dX12_gives_33 (by decide) rfl ?_
  refine mm_iload_n 2 dX12_gives_35 rfl ?_
  refine mm_jnP (P := fun j => ∀ (v4 : Int32) (v5 : Int32) (M : mm_M), mm_G (fun _ : Unit => none) E Y_X12_gives 4 88 [(0, .ref 97), (1, .int v1), (2, .int v2), (3, .int v3), (4, .int v4), (5, .int v5)] [] M (j v4 v5 M)) ?_ (fun j88 hj88 => ?_)
  · intro v4 v5 M_6
    refine mm_aload_n 0 dX12_gives_88 rfl ?_
    refine mm_getR 124 dX12_gives_89 fl_RX12_89 lo_97 rfl ?_
    refine mm_iload_n 2 dX12_gives_92 rfl ?_
    refine mm_aload_n 0 dX12_gives_93 rfl ?_
    refine mm_getR 124 dX12_gives_94 fl_RX12_89 lo_97 rfl ?_
    refine mm_iload_n 2 dX12_gives_97 rfl ?_
    refine mm_iaload dX12_gives_98 ?_
    refine mm_iload 5 dX12_gives_99 rfl ?_
    refine mm_isub dX12_gives_101 ?_
    refine mm_iastore dX12_gives_102 ?_
    refine mm_nm_M (fun M_7 => ?_)
    refine mm_aload_n 0 dX12_gives_103 rfl ?_
    refine mm_getR 126 dX12_gives_104 fl_RX12_95 lo_97 rfl ?_
    refine mm_bipush (v := 72) dX12_gives_107 rfl ?_
    refine mm_iload_n 1 dX12_gives_109 rfl ?_
    refine mm_imul dX12_gives_110 ?_
    refine mm_bipush (v := 24) dX12_gives_111 rfl ?_
    refine mm_iload_n 2 dX12_gives_113 rfl ?_
    refine mm_imul dX12_gives_114 ?_
    refine mm_iadd dX12_gives_115 ?_
    refine mm_iload_n 3 dX12_gives_116 rfl ?_
    refine mm_iadd dX12_gives_117 ?_
    refine mm_iload 5 dX12_gives_118 rfl ?_
    refine mm_iastore dX12_gives_120 ?_
    refine mm_nm_M (fun M_8 => ?_)
    refine mm_iload 5 dX12_gives_121 rfl ?_
    refine mm_iload 4 dX12_gives_123 rfl ?_
    refine mm_icmp_ne 129 dX12_gives_125 rfl ?_ ?_
    · refine mm_aload_n 0 dX12_gives_129 rfl ?_
      refine mm_getR 127 dX12_gives_130 fl_RX12_98 lo_97 rfl ?_
      refine mm_iload_n 1 dX12_gives_133 rfl ?_
      refine mm_aload_n 0 dX12_gives_134 rfl ?_
      refine mm_getR 127 dX12_gives_135 fl_RX12_98 lo_97 rfl ?_
      refine mm_iload_n 1 dX12_gives_138 rfl ?_
      refine mm_iaload dX12_gives_139 ?_
      refine mm_iload 4 dX12_gives_140 rfl ?_
      refine mm_iadd dX12_gives_142 ?_
      refine mm_iload 5 dX12_gives_143 rfl ?_
      refine mm_isub dX12_gives_145 ?_
      refine mm_iastore dX12_gives_146 ?_
      refine mm_nm_M (fun M_9 => ?_)
      refine mm_aload_n 0 dX12_gives_147 rfl ?_
      refine mm_aload_n 0 dX12_gives_148 rfl ?_
      refine mm_getI dX12_gives_149 fl_RX12_325 lo_97 rfl ?_
      refine mm_iload 4 dX12_gives_152 rfl ?_
      refine mm_iadd dX12_gives_154 ?_
      refine mm_iload 5 dX12_gives_155 rfl ?_
      refine mm_isub dX12_gives_157 ?_
      refine mm_putI dX12_gives_158 fp_RX12_325 lo_97 rfl ?_
      refine mm_nm_M (fun M_10 => ?_)
      refine mm_aload_n 0 dX12_gives_161 rfl ?_
      refine mm_iload_n 1 dX12_gives_162 rfl ?_
      refine mm_iload_n 3 dX12_gives_163 rfl ?_
      refine mm_iload_n 2 dX12_gives_164 rfl ?_
      refine mm_iload 4 dX12_gives_165 rfl ?_
      refine mm_iload 4 dX12_gives_167 rfl ?_
      refine mm_iload 5 dX12_gives_169 rfl ?_
      refine mm_isub dX12_gives_171 ?_
      refine mm_callVv (as := [.int v1, .int v3, .int v2, .int v4, .int (v4 - v5)]) (st := []) (c_R_feels E v1 v3 v2 v4 (v4 - v5) M_10) dX12_gives_172 mz_X12_feels lk_RX12_309 im_X12_feels se_X12_feels lo_97 rfl rfl rfl ⟨Nat.le_of_ble_eq_true rfl, Nat.le_of_ble_eq_true rfl⟩ (Nat.le_of_ble_eq_true rfl) (fun u_11 M_12 => ?_)
      refine mm_aload_n 0 dX12_gives_175 rfl ?_
      refine mm_aload_n 0 dX12_gives_176 rfl ?_
      refine mm_getI dX12_gives_177 fl_RX12_328 lo_97 rfl ?_
      refine mm_aload_n 0 dX12_gives_180 rfl ?_
      refine mm_bipush (v := 109) dX12_gives_181 rfl ?_
      refine mm_bipush (v := 99) dX12_gives_183 rfl ?_
      refine mm_iconst (v := 1) dX12_gives_185 rfl ?_
      refine mm_callVi (as := [.int 109, .int 99, .int 1]) (st := [.int (M_12.1 97 47), .ref 97]) (c_R_byLaw E 109 99 1 M_12) dX12_gives_186 mz_X12_byLaw lk_RX12_313 im_X12_byLaw se_X12_byLaw lo_97 rfl rfl rfl ⟨Nat.le_of_ble_eq_true rfl, Nat.le_of_ble_eq_true rfl⟩ (Nat.le_of_ble_eq_true rfl) (fun r_13 M_14 => ?_)
      refine mm_iload 4 dX12_gives_189 rfl ?_
      refine mm_iload 5 dX12_gives_191 rfl ?_
      refine mm_isub dX12_gives_193 ?_
      refine mm_imul dX12_gives_194 ?_
      refine mm_iadd dX12_gives_195 ?_
      refine mm_putI dX12_gives_196 fp_RX12_328 lo_97 rfl ?_
      refine mm_nm_M (fun M_15 => ?_)
      exact mm_vret dX12_gives_199 rfl
    · exact mm_vret dX12_gives_128 rfl
  refine mm_if_ne 88 dX12_gives_36 rfl ?_ ?_
  · refine mm_wk [0, 1, 2, 3, 4, 5] rfl ?_
    exact hj88 r_1 r_3 M_4
  · refine mm_iload 5 dX12_gives_39 rfl ?_
    refine mm_aload_n 0 dX12_gives_41 rfl ?_
    refine mm_getR 125 dX12_gives_42 fl_RX12_92 lo_97 rfl ?_
    refine mm_iload 6 dX12_gives_45 rfl ?_
    refine mm_iaload dX12_gives_47 ?_
    refine mm_aload_n 0 dX12_gives_48 rfl ?_
    refine mm_getI dX12_gives_49 fl_RX12_322 lo_97 rfl ?_
    refine mm_callSi (as := [.int (M_4.2.1 125 v6_5.toNatClampNeg), .int (M_4.1 97 49)]) (st := [.int r_3]) (c_R_min E (M_4.2.1 125 v6_5.toNatClampNeg) (M_4.1 97 49) M_4) dX12_gives_52 mz_X12_min lk_RX12_183 sm_X12_min rfl ⟨Nat.le_of_ble_eq_true rfl, Nat.le_of_ble_eq_true rfl⟩ (Nat.le_of_ble_eq_true rfl) (fun r_16 M_17 => ?_)
    refine mm_callSi (as := [.int r_3, .int r_16]) (st := []) (c_R_min E r_3 r_16 M_17) dX12_gives_55 mz_X12_min lk_RX12_183 sm_X12_min rfl ⟨Nat.le_of_ble_eq_true rfl, Nat.le_of_ble_eq_true rfl⟩ (Nat.le_of_ble_eq_true rfl) (fun r_18 M_19 => ?_)
    refine mm_istore [1, 2, 3, 4, 5, 0, 6] (lv2 := [(0, .ref 97), (1, .int v1), (2, .int v2), (3, .int v3), (4, .int r_1), (5, .int r_18), (6, .int v6_5)]) dX12_gives_58 (by decide) rfl ?_
    refine mm_aload_n 0 dX12_gives_60 rfl ?_
    refine mm_getR 125 dX12_gives_61 fl_RX12_92 lo_97 rfl ?_
    refine mm_iload 6 dX12_gives_64 rfl ?_
    refine mm_aload_n 0 dX12_gives_66 rfl ?_
    refine mm_getR 125 dX12_gives_67 fl_RX12_92 lo_97 rfl ?_
    refine mm_iload 6 dX12_gives_70 rfl ?_
    refine mm_iaload dX12_gives_72 ?_
    refine mm_iload 5 dX12_gives_73 rfl ?_
    refine mm_isub dX12_gives_75 ?_
    refine mm_iastore dX12_gives_76 ?_
    refine mm_nm_M (fun M_20 => ?_)
    refine mm_aload_n 0 dX12_gives_77 rfl ?_
    refine mm_aload_n 0 dX12_gives_78 rfl ?_
    refine mm_getI dX12_gives_79 fl_RX12_322 lo_97 rfl ?_
    refine mm_iload 5 dX12_gives_82 rfl ?_
    refine mm_isub dX12_gives_84 ?_
    refine mm_putI dX12_gives_85 fp_RX12_322 lo_97 rfl ?_
    refine mm_nm_M (fun M_21 => ?_)
    refine mm_wk [0, 1, 2, 3, 4, 5] rfl ?_
    exact hj88 r_1 r_18 M_21
def lp_R_servesHour_21 (v1 : Int32) (k44 : mm_M → Option (Unit × mm_M)) : Nat → Int32 → mm_M → Option (Unit × mm_M)
  | 0, _, _ => none
  | n + 1, v2, M => if 3 ≤ v2 then k44 M else if mm_in v2 (mm_al 102) = true then if mm_in v2 (mm_al 124) = true then mm_let (mm_setA M 124 (v2.toNatClampNeg) (M.2.1 102 v2.toNatClampNeg)) fun M_4 => mm_let (v2 + 1) fun v2_5 => lp_R_servesHour_21 v1 k44 n v2_5 M_4 else none else none
set_option maxHeartbeats 4000000 in
theorem lp_R_servesHour_21_ok (E : mm_E) (v1 : Int32) {k44 : mm_M → Option (Unit × mm_M)} (hk44 : ∀ (M : mm_M), mm_G (fun _ : Unit => none) E Y_X12_servesHour 5 44 [(0, .ref 97), (1, .int v1)] [] M (k44 M)) : ∀ (n : Nat) (v2 : Int32) (M : mm_M), mm_G (fun _ : Unit => none) E Y_X12_servesHour 5 21 [(0, .ref 97), (1, .int v1), (2, .int v2)] [] M (lp_R_servesHour_21 v1 k44 n v2 M) := by
  intro n
  induction n with
  | zero => intro v2 M r M2 he; cases he
  | succ n ih =>
    intro v2 M
    rw [lp_R_servesHour_21]
    refine mm_iload_n 2 dX12_servesHour_21 rfl ?_
    refine mm_iconst (v := 3) dX12_servesHour_22 rfl ?_
    refine mm_icmp_ge 44 dX12_servesHour_23 rfl ?_ ?_
    · refine mm_wk [0, 1] rfl ?_
      exact hk44  M
    · refine mm_aload_n 0 dX12_servesHour_26 rfl ?_
      refine mm_getR 124 dX12_servesHour_27 fl_RX12_89 lo_97 rfl ?_
      refine mm_iload_n 2 dX12_servesHour_30 rfl ?_
      refine mm_aload_n 0 dX12_servesHour_31 rfl ?_
      refine mm_getR 102 dX12_servesHour_32 fl_RX12_23 lo_97 rfl ?_
      refine mm_iload_n 2 dX12_servesHour_35 rfl ?_
      refine mm_iaload dX12_servesHour_36 ?_
      refine mm_iastore dX12_servesHour_37 ?_
      refine mm_nm_M (fun M_4 => ?_)
      refine mm_iincN 2 [1, 2, 0] (v := v2 + 1) (lv2 := fun v2_5 => [(0, .ref 97), (1, .int v1), (2, .int v2_5)]) dX12_servesHour_38 rfl rfl (by decide) (fun _ => rfl) (fun v2_5 => ?_)
      refine mm_goto 21 dX12_servesHour_41 rfl ?_
      exact ih v2_5 M_4
def lp_R_servesHour_46 (v1 : Int32) (k69 : mm_M → Option (Unit × mm_M)) : Nat → Int32 → mm_M → Option (Unit × mm_M)
  | 0, _, _ => none
  | n + 1, v2, M => if 4 ≤ v2 then k69 M else if mm_in v2 (mm_al 104) = true then if mm_in v2 (mm_al 125) = true then mm_let (mm_setA M 125 (v2.toNatClampNeg) (M.2.1 104 v2.toNatClampNeg)) fun M_7 => mm_let (v2 + 1) fun v2_8 => lp_R_servesHour_46 v1 k69 n v2_8 M_7 else none else none
set_option maxHeartbeats 4000000 in
theorem lp_R_servesHour_46_ok (E : mm_E) (v1 : Int32) {k69 : mm_M → Option (Unit × mm_M)} (hk69 : ∀ (M : mm_M), mm_G (fun _ : Unit => none) E Y_X12_servesHour 5 69 [(0, .ref 97), (1, .int v1)] [] M (k69 M)) : ∀ (n : Nat) (v2 : Int32) (M : mm_M), mm_G (fun _ : Unit => none) E Y_X12_servesHour 5 46 [(0, .ref 97), (1, .int v1), (2, .int v2)] [] M (lp_R_servesHour_46 v1 k69 n v2 M) := by
  intro n
  induction n with
  | zero => intro v2 M r M2 he; cases he
  | succ n ih =>
    intro v2 M
    rw [lp_R_servesHour_46]
    refine mm_iload_n 2 dX12_servesHour_46 rfl ?_
    refine mm_iconst (v := 4) dX12_servesHour_47 rfl ?_
    refine mm_icmp_ge 69 dX12_servesHour_48 rfl ?_ ?_
    · refine mm_wk [0, 1] rfl ?_
      exact hk69  M
    · refine mm_aload_n 0 dX12_servesHour_51 rfl ?_
      refine mm_getR 125 dX12_servesHour_52 fl_RX12_92 lo_97 rfl ?_
      refine mm_iload_n 2 dX12_servesHour_55 rfl ?_
      refine mm_aload_n 0 dX12_servesHour_56 rfl ?_
      refine mm_getR 104 dX12_servesHour_57 fl_RX12_29 lo_97 rfl ?_
      refine mm_iload_n 2 dX12_servesHour_60 rfl ?_
      refine mm_iaload dX12_servesHour_61 ?_
      refine mm_iastore dX12_servesHour_62 ?_
      refine mm_nm_M (fun M_7 => ?_)
      refine mm_iincN 2 [1, 2, 0] (v := v2 + 1) (lv2 := fun v2_8 => [(0, .ref 97), (1, .int v1), (2, .int v2_8)]) dX12_servesHour_63 rfl rfl (by decide) (fun _ => rfl) (fun v2_8 => ?_)
      refine mm_goto 46 dX12_servesHour_66 rfl ?_
      exact ih v2_8 M_7
def lp_R_servesHour_81 (v1 : Int32) (v2 : Int32) (k104 : mm_M → Option (Unit × mm_M)) : Nat → Int32 → mm_M → Option (Unit × mm_M)
  | 0, _, _ => none
  | n + 1, v3, M => if 3 ≤ v3 then k104 M else if mm_in v2 (mm_al 122) = true then mm_bd (f_R_gives (M.2.1 122 v2.toNatClampNeg) v3 v1 M) fun u_10 M_11 => mm_let (v3 + 1) fun v3_12 => lp_R_servesHour_81 v1 v2 k104 n v3_12 M_11 else none
set_option maxHeartbeats 4000000 in
theorem lp_R_servesHour_81_ok (E : mm_E) (v1 : Int32) (v2 : Int32) {k104 : mm_M → Option (Unit × mm_M)} (hk104 : ∀ (M : mm_M), mm_G (fun _ : Unit => none) E Y_X12_servesHour 5 104 [(0, .ref 97), (1, .int v1), (2, .int v2)] [] M (k104 M)) : ∀ (n : Nat) (v3 : Int32) (M : mm_M), mm_G (fun _ : Unit => none) E Y_X12_servesHour 5 81 [(0, .ref 97), (1, .int v1), (2, .int v2), (3, .int v3)] [] M (lp_R_servesHour_81 v1 v2 k104 n v3 M) := by
  intro n
  induction n with
  | zero => intro v3 M r M2 he; cases he
  | succ n ih =>
    intro v3 M
    rw [lp_R_servesHour_81]
    refine mm_iload_n 3 dX12_servesHour_81 rfl ?_
    refine mm_iconst (v := 3) dX12_servesHour_82 rfl ?_
    refine mm_icmp_ge 104 dX12_servesHour_83 rfl ?_ ?_
    · refine mm_wk [0, 1, 2] rfl ?_
      exact hk104  M
    · refine mm_aload_n 0 dX12_servesHour_86 rfl ?_
      refine mm_aload_n 0 dX12_servesHour_87 rfl ?_
      refine mm_getR 122 dX12_servesHour_88 fl_RX12_83 lo_97 rfl ?_
      refine mm_iload_n 2 dX12_servesHour_91 rfl ?_
      refine mm_iaload dX12_servesHour_92 ?_
      refine mm_iload_n 3 dX12_servesHour_93 rfl ?_
      refine mm_iload_n 1 dX12_servesHour_94 rfl ?_
      refine mm_callVv (as := [.int (M.2.1 122 v2.toNatClampNeg), .int v3, .int v1]) (st := []) (c_R_gives E (M.2.1 122 v2.toNatClampNeg) v3 v1 M) dX12_servesHour_95 mz_X12_gives lk_RX12_331 im_X12_gives se_X12_gives lo_97 rfl rfl rfl ⟨Nat.le_of_ble_eq_true rfl, Nat.le_of_ble_eq_true rfl⟩ (Nat.le_of_ble_eq_true rfl) (fun u_10 M_11 => ?_)
      refine mm_iincN 3 [1, 2, 3, 0] (v := v3 + 1) (lv2 := fun v3_12 => [(0, .ref 97), (1, .int v1), (2, .int v2), (3, .int v3_12)]) dX12_servesHour_98 rfl rfl (by decide) (fun _ => rfl) (fun v3_12 => ?_)
      refine mm_goto 81 dX12_servesHour_101 rfl ?_
      exact ih v3_12 M_11
def lp_R_servesHour_71 (v1 : Int32) (k110 : mm_M → Option (Unit × mm_M)) : Nat → Int32 → mm_M → Option (Unit × mm_M)
  | 0, _, _ => none
  | n + 1, v2, M => if M.1 97 46 ≤ v2 then k110 M else lp_R_servesHour_81 v1 v2 (fun (M_13 : mm_M) => mm_let (v2 + 1) fun v2_14 => lp_R_servesHour_71 v1 k110 n v2_14 M_13) mm_fu 0 M
set_option maxHeartbeats 4000000 in
theorem lp_R_servesHour_71_ok (E : mm_E) (v1 : Int32) {k110 : mm_M → Option (Unit × mm_M)} (hk110 : ∀ (M : mm_M), mm_G (fun _ : Unit => none) E Y_X12_servesHour 5 110 [] [] M (k110 M)) : ∀ (n : Nat) (v2 : Int32) (M : mm_M), mm_G (fun _ : Unit => none) E Y_X12_servesHour 5 71 [(0, .ref 97), (1, .int v1), (2, .int v2)] [] M (lp_R_servesHour_71 v1 k110 n v2 M) := by
  intro n
  induction n with
  | zero => intro v2 M r M2 he; cases he
  | succ n ih =>
    intro v2 M
    rw [lp_R_servesHour_71]
    refine mm_iload_n 2 dX12_servesHour_71 rfl ?_
    refine mm_aload_n 0 dX12_servesHour_72 rfl ?_
    refine mm_getI dX12_servesHour_73 fl_RX12_316 lo_97 rfl ?_
    refine mm_icmp_ge 110 dX12_servesHour_76 rfl ?_ ?_
    · refine mm_wk [] rfl ?_
      exact hk110  M
    · refine mm_iconst (v := 0) dX12_servesHour_79 rfl ?_
      refine mm_istore_n [1, 2, 3, 0] (lv2 := [(0, .ref 97), (1, .int v1), (2, .int v2), (3, .int 0)]) dX12_servesHour_80 (by decide) rfl ?_
      refine lp_R_servesHour_81_ok E v1 v2 ?_ mm_fu 0 M
      · intro M_13
        refine mm_iincN 2 [1, 2, 0] (v := v2 + 1) (lv2 := fun v2_14 => [(0, .ref 97), (1, .int v1), (2, .int v2_14)]) dX12_servesHour_104 rfl rfl (by decide) (fun _ => rfl) (fun v2_14 => ?_)
        refine mm_goto 71 dX12_servesHour_107 rfl ?_
        exact ih v2_14 M_13
def f_R_servesHour (v1 : Int32) (M : mm_M) : Option (Unit × mm_M) := mm_bd (f_R_min 9999 ((M.1 97 49) + (M.1 97 11)) M) fun r_1 M_2 => mm_let (mm_setI M_2 97 49 r_1) fun M_3 => lp_R_servesHour_21 v1 (fun (M_6 : mm_M) => lp_R_servesHour_46 v1 (fun (M_9 : mm_M) => lp_R_servesHour_71 v1 (fun (M_15 : mm_M) => some ((), M_15)) mm_fu 0 M_9) mm_fu 0 M_6) mm_fu 0 M_3
set_option maxHeartbeats 4000000 in
theorem c_R_servesHour (E : mm_E) (v1 : Int32) (M : mm_M) : ∀ (r : Unit) (M2 : mm_M), f_R_servesHour v1 M = some (r, M2) → mm_P E Y_X12_servesHour 5 [.ref 97, .int v1] M none M2 := by
  refine mm_entry (em := (fun _ : Unit => none)) (by decide +kernel) (Nat.le_of_ble_eq_true rfl) ?_
  show mm_G _ E _ _ 0 [(0, .ref 97), (1, .int v1)] [] M _
  unfold f_R_servesHour
  refine mm_aload_n 0 dX12_servesHour_0 rfl ?_
  refine mm_sipush (v := 9999) dX12_servesHour_1 rfl ?_
  refine mm_aload_n 0 dX12_servesHour_4 rfl ?_
  refine mm_getI dX12_servesHour_5 fl_RX12_322 lo_97 rfl ?_
  refine mm_aload_n 0 dX12_servesHour_8 rfl ?_
  refine mm_getI dX12_servesHour_9 fl_RX12_214 lo_97 rfl ?_
  refine mm_iadd dX12_servesHour_12 ?_
  refine mm_callSi (as := [.int 9999, .int ((M.1 97 49) + (M.1 97 11))]) (st := [.ref 97]) (c_R_min E 9999 ((M.1 97 49) + (M.1 97 11)) M) dX12_servesHour_13 mz_X12_min lk_RX12_183 sm_X12_min rfl ⟨Nat.le_of_ble_eq_true rfl, Nat.le_of_ble_eq_true rfl⟩ (Nat.le_of_ble_eq_true rfl) (fun r_1 M_2 => ?_)
  refine mm_putI dX12_servesHour_16 fp_RX12_322 lo_97 rfl ?_
  refine mm_nm_M (fun M_3 => ?_)
  refine mm_iconst (v := 0) dX12_servesHour_19 rfl ?_
  refine mm_istore_n [1, 2, 0] (lv2 := [(0, .ref 97), (1, .int v1), (2, .int 0)]) dX12_servesHour_20 (by decide) rfl ?_
  refine lp_R_servesHour_21_ok E v1 ?_ mm_fu 0 M_3
  · intro M_6
    refine mm_iconst (v := 0) dX12_servesHour_44 rfl ?_
    refine mm_istore_n [1, 2, 0] (lv2 := [(0, .ref 97), (1, .int v1), (2, .int 0)]) dX12_servesHour_45 (by decide) rfl ?_
    refine lp_R_servesHour_46_ok E v1 ?_ mm_fu 0 M_6
    · intro M_9
      refine mm_iconst (v := 0) dX12_servesHour_69 rfl ?_
      refine mm_istore_n [1, 2, 0] (lv2 := [(0, .ref 97), (1, .int v1), (2, .int 0)]) dX12_servesHour_70 (by decide) rfl ?_
      refine lp_R_servesHour_71_ok E v1 ?_ mm_fu 0 M_9
      · intro M_15
        exact mm_vret dX12_servesHour_110 rfl
def lp_R_serves_6 (k28 : mm_M → Option (Unit × mm_M)) : Nat → Int32 → mm_M → Option (Unit × mm_M)
  | 0, _, _ => none
  | n + 1, v1, M => if 24 ≤ v1 then k28 M else mm_bd (f_R_laysOrder v1 M) fun u_3 M_4 => mm_bd (f_R_servesHour v1 M_4) fun u_5 M_6 => mm_let (v1 + 1) fun v1_7 => lp_R_serves_6 k28 n v1_7 M_6
set_option maxHeartbeats 4000000 in
theorem lp_R_serves_6_ok (E : mm_E) {k28 : mm_M → Option (Unit × mm_M)} (hk28 : ∀ (M : mm_M), mm_G (fun _ : Unit => none) E Y_X12_serves 6 28 [] [] M (k28 M)) : ∀ (n : Nat) (v1 : Int32) (M : mm_M), mm_G (fun _ : Unit => none) E Y_X12_serves 6 6 [(0, .ref 97), (1, .int v1)] [] M (lp_R_serves_6 k28 n v1 M) := by
  intro n
  induction n with
  | zero => intro v1 M r M2 he; cases he
  | succ n ih =>
    intro v1 M
    rw [lp_R_serves_6]
    refine mm_iload_n 1 dX12_serves_6 rfl ?_
    refine mm_bipush (v := 24) dX12_serves_7 rfl ?_
    refine mm_icmp_ge 28 dX12_serves_9 rfl ?_ ?_
    · refine mm_wk [] rfl ?_
      exact hk28  M
    · refine mm_aload_n 0 dX12_serves_12 rfl ?_
      refine mm_iload_n 1 dX12_serves_13 rfl ?_
      refine mm_callVv (as := [.int v1]) (st := []) (c_R_laysOrder E v1 M) dX12_serves_14 mz_X12_laysOrder lk_RX12_338 im_X12_laysOrder se_X12_laysOrder lo_97 rfl rfl rfl ⟨Nat.le_of_ble_eq_true rfl, Nat.le_of_ble_eq_true rfl⟩ (Nat.le_of_ble_eq_true rfl) (fun u_3 M_4 => ?_)
      refine mm_aload_n 0 dX12_serves_17 rfl ?_
      refine mm_iload_n 1 dX12_serves_18 rfl ?_
      refine mm_callVv (as := [.int v1]) (st := []) (c_R_servesHour E v1 M_4) dX12_serves_19 mz_X12_servesHour lk_RX12_341 im_X12_servesHour se_X12_servesHour lo_97 rfl rfl rfl ⟨Nat.le_of_ble_eq_true rfl, Nat.le_of_ble_eq_true rfl⟩ (Nat.le_of_ble_eq_true rfl) (fun u_5 M_6 => ?_)
      refine mm_iincN 1 [1, 0] (v := v1 + 1) (lv2 := fun v1_7 => [(0, .ref 97), (1, .int v1_7)]) dX12_serves_22 rfl rfl (by decide) (fun _ => rfl) (fun v1_7 => ?_)
      refine mm_goto 6 dX12_serves_25 rfl ?_
      exact ih v1_7 M_6
def f_R_serves (M : mm_M) : Option (Unit × mm_M) := mm_bd (f_R_startsDay M) fun u_1 M_2 => lp_R_serves_6 (fun (M_8 : mm_M) => some ((), M_8)) mm_fu 0 M_2
set_option maxHeartbeats 4000000 in
theorem c_R_serves (E : mm_E) (M : mm_M) : ∀ (r : Unit) (M2 : mm_M), f_R_serves M = some (r, M2) → mm_P E Y_X12_serves 6 [.ref 97] M none M2 := by
  refine mm_entry (em := (fun _ : Unit => none)) (by decide +kernel) (Nat.le_of_ble_eq_true rfl) ?_
  show mm_G _ E _ _ 0 [(0, .ref 97)] [] M _
  unfold f_R_serves
  refine mm_aload_n 0 dX12_serves_0 rfl ?_
  refine mm_callVv (as := []) (st := []) (c_R_startsDay E M) dX12_serves_1 mz_X12_startsDay lk_RX12_335 im_X12_startsDay se_X12_startsDay lo_97 rfl rfl rfl ⟨Nat.le_of_ble_eq_true rfl, Nat.le_of_ble_eq_true rfl⟩ (Nat.le_of_ble_eq_true rfl) (fun u_1 M_2 => ?_)
  refine mm_iconst (v := 0) dX12_serves_4 rfl ?_
  refine mm_istore_n [1, 0] (lv2 := [(0, .ref 97), (1, .int 0)]) dX12_serves_5 (by decide) rfl ?_
  refine lp_R_serves_6_ok E ?_ mm_fu 0 M_2
  · intro M_8
    exact mm_vret dX12_serves_28 rfl
def f_R_gets (v1 : Int32) (v2 : Int32) (v3 : Int32) (M : mm_M) : Option (Int32 × mm_M) := mm_bd (f_R_isStay v1 M) fun b_1 M_2 => if b_1 = true then mm_bd (f_R_isKind v2 M_2) fun b_3 M_4 => if b_3 = true then mm_bd (f_R_isHour v3 M_4) fun b_5 M_6 => if b_5 = true then mm_bd (f_R_serves M_6) fun u_7 M_8 => if mm_in (((72 * v1) + (24 * v2)) + v3) (mm_al 126) = true then some (M_8.2.1 126 (((72 * v1) + (24 * v2)) + v3).toNatClampNeg, M_8) else none else some ((-1), M_6) else some ((-1), M_4) else some ((-1), M_2)
set_option maxHeartbeats 4000000 in
theorem c_R_gets (E : mm_E) (v1 : Int32) (v2 : Int32) (v3 : Int32) (M : mm_M) : ∀ (r : Int32) (M2 : mm_M), f_R_gets v1 v2 v3 M = some (r, M2) → mm_P E Y_X12_gets 7 [.ref 97, .int v1, .int v2, .int v3] M (some (.int r)) M2 := by
  refine mm_entry (em := (fun x : Int32 => some (.int x))) (by decide +kernel) (Nat.le_of_ble_eq_true rfl) ?_
  show mm_G _ E _ _ 0 [(0, .ref 97), (1, .int v1), (2, .int v2), (3, .int v3)] [] M _
  unfold f_R_gets
  refine mm_aload_n 0 dX12_gets_0 rfl ?_
  refine mm_iload_n 1 dX12_gets_1 rfl ?_
  refine mm_callVz (as := [.int v1]) (st := []) (c_R_isStay E v1 M) dX12_gets_2 mz_X12_isStay lk_RX12_220 im_X12_isStay se_X12_isStay lo_97 rfl rfl rfl ⟨Nat.le_of_ble_eq_true rfl, Nat.le_of_ble_eq_true rfl⟩ (Nat.le_of_ble_eq_true rfl) (fun b_1 M_2 => ?_)
  refine mm_if_eq_b 22 dX12_gets_5 rfl ?_ ?_
  · refine mm_iconst (v := (-1)) dX12_gets_22 rfl ?_
    exact mm_iret dX12_gets_23 rfl
  · refine mm_iload_n 2 dX12_gets_8 rfl ?_
    refine mm_callSz (as := [.int v2]) (st := []) (c_R_isKind E v2 M_2) dX12_gets_9 mz_X12_isKind lk_RX12_205 sm_X12_isKind rfl ⟨Nat.le_of_ble_eq_true rfl, Nat.le_of_ble_eq_true rfl⟩ (Nat.le_of_ble_eq_true rfl) (fun b_3 M_4 => ?_)
    refine mm_if_eq_b 22 dX12_gets_12 rfl ?_ ?_
    · refine mm_iconst (v := (-1)) dX12_gets_22 rfl ?_
      exact mm_iret dX12_gets_23 rfl
    · refine mm_iload_n 3 dX12_gets_15 rfl ?_
      refine mm_callSz (as := [.int v3]) (st := []) (c_R_isHour E v3 M_4) dX12_gets_16 mz_X12_isHour lk_RX12_208 sm_X12_isHour rfl ⟨Nat.le_of_ble_eq_true rfl, Nat.le_of_ble_eq_true rfl⟩ (Nat.le_of_ble_eq_true rfl) (fun b_5 M_6 => ?_)
      refine mm_if_ne_b 24 dX12_gets_19 rfl ?_ ?_
      · refine mm_aload_n 0 dX12_gets_24 rfl ?_
        refine mm_callVv (as := []) (st := []) (c_R_serves E M_6) dX12_gets_25 mz_X12_serves lk_RX12_344 im_X12_serves se_X12_serves lo_97 rfl rfl rfl ⟨Nat.le_of_ble_eq_true rfl, Nat.le_of_ble_eq_true rfl⟩ (Nat.le_of_ble_eq_true rfl) (fun u_7 M_8 => ?_)
        refine mm_aload_n 0 dX12_gets_28 rfl ?_
        refine mm_getR 126 dX12_gets_29 fl_RX12_95 lo_97 rfl ?_
        refine mm_bipush (v := 72) dX12_gets_32 rfl ?_
        refine mm_iload_n 1 dX12_gets_34 rfl ?_
        refine mm_imul dX12_gets_35 ?_
        refine mm_bipush (v := 24) dX12_gets_36 rfl ?_
        refine mm_iload_n 2 dX12_gets_38 rfl ?_
        refine mm_imul dX12_gets_39 ?_
        refine mm_iadd dX12_gets_40 ?_
        refine mm_iload_n 3 dX12_gets_41 rfl ?_
        refine mm_iadd dX12_gets_42 ?_
        refine mm_iaload dX12_gets_43 ?_
        exact mm_iret dX12_gets_44 rfl
      · refine mm_iconst (v := (-1)) dX12_gets_22 rfl ?_
        exact mm_iret dX12_gets_23 rfl
def f_R_served (v1 : Int32) (M : mm_M) : Option (Int32 × mm_M) := mm_bd (f_R_in v1 0 2 M) fun b_1 M_2 => mm_jn (fun (M_3 : mm_M) => mm_bd (f_R_serves M_3) fun u_4 M_5 => if v1 = 0 then some (M_5.1 97 47, M_5) else if v1 = 1 then some (M_5.1 97 49, M_5) else if v1 = 2 then some (M_5.1 97 48, M_5) else if mm_in (v1 - 10) (mm_al 127) = true then some (M_5.2.1 127 (v1 - 10).toNatClampNeg, M_5) else none) fun j22 => if b_1 = true then j22 M_2 else mm_bd (f_R_isStay (v1 - 10) M_2) fun b_6 M_7 => if b_6 = true then j22 M_7 else some ((-1), M_7)
set_option maxHeartbeats 4000000 in
theorem c_R_served (E : mm_E) (v1 : Int32) (M : mm_M) : ∀ (r : Int32) (M2 : mm_M), f_R_served v1 M = some (r, M2) → mm_P E Y_X12_served 7 [.ref 97, .int v1] M (some (.int r)) M2 := by
  refine mm_entry (em := (fun x : Int32 => some (.int x))) (by decide +kernel) (Nat.le_of_ble_eq_true rfl) ?_
  show mm_G _ E _ _ 0 [(0, .ref 97), (1, .int v1)] [] M _
  unfold f_R_served
  refine mm_iload_n 1 dX12_served_0 rfl ?_
  refine mm_iconst (v := 0) dX12_served_1 rfl ?_
  refine mm_iconst (v := 2) dX12_served_2 rfl ?_
  refine mm_callSz (as := [.int v1, .int 0, .int 2]) (st := []) (c_R_in E v1 0 2 M) dX12_served_3 mz_X12_in lk_RX12_169 sm_X12_in rfl ⟨Nat.le_of_ble_eq_true rfl, Nat.le_of_ble_eq_true rfl⟩ (Nat.le_of_ble_eq_true rfl) (fun b_1 M_2 => ?_)
  refine mm_jnP (P := fun j => ∀ (M : mm_M), mm_G (fun x : Int32 => some (.int x)) E Y_X12_served 7 22 [(0, .ref 97), (1, .int v1)] [] M (j M)) ?_ (fun j22 hj22 => ?_)
  · intro M_3
    refine mm_aload_n 0 dX12_served_22 rfl ?_
    refine mm_callVv (as := []) (st := []) (c_R_serves E M_3) dX12_served_23 mz_X12_serves lk_RX12_344 im_X12_serves se_X12_serves lo_97 rfl rfl rfl ⟨Nat.le_of_ble_eq_true rfl, Nat.le_of_ble_eq_true rfl⟩ (Nat.le_of_ble_eq_true rfl) (fun u_4 M_5 => ?_)
    refine mm_iload_n 1 dX12_served_26 rfl ?_
    refine mm_if_ne 37 dX12_served_27 rfl ?_ ?_
    · refine mm_iload_n 1 dX12_served_37 rfl ?_
      refine mm_iconst (v := 1) dX12_served_38 rfl ?_
      refine mm_icmp_ne 49 dX12_served_39 rfl ?_ ?_
      · refine mm_iload_n 1 dX12_served_49 rfl ?_
        refine mm_iconst (v := 2) dX12_served_50 rfl ?_
        refine mm_icmp_ne 61 dX12_served_51 rfl ?_ ?_
        · refine mm_aload_n 0 dX12_served_61 rfl ?_
          refine mm_getR 127 dX12_served_62 fl_RX12_98 lo_97 rfl ?_
          refine mm_iload_n 1 dX12_served_65 rfl ?_
          refine mm_bipush (v := 10) dX12_served_66 rfl ?_
          refine mm_isub dX12_served_68 ?_
          refine mm_iaload dX12_served_69 ?_
          exact mm_iret dX12_served_70 rfl
        · refine mm_aload_n 0 dX12_served_54 rfl ?_
          refine mm_getI dX12_served_55 fl_RX12_325 lo_97 rfl ?_
          refine mm_goto 70 dX12_served_58 rfl ?_
          exact mm_iret dX12_served_70 rfl
      · refine mm_aload_n 0 dX12_served_42 rfl ?_
        refine mm_getI dX12_served_43 fl_RX12_322 lo_97 rfl ?_
        refine mm_goto 70 dX12_served_46 rfl ?_
        exact mm_iret dX12_served_70 rfl
    · refine mm_aload_n 0 dX12_served_30 rfl ?_
      refine mm_getI dX12_served_31 fl_RX12_328 lo_97 rfl ?_
      refine mm_goto 70 dX12_served_34 rfl ?_
      exact mm_iret dX12_served_70 rfl
  refine mm_if_ne_b 22 dX12_served_6 rfl ?_ ?_
  · exact hj22  M_2
  · refine mm_aload_n 0 dX12_served_9 rfl ?_
    refine mm_iload_n 1 dX12_served_10 rfl ?_
    refine mm_bipush (v := 10) dX12_served_11 rfl ?_
    refine mm_isub dX12_served_13 ?_
    refine mm_callVz (as := [.int (v1 - 10)]) (st := []) (c_R_isStay E (v1 - 10) M_2) dX12_served_14 mz_X12_isStay lk_RX12_220 im_X12_isStay se_X12_isStay lo_97 rfl rfl rfl ⟨Nat.le_of_ble_eq_true rfl, Nat.le_of_ble_eq_true rfl⟩ (Nat.le_of_ble_eq_true rfl) (fun b_6 M_7 => ?_)
    refine mm_if_ne_b 22 dX12_served_17 rfl ?_ ?_
    · exact hj22  M_7
    · refine mm_iconst (v := (-1)) dX12_served_20 rfl ?_
      exact mm_iret dX12_served_21 rfl
def f_R_areStays (v1 : Int32) (M : mm_M) : Option (Bool × mm_M) := if v1 ≤ 0 then some (false, M) else if v1 &&& ((M.1 97 12) ^^^ (-1)) = 0 then some (true, M) else some (false, M)
set_option maxHeartbeats 4000000 in
theorem c_R_areStays (E : mm_E) (v1 : Int32) (M : mm_M) : ∀ (r : Bool) (M2 : mm_M), f_R_areStays v1 M = some (r, M2) → mm_P E Y_X12_areStays 1 [.ref 97, .int v1] M (some (.int (mm_b r))) M2 := by
  refine mm_entry (em := (fun x : Bool => some (.int (mm_b x)))) (by decide +kernel) (Nat.le_of_ble_eq_true rfl) ?_
  show mm_G _ E _ _ 0 [(0, .ref 97), (1, .int v1)] [] M _
  unfold f_R_areStays
  refine mm_iload_n 1 dX12_areStays_0 rfl ?_
  refine mm_if_le 19 dX12_areStays_1 rfl ?_ ?_
  · refine mm_iconst (v := 0) dX12_areStays_19 rfl ?_
    exact mm_zret (b := false) dX12_areStays_20 rfl
  · refine mm_iload_n 1 dX12_areStays_4 rfl ?_
    refine mm_aload_n 0 dX12_areStays_5 rfl ?_
    refine mm_getI dX12_areStays_6 fl_RX12_217 lo_97 rfl ?_
    refine mm_iconst (v := (-1)) dX12_areStays_9 rfl ?_
    refine mm_ixor dX12_areStays_10 ?_
    refine mm_iand dX12_areStays_11 ?_
    refine mm_if_ne 19 dX12_areStays_12 rfl ?_ ?_
    · refine mm_iconst (v := 0) dX12_areStays_19 rfl ?_
      exact mm_zret (b := false) dX12_areStays_20 rfl
    · refine mm_iconst (v := 1) dX12_areStays_15 rfl ?_
      refine mm_goto 20 dX12_areStays_16 rfl ?_
      exact mm_zret (b := true) dX12_areStays_20 rfl
