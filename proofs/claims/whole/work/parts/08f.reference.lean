def lp_R_meter_47 (v1 : Int32) (v2 : Int32) (k95 : mm_M → Option (Int32 × mm_M)) : Nat → Int32 → mm_M → Option (Int32 × mm_M)
  | 0, _, _ => none
  | n + 1, v3, M => if 24 ≤ v3 then k95 M else if mm_in (2 * v3) (mm_bl 98) = true then if mm_in ((2 * v3) + 1) (mm_bl 98) = true then if mm_in v3 (mm_al 133) = true then mm_let (mm_setA M 133 (v3.toNatClampNeg) ((((M.2.1 98 (2 * v3).toNatClampNeg) &&& 255) <<< (8 &&& 31)) ||| ((M.2.1 98 ((2 * v3) + 1).toNatClampNeg) &&& 255))) fun M_7 => mm_let (v3 + 1) fun v3_8 => lp_R_meter_47 v1 v2 k95 n v3_8 M_7 else none else none else none
set_option maxHeartbeats 4000000 in
theorem lp_R_meter_47_ok (E : mm_E) (v1 : Int32) (v2 : Int32) {k95 : mm_M → Option (Int32 × mm_M)} (hk95 : ∀ (M : mm_M), mm_G (fun x : Int32 => some (.int x)) E Y_X12_meter 4 95 [(0, .ref 97), (1, .int v1), (2, .int v2)] [] M (k95 M)) : ∀ (n : Nat) (v3 : Int32) (M : mm_M), mm_G (fun x : Int32 => some (.int x)) E Y_X12_meter 4 47 [(0, .ref 97), (1, .int v1), (2, .int v2), (3, .int v3)] [] M (lp_R_meter_47 v1 v2 k95 n v3 M) := by
  intro n
  induction n with
  | zero => intro v3 M r M2 he; cases he
  | succ n ih =>
    intro v3 M
    rw [lp_R_meter_47]
    refine mm_iload_n 3 dX12_meter_47 rfl ?_
    refine mm_bipush (v := 24) dX12_meter_48 rfl ?_
    refine mm_icmp_ge 95 dX12_meter_50 rfl ?_ ?_
    · refine mm_wk [0, 1, 2] rfl ?_
      exact hk95  M
    · refine mm_aload_n 0 dX12_meter_53 rfl ?_
      refine mm_getR 133 dX12_meter_54 fl_RX12_116 lo_97 rfl ?_
      refine mm_iload_n 3 dX12_meter_57 rfl ?_
      refine mm_aload_n 0 dX12_meter_58 rfl ?_
      refine mm_getR 98 dX12_meter_59 fl_RX12_7 lo_97 rfl ?_
      refine mm_iconst (v := 2) dX12_meter_62 rfl ?_
      refine mm_iload_n 3 dX12_meter_63 rfl ?_
      refine mm_imul dX12_meter_64 ?_
      refine mm_baload dX12_meter_65 ?_
      refine mm_sipush (v := 255) dX12_meter_66 rfl ?_
      refine mm_iand dX12_meter_69 ?_
      refine mm_bipush (v := 8) dX12_meter_70 rfl ?_
      refine mm_ishl dX12_meter_72 ?_
      refine mm_aload_n 0 dX12_meter_73 rfl ?_
      refine mm_getR 98 dX12_meter_74 fl_RX12_7 lo_97 rfl ?_
      refine mm_iconst (v := 2) dX12_meter_77 rfl ?_
      refine mm_iload_n 3 dX12_meter_78 rfl ?_
      refine mm_imul dX12_meter_79 ?_
      refine mm_iconst (v := 1) dX12_meter_80 rfl ?_
      refine mm_iadd dX12_meter_81 ?_
      refine mm_baload dX12_meter_82 ?_
      refine mm_sipush (v := 255) dX12_meter_83 rfl ?_
      refine mm_iand dX12_meter_86 ?_
      refine mm_ior dX12_meter_87 ?_
      refine mm_iastore dX12_meter_88 ?_
      refine mm_nm_M (fun M_7 => ?_)
      refine mm_iincN 3 [1, 2, 3, 0] (v := v3 + 1) (lv2 := fun v3_8 => [(0, .ref 97), (1, .int v1), (2, .int v2), (3, .int v3_8)]) dX12_meter_89 rfl rfl (by decide) (fun _ => rfl) (fun v3_8 => ?_)
      refine mm_goto 47 dX12_meter_92 rfl ?_
      exact ih v3_8 M_7
def lp_R_meter_156 (v1 : Int32) (v2 : Int32) (v3 : Int32) (v4 : Int32) (v5 : Int32) (v6 : Int32) (k182 : Int32 → mm_M → Option (Int32 × mm_M)) : Nat → Int32 → Int32 → mm_M → Option (Int32 × mm_M)
  | 0, _, _, _ => none
  | n + 1, v7, v8, M => if v1 ≤ v8 then k182 v7 M else if mm_in v8 (mm_al 134) = true then mm_let (v7 ||| (1 <<< ((M.2.1 134 v8.toNatClampNeg) &&& 31))) fun v7_15 => mm_let (v8 + 1) fun v8_16 => lp_R_meter_156 v1 v2 v3 v4 v5 v6 k182 n v7_15 v8_16 M else none
set_option maxHeartbeats 4000000 in
theorem lp_R_meter_156_ok (E : mm_E) (v1 : Int32) (v2 : Int32) (v3 : Int32) (v4 : Int32) (v5 : Int32) (v6 : Int32) {k182 : Int32 → mm_M → Option (Int32 × mm_M)} (hk182 : ∀ (v7 : Int32) (M : mm_M), mm_G (fun x : Int32 => some (.int x)) E Y_X12_meter 4 182 [(0, .ref 97), (1, .int v1), (2, .int v2), (3, .int v3), (4, .int v4), (5, .int v5), (6, .int v6), (7, .int v7)] [] M (k182 v7 M)) : ∀ (n : Nat) (v7 : Int32) (v8 : Int32) (M : mm_M), mm_G (fun x : Int32 => some (.int x)) E Y_X12_meter 4 156 [(0, .ref 97), (1, .int v1), (2, .int v2), (3, .int v3), (4, .int v4), (5, .int v5), (6, .int v6), (7, .int v7), (8, .int v8)] [] M (lp_R_meter_156 v1 v2 v3 v4 v5 v6 k182 n v7 v8 M) := by
  intro n
  induction n with
  | zero => intro v7 v8 M r M2 he; cases he
  | succ n ih =>
    intro v7 v8 M
    rw [lp_R_meter_156]
    refine mm_iload 8 dX12_meter_156 rfl ?_
    refine mm_iload_n 1 dX12_meter_158 rfl ?_
    refine mm_icmp_ge 182 dX12_meter_159 rfl ?_ ?_
    · refine mm_wk [0, 1, 2, 3, 4, 5, 6, 7] rfl ?_
      exact hk182 v7 M
    · refine mm_iload 7 dX12_meter_162 rfl ?_
      refine mm_iconst (v := 1) dX12_meter_164 rfl ?_
      refine mm_aload_n 0 dX12_meter_165 rfl ?_
      refine mm_getR 134 dX12_meter_166 fl_RX12_119 lo_97 rfl ?_
      refine mm_iload 8 dX12_meter_169 rfl ?_
      refine mm_iaload dX12_meter_171 ?_
      refine mm_ishl dX12_meter_172 ?_
      refine mm_ior dX12_meter_173 ?_
      refine mm_nm_int (fun v7_15 => ?_)
      refine mm_istore [1, 2, 3, 4, 5, 6, 7, 0, 8] (lv2 := [(0, .ref 97), (1, .int v1), (2, .int v2), (3, .int v3), (4, .int v4), (5, .int v5), (6, .int v6), (7, .int v7_15), (8, .int v8)]) dX12_meter_174 (by decide) rfl ?_
      refine mm_iincN 8 [1, 2, 3, 4, 5, 6, 7, 8, 0] (v := v8 + 1) (lv2 := fun v8_16 => [(0, .ref 97), (1, .int v1), (2, .int v2), (3, .int v3), (4, .int v4), (5, .int v5), (6, .int v6), (7, .int v7_15), (8, .int v8_16)]) dX12_meter_176 rfl rfl (by decide) (fun _ => rfl) (fun v8_16 => ?_)
      refine mm_goto 156 dX12_meter_179 rfl ?_
      exact ih v7_15 v8_16 M
def lp_R_meter_185 (v1 : Int32) (v2 : Int32) (v3 : Int32) (v4 : Int32) (v5 : Int32) (v6 : Int32) (v7 : Int32) (k216 : mm_M → Option (Int32 × mm_M)) : Nat → Int32 → mm_M → Option (Int32 × mm_M)
  | 0, _, _ => none
  | n + 1, v8, M => if v1 ≤ v8 then k216 M else if v4 = 0 then if mm_in v8 (mm_al 134) = true then if mm_in v8 (mm_al 135) = true then mm_let (mm_setA M 135 (v8.toNatClampNeg) (M.2.1 134 v8.toNatClampNeg)) fun M_18 => mm_let (v8 + 1) fun v8_19 => lp_R_meter_185 v1 v2 v3 v4 v5 v6 v7 k216 n v8_19 M_18 else none else none else k216 M
set_option maxHeartbeats 4000000 in
theorem lp_R_meter_185_ok (E : mm_E) (v1 : Int32) (v2 : Int32) (v3 : Int32) (v4 : Int32) (v5 : Int32) (v6 : Int32) (v7 : Int32) {k216 : mm_M → Option (Int32 × mm_M)} (hk216 : ∀ (M : mm_M), mm_G (fun x : Int32 => some (.int x)) E Y_X12_meter 4 216 [(0, .ref 97), (1, .int v1), (2, .int v2), (3, .int v3), (4, .int v4), (5, .int v5), (6, .int v6), (7, .int v7)] [] M (k216 M)) : ∀ (n : Nat) (v8 : Int32) (M : mm_M), mm_G (fun x : Int32 => some (.int x)) E Y_X12_meter 4 185 [(0, .ref 97), (1, .int v1), (2, .int v2), (3, .int v3), (4, .int v4), (5, .int v5), (6, .int v6), (7, .int v7), (8, .int v8)] [] M (lp_R_meter_185 v1 v2 v3 v4 v5 v6 v7 k216 n v8 M) := by
  intro n
  induction n with
  | zero => intro v8 M r M2 he; cases he
  | succ n ih =>
    intro v8 M
    rw [lp_R_meter_185]
    refine mm_iload 8 dX12_meter_185 rfl ?_
    refine mm_iload_n 1 dX12_meter_187 rfl ?_
    refine mm_icmp_ge 216 dX12_meter_188 rfl ?_ ?_
    · refine mm_wk [0, 1, 2, 3, 4, 5, 6, 7] rfl ?_
      exact hk216  M
    · refine mm_iload 4 dX12_meter_191 rfl ?_
      refine mm_if_ne 216 dX12_meter_193 rfl ?_ ?_
      · refine mm_wk [0, 1, 2, 3, 4, 5, 6, 7] rfl ?_
        exact hk216  M
      · refine mm_aload_n 0 dX12_meter_196 rfl ?_
        refine mm_getR 135 dX12_meter_197 fl_RX12_122 lo_97 rfl ?_
        refine mm_iload 8 dX12_meter_200 rfl ?_
        refine mm_aload_n 0 dX12_meter_202 rfl ?_
        refine mm_getR 134 dX12_meter_203 fl_RX12_119 lo_97 rfl ?_
        refine mm_iload 8 dX12_meter_206 rfl ?_
        refine mm_iaload dX12_meter_208 ?_
        refine mm_iastore dX12_meter_209 ?_
        refine mm_nm_M (fun M_18 => ?_)
        refine mm_iincN 8 [1, 2, 3, 4, 5, 6, 7, 8, 0] (v := v8 + 1) (lv2 := fun v8_19 => [(0, .ref 97), (1, .int v1), (2, .int v2), (3, .int v3), (4, .int v4), (5, .int v5), (6, .int v6), (7, .int v7), (8, .int v8_19)]) dX12_meter_210 rfl rfl (by decide) (fun _ => rfl) (fun v8_19 => ?_)
        refine mm_goto 185 dX12_meter_213 rfl ?_
        exact ih v8_19 M_18
def lp_R_meter_131 (v1 : Int32) (v2 : Int32) (v3 : Int32) (k235 : Int32 → Int32 → mm_M → Option (Int32 × mm_M)) : Nat → Int32 → Int32 → Int32 → mm_M → Option (Int32 × mm_M)
  | 0, _, _, _, _ => none
  | n + 1, v4, v5, v6, M => if v3 ≤ v6 then k235 v4 v5 M else mm_bd (f_R_isMeterRow v1 v6 M) fun b_11 M_12 => mm_jn (fun (v4 : Int32) (v5 : Int32) (v6 : Int32) (M_13 : mm_M) => mm_let (v6 + 1) fun v6_14 => lp_R_meter_131 v1 v2 v3 k235 n v4 v5 v6_14 M_13) fun j229 => if b_11 = true then lp_R_meter_156 v1 v2 v3 v4 v5 v6 (fun (v7 : Int32) (M_17 : mm_M) => lp_R_meter_185 v1 v2 v3 v4 v5 v6 v7 (fun (M_20 : mm_M) => mm_let (v5 &&& v7) fun v5_21 => mm_let (v4 + 1) fun v4_22 => j229 v4_22 v5_21 v6 M_20) mm_fu 0 M_17) mm_fu 0 0 M_12 else j229 v4 v5 v6 M_12
set_option maxHeartbeats 4000000 in
theorem lp_R_meter_131_ok (E : mm_E) (v1 : Int32) (v2 : Int32) (v3 : Int32) {k235 : Int32 → Int32 → mm_M → Option (Int32 × mm_M)} (hk235 : ∀ (v4 : Int32) (v5 : Int32) (M : mm_M), mm_G (fun x : Int32 => some (.int x)) E Y_X12_meter 4 235 [(0, .ref 97), (2, .int v2), (4, .int v4), (5, .int v5)] [] M (k235 v4 v5 M)) : ∀ (n : Nat) (v4 : Int32) (v5 : Int32) (v6 : Int32) (M : mm_M), mm_G (fun x : Int32 => some (.int x)) E Y_X12_meter 4 131 [(0, .ref 97), (1, .int v1), (2, .int v2), (3, .int v3), (4, .int v4), (5, .int v5), (6, .int v6)] [] M (lp_R_meter_131 v1 v2 v3 k235 n v4 v5 v6 M) := by
  intro n
  induction n with
  | zero => intro v4 v5 v6 M r M2 he; cases he
  | succ n ih =>
    intro v4 v5 v6 M
    rw [lp_R_meter_131]
    refine mm_iload 6 dX12_meter_131 rfl ?_
    refine mm_iload_n 3 dX12_meter_133 rfl ?_
    refine mm_icmp_ge 235 dX12_meter_134 rfl ?_ ?_
    · refine mm_wk [0, 2, 4, 5] rfl ?_
      exact hk235 v4 v5 M
    · refine mm_aload_n 0 dX12_meter_137 rfl ?_
      refine mm_iload_n 1 dX12_meter_138 rfl ?_
      refine mm_iload 6 dX12_meter_139 rfl ?_
      refine mm_callVz (as := [.int v1, .int v6]) (st := []) (c_R_isMeterRow E v1 v6 M) dX12_meter_141 mz_X12_isMeterRow lk_RX12_433 im_X12_isMeterRow se_X12_isMeterRow lo_97 rfl rfl rfl ⟨Nat.le_of_ble_eq_true rfl, Nat.le_of_ble_eq_true rfl⟩ (Nat.le_of_ble_eq_true rfl) (fun b_11 M_12 => ?_)
      refine mm_jnP (P := fun j => ∀ (v4 : Int32) (v5 : Int32) (v6 : Int32) (M : mm_M), mm_G (fun x : Int32 => some (.int x)) E Y_X12_meter 4 229 [(0, .ref 97), (1, .int v1), (2, .int v2), (3, .int v3), (4, .int v4), (5, .int v5), (6, .int v6)] [] M (j v4 v5 v6 M)) ?_ (fun j229 hj229 => ?_)
      · intro v4 v5 v6 M_13
        refine mm_iincN 6 [1, 2, 3, 4, 5, 6, 0] (v := v6 + 1) (lv2 := fun v6_14 => [(0, .ref 97), (1, .int v1), (2, .int v2), (3, .int v3), (4, .int v4), (5, .int v5), (6, .int v6_14)]) dX12_meter_229 rfl rfl (by decide) (fun _ => rfl) (fun v6_14 => ?_)
        refine mm_goto 131 dX12_meter_232 rfl ?_
        exact ih v4 v5 v6_14 M_13
      refine mm_if_ne_b 150 dX12_meter_144 rfl ?_ ?_
      · refine mm_iconst (v := 0) dX12_meter_150 rfl ?_
        refine mm_istore [1, 2, 3, 4, 5, 6, 7, 0] (lv2 := [(0, .ref 97), (1, .int v1), (2, .int v2), (3, .int v3), (4, .int v4), (5, .int v5), (6, .int v6), (7, .int 0)]) dX12_meter_151 (by decide) rfl ?_
        refine mm_iconst (v := 0) dX12_meter_153 rfl ?_
        refine mm_istore [1, 2, 3, 4, 5, 6, 7, 8, 0] (lv2 := [(0, .ref 97), (1, .int v1), (2, .int v2), (3, .int v3), (4, .int v4), (5, .int v5), (6, .int v6), (7, .int 0), (8, .int 0)]) dX12_meter_154 (by decide) rfl ?_
        refine lp_R_meter_156_ok E v1 v2 v3 v4 v5 v6 ?_ mm_fu 0 0 M_12
        · intro v7 M_17
          refine mm_iconst (v := 0) dX12_meter_182 rfl ?_
          refine mm_istore [1, 2, 3, 4, 5, 6, 7, 8, 0] (lv2 := [(0, .ref 97), (1, .int v1), (2, .int v2), (3, .int v3), (4, .int v4), (5, .int v5), (6, .int v6), (7, .int v7), (8, .int 0)]) dX12_meter_183 (by decide) rfl ?_
          refine lp_R_meter_185_ok E v1 v2 v3 v4 v5 v6 v7 ?_ mm_fu 0 M_17
          · intro M_20
            refine mm_iload 5 dX12_meter_216 rfl ?_
            refine mm_iload 7 dX12_meter_218 rfl ?_
            refine mm_iand dX12_meter_220 ?_
            refine mm_nm_int (fun v5_21 => ?_)
            refine mm_istore [1, 2, 3, 4, 5, 0, 6, 7] (lv2 := [(0, .ref 97), (1, .int v1), (2, .int v2), (3, .int v3), (4, .int v4), (5, .int v5_21), (6, .int v6), (7, .int v7)]) dX12_meter_221 (by decide) rfl ?_
            refine mm_iload 4 dX12_meter_223 rfl ?_
            refine mm_iconst (v := 1) dX12_meter_225 rfl ?_
            refine mm_iadd dX12_meter_226 ?_
            refine mm_nm_int (fun v4_22 => ?_)
            refine mm_istore [1, 2, 3, 4, 0, 5, 6, 7] (lv2 := [(0, .ref 97), (1, .int v1), (2, .int v2), (3, .int v3), (4, .int v4_22), (5, .int v5_21), (6, .int v6), (7, .int v7)]) dX12_meter_227 (by decide) rfl ?_
            refine mm_wk [0, 1, 2, 3, 4, 5, 6] rfl ?_
            exact hj229 v4_22 v5_21 v6 M_20
      · refine mm_goto 229 dX12_meter_147 rfl ?_
        exact hj229 v4 v5 v6 M_12
def f_R_meter (v1 : Int32) (v2 : Int32) (M : mm_M) : Option (Int32 × mm_M) := mm_bd (f_R_in v1 1 3 M) fun b_1 M_2 => if b_1 = true then mm_bd (f_R_in v2 (-1) 3 M_2) fun b_3 M_4 => if b_3 = true then mm_jn (fun (M_5 : mm_M) => if 48 ≤ M_5.1 97 1 then mm_let (mm_setI M_5 97 1 0) fun M_6 => lp_R_meter_47 v1 v2 (fun (M_9 : mm_M) => mm_jn (fun (s0 : Int32) (M_10 : mm_M) => lp_R_meter_131 v1 v2 s0 (fun (v4 : Int32) (v5 : Int32) (M_23 : mm_M) => if v2 = (-1) then some (v4, M_23) else if v4 = 0 then some ((-2), M_23) else if v2 = 3 then some (v5, M_23) else if mm_in v2 (mm_al 135) = true then some (M_23.2.1 135 v2.toNatClampNeg, M_23) else none) mm_fu 0 4095 0 M_10) fun j119 => if v1 = 1 then j119 12 M_9 else if v1 = 2 then j119 144 M_9 else j119 1728 M_9) mm_fu 0 M_6 else some ((-3), M_5)) fun j28 => if v2 = 3 then j28 M_4 else if v1 ≤ v2 then some ((-3), M_4) else j28 M_4 else some ((-3), M_4) else some ((-3), M_2)
set_option maxHeartbeats 4000000 in
theorem c_R_meter (E : mm_E) (v1 : Int32) (v2 : Int32) (M : mm_M) : ∀ (r : Int32) (M2 : mm_M), f_R_meter v1 v2 M = some (r, M2) → mm_P E Y_X12_meter 4 [.ref 97, .int v1, .int v2] M (some (.int r)) M2 := by
  refine mm_entry (em := (fun x : Int32 => some (.int x))) (by decide +kernel) (Nat.le_of_ble_eq_true rfl) ?_
  show mm_G _ E _ _ 0 [(0, .ref 97), (1, .int v1), (2, .int v2)] [] M _
  unfold f_R_meter
  refine mm_iload_n 1 dX12_meter_0 rfl ?_
  refine mm_iconst (v := 1) dX12_meter_1 rfl ?_
  refine mm_iconst (v := 3) dX12_meter_2 rfl ?_
  refine mm_callSz (as := [.int v1, .int 1, .int 3]) (st := []) (c_R_in E v1 1 3 M) dX12_meter_3 mz_X12_in lk_RX12_169 sm_X12_in rfl ⟨Nat.le_of_ble_eq_true rfl, Nat.le_of_ble_eq_true rfl⟩ (Nat.le_of_ble_eq_true rfl) (fun b_1 M_2 => ?_)
  refine mm_if_eq_b 37 dX12_meter_6 rfl ?_ ?_
  · refine mm_bipush (v := (-3)) dX12_meter_37 rfl ?_
    exact mm_iret dX12_meter_39 rfl
  · refine mm_iload_n 2 dX12_meter_9 rfl ?_
    refine mm_iconst (v := (-1)) dX12_meter_10 rfl ?_
    refine mm_iconst (v := 3) dX12_meter_11 rfl ?_
    refine mm_callSz (as := [.int v2, .int (-1), .int 3]) (st := []) (c_R_in E v2 (-1) 3 M_2) dX12_meter_12 mz_X12_in lk_RX12_169 sm_X12_in rfl ⟨Nat.le_of_ble_eq_true rfl, Nat.le_of_ble_eq_true rfl⟩ (Nat.le_of_ble_eq_true rfl) (fun b_3 M_4 => ?_)
    refine mm_if_eq_b 37 dX12_meter_15 rfl ?_ ?_
    · refine mm_bipush (v := (-3)) dX12_meter_37 rfl ?_
      exact mm_iret dX12_meter_39 rfl
    · refine mm_iload_n 2 dX12_meter_18 rfl ?_
      refine mm_iconst (v := 3) dX12_meter_19 rfl ?_
      refine mm_jnP (P := fun j => ∀ (M : mm_M), mm_G (fun x : Int32 => some (.int x)) E Y_X12_meter 4 28 [(0, .ref 97), (1, .int v1), (2, .int v2)] [] M (j M)) ?_ (fun j28 hj28 => ?_)
      · intro M_5
        refine mm_aload_n 0 dX12_meter_28 rfl ?_
        refine mm_getI dX12_meter_29 fl_RX12_144 lo_97 rfl ?_
        refine mm_bipush (v := 48) dX12_meter_32 rfl ?_
        refine mm_icmp_ge 40 dX12_meter_34 rfl ?_ ?_
        · refine mm_aload_n 0 dX12_meter_40 rfl ?_
          refine mm_iconst (v := 0) dX12_meter_41 rfl ?_
          refine mm_putI dX12_meter_42 fp_RX12_144 lo_97 rfl ?_
          refine mm_nm_M (fun M_6 => ?_)
          refine mm_iconst (v := 0) dX12_meter_45 rfl ?_
          refine mm_istore_n [1, 2, 3, 0] (lv2 := [(0, .ref 97), (1, .int v1), (2, .int v2), (3, .int 0)]) dX12_meter_46 (by decide) rfl ?_
          refine lp_R_meter_47_ok E v1 v2 ?_ mm_fu 0 M_6
          · intro M_9
            refine mm_iload_n 1 dX12_meter_95 rfl ?_
            refine mm_iconst (v := 1) dX12_meter_96 rfl ?_
            refine mm_jnP (P := fun j => ∀ (s0 : Int32) (M : mm_M), mm_G (fun x : Int32 => some (.int x)) E Y_X12_meter 4 119 [(0, .ref 97), (1, .int v1), (2, .int v2)] [.int s0] M (j s0 M)) ?_ (fun j119 hj119 => ?_)
            · intro s0 M_10
              refine mm_istore_n [1, 2, 3, 0] (lv2 := [(0, .ref 97), (1, .int v1), (2, .int v2), (3, .int s0)]) dX12_meter_119 (by decide) rfl ?_
              refine mm_iconst (v := 0) dX12_meter_120 rfl ?_
              refine mm_istore [1, 2, 3, 4, 0] (lv2 := [(0, .ref 97), (1, .int v1), (2, .int v2), (3, .int s0), (4, .int 0)]) dX12_meter_121 (by decide) rfl ?_
              refine mm_sipush (v := 4095) dX12_meter_123 rfl ?_
              refine mm_istore [1, 2, 3, 4, 5, 0] (lv2 := [(0, .ref 97), (1, .int v1), (2, .int v2), (3, .int s0), (4, .int 0), (5, .int 4095)]) dX12_meter_126 (by decide) rfl ?_
              refine mm_iconst (v := 0) dX12_meter_128 rfl ?_
              refine mm_istore [1, 2, 3, 4, 5, 6, 0] (lv2 := [(0, .ref 97), (1, .int v1), (2, .int v2), (3, .int s0), (4, .int 0), (5, .int 4095), (6, .int 0)]) dX12_meter_129 (by decide) rfl ?_
              refine lp_R_meter_131_ok E v1 v2 s0 ?_ mm_fu 0 4095 0 M_10
              · intro v4 v5 M_23
                refine mm_iload_n 1 dX12_meter_235 rfl ?_
                refine mm_iconst (v := (-1)) dX12_meter_236 rfl ?_
                refine mm_icmp_ne 245 dX12_meter_237 rfl ?_ ?_
                · refine mm_iload 2 dX12_meter_245 rfl ?_
                  refine mm_if_ne 255 dX12_meter_247 rfl ?_ ?_
                  · refine mm_iload_n 1 dX12_meter_255 rfl ?_
                    refine mm_iconst (v := 3) dX12_meter_256 rfl ?_
                    refine mm_icmp_ne 265 dX12_meter_257 rfl ?_ ?_
                    · refine mm_aload_n 0 dX12_meter_265 rfl ?_
                      refine mm_getR 135 dX12_meter_266 fl_RX12_122 lo_97 rfl ?_
                      refine mm_iload_n 1 dX12_meter_269 rfl ?_
                      refine mm_iaload dX12_meter_270 ?_
                      exact mm_iret dX12_meter_271 rfl
                    · refine mm_iload 3 dX12_meter_260 rfl ?_
                      refine mm_goto 271 dX12_meter_262 rfl ?_
                      exact mm_iret dX12_meter_271 rfl
                  · refine mm_bipush (v := (-2)) dX12_meter_250 rfl ?_
                    refine mm_goto 271 dX12_meter_252 rfl ?_
                    exact mm_iret dX12_meter_271 rfl
                · refine mm_iload 2 dX12_meter_240 rfl ?_
                  refine mm_goto 271 dX12_meter_242 rfl ?_
                  exact mm_iret dX12_meter_271 rfl
            refine mm_icmp_ne 105 dX12_meter_97 rfl ?_ ?_
            · refine mm_iload_n 1 dX12_meter_105 rfl ?_
              refine mm_iconst (v := 2) dX12_meter_106 rfl ?_
              refine mm_icmp_ne 116 dX12_meter_107 rfl ?_ ?_
              · refine mm_sipush (v := 1728) dX12_meter_116 rfl ?_
                exact hj119 1728 M_9
              · refine mm_sipush (v := 144) dX12_meter_110 rfl ?_
                refine mm_goto 119 dX12_meter_113 rfl ?_
                exact hj119 144 M_9
            · refine mm_bipush (v := 12) dX12_meter_100 rfl ?_
              refine mm_goto 119 dX12_meter_102 rfl ?_
              exact hj119 12 M_9
        · refine mm_bipush (v := (-3)) dX12_meter_37 rfl ?_
          exact mm_iret dX12_meter_39 rfl
      refine mm_icmp_eq 28 dX12_meter_20 rfl ?_ ?_
      · exact hj28  M_4
      · refine mm_iload_n 2 dX12_meter_23 rfl ?_
        refine mm_iload_n 1 dX12_meter_24 rfl ?_
        refine mm_icmp_ge 37 dX12_meter_25 rfl ?_ ?_
        · refine mm_bipush (v := (-3)) dX12_meter_37 rfl ?_
          exact mm_iret dX12_meter_39 rfl
        · exact hj28  M_4
def f_R_seed (v1 : Int32) (M : mm_M) : Option (Bool × mm_M) := mm_bd (f_R_in v1 0 65535 M) fun b_1 M_2 => if b_1 = true then mm_let (mm_setI M_2 97 13 v1) fun M_3 => some (true, M_3) else some (false, M_2)
set_option maxHeartbeats 4000000 in
theorem c_R_seed (E : mm_E) (v1 : Int32) (M : mm_M) : ∀ (r : Bool) (M2 : mm_M), f_R_seed v1 M = some (r, M2) → mm_P E Y_X12_seed 2 [.ref 97, .int v1] M (some (.int (mm_b r))) M2 := by
  refine mm_entry (em := (fun x : Bool => some (.int (mm_b x)))) (by decide +kernel) (Nat.le_of_ble_eq_true rfl) ?_
  show mm_G _ E _ _ 0 [(0, .ref 97), (1, .int v1)] [] M _
  unfold f_R_seed
  refine mm_iload_n 1 dX12_seed_0 rfl ?_
  refine mm_iconst (v := 0) dX12_seed_1 rfl ?_
  refine mm_ldcw dX12_seed_2 ct_RX12_436 ?_
  refine mm_callSz (as := [.int v1, .int 0, .int 65535]) (st := []) (c_R_in E v1 0 65535 M) dX12_seed_5 mz_X12_in lk_RX12_169 sm_X12_in rfl ⟨Nat.le_of_ble_eq_true rfl, Nat.le_of_ble_eq_true rfl⟩ (Nat.le_of_ble_eq_true rfl) (fun b_1 M_2 => ?_)
  refine mm_if_ne_b 13 dX12_seed_8 rfl ?_ ?_
  · refine mm_aload_n 0 dX12_seed_13 rfl ?_
    refine mm_iload_n 1 dX12_seed_14 rfl ?_
    refine mm_putI dX12_seed_15 fp_RX12_137 lo_97 rfl ?_
    refine mm_nm_M (fun M_3 => ?_)
    refine mm_iconst (v := 1) dX12_seed_18 rfl ?_
    exact mm_zret (b := true) dX12_seed_19 rfl
  · refine mm_iconst (v := 0) dX12_seed_11 rfl ?_
    exact mm_zret (b := false) dX12_seed_12 rfl
def lp_R_draw_14 (v1 : Int32) (k90 : mm_M → Option (Int32 × mm_M)) : Nat → Int32 → mm_M → Option (Int32 × mm_M)
  | 0, _, _ => none
  | n + 1, v2, M => if v1 ≤ v2 then k90 M else mm_let (mm_setI M 97 13 (mm_rem ((25173 * (M.1 97 13)) + 13849) 65536)) fun M_3 => mm_let (mm_rem (M_3.1 97 13) 10) fun v3_4 => mm_let (mm_rem ((M_3.1 97 13) / 10) 12) fun v4_5 => mm_bd (f_R_isStay v3_4 M_3) fun b_6 M_7 => mm_jn (fun (v2 : Int32) (M_8 : mm_M) => mm_let (v2 + 1) fun v2_9 => lp_R_draw_14 v1 k90 n v2_9 M_8) fun j84 => if b_6 = true then mm_bd (f_R_isDay v4_5 M_7) fun b_10 M_11 => if b_10 = true then if mm_in v3_4 (mm_al 106) = true then mm_let (mm_setA M_11 106 (v3_4.toNatClampNeg) v4_5) fun M_12 => j84 v2 M_12 else none else j84 v2 M_11 else j84 v2 M_7
set_option maxHeartbeats 4000000 in
theorem lp_R_draw_14_ok (E : mm_E) (v1 : Int32) {k90 : mm_M → Option (Int32 × mm_M)} (hk90 : ∀ (M : mm_M), mm_G (fun x : Int32 => some (.int x)) E Y_X12_draw 7 90 [(0, .ref 97)] [] M (k90 M)) : ∀ (n : Nat) (v2 : Int32) (M : mm_M), mm_G (fun x : Int32 => some (.int x)) E Y_X12_draw 7 14 [(0, .ref 97), (1, .int v1), (2, .int v2)] [] M (lp_R_draw_14 v1 k90 n v2 M) := by
  intro n
  induction n with
  | zero => intro v2 M r M2 he; cases he
  | succ n ih =>
    intro v2 M
    rw [lp_R_draw_14]
    refine mm_iload_n 2 dX12_draw_14 rfl ?_
    refine mm_iload_n 1 dX12_draw_15 rfl ?_
    refine mm_icmp_ge 90 dX12_draw_16 rfl ?_ ?_
    · refine mm_wk [0] rfl ?_
      exact hk90  M
    · refine mm_aload_n 0 dX12_draw_19 rfl ?_
      refine mm_sipush (v := 25173) dX12_draw_20 rfl ?_
      refine mm_aload_n 0 dX12_draw_23 rfl ?_
      refine mm_getI dX12_draw_24 fl_RX12_137 lo_97 rfl ?_
      refine mm_imul dX12_draw_27 ?_
      refine mm_sipush (v := 13849) dX12_draw_28 rfl ?_
      refine mm_iadd dX12_draw_31 ?_
      refine mm_ldcw dX12_draw_32 ct_RX12_437 ?_
      refine mm_irem_c dX12_draw_35 (by decide) ?_
      refine mm_putI dX12_draw_36 fp_RX12_137 lo_97 rfl ?_
      refine mm_nm_M (fun M_3 => ?_)
      refine mm_aload_n 0 dX12_draw_39 rfl ?_
      refine mm_getI dX12_draw_40 fl_RX12_137 lo_97 rfl ?_
      refine mm_bipush (v := 10) dX12_draw_43 rfl ?_
      refine mm_irem_c dX12_draw_45 (by decide) ?_
      refine mm_nm_int (fun v3_4 => ?_)
      refine mm_istore_n [1, 2, 3, 0] (lv2 := [(0, .ref 97), (1, .int v1), (2, .int v2), (3, .int v3_4)]) dX12_draw_46 (by decide) rfl ?_
      refine mm_aload_n 0 dX12_draw_47 rfl ?_
      refine mm_getI dX12_draw_48 fl_RX12_137 lo_97 rfl ?_
      refine mm_bipush (v := 10) dX12_draw_51 rfl ?_
      refine mm_idiv_c dX12_draw_53 (by decide) ?_
      refine mm_bipush (v := 12) dX12_draw_54 rfl ?_
      refine mm_irem_c dX12_draw_56 (by decide) ?_
      refine mm_nm_int (fun v4_5 => ?_)
      refine mm_istore [1, 2, 3, 4, 0] (lv2 := [(0, .ref 97), (1, .int v1), (2, .int v2), (3, .int v3_4), (4, .int v4_5)]) dX12_draw_57 (by decide) rfl ?_
      refine mm_aload_n 0 dX12_draw_59 rfl ?_
      refine mm_iload_n 3 dX12_draw_60 rfl ?_
      refine mm_callVz (as := [.int v3_4]) (st := []) (c_R_isStay E v3_4 M_3) dX12_draw_61 mz_X12_isStay lk_RX12_220 im_X12_isStay se_X12_isStay lo_97 rfl rfl rfl ⟨Nat.le_of_ble_eq_true rfl, Nat.le_of_ble_eq_true rfl⟩ (Nat.le_of_ble_eq_true rfl) (fun b_6 M_7 => ?_)
      refine mm_jnP (P := fun j => ∀ (v2 : Int32) (M : mm_M), mm_G (fun x : Int32 => some (.int x)) E Y_X12_draw 7 84 [(0, .ref 97), (1, .int v1), (2, .int v2)] [] M (j v2 M)) ?_ (fun j84 hj84 => ?_)
      · intro v2 M_8
        refine mm_iincN 2 [1, 2, 0] (v := v2 + 1) (lv2 := fun v2_9 => [(0, .ref 97), (1, .int v1), (2, .int v2_9)]) dX12_draw_84 rfl rfl (by decide) (fun _ => rfl) (fun v2_9 => ?_)
        refine mm_goto 14 dX12_draw_87 rfl ?_
        exact ih v2_9 M_8
      refine mm_if_eq_b 84 dX12_draw_64 rfl ?_ ?_
      · refine mm_wk [0, 1, 2] rfl ?_
        exact hj84 v2 M_7
      · refine mm_aload_n 0 dX12_draw_67 rfl ?_
        refine mm_iload 4 dX12_draw_68 rfl ?_
        refine mm_callVz (as := [.int v4_5]) (st := []) (c_R_isDay E v4_5 M_7) dX12_draw_70 mz_X12_isDay lk_RX12_202 im_X12_isDay se_X12_isDay lo_97 rfl rfl rfl ⟨Nat.le_of_ble_eq_true rfl, Nat.le_of_ble_eq_true rfl⟩ (Nat.le_of_ble_eq_true rfl) (fun b_10 M_11 => ?_)
        refine mm_if_eq_b 84 dX12_draw_73 rfl ?_ ?_
        · refine mm_wk [0, 1, 2] rfl ?_
          exact hj84 v2 M_11
        · refine mm_aload_n 0 dX12_draw_76 rfl ?_
          refine mm_getR 106 dX12_draw_77 fl_RX12_35 lo_97 rfl ?_
          refine mm_iload_n 3 dX12_draw_80 rfl ?_
          refine mm_iload 4 dX12_draw_81 rfl ?_
          refine mm_iastore dX12_draw_83 ?_
          refine mm_nm_M (fun M_12 => ?_)
          refine mm_wk [0, 1, 2] rfl ?_
          exact hj84 v2 M_12
def f_R_draw (v1 : Int32) (M : mm_M) : Option (Int32 × mm_M) := mm_bd (f_R_in v1 1 20 M) fun b_1 M_2 => if b_1 = true then lp_R_draw_14 v1 (fun (M_13 : mm_M) => mm_bd (f_R_serves M_13) fun u_14 M_15 => some (M_15.1 97 47, M_15)) mm_fu 0 M_2 else some ((-1), M_2)
set_option maxHeartbeats 4000000 in
theorem c_R_draw (E : mm_E) (v1 : Int32) (M : mm_M) : ∀ (r : Int32) (M2 : mm_M), f_R_draw v1 M = some (r, M2) → mm_P E Y_X12_draw 7 [.ref 97, .int v1] M (some (.int r)) M2 := by
  refine mm_entry (em := (fun x : Int32 => some (.int x))) (by decide +kernel) (Nat.le_of_ble_eq_true rfl) ?_
  show mm_G _ E _ _ 0 [(0, .ref 97), (1, .int v1)] [] M _
  unfold f_R_draw
  refine mm_iload_n 1 dX12_draw_0 rfl ?_
  refine mm_iconst (v := 1) dX12_draw_1 rfl ?_
  refine mm_bipush (v := 20) dX12_draw_2 rfl ?_
  refine mm_callSz (as := [.int v1, .int 1, .int 20]) (st := []) (c_R_in E v1 1 20 M) dX12_draw_4 mz_X12_in lk_RX12_169 sm_X12_in rfl ⟨Nat.le_of_ble_eq_true rfl, Nat.le_of_ble_eq_true rfl⟩ (Nat.le_of_ble_eq_true rfl) (fun b_1 M_2 => ?_)
  refine mm_if_ne_b 12 dX12_draw_7 rfl ?_ ?_
  · refine mm_iconst (v := 0) dX12_draw_12 rfl ?_
    refine mm_istore_n [1, 2, 0] (lv2 := [(0, .ref 97), (1, .int v1), (2, .int 0)]) dX12_draw_13 (by decide) rfl ?_
    refine lp_R_draw_14_ok E v1 ?_ mm_fu 0 M_2
    · intro M_13
      refine mm_aload_n 0 dX12_draw_90 rfl ?_
      refine mm_callVv (as := []) (st := []) (c_R_serves E M_13) dX12_draw_91 mz_X12_serves lk_RX12_344 im_X12_serves se_X12_serves lo_97 rfl rfl rfl ⟨Nat.le_of_ble_eq_true rfl, Nat.le_of_ble_eq_true rfl⟩ (Nat.le_of_ble_eq_true rfl) (fun u_14 M_15 => ?_)
      refine mm_aload_n 0 dX12_draw_94 rfl ?_
      refine mm_getI dX12_draw_95 fl_RX12_328 lo_97 rfl ?_
      exact mm_iret dX12_draw_98 rfl
  · refine mm_iconst (v := (-1)) dX12_draw_10 rfl ?_
    exact mm_iret dX12_draw_11 rfl
def lp_R_copies_105_136_2 (k20 : mm_M → Option (Unit × mm_M)) : Nat → Int32 → mm_M → Option (Unit × mm_M)
  | 0, _, _ => none
  | n + 1, v2, M => if 10 ≤ v2 then k20 M else if mm_in v2 (mm_al 105) = true then if mm_in v2 (mm_al 136) = true then mm_let (mm_setA M 136 (v2.toNatClampNeg) (M.2.1 105 v2.toNatClampNeg)) fun M_1 => mm_let (v2 + 1) fun v2_2 => lp_R_copies_105_136_2 k20 n v2_2 M_1 else none else none
set_option maxHeartbeats 4000000 in
theorem lp_R_copies_105_136_2_ok (E : mm_E) {k20 : mm_M → Option (Unit × mm_M)} (hk20 : ∀ (M : mm_M), mm_G (fun _ : Unit => none) E Y_X12_copies 1 20 [] [] M (k20 M)) : ∀ (n : Nat) (v2 : Int32) (M : mm_M), mm_G (fun _ : Unit => none) E Y_X12_copies 1 2 [(0, .ref 105), (1, .ref 136), (2, .int v2)] [] M (lp_R_copies_105_136_2 k20 n v2 M) := by
  intro n
  induction n with
  | zero => intro v2 M r M2 he; cases he
  | succ n ih =>
    intro v2 M
    rw [lp_R_copies_105_136_2]
    refine mm_iload_n 2 dX12_copies_2 rfl ?_
    refine mm_bipush (v := 10) dX12_copies_3 rfl ?_
    refine mm_icmp_ge 20 dX12_copies_5 rfl ?_ ?_
    · refine mm_wk [] rfl ?_
      exact hk20  M
    · refine mm_aload_n 1 dX12_copies_8 rfl ?_
      refine mm_iload_n 2 dX12_copies_9 rfl ?_
      refine mm_aload_n 0 dX12_copies_10 rfl ?_
      refine mm_iload_n 2 dX12_copies_11 rfl ?_
      refine mm_iaload dX12_copies_12 ?_
      refine mm_iastore dX12_copies_13 ?_
      refine mm_nm_M (fun M_1 => ?_)
      refine mm_iincN 2 [1, 2, 0] (v := v2 + 1) (lv2 := fun v2_2 => [(0, .ref 105), (1, .ref 136), (2, .int v2_2)]) dX12_copies_14 rfl rfl (by decide) (fun _ => rfl) (fun v2_2 => ?_)
      refine mm_goto 2 dX12_copies_17 rfl ?_
      exact ih v2_2 M_1
def f_R_copies_105_136 (M : mm_M) : Option (Unit × mm_M) := lp_R_copies_105_136_2 (fun (M_3 : mm_M) => some ((), M_3)) mm_fu 0 M
set_option maxHeartbeats 4000000 in
theorem c_R_copies_105_136 (E : mm_E) (M : mm_M) : ∀ (r : Unit) (M2 : mm_M), f_R_copies_105_136 M = some (r, M2) → mm_P E Y_X12_copies 1 [.ref 105, .ref 136] M none M2 := by
  refine mm_entry (em := (fun _ : Unit => none)) (by decide +kernel) (Nat.le_of_ble_eq_true rfl) ?_
  show mm_G _ E _ _ 0 [(0, .ref 105), (1, .ref 136)] [] M _
  unfold f_R_copies_105_136
  refine mm_iconst (v := 0) dX12_copies_0 rfl ?_
  refine mm_istore_n [1, 2, 0] (lv2 := [(0, .ref 105), (1, .ref 136), (2, .int 0)]) dX12_copies_1 (by decide) rfl ?_
  refine lp_R_copies_105_136_2_ok E ?_ mm_fu 0 M
  · intro M_3
    exact mm_vret dX12_copies_20 rfl
def lp_R_copies_106_137_2 (k20 : mm_M → Option (Unit × mm_M)) : Nat → Int32 → mm_M → Option (Unit × mm_M)
  | 0, _, _ => none
  | n + 1, v2, M => if 10 ≤ v2 then k20 M else if mm_in v2 (mm_al 106) = true then if mm_in v2 (mm_al 137) = true then mm_let (mm_setA M 137 (v2.toNatClampNeg) (M.2.1 106 v2.toNatClampNeg)) fun M_1 => mm_let (v2 + 1) fun v2_2 => lp_R_copies_106_137_2 k20 n v2_2 M_1 else none else none
set_option maxHeartbeats 4000000 in
theorem lp_R_copies_106_137_2_ok (E : mm_E) {k20 : mm_M → Option (Unit × mm_M)} (hk20 : ∀ (M : mm_M), mm_G (fun _ : Unit => none) E Y_X12_copies 1 20 [] [] M (k20 M)) : ∀ (n : Nat) (v2 : Int32) (M : mm_M), mm_G (fun _ : Unit => none) E Y_X12_copies 1 2 [(0, .ref 106), (1, .ref 137), (2, .int v2)] [] M (lp_R_copies_106_137_2 k20 n v2 M) := by
  intro n
  induction n with
  | zero => intro v2 M r M2 he; cases he
  | succ n ih =>
    intro v2 M
    rw [lp_R_copies_106_137_2]
    refine mm_iload_n 2 dX12_copies_2 rfl ?_
    refine mm_bipush (v := 10) dX12_copies_3 rfl ?_
    refine mm_icmp_ge 20 dX12_copies_5 rfl ?_ ?_
    · refine mm_wk [] rfl ?_
      exact hk20  M
    · refine mm_aload_n 1 dX12_copies_8 rfl ?_
      refine mm_iload_n 2 dX12_copies_9 rfl ?_
      refine mm_aload_n 0 dX12_copies_10 rfl ?_
      refine mm_iload_n 2 dX12_copies_11 rfl ?_
      refine mm_iaload dX12_copies_12 ?_
      refine mm_iastore dX12_copies_13 ?_
      refine mm_nm_M (fun M_1 => ?_)
      refine mm_iincN 2 [1, 2, 0] (v := v2 + 1) (lv2 := fun v2_2 => [(0, .ref 106), (1, .ref 137), (2, .int v2_2)]) dX12_copies_14 rfl rfl (by decide) (fun _ => rfl) (fun v2_2 => ?_)
      refine mm_goto 2 dX12_copies_17 rfl ?_
      exact ih v2_2 M_1
def f_R_copies_106_137 (M : mm_M) : Option (Unit × mm_M) := lp_R_copies_106_137_2 (fun (M_3 : mm_M) => some ((), M_3)) mm_fu 0 M
set_option maxHeartbeats 4000000 in
theorem c_R_copies_106_137 (E : mm_E) (M : mm_M) : ∀ (r : Unit) (M2 : mm_M), f_R_copies_106_137 M = some (r, M2) → mm_P E Y_X12_copies 1 [.ref 106, .ref 137] M none M2 := by
  refine mm_entry (em := (fun _ : Unit => none)) (by decide +kernel) (Nat.le_of_ble_eq_true rfl) ?_
  show mm_G _ E _ _ 0 [(0, .ref 106), (1, .ref 137)] [] M _
  unfold f_R_copies_106_137
  refine mm_iconst (v := 0) dX12_copies_0 rfl ?_
  refine mm_istore_n [1, 2, 0] (lv2 := [(0, .ref 106), (1, .ref 137), (2, .int 0)]) dX12_copies_1 (by decide) rfl ?_
  refine lp_R_copies_106_137_2_ok E ?_ mm_fu 0 M
  · intro M_3
    exact mm_vret dX12_copies_20 rfl
def lp_R_copies_107_138_2 (k20 : mm_M → Option (Unit × mm_M)) : Nat → Int32 → mm_M → Option (Unit × mm_M)
  | 0, _, _ => none
  | n + 1, v2, M => if 10 ≤ v2 then k20 M else if mm_in v2 (mm_al 107) = true then if mm_in v2 (mm_al 138) = true then mm_let (mm_setA M 138 (v2.toNatClampNeg) (M.2.1 107 v2.toNatClampNeg)) fun M_1 => mm_let (v2 + 1) fun v2_2 => lp_R_copies_107_138_2 k20 n v2_2 M_1 else none else none
set_option maxHeartbeats 4000000 in
theorem lp_R_copies_107_138_2_ok (E : mm_E) {k20 : mm_M → Option (Unit × mm_M)} (hk20 : ∀ (M : mm_M), mm_G (fun _ : Unit => none) E Y_X12_copies 1 20 [] [] M (k20 M)) : ∀ (n : Nat) (v2 : Int32) (M : mm_M), mm_G (fun _ : Unit => none) E Y_X12_copies 1 2 [(0, .ref 107), (1, .ref 138), (2, .int v2)] [] M (lp_R_copies_107_138_2 k20 n v2 M) := by
  intro n
  induction n with
  | zero => intro v2 M r M2 he; cases he
  | succ n ih =>
    intro v2 M
    rw [lp_R_copies_107_138_2]
    refine mm_iload_n 2 dX12_copies_2 rfl ?_
    refine mm_bipush (v := 10) dX12_copies_3 rfl ?_
    refine mm_icmp_ge 20 dX12_copies_5 rfl ?_ ?_
    · refine mm_wk [] rfl ?_
      exact hk20  M
    · refine mm_aload_n 1 dX12_copies_8 rfl ?_
      refine mm_iload_n 2 dX12_copies_9 rfl ?_
      refine mm_aload_n 0 dX12_copies_10 rfl ?_
      refine mm_iload_n 2 dX12_copies_11 rfl ?_
      refine mm_iaload dX12_copies_12 ?_
      refine mm_iastore dX12_copies_13 ?_
      refine mm_nm_M (fun M_1 => ?_)
      refine mm_iincN 2 [1, 2, 0] (v := v2 + 1) (lv2 := fun v2_2 => [(0, .ref 107), (1, .ref 138), (2, .int v2_2)]) dX12_copies_14 rfl rfl (by decide) (fun _ => rfl) (fun v2_2 => ?_)
      refine mm_goto 2 dX12_copies_17 rfl ?_
      exact ih v2_2 M_1
def f_R_copies_107_138 (M : mm_M) : Option (Unit × mm_M) := lp_R_copies_107_138_2 (fun (M_3 : mm_M) => some ((), M_3)) mm_fu 0 M
set_option maxHeartbeats 4000000 in
theorem c_R_copies_107_138 (E : mm_E) (M : mm_M) : ∀ (r : Unit) (M2 : mm_M), f_R_copies_107_138 M = some (r, M2) → mm_P E Y_X12_copies 1 [.ref 107, .ref 138] M none M2 := by
  refine mm_entry (em := (fun _ : Unit => none)) (by decide +kernel) (Nat.le_of_ble_eq_true rfl) ?_
  show mm_G _ E _ _ 0 [(0, .ref 107), (1, .ref 138)] [] M _
  unfold f_R_copies_107_138
  refine mm_iconst (v := 0) dX12_copies_0 rfl ?_
  refine mm_istore_n [1, 2, 0] (lv2 := [(0, .ref 107), (1, .ref 138), (2, .int 0)]) dX12_copies_1 (by decide) rfl ?_
  refine lp_R_copies_107_138_2_ok E ?_ mm_fu 0 M
  · intro M_3
    exact mm_vret dX12_copies_20 rfl
def lp_R_copies_108_139_2 (k20 : mm_M → Option (Unit × mm_M)) : Nat → Int32 → mm_M → Option (Unit × mm_M)
  | 0, _, _ => none
  | n + 1, v2, M => if 10 ≤ v2 then k20 M else if mm_in v2 (mm_al 108) = true then if mm_in v2 (mm_al 139) = true then mm_let (mm_setA M 139 (v2.toNatClampNeg) (M.2.1 108 v2.toNatClampNeg)) fun M_1 => mm_let (v2 + 1) fun v2_2 => lp_R_copies_108_139_2 k20 n v2_2 M_1 else none else none
set_option maxHeartbeats 4000000 in
theorem lp_R_copies_108_139_2_ok (E : mm_E) {k20 : mm_M → Option (Unit × mm_M)} (hk20 : ∀ (M : mm_M), mm_G (fun _ : Unit => none) E Y_X12_copies 1 20 [] [] M (k20 M)) : ∀ (n : Nat) (v2 : Int32) (M : mm_M), mm_G (fun _ : Unit => none) E Y_X12_copies 1 2 [(0, .ref 108), (1, .ref 139), (2, .int v2)] [] M (lp_R_copies_108_139_2 k20 n v2 M) := by
  intro n
  induction n with
  | zero => intro v2 M r M2 he; cases he
  | succ n ih =>
    intro v2 M
    rw [lp_R_copies_108_139_2]
    refine mm_iload_n 2 dX12_copies_2 rfl ?_
    refine mm_bipush (v := 10) dX12_copies_3 rfl ?_
    refine mm_icmp_ge 20 dX12_copies_5 rfl ?_ ?_
    · refine mm_wk [] rfl ?_
      exact hk20  M
    · refine mm_aload_n 1 dX12_copies_8 rfl ?_
      refine mm_iload_n 2 dX12_copies_9 rfl ?_
      refine mm_aload_n 0 dX12_copies_10 rfl ?_
      refine mm_iload_n 2 dX12_copies_11 rfl ?_
      refine mm_iaload dX12_copies_12 ?_
      refine mm_iastore dX12_copies_13 ?_
      refine mm_nm_M (fun M_1 => ?_)
      refine mm_iincN 2 [1, 2, 0] (v := v2 + 1) (lv2 := fun v2_2 => [(0, .ref 108), (1, .ref 139), (2, .int v2_2)]) dX12_copies_14 rfl rfl (by decide) (fun _ => rfl) (fun v2_2 => ?_)
      refine mm_goto 2 dX12_copies_17 rfl ?_
      exact ih v2_2 M_1
def f_R_copies_108_139 (M : mm_M) : Option (Unit × mm_M) := lp_R_copies_108_139_2 (fun (M_3 : mm_M) => some ((), M_3)) mm_fu 0 M
set_option maxHeartbeats 4000000 in
theorem c_R_copies_108_139 (E : mm_E) (M : mm_M) : ∀ (r : Unit) (M2 : mm_M), f_R_copies_108_139 M = some (r, M2) → mm_P E Y_X12_copies 1 [.ref 108, .ref 139] M none M2 := by
  refine mm_entry (em := (fun _ : Unit => none)) (by decide +kernel) (Nat.le_of_ble_eq_true rfl) ?_
  show mm_G _ E _ _ 0 [(0, .ref 108), (1, .ref 139)] [] M _
  unfold f_R_copies_108_139
  refine mm_iconst (v := 0) dX12_copies_0 rfl ?_
  refine mm_istore_n [1, 2, 0] (lv2 := [(0, .ref 108), (1, .ref 139), (2, .int 0)]) dX12_copies_1 (by decide) rfl ?_
  refine lp_R_copies_108_139_2_ok E ?_ mm_fu 0 M
  · intro M_3
    exact mm_vret dX12_copies_20 rfl
def f_R_keep (M : mm_M) : Option (Int32 × mm_M) := mm_let (mm_setI M 97 61 (mm_b true)) fun M_1 => mm_let (mm_setI M_1 97 62 (M_1.1 97 12)) fun M_2 => mm_let (mm_setI M_2 97 63 (M_2.1 97 13)) fun M_3 => mm_bd (f_R_copies_105_136 M_3) fun u_4 M_5 => mm_bd (f_R_copies_106_137 M_5) fun u_6 M_7 => mm_bd (f_R_copies_107_138 M_7) fun u_8 M_9 => mm_bd (f_R_copies_108_139 M_9) fun u_10 M_11 => mm_bd (f_R_bits (M_11.1 97 12) M_11) fun r_12 M_13 => some (r_12, M_13)
set_option maxHeartbeats 4000000 in
theorem c_R_keep (E : mm_E) (M : mm_M) : ∀ (r : Int32) (M2 : mm_M), f_R_keep M = some (r, M2) → mm_P E Y_X12_keep 2 [.ref 97] M (some (.int r)) M2 := by
  refine mm_entry (em := (fun x : Int32 => some (.int x))) (by decide +kernel) (Nat.le_of_ble_eq_true rfl) ?_
  show mm_G _ E _ _ 0 [(0, .ref 97)] [] M _
  unfold f_R_keep
  refine mm_aload_n 0 dX12_keep_0 rfl ?_
  refine mm_iconst (v := 1) dX12_keep_1 rfl ?_
  refine mm_putZ (b := true) dX12_keep_2 fp_RX12_438 lo_97 rfl ?_
  refine mm_nm_M (fun M_1 => ?_)
  refine mm_aload_n 0 dX12_keep_5 rfl ?_
  refine mm_aload_n 0 dX12_keep_6 rfl ?_
  refine mm_getI dX12_keep_7 fl_RX12_217 lo_97 rfl ?_
  refine mm_putI dX12_keep_10 fp_RX12_442 lo_97 rfl ?_
  refine mm_nm_M (fun M_2 => ?_)
  refine mm_aload_n 0 dX12_keep_13 rfl ?_
  refine mm_aload_n 0 dX12_keep_14 rfl ?_
  refine mm_getI dX12_keep_15 fl_RX12_137 lo_97 rfl ?_
  refine mm_putI dX12_keep_18 fp_RX12_445 lo_97 rfl ?_
  refine mm_nm_M (fun M_3 => ?_)
  refine mm_aload_n 0 dX12_keep_21 rfl ?_
  refine mm_getR 105 dX12_keep_22 fl_RX12_32 lo_97 rfl ?_
  refine mm_aload_n 0 dX12_keep_25 rfl ?_
  refine mm_getR 136 dX12_keep_26 fl_RX12_125 lo_97 rfl ?_
  refine mm_callSv (as := [.ref 105, .ref 136]) (st := []) (c_R_copies_105_136 E M_3) dX12_keep_29 mz_X12_copies lk_RX12_448 sm_X12_copies rfl ⟨Nat.le_of_ble_eq_true rfl, Nat.le_of_ble_eq_true rfl⟩ (Nat.le_of_ble_eq_true rfl) (fun u_4 M_5 => ?_)
  refine mm_aload_n 0 dX12_keep_32 rfl ?_
  refine mm_getR 106 dX12_keep_33 fl_RX12_35 lo_97 rfl ?_
  refine mm_aload_n 0 dX12_keep_36 rfl ?_
  refine mm_getR 137 dX12_keep_37 fl_RX12_128 lo_97 rfl ?_
  refine mm_callSv (as := [.ref 106, .ref 137]) (st := []) (c_R_copies_106_137 E M_5) dX12_keep_40 mz_X12_copies lk_RX12_448 sm_X12_copies rfl ⟨Nat.le_of_ble_eq_true rfl, Nat.le_of_ble_eq_true rfl⟩ (Nat.le_of_ble_eq_true rfl) (fun u_6 M_7 => ?_)
  refine mm_aload_n 0 dX12_keep_43 rfl ?_
  refine mm_getR 107 dX12_keep_44 fl_RX12_38 lo_97 rfl ?_
  refine mm_aload_n 0 dX12_keep_47 rfl ?_
  refine mm_getR 138 dX12_keep_48 fl_RX12_131 lo_97 rfl ?_
  refine mm_callSv (as := [.ref 107, .ref 138]) (st := []) (c_R_copies_107_138 E M_7) dX12_keep_51 mz_X12_copies lk_RX12_448 sm_X12_copies rfl ⟨Nat.le_of_ble_eq_true rfl, Nat.le_of_ble_eq_true rfl⟩ (Nat.le_of_ble_eq_true rfl) (fun u_8 M_9 => ?_)
  refine mm_aload_n 0 dX12_keep_54 rfl ?_
  refine mm_getR 108 dX12_keep_55 fl_RX12_41 lo_97 rfl ?_
  refine mm_aload_n 0 dX12_keep_58 rfl ?_
  refine mm_getR 139 dX12_keep_59 fl_RX12_134 lo_97 rfl ?_
  refine mm_callSv (as := [.ref 108, .ref 139]) (st := []) (c_R_copies_108_139 E M_9) dX12_keep_62 mz_X12_copies lk_RX12_448 sm_X12_copies rfl ⟨Nat.le_of_ble_eq_true rfl, Nat.le_of_ble_eq_true rfl⟩ (Nat.le_of_ble_eq_true rfl) (fun u_10 M_11 => ?_)
  refine mm_aload_n 0 dX12_keep_65 rfl ?_
  refine mm_getI dX12_keep_66 fl_RX12_217 lo_97 rfl ?_
  refine mm_callSi (as := [.int (M_11.1 97 12)]) (st := []) (c_R_bits E (M_11.1 97 12) M_11) dX12_keep_69 mz_X12_bits lk_RX12_367 sm_X12_bits rfl ⟨Nat.le_of_ble_eq_true rfl, Nat.le_of_ble_eq_true rfl⟩ (Nat.le_of_ble_eq_true rfl) (fun r_12 M_13 => ?_)
  exact mm_iret dX12_keep_72 rfl
def lp_R_copies_136_105_2 (k20 : mm_M → Option (Unit × mm_M)) : Nat → Int32 → mm_M → Option (Unit × mm_M)
  | 0, _, _ => none
  | n + 1, v2, M => if 10 ≤ v2 then k20 M else if mm_in v2 (mm_al 136) = true then if mm_in v2 (mm_al 105) = true then mm_let (mm_setA M 105 (v2.toNatClampNeg) (M.2.1 136 v2.toNatClampNeg)) fun M_1 => mm_let (v2 + 1) fun v2_2 => lp_R_copies_136_105_2 k20 n v2_2 M_1 else none else none
set_option maxHeartbeats 4000000 in
theorem lp_R_copies_136_105_2_ok (E : mm_E) {k20 : mm_M → Option (Unit × mm_M)} (hk20 : ∀ (M : mm_M), mm_G (fun _ : Unit => none) E Y_X12_copies 1 20 [] [] M (k20 M)) : ∀ (n : Nat) (v2 : Int32) (M : mm_M), mm_G (fun _ : Unit => none) E Y_X12_copies 1 2 [(0, .ref 136), (1, .ref 105), (2, .int v2)] [] M (lp_R_copies_136_105_2 k20 n v2 M) := by
  intro n
  induction n with
  | zero => intro v2 M r M2 he; cases he
  | succ n ih =>
    intro v2 M
    rw [lp_R_copies_136_105_2]
    refine mm_iload_n 2 dX12_copies_2 rfl ?_
    refine mm_bipush (v := 10) dX12_copies_3 rfl ?_
    refine mm_icmp_ge 20 dX12_copies_5 rfl ?_ ?_
    · refine mm_wk [] rfl ?_
      exact hk20  M
    · refine mm_aload_n 1 dX12_copies_8 rfl ?_
      refine mm_iload_n 2 dX12_copies_9 rfl ?_
      refine mm_aload_n 0 dX12_copies_10 rfl ?_
      refine mm_iload_n 2 dX12_copies_11 rfl ?_
      refine mm_iaload dX12_copies_12 ?_
      refine mm_iastore dX12_copies_13 ?_
      refine mm_nm_M (fun M_1 => ?_)
      refine mm_iincN 2 [1, 2, 0] (v := v2 + 1) (lv2 := fun v2_2 => [(0, .ref 136), (1, .ref 105), (2, .int v2_2)]) dX12_copies_14 rfl rfl (by decide) (fun _ => rfl) (fun v2_2 => ?_)
      refine mm_goto 2 dX12_copies_17 rfl ?_
      exact ih v2_2 M_1
def f_R_copies_136_105 (M : mm_M) : Option (Unit × mm_M) := lp_R_copies_136_105_2 (fun (M_3 : mm_M) => some ((), M_3)) mm_fu 0 M
set_option maxHeartbeats 4000000 in
theorem c_R_copies_136_105 (E : mm_E) (M : mm_M) : ∀ (r : Unit) (M2 : mm_M), f_R_copies_136_105 M = some (r, M2) → mm_P E Y_X12_copies 1 [.ref 136, .ref 105] M none M2 := by
  refine mm_entry (em := (fun _ : Unit => none)) (by decide +kernel) (Nat.le_of_ble_eq_true rfl) ?_
  show mm_G _ E _ _ 0 [(0, .ref 136), (1, .ref 105)] [] M _
  unfold f_R_copies_136_105
  refine mm_iconst (v := 0) dX12_copies_0 rfl ?_
  refine mm_istore_n [1, 2, 0] (lv2 := [(0, .ref 136), (1, .ref 105), (2, .int 0)]) dX12_copies_1 (by decide) rfl ?_
  refine lp_R_copies_136_105_2_ok E ?_ mm_fu 0 M
  · intro M_3
    exact mm_vret dX12_copies_20 rfl
def lp_R_copies_137_106_2 (k20 : mm_M → Option (Unit × mm_M)) : Nat → Int32 → mm_M → Option (Unit × mm_M)
  | 0, _, _ => none
  | n + 1, v2, M => if 10 ≤ v2 then k20 M else if mm_in v2 (mm_al 137) = true then if mm_in v2 (mm_al 106) = true then mm_let (mm_setA M 106 (v2.toNatClampNeg) (M.2.1 137 v2.toNatClampNeg)) fun M_1 => mm_let (v2 + 1) fun v2_2 => lp_R_copies_137_106_2 k20 n v2_2 M_1 else none else none
set_option maxHeartbeats 4000000 in
theorem lp_R_copies_137_106_2_ok (E : mm_E) {k20 : mm_M → Option (Unit × mm_M)} (hk20 : ∀ (M : mm_M), mm_G (fun _ : Unit => none) E Y_X12_copies 1 20 [] [] M (k20 M)) : ∀ (n : Nat) (v2 : Int32) (M : mm_M), mm_G (fun _ : Unit => none) E Y_X12_copies 1 2 [(0, .ref 137), (1, .ref 106), (2, .int v2)] [] M (lp_R_copies_137_106_2 k20 n v2 M) := by
  intro n
  induction n with
  | zero => intro v2 M r M2 he; cases he
  | succ n ih =>
    intro v2 M
    rw [lp_R_copies_137_106_2]
    refine mm_iload_n 2 dX12_copies_2 rfl ?_
    refine mm_bipush (v := 10) dX12_copies_3 rfl ?_
    refine mm_icmp_ge 20 dX12_copies_5 rfl ?_ ?_
    · refine mm_wk [] rfl ?_
      exact hk20  M
    · refine mm_aload_n 1 dX12_copies_8 rfl ?_
      refine mm_iload_n 2 dX12_copies_9 rfl ?_
      refine mm_aload_n 0 dX12_copies_10 rfl ?_
      refine mm_iload_n 2 dX12_copies_11 rfl ?_
      refine mm_iaload dX12_copies_12 ?_
      refine mm_iastore dX12_copies_13 ?_
      refine mm_nm_M (fun M_1 => ?_)
      refine mm_iincN 2 [1, 2, 0] (v := v2 + 1) (lv2 := fun v2_2 => [(0, .ref 137), (1, .ref 106), (2, .int v2_2)]) dX12_copies_14 rfl rfl (by decide) (fun _ => rfl) (fun v2_2 => ?_)
      refine mm_goto 2 dX12_copies_17 rfl ?_
      exact ih v2_2 M_1
def f_R_copies_137_106 (M : mm_M) : Option (Unit × mm_M) := lp_R_copies_137_106_2 (fun (M_3 : mm_M) => some ((), M_3)) mm_fu 0 M
set_option maxHeartbeats 4000000 in
theorem c_R_copies_137_106 (E : mm_E) (M : mm_M) : ∀ (r : Unit) (M2 : mm_M), f_R_copies_137_106 M = some (r, M2) → mm_P E Y_X12_copies 1 [.ref 137, .ref 106] M none M2 := by
  refine mm_entry (em := (fun _ : Unit => none)) (by decide +kernel) (Nat.le_of_ble_eq_true rfl) ?_
  show mm_G _ E _ _ 0 [(0, .ref 137), (1, .ref 106)] [] M _
  unfold f_R_copies_137_106
  refine mm_iconst (v := 0) dX12_copies_0 rfl ?_
  refine mm_istore_n [1, 2, 0] (lv2 := [(0, .ref 137), (1, .ref 106), (2, .int 0)]) dX12_copies_1 (by decide) rfl ?_
  refine lp_R_copies_137_106_2_ok E ?_ mm_fu 0 M
  · intro M_3
    exact mm_vret dX12_copies_20 rfl
def lp_R_copies_138_107_2 (k20 : mm_M → Option (Unit × mm_M)) : Nat → Int32 → mm_M → Option (Unit × mm_M)
  | 0, _, _ => none
  | n + 1, v2, M => if 10 ≤ v2 then k20 M else if mm_in v2 (mm_al 138) = true then if mm_in v2 (mm_al 107) = true then mm_let (mm_setA M 107 (v2.toNatClampNeg) (M.2.1 138 v2.toNatClampNeg)) fun M_1 => mm_let (v2 + 1) fun v2_2 => lp_R_copies_138_107_2 k20 n v2_2 M_1 else none else none
set_option maxHeartbeats 4000000 in
theorem lp_R_copies_138_107_2_ok (E : mm_E) {k20 : mm_M → Option (Unit × mm_M)} (hk20 : ∀ (M : mm_M), mm_G (fun _ : Unit => none) E Y_X12_copies 1 20 [] [] M (k20 M)) : ∀ (n : Nat) (v2 : Int32) (M : mm_M), mm_G (fun _ : Unit => none) E Y_X12_copies 1 2 [(0, .ref 138), (1, .ref 107), (2, .int v2)] [] M (lp_R_copies_138_107_2 k20 n v2 M) := by
  intro n
  induction n with
  | zero => intro v2 M r M2 he; cases he
  | succ n ih =>
    intro v2 M
    rw [lp_R_copies_138_107_2]
    refine mm_iload_n 2 dX12_copies_2 rfl ?_
    refine mm_bipush (v := 10) dX12_copies_3 rfl ?_
    refine mm_icmp_ge 20 dX12_copies_5 rfl ?_ ?_
    · refine mm_wk [] rfl ?_
      exact hk20  M
    · refine mm_aload_n 1 dX12_copies_8 rfl ?_
      refine mm_iload_n 2 dX12_copies_9 rfl ?_
      refine mm_aload_n 0 dX12_copies_10 rfl ?_
      refine mm_iload_n 2 dX12_copies_11 rfl ?_
      refine mm_iaload dX12_copies_12 ?_
      refine mm_iastore dX12_copies_13 ?_
      refine mm_nm_M (fun M_1 => ?_)
      refine mm_iincN 2 [1, 2, 0] (v := v2 + 1) (lv2 := fun v2_2 => [(0, .ref 138), (1, .ref 107), (2, .int v2_2)]) dX12_copies_14 rfl rfl (by decide) (fun _ => rfl) (fun v2_2 => ?_)
      refine mm_goto 2 dX12_copies_17 rfl ?_
      exact ih v2_2 M_1
def f_R_copies_138_107 (M : mm_M) : Option (Unit × mm_M) := lp_R_copies_138_107_2 (fun (M_3 : mm_M) => some ((), M_3)) mm_fu 0 M
set_option maxHeartbeats 4000000 in
theorem c_R_copies_138_107 (E : mm_E) (M : mm_M) : ∀ (r : Unit) (M2 : mm_M), f_R_copies_138_107 M = some (r, M2) → mm_P E Y_X12_copies 1 [.ref 138, .ref 107] M none M2 := by
  refine mm_entry (em := (fun _ : Unit => none)) (by decide +kernel) (Nat.le_of_ble_eq_true rfl) ?_
  show mm_G _ E _ _ 0 [(0, .ref 138), (1, .ref 107)] [] M _
  unfold f_R_copies_138_107
  refine mm_iconst (v := 0) dX12_copies_0 rfl ?_
  refine mm_istore_n [1, 2, 0] (lv2 := [(0, .ref 138), (1, .ref 107), (2, .int 0)]) dX12_copies_1 (by decide) rfl ?_
  refine lp_R_copies_138_107_2_ok E ?_ mm_fu 0 M
  · intro M_3
    exact mm_vret dX12_copies_20 rfl
def lp_R_copies_139_108_2 (k20 : mm_M → Option (Unit × mm_M)) : Nat → Int32 → mm_M → Option (Unit × mm_M)
  | 0, _, _ => none
  | n + 1, v2, M => if 10 ≤ v2 then k20 M else if mm_in v2 (mm_al 139) = true then if mm_in v2 (mm_al 108) = true then mm_let (mm_setA M 108 (v2.toNatClampNeg) (M.2.1 139 v2.toNatClampNeg)) fun M_1 => mm_let (v2 + 1) fun v2_2 => lp_R_copies_139_108_2 k20 n v2_2 M_1 else none else none
set_option maxHeartbeats 4000000 in
theorem lp_R_copies_139_108_2_ok (E : mm_E) {k20 : mm_M → Option (Unit × mm_M)} (hk20 : ∀ (M : mm_M), mm_G (fun _ : Unit => none) E Y_X12_copies 1 20 [] [] M (k20 M)) : ∀ (n : Nat) (v2 : Int32) (M : mm_M), mm_G (fun _ : Unit => none) E Y_X12_copies 1 2 [(0, .ref 139), (1, .ref 108), (2, .int v2)] [] M (lp_R_copies_139_108_2 k20 n v2 M) := by
  intro n
  induction n with
  | zero => intro v2 M r M2 he; cases he
  | succ n ih =>
    intro v2 M
    rw [lp_R_copies_139_108_2]
    refine mm_iload_n 2 dX12_copies_2 rfl ?_
    refine mm_bipush (v := 10) dX12_copies_3 rfl ?_
    refine mm_icmp_ge 20 dX12_copies_5 rfl ?_ ?_
    · refine mm_wk [] rfl ?_
      exact hk20  M
    · refine mm_aload_n 1 dX12_copies_8 rfl ?_
      refine mm_iload_n 2 dX12_copies_9 rfl ?_
      refine mm_aload_n 0 dX12_copies_10 rfl ?_
      refine mm_iload_n 2 dX12_copies_11 rfl ?_
      refine mm_iaload dX12_copies_12 ?_
      refine mm_iastore dX12_copies_13 ?_
      refine mm_nm_M (fun M_1 => ?_)
      refine mm_iincN 2 [1, 2, 0] (v := v2 + 1) (lv2 := fun v2_2 => [(0, .ref 139), (1, .ref 108), (2, .int v2_2)]) dX12_copies_14 rfl rfl (by decide) (fun _ => rfl) (fun v2_2 => ?_)
      refine mm_goto 2 dX12_copies_17 rfl ?_
      exact ih v2_2 M_1
def f_R_copies_139_108 (M : mm_M) : Option (Unit × mm_M) := lp_R_copies_139_108_2 (fun (M_3 : mm_M) => some ((), M_3)) mm_fu 0 M
set_option maxHeartbeats 4000000 in
theorem c_R_copies_139_108 (E : mm_E) (M : mm_M) : ∀ (r : Unit) (M2 : mm_M), f_R_copies_139_108 M = some (r, M2) → mm_P E Y_X12_copies 1 [.ref 139, .ref 108] M none M2 := by
  refine mm_entry (em := (fun _ : Unit => none)) (by decide +kernel) (Nat.le_of_ble_eq_true rfl) ?_
  show mm_G _ E _ _ 0 [(0, .ref 139), (1, .ref 108)] [] M _
  unfold f_R_copies_139_108
  refine mm_iconst (v := 0) dX12_copies_0 rfl ?_
  refine mm_istore_n [1, 2, 0] (lv2 := [(0, .ref 139), (1, .ref 108), (2, .int 0)]) dX12_copies_1 (by decide) rfl ?_
  refine lp_R_copies_139_108_2_ok E ?_ mm_fu 0 M
  · intro M_3
    exact mm_vret dX12_copies_20 rfl
def f_R_undo (M : mm_M) : Option (Bool × mm_M) := if M.1 97 61 = 0 then some (false, M) else mm_let (mm_setI M 97 12 (M.1 97 62)) fun M_1 => mm_let (mm_setI M_1 97 13 (M_1.1 97 63)) fun M_2 => mm_bd (f_R_copies_136_105 M_2) fun u_3 M_4 => mm_bd (f_R_copies_137_106 M_4) fun u_5 M_6 => mm_bd (f_R_copies_138_107 M_6) fun u_7 M_8 => mm_bd (f_R_copies_139_108 M_8) fun u_9 M_10 => some (true, M_10)
set_option maxHeartbeats 4000000 in
theorem c_R_undo (E : mm_E) (M : mm_M) : ∀ (r : Bool) (M2 : mm_M), f_R_undo M = some (r, M2) → mm_P E Y_X12_undo 2 [.ref 97] M (some (.int (mm_b r))) M2 := by
  refine mm_entry (em := (fun x : Bool => some (.int (mm_b x)))) (by decide +kernel) (Nat.le_of_ble_eq_true rfl) ?_
  show mm_G _ E _ _ 0 [(0, .ref 97)] [] M _
  unfold f_R_undo
  refine mm_aload_n 0 dX12_undo_0 rfl ?_
  refine mm_getI dX12_undo_1 fl_RX12_438 lo_97 rfl ?_
  refine mm_if_ne 9 dX12_undo_4 rfl ?_ ?_
  · refine mm_aload_n 0 dX12_undo_9 rfl ?_
    refine mm_aload_n 0 dX12_undo_10 rfl ?_
    refine mm_getI dX12_undo_11 fl_RX12_442 lo_97 rfl ?_
    refine mm_putI dX12_undo_14 fp_RX12_217 lo_97 rfl ?_
    refine mm_nm_M (fun M_1 => ?_)
    refine mm_aload_n 0 dX12_undo_17 rfl ?_
    refine mm_aload_n 0 dX12_undo_18 rfl ?_
    refine mm_getI dX12_undo_19 fl_RX12_445 lo_97 rfl ?_
    refine mm_putI dX12_undo_22 fp_RX12_137 lo_97 rfl ?_
    refine mm_nm_M (fun M_2 => ?_)
    refine mm_aload_n 0 dX12_undo_25 rfl ?_
    refine mm_getR 136 dX12_undo_26 fl_RX12_125 lo_97 rfl ?_
    refine mm_aload_n 0 dX12_undo_29 rfl ?_
    refine mm_getR 105 dX12_undo_30 fl_RX12_32 lo_97 rfl ?_
    refine mm_callSv (as := [.ref 136, .ref 105]) (st := []) (c_R_copies_136_105 E M_2) dX12_undo_33 mz_X12_copies lk_RX12_448 sm_X12_copies rfl ⟨Nat.le_of_ble_eq_true rfl, Nat.le_of_ble_eq_true rfl⟩ (Nat.le_of_ble_eq_true rfl) (fun u_3 M_4 => ?_)
    refine mm_aload_n 0 dX12_undo_36 rfl ?_
    refine mm_getR 137 dX12_undo_37 fl_RX12_128 lo_97 rfl ?_
    refine mm_aload_n 0 dX12_undo_40 rfl ?_
    refine mm_getR 106 dX12_undo_41 fl_RX12_35 lo_97 rfl ?_
    refine mm_callSv (as := [.ref 137, .ref 106]) (st := []) (c_R_copies_137_106 E M_4) dX12_undo_44 mz_X12_copies lk_RX12_448 sm_X12_copies rfl ⟨Nat.le_of_ble_eq_true rfl, Nat.le_of_ble_eq_true rfl⟩ (Nat.le_of_ble_eq_true rfl) (fun u_5 M_6 => ?_)
    refine mm_aload_n 0 dX12_undo_47 rfl ?_
    refine mm_getR 138 dX12_undo_48 fl_RX12_131 lo_97 rfl ?_
    refine mm_aload_n 0 dX12_undo_51 rfl ?_
    refine mm_getR 107 dX12_undo_52 fl_RX12_38 lo_97 rfl ?_
    refine mm_callSv (as := [.ref 138, .ref 107]) (st := []) (c_R_copies_138_107 E M_6) dX12_undo_55 mz_X12_copies lk_RX12_448 sm_X12_copies rfl ⟨Nat.le_of_ble_eq_true rfl, Nat.le_of_ble_eq_true rfl⟩ (Nat.le_of_ble_eq_true rfl) (fun u_7 M_8 => ?_)
    refine mm_aload_n 0 dX12_undo_58 rfl ?_
    refine mm_getR 139 dX12_undo_59 fl_RX12_134 lo_97 rfl ?_
    refine mm_aload_n 0 dX12_undo_62 rfl ?_
    refine mm_getR 108 dX12_undo_63 fl_RX12_41 lo_97 rfl ?_
    refine mm_callSv (as := [.ref 139, .ref 108]) (st := []) (c_R_copies_139_108 E M_8) dX12_undo_66 mz_X12_copies lk_RX12_448 sm_X12_copies rfl ⟨Nat.le_of_ble_eq_true rfl, Nat.le_of_ble_eq_true rfl⟩ (Nat.le_of_ble_eq_true rfl) (fun u_9 M_10 => ?_)
    refine mm_iconst (v := 1) dX12_undo_69 rfl ?_
    exact mm_zret (b := true) dX12_undo_70 rfl
  · refine mm_iconst (v := 0) dX12_undo_7 rfl ?_
    exact mm_zret (b := false) dX12_undo_8 rfl
def lp_R_tapeNumber_6 (v1 : Int32) (k37 : Int32 → mm_M → Option (Int32 × mm_M)) : Nat → Int32 → Int32 → mm_M → Option (Int32 × mm_M)
  | 0, _, _, _ => none
  | n + 1, v2, v3, M => if (4 * v1) + 4 ≤ v3 then k37 v2 M else if mm_in v3 (mm_bl 98) = true then mm_let ((v2 <<< (8 &&& 31)) ||| ((M.2.1 98 v3.toNatClampNeg) &&& 255)) fun v2_2 => mm_let (v3 + 1) fun v3_3 => lp_R_tapeNumber_6 v1 k37 n v2_2 v3_3 M else none
set_option maxHeartbeats 4000000 in
theorem lp_R_tapeNumber_6_ok (E : mm_E) (v1 : Int32) {k37 : Int32 → mm_M → Option (Int32 × mm_M)} (hk37 : ∀ (v2 : Int32) (M : mm_M), mm_G (fun x : Int32 => some (.int x)) E Y_X12_tapeNumber 1 37 [(2, .int v2)] [] M (k37 v2 M)) : ∀ (n : Nat) (v2 : Int32) (v3 : Int32) (M : mm_M), mm_G (fun x : Int32 => some (.int x)) E Y_X12_tapeNumber 1 6 [(0, .ref 97), (1, .int v1), (2, .int v2), (3, .int v3)] [] M (lp_R_tapeNumber_6 v1 k37 n v2 v3 M) := by
  intro n
  induction n with
  | zero => intro v2 v3 M r M2 he; cases he
  | succ n ih =>
    intro v2 v3 M
    rw [lp_R_tapeNumber_6]
    refine mm_iload_n 3 dX12_tapeNumber_6 rfl ?_
    refine mm_iconst (v := 4) dX12_tapeNumber_7 rfl ?_
    refine mm_iload_n 1 dX12_tapeNumber_8 rfl ?_
    refine mm_imul dX12_tapeNumber_9 ?_
    refine mm_iconst (v := 4) dX12_tapeNumber_10 rfl ?_
    refine mm_iadd dX12_tapeNumber_11 ?_
    refine mm_icmp_ge 37 dX12_tapeNumber_12 rfl ?_ ?_
    · refine mm_wk [2] rfl ?_
      exact hk37 v2 M
    · refine mm_iload_n 2 dX12_tapeNumber_15 rfl ?_
      refine mm_bipush (v := 8) dX12_tapeNumber_16 rfl ?_
      refine mm_ishl dX12_tapeNumber_18 ?_
      refine mm_aload_n 0 dX12_tapeNumber_19 rfl ?_
      refine mm_getR 98 dX12_tapeNumber_20 fl_RX12_7 lo_97 rfl ?_
      refine mm_iload_n 3 dX12_tapeNumber_23 rfl ?_
      refine mm_baload dX12_tapeNumber_24 ?_
      refine mm_sipush (v := 255) dX12_tapeNumber_25 rfl ?_
      refine mm_iand dX12_tapeNumber_28 ?_
      refine mm_ior dX12_tapeNumber_29 ?_
      refine mm_nm_int (fun v2_2 => ?_)
      refine mm_istore_n [1, 2, 0, 3] (lv2 := [(0, .ref 97), (1, .int v1), (2, .int v2_2), (3, .int v3)]) dX12_tapeNumber_30 (by decide) rfl ?_
      refine mm_iincN 3 [1, 2, 3, 0] (v := v3 + 1) (lv2 := fun v3_3 => [(0, .ref 97), (1, .int v1), (2, .int v2_2), (3, .int v3_3)]) dX12_tapeNumber_31 rfl rfl (by decide) (fun _ => rfl) (fun v3_3 => ?_)
      refine mm_goto 6 dX12_tapeNumber_34 rfl ?_
      exact ih v2_2 v3_3 M
def f_R_tapeNumber (v1 : Int32) (M : mm_M) : Option (Int32 × mm_M) := mm_let (4 * v1) fun v3_1 => lp_R_tapeNumber_6 v1 (fun (v2 : Int32) (M_4 : mm_M) => some (v2, M_4)) mm_fu 0 v3_1 M
set_option maxHeartbeats 4000000 in
theorem c_R_tapeNumber (E : mm_E) (v1 : Int32) (M : mm_M) : ∀ (r : Int32) (M2 : mm_M), f_R_tapeNumber v1 M = some (r, M2) → mm_P E Y_X12_tapeNumber 1 [.ref 97, .int v1] M (some (.int r)) M2 := by
  refine mm_entry (em := (fun x : Int32 => some (.int x))) (by decide +kernel) (Nat.le_of_ble_eq_true rfl) ?_
  show mm_G _ E _ _ 0 [(0, .ref 97), (1, .int v1)] [] M _
  unfold f_R_tapeNumber
  refine mm_iconst (v := 0) dX12_tapeNumber_0 rfl ?_
  refine mm_istore_n [1, 2, 0] (lv2 := [(0, .ref 97), (1, .int v1), (2, .int 0)]) dX12_tapeNumber_1 (by decide) rfl ?_
  refine mm_iconst (v := 4) dX12_tapeNumber_2 rfl ?_
  refine mm_iload_n 1 dX12_tapeNumber_3 rfl ?_
  refine mm_imul dX12_tapeNumber_4 ?_
  refine mm_nm_int (fun v3_1 => ?_)
  refine mm_istore_n [1, 2, 3, 0] (lv2 := [(0, .ref 97), (1, .int v1), (2, .int 0), (3, .int v3_1)]) dX12_tapeNumber_5 (by decide) rfl ?_
  refine lp_R_tapeNumber_6_ok E v1 ?_ mm_fu 0 v3_1 M
  · intro v2 M_4
    refine mm_iload_n 0 dX12_tapeNumber_37 rfl ?_
    exact mm_iret dX12_tapeNumber_38 rfl
def lp_R_check_46 (v1 : Int32) (v2 : Int32) (v3 : Int32) (k78 : Int32 → mm_M → Option (Int32 × mm_M)) (k87 : mm_M → Option (Int32 × mm_M)) : Nat → Int32 → mm_M → Option (Int32 × mm_M)
  | 0, _, _ => none
  | n + 1, v4, M => if v3 ≤ v4 then k87 M else mm_bd (f_R_tapeNumber v4 M) fun r_8 M_9 => if mm_in (((72 * v1) + (24 * v2)) + v4) (mm_al 99) = true then if r_8 = M_9.2.1 99 (((72 * v1) + (24 * v2)) + v4).toNatClampNeg then mm_let (v4 + 1) fun v4_10 => lp_R_check_46 v1 v2 v3 k78 k87 n v4_10 M_9 else k78 v4 M_9 else none
set_option maxHeartbeats 4000000 in
theorem lp_R_check_46_ok (E : mm_E) (v1 : Int32) (v2 : Int32) (v3 : Int32) {k78 : Int32 → mm_M → Option (Int32 × mm_M)} {k87 : mm_M → Option (Int32 × mm_M)} (hk78 : ∀ (v4 : Int32) (M : mm_M), mm_G (fun x : Int32 => some (.int x)) E Y_X12_check 3 78 [(4, .int v4)] [] M (k78 v4 M)) (hk87 : ∀ (M : mm_M), mm_G (fun x : Int32 => some (.int x)) E Y_X12_check 3 87 [] [] M (k87 M)) : ∀ (n : Nat) (v4 : Int32) (M : mm_M), mm_G (fun x : Int32 => some (.int x)) E Y_X12_check 3 46 [(0, .ref 97), (1, .int v1), (2, .int v2), (3, .int v3), (4, .int v4)] [] M (lp_R_check_46 v1 v2 v3 k78 k87 n v4 M) := by
  intro n
  induction n with
  | zero => intro v4 M r M2 he; cases he
  | succ n ih =>
    intro v4 M
    rw [lp_R_check_46]
    refine mm_iload 4 dX12_check_46 rfl ?_
    refine mm_iload_n 3 dX12_check_48 rfl ?_
    refine mm_icmp_ge 87 dX12_check_49 rfl ?_ ?_
    · refine mm_wk [] rfl ?_
      exact hk87  M
    · refine mm_aload_n 0 dX12_check_52 rfl ?_
      refine mm_iload 4 dX12_check_53 rfl ?_
      refine mm_callVi (as := [.int v4]) (st := []) (c_R_tapeNumber E v4 M) dX12_check_55 mz_X12_tapeNumber lk_RX12_452 im_X12_tapeNumber se_X12_tapeNumber lo_97 rfl rfl rfl ⟨Nat.le_of_ble_eq_true rfl, Nat.le_of_ble_eq_true rfl⟩ (Nat.le_of_ble_eq_true rfl) (fun r_8 M_9 => ?_)
      refine mm_aload_n 0 dX12_check_58 rfl ?_
      refine mm_getR 99 dX12_check_59 fl_RX12_13 lo_97 rfl ?_
      refine mm_bipush (v := 72) dX12_check_62 rfl ?_
      refine mm_iload_n 1 dX12_check_64 rfl ?_
      refine mm_imul dX12_check_65 ?_
      refine mm_bipush (v := 24) dX12_check_66 rfl ?_
      refine mm_iload_n 2 dX12_check_68 rfl ?_
      refine mm_imul dX12_check_69 ?_
      refine mm_iadd dX12_check_70 ?_
      refine mm_iload 4 dX12_check_71 rfl ?_
      refine mm_iadd dX12_check_73 ?_
      refine mm_iaload dX12_check_74 ?_
      refine mm_icmp_eq 81 dX12_check_75 rfl ?_ ?_
      · refine mm_iincN 4 [1, 2, 3, 4, 0] (v := v4 + 1) (lv2 := fun v4_10 => [(0, .ref 97), (1, .int v1), (2, .int v2), (3, .int v3), (4, .int v4_10)]) dX12_check_81 rfl rfl (by decide) (fun _ => rfl) (fun v4_10 => ?_)
        refine mm_goto 46 dX12_check_84 rfl ?_
        exact ih v4_10 M_9
      · refine mm_wk [4] rfl ?_
        exact hk78 v4 M_9
def f_R_check (v1 : Int32) (v2 : Int32) (v3 : Int32) (M : mm_M) : Option (Int32 × mm_M) := mm_bd (f_R_isDay v1 M) fun b_1 M_2 => if b_1 = true then mm_bd (f_R_isKind v2 M_2) fun b_3 M_4 => if b_3 = true then mm_bd (f_R_in v3 0 24 M_4) fun b_5 M_6 => if b_5 = true then if v3 ≤ (M_6.1 97 1) / 4 then mm_let (mm_setI M_6 97 1 0) fun M_7 => lp_R_check_46 v1 v2 v3 (fun (v4 : Int32) (M_11 : mm_M) => some (v4, M_11)) (fun (M_12 : mm_M) => some ((-1), M_12)) mm_fu 0 M_7 else some ((-2), M_6) else some ((-2), M_6) else some ((-2), M_4) else some ((-2), M_2)
set_option maxHeartbeats 4000000 in
theorem c_R_check (E : mm_E) (v1 : Int32) (v2 : Int32) (v3 : Int32) (M : mm_M) : ∀ (r : Int32) (M2 : mm_M), f_R_check v1 v2 v3 M = some (r, M2) → mm_P E Y_X12_check 3 [.ref 97, .int v1, .int v2, .int v3] M (some (.int r)) M2 := by
  refine mm_entry (em := (fun x : Int32 => some (.int x))) (by decide +kernel) (Nat.le_of_ble_eq_true rfl) ?_
  show mm_G _ E _ _ 0 [(0, .ref 97), (1, .int v1), (2, .int v2), (3, .int v3)] [] M _
  unfold f_R_check
  refine mm_aload_n 0 dX12_check_0 rfl ?_
  refine mm_iload_n 1 dX12_check_1 rfl ?_
  refine mm_callVz (as := [.int v1]) (st := []) (c_R_isDay E v1 M) dX12_check_2 mz_X12_isDay lk_RX12_202 im_X12_isDay se_X12_isDay lo_97 rfl rfl rfl ⟨Nat.le_of_ble_eq_true rfl, Nat.le_of_ble_eq_true rfl⟩ (Nat.le_of_ble_eq_true rfl) (fun b_1 M_2 => ?_)
  refine mm_if_eq_b 35 dX12_check_5 rfl ?_ ?_
  · refine mm_bipush (v := (-2)) dX12_check_35 rfl ?_
    exact mm_iret dX12_check_37 rfl
  · refine mm_iload_n 2 dX12_check_8 rfl ?_
    refine mm_callSz (as := [.int v2]) (st := []) (c_R_isKind E v2 M_2) dX12_check_9 mz_X12_isKind lk_RX12_205 sm_X12_isKind rfl ⟨Nat.le_of_ble_eq_true rfl, Nat.le_of_ble_eq_true rfl⟩ (Nat.le_of_ble_eq_true rfl) (fun b_3 M_4 => ?_)
    refine mm_if_eq_b 35 dX12_check_12 rfl ?_ ?_
    · refine mm_bipush (v := (-2)) dX12_check_35 rfl ?_
      exact mm_iret dX12_check_37 rfl
    · refine mm_iload_n 3 dX12_check_15 rfl ?_
      refine mm_iconst (v := 0) dX12_check_16 rfl ?_
      refine mm_bipush (v := 24) dX12_check_17 rfl ?_
      refine mm_callSz (as := [.int v3, .int 0, .int 24]) (st := []) (c_R_in E v3 0 24 M_4) dX12_check_19 mz_X12_in lk_RX12_169 sm_X12_in rfl ⟨Nat.le_of_ble_eq_true rfl, Nat.le_of_ble_eq_true rfl⟩ (Nat.le_of_ble_eq_true rfl) (fun b_5 M_6 => ?_)
      refine mm_if_eq_b 35 dX12_check_22 rfl ?_ ?_
      · refine mm_bipush (v := (-2)) dX12_check_35 rfl ?_
        exact mm_iret dX12_check_37 rfl
      · refine mm_iload_n 3 dX12_check_25 rfl ?_
        refine mm_aload_n 0 dX12_check_26 rfl ?_
        refine mm_getI dX12_check_27 fl_RX12_144 lo_97 rfl ?_
        refine mm_iconst (v := 4) dX12_check_30 rfl ?_
        refine mm_idiv_c dX12_check_31 (by decide) ?_
        refine mm_icmp_le 38 dX12_check_32 rfl ?_ ?_
        · refine mm_aload_n 0 dX12_check_38 rfl ?_
          refine mm_iconst (v := 0) dX12_check_39 rfl ?_
          refine mm_putI dX12_check_40 fp_RX12_144 lo_97 rfl ?_
          refine mm_nm_M (fun M_7 => ?_)
          refine mm_iconst (v := 0) dX12_check_43 rfl ?_
          refine mm_istore [1, 2, 3, 4, 0] (lv2 := [(0, .ref 97), (1, .int v1), (2, .int v2), (3, .int v3), (4, .int 0)]) dX12_check_44 (by decide) rfl ?_
          refine lp_R_check_46_ok E v1 v2 v3 ?_ ?_ mm_fu 0 M_7
          · intro v4 M_11
            refine mm_iload 0 dX12_check_78 rfl ?_
            exact mm_iret dX12_check_80 rfl
          · intro M_12
            refine mm_iconst (v := (-1)) dX12_check_87 rfl ?_
            exact mm_iret dX12_check_88 rfl
        · refine mm_bipush (v := (-2)) dX12_check_35 rfl ?_
          exact mm_iret dX12_check_37 rfl
def f_R_count (v1 : Int32) (M : mm_M) : Option (Int32 × mm_M) := if v1 = 0 then some (M.1 97 6, M) else if v1 = 1 then some (M.1 97 9, M) else if v1 = 2 then some (M.1 97 12, M) else if v1 = 3 then some (M.1 97 26, M) else if v1 = 4 then some (M.1 97 1, M) else if v1 = 5 then some (M.1 97 13, M) else mm_bd (f_R_in v1 50 (49 + (M.1 97 9)) M) fun b_1 M_2 => if b_1 = true then if mm_in (v1 - 50) (mm_al 101) = true then some (M_2.2.1 101 (v1 - 50).toNatClampNeg, M_2) else none else mm_bd (f_R_in v1 10 49 M_2) fun b_3 M_4 => if b_3 = true then mm_bd (f_R_isStay (mm_rem v1 10) M_4) fun b_5 M_6 => if b_5 = true then if 20 ≤ v1 then if 30 ≤ v1 then if 40 ≤ v1 then if mm_in (v1 - 40) (mm_al 108) = true then some ((M_6.2.1 108 (v1 - 40).toNatClampNeg) + 3, M_6) else none else if mm_in (v1 - 30) (mm_al 107) = true then some (M_6.2.1 107 (v1 - 30).toNatClampNeg, M_6) else none else if mm_in (v1 - 20) (mm_al 106) = true then some (M_6.2.1 106 (v1 - 20).toNatClampNeg, M_6) else none else if mm_in (v1 - 10) (mm_al 105) = true then some (M_6.2.1 105 (v1 - 10).toNatClampNeg, M_6) else none else some ((-1), M_6) else some ((-1), M_4)
set_option maxHeartbeats 4000000 in
theorem c_R_count (E : mm_E) (v1 : Int32) (M : mm_M) : ∀ (r : Int32) (M2 : mm_M), f_R_count v1 M = some (r, M2) → mm_P E Y_X12_count 3 [.ref 97, .int v1] M (some (.int r)) M2 := by
  refine mm_entry (em := (fun x : Int32 => some (.int x))) (by decide +kernel) (Nat.le_of_ble_eq_true rfl) ?_
  show mm_G _ E _ _ 0 [(0, .ref 97), (1, .int v1)] [] M _
  unfold f_R_count
  refine mm_iload_n 1 dX12_count_0 rfl ?_
  refine mm_tabC 0 40 dX12_count_1 (by decide) (by decide) rfl rfl ?_ (fun h0 => ?_)
  · refine mm_aload_n 0 dX12_count_40 rfl ?_
    refine mm_getI dX12_count_41 fl_RX12_196 lo_97 rfl ?_
    exact mm_iret dX12_count_44 rfl
  refine mm_tabC 1 45 dX12_count_1 (by decide) (by decide) rfl rfl ?_ (fun h1 => ?_)
  · refine mm_aload_n 0 dX12_count_45 rfl ?_
    refine mm_getI dX12_count_46 fl_RX12_211 lo_97 rfl ?_
    exact mm_iret dX12_count_49 rfl
  refine mm_tabC 2 50 dX12_count_1 (by decide) (by decide) rfl rfl ?_ (fun h2 => ?_)
  · refine mm_aload_n 0 dX12_count_50 rfl ?_
    refine mm_getI dX12_count_51 fl_RX12_217 lo_97 rfl ?_
    exact mm_iret dX12_count_54 rfl
  refine mm_tabC 3 55 dX12_count_1 (by decide) (by decide) rfl rfl ?_ (fun h3 => ?_)
  · refine mm_aload_n 0 dX12_count_55 rfl ?_
    refine mm_getI dX12_count_56 fl_RX12_300 lo_97 rfl ?_
    exact mm_iret dX12_count_59 rfl
  refine mm_tabC 4 60 dX12_count_1 (by decide) (by decide) rfl rfl ?_ (fun h4 => ?_)
  · refine mm_aload_n 0 dX12_count_60 rfl ?_
    refine mm_getI dX12_count_61 fl_RX12_144 lo_97 rfl ?_
    exact mm_iret dX12_count_64 rfl
  refine mm_tabC 5 65 dX12_count_1 (by decide) (by decide) rfl rfl ?_ (fun h5 => ?_)
  · refine mm_aload_n 0 dX12_count_65 rfl ?_
    refine mm_getI dX12_count_66 fl_RX12_137 lo_97 rfl ?_
    exact mm_iret dX12_count_69 rfl
  refine mm_tabD 70 dX12_count_1 ?_ rfl ?_
  · have := lv_neT (a := 0) h0 (by decide); have := lv_neT (a := 1) h1 (by decide); have := lv_neT (a := 2) h2 (by decide); have := lv_neT (a := 3) h3 (by decide); have := lv_neT (a := 4) h4 (by decide); have := lv_neT (a := 5) h5 (by decide)
    omega
  refine mm_iload_n 1 dX12_count_70 rfl ?_
  refine mm_bipush (v := 50) dX12_count_71 rfl ?_
  refine mm_bipush (v := 49) dX12_count_73 rfl ?_
  refine mm_aload_n 0 dX12_count_75 rfl ?_
  refine mm_getI dX12_count_76 fl_RX12_211 lo_97 rfl ?_
  refine mm_iadd dX12_count_79 ?_
  refine mm_callSz (as := [.int v1, .int 50, .int (49 + (M.1 97 9))]) (st := []) (c_R_in E v1 50 (49 + (M.1 97 9)) M) dX12_count_80 mz_X12_in lk_RX12_169 sm_X12_in rfl ⟨Nat.le_of_ble_eq_true rfl, Nat.le_of_ble_eq_true rfl⟩ (Nat.le_of_ble_eq_true rfl) (fun b_1 M_2 => ?_)
  refine mm_if_eq_b 96 dX12_count_83 rfl ?_ ?_
  · refine mm_iload_n 1 dX12_count_96 rfl ?_
    refine mm_bipush (v := 10) dX12_count_97 rfl ?_
    refine mm_bipush (v := 49) dX12_count_99 rfl ?_
    refine mm_callSz (as := [.int v1, .int 10, .int 49]) (st := []) (c_R_in E v1 10 49 M_2) dX12_count_101 mz_X12_in lk_RX12_169 sm_X12_in rfl ⟨Nat.le_of_ble_eq_true rfl, Nat.le_of_ble_eq_true rfl⟩ (Nat.le_of_ble_eq_true rfl) (fun b_3 M_4 => ?_)
    refine mm_if_eq_b 118 dX12_count_104 rfl ?_ ?_
    · refine mm_iconst (v := (-1)) dX12_count_118 rfl ?_
      exact mm_iret dX12_count_119 rfl
    · refine mm_aload_n 0 dX12_count_107 rfl ?_
      refine mm_iload_n 1 dX12_count_108 rfl ?_
      refine mm_bipush (v := 10) dX12_count_109 rfl ?_
      refine mm_irem_c dX12_count_111 (by decide) ?_
      refine mm_callVz (as := [.int (mm_rem v1 10)]) (st := []) (c_R_isStay E (mm_rem v1 10) M_4) dX12_count_112 mz_X12_isStay lk_RX12_220 im_X12_isStay se_X12_isStay lo_97 rfl rfl rfl ⟨Nat.le_of_ble_eq_true rfl, Nat.le_of_ble_eq_true rfl⟩ (Nat.le_of_ble_eq_true rfl) (fun b_5 M_6 => ?_)
      refine mm_if_ne_b 120 dX12_count_115 rfl ?_ ?_
      · refine mm_iload_n 1 dX12_count_120 rfl ?_
        refine mm_bipush (v := 20) dX12_count_121 rfl ?_
        refine mm_icmp_ge 138 dX12_count_123 rfl ?_ ?_
        · refine mm_iload_n 1 dX12_count_138 rfl ?_
          refine mm_bipush (v := 30) dX12_count_139 rfl ?_
          refine mm_icmp_ge 156 dX12_count_141 rfl ?_ ?_
          · refine mm_iload_n 1 dX12_count_156 rfl ?_
            refine mm_bipush (v := 40) dX12_count_157 rfl ?_
            refine mm_icmp_ge 174 dX12_count_159 rfl ?_ ?_
            · refine mm_aload_n 0 dX12_count_174 rfl ?_
              refine mm_getR 108 dX12_count_175 fl_RX12_41 lo_97 rfl ?_
              refine mm_iload_n 1 dX12_count_178 rfl ?_
              refine mm_bipush (v := 40) dX12_count_179 rfl ?_
              refine mm_isub dX12_count_181 ?_
              refine mm_iaload dX12_count_182 ?_
              refine mm_iconst (v := 3) dX12_count_183 rfl ?_
              refine mm_iadd dX12_count_184 ?_
              exact mm_iret dX12_count_185 rfl
            · refine mm_aload_n 0 dX12_count_162 rfl ?_
              refine mm_getR 107 dX12_count_163 fl_RX12_38 lo_97 rfl ?_
              refine mm_iload_n 1 dX12_count_166 rfl ?_
              refine mm_bipush (v := 30) dX12_count_167 rfl ?_
              refine mm_isub dX12_count_169 ?_
              refine mm_iaload dX12_count_170 ?_
              refine mm_goto 185 dX12_count_171 rfl ?_
              exact mm_iret dX12_count_185 rfl
          · refine mm_aload_n 0 dX12_count_144 rfl ?_
            refine mm_getR 106 dX12_count_145 fl_RX12_35 lo_97 rfl ?_
            refine mm_iload_n 1 dX12_count_148 rfl ?_
            refine mm_bipush (v := 20) dX12_count_149 rfl ?_
            refine mm_isub dX12_count_151 ?_
            refine mm_iaload dX12_count_152 ?_
            refine mm_goto 185 dX12_count_153 rfl ?_
            exact mm_iret dX12_count_185 rfl
        · refine mm_aload_n 0 dX12_count_126 rfl ?_
          refine mm_getR 105 dX12_count_127 fl_RX12_32 lo_97 rfl ?_
          refine mm_iload_n 1 dX12_count_130 rfl ?_
          refine mm_bipush (v := 10) dX12_count_131 rfl ?_
          refine mm_isub dX12_count_133 ?_
          refine mm_iaload dX12_count_134 ?_
          refine mm_goto 185 dX12_count_135 rfl ?_
          exact mm_iret dX12_count_185 rfl
      · refine mm_iconst (v := (-1)) dX12_count_118 rfl ?_
        exact mm_iret dX12_count_119 rfl
  · refine mm_aload_n 0 dX12_count_86 rfl ?_
    refine mm_getR 101 dX12_count_87 fl_RX12_20 lo_97 rfl ?_
    refine mm_iload_n 1 dX12_count_90 rfl ?_
    refine mm_bipush (v := 50) dX12_count_91 rfl ?_
    refine mm_isub dX12_count_93 ?_
    refine mm_iaload dX12_count_94 ?_
    exact mm_iret dX12_count_95 rfl
