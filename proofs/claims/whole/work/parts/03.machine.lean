/-! THE PURE MACHINE: the fixed world of the two systems as a memory of numbers; each instruction as a rule from states to states -/
abbrev mm_M : Type := (Nat → Nat → Int32) × (Nat → Nat → Int32) × (Nat → Nat → Int64)
abbrev mm_L : Type := (Nat × List Nat) ⊕ (Nat × Nat × Nat)
abbrev mm_E : Type := Launch × va_G × (Nat → Nat) × (Nat → ClassId)
abbrev mm_Y : Type := MethodName × ByteArray × Nat × Option FieldType
def mm_lay : List mm_L := [.inl (11, [3, 6, 24, 29, 34, 0, 39, 48, 57, 58, 73, 75, 95]), .inl (9, [4, 0]), .inr (0, 200, 0), .inl (10, [3, 0, 0, 0, 0]), .inl (1, [5, 7, 20, 0, 21, 22, 23, 0, 0]), .inr (2, 12, 6), .inr (0, 72, 0), .inr (0, 72, 0), .inr (0, 72, 0), .inr (0, 72, 0), .inr (0, 72, 0), .inr (0, 72, 0), .inr (0, 72, 0), .inr (0, 72, 0), .inr (0, 72, 0), .inr (0, 72, 0), .inr (0, 72, 0), .inr (0, 72, 0), .inr (0, 72, 0), .inr (0, 24, 0), .inr (0, 3, 0), .inr (0, 3, 0), .inl (2, [25, 0, 26, 27, 28, 0, 0]), .inr (0, 10, 0), .inr (0, 3, 0), .inr (0, 3, 0), .inr (0, 4, 0), .inl (7, [0, 30, 31, 32, 33, 0]), .inr (0, 10, 0), .inr (0, 10, 0), .inr (0, 10, 0), .inr (0, 10, 0), .inl (7, [0, 35, 36, 37, 38, 0]), .inr (0, 10, 0), .inr (0, 10, 0), .inr (0, 10, 0), .inr (0, 10, 0), .inl (3, [40, 41, 0, 42, 43, 44, 45, 0, 46, 47, 0, 0]), .inr (0, 160, 0), .inr (0, 160, 0), .inr (0, 12, 0), .inr (0, 12, 0), .inr (0, 12, 0), .inr (0, 12, 0), .inr (0, 9, 0), .inr (0, 160, 0), .inl (3, [49, 50, 0, 51, 52, 53, 54, 0, 55, 56, 0, 0]), .inr (0, 160, 0), .inr (0, 160, 0), .inr (0, 12, 0), .inr (0, 12, 0), .inr (0, 12, 0), .inr (0, 12, 0), .inr (0, 9, 0), .inr (0, 160, 0), .inl (4, [5, 48]), .inl (5, [24, 29, 6, 59, 70, 71, 72, 0, 0, 0]), .inr (2, 10, 58), .inr (0, 72, 0), .inr (0, 72, 0), .inr (0, 72, 0), .inr (0, 72, 0), .inr (0, 72, 0), .inr (0, 72, 0), .inr (0, 72, 0), .inr (0, 72, 0), .inr (0, 72, 0), .inr (0, 72, 0), .inr (0, 10, 0), .inr (0, 72, 0), .inr (0, 96, 0), .inl (0, [24, 29, 58, 0, 0, 74, 1, 1]), .inr (0, 3, 0), .inl (8, [24, 29, 39, 58, 76, 87, 0, 0, 88, 89, 90, 91, 92, 93, 94]), .inr (2, 10, 75), .inr (0, 72, 0), .inr (0, 72, 0), .inr (0, 72, 0), .inr (0, 72, 0), .inr (0, 72, 0), .inr (0, 72, 0), .inr (0, 72, 0), .inr (0, 72, 0), .inr (0, 72, 0), .inr (0, 72, 0), .inr (0, 10, 0), .inr (0, 10, 0), .inr (0, 10, 0), .inr (0, 3, 0), .inr (0, 4, 0), .inr (0, 24, 0), .inr (0, 1024, 0), .inr (0, 1024, 0), .inl (6, [24, 29, 58, 0, 96, 97, 98, 0, 0]), .inr (0, 10, 0), .inr (0, 10, 0), .inr (0, 10, 0), .inl (12, [100, 0, 0, 0, 0, 0, 0, 101, 102, 0, 0, 0, 0, 0, 103, 104, 105, 106, 107, 108, 109, 110, 0, 0, 0, 0, 0, 111, 112, 113, 114, 115, 116, 117, 118, 119, 120, 121, 122, 123, 124, 125, 126, 127, 128, 129, 0, 0, 0, 0, 0, 0, 130, 131, 132, 133, 134, 0, 135, 136, 137, 0, 0, 0, 138, 139, 140, 141]), .inr (1, 200, 0), .inr (0, 864, 0), .inr (0, 72, 0), .inr (0, 10, 0), .inr (0, 3, 0), .inr (0, 3, 0), .inr (0, 4, 0), .inr (0, 10, 0), .inr (0, 10, 0), .inr (0, 10, 0), .inr (0, 10, 0), .inr (0, 180, 0), .inr (0, 180, 0), .inr (0, 12, 0), .inr (0, 12, 0), .inr (0, 12, 0), .inr (0, 12, 0), .inr (0, 180, 0), .inr (0, 12, 0), .inr (0, 12, 0), .inr (0, 12, 0), .inr (0, 12, 0), .inr (0, 180, 0), .inr (0, 9, 0), .inr (0, 10, 0), .inr (0, 10, 0), .inr (0, 3, 0), .inr (0, 4, 0), .inr (0, 720, 0), .inr (0, 10, 0), .inr (0, 10, 0), .inr (0, 6, 0), .inr (0, 10, 0), .inr (0, 10, 0), .inr (0, 6, 0), .inr (0, 24, 0), .inr (0, 3, 0), .inr (0, 3, 0), .inr (0, 10, 0), .inr (0, 10, 0), .inr (0, 10, 0), .inr (0, 10, 0)]

def mm_cv (E : mm_E) : Value → Value
  | .ref i => .ref (E.2.2.1 i)
  | v => v
def mm_fv (E : mm_E) (M : mm_M) (i k c : Nat) : Value := if c = 0 then .int (M.1 i k) else if c = 1 then .long (M.2.2 i k) else .ref (E.2.2.1 (c - 2))
def mm_cell (E : mm_E) (M : mm_M) (i : Nat) : mm_L → va_E
  | .inl q => .inr (q.1, q.2.mapIdx (fun k c => mm_fv E M i k c))
  | .inr q => if q.1 = 2 then .inl (E.2.2.2 2, q.2.1, .inr (.inr (.inr (.inr (fun j => some (E.2.2.1 (q.2.2 + j))))))) else .inl (E.2.2.2 q.1, q.2.1, .inl (M.2.1 i))
def mm_ws (E : mm_E) (M : mm_M) : va_W := mm_lay.mapIdx (fun i L => (E.2.2.1 i, mm_cell E M i L))
def mm_A (E : mm_E) : Nat → Prop := fun q => ∃ i, i < mm_lay.length ∧ q = E.2.2.1 i
def mm_tys (E : mm_E) : List (ClassId × FieldType) := [(E.2.2.2 0, .int), (E.2.2.2 1, .byte), (E.2.2.2 2, .array .int)]
def mm_Ok (E : mm_E) : Prop := ∀ i j : Nat, i < mm_lay.length → j < mm_lay.length → E.2.2.1 i = E.2.2.1 j → i = j
def mm_isN : Cond → Bool
  | .fieldLinkNest _ _ _ _ _ _ => true
  | .methodLinkNest _ _ _ _ => true
  | _ => false
def mm_nw : List Cond := lw_tbl.filter mm_isN
def mm_tb : List Cond := lw_tbl.filter goodWord
def mm_T (E : mm_E) (U : State) : Prop := va_K E.2.1 vwCl (mm_tys E) U ∧ (∀ w ∈ mm_nw, va_Nw w U) ∧ mm_Ok E
def mm_len : List Nat := [3, 2, 9, 3, 2, 3]
def mm_byt : List (List Int32) := [[114, 119, 108], [112, 109], [115, 114, 102, 100, 99, 116, 107, 110, 103], [42, 47, 37], [43, 45], [60, 62, 61]]
def mm_str : List (String × Nat × String × Nat) := [("WeatherHotel$Days", 78, "rwl", 0), ("WeatherHotel$LawReader", 49, "pm", 1), ("WeatherHotel$LawReader", 109, "srfdctkng", 2), ("WeatherHotel$LawReader", 107, "*/%", 3), ("WeatherHotel$LawReader", 102, "+-", 4), ("WeatherHotel$LawReader", 97, "<>=", 5)]
def mm_S (E : mm_E) (U : State) : Prop := vk_S 6 mm_len mm_byt (fun j => E.2.2.1 (mm_lay.length + j)) (fun j => E.2.2.1 (mm_lay.length + 6 + j)) (mm_A E) U U.heap ∧ va_Z "java/lang/String" "COMPACT_STRINGS" "Z" (.int 1) (mm_A E) U U.heap ∧ ∀ q ∈ mm_str, vk_R q.1 q.2.1 q.2.2.1 (E.2.2.1 (mm_lay.length + q.2.2.2)) U
theorem mm_nw_warm {s U : State} (hW : s.WarmedH U.vm) (h : ∀ w ∈ mm_nw, va_Nw w s) : ∀ w ∈ mm_nw, va_Nw w U := by
  intro w hw
  have h1 := h w hw
  have h2 := (List.mem_filter.mp hw).2
  cases w <;> first | exact va_Nw.warmF hW h1 | exact va_Nw.warmM hW h1 | (simp [mm_isN] at h2)
theorem mm_T.warm {E : mm_E} {s U : State} (hW : s.WarmedH U.vm) (h : mm_T E s) : mm_T E U := ⟨va_K.moved hW.alike h.1, mm_nw_warm hW h.2.1, h.2.2⟩
theorem mm_nw_same {u U : State} (hv : u.vm = U.vm) (h : ∀ w ∈ mm_nw, va_Nw w u) : ∀ w ∈ mm_nw, va_Nw w U := by
  intro w hw
  have h1 := h w hw
  have h2 := (List.mem_filter.mp hw).2
  cases w <;> first | exact va_Nw.same rfl hv h1 | (simp [mm_isN] at h2)
theorem mm_T.same {E : mm_E} {s U : State} (hv : s.vm = U.vm) (h : mm_T E s) : mm_T E U := ⟨va_K.moved (hv ▸ Vm.Alike.refl s.vm) h.1, mm_nw_same hv h.2.1, h.2.2⟩
theorem mm_S.same {E : mm_E} {s U : State} (hv : s.vm = U.vm) (hh : U.heap = s.heap) (h : mm_S E s) : mm_S E U := by
  obtain ⟨h1, h2, h3⟩ := h
  refine ⟨?_, ?_, fun q hq => vk_R.same hv.symm (h3 q hq)⟩
  · rw [hh]; exact vk_S.moved (hv ▸ Vm.Alike.refl s.vm) h1
  · rw [hh]; exact va_Z.moved (hv ▸ Vm.Alike.refl s.vm) h2
theorem mm_S.go {E : mm_E} {s U : State} {locs : List Loc} (hW : s.WarmedH U.vm) (hS : va_S (mm_A E) s.heap U.heap locs) (h : mm_S E s) : mm_S E U := by
  obtain ⟨h1, h2, h3⟩ := h
  exact ⟨(vk_S.moved hW.alike h1).kept hS.2.1, (va_Z.moved hW.alike h2).kept hS.2.1, fun q hq => vk_R.warm hW (h3 q hq)⟩
theorem mm_ws_get {E : mm_E} {M : mm_M} {i : Nat} {L : mm_L} (h : mm_lay[i]? = some L) : (mm_ws E M)[i]? = some (E.2.2.1 i, mm_cell E M i L) := by
  simp [mm_ws, List.getElem?_mapIdx, h]
theorem mm_D {E : mm_E} {M : mm_M} (h : mm_Ok E) : va_D (mm_A E) (mm_ws E M) := by
  have key : ∀ (k : Nat) (q : Nat × va_E), (mm_ws E M)[k]? = some q → k < mm_lay.length ∧ q.1 = E.2.2.1 k := by
    intro k q hk
    simp only [mm_ws, List.getElem?_mapIdx, Option.map_eq_some_iff] at hk
    obtain ⟨L, h1, rfl⟩ := hk
    exact ⟨(List.getElem?_eq_some_iff.mp h1).1, rfl⟩
  refine ⟨fun i j p q hi hj e => ?_, fun k q hk => ?_⟩
  · obtain ⟨a1, a2⟩ := key i p hi
    obtain ⟨b1, b2⟩ := key j q hj
    exact h i j a1 b1 (by rw [← a2, ← b2]; exact e)
  · obtain ⟨a1, a2⟩ := key k q hk
    exact ⟨k, a1, a2⟩
def mm_setI (M : mm_M) (o k : Nat) (v : Int32) : mm_M := (fun i j => if i = o ∧ j = k then v else M.1 i j, M.2.1, M.2.2)
def mm_setJ (M : mm_M) (o k : Nat) (v : Int64) : mm_M := (M.1, M.2.1, fun i j => if i = o ∧ j = k then v else M.2.2 i j)
def mm_setA (M : mm_M) (o : Nat) (j : Nat) (v : Int32) : mm_M := (M.1, fun i q => if i = o ∧ q = j then v else M.2.1 i q, M.2.2)
def mm_setR (M : mm_M) (o : Nat) (f : Nat → Int32) : mm_M := (M.1, fun i q => if i = o then f q else M.2.1 i q, M.2.2)
theorem mm_ws_setI {E : mm_E} {M : mm_M} {o k ci : Nat} {ks : List Nat} {v : Int32} (h : mm_lay[o]? = some (.inl (ci, ks))) (hk : ks[k]? = some 0) :
    (mm_ws E M).set o (E.2.2.1 o, .inr (ci, (ks.mapIdx (fun k c => mm_fv E M o k c)).set k (.int v))) = mm_ws E (mm_setI M o k v) := by
  apply List.ext_getElem?
  intro i
  have hl := (List.getElem?_eq_some_iff.mp h).1
  by_cases hi : i = o
  · subst hi
    rw [List.getElem?_set_self (by simp [mm_ws]; exact hl), mm_ws_get h]
    congr 2
    simp only [mm_cell]
    congr 2
    apply List.ext_getElem?
    intro j
    have hkl := (List.getElem?_eq_some_iff.mp hk).1
    by_cases hj : j = k
    · subst hj
      rw [List.getElem?_set_self (by simp; exact hkl), List.getElem?_mapIdx, hk]
      simp [mm_fv, mm_setI]
    · rw [List.getElem?_set_ne (Ne.symm hj), List.getElem?_mapIdx, List.getElem?_mapIdx]
      cases ks[j]? with
      | none => rfl
      | some c => simp [mm_fv, mm_setI, hj]
  · rw [List.getElem?_set_ne (Ne.symm hi)]
    simp only [mm_ws, List.getElem?_mapIdx]
    cases hL : mm_lay[i]? with
    | none => rfl
    | some L =>
      simp only [Option.map_some]
      congr 2
      rcases L with ⟨c2, k2⟩ | q2
      · simp only [mm_cell]
        congr 2
        apply List.ext_getElem?
        intro j
        rw [List.getElem?_mapIdx, List.getElem?_mapIdx]
        cases k2[j]? with
        | none => rfl
        | some c => simp [mm_fv, mm_setI, hi]
      · simp [mm_cell, mm_setI]
theorem mm_ws_setJ {E : mm_E} {M : mm_M} {o k ci : Nat} {ks : List Nat} {v : Int64} (h : mm_lay[o]? = some (.inl (ci, ks))) (hk : ks[k]? = some 1) :
    (mm_ws E M).set o (E.2.2.1 o, .inr (ci, (ks.mapIdx (fun k c => mm_fv E M o k c)).set k (.long v))) = mm_ws E (mm_setJ M o k v) := by
  apply List.ext_getElem?
  intro i
  have hl := (List.getElem?_eq_some_iff.mp h).1
  by_cases hi : i = o
  · subst hi
    rw [List.getElem?_set_self (by simp [mm_ws]; exact hl), mm_ws_get h]
    congr 2
    simp only [mm_cell]
    congr 2
    apply List.ext_getElem?
    intro j
    have hkl := (List.getElem?_eq_some_iff.mp hk).1
    by_cases hj : j = k
    · subst hj
      rw [List.getElem?_set_self (by simp; exact hkl), List.getElem?_mapIdx, hk]
      simp [mm_fv, mm_setJ]
    · rw [List.getElem?_set_ne (Ne.symm hj), List.getElem?_mapIdx, List.getElem?_mapIdx]
      cases ks[j]? with
      | none => rfl
      | some c => simp [mm_fv, mm_setJ, hj]
  · rw [List.getElem?_set_ne (Ne.symm hi)]
    simp only [mm_ws, List.getElem?_mapIdx]
    cases hL : mm_lay[i]? with
    | none => rfl
    | some L =>
      simp only [Option.map_some]
      congr 2
      rcases L with ⟨c2, k2⟩ | q2
      · simp only [mm_cell]
        congr 2
        apply List.ext_getElem?
        intro j
        rw [List.getElem?_mapIdx, List.getElem?_mapIdx]
        cases k2[j]? with
        | none => rfl
        | some c => simp [mm_fv, mm_setJ, hi]
      · simp [mm_cell, mm_setJ]
theorem mm_ws_setR {E : mm_E} {M : mm_M} {o t n b : Nat} {f : Nat → Int32} (h : mm_lay[o]? = some (.inr (t, n, b))) (ht : ¬ t = 2) :
    (mm_ws E M).set o (E.2.2.1 o, .inl (E.2.2.2 t, n, .inl f)) = mm_ws E (mm_setR M o f) := by
  apply List.ext_getElem?
  intro i
  have hl := (List.getElem?_eq_some_iff.mp h).1
  by_cases hi : i = o
  · subst hi
    rw [List.getElem?_set_self (by simp [mm_ws]; exact hl), mm_ws_get h]
    simp [mm_cell, mm_setR, ht]
  · rw [List.getElem?_set_ne (Ne.symm hi)]
    simp only [mm_ws, List.getElem?_mapIdx]
    cases hL : mm_lay[i]? with
    | none => rfl
    | some L =>
      simp only [Option.map_some]
      congr 2
      rcases L with ⟨c2, k2⟩ | q2
      · simp only [mm_cell]
        congr 2
      · simp [mm_cell, mm_setR, hi]
theorem mm_ws_setA {E : mm_E} {M : mm_M} {o t n b j : Nat} {v : Int32} (h : mm_lay[o]? = some (.inr (t, n, b))) (ht : ¬ t = 2) :
    (mm_ws E M).set o (E.2.2.1 o, .inl (E.2.2.2 t, n, .inl (upd (M.2.1 o) j v))) = mm_ws E (mm_setA M o j v) := by
  rw [mm_ws_setR h ht]
  congr 1
  unfold mm_setR mm_setA
  congr 2
  funext i q
  by_cases hi : i = o
  · subst hi
    simp [upd]
  · simp [hi]
/-- the length of an array of whole numbers, 0 for what is none -/
def mm_al (o : Nat) : Nat := match mm_lay[o]? with
  | some (.inr q) => if q.1 = 0 then q.2.1 else 0
  | _ => 0
def mm_bl (o : Nat) : Nat := match mm_lay[o]? with
  | some (.inr q) => if q.1 = 1 then q.2.1 else 0
  | _ => 0
/-- an index within -/
def mm_in (i : Int32) (n : Nat) : Bool := !(decide (i < 0) || decide (n ≤ i.toNatClampNeg))
theorem mm_in_vp {i : Int32} {n : Nat} (h : mm_in i n = true) : vp_in i n := by
  simp only [mm_in, Bool.not_eq_true', Bool.or_eq_false_iff, decide_eq_false_iff_not] at h
  exact fun q => q.elim h.1 h.2
theorem mm_al_lay {o : Nat} {i : Int32} (h : mm_in i (mm_al o) = true) : ∃ b, mm_lay[o]? = some (.inr (0, mm_al o, b)) := by
  unfold mm_al at h ⊢
  cases hL : mm_lay[o]? with
  | none => rw [hL] at h; simp [mm_in] at h
  | some L =>
    rw [hL] at h
    rcases L with q | ⟨t, n, b⟩
    · simp [mm_in] at h
    · by_cases ht : t = 0
      · subst ht; exact ⟨b, by simp⟩
      · simp [mm_in, ht] at h
theorem mm_bl_lay {o : Nat} {i : Int32} (h : mm_in i (mm_bl o) = true) : ∃ b, mm_lay[o]? = some (.inr (1, mm_bl o, b)) := by
  unfold mm_bl at h ⊢
  cases hL : mm_lay[o]? with
  | none => rw [hL] at h; simp [mm_in] at h
  | some L =>
    rw [hL] at h
    rcases L with q | ⟨t, n, b⟩
    · simp [mm_in] at h
    · by_cases ht : t = 1
      · subst ht; exact ⟨b, by simp⟩
      · simp [mm_in, ht] at h
theorem mm_cat (E : mm_E) (v : Value) : (mm_cv E v).category = v.category := by cases v <;> rfl
theorem mm_sl (E : mm_E) (as : List Value) : (lg_sl (as.map (mm_cv E))).length = (lg_sl as).length := by
  induction as with
  | nil => rfl
  | cons v t ih =>
    simp only [lg_sl, List.map_cons, List.flatMap_cons, List.length_append] at ih ⊢
    rw [ih, mm_cat]
    congr 1
    split <;> rfl
abbrev mm_cl (E : mm_E) (lv : List (Nat × Value)) : List (Nat × Value) := lv.map (fun q => (q.1, mm_cv E q.2))
theorem mm_args (E : mm_E) (as : List Value) : ∀ i, lv_args i (as.map (mm_cv E)) = mm_cl E (lv_args i as) := by
  induction as with
  | nil => intro i; rfl
  | cons v t ih =>
    intro i
    simp only [List.map_cons, lv_args, mm_cat]
    rw [ih]
theorem mm_at {E : mm_E} {ls : Array Slot} {n : Nat} {lv : List (Nat × Value)} (hl : lv_has ls n (mm_cl E lv)) {k i : Nat} {v : Value} (hk : lv[k]? = some (i, v)) : ls[i]? = some (.val (mm_cv E v)) :=
  lv_at hl k (by rw [List.getElem?_map, hk]; rfl)
def mm_st1 (lv : List (Nat × Value)) (i : Nat) : List (Nat × Value) := lv.filter (fun q => !(q.1 == i) && !(q.1 + 1 == i && q.2.category == 2))
def mm_st2 (lv : List (Nat × Value)) (i : Nat) : List (Nat × Value) := lv.filter (fun q => !(q.1 == i) && (!(q.1 == i + 1) && !(q.1 + 1 == i && q.2.category == 2)))
theorem mm_fil1 (E : mm_E) (lv : List (Nat × Value)) (i : Nat) (v : Value) : (i, mm_cv E v) :: (mm_cl E lv).filter (fun q => !(q.1 == i) && !(q.1 + 1 == i && q.2.category == 2)) = mm_cl E ((i, v) :: mm_st1 lv i) := by
  simp only [mm_cl, mm_st1, List.map_cons, List.filter_map]
  congr 2
  apply List.filter_congr
  intro q _
  simp [mm_cat]
theorem mm_fil2 (E : mm_E) (lv : List (Nat × Value)) (i : Nat) (v : Value) : (i, mm_cv E v) :: (mm_cl E lv).filter (fun q => !(q.1 == i) && (!(q.1 == i + 1) && !(q.1 + 1 == i && q.2.category == 2))) = mm_cl E ((i, v) :: mm_st2 lv i) := by
  simp only [mm_cl, mm_st2, List.map_cons, List.filter_map]
  congr 2
  apply List.filter_congr
  intro q _
  simp [mm_cat]
theorem mm_pick {E : mm_E} {ls : Array Slot} {n : Nat} {l l' : List (Nat × Value)} (h : lv_has ls n (mm_cl E l)) (ks : List Nat) (hl : lv_pick l ks = l') : lv_has ls n (mm_cl E l') := by
  refine lv_sub h ks ?_
  subst hl
  induction ks with
  | nil => rfl
  | cons a t ih =>
    simp only [lv_pick, List.filterMap_cons] at ih ⊢
    rw [show (mm_cl E l)[a]? = (l[a]?).map (fun q => (q.1, mm_cv E q.2)) from List.getElem?_map]
    cases l[a]? with
    | none => simpa using ih
    | some x => simp only [Option.map_some, List.map_cons, mm_cl] at ih ⊢; rw [ih]
def mm_rm (d : Nat) : Room := { frames := d, cells := 0, slots := 0, locals := 60 * d }
def mm_wy (Y : mm_Y) : List Cond := .code Y.1 Y.2.1 Y.2.2.1 Y.2.2.2 :: mm_tb
def mm_Pc (E : mm_E) (as : List Value) (M : mm_M) : Array Value → State → Prop := va_Pc (as.map (mm_cv E)) (fun U => va_P E.2.1 vwCl (mm_ws E M) U.heap ∧ mm_T E U ∧ mm_S E U)
def mm_Qc (E : mm_E) (r : Option Value) (M : mm_M) : Array Value → State → Outcome → State → Prop := fun _ st o t => (o = .returned (r.map (mm_cv E)) ∧ va_P E.2.1 vwCl (mm_ws E M) t.heap) ∧ va_F (mm_A E) st t
/-- the contract of a method: at this memory it returns this answer and leaves that memory -/
def mm_P (E : mm_E) (Y : mm_Y) (d : Nat) (as : List Value) (M : mm_M) (r : Option Value) (M' : mm_M) : Prop := Met E.1 Y.1 (mm_wy Y) (mm_rm d) (mm_Pc E as M) (mm_Qc E r M') 0 0 (mm_A E)
def mm_C (E : mm_E) (Y : mm_Y) (p : Program) (s : State) (m : MethodId) (args : Array Value) (meth : Method) (c : Code) : Prop :=
  p.tables.exec = Jvm.exec ∧ c.code = Y.2.1 ∧ meth.sig.returnType = Y.2.2.2 ∧ c.maxLocals = Y.2.2.1 ∧ s.vm.findClass Y.1.cls = some m.cls ∧ (∀ w ∈ mm_wy Y, w.before args s = true) ∧ meth.locks = false ∧ mm_T E s ∧ mm_S E s
def mm_W (E : mm_E) (Y : mm_Y) (d pc : Nat) (lv : List (Nat × Value)) (st : List Value) (M : mm_M) (r : Option Value) (M' : mm_M) : Prop :=
  ∀ (p : Program) (e : Env) (s : State) (m : MethodId) (args : Array Value) (below : List Frame) (meth : Method) (c : Code) (H : Heap) (locs : List Loc) (ls : Array Slot),
    mm_C E Y p s m args meth c → va_P E.2.1 vwCl (mm_ws E M) H → va_S (mm_A E) s.heap H locs → lv_has ls Y.2.2.1 (mm_cl E lv) →
    W p E.1 e (mm_rm d) s m args below meth c H locs 0 0 (MQ below (mm_Qc E r M') args s 0 0 (mm_A E)) (F0 m pc ls (st.map (mm_cv E)))
/-- the expression e tells how the method ends from this state -/
def mm_G {α : Type} (em : α → Option Value) (E : mm_E) (Y : mm_Y) (d pc : Nat) (lv : List (Nat × Value)) (st : List Value) (M : mm_M) (e : Option (α × mm_M)) : Prop :=
  ∀ (r : α) (M' : mm_M), e = some (r, M') → mm_W E Y d pc lv st M (em r) M'
theorem mm_ofW {l : Launch} {y : MethodName} {ws ws' : List Cond} {rm : Room} {Pc : Array Value → State → Prop} {Qc : Array Value → State → Outcome → State → Prop} {mc ms : Nat} {free : Addr → Prop} {cc : ByteArray} {maxL : Nat} {ret : Option FieldType}
    (hy : plainFor y = true) (hw : ws = Cond.code y cc maxL ret :: ws')
    (body : ∀ p e s m args below meth c s₁, BodyLoose p l y (headSpec ws rm) cc maxL ret e s m args below meth c s₁ → c.maxLocals = maxL → Pc args s →
      W p l e (headSpec ws rm).room s m args below meth c s.heap [] 0 0 (MQ below Qc args s mc ms free) (entryFrame m args maxL)) : Met l y ws rm Pc Qc mc ms free := by
  refine MetFree.of_bodySF (code := cc) (maxLocals := maxL) (ret := ret) hy ?_ ?_
  · intro args s m h hn
    obtain ⟨meth, c, h1, h2, h3, h4, h5, h6, -, -⟩ := Cond.code_spec hn (atoms_spec (ws := ws) h _ (by rw [hw]; exact List.mem_cons_self))
    exact ⟨meth, c, h1, h2, h3, h4, h5, h6⟩
  · intro p e s m args below meth c s₁ B hml hP _
    have hh0 : s₁.heap = s.heap := by rw [B.state]; rfl
    obtain ⟨t, a1, o, b1, b2, b3⟩ := body p e s m args below meth c s₁ B hml hP s₁ hh0 (Stand.of_body B)
    exact ⟨t, o, a1, b1, b2, ⟨b3.1, b3.2⟩⟩
theorem mm_entry {α : Type} {em : α → Option Value} {E : mm_E} {Y : mm_Y} {d : Nat} {as : List Value} {M : mm_M} {e : Option (α × mm_M)} (hY : plainFor Y.1 = true) (hn : (lg_sl as).length ≤ Y.2.2.1) (k : mm_G em E Y d 0 (lv_args 0 as) [] M e) :
    ∀ (r : α) (M' : mm_M), e = some (r, M') → mm_P E Y d as M (em r) M' := by
  intro r M' he
  refine mm_ofW (cc := Y.2.1) (maxL := Y.2.2.1) (ret := Y.2.2.2) hY rfl ?_
  intro p ee s m args below meth c s₁ B hml hv
  obtain ⟨rfl, hP, hT, hS⟩ := hv
  have hl := lv_entry (as.map (mm_cv E)) (n := Y.2.2.1) (by rw [mm_sl]; exact hn)
  rw [lg_entry_eq]
  rw [mm_args] at hl
  exact k r M' he p ee s m _ below meth c s.heap [] _ ⟨B.exec, B.bytes, B.returns, hml, findClass_of_methodNamed B.named, atoms_spec (ws := mm_wy Y) B.pre, B.notSynchronized, hT, hS⟩ hP va_S.rf hl
section MMR
variable {α : Type} {em : α → Option Value} {E : mm_E} {Y : mm_Y} {d pc : Nat} {lv : List (Nat × Value)} {st : List Value} {M : mm_M} {e e1 e2 : Option (α × mm_M)}
theorem mm_iconst {n : Int} {v : Int32} (hd : decode Y.2.1 pc = .ok (.iconst n, 1)) (hv : Int32.ofInt n = v) (k : mm_G em E Y d (pc + 1) lv (.int v :: st) M e) : mm_G em E Y d pc lv st M e :=
  fun r M' he p ee s m args below meth c H locs ls C hP hS hl => lv_iconst C.1 C.2.1  hd hv (k r M' he p ee s m args below meth c H locs ls C hP hS hl)
theorem mm_bipush {n : Int} {v : Int32} (hd : decode Y.2.1 pc = .ok (.bipush n, 2)) (hv : (Int8.ofInt n).toInt32 = v) (k : mm_G em E Y d (pc + 2) lv (.int v :: st) M e) : mm_G em E Y d pc lv st M e :=
  fun r M' he p ee s m args below meth c H locs ls C hP hS hl => lv_bipush C.1 C.2.1  hd hv (k r M' he p ee s m args below meth c H locs ls C hP hS hl)
theorem mm_sipush {n : Int} {v : Int32} (hd : decode Y.2.1 pc = .ok (.sipush n, 3)) (hv : (Int16.ofInt n).toInt32 = v) (k : mm_G em E Y d (pc + 3) lv (.int v :: st) M e) : mm_G em E Y d pc lv st M e :=
  fun r M' he p ee s m args below meth c H locs ls C hP hS hl => lv_sipush C.1 C.2.1  hd hv (k r M' he p ee s m args below meth c H locs ls C hP hS hl)
theorem mm_lconst {n : Fin 2} {v : Int64} (hd : decode Y.2.1 pc = .ok (.lconst n, 1)) (hv : Int64.ofNat (n : Nat) = v) (k : mm_G em E Y d (pc + 1) lv (.long v :: st) M e) : mm_G em E Y d pc lv st M e :=
  fun r M' he p ee s m args below meth c H locs ls C hP hS hl => lv_lconst C.1 C.2.1  hd hv (k r M' he p ee s m args below meth c H locs ls C hP hS hl)
theorem mm_iadd {x y : Int32} (hd : decode Y.2.1 pc = .ok (.iadd, 1))  (k : mm_G em E Y d (pc + 1) lv (.int (x + y) :: st) M e) : mm_G em E Y d pc lv (.int y :: .int x :: st) M e :=
  fun r M' he p ee s m args below meth c H locs ls C hP hS hl => lv_iadd C.1 C.2.1  hd  (k r M' he p ee s m args below meth c H locs ls C hP hS hl)
theorem mm_isub {x y : Int32} (hd : decode Y.2.1 pc = .ok (.isub, 1))  (k : mm_G em E Y d (pc + 1) lv (.int (x - y) :: st) M e) : mm_G em E Y d pc lv (.int y :: .int x :: st) M e :=
  fun r M' he p ee s m args below meth c H locs ls C hP hS hl => lv_isub C.1 C.2.1  hd  (k r M' he p ee s m args below meth c H locs ls C hP hS hl)
theorem mm_imul {x y : Int32} (hd : decode Y.2.1 pc = .ok (.imul, 1))  (k : mm_G em E Y d (pc + 1) lv (.int (x * y) :: st) M e) : mm_G em E Y d pc lv (.int y :: .int x :: st) M e :=
  fun r M' he p ee s m args below meth c H locs ls C hP hS hl => lv_imul C.1 C.2.1  hd  (k r M' he p ee s m args below meth c H locs ls C hP hS hl)
theorem mm_iand {x y : Int32} (hd : decode Y.2.1 pc = .ok (.iand, 1))  (k : mm_G em E Y d (pc + 1) lv (.int (x &&& y) :: st) M e) : mm_G em E Y d pc lv (.int y :: .int x :: st) M e :=
  fun r M' he p ee s m args below meth c H locs ls C hP hS hl => lv_iand C.1 C.2.1  hd  (k r M' he p ee s m args below meth c H locs ls C hP hS hl)
theorem mm_ior {x y : Int32} (hd : decode Y.2.1 pc = .ok (.ior, 1))  (k : mm_G em E Y d (pc + 1) lv (.int (x ||| y) :: st) M e) : mm_G em E Y d pc lv (.int y :: .int x :: st) M e :=
  fun r M' he p ee s m args below meth c H locs ls C hP hS hl => lv_ior C.1 C.2.1  hd  (k r M' he p ee s m args below meth c H locs ls C hP hS hl)
theorem mm_ixor {x y : Int32} (hd : decode Y.2.1 pc = .ok (.ixor, 1))  (k : mm_G em E Y d (pc + 1) lv (.int (x ^^^ y) :: st) M e) : mm_G em E Y d pc lv (.int y :: .int x :: st) M e :=
  fun r M' he p ee s m args below meth c H locs ls C hP hS hl => lv_ixor C.1 C.2.1  hd  (k r M' he p ee s m args below meth c H locs ls C hP hS hl)
theorem mm_ishl {x y : Int32} (hd : decode Y.2.1 pc = .ok (.ishl, 1))  (k : mm_G em E Y d (pc + 1) lv (.int (x <<< (y &&& 31)) :: st) M e) : mm_G em E Y d pc lv (.int y :: .int x :: st) M e :=
  fun r M' he p ee s m args below meth c H locs ls C hP hS hl => lv_ishl C.1 C.2.1  hd  (k r M' he p ee s m args below meth c H locs ls C hP hS hl)
theorem mm_ishr {x y : Int32} (hd : decode Y.2.1 pc = .ok (.ishr, 1))  (k : mm_G em E Y d (pc + 1) lv (.int (x >>> (y &&& 31)) :: st) M e) : mm_G em E Y d pc lv (.int y :: .int x :: st) M e :=
  fun r M' he p ee s m args below meth c H locs ls C hP hS hl => lv_ishr C.1 C.2.1  hd  (k r M' he p ee s m args below meth c H locs ls C hP hS hl)
theorem mm_ladd {x y : Int64} (hd : decode Y.2.1 pc = .ok (.ladd, 1))  (k : mm_G em E Y d (pc + 1) lv (.long (x + y) :: st) M e) : mm_G em E Y d pc lv (.long y :: .long x :: st) M e :=
  fun r M' he p ee s m args below meth c H locs ls C hP hS hl => lv_ladd C.1 C.2.1  hd  (k r M' he p ee s m args below meth c H locs ls C hP hS hl)
theorem mm_lsub {x y : Int64} (hd : decode Y.2.1 pc = .ok (.lsub, 1))  (k : mm_G em E Y d (pc + 1) lv (.long (x - y) :: st) M e) : mm_G em E Y d pc lv (.long y :: .long x :: st) M e :=
  fun r M' he p ee s m args below meth c H locs ls C hP hS hl => lv_lsub C.1 C.2.1  hd  (k r M' he p ee s m args below meth c H locs ls C hP hS hl)
theorem mm_lmul {x y : Int64} (hd : decode Y.2.1 pc = .ok (.lmul, 1))  (k : mm_G em E Y d (pc + 1) lv (.long (x * y) :: st) M e) : mm_G em E Y d pc lv (.long y :: .long x :: st) M e :=
  fun r M' he p ee s m args below meth c H locs ls C hP hS hl => lv_lmul C.1 C.2.1  hd  (k r M' he p ee s m args below meth c H locs ls C hP hS hl)
theorem mm_ineg {x : Int32} (hd : decode Y.2.1 pc = .ok (.ineg, 1))  (k : mm_G em E Y d (pc + 1) lv (.int (-x) :: st) M e) : mm_G em E Y d pc lv (.int x :: st) M e :=
  fun r M' he p ee s m args below meth c H locs ls C hP hS hl => lv_ineg C.1 C.2.1  hd  (k r M' he p ee s m args below meth c H locs ls C hP hS hl)
theorem mm_lneg {x : Int64} (hd : decode Y.2.1 pc = .ok (.lneg, 1))  (k : mm_G em E Y d (pc + 1) lv (.long (-x) :: st) M e) : mm_G em E Y d pc lv (.long x :: st) M e :=
  fun r M' he p ee s m args below meth c H locs ls C hP hS hl => lv_lneg C.1 C.2.1  hd  (k r M' he p ee s m args below meth c H locs ls C hP hS hl)
theorem mm_iushr {x y : Int32} (hd : decode Y.2.1 pc = .ok (.iushr, 1))  (k : mm_G em E Y d (pc + 1) lv (.int ((x.toUInt32 >>> (y.toUInt32 &&& Int32.toUInt32 31)).toInt32) :: st) M e) : mm_G em E Y d pc lv (.int y :: .int x :: st) M e :=
  fun r M' he p ee s m args below meth c H locs ls C hP hS hl => lv_iushr C.1 C.2.1  hd rfl (k r M' he p ee s m args below meth c H locs ls C hP hS hl)
theorem mm_i2l {x : Int32} (hd : decode Y.2.1 pc = .ok (.i2l, 1))  (k : mm_G em E Y d (pc + 1) lv (.long x.toInt64 :: st) M e) : mm_G em E Y d pc lv (.int x :: st) M e :=
  fun r M' he p ee s m args below meth c H locs ls C hP hS hl => lv_i2l C.1 C.2.1  hd rfl (k r M' he p ee s m args below meth c H locs ls C hP hS hl)
theorem mm_i2b {x : Int32} (hd : decode Y.2.1 pc = .ok (.i2b, 1))  (k : mm_G em E Y d (pc + 1) lv (.int x.toInt8.toInt32 :: st) M e) : mm_G em E Y d pc lv (.int x :: st) M e :=
  fun r M' he p ee s m args below meth c H locs ls C hP hS hl => lv_i2b C.1 C.2.1  hd rfl (k r M' he p ee s m args below meth c H locs ls C hP hS hl)
theorem mm_i2c {x : Int32} (hd : decode Y.2.1 pc = .ok (.i2c, 1))  (k : mm_G em E Y d (pc + 1) lv (.int (x.toUInt32 % 65536).toInt32 :: st) M e) : mm_G em E Y d pc lv (.int x :: st) M e :=
  fun r M' he p ee s m args below meth c H locs ls C hP hS hl => lv_i2c C.1 C.2.1  hd rfl (k r M' he p ee s m args below meth c H locs ls C hP hS hl)
theorem mm_lcmp {x y : Int64} (hd : decode Y.2.1 pc = .ok (.lcmp, 1))  (k : mm_G em E Y d (pc + 1) lv (.int (lg_cmp x y) :: st) M e) : mm_G em E Y d pc lv (.long y :: .long x :: st) M e :=
  fun r M' he p ee s m args below meth c H locs ls C hP hS hl => W.lcmp C.1 C.2.1  hd  (k r M' he p ee s m args below meth c H locs ls C hP hS hl)
def mm_rem (x y : Int32) : Int32 := x - x / y * y
def mm_remL (x y : Int64) : Int64 := x - x / y * y
theorem mm_idiv {x y : Int32} (hd : decode Y.2.1 pc = .ok (.idiv, 1)) (k : mm_G em E Y d (pc + 1) lv (.int (x / y) :: st) M e) : mm_G em E Y d pc lv (.int y :: .int x :: st) M (if y = 0 then none else e) := by
  intro r M' he
  by_cases hy : y = 0
  · rw [if_pos hy] at he; cases he
  · rw [if_neg hy] at he
    exact fun p ee s m args below meth c H locs ls C hP hS hl => lv_idiv C.1 C.2.1 hd hy (k r M' he p ee s m args below meth c H locs ls C hP hS hl)
theorem mm_idiv_c {x y : Int32} (hd : decode Y.2.1 pc = .ok (.idiv, 1)) (hy : ¬ y = 0) (k : mm_G em E Y d (pc + 1) lv (.int (x / y) :: st) M e) : mm_G em E Y d pc lv (.int y :: .int x :: st) M e :=
  fun r M' he p ee s m args below meth c H locs ls C hP hS hl => lv_idiv C.1 C.2.1 hd hy (k r M' he p ee s m args below meth c H locs ls C hP hS hl)
theorem mm_irem {x y : Int32} (hd : decode Y.2.1 pc = .ok (.irem, 1)) (k : mm_G em E Y d (pc + 1) lv (.int (mm_rem x y) :: st) M e) : mm_G em E Y d pc lv (.int y :: .int x :: st) M (if y = 0 then none else e) := by
  intro r M' he
  by_cases hy : y = 0
  · rw [if_pos hy] at he; cases he
  · rw [if_neg hy] at he
    exact fun p ee s m args below meth c H locs ls C hP hS hl => lv_irem C.1 C.2.1 hd hy (k r M' he p ee s m args below meth c H locs ls C hP hS hl)
theorem mm_irem_c {x y : Int32} (hd : decode Y.2.1 pc = .ok (.irem, 1)) (hy : ¬ y = 0) (k : mm_G em E Y d (pc + 1) lv (.int (mm_rem x y) :: st) M e) : mm_G em E Y d pc lv (.int y :: .int x :: st) M e :=
  fun r M' he p ee s m args below meth c H locs ls C hP hS hl => lv_irem C.1 C.2.1 hd hy (k r M' he p ee s m args below meth c H locs ls C hP hS hl)
theorem mm_ldiv {x y : Int64} (hd : decode Y.2.1 pc = .ok (.ldiv, 1)) (k : mm_G em E Y d (pc + 1) lv (.long (x / y) :: st) M e) : mm_G em E Y d pc lv (.long y :: .long x :: st) M (if y = 0 then none else e) := by
  intro r M' he
  by_cases hy : y = 0
  · rw [if_pos hy] at he; cases he
  · rw [if_neg hy] at he
    exact fun p ee s m args below meth c H locs ls C hP hS hl => lv_ldiv C.1 C.2.1 hd hy (k r M' he p ee s m args below meth c H locs ls C hP hS hl)
theorem mm_ldiv_c {x y : Int64} (hd : decode Y.2.1 pc = .ok (.ldiv, 1)) (hy : ¬ y = 0) (k : mm_G em E Y d (pc + 1) lv (.long (x / y) :: st) M e) : mm_G em E Y d pc lv (.long y :: .long x :: st) M e :=
  fun r M' he p ee s m args below meth c H locs ls C hP hS hl => lv_ldiv C.1 C.2.1 hd hy (k r M' he p ee s m args below meth c H locs ls C hP hS hl)
theorem mm_lrem {x y : Int64} (hd : decode Y.2.1 pc = .ok (.lrem, 1)) (k : mm_G em E Y d (pc + 1) lv (.long (mm_remL x y) :: st) M e) : mm_G em E Y d pc lv (.long y :: .long x :: st) M (if y = 0 then none else e) := by
  intro r M' he
  by_cases hy : y = 0
  · rw [if_pos hy] at he; cases he
  · rw [if_neg hy] at he
    exact fun p ee s m args below meth c H locs ls C hP hS hl => lv_lrem C.1 C.2.1 hd hy (k r M' he p ee s m args below meth c H locs ls C hP hS hl)
theorem mm_lrem_c {x y : Int64} (hd : decode Y.2.1 pc = .ok (.lrem, 1)) (hy : ¬ y = 0) (k : mm_G em E Y d (pc + 1) lv (.long (mm_remL x y) :: st) M e) : mm_G em E Y d pc lv (.long y :: .long x :: st) M e :=
  fun r M' he p ee s m args below meth c H locs ls C hP hS hl => lv_lrem C.1 C.2.1 hd hy (k r M' he p ee s m args below meth c H locs ls C hP hS hl)
theorem mm_dup {v : Value} (hd : decode Y.2.1 pc = .ok (.dup, 1)) (hc : v.category = 1) (k : mm_G em E Y d (pc + 1) lv (v :: v :: st) M e) : mm_G em E Y d pc lv (v :: st) M e :=
  fun r M' he p ee s m args below meth c H locs ls C hP hS hl => lv_dup C.1 C.2.1 hd (by rw [mm_cat]; exact hc) (k r M' he p ee s m args below meth c H locs ls C hP hS hl)
theorem mm_pop {v : Value} (hd : decode Y.2.1 pc = .ok (.pop, 1)) (hc : v.category = 1) (k : mm_G em E Y d (pc + 1) lv st M e) : mm_G em E Y d pc lv (v :: st) M e :=
  fun r M' he p ee s m args below meth c H locs ls C hP hS hl => lv_pop C.1 C.2.1 hd (by rw [mm_cat]; exact hc) (k r M' he p ee s m args below meth c H locs ls C hP hS hl)
theorem mm_dup2 {v w : Value} (hd : decode Y.2.1 pc = .ok (.dup2, 1)) (hc : v.category = 1) (hw : w.category = 1) (k : mm_G em E Y d (pc + 1) lv (v :: w :: v :: w :: st) M e) : mm_G em E Y d pc lv (v :: w :: st) M e :=
  fun r M' he p ee s m args below meth c H locs ls C hP hS hl => lv_dup2_11 C.1 C.2.1 hd (by rw [mm_cat]; exact hc) (by rw [mm_cat]; exact hw) (k r M' he p ee s m args below meth c H locs ls C hP hS hl)
theorem mm_dup_x1 {v w : Value} (hd : decode Y.2.1 pc = .ok (.dup_x1, 1)) (hc : v.category = 1) (hw : w.category = 1) (k : mm_G em E Y d (pc + 1) lv (v :: w :: v :: st) M e) : mm_G em E Y d pc lv (v :: w :: st) M e :=
  fun r M' he p ee s m args below meth c H locs ls C hP hS hl => lv_dup_x1 C.1 C.2.1 hd (by rw [mm_cat]; exact hc) (by rw [mm_cat]; exact hw) (k r M' he p ee s m args below meth c H locs ls C hP hS hl)
theorem mm_iload_n (q : Nat) {n : Fin 4} {x : Int32} (hd : decode Y.2.1 pc = .ok (.iload_n n, 1)) (hq : lv[q]? = some ((n : Nat), .int x)) (k : mm_G em E Y d (pc + 1) lv (.int x :: st) M e) : mm_G em E Y d pc lv st M e :=
  fun r M' he p ee s m args below meth c H locs ls C hP hS hl => lv_iload_n C.1 C.2.1 hd rfl (mm_at hl hq) (k r M' he p ee s m args below meth c H locs ls C hP hS hl)
theorem mm_iload (q : Nat) {n : Nat} {x : Int32} (hd : decode Y.2.1 pc = .ok (.iload n, 2)) (hq : lv[q]? = some (n, .int x)) (k : mm_G em E Y d (pc + 2) lv (.int x :: st) M e) : mm_G em E Y d pc lv st M e :=
  fun r M' he p ee s m args below meth c H locs ls C hP hS hl => lv_iload C.1 C.2.1 hd (mm_at hl hq) (k r M' he p ee s m args below meth c H locs ls C hP hS hl)
theorem mm_lload_n (q : Nat) {n : Fin 4} {x : Int64} (hd : decode Y.2.1 pc = .ok (.lload_n n, 1)) (hq : lv[q]? = some ((n : Nat), .long x)) (k : mm_G em E Y d (pc + 1) lv (.long x :: st) M e) : mm_G em E Y d pc lv st M e :=
  fun r M' he p ee s m args below meth c H locs ls C hP hS hl => lv_lload_n C.1 C.2.1 hd rfl (mm_at hl hq) (k r M' he p ee s m args below meth c H locs ls C hP hS hl)
theorem mm_lload (q : Nat) {n : Nat} {x : Int64} (hd : decode Y.2.1 pc = .ok (.lload n, 2)) (hq : lv[q]? = some (n, .long x)) (k : mm_G em E Y d (pc + 2) lv (.long x :: st) M e) : mm_G em E Y d pc lv st M e :=
  fun r M' he p ee s m args below meth c H locs ls C hP hS hl => lv_lload C.1 C.2.1 hd (mm_at hl hq) (k r M' he p ee s m args below meth c H locs ls C hP hS hl)
theorem mm_aload_n (q : Nat) {n : Fin 4} {x : Nat} (hd : decode Y.2.1 pc = .ok (.aload_n n, 1)) (hq : lv[q]? = some ((n : Nat), .ref x)) (k : mm_G em E Y d (pc + 1) lv (.ref x :: st) M e) : mm_G em E Y d pc lv st M e :=
  fun r M' he p ee s m args below meth c H locs ls C hP hS hl => lv_aload_n C.1 C.2.1 hd rfl (mm_at hl hq) (k r M' he p ee s m args below meth c H locs ls C hP hS hl)
theorem mm_aload (q : Nat) {n : Nat} {x : Nat} (hd : decode Y.2.1 pc = .ok (.aload n, 2)) (hq : lv[q]? = some (n, .ref x)) (k : mm_G em E Y d (pc + 2) lv (.ref x :: st) M e) : mm_G em E Y d pc lv st M e :=
  fun r M' he p ee s m args below meth c H locs ls C hP hS hl => lv_aload C.1 C.2.1 hd (mm_at hl hq) (k r M' he p ee s m args below meth c H locs ls C hP hS hl)
theorem mm_istore_n (ks : List Nat) {lv2 : List (Nat × Value)} {n : Fin 4} {x : Int32} (hd : decode Y.2.1 pc = .ok (.istore_n n, 1)) (hn : (n : Nat) < Y.2.2.1) (hk : lv_pick (((n : Nat), .int x) :: mm_st1 lv n) ks = lv2) (k : mm_G em E Y d (pc + 1) lv2 st M e) : mm_G em E Y d pc lv (.int x :: st) M e :=
  fun r M' he p ee s m args below meth c H locs ls C hP hS hl => lv_istore_n C.1 C.2.1 hd rfl hl hn (mm_fil1 E lv n (.int x)) (fun ls2 hl2 => k r M' he p ee s m args below meth c H locs ls2 C hP hS (mm_pick hl2 ks hk))
theorem mm_istore (ks : List Nat) {lv2 : List (Nat × Value)} {n : Nat} {x : Int32} (hd : decode Y.2.1 pc = .ok (.istore n, 2)) (hn : n < Y.2.2.1) (hk : lv_pick ((n, .int x) :: mm_st1 lv n) ks = lv2) (k : mm_G em E Y d (pc + 2) lv2 st M e) : mm_G em E Y d pc lv (.int x :: st) M e :=
  fun r M' he p ee s m args below meth c H locs ls C hP hS hl => lv_istore C.1 C.2.1 hd hl hn (mm_fil1 E lv n (.int x)) (fun ls2 hl2 => k r M' he p ee s m args below meth c H locs ls2 C hP hS (mm_pick hl2 ks hk))
theorem mm_lstore_n (ks : List Nat) {lv2 : List (Nat × Value)} {n : Fin 4} {x : Int64} (hd : decode Y.2.1 pc = .ok (.lstore_n n, 1)) (hn : (n : Nat) + 1 < Y.2.2.1) (hk : lv_pick (((n : Nat), .long x) :: mm_st2 lv n) ks = lv2) (k : mm_G em E Y d (pc + 1) lv2 st M e) : mm_G em E Y d pc lv (.long x :: st) M e :=
  fun r M' he p ee s m args below meth c H locs ls C hP hS hl => lv_lstore_n C.1 C.2.1 hd rfl hl hn (mm_fil2 E lv n (.long x)) (fun ls2 hl2 => k r M' he p ee s m args below meth c H locs ls2 C hP hS (mm_pick hl2 ks hk))
theorem mm_lstore (ks : List Nat) {lv2 : List (Nat × Value)} {n : Nat} {x : Int64} (hd : decode Y.2.1 pc = .ok (.lstore n, 2)) (hn : n + 1 < Y.2.2.1) (hk : lv_pick ((n, .long x) :: mm_st2 lv n) ks = lv2) (k : mm_G em E Y d (pc + 2) lv2 st M e) : mm_G em E Y d pc lv (.long x :: st) M e :=
  fun r M' he p ee s m args below meth c H locs ls C hP hS hl => lv_lstore C.1 C.2.1 hd hl hn (mm_fil2 E lv n (.long x)) (fun ls2 hl2 => k r M' he p ee s m args below meth c H locs ls2 C hP hS (mm_pick hl2 ks hk))
theorem mm_astore_n (ks : List Nat) {lv2 : List (Nat × Value)} {n : Fin 4} {x : Nat} (hd : decode Y.2.1 pc = .ok (.astore_n n, 1)) (hn : (n : Nat) < Y.2.2.1) (hk : lv_pick (((n : Nat), .ref x) :: mm_st1 lv n) ks = lv2) (k : mm_G em E Y d (pc + 1) lv2 st M e) : mm_G em E Y d pc lv (.ref x :: st) M e :=
  fun r M' he p ee s m args below meth c H locs ls C hP hS hl => lv_astore_n C.1 C.2.1 hd rfl hl hn (mm_fil1 E lv n (.ref x)) (fun ls2 hl2 => k r M' he p ee s m args below meth c H locs ls2 C hP hS (mm_pick hl2 ks hk))
theorem mm_astore (ks : List Nat) {lv2 : List (Nat × Value)} {n : Nat} {x : Nat} (hd : decode Y.2.1 pc = .ok (.astore n, 2)) (hn : n < Y.2.2.1) (hk : lv_pick ((n, .ref x) :: mm_st1 lv n) ks = lv2) (k : mm_G em E Y d (pc + 2) lv2 st M e) : mm_G em E Y d pc lv (.ref x :: st) M e :=
  fun r M' he p ee s m args below meth c H locs ls C hP hS hl => lv_astore C.1 C.2.1 hd hl hn (mm_fil1 E lv n (.ref x)) (fun ls2 hl2 => k r M' he p ee s m args below meth c H locs ls2 C hP hS (mm_pick hl2 ks hk))
theorem mm_iinc (q : Nat) (ks : List Nat) {lv2 : List (Nat × Value)} {i : Nat} {n : Int} {x v : Int32} (hd : decode Y.2.1 pc = .ok (.iinc i n, 3)) (hq : lv[q]? = some (i, .int x)) (hv : x + Int32.ofInt n = v) (hn : i < Y.2.2.1) (hk : lv_pick ((i, .int v) :: mm_st1 lv i) ks = lv2) (k : mm_G em E Y d (pc + 3) lv2 st M e) : mm_G em E Y d pc lv st M e :=
  fun r M' he p ee s m args below meth c H locs ls C hP hS hl => lv_iinc (k := q) C.1 C.2.1 hd hl (by rw [List.getElem?_map, hq]; rfl) hv hn (mm_fil1 E lv i (.int v)) (fun ls2 hl2 => k r M' he p ee s m args below meth c H locs ls2 C hP hS (mm_pick hl2 ks hk))
def mm_let {β γ : Type} (a : β) (f : β → Option γ) : Option γ := f a
theorem mm_nm_int {x : Int32} {f : Int32 → Option (α × mm_M)} (k : ∀ y : Int32, mm_G em E Y d pc lv (.int y :: st) M (f y)) : mm_G em E Y d pc lv (.int x :: st) M (mm_let x f) := k x
theorem mm_nm_long {x : Int64} {f : Int64 → Option (α × mm_M)} (k : ∀ y : Int64, mm_G em E Y d pc lv (.long y :: st) M (f y)) : mm_G em E Y d pc lv (.long x :: st) M (mm_let x f) := k x
theorem mm_if_eq (tgt : Nat) {x : Int32} {off : Int} (hd : decode Y.2.1 pc = .ok (.ifCond .eq off, 3)) (ht : (pc : Int) + off = (tgt : Int)) (k1 : mm_G em E Y d tgt lv st M e1) (k2 : mm_G em E Y d (pc + 3) lv st M e2) : mm_G em E Y d pc lv (.int x :: st) M (if x = 0 then e1 else e2) :=
  fun r M' he p ee s m args below meth c H locs ls C hP hS hl => lv_if_eq C.1 C.2.1 hd ht (fun q => k1 r M' (by rw [if_pos q] at he; exact he) p ee s m args below meth c H locs ls C hP hS hl) (fun q => k2 r M' (by rw [if_neg q] at he; exact he) p ee s m args below meth c H locs ls C hP hS hl)
theorem mm_icmp_eq (tgt : Nat) {x y : Int32} {off : Int} (hd : decode Y.2.1 pc = .ok (.if_icmp .eq off, 3)) (ht : (pc : Int) + off = (tgt : Int)) (k1 : mm_G em E Y d tgt lv st M e1) (k2 : mm_G em E Y d (pc + 3) lv st M e2) : mm_G em E Y d pc lv (.int y :: .int x :: st) M (if x = y then e1 else e2) :=
  fun r M' he p ee s m args below meth c H locs ls C hP hS hl => lv_icmp_eq C.1 C.2.1 hd ht (fun q => k1 r M' (by rw [if_pos q] at he; exact he) p ee s m args below meth c H locs ls C hP hS hl) (fun q => k2 r M' (by rw [if_neg q] at he; exact he) p ee s m args below meth c H locs ls C hP hS hl)
theorem mm_if_ne (tgt : Nat) {x : Int32} {off : Int} (hd : decode Y.2.1 pc = .ok (.ifCond .ne off, 3)) (ht : (pc : Int) + off = (tgt : Int)) (k1 : mm_G em E Y d tgt lv st M e1) (k2 : mm_G em E Y d (pc + 3) lv st M e2) : mm_G em E Y d pc lv (.int x :: st) M (if x = 0 then e2 else e1) :=
  fun r M' he p ee s m args below meth c H locs ls C hP hS hl => lv_if_ne C.1 C.2.1 hd ht (fun q => k1 r M' (by rw [if_neg q] at he; exact he) p ee s m args below meth c H locs ls C hP hS hl) (fun q => k2 r M' (by rw [if_pos q] at he; exact he) p ee s m args below meth c H locs ls C hP hS hl)
theorem mm_icmp_ne (tgt : Nat) {x y : Int32} {off : Int} (hd : decode Y.2.1 pc = .ok (.if_icmp .ne off, 3)) (ht : (pc : Int) + off = (tgt : Int)) (k1 : mm_G em E Y d tgt lv st M e1) (k2 : mm_G em E Y d (pc + 3) lv st M e2) : mm_G em E Y d pc lv (.int y :: .int x :: st) M (if x = y then e2 else e1) :=
  fun r M' he p ee s m args below meth c H locs ls C hP hS hl => lv_icmp_ne C.1 C.2.1 hd ht (fun q => k1 r M' (by rw [if_neg q] at he; exact he) p ee s m args below meth c H locs ls C hP hS hl) (fun q => k2 r M' (by rw [if_pos q] at he; exact he) p ee s m args below meth c H locs ls C hP hS hl)
theorem mm_if_lt (tgt : Nat) {x : Int32} {off : Int} (hd : decode Y.2.1 pc = .ok (.ifCond .lt off, 3)) (ht : (pc : Int) + off = (tgt : Int)) (k1 : mm_G em E Y d tgt lv st M e1) (k2 : mm_G em E Y d (pc + 3) lv st M e2) : mm_G em E Y d pc lv (.int x :: st) M (if x < 0 then e1 else e2) :=
  fun r M' he p ee s m args below meth c H locs ls C hP hS hl => lv_if_lt C.1 C.2.1 hd ht (fun q => k1 r M' (by rw [if_pos q] at he; exact he) p ee s m args below meth c H locs ls C hP hS hl) (fun q => k2 r M' (by rw [if_neg q] at he; exact he) p ee s m args below meth c H locs ls C hP hS hl)
theorem mm_icmp_lt (tgt : Nat) {x y : Int32} {off : Int} (hd : decode Y.2.1 pc = .ok (.if_icmp .lt off, 3)) (ht : (pc : Int) + off = (tgt : Int)) (k1 : mm_G em E Y d tgt lv st M e1) (k2 : mm_G em E Y d (pc + 3) lv st M e2) : mm_G em E Y d pc lv (.int y :: .int x :: st) M (if x < y then e1 else e2) :=
  fun r M' he p ee s m args below meth c H locs ls C hP hS hl => lv_icmp_lt C.1 C.2.1 hd ht (fun q => k1 r M' (by rw [if_pos q] at he; exact he) p ee s m args below meth c H locs ls C hP hS hl) (fun q => k2 r M' (by rw [if_neg q] at he; exact he) p ee s m args below meth c H locs ls C hP hS hl)
theorem mm_if_ge (tgt : Nat) {x : Int32} {off : Int} (hd : decode Y.2.1 pc = .ok (.ifCond .ge off, 3)) (ht : (pc : Int) + off = (tgt : Int)) (k1 : mm_G em E Y d tgt lv st M e1) (k2 : mm_G em E Y d (pc + 3) lv st M e2) : mm_G em E Y d pc lv (.int x :: st) M (if 0 ≤ x then e1 else e2) :=
  fun r M' he p ee s m args below meth c H locs ls C hP hS hl => lv_if_ge C.1 C.2.1 hd ht (fun q => k1 r M' (by rw [if_pos q] at he; exact he) p ee s m args below meth c H locs ls C hP hS hl) (fun q => k2 r M' (by rw [if_neg q] at he; exact he) p ee s m args below meth c H locs ls C hP hS hl)
theorem mm_icmp_ge (tgt : Nat) {x y : Int32} {off : Int} (hd : decode Y.2.1 pc = .ok (.if_icmp .ge off, 3)) (ht : (pc : Int) + off = (tgt : Int)) (k1 : mm_G em E Y d tgt lv st M e1) (k2 : mm_G em E Y d (pc + 3) lv st M e2) : mm_G em E Y d pc lv (.int y :: .int x :: st) M (if y ≤ x then e1 else e2) :=
  fun r M' he p ee s m args below meth c H locs ls C hP hS hl => lv_icmp_ge C.1 C.2.1 hd ht (fun q => k1 r M' (by rw [if_pos q] at he; exact he) p ee s m args below meth c H locs ls C hP hS hl) (fun q => k2 r M' (by rw [if_neg q] at he; exact he) p ee s m args below meth c H locs ls C hP hS hl)
theorem mm_if_gt (tgt : Nat) {x : Int32} {off : Int} (hd : decode Y.2.1 pc = .ok (.ifCond .gt off, 3)) (ht : (pc : Int) + off = (tgt : Int)) (k1 : mm_G em E Y d tgt lv st M e1) (k2 : mm_G em E Y d (pc + 3) lv st M e2) : mm_G em E Y d pc lv (.int x :: st) M (if 0 < x then e1 else e2) :=
  fun r M' he p ee s m args below meth c H locs ls C hP hS hl => lv_if_gt C.1 C.2.1 hd ht (fun q => k1 r M' (by rw [if_pos q] at he; exact he) p ee s m args below meth c H locs ls C hP hS hl) (fun q => k2 r M' (by rw [if_neg q] at he; exact he) p ee s m args below meth c H locs ls C hP hS hl)
theorem mm_icmp_gt (tgt : Nat) {x y : Int32} {off : Int} (hd : decode Y.2.1 pc = .ok (.if_icmp .gt off, 3)) (ht : (pc : Int) + off = (tgt : Int)) (k1 : mm_G em E Y d tgt lv st M e1) (k2 : mm_G em E Y d (pc + 3) lv st M e2) : mm_G em E Y d pc lv (.int y :: .int x :: st) M (if y < x then e1 else e2) :=
  fun r M' he p ee s m args below meth c H locs ls C hP hS hl => lv_icmp_gt C.1 C.2.1 hd ht (fun q => k1 r M' (by rw [if_pos q] at he; exact he) p ee s m args below meth c H locs ls C hP hS hl) (fun q => k2 r M' (by rw [if_neg q] at he; exact he) p ee s m args below meth c H locs ls C hP hS hl)
theorem mm_if_le (tgt : Nat) {x : Int32} {off : Int} (hd : decode Y.2.1 pc = .ok (.ifCond .le off, 3)) (ht : (pc : Int) + off = (tgt : Int)) (k1 : mm_G em E Y d tgt lv st M e1) (k2 : mm_G em E Y d (pc + 3) lv st M e2) : mm_G em E Y d pc lv (.int x :: st) M (if x ≤ 0 then e1 else e2) :=
  fun r M' he p ee s m args below meth c H locs ls C hP hS hl => lv_if_le C.1 C.2.1 hd ht (fun q => k1 r M' (by rw [if_pos q] at he; exact he) p ee s m args below meth c H locs ls C hP hS hl) (fun q => k2 r M' (by rw [if_neg q] at he; exact he) p ee s m args below meth c H locs ls C hP hS hl)
theorem mm_icmp_le (tgt : Nat) {x y : Int32} {off : Int} (hd : decode Y.2.1 pc = .ok (.if_icmp .le off, 3)) (ht : (pc : Int) + off = (tgt : Int)) (k1 : mm_G em E Y d tgt lv st M e1) (k2 : mm_G em E Y d (pc + 3) lv st M e2) : mm_G em E Y d pc lv (.int y :: .int x :: st) M (if x ≤ y then e1 else e2) :=
  fun r M' he p ee s m args below meth c H locs ls C hP hS hl => lv_icmp_le C.1 C.2.1 hd ht (fun q => k1 r M' (by rw [if_pos q] at he; exact he) p ee s m args below meth c H locs ls C hP hS hl) (fun q => k2 r M' (by rw [if_neg q] at he; exact he) p ee s m args below meth c H locs ls C hP hS hl)
def mm_b (b : Bool) : Int32 := if b then 1 else 0
theorem mm_if_eq_b (tgt : Nat) {b : Bool} {off : Int} (hd : decode Y.2.1 pc = .ok (.ifCond .eq off, 3)) (ht : (pc : Int) + off = (tgt : Int)) (k1 : mm_G em E Y d tgt lv st M e1) (k2 : mm_G em E Y d (pc + 3) lv st M e2) : mm_G em E Y d pc lv (.int (mm_b b) :: st) M (if b = true then e2 else e1) := by
  have h := mm_if_eq (x := mm_b b) (e1 := e1) (e2 := e2) tgt hd ht k1 k2
  cases b <;> exact h
theorem mm_if_ne_b (tgt : Nat) {b : Bool} {off : Int} (hd : decode Y.2.1 pc = .ok (.ifCond .ne off, 3)) (ht : (pc : Int) + off = (tgt : Int)) (k1 : mm_G em E Y d tgt lv st M e1) (k2 : mm_G em E Y d (pc + 3) lv st M e2) : mm_G em E Y d pc lv (.int (mm_b b) :: st) M (if b = true then e1 else e2) := by
  have h := mm_if_ne (x := mm_b b) (e1 := e1) (e2 := e2) tgt hd ht k1 k2
  cases b <;> exact h
theorem mm_goto (tgt : Nat) {off : Int} (hd : decode Y.2.1 pc = .ok (.goto off, 3)) (ht : (pc : Int) + off = (tgt : Int)) (k : mm_G em E Y d tgt lv st M e) : mm_G em E Y d pc lv st M e :=
  fun r M' he p ee s m args below meth c H locs ls C hP hS hl => lv_goto C.1 C.2.1 hd ht (k r M' he p ee s m args below meth c H locs ls C hP hS hl)
theorem mm_tabC (v : Int32) (tgt : Nat) {x : Int32} {dflt lo hi off : Int} {offs : Array Int} {len : Nat} (hd : decode Y.2.1 pc = .ok (.tableswitch dflt lo hi offs, len)) (h1 : ¬ v.toInt < lo) (h2 : ¬ hi < v.toInt) (ho : offs[(v.toInt - lo).toNat]? = some off) (ht : (pc : Int) + off = (tgt : Int)) (k1 : mm_G em E Y d tgt lv st M e1) (k2 : ¬ x = v → mm_G em E Y d pc lv (.int x :: st) M e2) : mm_G em E Y d pc lv (.int x :: st) M (if x = v then e1 else e2) := by
  intro r M' he
  by_cases q : x = v
  · rw [if_pos q] at he
    subst q
    exact fun p ee s m args below meth c H locs ls C hP hS hl => lv_tableIn C.1 C.2.1 hd h1 h2 ho ht (k1 r M' he p ee s m args below meth c H locs ls C hP hS hl)
  · rw [if_neg q] at he
    exact k2 q r M' he
theorem mm_tabD (tgt : Nat) {x : Int32} {dflt lo hi : Int} {offs : Array Int} {len : Nat} (hd : decode Y.2.1 pc = .ok (.tableswitch dflt lo hi offs, len)) (h : x.toInt < lo ∨ hi < x.toInt) (ht : (pc : Int) + dflt = (tgt : Int)) (k : mm_G em E Y d tgt lv st M e) : mm_G em E Y d pc lv (.int x :: st) M e :=
  fun r M' he p ee s m args below meth c H locs ls C hP hS hl => lv_tableOut C.1 C.2.1 hd h ht (k r M' he p ee s m args below meth c H locs ls C hP hS hl)
theorem mm_lkC (v : Int32) (tgt : Nat) {x : Int32} {dflt off : Int} {ps : Array (Int × Int)} {len : Nat} (hd : decode Y.2.1 pc = .ok (.lookupswitch dflt ps, len)) (hp : (ps.toList.zip (ps.toList.drop 1)).all (fun (a, next) => a.1 < next.1) = true) (ho : Op.lookupswitch.offset ps.toList dflt v.toInt = off) (ht : (pc : Int) + off = (tgt : Int)) (k1 : mm_G em E Y d tgt lv st M e1) (k2 : ¬ x = v → mm_G em E Y d pc lv (.int x :: st) M e2) : mm_G em E Y d pc lv (.int x :: st) M (if x = v then e1 else e2) := by
  intro r M' he
  by_cases q : x = v
  · rw [if_pos q] at he
    subst q
    exact fun p ee s m args below meth c H locs ls C hP hS hl => lv_lookup C.1 C.2.1 hd hp ho ht (k1 r M' he p ee s m args below meth c H locs ls C hP hS hl)
  · rw [if_neg q] at he
    exact k2 q r M' he
theorem mm_lkD (tgt : Nat) {x : Int32} {dflt off : Int} {ps : Array (Int × Int)} {len : Nat} (hd : decode Y.2.1 pc = .ok (.lookupswitch dflt ps, len)) (hp : (ps.toList.zip (ps.toList.drop 1)).all (fun (a, next) => a.1 < next.1) = true) (ho : Op.lookupswitch.offset ps.toList dflt x.toInt = off) (ht : (pc : Int) + off = (tgt : Int)) (k : mm_G em E Y d tgt lv st M e) : mm_G em E Y d pc lv (.int x :: st) M e :=
  fun r M' he p ee s m args below meth c H locs ls C hP hS hl => lv_lookup C.1 C.2.1 hd hp ho ht (k r M' he p ee s m args below meth c H locs ls C hP hS hl)
theorem mm_iret {v : Int32} (hd : decode Y.2.1 pc = .ok (.ireturn, 1)) (hr : Y.2.2.2 = some .int) : mm_G (fun x : Int32 => some (.int x)) E Y d pc lv [.int v] M (some (v, M)) := by
  intro r M' he p ee s m args below meth c H locs ls C hP hS hl
  cases he
  exact W.iret C.1 C.2.1 (C.2.2.1.trans hr) (fun t ht hW => ⟨⟨rfl, by rw [ht]; exact hP⟩, hS.F ht⟩) hS.2.2 hd C.2.2.2.2.2.2.1
theorem mm_lret {v : Int64} (hd : decode Y.2.1 pc = .ok (.lreturn, 1)) (hr : Y.2.2.2 = some .long) : mm_G (fun x : Int64 => some (.long x)) E Y d pc lv [.long v] M (some (v, M)) := by
  intro r M' he p ee s m args below meth c H locs ls C hP hS hl
  cases he
  exact W.lret C.1 C.2.1 (C.2.2.1.trans hr) (fun t ht hW => ⟨⟨rfl, by rw [ht]; exact hP⟩, hS.F ht⟩) hS.2.2 hd C.2.2.2.2.2.2.1
theorem mm_b_nar (b : Bool) : narrow .boolean (.int (mm_b b)) = .int (mm_b b) := by cases b <;> rfl
theorem mm_b_fit (b : Bool) : fits .boolean (.int (mm_b b)) = true := by cases b <;> rfl
theorem mm_zret {b : Bool} (hd : decode Y.2.1 pc = .ok (.ireturn, 1)) (hr : Y.2.2.2 = some .boolean) : mm_G (fun x : Bool => some (.int (mm_b x))) E Y d pc lv [.int (mm_b b)] M (some (b, M)) := by
  intro r M' he p ee s m args below meth c H locs ls C hP hS hl
  cases he
  exact W.zret C.1 C.2.1 (C.2.2.1.trans hr) (mm_b_nar b) (fun t ht hW => ⟨⟨rfl, by rw [ht]; exact hP⟩, hS.F ht⟩) hS.2.2 hd C.2.2.2.2.2.2.1
theorem mm_vret (hd : decode Y.2.1 pc = .ok (.return_, 1)) (hr : Y.2.2.2 = none) : mm_G (fun _ : Unit => none) E Y d pc lv [] M (some ((), M)) := by
  intro r M' he p ee s m args below meth c H locs ls C hP hS hl
  cases he
  exact W.vret C.1 C.2.1 (C.2.2.1.trans hr) (fun t ht hW => ⟨⟨rfl, by rw [ht]; exact hP⟩, hS.F ht⟩) hS.2.2 hd C.2.2.2.2.2.2.1
theorem mm_aret {o : Nat} {ty : FieldType} (hd : decode Y.2.1 pc = .ok (.areturn, 1)) (hr : Y.2.2.2 = some (.array ty)) : mm_G (fun x : Nat => some (.ref x)) E Y d pc lv [.ref o] M (some (o, M)) := by
  intro r M' he p ee s m args below meth c H locs ls C hP hS hl
  cases he
  exact W.aret C.1 C.2.1 (C.2.2.1.trans hr) (Or.inr ⟨_, rfl⟩) (Or.inr ⟨_, rfl⟩) (fun t ht hW => ⟨⟨rfl, by rw [ht]; exact hP⟩, hS.F ht⟩) hS.2.2 hd C.2.2.2.2.2.2.1
end MMR
