/-! RULES OF THE HEAP AND OF CALLS for the pure machine -/
/-- class number ci: its name, fields, how many; its words are among the good ones, its fields' types, their names differ -/
def mm_CF (ci : Nat) (C : String) (T : u_T) (N : Nat) (ty : Nat → FieldType) : Prop :=
  vwCl[ci]? = some (C, T, N) ∧ (∀ w ∈ u_ws C T N, w ∈ mm_tb) ∧ (∀ k, k < N → parseFieldDescriptor (T k).2.2.1 = some (ty k)) ∧ (∀ a, a < N → ∀ b, b < N → a ≠ b → (T a).2.1 ≠ (T b).2.1)
/-- the entry idx of class own names field k of class ci -/
def mm_FL (own : String) (idx ci k : Nat) : Prop :=
  ∃ (C : String) (T : u_T) (N : Nat) (ty : Nat → FieldType), mm_CF ci C T N ty ∧ k < N ∧ (T k).1 = C ∧ (Cond.fieldLink own idx C (T k).2.1 (T k).2.2.1 ∈ mm_tb ∨ ∃ host, Cond.fieldLinkNest own idx C (T k).2.1 (T k).2.2.1 host ∈ mm_nw)
/-- and it is no final one, of type t -/
def mm_FP (own : String) (idx ci k : Nat) (t : FieldType) : Prop :=
  ∃ (C : String) (T : u_T) (N : Nat) (ty : Nat → FieldType), mm_CF ci C T N ty ∧ k < N ∧ (T k).1 = C ∧ (Cond.fieldLink own idx C (T k).2.1 (T k).2.2.1 ∈ mm_tb ∨ ∃ host, Cond.fieldLinkNest own idx C (T k).2.1 (T k).2.2.1 host ∈ mm_nw) ∧ (T k).2.2.2 = false ∧ ty k = t
section MMH
variable {α : Type} {em : α → Option Value} {E : mm_E} {Y : mm_Y} {d pc : Nat} {lv : List (Nat × Value)} {st : List Value} {M : mm_M} {e e1 e2 : Option (α × mm_M)}
theorem mm_hts {p : Program} {s : State} {m : MethodId} {args : Array Value} {meth : Method} {c : Code} (C : mm_C E Y p s m args meth c) : ∀ w ∈ mm_tb, w.before args s = true := fun w h => C.2.2.2.2.2.1 w (List.mem_cons_of_mem _ h)
theorem mm_getv {idx ci o j : Nat} {ks : List Nat} {cd : Nat} {v : Value} (hd : decode Y.2.1 pc = .ok (.getfield idx, 3)) (hf : mm_FL Y.1.cls idx ci j) (ho : mm_lay[o]? = some (.inl (ci, ks))) (hk : ks[j]? = some cd) (hv : ∀ E : mm_E, mm_fv E M o j cd = mm_cv E v) (k : mm_G em E Y d (pc + 3) lv (v :: st) M e) : mm_G em E Y d pc lv (.ref o :: st) M e := by
  intro r M' he p ee s m args below meth c H locs ls C hP hS hl
  obtain ⟨cC, T, N, ty, ⟨h1, h2, h3, h4⟩, h5, h6, h7⟩ := hf
  have hw : (mm_ws E M)[o]? = some (E.2.2.1 o, .inr (ci, ks.mapIdx (fun k c => mm_fv E M o k c))) := mm_ws_get ho
  have hfv : (ks.mapIdx (fun k c => mm_fv E M o k c))[j]? = some (mm_cv E v) := by
    rw [List.getElem?_mapIdx, hk, ← hv E]; rfl
  rcases h7 with h7 | ⟨host, h7⟩
  · exact va_get C.1 C.2.1 (mm_hts C) h2 C.2.2.2.2.1 C.2.2.2.2.2.2.2.1.1 hP o hw h1 j h5 (ref := cC) (mm_hts C _ h7) (fun x hx => by rw [h6] at hx; exact hx) hfv hd (k r M' he p ee s m args below meth c H locs ls C hP hS hl)
  · exact va_getN C.1 C.2.1 (mm_hts C) h2 C.2.2.2.2.1 C.2.2.2.2.2.2.2.1.1 hP o hw h1 j h5 (ref := cC) (va_Nw.use rfl (C.2.2.2.2.2.2.2.1.2.1 _ h7)) (fun x hx => by rw [h6] at hx; exact hx) hfv hd (k r M' he p ee s m args below meth c H locs ls C hP hS hl)
theorem mm_getI {idx ci o j : Nat} {ks : List Nat} (hd : decode Y.2.1 pc = .ok (.getfield idx, 3)) (hf : mm_FL Y.1.cls idx ci j) (ho : mm_lay[o]? = some (.inl (ci, ks))) (hk : ks[j]? = some 0) (k : mm_G em E Y d (pc + 3) lv (.int (M.1 o j) :: st) M e) : mm_G em E Y d pc lv (.ref o :: st) M e := mm_getv hd hf ho hk (fun _ => rfl) k
theorem mm_getJ {idx ci o j : Nat} {ks : List Nat} (hd : decode Y.2.1 pc = .ok (.getfield idx, 3)) (hf : mm_FL Y.1.cls idx ci j) (ho : mm_lay[o]? = some (.inl (ci, ks))) (hk : ks[j]? = some 1) (k : mm_G em E Y d (pc + 3) lv (.long (M.2.2 o j) :: st) M e) : mm_G em E Y d pc lv (.ref o :: st) M e := mm_getv hd hf ho hk (fun _ => rfl) k
theorem mm_getR (t : Nat) {idx ci o j : Nat} {ks : List Nat} (hd : decode Y.2.1 pc = .ok (.getfield idx, 3)) (hf : mm_FL Y.1.cls idx ci j) (ho : mm_lay[o]? = some (.inl (ci, ks))) (hk : ks[j]? = some (t + 2)) (k : mm_G em E Y d (pc + 3) lv (.ref t :: st) M e) : mm_G em E Y d pc lv (.ref o :: st) M e := mm_getv hd hf ho hk (fun E => by simp [mm_fv, mm_cv]) k
theorem mm_putv {idx ci o j : Nat} {ks : List Nat} {v : Value} {t : FieldType} {M2 : mm_M} (hd : decode Y.2.1 pc = .ok (.putfield idx, 3)) (hf : mm_FP Y.1.cls idx ci j t) (ho : mm_lay[o]? = some (.inl (ci, ks))) (hk : j < ks.length) (hv : ∀ E : mm_E, mm_cv E v = v) (hn : narrow t v = v) (hfit : fits t v = true)
    (hw : ∀ E : mm_E, (mm_ws E M).set o (E.2.2.1 o, .inr (ci, (ks.mapIdx (fun k c => mm_fv E M o k c)).set j v)) = mm_ws E M2) (k : mm_G em E Y d (pc + 3) lv st M2 e) : mm_G em E Y d pc lv (v :: .ref o :: st) M e := by
  intro r M' he p ee s m args below meth c H locs ls C hP hS hl
  obtain ⟨cC, T, N, ty, ⟨h1, h2, h3, h4⟩, h5, h6, h7, h8, h9⟩ := hf
  have hw0 : (mm_ws E M)[o]? = some (E.2.2.1 o, .inr (ci, ks.mapIdx (fun k c => mm_fv E M o k c))) := mm_ws_get ho
  have hD := mm_D (M := M) C.2.2.2.2.2.2.2.1.2.2
  have hd2 : parseFieldDescriptor (T j).2.2.1 = some t := by rw [h3 j h5, h9]
  have kk : ∀ (H1 : Heap) (locs1 : List Loc), va_P E.2.1 vwCl ((mm_ws E M).set o (E.2.2.1 o, .inr (ci, (ks.mapIdx (fun k c => mm_fv E M o k c)).set j v))) H1 → va_D (mm_A E) ((mm_ws E M).set o (E.2.2.1 o, .inr (ci, (ks.mapIdx (fun k c => mm_fv E M o k c)).set j v))) → va_S (mm_A E) s.heap H1 locs1 → W p E.1 ee (mm_rm d) s m args below meth c H1 locs1 0 0 (MQ below (mm_Qc E (em r) M') args s 0 0 (mm_A E)) (F0 m (pc + 3) ls (st.map (mm_cv E))) := by
    intro H1 locs1 hP1 _ hS1
    rw [hw E] at hP1
    exact k r M' he p ee s m args below meth c H1 locs1 ls C hP1 hS1 hl
  show W p E.1 ee (mm_rm d) s m args below meth c H locs 0 0 _ (F0 m pc ls (mm_cv E v :: .ref (E.2.2.1 o) :: st.map (mm_cv E)))
  rw [hv E]
  rcases h7 with h7 | ⟨host, h7⟩
  · exact va_put C.1 C.2.1 (mm_hts C) h2 ty h3 h4 C.2.2.2.2.1 C.2.2.2.2.2.2.2.1.1 hP hD hS o hw0 h1 j h5 (ref := cC) (mm_hts C _ h7) (fun x hx => by rw [h6] at hx; exact hx) h8 hd2 hn hfit (by simpa using hk) hd kk
  · exact va_putN C.1 C.2.1 (mm_hts C) h2 ty h3 h4 C.2.2.2.2.1 C.2.2.2.2.2.2.2.1.1 hP hD hS o hw0 h1 j h5 (ref := cC) (va_Nw.use rfl (C.2.2.2.2.2.2.2.1.2.1 _ h7)) (fun x hx => by rw [h6] at hx; exact hx) h8 hd2 hn hfit (by simpa using hk) hd kk
theorem mm_putI {idx ci o j : Nat} {ks : List Nat} {x : Int32} (hd : decode Y.2.1 pc = .ok (.putfield idx, 3)) (hf : mm_FP Y.1.cls idx ci j .int) (ho : mm_lay[o]? = some (.inl (ci, ks))) (hk : ks[j]? = some 0) (k : mm_G em E Y d (pc + 3) lv st (mm_setI M o j x) e) : mm_G em E Y d pc lv (.int x :: .ref o :: st) M e :=
  mm_putv hd hf ho (List.getElem?_eq_some_iff.mp hk).1 (fun _ => rfl) rfl rfl (fun E => mm_ws_setI ho hk) k
theorem mm_putZ {idx ci o j : Nat} {ks : List Nat} {b : Bool} (hd : decode Y.2.1 pc = .ok (.putfield idx, 3)) (hf : mm_FP Y.1.cls idx ci j .boolean) (ho : mm_lay[o]? = some (.inl (ci, ks))) (hk : ks[j]? = some 0) (k : mm_G em E Y d (pc + 3) lv st (mm_setI M o j (mm_b b)) e) : mm_G em E Y d pc lv (.int (mm_b b) :: .ref o :: st) M e :=
  mm_putv hd hf ho (List.getElem?_eq_some_iff.mp hk).1 (fun _ => rfl) (mm_b_nar b) (mm_b_fit b) (fun E => mm_ws_setI ho hk) k
theorem mm_putJ {idx ci o j : Nat} {ks : List Nat} {x : Int64} (hd : decode Y.2.1 pc = .ok (.putfield idx, 3)) (hf : mm_FP Y.1.cls idx ci j .long) (ho : mm_lay[o]? = some (.inl (ci, ks))) (hk : ks[j]? = some 1) (k : mm_G em E Y d (pc + 3) lv st (mm_setJ M o j x) e) : mm_G em E Y d pc lv (.long x :: .ref o :: st) M e :=
  mm_putv hd hf ho (List.getElem?_eq_some_iff.mp hk).1 (fun _ => rfl) rfl rfl (fun E => mm_ws_setJ ho hk) k
theorem mm_iaload {o : Nat} {i : Int32} (hd : decode Y.2.1 pc = .ok (.iaload, 1)) (k : mm_G em E Y d (pc + 1) lv (.int (M.2.1 o i.toNatClampNeg) :: st) M e) : mm_G em E Y d pc lv (.int i :: .ref o :: st) M (if mm_in i (mm_al o) = true then e else none) := by
  intro r M' he p ee s m args below meth c H locs ls C hP hS hl
  by_cases hi : mm_in i (mm_al o) = true
  · rw [if_pos hi] at he
    obtain ⟨b, hb⟩ := mm_al_lay hi
    exact va_iald C.1 C.2.1 C.2.2.2.2.2.2.2.1.1 hP o 0 (cA := E.2.2.2 0) (n := mm_al o) (f := M.2.1 o) (mm_ws_get hb) rfl (mm_in_vp hi) hd (k r M' he p ee s m args below meth c H locs ls C hP hS hl)
  · rw [if_neg hi] at he; cases he
theorem mm_iastore {o : Nat} {i x : Int32} (hd : decode Y.2.1 pc = .ok (.iastore, 1)) (k : mm_G em E Y d (pc + 1) lv st (mm_setA M o i.toNatClampNeg x) e) : mm_G em E Y d pc lv (.int x :: .int i :: .ref o :: st) M (if mm_in i (mm_al o) = true then e else none) := by
  intro r M' he p ee s m args below meth c H locs ls C hP hS hl
  by_cases hi : mm_in i (mm_al o) = true
  · rw [if_pos hi] at he
    obtain ⟨b, hb⟩ := mm_al_lay hi
    exact va_iast C.1 C.2.1 C.2.2.2.2.2.2.2.1.1 hP (mm_D C.2.2.2.2.2.2.2.1.2.2) hS o 0 (cA := E.2.2.2 0) (n := mm_al o) (f := M.2.1 o) (mm_ws_get hb) rfl (mm_in_vp hi) hd (fun H1 locs1 hP1 _ hS1 => k r M' he p ee s m args below meth c H1 locs1 ls C (by rw [mm_ws_setA hb (by decide)] at hP1; exact hP1) hS1 hl)
  · rw [if_neg hi] at he; cases he
theorem mm_baload {o : Nat} {i : Int32} (hd : decode Y.2.1 pc = .ok (.baload, 1)) (k : mm_G em E Y d (pc + 1) lv (.int (M.2.1 o i.toNatClampNeg) :: st) M e) : mm_G em E Y d pc lv (.int i :: .ref o :: st) M (if mm_in i (mm_bl o) = true then e else none) := by
  intro r M' he p ee s m args below meth c H locs ls C hP hS hl
  by_cases hi : mm_in i (mm_bl o) = true
  · rw [if_pos hi] at he
    obtain ⟨b, hb⟩ := mm_bl_lay hi
    exact va_bald C.1 C.2.1 C.2.2.2.2.2.2.2.1.1 hP o 1 (cA := E.2.2.2 1) (n := mm_bl o) (f := M.2.1 o) (mm_ws_get hb) rfl (mm_in_vp hi) hd (k r M' he p ee s m args below meth c H locs ls C hP hS hl)
  · rw [if_neg hi] at he; cases he
theorem mm_bastore {o : Nat} {i x : Int32} (hd : decode Y.2.1 pc = .ok (.bastore, 1)) (k : mm_G em E Y d (pc + 1) lv st (mm_setA M o i.toNatClampNeg x.toInt8.toInt32) e) : mm_G em E Y d pc lv (.int x :: .int i :: .ref o :: st) M (if mm_in i (mm_bl o) = true then e else none) := by
  intro r M' he p ee s m args below meth c H locs ls C hP hS hl
  by_cases hi : mm_in i (mm_bl o) = true
  · rw [if_pos hi] at he
    obtain ⟨b, hb⟩ := mm_bl_lay hi
    exact va_bast C.1 C.2.1 C.2.2.2.2.2.2.2.1.1 hP (mm_D C.2.2.2.2.2.2.2.1.2.2) hS o 1 (cA := E.2.2.2 1) (n := mm_bl o) (f := M.2.1 o) (mm_ws_get hb) rfl (mm_in_vp hi) hd (fun H1 locs1 hP1 _ hS1 => k r M' he p ee s m args below meth c H1 locs1 ls C (by rw [vp_nar_byte, mm_ws_setA hb (by decide)] at hP1; exact hP1) hS1 hl)
  · rw [if_neg hi] at he; cases he
theorem mm_aaload {o n b : Nat} {i : Int32} (hd : decode Y.2.1 pc = .ok (.aaload, 1)) (ho : mm_lay[o]? = some (.inr (2, n, b))) (k : mm_G em E Y d (pc + 1) lv (.ref (b + i.toNatClampNeg) :: st) M e) : mm_G em E Y d pc lv (.int i :: .ref o :: st) M (if mm_in i n = true then e else none) := by
  intro r M' he p ee s m args below meth c H locs ls C hP hS hl
  by_cases hi : mm_in i n = true
  · rw [if_pos hi] at he
    have hin := mm_in_vp hi
    have hlt : i.toNatClampNeg < n := Nat.not_le.mp fun q => hin (Or.inr q)
    have ha : (mm_ws E M)[o]? = some (E.2.2.1 o, .inl (E.2.2.2 2, n, .inr (.inr (.inr (.inr (fun j => some (E.2.2.1 (b + j)))))))) := mm_ws_get ho
    exact W.aald (v := .ref (E.2.2.1 (b + i.toNatClampNeg))) (ty := .array .int) C.1 C.2.1 (hP o _ ha) ((C.2.2.2.2.2.2.2.1.1.2 2 _ rfl).1 n (fun j => va_rf (some (E.2.2.1 (b + j))))) rfl (fun q => by cases q) (by show ¬ (i < 0 ∨ (arrV _ _ _).slots.size ≤ _); rw [arrV_size]; exact hin) (by show (arrV _ _ _).slots[_]? = _; rw [arrV_read _ _ hlt]; rfl) rfl rfl hd (k r M' he p ee s m args below meth c H locs ls C hP hS hl)
  · rw [if_neg hi] at he; cases he
theorem mm_alen {o n b : Nat} {v : Int32} (hd : decode Y.2.1 pc = .ok (.arraylength, 1)) (ho : mm_lay[o]? = some (.inr (0, n, b))) (hv : Int32.ofNat n = v) (k : mm_G em E Y d (pc + 1) lv (.int v :: st) M e) : mm_G em E Y d pc lv (.ref o :: st) M e := by
  intro r M' he p ee s m args below meth c H locs ls C hP hS hl
  exact va_alen C.1 C.2.1 C.2.2.2.2.2.2.2.1.1 hP o 0 (cA := E.2.2.2 0) (x := (n, .inl (M.2.1 o))) (mm_ws_get ho) (ty := .int) rfl hv hd (k r M' he p ee s m args below meth c H locs ls C hP hS hl)
theorem mm_ldc {idx : Nat} {v : Int32} (hd : decode Y.2.1 pc = .ok (.ldc idx, 2)) (hc : Cond.constant Y.1.cls idx v ∈ mm_tb) (k : mm_G em E Y d (pc + 2) lv (.int v :: st) M e) : mm_G em E Y d pc lv st M e :=
  fun r M' he p ee s m args below meth c H locs ls C hP hS hl => lv_ldc C.1 C.2.1 C.2.2.2.2.1 (mm_hts C _ hc) hd (k r M' he p ee s m args below meth c H locs ls C hP hS hl)
theorem mm_ldcw {idx : Nat} {v : Int32} (hd : decode Y.2.1 pc = .ok (.ldc_w idx, 3)) (hc : Cond.constant Y.1.cls idx v ∈ mm_tb) (k : mm_G em E Y d (pc + 3) lv (.int v :: st) M e) : mm_G em E Y d pc lv st M e :=
  fun r M' he p ee s m args below meth c H locs ls C hP hS hl => lv_ldcw C.1 C.2.1 C.2.2.2.2.1 (mm_hts C _ hc) hd (k r M' he p ee s m args below meth c H locs ls C hP hS hl)
theorem mm_ldc2 {idx : Nat} {v : Int64} (hd : decode Y.2.1 pc = .ok (.ldc2_w idx, 3)) (hc : Cond.constantLong Y.1.cls idx v ∈ mm_tb) (k : mm_G em E Y d (pc + 3) lv (.long v :: st) M e) : mm_G em E Y d pc lv st M e :=
  fun r M' he p ee s m args below meth c H locs ls C hP hS hl => lv_ldc2 C.1 C.2.1 C.2.2.2.2.1 (mm_hts C _ hc) hd (k r M' he p ee s m args below meth c H locs ls C hP hS hl)
theorem mm_ldcS {idx j : Nat} {tx : String} (hd : decode Y.2.1 pc = .ok (.ldc idx, 2)) (hc : (Y.1.cls, idx, tx, j) ∈ mm_str) (k : mm_G em E Y d (pc + 2) lv (.ref (mm_lay.length + j) :: st) M e) : mm_G em E Y d pc lv st M e := by
  intro r M' he p ee s m args below meth c H locs ls C hP hS hl
  obtain ⟨h1, h2, h3⟩ := C.2.2.2.2.2.2.2.2
  exact va_ldcS C.1 C.2.1 C.2.2.2.2.1 (h3 _ hc) hd (k r M' he p ee s m args below meth c H locs ls C hP hS hl)
/-- what a call of z needs of the tables -/
def mm_Z (z : mm_Y) (n : Nat) : Prop := Cond.code z.1 z.2.1 z.2.2.1 z.2.2.2 ∈ mm_tb ∧ Cond.initialized z.1.cls ∈ mm_tb ∧ z.1.cls ≠ "java/lang/invoke/MethodHandle" ∧ z.1.cls ≠ "java/lang/invoke/VarHandle" ∧ (parseMethodDescriptor z.1.desc).map (fun d => d.parameters.length) = some n
theorem mm_good {z : mm_Y} (h : Cond.code z.1 z.2.1 z.2.2.1 z.2.2.2 ∈ mm_tb) : GoodIn (mm_wy Y) (mm_wy z) := by
  intro w hw
  have h1 : w ∈ mm_tb := by
    rcases List.mem_cons.mp hw with rfl | h2
    · exact h
    · exact h2
  exact ⟨List.mem_cons_of_mem _ h1, good_of_word (List.mem_filter.mp h1).2⟩
theorem mm_after {β : Type} {emz : β → Option Value} {b : β} {M1 M' : mm_M} {f : β → mm_M → Option (α × mm_M)} {r : α} (kk : ∀ (b : β) (M1 : mm_M), mm_G em E Y d (pc + 3) lv ((emz b).toList ++ st) M1 (f b M1)) (he : f b M1 = some (r, M'))
    {p : Program} {ee : Env} {s : State} {m : MethodId} {args a : Array Value} {below : List Frame} {meth : Method} {c : Code} {H : Heap} {locs : List Loc} {ls : Array Slot} {st0 : List Value} (C : mm_C E Y p s m args meth c) (hS : va_S (mm_A E) s.heap H locs) (hl : lv_has ls Y.2.2.1 (mm_cl E lv))
    (run : va_Run p E.1 ee (mm_rm d) s m args below meth c H locs 0 0 0 0 (F0 m pc ls st0) (st.map (mm_cv E)) (mm_Qc E (emz b) M1 a) (mm_A E)) :
    W p E.1 ee (mm_rm d) s m args below meth c H locs 0 0 (MQ below (mm_Qc E (em r) M') args s 0 0 (mm_A E)) (F0 m pc ls st0) := by
  intro T hT X
  obtain ⟨v, st₀, t, T', L, h0, X', hL, e1, e2, ⟨⟨hv, hP1⟩, hz, hk⟩, stp⟩ := run T hT X
  cases hv
  rw [h0] at hz hk
  have hS1 : va_S (mm_A E) s.heap T'.heap (locs ++ L) := ⟨Nat.le_trans hS.1 (by rw [e1]; exact hz), fun q h1 h2 => by rw [e1, hk q (Nat.lt_of_lt_of_le h1 hS.1) h2]; exact hS.2.1 q h1 h2, fun q hq => by
      rcases List.mem_append.mp hq with h | h
      · exact hS.2.2 q h
      · exact hL q h⟩
  obtain ⟨t2, a1, b1⟩ := kk b M1 r M' he p ee s m args below meth c T'.heap (locs ++ L) ls C (by rw [e1]; exact hP1) hS1 hl T' rfl X'
  refine ⟨t2, stp t2 ?_, b1⟩
  have ev : ((emz b).map (mm_cv E)).toList ++ st.map (mm_cv E) = (((emz b).toList ++ st).map (mm_cv E)) := by
    cases emz b <;> simp
  rw [← ev] at a1
  exact a1
theorem mm_pre {as : List Value} {p : Program} {s : State} {m : MethodId} {args : Array Value} {meth : Method} {c : Code} {H : Heap} {locs : List Loc} (C : mm_C E Y p s m args meth c) (hP : va_P E.2.1 vwCl (mm_ws E M) H) (hS : va_S (mm_A E) s.heap H locs) : PreS s H (mm_Pc E as M) (as.map (mm_cv E)) :=
  ⟨fun a U g mk q => by obtain ⟨q0, q1, q2, q3⟩ := q; exact ⟨q0, q1, mm_T.same (s := U) (U := U.calling g mk a) rfl q2, mm_S.same (s := U) (U := U.calling g mk a) rfl rfl q3⟩, fun U hU hW => ⟨rfl, by rw [hU]; exact hP, mm_T.warm hW C.2.2.2.2.2.2.2.1, mm_S.go hW (by rw [hU]; exact hS) C.2.2.2.2.2.2.2.2⟩⟩
theorem mm_callS {β : Type} {emz : β → Option Value} {z : mm_Y} {dz n idx : Nat} {as : List Value} {ez : Option (β × mm_M)} {f : β → mm_M → Option (α × mm_M)} (hz : ∀ (b : β) (M1 : mm_M), ez = some (b, M1) → mm_P E z dz as M (emz b) M1)
    (hd : decode Y.2.1 pc = .ok (.invokestatic idx, 3)) (hZ : mm_Z z n) (hl0 : Cond.methodLink Y.1.cls idx z.1 ∈ mm_tb) (hs0 : Cond.static z.1 ∈ mm_tb) (hn : as.length = n) (hR : dz + 1 ≤ d ∧ 8 + (z.2.2.1 + 11) + 60 * dz ≤ 60 * d) (hst : (st.map fun v => v.category).sum ≤ 8)
    (kk : ∀ (b : β) (M1 : mm_M), mm_G em E Y d (pc + 3) lv ((emz b).toList ++ st) M1 (f b M1)) : mm_G em E Y d pc lv (as.reverse ++ st) M (ez.bind (fun q => f q.1 q.2)) := by
  intro r M' he p ee s m args below meth c H locs ls C hP hS hl
  obtain ⟨⟨b, M1⟩, hb, he⟩ := Option.bind_eq_some_iff.mp he
  have hts := mm_hts C
  have cw : CallB (mm_rm d) s args Y.1.cls idx z.1 z.2.1 z.2.2.1 z.2.2.2 (mm_wy z) (mm_rm dz) 0 0 n ∧ (Cond.static z.1).before args s = true :=
    ⟨callB_of n C.2.2.2.2.2.1 (mm_good hZ.1) rfl rfl rfl (hts _ hZ.2.1) (hts _ hl0) hZ.2.2 hR, hts _ hs0⟩
  refine mm_after kk he C hS hl (a := (as.map (mm_cv E)).toArray) ?_
  refine va_runS (As := as.map (mm_cv E)) (rest := st.map (mm_cv E)) (cc := Y.2.1) (nL := Y.2.2.1) (Ts := mm_wy Y) ⟨C.1, C.2.1, C.2.2.2.1, C.2.2.2.2.1, C.2.2.2.2.2.1⟩ (hz b M1 hb) cw (mm_pre C hP hS) rfl (by simpa using hn) hl.1 (by simp) ?_ hd ⟨Nat.le_refl _, Nat.le_refl _⟩
  refine lv_room ?_
  rw [List.map_map]
  simpa [Function.comp_def, mm_cat] using hst
theorem mm_callSN {β : Type} {emz : β → Option Value} {z : mm_Y} {dz n idx : Nat} {host : String} {as : List Value} {ez : Option (β × mm_M)} {f : β → mm_M → Option (α × mm_M)} (hz : ∀ (b : β) (M1 : mm_M), ez = some (b, M1) → mm_P E z dz as M (emz b) M1)
    (hd : decode Y.2.1 pc = .ok (.invokestatic idx, 3)) (hZ : mm_Z z n) (hl0 : Cond.methodLinkNest Y.1.cls idx z.1 host ∈ mm_nw) (hs0 : Cond.static z.1 ∈ mm_tb) (hn : as.length = n) (hR : dz + 1 ≤ d ∧ 8 + (z.2.2.1 + 11) + 60 * dz ≤ 60 * d) (hst : (st.map fun v => v.category).sum ≤ 8)
    (kk : ∀ (b : β) (M1 : mm_M), mm_G em E Y d (pc + 3) lv ((emz b).toList ++ st) M1 (f b M1)) : mm_G em E Y d pc lv (as.reverse ++ st) M (ez.bind (fun q => f q.1 q.2)) := by
  intro r M' he p ee s m args below meth c H locs ls C hP hS hl
  obtain ⟨⟨b, M1⟩, hb, he⟩ := Option.bind_eq_some_iff.mp he
  have hts := mm_hts C
  have cw : va_CN (mm_rm d) s args Y.1.cls idx z.1 host z.2.1 z.2.2.1 z.2.2.2 (mm_wy z) (mm_rm dz) 0 0 n :=
    va_cnB n C.2.2.2.2.2.1 (mm_good hZ.1) rfl rfl rfl (C.2.2.2.2.2.2.2.1.2.1 _ hl0) (hts _ hZ.2.1) hZ.2.2 hR
  refine mm_after kk he C hS hl (a := (as.map (mm_cv E)).toArray) ?_
  refine va_runSN (As := as.map (mm_cv E)) (rest := st.map (mm_cv E)) (cc := Y.2.1) (nL := Y.2.2.1) (Ts := mm_wy Y) ⟨C.1, C.2.1, C.2.2.2.1, C.2.2.2.2.1, C.2.2.2.2.2.1⟩ (hz b M1 hb) ⟨cw, hts _ hs0, trivial⟩ (mm_pre C hP hS) rfl (by simpa using hn) hl.1 (by simp) ?_ hd ⟨Nat.le_refl _, Nat.le_refl _⟩
  refine lv_room ?_
  rw [List.map_map]
  simpa [Function.comp_def, mm_cat] using hst
theorem mm_callV {β : Type} {emz : β → Option Value} {z : mm_Y} {dz n idx o ci : Nat} {ks : List Nat} {Q : vw_C} {as : List Value} {ez : Option (β × mm_M)} {f : β → mm_M → Option (α × mm_M)} (hz : ∀ (b : β) (M1 : mm_M), ez = some (b, M1) → mm_P E z dz (.ref o :: as) M (emz b) M1)
    (hd : decode Y.2.1 pc = .ok (.invokevirtual idx, 3)) (hZ : mm_Z z n) (hl0 : Cond.methodLink Y.1.cls idx z.1 ∈ mm_tb) (hi0 : Cond.instanceMethod z.1 ∈ mm_tb) (hs0 : Cond.selects z.1.cls z.1 z.1 ∈ mm_tb) (ho : mm_lay[o]? = some (.inl (ci, ks))) (hc : vwCl[ci]? = some Q) (hq : Q.1 = z.1.cls) (hn : as.length = n) (hR : dz + 1 ≤ d ∧ 8 + (z.2.2.1 + 11) + 60 * dz ≤ 60 * d) (hst : (st.map fun v => v.category).sum ≤ 8)
    (kk : ∀ (b : β) (M1 : mm_M), mm_G em E Y d (pc + 3) lv ((emz b).toList ++ st) M1 (f b M1)) : mm_G em E Y d pc lv (as.reverse ++ .ref o :: st) M (ez.bind (fun q => f q.1 q.2)) := by
  intro r M' he p ee s m args below meth c H locs ls C hP hS hl
  obtain ⟨⟨b, M1⟩, hb, he⟩ := Option.bind_eq_some_iff.mp he
  have hts := mm_hts C
  have cw : CallW (mm_rm d) s args Y.1.cls z.1.cls idx z.1 z.2.1 z.2.2.1 z.2.2.2 (mm_wy z) (mm_rm dz) 0 0 n :=
    ⟨callB_of n C.2.2.2.2.2.1 (mm_good hZ.1) rfl rfl rfl (hts _ hZ.2.1) (hts _ hl0) hZ.2.2 hR, hts _ hi0, hts _ hs0⟩
  have hrec := va_recv C.2.2.2.2.2.2.2.1.1 hP hc (mm_ws_get (E := E) (M := M) ho)
  rw [hq] at hrec
  have hpre := mm_pre (as := .ref o :: as) C hP hS
  refine mm_after kk he C hS hl (a := ((Value.ref o :: as).map (mm_cv E)).toArray) ?_
  refine va_runV (C := z.1.cls) (As := as.map (mm_cv E)) (rest := st.map (mm_cv E)) (cc := Y.2.1) (nL := Y.2.2.1) (Ts := mm_wy Y) ⟨C.1, C.2.1, C.2.2.2.1, C.2.2.2.2.1, C.2.2.2.2.2.1⟩ (hz b M1 hb) cw ⟨hpre.1, hrec, hpre.2⟩ rfl (by simpa using hn) hl.1 (by simp [mm_cv]) ?_ hd ⟨Nat.le_refl _, Nat.le_refl _⟩
  refine lv_room ?_
  rw [List.map_map]
  simpa [Function.comp_def, mm_cat] using hst
def mm_cpok (o0 o1 : Nat) (sp dp n : Int32) : Bool := decide (¬ sp < 0 ∧ ¬ dp < 0 ∧ ¬ n < 0 ∧ sp.toNatClampNeg + n.toNatClampNeg ≤ mm_al o0 ∧ dp.toNatClampNeg + n.toNatClampNeg ≤ mm_al o1 ∧ 0 < mm_al o0 ∧ 0 < mm_al o1)
def mm_cp (M : mm_M) (o0 o1 : Nat) (sp dp n : Int32) : mm_M := mm_setR M o1 (va_cpy (M.2.1 o0) (M.2.1 o1) sp.toNatClampNeg dp.toNatClampNeg n.toNatClampNeg)
theorem mm_al_pos {o : Nat} (h : 0 < mm_al o) : ∃ b, mm_lay[o]? = some (.inr (0, mm_al o, b)) := by
  refine mm_al_lay (i := 0) ?_
  simp [mm_in]
  omega
theorem mm_copy {idx o0 o1 : Nat} {sp dp n : Int32} (hd : decode Y.2.1 pc = .ok (.invokestatic idx, 3)) (hl0 : Cond.methodLink Y.1.cls idx arraycopyName ∈ mm_tb) (hw : Cond.native arraycopyName ∈ mm_tb ∧ Cond.static arraycopyName ∈ mm_tb ∧ Cond.initialized "java/lang/System" ∈ mm_tb) (hR : 1 ≤ d ∧ (st.map fun v => v.category).sum + (nativeFrameWords "java/lang/System" "arraycopy" 5 + 11) ≤ 60 * d)
    (k : mm_G em E Y d (pc + 3) lv st (mm_cp M o0 o1 sp dp n) e) : mm_G em E Y d pc lv (.int n :: .int dp :: .ref o1 :: .int sp :: .ref o0 :: st) M (if mm_cpok o0 o1 sp dp n = true then e else none) := by
  intro r M' he p ee s m args below meth c H locs ls C hP hS hl
  by_cases hi : mm_cpok o0 o1 sp dp n = true
  · rw [if_pos hi] at he
    have hts := mm_hts C
    obtain ⟨h1, h2, h3, h4, h5, h6, h7⟩ := of_decide_eq_true hi
    obtain ⟨b0, hb0⟩ := mm_al_pos h6
    obtain ⟨b1, hb1⟩ := mm_al_pos h7
    refine va_copyi C.1 C.2.1 (C.2.2.2.1.trans hl.1.symm) C.2.2.2.2.1 (hts _ hl0) (hts _ hw.1) (hts _ hw.2.1) (hts _ hw.2.2) C.2.2.2.2.2.2.2.1.1 hP (mm_D C.2.2.2.2.2.2.2.1.2.2) hS o0 o1 0 0 (c0 := E.2.2.2 0) (c1 := E.2.2.2 0) (n0 := mm_al o0) (n1 := mm_al o1) (f := M.2.1 o0) (g := M.2.1 o1) (ty := .int) (mm_ws_get hb0) (mm_ws_get hb1) rfl rfl rfl h1 h2 h3 h4 h5 (fun _ _ => rfl) hR.1 ?_ hd (fun H1 locs1 hP1 _ hS1 => k r M' he p ee s m args below meth c H1 locs1 ls C (by rw [mm_ws_setR hb1 (by decide)] at hP1; exact hP1) hS1 hl)
    rw [List.map_map]
    simpa [Function.comp_def, mm_cat, mm_rm] using hR.2
  · rw [if_neg hi] at he; cases he
end MMH
