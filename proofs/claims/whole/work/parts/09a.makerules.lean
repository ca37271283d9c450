/-! THE MACHINE THAT MAKES: constructors, over a world that grows; all is told number by number -/
abbrev nn_C : Type := (Nat × List Value) ⊕ (Nat × Nat × ((Nat → Int32) ⊕ Nat))
def nn_cc (E : mm_E) : nn_C → va_E
  | .inl q => .inr (q.1, q.2.map (mm_cv E))
  | .inr (t, n, .inl f) => .inl (E.2.2.2 t, n, .inl f)
  | .inr (t, n, .inr b) => .inl (E.2.2.2 t, n, .inr (.inr (.inr (.inr (fun j => some (E.2.2.1 (b + j)))))))
def nn_ws (E : mm_E) (X : List nn_C) : va_W := X.mapIdx (fun i c => (E.2.2.1 i, nn_cc E c))
def nn_A (b : Nat) : Nat → Prop := fun q => b ≤ q
def nn_B (E : mm_E) (b : Nat) : Prop := ∀ i : Nat, i < 140 → E.2.2.1 i = b + i
def nn_T (E : mm_E) (b : Nat) (U : State) : Prop := va_K E.2.1 vwCl (mm_tys E) U ∧ (∀ w ∈ mm_nw, va_Nw w U) ∧ nn_B E b ∧ ∃ k : Class, U.vm.classes[E.2.2.2 2]? = some k ∧ k.kind = .array (E.2.2.2 0) (.array .int)
theorem nn_R2 {E : mm_E} {u U : State} (hvm : u.vm.Alike U.vm) (h : ∃ k : Class, u.vm.classes[E.2.2.2 2]? = some k ∧ k.kind = .array (E.2.2.2 0) (.array .int)) : ∃ k : Class, U.vm.classes[E.2.2.2 2]? = some k ∧ k.kind = .array (E.2.2.2 0) (.array .int) := by
  obtain ⟨k, h1, h2⟩ := h
  obtain ⟨k', hk', he⟩ := hvm.2.2 _ _ h1
  exact ⟨k', hk', by rw [he]; exact h2⟩
def nn_rm (d mc ms : Nat) : Room := { frames := d, cells := mc, slots := ms, locals := 60 * d }
def nn_Pc (E : mm_E) (b : Nat) (as : List Value) (X : List nn_C) : Array Value → State → Prop := va_Pc (as.map (mm_cv E)) (fun U => va_P E.2.1 vwCl (nn_ws E X) U.heap ∧ U.heap.size = b + X.length ∧ nn_T E b U)
def nn_Qc (E : mm_E) (b : Nat) (X : List nn_C) : Array Value → State → Outcome → State → Prop := fun _ st o t => (o = .returned none ∧ va_P E.2.1 vwCl (nn_ws E X) t.heap ∧ t.heap.size = b + X.length) ∧ va_F (nn_A b) st t
def nn_P (E : mm_E) (b : Nat) (Y : mm_Y) (d mc ms : Nat) (as : List Value) (X X' : List nn_C) : Prop := Met E.1 Y.1 (mm_wy Y) (nn_rm d mc ms) (nn_Pc E b as X) (nn_Qc E b X') mc ms (nn_A b)
abbrev nn_Q : Type := (List Frame → Array Value → State → Nat → Nat → State → Prop) × (Program → State → MethodId → Array Value → Method → Code → Prop)
def nn_K (E : mm_E) (b : Nat) (Y : mm_Y) (Qf : nn_Q) (p : Program) (s : State) (m : MethodId) (args : Array Value) (meth : Method) (c : Code) : Prop :=
  p.tables.exec = Jvm.exec ∧ c.code = Y.2.1 ∧ meth.sig.returnType = Y.2.2.2 ∧ c.maxLocals = Y.2.2.1 ∧ s.vm.findClass Y.1.cls = some m.cls ∧ (∀ w ∈ mm_tb, w.before args s = true) ∧ meth.locks = false ∧ nn_T E b s ∧ (Y.1.name = "<init>" → meth.name = "<init>") ∧ b ≤ s.heap.size ∧ Qf.2 p s m args meth c
def nn_Qf (E : mm_E) (b : Nat) (X' : List nn_C) : nn_Q := (fun below args s mc ms => MQ below (nn_Qc E b X') args s mc ms (nn_A b), fun _ _ _ _ _ _ => True)
def nn_W (E : mm_E) (b : Nat) (Y : mm_Y) (R : Room) (mc ms pc : Nat) (lv : List (Nat × Value)) (st : List Value) (X : List nn_C) (nc ns : Nat) (Qf : nn_Q) : Prop :=
  ∀ (p : Program) (e : Env) (s : State) (m : MethodId) (args : Array Value) (below : List Frame) (meth : Method) (c : Code) (H : Heap) (locs : List Loc) (ls : Array Slot),
    nn_K E b Y Qf p s m args meth c → va_P E.2.1 vwCl (nn_ws E X) H → H.size = b + X.length → va_S (nn_A b) s.heap H locs → lv_has ls Y.2.2.1 (mm_cl E lv) →
    W p E.1 e R s m args below meth c H locs nc ns (Qf.1 below args s mc ms) (F0 m pc ls (st.map (mm_cv E)))
theorem nn_get {E : mm_E} {X : List nn_C} {i : Nat} {c : nn_C} (h : X[i]? = some c) : (nn_ws E X)[i]? = some (E.2.2.1 i, nn_cc E c) := by
  simp [nn_ws, List.getElem?_mapIdx, h]
theorem nn_D {E : mm_E} {b : Nat} {X : List nn_C} (hB : nn_B E b) (hX : X.length ≤ 140) : va_D (nn_A b) (nn_ws E X) := by
  have key : ∀ (k : Nat) (q : Nat × va_E), (nn_ws E X)[k]? = some q → k < X.length ∧ q.1 = b + k := by
    intro k q hk
    simp only [nn_ws, List.getElem?_mapIdx, Option.map_eq_some_iff] at hk
    obtain ⟨L, h1, rfl⟩ := hk
    have h2 := (List.getElem?_eq_some_iff.mp h1).1
    exact ⟨h2, hB k (by omega)⟩
  refine ⟨fun i j p q hi hj e => ?_, fun k q hk => ?_⟩
  · have := (key i p hi).2
    have := (key j q hj).2
    omega
  · have := (key k q hk).2
    show b ≤ q.1
    omega
theorem nn_set {E : mm_E} {X : List nn_C} {o : Nat} {c : nn_C} : (nn_ws E X).set o (E.2.2.1 o, nn_cc E c) = nn_ws E (X.set o c) := by
  apply List.ext_getElem?
  intro i
  simp only [nn_ws, List.getElem?_mapIdx, List.getElem?_set]
  by_cases hi : o = i
  · subst hi
    by_cases hl : o < X.length
    · simp [hl]
    · simp [hl]
  · simp [hi, List.getElem?_mapIdx]
theorem nn_app {E : mm_E} {X Z : List nn_C} : nn_ws E (X ++ Z) = nn_ws E X ++ Z.mapIdx (fun i c => (E.2.2.1 (X.length + i), nn_cc E c)) := by
  unfold nn_ws
  rw [List.mapIdx_append]
  congr 1
  apply List.ext_getElem?
  intro i
  simp [Nat.add_comm]
section NNR
variable {E : mm_E} {b : Nat} {Y : mm_Y} {R : Room} {Qf : nn_Q} {d mc ms pc nc ns : Nat} {lv : List (Nat × Value)} {st : List Value} {X X2 X' : List nn_C}
theorem nn_hts {p : Program} {s : State} {m : MethodId} {args : Array Value} {meth : Method} {c : Code} (C : nn_K E b Y Qf p s m args meth c) : ∀ w ∈ mm_tb, w.before args s = true := C.2.2.2.2.2.1
theorem nn_entry {as : List Value} (hY : plainFor Y.1 = true) (hn : (lg_sl as).length ≤ Y.2.2.1) (k : nn_W E b Y (nn_rm d mc ms) mc ms 0 (lv_args 0 as) [] X 0 0 (nn_Qf E b X')) : nn_P E b Y d mc ms as X X' := by
  refine mm_ofW (cc := Y.2.1) (maxL := Y.2.2.1) (ret := Y.2.2.2) hY rfl ?_
  intro p ee s m args below meth c s₁ B hml hv
  obtain ⟨rfl, hP, hz, hT⟩ := hv
  have hl := lv_entry (as.map (mm_cv E)) (n := Y.2.2.1) (by rw [mm_sl]; exact hn)
  rw [lg_entry_eq]
  rw [mm_args] at hl
  exact k p ee s m _ below meth c s.heap [] _ ⟨B.exec, B.bytes, B.returns, hml, findClass_of_methodNamed B.named, fun w h => atoms_spec (ws := mm_wy Y) B.pre w (List.mem_cons_of_mem _ h), B.notSynchronized, hT, fun h => (name_of_methodNamed B.named B.method).1.trans h, by omega, trivial⟩ hP hz va_S.rf hl
theorem nn_good {z : mm_Y} (h : Cond.code z.1 z.2.1 z.2.2.1 z.2.2.2 ∈ mm_tb) : GoodIn mm_tb (mm_wy z) := by
  intro w hw
  have h1 : w ∈ mm_tb := by
    rcases List.mem_cons.mp hw with rfl | h2
    · exact h
    · exact h2
  exact ⟨h1, good_of_word (List.mem_filter.mp h1).2⟩
theorem nn_aload_n (q : Nat) {n : Fin 4} {x : Nat} (hd : decode Y.2.1 pc = .ok (.aload_n n, 1)) (hq : lv[q]? = some ((n : Nat), .ref x)) (k : nn_W E b Y R mc ms (pc + 1) lv (.ref x :: st) X nc ns Qf) : nn_W E b Y R mc ms pc lv st X nc ns Qf :=
  fun p ee s m args below meth c H locs ls C hP hz hS hl => lv_aload_n C.1 C.2.1 hd rfl (mm_at hl hq) (k p ee s m args below meth c H locs ls C hP hz hS hl)
theorem nn_aload (q : Nat) {n : Nat} {x : Nat} (hd : decode Y.2.1 pc = .ok (.aload n, 2)) (hq : lv[q]? = some (n, .ref x)) (k : nn_W E b Y R mc ms (pc + 2) lv (.ref x :: st) X nc ns Qf) : nn_W E b Y R mc ms pc lv st X nc ns Qf :=
  fun p ee s m args below meth c H locs ls C hP hz hS hl => lv_aload C.1 C.2.1 hd (mm_at hl hq) (k p ee s m args below meth c H locs ls C hP hz hS hl)
theorem nn_iload_n (q : Nat) {n : Fin 4} {x : Int32} (hd : decode Y.2.1 pc = .ok (.iload_n n, 1)) (hq : lv[q]? = some ((n : Nat), .int x)) (k : nn_W E b Y R mc ms (pc + 1) lv (.int x :: st) X nc ns Qf) : nn_W E b Y R mc ms pc lv st X nc ns Qf :=
  fun p ee s m args below meth c H locs ls C hP hz hS hl => lv_iload_n C.1 C.2.1 hd rfl (mm_at hl hq) (k p ee s m args below meth c H locs ls C hP hz hS hl)
theorem nn_iconst {n : Int} {v : Int32} (hd : decode Y.2.1 pc = .ok (.iconst n, 1)) (hv : Int32.ofInt n = v) (k : nn_W E b Y R mc ms (pc + 1) lv (.int v :: st) X nc ns Qf) : nn_W E b Y R mc ms pc lv st X nc ns Qf :=
  fun p ee s m args below meth c H locs ls C hP hz hS hl => lv_iconst C.1 C.2.1 hd hv (k p ee s m args below meth c H locs ls C hP hz hS hl)
theorem nn_bipush {n : Int} {v : Int32} (hd : decode Y.2.1 pc = .ok (.bipush n, 2)) (hv : (Int8.ofInt n).toInt32 = v) (k : nn_W E b Y R mc ms (pc + 2) lv (.int v :: st) X nc ns Qf) : nn_W E b Y R mc ms pc lv st X nc ns Qf :=
  fun p ee s m args below meth c H locs ls C hP hz hS hl => lv_bipush C.1 C.2.1 hd hv (k p ee s m args below meth c H locs ls C hP hz hS hl)
theorem nn_sipush {n : Int} {v : Int32} (hd : decode Y.2.1 pc = .ok (.sipush n, 3)) (hv : (Int16.ofInt n).toInt32 = v) (k : nn_W E b Y R mc ms (pc + 3) lv (.int v :: st) X nc ns Qf) : nn_W E b Y R mc ms pc lv st X nc ns Qf :=
  fun p ee s m args below meth c H locs ls C hP hz hS hl => lv_sipush C.1 C.2.1 hd hv (k p ee s m args below meth c H locs ls C hP hz hS hl)
theorem nn_dup {v : Value} (hd : decode Y.2.1 pc = .ok (.dup, 1)) (hc : v.category = 1) (k : nn_W E b Y R mc ms (pc + 1) lv (v :: v :: st) X nc ns Qf) : nn_W E b Y R mc ms pc lv (v :: st) X nc ns Qf :=
  fun p ee s m args below meth c H locs ls C hP hz hS hl => lv_dup C.1 C.2.1 hd (by rw [mm_cat]; exact hc) (k p ee s m args below meth c H locs ls C hP hz hS hl)
theorem nn_astore_n (ks : List Nat) {lv2 : List (Nat × Value)} {n : Fin 4} {x : Nat} (hd : decode Y.2.1 pc = .ok (.astore_n n, 1)) (hn : (n : Nat) < Y.2.2.1) (hk : lv_pick (((n : Nat), .ref x) :: mm_st1 lv n) ks = lv2) (k : nn_W E b Y R mc ms (pc + 1) lv2 st X nc ns Qf) : nn_W E b Y R mc ms pc lv (.ref x :: st) X nc ns Qf :=
  fun p ee s m args below meth c H locs ls C hP hz hS hl => lv_astore_n C.1 C.2.1 hd rfl hl hn (mm_fil1 E lv n (.ref x)) (fun ls2 hl2 => k p ee s m args below meth c H locs ls2 C hP hz hS (mm_pick hl2 ks hk))
theorem nn_istore_n (ks : List Nat) {lv2 : List (Nat × Value)} {n : Fin 4} {x : Int32} (hd : decode Y.2.1 pc = .ok (.istore_n n, 1)) (hn : (n : Nat) < Y.2.2.1) (hk : lv_pick (((n : Nat), .int x) :: mm_st1 lv n) ks = lv2) (k : nn_W E b Y R mc ms (pc + 1) lv2 st X nc ns Qf) : nn_W E b Y R mc ms pc lv (.int x :: st) X nc ns Qf :=
  fun p ee s m args below meth c H locs ls C hP hz hS hl => lv_istore_n C.1 C.2.1 hd rfl hl hn (mm_fil1 E lv n (.int x)) (fun ls2 hl2 => k p ee s m args below meth c H locs ls2 C hP hz hS (mm_pick hl2 ks hk))
theorem nn_iinc (q : Nat) (ks : List Nat) {lv2 : List (Nat × Value)} {i : Nat} {n : Int} {x v : Int32} (hd : decode Y.2.1 pc = .ok (.iinc i n, 3)) (hq : lv[q]? = some (i, .int x)) (hv : x + Int32.ofInt n = v) (hn : i < Y.2.2.1) (hk : lv_pick ((i, .int v) :: mm_st1 lv i) ks = lv2) (k : nn_W E b Y R mc ms (pc + 3) lv2 st X nc ns Qf) : nn_W E b Y R mc ms pc lv st X nc ns Qf :=
  fun p ee s m args below meth c H locs ls C hP hz hS hl => lv_iinc (k := q) C.1 C.2.1 hd hl (by rw [List.getElem?_map, hq]; rfl) hv hn (mm_fil1 E lv i (.int v)) (fun ls2 hl2 => k p ee s m args below meth c H locs ls2 C hP hz hS (mm_pick hl2 ks hk))
theorem nn_icmp_ge_t (tgt : Nat) {x y : Int32} {off : Int} (hd : decode Y.2.1 pc = .ok (.if_icmp .ge off, 3)) (ht : (pc : Int) + off = (tgt : Int)) (hc : y ≤ x) (k : nn_W E b Y R mc ms tgt lv st X nc ns Qf) : nn_W E b Y R mc ms pc lv (.int y :: .int x :: st) X nc ns Qf :=
  fun p ee s m args below meth c H locs ls C hP hz hS hl => lv_icmp_ge C.1 C.2.1 hd ht (fun _ => k p ee s m args below meth c H locs ls C hP hz hS hl) (fun q => absurd hc q)
theorem nn_icmp_ge_f {x y : Int32} {off : Int} (tgt : Nat) (hd : decode Y.2.1 pc = .ok (.if_icmp .ge off, 3)) (ht : (pc : Int) + off = (tgt : Int)) (hc : ¬ y ≤ x) (k : nn_W E b Y R mc ms (pc + 3) lv st X nc ns Qf) : nn_W E b Y R mc ms pc lv (.int y :: .int x :: st) X nc ns Qf :=
  fun p ee s m args below meth c H locs ls C hP hz hS hl => lv_icmp_ge C.1 C.2.1 hd ht (fun q => absurd q hc) (fun _ => k p ee s m args below meth c H locs ls C hP hz hS hl)
theorem nn_goto (tgt : Nat) {off : Int} (hd : decode Y.2.1 pc = .ok (.goto off, 3)) (ht : (pc : Int) + off = (tgt : Int)) (k : nn_W E b Y R mc ms tgt lv st X nc ns Qf) : nn_W E b Y R mc ms pc lv st X nc ns Qf :=
  fun p ee s m args below meth c H locs ls C hP hz hS hl => lv_goto C.1 C.2.1 hd ht (k p ee s m args below meth c H locs ls C hP hz hS hl)
theorem nn_vret (hd : decode Y.2.1 pc = .ok (.return_, 1)) (hr : Y.2.2.2 = none) : nn_W E b Y R nc ns pc lv [] X nc ns (nn_Qf E b X) := by
  intro p ee s m args below meth c H locs ls C hP hz hS hl
  exact W.vret C.1 C.2.1 (C.2.2.1.trans hr) (fun t ht hW => ⟨⟨rfl, by rw [ht]; exact hP, by rw [ht]; exact hz⟩, hS.F ht⟩) hS.2.2 hd C.2.2.2.2.2.2.1
theorem nn_getf {idx ci o j : Nat} {fs : List Value} {v : Value} (hd : decode Y.2.1 pc = .ok (.getfield idx, 3)) (hf : mm_FL Y.1.cls idx ci j) (ho : X[o]? = some (.inl (ci, fs))) (hv : fs[j]? = some v) (k : nn_W E b Y R mc ms (pc + 3) lv (v :: st) X nc ns Qf) : nn_W E b Y R mc ms pc lv (.ref o :: st) X nc ns Qf := by
  intro p ee s m args below meth c H locs ls C hP hz hS hl
  obtain ⟨cC, T, N, ty, ⟨h1, h2, h3, h4⟩, h5, h6, h7⟩ := hf
  have hw := nn_get (E := E) ho
  have hfv : (fs.map (mm_cv E))[j]? = some (mm_cv E v) := by rw [List.getElem?_map, hv]; rfl
  rcases h7 with h7 | ⟨host, h7⟩
  · exact va_get C.1 C.2.1 (nn_hts C) h2 C.2.2.2.2.1 C.2.2.2.2.2.2.2.1.1 hP o hw h1 j h5 (ref := cC) (nn_hts C _ h7) (fun x hx => by rw [h6] at hx; exact hx) hfv hd (k p ee s m args below meth c H locs ls C hP hz hS hl)
  · exact va_getN C.1 C.2.1 (nn_hts C) h2 C.2.2.2.2.1 C.2.2.2.2.2.2.2.1.1 hP o hw h1 j h5 (ref := cC) (va_Nw.use rfl (C.2.2.2.2.2.2.2.1.2.1 _ h7)) (fun x hx => by rw [h6] at hx; exact hx) hfv hd (k p ee s m args below meth c H locs ls C hP hz hS hl)
/-- field j of class ci, by the entry idx of own, final or not, of type t -/
def nn_FP (own : String) (idx ci j : Nat) (t : FieldType) : Prop :=
  ∃ (C : String) (T : u_T) (N : Nat) (ty : Nat → FieldType), mm_CF ci C T N ty ∧ j < N ∧ (T j).1 = own ∧ C = own ∧ Cond.fieldLink own idx C (T j).2.1 (T j).2.2.1 ∈ mm_tb ∧ ty j = t
theorem nn_put {idx ci o j : Nat} {fs : List Value} {v : Value} {t : FieldType} (hd : decode Y.2.1 pc = .ok (.putfield idx, 3)) (hf : nn_FP Y.1.cls idx ci j t) (ho : X[o]? = some (.inl (ci, fs))) (hj : j < fs.length) (hn : ∀ E : mm_E, narrow t (mm_cv E v) = mm_cv E v ∧ fits t (mm_cv E v) = true) (hi : Y.1.name = "<init>") (hX : X.length ≤ 140) (hX2 : X.set o (.inl (ci, fs.set j v)) = X2) (k : nn_W E b Y R mc ms (pc + 3) lv st X2 nc ns Qf) : nn_W E b Y R mc ms pc lv (v :: .ref o :: st) X nc ns Qf := by
  intro p ee s m args below meth c H locs ls C hP hz hS hl
  obtain ⟨cC, T, N, ty, ⟨h1, h2, h3, h4⟩, h5, h6, rfl, h7, h9⟩ := hf
  have hw := nn_get (E := E) ho
  have hD := nn_D (X := X) C.2.2.2.2.2.2.2.1.2.2.1 hX
  have hd2 : parseFieldDescriptor (T j).2.2.1 = some t := by rw [h3 j h5, h9]
  have hin : meth.name = "<init>" := C.2.2.2.2.2.2.2.2.1 hi
  have hlen : X2.length = X.length := by rw [← hX2]; simp
  have kk : ∀ (H1 : Heap) (locs1 : List Loc), H1.size = H.size → va_P E.2.1 vwCl ((nn_ws E X).set o (E.2.2.1 o, .inr (ci, (fs.map (mm_cv E)).set j (mm_cv E v)))) H1 → va_S (nn_A b) s.heap H1 locs1 → W p E.1 ee R s m args below meth c H1 locs1 nc ns (Qf.1 below args s mc ms) (F0 m (pc + 3) ls (st.map (mm_cv E))) := by
    intro H1 locs1 hz1 hP1 hS1
    have e : (.inr (ci, (fs.map (mm_cv E)).set j (mm_cv E v)) : va_E) = nn_cc E (.inl (ci, fs.set j v)) := by
      simp [nn_cc, List.map_set]
    rw [e, nn_set, hX2] at hP1
    exact k p ee s m args below meth c H1 locs1 ls C hP1 (by rw [hz1, hz, hlen]) hS1 hl
  have hts := nn_hts C
  have hK := C.2.2.2.2.2.2.2.1.1
  have hap := va_apart (own := Y.1.cls) hts h2 ty h3 h4 hK h1
  obtain ⟨r, g1, cell, q1, q2, q3, q4⟩ := hP o _ hw
  have hr : r = (Y.1.cls, T, N) := Option.some.inj (g1.symm.trans h1)
  subst hr
  obtain ⟨hSl, hfc, kC, hkC, hkind⟩ := hK.1 ci _ h1
  obtain ⟨cf, kf, fi, f, hif, hsl⟩ := hSl j h5
  have hlink := hts _ h7
  have hst := (u_facts hfc hkC (u_lays hts h2 h5) hif).1
  have fin : ∀ (H1 : Heap), H1[E.2.2.1 o]? = some (cell.setSlot (E.2.1.2 ci j) (mm_cv E v)) → H1.size = H.size → (∀ q, q ≠ E.2.2.1 o → H1[q]? = H[q]?) → ∀ kk0, W p E.1 ee R s m args below meth c H1 (locs ++ [⟨E.2.2.1 o, kk0⟩]) nc ns (Qf.1 below args s mc ms) (F0 m (pc + 3) ls (st.map (mm_cv E))) := by
    intro H1 e1 e2 e3 kk0
    exact kk H1 _ e2 (hP.set hD hw ⟨_, h1, t_OB.to (V := updV (vp_V (fs.map (mm_cv E))) j (mm_cv E v)) ⟨_, e1, q2, q3, t_set q4 hap h5 (mm_cv E v)⟩ (fun x _ => vp_updV_set (by simpa using hj) (mm_cv E v) x)⟩ e3) (hS.put e2 e3 (hD.2 o _ hw))
  by_cases hfin : (T j).2.2.2 = true
  · have hlay := hts _ (h2 _ (u_in_lay h5))
    unfold u_lay at hlay
    rw [if_pos hfin] at hlay
    have hcf : m.cls = cf := by
      obtain ⟨_, _, c', _, _, _, -, -, hf', -, -, -, hown2, -⟩ := Cond.laysFinal_spec hlay
      have e1 : c' = cf := by have := hif.symm.trans hf'; simp at this; exact this.1.symm
      rw [h6] at hown2
      rw [← e1]; exact Option.some.inj (C.2.2.2.2.1.symm.trans hown2)
    have h8 := u_fits hfc hkC hkind (Or.inr hlay) hif hd2 (hn E).1 (hn E).2
    refine W.putFinK C.1 C.2.1 C.2.2.2.2.1 hlink (by rw [← h6]; exact hif) hst hcf hin (by rw [q2]; exact h8) q1 q3 (by rw [hsl]; exact k2_hasslot (q4 j h5)) rfl rfl hd fun H1 e1 e2 e3 => ?_
    rw [hsl] at e1 ⊢
    exact fin H1 e1 e2 e3 _
  · have hlay := hts _ (h2 _ (u_in_lay h5))
    unfold u_lay at hlay
    rw [if_neg hfin] at hlay
    have h8 := u_store hfc hkC hkind hlay hif hd2 (hn E).1 (hn E).2
    refine W.putK C.1 C.2.1 (f := f) ⟨C.2.2.2.2.1, hlink, ⟨_, _, _, by rw [← h6]; exact hif⟩, hst⟩ (by rw [q2]; exact h8) q1 q3 (by rw [hsl]; exact k2_hasslot (q4 j h5)) rfl rfl hd fun H1 e1 e2 e3 => ?_
    rw [hsl] at e1 ⊢
    exact fin H1 e1 e2 e3 _
theorem nn_iastore {o n : Nat} {i x : Int32} {f : Nat → Int32} (hd : decode Y.2.1 pc = .ok (.iastore, 1)) (ho : X[o]? = some (.inr (0, n, .inl f))) (hi : mm_in i n = true) (hX : X.length ≤ 140) (hX2 : X.set o (.inr (0, n, .inl (upd f i.toNatClampNeg x))) = X2) (k : nn_W E b Y R mc ms (pc + 1) lv st X2 nc ns Qf) : nn_W E b Y R mc ms pc lv (.int x :: .int i :: .ref o :: st) X nc ns Qf := by
  intro p ee s m args below meth c H locs ls C hP hz hS hl
  have hw := nn_get (E := E) ho
  have hlen : X2.length = X.length := by rw [← hX2]; simp
  have hD := nn_D (X := X) C.2.2.2.2.2.2.2.1.2.2.1 hX
  have hin := mm_in_vp hi
  refine W.iast C.1 C.2.1 (hP o _ hw) ((C.2.2.2.2.2.2.2.1.1.2 0 _ rfl).1 n (fun j => .int (f j))) (fun q => by cases q) (by show ¬ (i < 0 ∨ (arrV _ _ _).slots.size ≤ _); rw [arrV_size]; exact hin) rfl rfl hd fun H1 e z oq => ?_
  refine k p ee s m args below meth c H1 _ ls C ?_ (by rw [z, hz, hlen]) (hS.put z oq (hD.2 o _ hw)) hl
  have h1 := hP.set (e := nn_cc E (.inr (0, n, .inl (upd f i.toNatClampNeg x)))) hD hw ?_ oq
  · rw [nn_set, hX2] at h1
    exact h1
  · show H1[E.2.2.1 o]? = some (vp_cell _ _)
    rw [e]
    show some ((vp_cell (E.2.2.2 0) (n, .inl f)).setSlot _ _) = _
    rw [vp_cell_i, vp_cell_i, arrV_store]
    congr 2
    funext q
    by_cases hq : q = i.toNatClampNeg
    · subst hq
      simp [updV, upd]
    · simp [updV, upd, hq]
theorem nn_alen {o n : Nat} {f : Nat → Int32} {v : Int32} (hd : decode Y.2.1 pc = .ok (.arraylength, 1)) (ho : X[o]? = some (.inr (0, n, .inl f))) (hv : Int32.ofNat n = v) (k : nn_W E b Y R mc ms (pc + 1) lv (.int v :: st) X nc ns Qf) : nn_W E b Y R mc ms pc lv (.ref o :: st) X nc ns Qf := by
  intro p ee s m args below meth c H locs ls C hP hz hS hl
  exact va_alen C.1 C.2.1 C.2.2.2.2.2.2.2.1.1 hP o 0 (cA := E.2.2.2 0) (x := (n, .inl f)) (nn_get (E := E) ho) (ty := .int) rfl hv hd (k p ee s m args below meth c H locs ls C hP hz hS hl)
theorem nn_objInit {idx o : Nat} (hd : decode Y.2.1 pc = .ok (.invokespecial idx, 3)) (hl0 : Cond.methodLink Y.1.cls idx Lib.objectInit ∈ mm_tb) (hw : Cond.instanceMethod Lib.objectInit ∈ mm_tb ∧ Cond.code Lib.objectInit ⟨#[0xb1]⟩ 1 none ∈ mm_tb) (hR : 1 ≤ R.frames ∧ (st.map fun v => v.category).sum + 12 ≤ R.locals) (k : nn_W E b Y R mc ms (pc + 3) lv st X nc ns Qf) : nn_W E b Y R mc ms pc lv (.ref o :: st) X nc ns Qf := by
  intro p ee s m args below meth c H locs ls C hP hz hS hl
  have hts := nn_hts C
  refine W.objInit C.1 C.2.1 C.2.2.2.2.1 (hts _ hl0) (hts _ hw.1) (hts _ hw.2) rfl (hl.1.trans C.2.2.2.1.symm) rfl hd hR.1 ?_ (k p ee s m args below meth c H locs ls C hP hz hS hl)
  show 2 * 0 + ((st.map (mm_cv E)).map fun v => v.category).sum + 12 ≤ R.locals
  rw [List.map_map]
  have h2 := hR.2
  simp only [Function.comp_def, mm_cat]
  omega
theorem nn_new {idx ci N : Nat} {C0 : String} {T : u_T} {ty : Nat → FieldType} {fs : List Value} (hd : decode Y.2.1 pc = .ok (.new idx, 3)) (hC : mm_CF ci C0 T N ty) (hw : Cond.classLink Y.1.cls idx C0 ∈ mm_tb ∧ Cond.instantiable C0 N ∈ mm_tb ∧ Cond.initialized C0 ∈ mm_tb) (hfs : ∀ j, j < N → defaultValue (ty j) = vp_V fs j) (hv : ∀ E : mm_E, fs.map (mm_cv E) = fs) (hb : nc + 1 ≤ R.cells ∧ ns + N ≤ R.slots) (hX : X.length + 1 ≤ 140) (hX2 : X ++ [.inl (ci, fs)] = X2) (k : nn_W E b Y R mc ms (pc + 3) lv (.ref X.length :: st) X2 (nc + 1) (ns + N) Qf) : nn_W E b Y R mc ms pc lv st X nc ns Qf := by
  intro p ee s m args below meth c H locs ls C hP hz hS hl
  obtain ⟨h1, h2, h3, h4⟩ := hC
  have hts := nn_hts C
  have hK := C.2.2.2.2.2.2.2.1.1
  have hKn := hK.1 ci _ h1
  have hB := C.2.2.2.2.2.2.2.1.2.2.1
  refine W.newcK C.1 C.2.1 C.2.2.2.2.1 (hts _ hw.1) (hts _ hw.2.1) (hts _ hw.2.2) rfl hd hb.1 hb.2 hKn.2.1 rfl fun H1 kC hkC e1 z1 o1 => ?_
  have hk : ∀ (k : Nat) (x : Nat × va_E), (nn_ws E X)[k]? = some x → H1[x.1]? = H[x.1]? := fun k x hx => o1 x.1 ((hP k x hx).lt)
  have ha : H.size = E.2.2.1 X.length := by rw [hB _ (by omega)]; exact hz
  have hP1 : va_P E.2.1 vwCl (nn_ws E X2) H1 := by
    rw [← hX2, nn_app]
    refine (hP.kept hk).app (fun k x hx => ?_)
    have hz9 : k < 1 := by simpa using (List.getElem?_eq_some_iff.mp hx).1
    rw [show k = 0 by omega] at hx
    cases hx
    refine ⟨_, h1, ?_⟩
    have h9 : t_OB H.size (E.2.1.1 ci) N (E.2.1.2 ci) H1 (vp_V (fs.map (mm_cv E))) := (u_born ty hts h2 hKn hkC e1 h3).to (fun j hj => by rw [hv E]; exact hfs j hj)
    rw [ha] at h9
    exact h9
  have := k p ee s m args below meth c H1 locs ls C hP1 (by rw [z1, ← hX2]; simp; omega) ⟨Nat.le_trans hS.1 (by omega), fun x g1 g2 => (o1 x (Nat.lt_of_lt_of_le g1 hS.1)).trans (hS.2.1 x g1 g2), hS.2.2⟩ hl
  rw [ha]
  exact this
theorem nn_newarray {atype : ArrayType} {t N : Nat} {n : Int32} (hd : decode Y.2.1 pc = .ok (.newarray atype, 2)) (ht : (t = 0 ∧ atype = .int) ∨ (t = 1 ∧ atype = .byte)) (hw : Cond.arrayClass (newarray.typeOf atype) ∈ mm_tb) (hn : ¬ n < 0) (hN : n.toNatClampNeg = N) (hby : N * componentBytes (newarray.typeOf atype) ≤ 536870912) (hb : nc + 1 ≤ R.cells ∧ ns + N ≤ R.slots) (hX : X.length + 1 ≤ 140) (hX2 : X ++ [.inr (t, N, .inl (fun _ => 0))] = X2) (k : nn_W E b Y R mc ms (pc + 2) lv (.ref X.length :: st) X2 (nc + 1) (ns + N) Qf) : nn_W E b Y R mc ms pc lv (.int n :: st) X nc ns Qf := by
  intro p ee s m args below meth c H locs ls C hP hz hS hl
  have hts := nn_hts C
  have hK := C.2.2.2.2.2.2.2.1.1
  have hB := C.2.2.2.2.2.2.2.1.2.2.1
  refine va_newaK C.1 C.2.1 (hts _ hw) rfl hd rfl hn hN hby hb.1 hb.2 rfl fun H1 cA e1 z1 o1 hAr hNm => ?_
  have hk : ∀ (k : Nat) (x : Nat × va_E), (nn_ws E X)[k]? = some x → H1[x.1]? = H[x.1]? := fun k x hx => o1 x.1 ((hP k x hx).lt)
  have ha : H.size = E.2.2.1 X.length := by rw [hB _ (by omega)]; exact hz
  have hcA : cA = E.2.2.2 t := by
    rcases ht with ⟨rfl, rfl⟩ | ⟨rfl, rfl⟩
    · exact Option.some.inj (hNm.symm.trans (hK.2 0 _ rfl).2)
    · exact Option.some.inj (hNm.symm.trans (hK.2 1 _ rfl).2)
  have hdv : defaultValue (newarray.typeOf atype) = .int 0 := by rcases ht with ⟨-, rfl⟩ | ⟨-, rfl⟩ <;> rfl
  have hP1 : va_P E.2.1 vwCl (nn_ws E X2) H1 := by
    rw [← hX2, nn_app]
    refine (hP.kept hk).app (fun k x hx => ?_)
    have hz9 : k < 1 := by simpa using (List.getElem?_eq_some_iff.mp hx).1
    rw [show k = 0 by omega] at hx
    cases hx
    show H1[E.2.2.1 X.length]? = some (vp_cell (E.2.2.2 t) (N, .inl (fun _ => 0)))
    rw [← ha, e1, hcA, hdv]
    rfl
  have := k p ee s m args below meth c H1 locs ls C hP1 (by rw [z1, ← hX2]; simp; omega) ⟨Nat.le_trans hS.1 (by omega), fun x g1 g2 => (o1 x (Nat.lt_of_lt_of_le g1 hS.1)).trans (hS.2.1 x g1 g2), hS.2.2⟩ hl
  rw [ha]
  exact this
theorem nn_after {z : mm_Y} {a : Array Value} {mz sz : Nat} {X1 : List nn_C} (kk : nn_W E b Y R mc ms (pc + 3) lv st X1 (nc + mz) (ns + sz) Qf)
    {p : Program} {ee : Env} {s : State} {m : MethodId} {args : Array Value} {below : List Frame} {meth : Method} {c : Code} {H : Heap} {locs : List Loc} {ls : Array Slot} {st0 : List Value} (C : nn_K E b Y Qf p s m args meth c) (hS : va_S (nn_A b) s.heap H locs) (hl : lv_has ls Y.2.2.1 (mm_cl E lv))
    (run : va_Run p E.1 ee R s m args below meth c H locs nc ns mz sz (F0 m pc ls st0) (st.map (mm_cv E)) (nn_Qc E b X1 a) (nn_A b)) :
    W p E.1 ee R s m args below meth c H locs nc ns (Qf.1 below args s mc ms) (F0 m pc ls st0) := by
  intro T hT X
  obtain ⟨v, st₀, t, T', L, h0, X', hL, e1, e2, ⟨⟨hv, hP1, hz1⟩, hz, hk⟩, stp⟩ := run T hT X
  cases hv
  rw [h0] at hz hk
  have hS1 : va_S (nn_A b) s.heap T'.heap (locs ++ L) := ⟨Nat.le_trans hS.1 (by rw [e1]; exact hz), fun q h1 h2 => by rw [e1, hk q (Nat.lt_of_lt_of_le h1 hS.1) h2]; exact hS.2.1 q h1 h2, fun q hq => by
      rcases List.mem_append.mp hq with h | h
      · exact hS.2.2 q h
      · exact hL q h⟩
  obtain ⟨t2, a1, b1⟩ := kk p ee s m args below meth c T'.heap (locs ++ L) ls C (by rw [e1]; exact hP1) (by rw [e1]; exact hz1) hS1 hl T' rfl X'
  exact ⟨t2, stp t2 a1, b1⟩
theorem nn_pre {as : List Value} {p : Program} {s : State} {m : MethodId} {args : Array Value} {meth : Method} {c : Code} {H : Heap} (C : nn_K E b Y Qf p s m args meth c) (hP : va_P E.2.1 vwCl (nn_ws E X) H) (hz : H.size = b + X.length) : PreS s H (nn_Pc E b as X) (as.map (mm_cv E)) :=
  ⟨fun a U g mk q => by obtain ⟨q0, q1, q2, q3, q4, q5, q6⟩ := q; exact ⟨q0, q1, q2, va_K.moved (u := U) (U := U.calling g mk a) (Vm.Alike.refl U.vm) q3, mm_nw_same (u := U) (U := U.calling g mk a) rfl q4, q5, nn_R2 (u := U) (U := U.calling g mk a) (Vm.Alike.refl U.vm) q6⟩, fun U hU hW => ⟨rfl, by rw [hU]; exact hP, by rw [hU]; exact hz, va_K.moved hW.alike C.2.2.2.2.2.2.2.1.1, mm_nw_warm hW C.2.2.2.2.2.2.2.1.2.1, C.2.2.2.2.2.2.2.1.2.2.1, nn_R2 hW.alike C.2.2.2.2.2.2.2.1.2.2.2⟩⟩
theorem nn_callI {z : mm_Y} {dz mz sz n idx o : Nat} {as : List Value} {X1 : List nn_C} (hz0 : nn_P E b z dz mz sz (.ref o :: as) X X1) (hd : decode Y.2.1 pc = .ok (.invokespecial idx, 3)) (hZ : mm_Z z n) (hl0 : Cond.methodLink Y.1.cls idx z.1 ∈ mm_tb) (hi0 : Cond.instanceMethod z.1 ∈ mm_tb) (hy : z.1.name = "<init>" ∧ z.2.2.2 = none) (hn : as.length = n) (hR : dz + 1 ≤ R.frames ∧ 8 + (z.2.2.1 + 11) + 60 * dz ≤ R.locals) (hst : (st.map fun v => v.category).sum ≤ 8) (hb : nc + mz ≤ R.cells ∧ ns + sz ≤ R.slots)
    (k : nn_W E b Y R mc ms (pc + 3) lv st X1 (nc + mz) (ns + sz) Qf) : nn_W E b Y R mc ms pc lv (as.reverse ++ .ref o :: st) X nc ns Qf := by
  intro p ee s m args below meth c H locs ls C hP hz hS hl
  have hts := nn_hts C
  obtain ⟨hy1, hy2⟩ := hy
  have cw : CallB R s args Y.1.cls idx z.1 z.2.1 z.2.2.1 none (mm_wy z) (nn_rm dz mz sz) mz sz n :=
    callB_of n C.2.2.2.2.2.1 (nn_good hZ.1) (by rw [← hy2]; rfl) rfl rfl (hts _ hZ.2.1) (hts _ hl0) hZ.2.2 hR
  refine nn_after (z := z) k C hS hl (a := ((Value.ref o :: as).map (mm_cv E)).toArray) ?_
  refine va_runI (As := as.map (mm_cv E)) (rest := st.map (mm_cv E)) (cc := Y.2.1) (nL := Y.2.2.1) (Ts := mm_tb) ⟨C.1, C.2.1, C.2.2.2.1, C.2.2.2.2.1, C.2.2.2.2.2.1⟩ hz0 ⟨cw, hy1, hts _ hi0⟩ (nn_pre (as := .ref o :: as) C hP hz) rfl (by simpa using hn) hl.1 (by simp [mm_cv]) ?_ hd hb
  refine lv_room ?_
  rw [List.map_map]
  simpa [Function.comp_def, mm_cat] using hst
theorem nn_callIN {z : mm_Y} {dz mz sz n idx o : Nat} {host : String} {as : List Value} {X1 : List nn_C} (hz0 : nn_P E b z dz mz sz (.ref o :: as) X X1) (hd : decode Y.2.1 pc = .ok (.invokespecial idx, 3)) (hZ : mm_Z z n) (hl0 : Cond.methodLinkNest Y.1.cls idx z.1 host ∈ mm_nw) (hi0 : Cond.instanceMethod z.1 ∈ mm_tb) (hy : z.1.name = "<init>" ∧ z.2.2.2 = none) (hn : as.length = n) (hR : dz + 1 ≤ R.frames ∧ 8 + (z.2.2.1 + 11) + 60 * dz ≤ R.locals) (hst : (st.map fun v => v.category).sum ≤ 8) (hb : nc + mz ≤ R.cells ∧ ns + sz ≤ R.slots)
    (k : nn_W E b Y R mc ms (pc + 3) lv st X1 (nc + mz) (ns + sz) Qf) : nn_W E b Y R mc ms pc lv (as.reverse ++ .ref o :: st) X nc ns Qf := by
  intro p ee s m args below meth c H locs ls C hP hz hS hl
  have hts := nn_hts C
  obtain ⟨hy1, hy2⟩ := hy
  have cw : va_CN R s args Y.1.cls idx z.1 host z.2.1 z.2.2.1 none (mm_wy z) (nn_rm dz mz sz) mz sz n :=
    va_cnB n C.2.2.2.2.2.1 (nn_good hZ.1) (by rw [← hy2]; rfl) rfl rfl (C.2.2.2.2.2.2.2.1.2.1 _ hl0) (hts _ hZ.2.1) hZ.2.2 hR
  refine nn_after (z := z) k C hS hl (a := ((Value.ref o :: as).map (mm_cv E)).toArray) ?_
  refine va_runIN (As := as.map (mm_cv E)) (rest := st.map (mm_cv E)) (cc := Y.2.1) (nL := Y.2.2.1) (Ts := mm_tb) ⟨C.1, C.2.1, C.2.2.2.1, C.2.2.2.2.1, C.2.2.2.2.2.1⟩ hz0 ⟨cw, hy1, hts _ hi0⟩ (nn_pre (as := .ref o :: as) C hP hz) rfl (by simpa using hn) hl.1 (by simp [mm_cv]) ?_ hd hb
  refine lv_room ?_
  rw [List.map_map]
  simpa [Function.comp_def, mm_cat] using hst
theorem nn_callS {z : mm_Y} {dz mz sz n idx : Nat} {as : List Value} {X1 : List nn_C} (hz0 : nn_P E b z dz mz sz as X X1) (hd : decode Y.2.1 pc = .ok (.invokestatic idx, 3)) (hZ : mm_Z z n) (hl0 : Cond.methodLink Y.1.cls idx z.1 ∈ mm_tb) (hs0 : Cond.static z.1 ∈ mm_tb) (hn : as.length = n) (hR : dz + 1 ≤ R.frames ∧ 8 + (z.2.2.1 + 11) + 60 * dz ≤ R.locals) (hst : (st.map fun v => v.category).sum ≤ 8) (hb : nc + mz ≤ R.cells ∧ ns + sz ≤ R.slots)
    (k : nn_W E b Y R mc ms (pc + 3) lv st X1 (nc + mz) (ns + sz) Qf) : nn_W E b Y R mc ms pc lv (as.reverse ++ st) X nc ns Qf := by
  intro p ee s m args below meth c H locs ls C hP hz hS hl
  have hts := nn_hts C
  have cw : CallB R s args Y.1.cls idx z.1 z.2.1 z.2.2.1 z.2.2.2 (mm_wy z) (nn_rm dz mz sz) mz sz n ∧ (Cond.static z.1).before args s = true :=
    ⟨callB_of n C.2.2.2.2.2.1 (nn_good hZ.1) rfl rfl rfl (hts _ hZ.2.1) (hts _ hl0) hZ.2.2 hR, hts _ hs0⟩
  refine nn_after (z := z) k C hS hl (a := (as.map (mm_cv E)).toArray) ?_
  refine va_runS (As := as.map (mm_cv E)) (rest := st.map (mm_cv E)) (cc := Y.2.1) (nL := Y.2.2.1) (Ts := mm_tb) ⟨C.1, C.2.1, C.2.2.2.1, C.2.2.2.2.1, C.2.2.2.2.2.1⟩ hz0 cw (nn_pre C hP hz) rfl (by simpa using hn) hl.1 (by simp) ?_ hd hb
  refine lv_room ?_
  rw [List.map_map]
  simpa [Function.comp_def, mm_cat] using hst
end NNR
/-! new int[n][k], out of the model's operation -/
section MNA
variable {E : CtlPost} {e : Env} {d : Bool} {acts : List Action} {s : State}
theorem ma_in {Q : Addr → Pre} {cI comp : ClassId} {kI : Class} {k0 : Int32} (hk : s.vm.classes[cI]? = some kI) (hkind : kI.kind = .array comp .int) (h0 : ¬ k0 < 0) (hl : ¬ k0.toNatClampNeg > e.platform.arrayLengthLimit) (hh : ¬ k0.toNatClampNeg * componentBytes .int > e.platform.maxHeapBytes) (hc : s.heap.size < e.platform.maxCells) (hs : s.slotsUsed + k0.toNatClampNeg ≤ e.platform.maxSlots) (hq : ∀ acts', Q s.heap.size d acts' (s.pushCell { cls := cI, slots := Array.replicate k0.toNatClampNeg (.int 0) })) : wp (multianewarray.make cI [k0]) Q E e d acts s := by
  rw [multianewarray.make]
  simp only [wp_bind', Jvm.W.ite, h0, if_false, wp_pure', Jvm.W.theClass, hk, Option.some.injEq, exists_eq_left', hkind]
  exact Jvm.W.newArray_of hk hkind hl hh hc hs rfl hq
def ma_c (cA : ClassId) (N a : Nat) : Nat → Cell
  | 0 => { cls := cA, slots := Array.replicate N .null }
  | i + 1 => (ma_c cA N a i).setSlot i (.ref (a + 1 + i))
def ma_i (cI : ClassId) (K : Nat) : Cell := { cls := cI, slots := Array.replicate K (.int 0) }
def ma_F (s : State) (cA cI : ClassId) (N K : Nat) : Nat → State
  | 0 => s.pushCell (ma_c cA N s.heap.size 0)
  | i + 1 => ((ma_F s cA cI N K i).pushCell (ma_i cI K)).setCell s.heap.size (ma_c cA N s.heap.size (i + 1))
theorem ma_c_f (cA : ClassId) (N a : Nat) : ∀ i, (ma_c cA N a i).cls = cA ∧ (ma_c cA N a i).vm = .none ∧ (ma_c cA N a i).slots.size = N := by
  intro i
  induction i with
  | zero => exact ⟨rfl, rfl, by simp [ma_c]⟩
  | succ i ih =>
    obtain ⟨h1, h2, h3⟩ := ih
    exact ⟨h1, h2, by simp [ma_c, Cell.setSlot, h3]⟩
theorem ma_F_f (s : State) (cA cI : ClassId) (N K : Nat) : ∀ i, (ma_F s cA cI N K i).heap.size = s.heap.size + 1 + i ∧ (ma_F s cA cI N K i).heap[s.heap.size]? = some (ma_c cA N s.heap.size i) ∧ (ma_F s cA cI N K i).vm = s.vm ∧ (ma_F s cA cI N K i).slotsUsed = s.slotsUsed + N + i * K ∧ (∀ q, q < s.heap.size → (ma_F s cA cI N K i).heap[q]? = s.heap[q]?) ∧ ∀ j, j < i → (ma_F s cA cI N K i).heap[s.heap.size + 1 + j]? = some (ma_i cI K) := by
  intro i
  induction i with
  | zero =>
    refine ⟨by simp [ma_F], by simp [ma_F], rfl, ?_, fun q hq => ?_, fun j hj => by omega⟩
    · show s.slotsUsed + (ma_c cA N s.heap.size 0).slots.size = _
      rw [(ma_c_f cA N s.heap.size 0).2.2]
      omega
    · show (s.heap.push _)[q]? = _
      rw [Array.getElem?_push, if_neg (Nat.ne_of_lt hq)]
  | succ i ih =>
    obtain ⟨h1, h2, h3, h4, h5, h6⟩ := ih
    have hg : ∀ q, q ≠ s.heap.size → (ma_F s cA cI N K (i + 1)).heap[q]? = if q = s.heap.size + 1 + i then some (ma_i cI K) else (ma_F s cA cI N K i).heap[q]? := fun q hq => by
      show (((ma_F s cA cI N K i).heap.push (ma_i cI K)).setIfInBounds s.heap.size (ma_c cA N s.heap.size (i + 1)))[q]? = _
      rw [Array.getElem?_setIfInBounds_ne (fun z => hq z.symm), Array.getElem?_push, h1]
    refine ⟨?_, ?_, h3, ?_, fun q hq => ?_, fun j hj => ?_⟩
    · show (((ma_F s cA cI N K i).heap.push (ma_i cI K)).setIfInBounds s.heap.size (ma_c cA N s.heap.size (i + 1))).size = _
      rw [Array.size_setIfInBounds, Array.size_push, h1]
      omega
    · show (((ma_F s cA cI N K i).heap.push (ma_i cI K)).setIfInBounds s.heap.size (ma_c cA N s.heap.size (i + 1)))[s.heap.size]? = _
      rw [Array.getElem?_setIfInBounds_self_of_lt (by rw [Array.size_push, h1]; omega)]
    · show (ma_F s cA cI N K i).slotsUsed + (ma_i cI K).slots.size = _
      rw [h4, show (ma_i cI K).slots.size = K from by simp [ma_i], Nat.add_mul, Nat.one_mul, Nat.add_assoc]
    · rw [hg q (by omega), if_neg (by omega)]
      exact h5 q hq
    · rw [hg _ (by omega)]
      by_cases e : j = i
      · rw [e, if_pos rfl]
      · rw [if_neg (by omega)]
        exact h6 j (by omega)
theorem ma_out {Q : Addr → Pre} {cA cI comp : ClassId} {kA kI : Class} {n k0 : Int32} {N K : Nat} (hN : n.toNatClampNeg = N) (hK : k0.toNatClampNeg = K) (hkA : s.vm.classes[cA]? = some kA) (hkindA : kA.kind = .array cI (.array .int)) (hk : s.vm.classes[cI]? = some kI) (hkind : kI.kind = .array comp .int) (hn : ¬ n < 0) (h0 : ¬ k0 < 0) (hl : ¬ N > e.platform.arrayLengthLimit ∧ ¬ K > e.platform.arrayLengthLimit) (hh : ¬ N * componentBytes (.array .int) > e.platform.maxHeapBytes ∧ ¬ K * componentBytes .int > e.platform.maxHeapBytes) (hc : s.heap.size + 1 + N ≤ e.platform.maxCells) (hs : s.slotsUsed + N + N * K ≤ e.platform.maxSlots) (hq : ∀ d' acts', Q s.heap.size d' acts' (ma_F s cA cI N K N)) : wp (multianewarray.make cA [n, k0]) Q E e d acts s := by
  rw [multianewarray.make]
  simp only [wp_bind', Jvm.W.ite, hn, if_false, wp_pure', Jvm.W.theClass, hkA, Option.some.injEq, exists_eq_left', hkindA]
  refine Jvm.W.newArray_of hkA hkindA (by rw [hN]; exact hl.1) (by rw [hN]; exact hh.1) (by omega) (by rw [hN]; omega) rfl fun acts' => ?_
  rw [hN]
  have loop : ∀ {d : Bool} {acts : List Action} {Q' : PUnit → Pre}, (∀ d' acts', Q' PUnit.unit d' acts' (ma_F s cA cI N K N)) → wp (forIn (List.range' 0 N) PUnit.unit fun i _ => (do
      let r ← multianewarray.make cI [k0]
      writeLoc s.heap.size i (Value.ref r)
      Pure.pure (ForInStep.yield PUnit.unit) : Sem (ForInStep PUnit))) Q' E e d acts (ma_F s cA cI N K 0) := by
    intro d acts Q' hQ'
    refine Jvm.wp_forIn_inv (fun rest s' => ∃ i, i ≤ N ∧ rest = List.range' i (N - i) ∧ s' = ma_F s cA cI N K i) _ _ ⟨0, Nat.zero_le _, rfl, rfl⟩ (fun x rest s' d' acts' Q2 hI hn2 => ?_) (fun s' d' acts' hI => ?_)
    · obtain ⟨i, hi, hr, rfl⟩ := hI
      have hlt : i < N := by
        rcases Nat.lt_or_ge i N with z | z
        · exact z
        · rw [show N - i = 0 by omega] at hr
          cases hr
      rw [show N - i = (N - (i + 1)) + 1 by omega, List.range'_succ] at hr
      obtain ⟨rfl, rfl⟩ := List.cons.inj hr
      obtain ⟨f1, f2, f3, f4, f5, f6⟩ := ma_F_f s cA cI N K x
      have hmul : x * K + K ≤ N * K := by
        have := Nat.mul_le_mul_right K (show x + 1 ≤ N by omega)
        rw [Nat.add_mul, Nat.one_mul] at this
        exact this
      simp only [wp_bind']
      refine ma_in (by rw [f3]; exact hk) hkind h0 (by rw [hK]; exact hl.2) (by rw [hK]; exact hh.2) (by rw [f1]; omega) (by rw [f4, hK]; omega) fun acts2 => ?_
      obtain ⟨g1, g2, g3⟩ := ma_c_f cA N s.heap.size x
      rw [wp_bind', Jvm.W.writeLoc]
      refine ⟨ma_c cA N s.heap.size x, ?_, (by rw [g2]; intro z; cases z), (by rw [g3]; exact hlt), ?_, ?_⟩
      · show ((ma_F s cA cI N K x).heap.push _)[s.heap.size]? = _
        rw [Array.getElem?_push, if_neg (by omega)]
        exact f2
      · have hv : ((ma_F s cA cI N K x).pushCell { cls := cI, slots := Array.replicate k0.toNatClampNeg (.int 0) }).vm = s.vm := f3
        simp [State.fitsSlot, State.slotType?, f3, g1, g2, hkA, hkindA]
        rfl
      · rw [wp_pure']
        refine hn2 _ _ _ ⟨x + 1, by omega, rfl, ?_⟩
        rw [f1, hK]
        rfl
    · obtain ⟨i, hi, hr, rfl⟩ := hI
      have : N - i = 0 := by
        cases hz : N - i with
        | zero => rfl
        | succ z => rw [hz, List.range'_succ] at hr; cases hr
      rw [show i = N by omega]
      exact hQ' _ _
  have hsz : (Std.Legacy.Range.mk 0 N 1 (by decide)).size = N := by simp [Std.Legacy.Range.size]
  simp only [Std.Legacy.Range.forIn_eq_forIn_range', Jvm.W.ite, wp_bind', wp_pure', hsz, List.find?, decide_eq_false h0]
  have hend := loop (d := d) (acts := acts') (Q' := fun _ => (Pure.pure s.heap.size : Sem Addr).wp Q E e) (fun d' acts' => by rw [wp_pure']; exact hq d' acts')
  split
  · exact hend
  · exact hend
theorem ma_top (f : JFrame) (cA cI : ClassId) (N K : Nat) : ∀ i, ma_F (s.setTop f) cA cI N K i = (ma_F s cA cI N K i).setTop f := by
  intro i
  induction i with
  | zero =>
    show (s.setTop f).pushCell _ = (s.pushCell _).setTop f
    rw [State.pushCell_setTop]
    rfl
  | succ i ih =>
    show ((ma_F (s.setTop f) cA cI N K i).pushCell (ma_i cI K)).setCell _ _ = (((ma_F s cA cI N K i).pushCell (ma_i cI K)).setCell s.heap.size (ma_c cA N s.heap.size (i + 1))).setTop f
    rw [ih, State.pushCell_setTop, State.setCell_setTop]
    rfl
theorem ma_tj (cA cI : ClassId) (N K : Nat) : ∀ i, (ma_F s cA cI N K i).topJava? = s.topJava? := by
  intro i
  induction i with
  | zero => rfl
  | succ i ih => exact ih
theorem ma_wp {Q : Unit → Pre} {f : JFrame} {vm1 : Vm} {index : Nat} {rest : List Value} {cA cI comp : ClassId} {kA kI : Class} {n k0 : Int32} {N K : Nat} (ht : s.topJava?.isSome) (hg : (Jvm.resolveClass f.method.cls index).Gives e.toSetting s.vm (.ok cA) vm1) (hsz : vm1.classes.size ≤ s.vm.classes.size) (hstack : f.stack = .int k0 :: .int n :: rest) (hN : n.toNatClampNeg = N) (hK : k0.toNatClampNeg = K) (hkA : vm1.classes[cA]? = some kA) (hkindA : kA.kind = .array cI (.array .int)) (hk : vm1.classes[cI]? = some kI) (hkind : kI.kind = .array comp .int) (hn : ¬ n < 0) (h0 : ¬ k0 < 0) (hl : ¬ N > e.platform.arrayLengthLimit ∧ ¬ K > e.platform.arrayLengthLimit) (hh : ¬ N * componentBytes (.array .int) > e.platform.maxHeapBytes ∧ ¬ K * componentBytes .int > e.platform.maxHeapBytes) (hc : s.heap.size + 1 + N ≤ e.platform.maxCells) (hs : s.slotsUsed + N + N * K ≤ e.platform.maxSlots) (hq : ∀ d' acts', Q () d' acts' ((ma_F (s.setVm vm1) cA cI N K N).setTop { f with stack := .ref s.heap.size :: rest })) : wp (multianewarray.sem index 2) Q E e d acts (s.setTop f) := by
  have hpop := fun {Q' : List Value → Pre} {d' : Bool} {acts' : List Action} => Jvm.Op.popN_top (Q := Q') (E := E) (e := e) (d := d') (acts := acts') (s := s.setVm vm1) (f := f) (args := [.int n, .int k0]) (rest := rest) ht hstack
  simp only [multianewarray.sem, wp_bind', Jvm.W.resolveClassAt_links (e := e) (t := s.setTop f) (State.method?_setTop f ht) hg hsz]
  rw [show (s.setTop f).setVm vm1 = (s.setVm vm1).setTop f from rfl]
  refine (hpop (Q' := _)).mpr ?_
  simp only [List.mapM_cons, List.mapM_nil, wp_bind', wp_pure']
  refine ma_out (s := (s.setVm vm1).setTop { f with stack := rest }) hN hK hkA hkindA hk hkind hn h0 hl hh hc hs fun d' acts' => ?_
  have htj : (ma_F (s.setVm vm1) cA cI N K N).topJava?.isSome := by rw [ma_tj]; exact ht
  rw [wp_bind', ma_top]
  simp only [Jvm.W.mark, Jvm.W.pushRef, State.topJava?_setTop' _ htj, Option.some.injEq, exists_eq_left', State.setTop_setTop]
  exact hq _ _
end MNA
section MNB
variable {p : Program} {l : Launch} {e : Env} {R : Room} {s : State} {m : MethodId} {args : Array Value} {below : List Frame} {meth : Method} {c : Code} {T : State} {locs : List Loc} {cells slots : Nat}
theorem ma_st (X : Stand p l e R s m args below meth c T locs cells slots) (cA cI : ClassId) (N K : Nat) : ∀ i, Stand p l e R s m args below meth c (ma_F T cA cI N K i) (locs ++ (List.range i).map (fun j => ⟨T.heap.size, j⟩)) (cells + 1 + i) (slots + N + i * K) := by
  intro i
  induction i with
  | zero =>
    have := X.pushed (ma_c cA N T.heap.size 0)
    rw [(ma_c_f cA N T.heap.size 0).2.2] at this
    simp only [List.range_zero, List.map_nil, List.append_nil, Nat.zero_mul, Nat.add_zero]
    exact this
  | succ i ih =>
    obtain ⟨f1, f2, _⟩ := ma_F_f T cA cI N K i
    have h1 := ih.pushed (ma_i cI K)
    have h2 := h1.stored (a := T.heap.size) (cell := ma_c cA N T.heap.size i) (by
      show ((ma_F T cA cI N K i).heap.push _)[T.heap.size]? = _
      rw [Array.getElem?_push, if_neg (by omega)]
      exact f2) i (.ref (T.heap.size + 1 + i))
    rw [show (ma_i cI K).slots.size = K from by simp [ma_i]] at h2
    rw [List.range_succ, List.map_append, ← List.append_assoc, Nat.add_mul, Nat.one_mul, ← Nat.add_assoc (slots + N)]
    exact h2
theorem ma_go (X : Stand p l e R s m args below meth c T locs cells slots) (hexec : p.tables.exec = Jvm.exec) {own : String} {index : Nat} {cA cI comp : ClassId} {kA kI : Class} {n k0 : Int32} {N K : Nat} (hown : s.vm.findClass own = some m.cls) (hclink : (Cond.classLink own index "[[I").before args s = true) (hcA : s.vm.findClass "[[I" = some cA) (hkA : s.vm.classes[cA]? = some kA) (hkindA : kA.kind = .array cI (.array .int)) (hkI : s.vm.classes[cI]? = some kI) (hkindI : kI.kind = .array comp .int)
    {g : JFrame} (hg : g.method = m) (hdg : decode c.code g.pc = .ok (.multianewarray index 2, 4)) {rest : List Value} (hstack : g.stack = .int k0 :: .int n :: rest) (hn : ¬ n < 0) (hk : ¬ k0 < 0) (hN : n.toNatClampNeg = N) (hK : k0.toNatClampNeg = K) (hs : N ≤ 200 ∧ K ≤ 200) (hcells : cells + (1 + N) ≤ R.cells) (hslots : slots + (N + N * K) ≤ R.slots) :
    ∃ U : State, U.heap = T.heap ∧ Stand p l e R s m args below meth c (ma_F U cA cI N K N) (locs ++ (List.range N).map (fun j => ⟨T.heap.size, j⟩)) (cells + 1 + N) (slots + N + N * K) ∧
      ∀ target, Steps p.tables e below ((ma_F U cA cI N K N).setTop { g with pc := g.pc + 4, stack := .ref T.heap.size :: rest }) target → Steps p.tables e below (T.setTop g) target := by
  subst hg
  have hpl : e.platform.magicAccessors = ({} : Platform).magicAccessors := by rw [X.admits.platform]
  obtain ⟨cc, hfcc, hcl⟩ := Cond.classLink_spec hown hclink e.platform hpl
  cases hcA.symm.trans hfcc
  obtain ⟨hg1, hwarm1, _⟩ := State.classEntry (e := e) X.warmed hcl
  have hsz : (T.vm.noted g.method.cls index (.cls cA)).classes.size ≤ T.vm.classes.size := by rw [Vm.size_noted]; exact Nat.le_refl _
  generalize T.vm.noted g.method.cls index (.cls cA) = vm1 at hg1 hwarm1 hsz
  have hal : s.vm.Alike vm1 := hwarm1.alike
  obtain ⟨kA1, hkA1, heA⟩ := hal.2.2 _ _ hkA
  obtain ⟨kI1, hkI1, heI⟩ := hal.2.2 _ _ hkI
  have X1 := ma_st (X.noted hwarm1) cA cI N K N
  obtain ⟨hr1, hr2⟩ := X.roomAbove hcells hslots
  refine ⟨T.setVm vm1, rfl, X1, fun target hrest => ?_⟩
  refine Steps.instr (c := c) X.here ?_
  rw [hdg]
  dsimp only
  rw [hexec]
  refine ma_wp (index := index) (n := n) (k0 := k0) (N := N) (K := K) X.here.top hg1 hsz hstack hN hK hkA1 (by rw [heA]; exact hkindA) hkI1 (by rw [heI]; exact hkindI) hn hk ?_ ?_ (by omega) (by omega) fun d' acts' => ?_
  · rw [Launch.admits_arrayLengthLimit X.admits]; omega
  · rw [Launch.admits_maxHeapBytes X.admits]
    refine ⟨?_, ?_⟩
    · show ¬ N * 4 > 536870912; omega
    · show ¬ K * 4 > 536870912; omega
  · intro acts
    rw [afterInstr_ok]
    exact hrest
end MNB
section MNC
variable {E : mm_E} {b : Nat} {Y : mm_Y} {R : Room} {Qf : nn_Q} {d mc ms pc nc ns : Nat} {lv : List (Nat × Value)} {st : List Value} {X X2 X' : List nn_C}
theorem ma_cell (cA : ClassId) (N a : Nat) : ∀ i, i ≤ N → ma_c cA N a i = arrV cA N (fun j => if j < i then .ref (a + 1 + j) else .null) := by
  intro i
  induction i with
  | zero =>
    intro _
    show ({ cls := cA, slots := Array.replicate N .null } : Cell) = _
    unfold arrV
    congr 1
    apply Array.ext_getElem?
    intro j
    simp [Array.getElem?_replicate, Array.getElem?_ofFn]
  | succ i ih =>
    intro hi
    show (ma_c cA N a i).setSlot i (.ref (a + 1 + i)) = _
    rw [ih (by omega)]
    unfold arrV Cell.setSlot
    congr 1
    apply Array.ext_getElem?
    intro j
    simp only [Array.getElem?_setIfInBounds, Array.getElem?_ofFn, Array.size_ofFn]
    by_cases e : i = j
    · subst e
      simp [show i < N by omega]
    · by_cases hj : j < N
      · by_cases h : j < i
        · simp [e, hj, h, show j < i + 1 by omega]
        · simp [e, hj, h, show ¬ j < i + 1 by omega]
      · simp [e, hj]
theorem nn_mna {idx N K : Nat} {n k0 : Int32} (hd : decode Y.2.1 pc = .ok (.multianewarray idx 2, 4)) (hw : Cond.classLink Y.1.cls idx "[[I" ∈ mm_tb) (hn : ¬ n < 0) (hk : ¬ k0 < 0) (hN : n.toNatClampNeg = N) (hK : k0.toNatClampNeg = K) (hs : N ≤ 200 ∧ K ≤ 200) (hb : nc + 1 + N ≤ R.cells ∧ ns + N + N * K ≤ R.slots) (hX : X.length + 1 + N ≤ 140) (hX2 : X ++ (.inr (2, N, .inr (X.length + 1)) :: List.replicate N (.inr (0, K, .inl (fun _ => 0)))) = X2) (k : nn_W E b Y R mc ms (pc + 4) lv (.ref X.length :: st) X2 (nc + 1 + N) (ns + N + N * K) Qf) : nn_W E b Y R mc ms pc lv (.int k0 :: .int n :: st) X nc ns Qf := by
  intro p ee s m args below meth c H locs ls C hP hz hS hl T hT XX
  have hts := nn_hts C
  have hKK := C.2.2.2.2.2.2.2.1.1
  have hB := C.2.2.2.2.2.2.2.1.2.2.1
  obtain ⟨kA, hkA, hkindA⟩ := C.2.2.2.2.2.2.2.1.2.2.2
  obtain ⟨_, kI, hkI, comp, hkindI⟩ := (hKK.2 0 _ rfl).1 0 (fun _ => .null)
  have hcA : s.vm.findClass "[[I" = some (E.2.2.2 2) := (hKK.2 2 _ rfl).2
  obtain ⟨U, u1, u2, u3⟩ := ma_go XX C.1 (g := F0 m pc ls (.int k0 :: .int n :: st.map (mm_cv E))) C.2.2.2.2.1 (hts _ hw) hcA hkA hkindA hkI hkindI rfl (by rw [C.2.1]; exact hd) rfl hn hk hN hK hs (by omega) (by omega)
  obtain ⟨f1, f2, f3, f4, f5, f6⟩ := ma_F_f U (E.2.2.2 2) (E.2.2.2 0) N K N
  rw [u1, hT] at f1 f2 f5 f6
  have ha : H.size = E.2.2.1 X.length := by rw [hB _ (by omega)]; exact hz
  have hP1 : va_P E.2.1 vwCl (nn_ws E X2) (ma_F U (E.2.2.2 2) (E.2.2.2 0) N K N).heap := by
    rw [← hX2, nn_app]
    refine (hP.kept (fun k x hx => f5 x.1 ((hP k x hx).lt))).app (fun k x hx => ?_)
    simp only [List.getElem?_mapIdx, Option.map_eq_some_iff] at hx
    obtain ⟨c0, hc0, rfl⟩ := hx
    cases k with
    | zero =>
      cases hc0
      show (ma_F U (E.2.2.2 2) (E.2.2.2 0) N K N).heap[E.2.2.1 X.length]? = some (vp_cell (E.2.2.2 2) (N, .inr (.inr (.inr (.inr (fun j => some (E.2.2.1 (X.length + 1 + j))))))))
      rw [← ha, f2, ma_cell _ N _ N (Nat.le_refl _), vp_cell_q]
      congr 1
      unfold arrV
      congr 2
      funext j
      dsimp only
      rw [if_pos j.2, hB _ (by have := j.2; omega)]
      exact congrArg Value.ref (show H.size + 1 + j.val = b + (X.length + 1 + j.val) by omega)
    | succ k =>
      rw [List.getElem?_cons_succ, List.getElem?_replicate] at hc0
      by_cases hkN : k < N
      · rw [if_pos hkN] at hc0
        cases hc0
        show (ma_F U (E.2.2.2 2) (E.2.2.2 0) N K N).heap[E.2.2.1 (X.length + (k + 1))]? = some (vp_cell (E.2.2.2 0) (K, .inl (fun _ => 0)))
        rw [hB _ (by omega), show b + (X.length + (k + 1)) = H.size + 1 + k by omega, f6 k hkN]
        congr 1
        exact (arrV_new (E.2.2.2 0) K (.int 0))
      · rw [if_neg hkN] at hc0
        cases hc0
  obtain ⟨t, t1, t2⟩ := k p ee s m args below meth c _ (locs ++ (List.range N).map (fun j => ⟨T.heap.size, j⟩)) ls C hP1 (by rw [f1, ← hX2]; simp; omega) ⟨Nat.le_trans hS.1 (by rw [f1]; omega), fun x g1 g2 => (f5 x (Nat.lt_of_lt_of_le g1 hS.1)).trans (hS.2.1 x g1 g2), fun q hq => by
      rcases List.mem_append.mp hq with h | h
      · exact hS.2.2 q h
      · obtain ⟨j, _, rfl⟩ := List.mem_map.mp h
        show b ≤ T.heap.size
        rw [hT, hz]
        omega⟩ hl _ rfl u2
  refine ⟨t, u3 t ?_, t2⟩
  rw [hT, ha]
  exact t1
end MNC
