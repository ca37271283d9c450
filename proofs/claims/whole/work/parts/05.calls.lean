section MMK
variable {α : Type} {em : α → Option Value} {E : mm_E} {Y : mm_Y} {d pc : Nat} {lv : List (Nat × Value)} {st : List Value} {M : mm_M} {e e1 e2 : Option (α × mm_M)}
def mm_fu : Nat := 5000
abbrev mm_rd : Nat := 60
def mm_jn {β γ : Type} (j : β) (f : β → γ) : γ := f j
def mm_bd {β γ : Type} (x : Option (β × mm_M)) (f : β → mm_M → Option γ) : Option γ := x.bind (fun q => f q.1 q.2)
theorem mm_none : mm_G em E Y d pc lv st M none := fun r M' he => by cases he
theorem mm_wk (ks : List Nat) {lv2 : List (Nat × Value)} (hk : lv_pick lv ks = lv2) (k : mm_G em E Y d pc lv2 st M e) : mm_G em E Y d pc lv st M e :=
  fun r M' he p ee s m args below meth c H locs ls C hP hS hl => k r M' he p ee s m args below meth c H locs ls C hP hS (mm_pick hl ks hk)
theorem mm_jnP {β : Type} {P : β → Prop} {j : β} {f : β → Option (α × mm_M)} (hj : P j) (k : ∀ j : β, P j → mm_G em E Y d pc lv st M (f j)) : mm_G em E Y d pc lv st M (mm_jn j f) := k j hj
theorem mm_nm_M {f : mm_M → Option (α × mm_M)} (k : ∀ M2 : mm_M, mm_G em E Y d pc lv st M2 (f M2)) : mm_G em E Y d pc lv st M (mm_let M f) := k M
theorem mm_iincN (q : Nat) (ks : List Nat) {i : Nat} {n : Int} {x v : Int32} {lv2 : Int32 → List (Nat × Value)} {f : Int32 → Option (α × mm_M)} (hd : decode Y.2.1 pc = .ok (.iinc i n, 3)) (hq : lv[q]? = some (i, .int x)) (hv : x + Int32.ofInt n = v) (hn : i < Y.2.2.1) (hk : ∀ y : Int32, lv_pick ((i, .int y) :: mm_st1 lv i) ks = lv2 y) (k : ∀ y : Int32, mm_G em E Y d (pc + 3) (lv2 y) st M (f y)) : mm_G em E Y d pc lv st M (mm_let v f) :=
  mm_iinc q ks hd hq hv hn (hk v) (k v)
theorem mm_callSi {z : mm_Y} {dz n idx : Nat} {as : List Value} {ez : Option (Int32 × mm_M)} {f : Int32 → mm_M → Option (α × mm_M)} (hz : ∀ (b : Int32) (M1 : mm_M), ez = some (b, M1) → mm_P E z dz as M (some (.int b)) M1)
    (hd : decode Y.2.1 pc = .ok (.invokestatic idx, 3)) (hZ : mm_Z z n) (hl0 : Cond.methodLink Y.1.cls idx z.1 ∈ mm_tb) (hs0 : Cond.static z.1 ∈ mm_tb) (hn : as.length = n) (hR : dz + 1 ≤ d ∧ 8 + (z.2.2.1 + 11) + 60 * dz ≤ 60 * d) (hst : (st.map fun v => v.category).sum ≤ 8) (kk : ∀ (b : Int32) (M1 : mm_M), mm_G em E Y d (pc + 3) lv (.int b :: st) M1 (f b M1)) : mm_G em E Y d pc lv (as.reverse ++ st) M (mm_bd ez f) :=
  mm_callS (emz := (fun x : Int32 => some (.int x))) hz hd hZ hl0 hs0 hn hR hst kk
theorem mm_callSNi {z : mm_Y} {dz n idx : Nat} {host : String} {as : List Value} {ez : Option (Int32 × mm_M)} {f : Int32 → mm_M → Option (α × mm_M)} (hz : ∀ (b : Int32) (M1 : mm_M), ez = some (b, M1) → mm_P E z dz as M (some (.int b)) M1)
    (hd : decode Y.2.1 pc = .ok (.invokestatic idx, 3)) (hZ : mm_Z z n) (hl0 : Cond.methodLinkNest Y.1.cls idx z.1 host ∈ mm_nw) (hs0 : Cond.static z.1 ∈ mm_tb) (hn : as.length = n) (hR : dz + 1 ≤ d ∧ 8 + (z.2.2.1 + 11) + 60 * dz ≤ 60 * d) (hst : (st.map fun v => v.category).sum ≤ 8) (kk : ∀ (b : Int32) (M1 : mm_M), mm_G em E Y d (pc + 3) lv (.int b :: st) M1 (f b M1)) : mm_G em E Y d pc lv (as.reverse ++ st) M (mm_bd ez f) :=
  mm_callSN (emz := (fun x : Int32 => some (.int x))) hz hd hZ hl0 hs0 hn hR hst kk
theorem mm_callVi {z : mm_Y} {dz n idx o ci : Nat} {ks : List Nat} {Q : vw_C} {as : List Value} {ez : Option (Int32 × mm_M)} {f : Int32 → mm_M → Option (α × mm_M)} (hz : ∀ (b : Int32) (M1 : mm_M), ez = some (b, M1) → mm_P E z dz (.ref o :: as) M (some (.int b)) M1)
    (hd : decode Y.2.1 pc = .ok (.invokevirtual idx, 3)) (hZ : mm_Z z n) (hl0 : Cond.methodLink Y.1.cls idx z.1 ∈ mm_tb) (hi0 : Cond.instanceMethod z.1 ∈ mm_tb) (hs0 : Cond.selects z.1.cls z.1 z.1 ∈ mm_tb) (ho : mm_lay[o]? = some (.inl (ci, ks))) (hc : vwCl[ci]? = some Q) (hq : Q.1 = z.1.cls) (hn : as.length = n) (hR : dz + 1 ≤ d ∧ 8 + (z.2.2.1 + 11) + 60 * dz ≤ 60 * d) (hst : (st.map fun v => v.category).sum ≤ 8) (kk : ∀ (b : Int32) (M1 : mm_M), mm_G em E Y d (pc + 3) lv (.int b :: st) M1 (f b M1)) : mm_G em E Y d pc lv (as.reverse ++ .ref o :: st) M (mm_bd ez f) :=
  mm_callV (emz := (fun x : Int32 => some (.int x))) hz hd hZ hl0 hi0 hs0 ho hc hq hn hR hst kk
theorem mm_callSz {z : mm_Y} {dz n idx : Nat} {as : List Value} {ez : Option (Bool × mm_M)} {f : Bool → mm_M → Option (α × mm_M)} (hz : ∀ (b : Bool) (M1 : mm_M), ez = some (b, M1) → mm_P E z dz as M (some (.int (mm_b b))) M1)
    (hd : decode Y.2.1 pc = .ok (.invokestatic idx, 3)) (hZ : mm_Z z n) (hl0 : Cond.methodLink Y.1.cls idx z.1 ∈ mm_tb) (hs0 : Cond.static z.1 ∈ mm_tb) (hn : as.length = n) (hR : dz + 1 ≤ d ∧ 8 + (z.2.2.1 + 11) + 60 * dz ≤ 60 * d) (hst : (st.map fun v => v.category).sum ≤ 8) (kk : ∀ (b : Bool) (M1 : mm_M), mm_G em E Y d (pc + 3) lv (.int (mm_b b) :: st) M1 (f b M1)) : mm_G em E Y d pc lv (as.reverse ++ st) M (mm_bd ez f) :=
  mm_callS (emz := (fun x : Bool => some (.int (mm_b x)))) hz hd hZ hl0 hs0 hn hR hst kk
theorem mm_callSNz {z : mm_Y} {dz n idx : Nat} {host : String} {as : List Value} {ez : Option (Bool × mm_M)} {f : Bool → mm_M → Option (α × mm_M)} (hz : ∀ (b : Bool) (M1 : mm_M), ez = some (b, M1) → mm_P E z dz as M (some (.int (mm_b b))) M1)
    (hd : decode Y.2.1 pc = .ok (.invokestatic idx, 3)) (hZ : mm_Z z n) (hl0 : Cond.methodLinkNest Y.1.cls idx z.1 host ∈ mm_nw) (hs0 : Cond.static z.1 ∈ mm_tb) (hn : as.length = n) (hR : dz + 1 ≤ d ∧ 8 + (z.2.2.1 + 11) + 60 * dz ≤ 60 * d) (hst : (st.map fun v => v.category).sum ≤ 8) (kk : ∀ (b : Bool) (M1 : mm_M), mm_G em E Y d (pc + 3) lv (.int (mm_b b) :: st) M1 (f b M1)) : mm_G em E Y d pc lv (as.reverse ++ st) M (mm_bd ez f) :=
  mm_callSN (emz := (fun x : Bool => some (.int (mm_b x)))) hz hd hZ hl0 hs0 hn hR hst kk
theorem mm_callVz {z : mm_Y} {dz n idx o ci : Nat} {ks : List Nat} {Q : vw_C} {as : List Value} {ez : Option (Bool × mm_M)} {f : Bool → mm_M → Option (α × mm_M)} (hz : ∀ (b : Bool) (M1 : mm_M), ez = some (b, M1) → mm_P E z dz (.ref o :: as) M (some (.int (mm_b b))) M1)
    (hd : decode Y.2.1 pc = .ok (.invokevirtual idx, 3)) (hZ : mm_Z z n) (hl0 : Cond.methodLink Y.1.cls idx z.1 ∈ mm_tb) (hi0 : Cond.instanceMethod z.1 ∈ mm_tb) (hs0 : Cond.selects z.1.cls z.1 z.1 ∈ mm_tb) (ho : mm_lay[o]? = some (.inl (ci, ks))) (hc : vwCl[ci]? = some Q) (hq : Q.1 = z.1.cls) (hn : as.length = n) (hR : dz + 1 ≤ d ∧ 8 + (z.2.2.1 + 11) + 60 * dz ≤ 60 * d) (hst : (st.map fun v => v.category).sum ≤ 8) (kk : ∀ (b : Bool) (M1 : mm_M), mm_G em E Y d (pc + 3) lv (.int (mm_b b) :: st) M1 (f b M1)) : mm_G em E Y d pc lv (as.reverse ++ .ref o :: st) M (mm_bd ez f) :=
  mm_callV (emz := (fun x : Bool => some (.int (mm_b x)))) hz hd hZ hl0 hi0 hs0 ho hc hq hn hR hst kk
theorem mm_callSj {z : mm_Y} {dz n idx : Nat} {as : List Value} {ez : Option (Int64 × mm_M)} {f : Int64 → mm_M → Option (α × mm_M)} (hz : ∀ (b : Int64) (M1 : mm_M), ez = some (b, M1) → mm_P E z dz as M (some (.long b)) M1)
    (hd : decode Y.2.1 pc = .ok (.invokestatic idx, 3)) (hZ : mm_Z z n) (hl0 : Cond.methodLink Y.1.cls idx z.1 ∈ mm_tb) (hs0 : Cond.static z.1 ∈ mm_tb) (hn : as.length = n) (hR : dz + 1 ≤ d ∧ 8 + (z.2.2.1 + 11) + 60 * dz ≤ 60 * d) (hst : (st.map fun v => v.category).sum ≤ 8) (kk : ∀ (b : Int64) (M1 : mm_M), mm_G em E Y d (pc + 3) lv (.long b :: st) M1 (f b M1)) : mm_G em E Y d pc lv (as.reverse ++ st) M (mm_bd ez f) :=
  mm_callS (emz := (fun x : Int64 => some (.long x))) hz hd hZ hl0 hs0 hn hR hst kk
theorem mm_callSNj {z : mm_Y} {dz n idx : Nat} {host : String} {as : List Value} {ez : Option (Int64 × mm_M)} {f : Int64 → mm_M → Option (α × mm_M)} (hz : ∀ (b : Int64) (M1 : mm_M), ez = some (b, M1) → mm_P E z dz as M (some (.long b)) M1)
    (hd : decode Y.2.1 pc = .ok (.invokestatic idx, 3)) (hZ : mm_Z z n) (hl0 : Cond.methodLinkNest Y.1.cls idx z.1 host ∈ mm_nw) (hs0 : Cond.static z.1 ∈ mm_tb) (hn : as.length = n) (hR : dz + 1 ≤ d ∧ 8 + (z.2.2.1 + 11) + 60 * dz ≤ 60 * d) (hst : (st.map fun v => v.category).sum ≤ 8) (kk : ∀ (b : Int64) (M1 : mm_M), mm_G em E Y d (pc + 3) lv (.long b :: st) M1 (f b M1)) : mm_G em E Y d pc lv (as.reverse ++ st) M (mm_bd ez f) :=
  mm_callSN (emz := (fun x : Int64 => some (.long x))) hz hd hZ hl0 hs0 hn hR hst kk
theorem mm_callVj {z : mm_Y} {dz n idx o ci : Nat} {ks : List Nat} {Q : vw_C} {as : List Value} {ez : Option (Int64 × mm_M)} {f : Int64 → mm_M → Option (α × mm_M)} (hz : ∀ (b : Int64) (M1 : mm_M), ez = some (b, M1) → mm_P E z dz (.ref o :: as) M (some (.long b)) M1)
    (hd : decode Y.2.1 pc = .ok (.invokevirtual idx, 3)) (hZ : mm_Z z n) (hl0 : Cond.methodLink Y.1.cls idx z.1 ∈ mm_tb) (hi0 : Cond.instanceMethod z.1 ∈ mm_tb) (hs0 : Cond.selects z.1.cls z.1 z.1 ∈ mm_tb) (ho : mm_lay[o]? = some (.inl (ci, ks))) (hc : vwCl[ci]? = some Q) (hq : Q.1 = z.1.cls) (hn : as.length = n) (hR : dz + 1 ≤ d ∧ 8 + (z.2.2.1 + 11) + 60 * dz ≤ 60 * d) (hst : (st.map fun v => v.category).sum ≤ 8) (kk : ∀ (b : Int64) (M1 : mm_M), mm_G em E Y d (pc + 3) lv (.long b :: st) M1 (f b M1)) : mm_G em E Y d pc lv (as.reverse ++ .ref o :: st) M (mm_bd ez f) :=
  mm_callV (emz := (fun x : Int64 => some (.long x))) hz hd hZ hl0 hi0 hs0 ho hc hq hn hR hst kk
theorem mm_callSr {z : mm_Y} {dz n idx : Nat} {as : List Value} {ez : Option (Nat × mm_M)} {f : Nat → mm_M → Option (α × mm_M)} (hz : ∀ (b : Nat) (M1 : mm_M), ez = some (b, M1) → mm_P E z dz as M (some (.ref b)) M1)
    (hd : decode Y.2.1 pc = .ok (.invokestatic idx, 3)) (hZ : mm_Z z n) (hl0 : Cond.methodLink Y.1.cls idx z.1 ∈ mm_tb) (hs0 : Cond.static z.1 ∈ mm_tb) (hn : as.length = n) (hR : dz + 1 ≤ d ∧ 8 + (z.2.2.1 + 11) + 60 * dz ≤ 60 * d) (hst : (st.map fun v => v.category).sum ≤ 8) (kk : ∀ (b : Nat) (M1 : mm_M), mm_G em E Y d (pc + 3) lv (.ref b :: st) M1 (f b M1)) : mm_G em E Y d pc lv (as.reverse ++ st) M (mm_bd ez f) :=
  mm_callS (emz := (fun x : Nat => some (.ref x))) hz hd hZ hl0 hs0 hn hR hst kk
theorem mm_callSNr {z : mm_Y} {dz n idx : Nat} {host : String} {as : List Value} {ez : Option (Nat × mm_M)} {f : Nat → mm_M → Option (α × mm_M)} (hz : ∀ (b : Nat) (M1 : mm_M), ez = some (b, M1) → mm_P E z dz as M (some (.ref b)) M1)
    (hd : decode Y.2.1 pc = .ok (.invokestatic idx, 3)) (hZ : mm_Z z n) (hl0 : Cond.methodLinkNest Y.1.cls idx z.1 host ∈ mm_nw) (hs0 : Cond.static z.1 ∈ mm_tb) (hn : as.length = n) (hR : dz + 1 ≤ d ∧ 8 + (z.2.2.1 + 11) + 60 * dz ≤ 60 * d) (hst : (st.map fun v => v.category).sum ≤ 8) (kk : ∀ (b : Nat) (M1 : mm_M), mm_G em E Y d (pc + 3) lv (.ref b :: st) M1 (f b M1)) : mm_G em E Y d pc lv (as.reverse ++ st) M (mm_bd ez f) :=
  mm_callSN (emz := (fun x : Nat => some (.ref x))) hz hd hZ hl0 hs0 hn hR hst kk
theorem mm_callVr {z : mm_Y} {dz n idx o ci : Nat} {ks : List Nat} {Q : vw_C} {as : List Value} {ez : Option (Nat × mm_M)} {f : Nat → mm_M → Option (α × mm_M)} (hz : ∀ (b : Nat) (M1 : mm_M), ez = some (b, M1) → mm_P E z dz (.ref o :: as) M (some (.ref b)) M1)
    (hd : decode Y.2.1 pc = .ok (.invokevirtual idx, 3)) (hZ : mm_Z z n) (hl0 : Cond.methodLink Y.1.cls idx z.1 ∈ mm_tb) (hi0 : Cond.instanceMethod z.1 ∈ mm_tb) (hs0 : Cond.selects z.1.cls z.1 z.1 ∈ mm_tb) (ho : mm_lay[o]? = some (.inl (ci, ks))) (hc : vwCl[ci]? = some Q) (hq : Q.1 = z.1.cls) (hn : as.length = n) (hR : dz + 1 ≤ d ∧ 8 + (z.2.2.1 + 11) + 60 * dz ≤ 60 * d) (hst : (st.map fun v => v.category).sum ≤ 8) (kk : ∀ (b : Nat) (M1 : mm_M), mm_G em E Y d (pc + 3) lv (.ref b :: st) M1 (f b M1)) : mm_G em E Y d pc lv (as.reverse ++ .ref o :: st) M (mm_bd ez f) :=
  mm_callV (emz := (fun x : Nat => some (.ref x))) hz hd hZ hl0 hi0 hs0 ho hc hq hn hR hst kk
theorem mm_callSv {z : mm_Y} {dz n idx : Nat} {as : List Value} {ez : Option (Unit × mm_M)} {f : Unit → mm_M → Option (α × mm_M)} (hz : ∀ (b : Unit) (M1 : mm_M), ez = some (b, M1) → mm_P E z dz as M none M1)
    (hd : decode Y.2.1 pc = .ok (.invokestatic idx, 3)) (hZ : mm_Z z n) (hl0 : Cond.methodLink Y.1.cls idx z.1 ∈ mm_tb) (hs0 : Cond.static z.1 ∈ mm_tb) (hn : as.length = n) (hR : dz + 1 ≤ d ∧ 8 + (z.2.2.1 + 11) + 60 * dz ≤ 60 * d) (hst : (st.map fun v => v.category).sum ≤ 8) (kk : ∀ (b : Unit) (M1 : mm_M), mm_G em E Y d (pc + 3) lv ( st) M1 (f b M1)) : mm_G em E Y d pc lv (as.reverse ++ st) M (mm_bd ez f) :=
  mm_callS (emz := (fun _ : Unit => none)) hz hd hZ hl0 hs0 hn hR hst kk
theorem mm_callSNv {z : mm_Y} {dz n idx : Nat} {host : String} {as : List Value} {ez : Option (Unit × mm_M)} {f : Unit → mm_M → Option (α × mm_M)} (hz : ∀ (b : Unit) (M1 : mm_M), ez = some (b, M1) → mm_P E z dz as M none M1)
    (hd : decode Y.2.1 pc = .ok (.invokestatic idx, 3)) (hZ : mm_Z z n) (hl0 : Cond.methodLinkNest Y.1.cls idx z.1 host ∈ mm_nw) (hs0 : Cond.static z.1 ∈ mm_tb) (hn : as.length = n) (hR : dz + 1 ≤ d ∧ 8 + (z.2.2.1 + 11) + 60 * dz ≤ 60 * d) (hst : (st.map fun v => v.category).sum ≤ 8) (kk : ∀ (b : Unit) (M1 : mm_M), mm_G em E Y d (pc + 3) lv ( st) M1 (f b M1)) : mm_G em E Y d pc lv (as.reverse ++ st) M (mm_bd ez f) :=
  mm_callSN (emz := (fun _ : Unit => none)) hz hd hZ hl0 hs0 hn hR hst kk
theorem mm_callVv {z : mm_Y} {dz n idx o ci : Nat} {ks : List Nat} {Q : vw_C} {as : List Value} {ez : Option (Unit × mm_M)} {f : Unit → mm_M → Option (α × mm_M)} (hz : ∀ (b : Unit) (M1 : mm_M), ez = some (b, M1) → mm_P E z dz (.ref o :: as) M none M1)
    (hd : decode Y.2.1 pc = .ok (.invokevirtual idx, 3)) (hZ : mm_Z z n) (hl0 : Cond.methodLink Y.1.cls idx z.1 ∈ mm_tb) (hi0 : Cond.instanceMethod z.1 ∈ mm_tb) (hs0 : Cond.selects z.1.cls z.1 z.1 ∈ mm_tb) (ho : mm_lay[o]? = some (.inl (ci, ks))) (hc : vwCl[ci]? = some Q) (hq : Q.1 = z.1.cls) (hn : as.length = n) (hR : dz + 1 ≤ d ∧ 8 + (z.2.2.1 + 11) + 60 * dz ≤ 60 * d) (hst : (st.map fun v => v.category).sum ≤ 8) (kk : ∀ (b : Unit) (M1 : mm_M), mm_G em E Y d (pc + 3) lv ( st) M1 (f b M1)) : mm_G em E Y d pc lv (as.reverse ++ .ref o :: st) M (mm_bd ez f) :=
  mm_callV (emz := (fun _ : Unit => none)) hz hd hZ hl0 hi0 hs0 ho hc hq hn hR hst kk
theorem mm_callTi {z : mm_Y} {dz n idx o : Nat} {as : List Value} {ez : Option (Int32 × mm_M)} {f : Int32 → mm_M → Option (α × mm_M)} (hz : ∀ (b : Int32) (M1 : mm_M), ez = some (b, M1) → mm_P E z dz (.ref o :: as) M (some (.int b)) M1)
    (hd : decode Y.2.1 pc = .ok (.invokevirtual idx, 3)) (hZ : mm_Z z n) (hl0 : Cond.methodLink Y.1.cls idx z.1 ∈ mm_tb) (hi0 : Cond.instanceMethod z.1 ∈ mm_tb) (hs0 : Cond.selects z.1.cls z.1 z.1 ∈ mm_tb) (ho : mm_lay.length ≤ o ∧ o < mm_lay.length + 6) (hq : z.1.cls = "java/lang/String") (hn : as.length = n) (hR : dz + 1 ≤ d ∧ 8 + (z.2.2.1 + 11) + 60 * dz ≤ 60 * d) (hst : (st.map fun v => v.category).sum ≤ 8)
    (kk : ∀ (b : Int32) (M1 : mm_M), mm_G em E Y d (pc + 3) lv (.int b :: st) M1 (f b M1)) : mm_G em E Y d pc lv (as.reverse ++ .ref o :: st) M (mm_bd ez f) := by
  intro r M' he p ee s m args below meth c H locs ls C hP hS hl
  obtain ⟨⟨b, M1⟩, hb, he⟩ := Option.bind_eq_some_iff.mp he
  have hts := mm_hts C
  have cw : CallW (mm_rm d) s args Y.1.cls z.1.cls idx z.1 z.2.1 z.2.2.1 z.2.2.2 (mm_wy z) (mm_rm dz) 0 0 n :=
    ⟨callB_of n C.2.2.2.2.2.1 (mm_good hZ.1) rfl rfl rfl (hts _ hZ.2.1) (hts _ hl0) hZ.2.2 hR, hts _ hi0, hts _ hs0⟩
  obtain ⟨hs1, -, -⟩ := C.2.2.2.2.2.2.2.2
  have hrec := vk_recv (i := o - mm_lay.length) hs1 (by omega) hS
  rw [← hq] at hrec
  have ho2 : mm_lay.length + (o - mm_lay.length) = o := by omega
  rw [ho2] at hrec
  have hpre := mm_pre (as := .ref o :: as) C hP hS
  refine mm_after (emz := fun x : Int32 => some (.int x)) kk he C hS hl (a := ((Value.ref o :: as).map (mm_cv E)).toArray) ?_
  refine va_runV (C := z.1.cls) (As := as.map (mm_cv E)) (rest := st.map (mm_cv E)) (cc := Y.2.1) (nL := Y.2.2.1) (Ts := mm_wy Y) ⟨C.1, C.2.1, C.2.2.2.1, C.2.2.2.2.1, C.2.2.2.2.2.1⟩ (hz b M1 hb) cw ⟨hpre.1, hrec, hpre.2⟩ rfl (by simpa using hn) hl.1 (by simp [mm_cv]) ?_ hd ⟨Nat.le_refl _, Nat.le_refl _⟩
  refine lv_room ?_
  rw [List.map_map]
  simpa [Function.comp_def, mm_cat] using hst
theorem mm_callTz {z : mm_Y} {dz n idx o : Nat} {as : List Value} {ez : Option (Bool × mm_M)} {f : Bool → mm_M → Option (α × mm_M)} (hz : ∀ (b : Bool) (M1 : mm_M), ez = some (b, M1) → mm_P E z dz (.ref o :: as) M (some (.int (mm_b b))) M1)
    (hd : decode Y.2.1 pc = .ok (.invokevirtual idx, 3)) (hZ : mm_Z z n) (hl0 : Cond.methodLink Y.1.cls idx z.1 ∈ mm_tb) (hi0 : Cond.instanceMethod z.1 ∈ mm_tb) (hs0 : Cond.selects z.1.cls z.1 z.1 ∈ mm_tb) (ho : mm_lay.length ≤ o ∧ o < mm_lay.length + 6) (hq : z.1.cls = "java/lang/String") (hn : as.length = n) (hR : dz + 1 ≤ d ∧ 8 + (z.2.2.1 + 11) + 60 * dz ≤ 60 * d) (hst : (st.map fun v => v.category).sum ≤ 8)
    (kk : ∀ (b : Bool) (M1 : mm_M), mm_G em E Y d (pc + 3) lv (.int (mm_b b) :: st) M1 (f b M1)) : mm_G em E Y d pc lv (as.reverse ++ .ref o :: st) M (mm_bd ez f) := by
  intro r M' he p ee s m args below meth c H locs ls C hP hS hl
  obtain ⟨⟨b, M1⟩, hb, he⟩ := Option.bind_eq_some_iff.mp he
  have hts := mm_hts C
  have cw : CallW (mm_rm d) s args Y.1.cls z.1.cls idx z.1 z.2.1 z.2.2.1 z.2.2.2 (mm_wy z) (mm_rm dz) 0 0 n :=
    ⟨callB_of n C.2.2.2.2.2.1 (mm_good hZ.1) rfl rfl rfl (hts _ hZ.2.1) (hts _ hl0) hZ.2.2 hR, hts _ hi0, hts _ hs0⟩
  obtain ⟨hs1, -, -⟩ := C.2.2.2.2.2.2.2.2
  have hrec := vk_recv (i := o - mm_lay.length) hs1 (by omega) hS
  rw [← hq] at hrec
  have ho2 : mm_lay.length + (o - mm_lay.length) = o := by omega
  rw [ho2] at hrec
  have hpre := mm_pre (as := .ref o :: as) C hP hS
  refine mm_after (emz := fun x : Bool => some (.int (mm_b x))) kk he C hS hl (a := ((Value.ref o :: as).map (mm_cv E)).toArray) ?_
  refine va_runV (C := z.1.cls) (As := as.map (mm_cv E)) (rest := st.map (mm_cv E)) (cc := Y.2.1) (nL := Y.2.2.1) (Ts := mm_wy Y) ⟨C.1, C.2.1, C.2.2.2.1, C.2.2.2.2.1, C.2.2.2.2.2.1⟩ (hz b M1 hb) cw ⟨hpre.1, hrec, hpre.2⟩ rfl (by simpa using hn) hl.1 (by simp [mm_cv]) ?_ hd ⟨Nat.le_refl _, Nat.le_refl _⟩
  refine lv_room ?_
  rw [List.map_map]
  simpa [Function.comp_def, mm_cat] using hst
theorem mm_getSv {idx j t u : Nat} (hd : decode Y.2.1 pc = .ok (.getfield idx, 3)) (hl0 : Cond.fieldLink Y.1.cls idx "java/lang/String" "value" "[B" ∈ mm_tb) (hj : j < 6) (ht : mm_lay.length + j = t) (hu : mm_lay.length + 6 + j = u) (k : mm_G em E Y d (pc + 3) lv (.ref u :: st) M e) : mm_G em E Y d pc lv (.ref t :: st) M e := by
  subst ht; subst hu
  intro r M' he p ee s m args below meth c H locs ls C hP hS hl
  exact vk_getf C.1 C.2.1 (C.2.2.2.2.2.2.2.2.1.1 j hj).2.2.1 hS C.2.2.2.2.1 (mm_hts C _ hl0) (fun x hx => hx) hd (k r M' he p ee s m args below meth c H locs ls C hP hS hl)
theorem mm_getSc {idx j t : Nat} (hd : decode Y.2.1 pc = .ok (.getfield idx, 3)) (hl0 : Cond.fieldLink Y.1.cls idx "java/lang/String" "coder" "B" ∈ mm_tb) (hj : j < 6) (ht : mm_lay.length + j = t) (k : mm_G em E Y d (pc + 3) lv (.int 0 :: st) M e) : mm_G em E Y d pc lv (.ref t :: st) M e := by
  subst ht
  intro r M' he p ee s m args below meth c H locs ls C hP hS hl
  exact vk_getf C.1 C.2.1 (C.2.2.2.2.2.2.2.2.1.1 j hj).2.1 hS C.2.2.2.2.1 (mm_hts C _ hl0) (fun x hx => hx) hd (k r M' he p ee s m args below meth c H locs ls C hP hS hl)
theorem mm_gets {idx : Nat} (hd : decode Y.2.1 pc = .ok (.getstatic idx, 3)) (hl0 : Cond.fieldLink Y.1.cls idx "java/lang/String" "COMPACT_STRINGS" "Z" ∈ mm_tb) (k : mm_G em E Y d (pc + 3) lv (.int 1 :: st) M e) : mm_G em E Y d pc lv st M e := by
  intro r M' he p ee s m args below meth c H locs ls C hP hS hl
  exact va_gets C.1 C.2.1 C.2.2.2.2.2.2.2.2.2.1 hS C.2.2.2.2.1 (mm_hts C _ hl0) (fun x hx => hx) hd (k r M' he p ee s m args below meth c H locs ls C hP hS hl)
theorem mm_alenS {j u : Nat} {v : Int32} (hd : decode Y.2.1 pc = .ok (.arraylength, 1)) (hj : j < 6) (hu : mm_lay.length + 6 + j = u) (hv : Int32.ofNat (mm_len.getD j 0) = v) (k : mm_G em E Y d (pc + 1) lv (.int v :: st) M e) : mm_G em E Y d pc lv (.ref u :: st) M e := by
  subst hu
  intro r M' he p ee s m args below meth c H locs ls C hP hS hl
  exact va_tlen C.1 C.2.1 (C.2.2.2.2.2.2.2.2.1.1 j hj).2.2.2 hS hv hd (k r M' he p ee s m args below meth c H locs ls C hP hS hl)
theorem mm_baloadS {j u : Nat} {i : Int32} (hd : decode Y.2.1 pc = .ok (.baload, 1)) (hj : j < 6) (hu : mm_lay.length + 6 + j = u) (k : mm_G em E Y d (pc + 1) lv (.int ((mm_byt.getD j []).getD i.toNatClampNeg 0) :: st) M e) : mm_G em E Y d pc lv (.int i :: .ref u :: st) M (if mm_in i (mm_len.getD j 0) = true then e else none) := by
  subst hu
  intro r M' he p ee s m args below meth c H locs ls C hP hS hl
  by_cases hi : mm_in i (mm_len.getD j 0) = true
  · rw [if_pos hi] at he
    exact va_tb C.1 C.2.1 (C.2.2.2.2.2.2.2.2.1.1 j hj).2.2.2 hS (mm_in_vp hi) rfl hd (k r M' he p ee s m args below meth c H locs ls C hP hS hl)
  · rw [if_neg hi] at he; cases he
theorem mm_nret {ty : FieldType} {v : Int32} (hd : decode Y.2.1 pc = .ok (.ireturn, 1)) (hr : Y.2.2.2 = some ty) (hn : narrow ty (.int v) = .int v) : mm_G (fun x : Int32 => some (.int x)) E Y d pc lv [.int v] M (some (v, M)) := by
  intro r M' he p ee s m args below meth c H locs ls C hP hS hl
  cases he
  exact W.zret C.1 C.2.1 (C.2.2.1.trans hr) hn (fun t ht hW => ⟨⟨rfl, by rw [ht]; exact hP⟩, hS.F ht⟩) hS.2.2 hd C.2.2.2.2.2.2.1
end MMK
