def R_law : String := "WeatherHotelLaw"
def lw_P (b : Addr) (xs : List Int32) (args : Array Value) (s : State) : Prop := args = #[.ref b] ∧ s.IntsAt b xs ∧ xs.length ≤ 3072 ∧ (Jvm.Cond.and given_1 narrow_1).before args s = true
def lw_Q (_ : Array Value) (s : State) (o : Outcome) (t : State) : Prop := o = .returned (some (.int 1)) ∧ Framed s o t [] 600000 7302249
def lw_Z (below : List Frame) (a : Array Value) (s : State) : State → Prop := fun t => ∃ o, t.status = .running ∧ Ended t below o ∧ lw_Q a s o t
/-- the law's own end, with 1 on the stack, nothing written that was there before, its room as the claim has it -/
theorem lw_ret {p : Program} {l : Launch} {e : Env} {s : State} {m : MethodId} {below : List Frame} {meth : Method} {c : Code} {b : Nat} (hx : p.tables.exec = Jvm.exec) (hb : c.code = code) (hr : meth.sig.returnType = ret) (hlocks : meth.locks = false) {pc : Nat} {H : Heap} {ls : Array Slot} (hdg : decode code pc = .ok (.ireturn, 1)) : W p l e room_1 s m #[Value.ref b] below meth c H [] 600000 7302249 (lw_Z below #[Value.ref b] s) (F0 m pc ls [.int 1]) := by
  intro T hT X
  obtain ⟨fs, hret, hrun, hended, hW, hframe⟩ := X.leave (v := some (.int 1)) (hlocks := hlocks) (fun h => by rw [hr] at h; cases h)
  have hmeth' : T.vm.method? m = some meth := X.method'
  refine ⟨T.setFrames fs, ?_, .returned (some (.int 1)), hrun, hended, rfl, ⟨_, rfl⟩, hW, hframe⟩
  jvm_step X.here [X.here.top, hx, hb, hdg, hmeth', hr, ret, narrow_b1]
  (try refine ⟨rfl, ?_⟩); (try refine ⟨rfl, ?_⟩)
  first | (intro acts; rw [hret _ acts rfl rfl rfl]) | rw [hret _ _ rfl rfl rfl]
  exact Steps.refl _
/-- what holds at the law's entry: the machine, the code, the tables' words (any of lw_tbl by 'hts w (by decide +kernel)'), the script of L ints xs at the cell b, what the Statement gives of the start (any of its parts by flat_of_before) -/
def lw_At (p : Program) (s : State) (m : MethodId) (meth : Method) (c : Code) (b L : Nat) (xs : Nat → Int32) : Prop :=
  p.tables.exec = Jvm.exec ∧ c.code = code ∧ meth.sig.returnType = ret ∧ c.maxLocals = 4 ∧ s.vm.findClass R_law = some m.cls ∧ (∀ w ∈ lw_tbl, w.before #[Value.ref b] s = true) ∧ va_X b L xs s s.heap ∧ b < s.heap.size ∧ meth.locks = false ∧ (Jvm.Cond.and given_1 narrow_1).before #[Value.ref b] s = true

/-! THE LAW: its loop over the script, one call of the class and one of the reference for each six ints -/
def ll_C (E : mm_E) (L : Nat) (xs : Nat → Int32) (p : Program) (s : State) (m : MethodId) (args : Array Value) (meth : Method) (c : Code) : Prop :=
  p.tables.exec = Jvm.exec ∧ c.code = code ∧ meth.sig.returnType = ret ∧ c.maxLocals = 4 ∧ s.vm.findClass RL = some m.cls ∧ (∀ w ∈ mm_tb, w.before args s = true) ∧ meth.locks = false ∧ mm_T E s ∧ mm_S E s ∧ (va_X (E.2.2.1 152) L xs s s.heap ∧ E.2.2.1 152 < s.heap.size) ∧ args = #[Value.ref (E.2.2.1 152)] ∧ (∀ q, mm_A E q → s.heap.size ≤ q)
def ll_W (E : mm_E) (L : Nat) (xs : Nat → Int32) (pc : Nat) (lv : List (Nat × Value)) (st : List Value) (M : mm_M) : Prop :=
  ∀ (p : Program) (e : Env) (s : State) (m : MethodId) (args : Array Value) (below : List Frame) (meth : Method) (c : Code) (H : Heap) (locs : List Loc) (ls : Array Slot),
    ll_C E L xs p s m args meth c → va_P E.2.1 vwCl (mm_ws E M) H → va_S (mm_A E) s.heap H locs → lv_has ls 4 (mm_cl E lv) →
    W p E.1 e room_1 s m args below meth c H locs 140 9206 (lw_Z below args s) (F0 m pc ls (st.map (mm_cv E)))
section LLR
variable {E : mm_E} {L : Nat} {xs : Nat → Int32} {pc : Nat} {lv : List (Nat × Value)} {st : List Value} {M : mm_M}
theorem ll_aload_n (q : Nat) {n : Fin 4} {x : Nat} (hd : decode code pc = .ok (.aload_n n, 1)) (hq : lv[q]? = some ((n : Nat), .ref x)) (k : ll_W E L xs (pc + 1) lv (.ref x :: st) M) : ll_W E L xs pc lv st M :=
  fun p ee s m args below meth c H locs ls C hP hS hl => lv_aload_n C.1 C.2.1 hd rfl (mm_at hl hq) (k p ee s m args below meth c H locs ls C hP hS hl)
theorem ll_iload_n (q : Nat) {n : Fin 4} {x : Int32} (hd : decode code pc = .ok (.iload_n n, 1)) (hq : lv[q]? = some ((n : Nat), .int x)) (k : ll_W E L xs (pc + 1) lv (.int x :: st) M) : ll_W E L xs pc lv st M :=
  fun p ee s m args below meth c H locs ls C hP hS hl => lv_iload_n C.1 C.2.1 hd rfl (mm_at hl hq) (k p ee s m args below meth c H locs ls C hP hS hl)
theorem ll_iconst {n : Int} {v : Int32} (hd : decode code pc = .ok (.iconst n, 1)) (hv : Int32.ofInt n = v) (k : ll_W E L xs (pc + 1) lv (.int v :: st) M) : ll_W E L xs pc lv st M :=
  fun p ee s m args below meth c H locs ls C hP hS hl => lv_iconst C.1 C.2.1 hd hv (k p ee s m args below meth c H locs ls C hP hS hl)
theorem ll_bipush {n : Int} {v : Int32} (hd : decode code pc = .ok (.bipush n, 2)) (hv : (Int8.ofInt n).toInt32 = v) (k : ll_W E L xs (pc + 2) lv (.int v :: st) M) : ll_W E L xs pc lv st M :=
  fun p ee s m args below meth c H locs ls C hP hS hl => lv_bipush C.1 C.2.1 hd hv (k p ee s m args below meth c H locs ls C hP hS hl)
theorem ll_iadd {x y : Int32} (hd : decode code pc = .ok (.iadd, 1)) (k : ll_W E L xs (pc + 1) lv (.int (x + y) :: st) M) : ll_W E L xs pc lv (.int y :: .int x :: st) M :=
  fun p ee s m args below meth c H locs ls C hP hS hl => lv_iadd C.1 C.2.1 hd (k p ee s m args below meth c H locs ls C hP hS hl)
theorem ll_isub {x y : Int32} (hd : decode code pc = .ok (.isub, 1)) (k : ll_W E L xs (pc + 1) lv (.int (x - y) :: st) M) : ll_W E L xs pc lv (.int y :: .int x :: st) M :=
  fun p ee s m args below meth c H locs ls C hP hS hl => lv_isub C.1 C.2.1 hd (k p ee s m args below meth c H locs ls C hP hS hl)
theorem ll_iand {x y : Int32} (hd : decode code pc = .ok (.iand, 1)) (k : ll_W E L xs (pc + 1) lv (.int (x &&& y) :: st) M) : ll_W E L xs pc lv (.int y :: .int x :: st) M :=
  fun p ee s m args below meth c H locs ls C hP hS hl => lv_iand C.1 C.2.1 hd (k p ee s m args below meth c H locs ls C hP hS hl)
theorem ll_lcmp {x y : Int64} (hd : decode code pc = .ok (.lcmp, 1)) (k : ll_W E L xs (pc + 1) lv (.int (lg_cmp x y) :: st) M) : ll_W E L xs pc lv (.long y :: .long x :: st) M :=
  fun p ee s m args below meth c H locs ls C hP hS hl => W.lcmp C.1 C.2.1 hd (k p ee s m args below meth c H locs ls C hP hS hl)
theorem ll_out {q : Nat} (C : ∀ q, mm_A E q → L ≤ q) (h : q < L) : ¬ mm_A E q := fun z => by have := C q z; omega
theorem ll_slen (hd : decode code pc = .ok (.arraylength, 1)) (k : ll_W E L xs (pc + 1) lv (.int (nI L) :: st) M) : ll_W E L xs pc lv (.ref 152 :: st) M :=
  fun p ee s m args below meth c H locs ls C hP hS hl => va_slen C.1 C.2.1 C.2.2.2.2.2.2.2.2.2.1.1 C.2.2.2.2.2.2.2.2.2.1.2 (ll_out C.2.2.2.2.2.2.2.2.2.2.2 C.2.2.2.2.2.2.2.2.2.1.2) hS hd (k p ee s m args below meth c H locs ls C hP hS hl)
theorem ll_sld {i : Int32} {j : Nat} (hd : decode code pc = .ok (.iaload, 1)) (hi : i = nI j) (hj : j < L) (hL : L ≤ 3072) (k : ll_W E L xs (pc + 1) lv (.int (xs j) :: st) M) : ll_W E L xs pc lv (.int i :: .ref 152 :: st) M := by
  intro p ee s m args below meth c H locs ls C hP hS hl
  subst hi
  refine va_sld C.1 C.2.1 C.2.2.2.2.2.2.2.2.2.1.1 C.2.2.2.2.2.2.2.2.2.1.2 (ll_out C.2.2.2.2.2.2.2.2.2.2.2 C.2.2.2.2.2.2.2.2.2.1.2) hS (vp_in_nI hj (by omega)) hd ?_
  rw [nI_clamp (by omega)]
  exact k p ee s m args below meth c H locs ls C hP hS hl
theorem ll_icmp_gt (tgt : Nat) {x y : Int32} {off : Int} (hd : decode code pc = .ok (.if_icmp .gt off, 3)) (ht : (pc : Int) + off = (tgt : Int)) (k1 : y < x → ll_W E L xs tgt lv st M) (k2 : ¬ y < x → ll_W E L xs (pc + 3) lv st M) : ll_W E L xs pc lv (.int y :: .int x :: st) M :=
  fun p ee s m args below meth c H locs ls C hP hS hl => lv_icmp_gt C.1 C.2.1 hd ht (fun q => k1 q p ee s m args below meth c H locs ls C hP hS hl) (fun q => k2 q p ee s m args below meth c H locs ls C hP hS hl)
theorem ll_icmp_eq (tgt : Nat) {x : Int32} {off : Int} (hd : decode code pc = .ok (.if_icmp .eq off, 3)) (ht : (pc : Int) + off = (tgt : Int)) (k1 : ll_W E L xs tgt lv st M) : ll_W E L xs pc lv (.int x :: .int x :: st) M :=
  fun p ee s m args below meth c H locs ls C hP hS hl => lv_icmp_eq C.1 C.2.1 hd ht (fun _ => k1 p ee s m args below meth c H locs ls C hP hS hl) (fun q => absurd rfl q)
theorem ll_if_eq0 (tgt : Nat) {x : Int32} {off : Int} (hd : decode code pc = .ok (.ifCond .eq off, 3)) (ht : (pc : Int) + off = (tgt : Int)) (hx : x = 0) (k1 : ll_W E L xs tgt lv st M) : ll_W E L xs pc lv (.int x :: st) M :=
  fun p ee s m args below meth c H locs ls C hP hS hl => lv_if_eq C.1 C.2.1 hd ht (fun _ => k1 p ee s m args below meth c H locs ls C hP hS hl) (fun q => absurd hx q)
theorem ll_goto (tgt : Nat) {off : Int} (hd : decode code pc = .ok (.goto off, 3)) (ht : (pc : Int) + off = (tgt : Int)) (k : ll_W E L xs tgt lv st M) : ll_W E L xs pc lv st M :=
  fun p ee s m args below meth c H locs ls C hP hS hl => lv_goto C.1 C.2.1 hd ht (k p ee s m args below meth c H locs ls C hP hS hl)
theorem ll_iinc (q : Nat) (ks : List Nat) {lv2 : List (Nat × Value)} {i : Nat} {n : Int} {x v : Int32} (hd : decode code pc = .ok (.iinc i n, 3)) (hq : lv[q]? = some (i, .int x)) (hv : x + Int32.ofInt n = v) (hn : i < 4) (hk : lv_pick ((i, .int v) :: mm_st1 lv i) ks = lv2) (k : ll_W E L xs (pc + 3) lv2 st M) : ll_W E L xs pc lv st M :=
  fun p ee s m args below meth c H locs ls C hP hS hl => lv_iinc (k := q) C.1 C.2.1 hd hl (by rw [List.getElem?_map, hq]; rfl) hv hn (mm_fil1 E lv i (.int v)) (fun ls2 hl2 => k p ee s m args below meth c H locs ls2 C hP hS (mm_pick hl2 ks hk))
theorem ll_tabC (v : Int32) (tgt : Nat) {x : Int32} {dflt lo hi off : Int} {offs : Array Int} {len : Nat} (hd : decode code pc = .ok (.tableswitch dflt lo hi offs, len)) (h1 : ¬ v.toInt < lo) (h2 : ¬ hi < v.toInt) (ho : offs[(v.toInt - lo).toNat]? = some off) (ht : (pc : Int) + off = (tgt : Int)) (k1 : ll_W E L xs tgt lv st M) (k2 : ¬ x = v → ll_W E L xs pc lv (.int x :: st) M) : ll_W E L xs pc lv (.int x :: st) M := by
  by_cases q : x = v
  · subst q
    exact fun p ee s m args below meth c H locs ls C hP hS hl => lv_tableIn C.1 C.2.1 hd h1 h2 ho ht (k1 p ee s m args below meth c H locs ls C hP hS hl)
  · exact k2 q
theorem ll_tabD (tgt : Nat) {x : Int32} {dflt lo hi : Int} {offs : Array Int} {len : Nat} (hd : decode code pc = .ok (.tableswitch dflt lo hi offs, len)) (h : x.toInt < lo ∨ hi < x.toInt) (ht : (pc : Int) + dflt = (tgt : Int)) (k : ll_W E L xs tgt lv st M) : ll_W E L xs pc lv (.int x :: st) M :=
  fun p ee s m args below meth c H locs ls C hP hS hl => lv_tableOut C.1 C.2.1 hd h ht (k p ee s m args below meth c H locs ls C hP hS hl)
theorem ll_ret (hd : decode code pc = .ok (.ireturn, 1)) : ll_W E L xs pc lv [.int 1] M := by
  intro p ee s m args below meth c H locs ls C hP hS hl
  refine va_forget (fun q hq => C.2.2.2.2.2.2.2.2.2.2.2 _ (hS.2.2 q hq)) ?_
  refine W.widen (k := 600000) (n := 7302249) (by omega) (by omega) ?_
  rw [C.2.2.2.2.2.2.2.2.2.2.1]
  exact lw_ret C.1 C.2.1 C.2.2.1 C.2.2.2.2.2.2.1 hd
theorem ll_pre {as : List Value} {p : Program} {s : State} {m : MethodId} {args : Array Value} {meth : Method} {c : Code} {H : Heap} {locs : List Loc} (C : ll_C E L xs p s m args meth c) (hP : va_P E.2.1 vwCl (mm_ws E M) H) (hS : va_S (mm_A E) s.heap H locs) : PreS s H (mm_Pc E as M) (as.map (mm_cv E)) :=
  ⟨fun a U g mk q => by obtain ⟨q0, q1, q2, q3⟩ := q; exact ⟨q0, q1, mm_T.same (s := U) (U := U.calling g mk a) rfl q2, mm_S.same (s := U) (U := U.calling g mk a) rfl rfl q3⟩, fun U hU hW => ⟨rfl, by rw [hU]; exact hP, mm_T.warm hW C.2.2.2.2.2.2.2.1, mm_S.go hW (by rw [hU]; exact hS) C.2.2.2.2.2.2.2.2.1⟩⟩
theorem ll_call {z : mm_Y} {dz n idx o ci : Nat} {ks : List Nat} {Q : vw_C} {as : List Value} {rv : Option Value} {M1 : mm_M} (hz : mm_P E z dz (.ref o :: as) M rv M1) (hd : decode code pc = .ok (.invokevirtual idx, 3)) (hZ : mm_Z z n) (hl0 : Cond.methodLink RL idx z.1 ∈ mm_tb) (hi0 : Cond.instanceMethod z.1 ∈ mm_tb) (hs0 : Cond.selects z.1.cls z.1 z.1 ∈ mm_tb) (ho : mm_lay[o]? = some (.inl (ci, ks))) (hc : vwCl[ci]? = some Q) (hq : Q.1 = z.1.cls) (hn : as.length = n) (hR : dz + 1 ≤ 2048 ∧ 8 + (z.2.2.1 + 11) + 60 * dz ≤ 84000) (hst : (st.map fun v => v.category).sum ≤ 8)
    (k : ll_W E L xs (pc + 3) lv (rv.toList ++ st) M1) : ll_W E L xs pc lv (as.reverse ++ .ref o :: st) M := by
  intro p ee s m args below meth c H locs ls C hP hS hl
  have hts := C.2.2.2.2.2.1
  have cw : CallW room_1 s args RL z.1.cls idx z.1 z.2.1 z.2.2.1 z.2.2.2 (mm_wy z) (mm_rm dz) 0 0 n :=
    ⟨callB_of n hts (nn_good hZ.1) rfl rfl rfl (hts _ hZ.2.1) (hts _ hl0) hZ.2.2 hR, hts _ hi0, hts _ hs0⟩
  have hrec := va_recv C.2.2.2.2.2.2.2.1.1 hP hc (mm_ws_get (E := E) (M := M) ho)
  rw [hq] at hrec
  have hpre := ll_pre (as := .ref o :: as) C hP hS
  have run := va_runV (e := ee) (below := below) (meth := meth) (locs := locs) (cells := 140) (slots := 9206) (g := F0 m pc ls ((as.reverse ++ .ref o :: st).map (mm_cv E))) (C := z.1.cls) (As := as.map (mm_cv E)) (rest := st.map (mm_cv E)) (cc := code) (nL := 4) (Ts := mm_tb) ⟨C.1, C.2.1, C.2.2.2.1, C.2.2.2.2.1, hts⟩ hz cw ⟨hpre.1, hrec, hpre.2⟩ rfl (by simpa using hn) hl.1 (by simp [mm_cv]) (lv_room (by rw [List.map_map]; simpa [Function.comp_def, mm_cat] using hst)) hd ⟨by decide, by decide⟩
  intro T hT X
  obtain ⟨v, st₀, t, T', Lc, h0, X', hL, e1, e2, ⟨⟨hv, hP1⟩, hz1, hk⟩, stp⟩ := run T hT X
  cases hv
  rw [h0] at hz1 hk
  have hS1 : va_S (mm_A E) s.heap T'.heap (locs ++ Lc) := ⟨Nat.le_trans hS.1 (by rw [e1]; exact hz1), fun q h1 h2 => by rw [e1, hk q (Nat.lt_of_lt_of_le h1 hS.1) h2]; exact hS.2.1 q h1 h2, fun q hq => by
      rcases List.mem_append.mp hq with h | h
      · exact hS.2.2 q h
      · exact hL q h⟩
  obtain ⟨t2, a1, b1⟩ := k p ee s m args below meth c T'.heap (locs ++ Lc) ls C (by rw [e1]; exact hP1) hS1 hl T' rfl X'
  refine ⟨t2, stp t2 ?_, b1⟩
  have ev : (rv.map (mm_cv E)).toList ++ st.map (mm_cv E) = ((rv.toList ++ st).map (mm_cv E)) := by
    cases rv <;> simp
  rw [← ev] at a1
  exact a1
abbrev ll_lv (k : Nat) : List (Nat × Value) := [(0, .ref 152), (1, .ref 0), (2, .ref 97), (3, .int (nI (6 * k)))]
/-- one int of the script: aload_0, iload_3, iconst, iadd, iaload -/
theorem ll_arg (j : Nat) {kk : Nat} {n : Int} (d0 : decode code pc = .ok (.aload_n 0, 1)) (d1 : decode code (pc + 1) = .ok (.iload_n 3, 1)) (d2 : decode code (pc + 1 + 1) = .ok (.iconst n, 1)) (hv : Int32.ofInt n = nI j) (d3 : decode code (pc + 1 + 1 + 1) = .ok (.iadd, 1)) (d4 : decode code (pc + 1 + 1 + 1 + 1) = .ok (.iaload, 1)) (hk : 6 * kk + 6 ≤ L) (hj : j < 6) (hL : L ≤ 3072) (k : ll_W E L xs (pc + 1 + 1 + 1 + 1 + 1) (ll_lv kk) (.int (xs (6 * kk + j)) :: st) M) : ll_W E L xs pc (ll_lv kk) st M := by
  refine ll_aload_n 0 d0 rfl ?_
  refine ll_iload_n 3 d1 rfl ?_
  refine ll_iconst d2 hv ?_
  refine ll_iadd d3 ?_
  exact ll_sld d4 (nI_add _ _) (by omega) hL k
end LLR
set_option maxHeartbeats 4000000 in
theorem la_feed {E : mm_E} {L kk : Nat} {xs : Nat → Int32} (hk : 6 * kk + 6 ≤ L) (hL : L ≤ 3072) {M M1 M2 : mm_M} {r : Int32} (h1 : f_H_feed (xs (6 * kk + 1)) (xs (6 * kk + 2)) (xs (6 * kk + 3)) (xs (6 * kk + 4)) (xs (6 * kk + 5)) M = some (r, M1)) (h2 : f_R_feed (xs (6 * kk + 1)) (xs (6 * kk + 2)) (xs (6 * kk + 3)) (xs (6 * kk + 4)) (xs (6 * kk + 5)) M1 = some (r, M2)) (k : ll_W E L xs 1119 (ll_lv kk) [] M2) : ll_W E L xs 168 (ll_lv kk) [] M := by
  refine ll_aload_n 1 dL_law_168 rfl ?_
  refine ll_arg 1 dL_law_169 dL_law_170 dL_law_171 rfl dL_law_172 dL_law_173 hk (by decide) hL ?_
  refine ll_arg 2 dL_law_174 dL_law_175 dL_law_176 rfl dL_law_177 dL_law_178 hk (by decide) hL ?_
  refine ll_arg 3 dL_law_179 dL_law_180 dL_law_181 rfl dL_law_182 dL_law_183 hk (by decide) hL ?_
  refine ll_arg 4 dL_law_184 dL_law_185 dL_law_186 rfl dL_law_187 dL_law_188 hk (by decide) hL ?_
  refine ll_arg 5 dL_law_189 dL_law_190 dL_law_191 rfl dL_law_192 dL_law_193 hk (by decide) hL ?_
  refine ll_call (as := [.int (xs (6 * kk + 1)), .int (xs (6 * kk + 2)), .int (xs (6 * kk + 3)), .int (xs (6 * kk + 4)), .int (xs (6 * kk + 5))]) (st := []) (c_H_feed E (xs (6 * kk + 1)) (xs (6 * kk + 2)) (xs (6 * kk + 3)) (xs (6 * kk + 4)) (xs (6 * kk + 5)) M r M1 h1) dL_law_194 mz_X11_feed lk_RL_13 im_X11_feed se_X11_feed lo_0 rfl rfl rfl ⟨Nat.le_of_ble_eq_true rfl, Nat.le_of_ble_eq_true rfl⟩ (Nat.le_of_ble_eq_true rfl) ?_
  show ll_W E L xs _ _ [.int r] M1
  refine ll_aload_n 2 dL_law_197 rfl ?_
  refine ll_arg 1 dL_law_198 dL_law_199 dL_law_200 rfl dL_law_201 dL_law_202 hk (by decide) hL ?_
  refine ll_arg 2 dL_law_203 dL_law_204 dL_law_205 rfl dL_law_206 dL_law_207 hk (by decide) hL ?_
  refine ll_arg 3 dL_law_208 dL_law_209 dL_law_210 rfl dL_law_211 dL_law_212 hk (by decide) hL ?_
  refine ll_arg 4 dL_law_213 dL_law_214 dL_law_215 rfl dL_law_216 dL_law_217 hk (by decide) hL ?_
  refine ll_arg 5 dL_law_218 dL_law_219 dL_law_220 rfl dL_law_221 dL_law_222 hk (by decide) hL ?_
  refine ll_call (as := [.int (xs (6 * kk + 1)), .int (xs (6 * kk + 2)), .int (xs (6 * kk + 3)), .int (xs (6 * kk + 4)), .int (xs (6 * kk + 5))]) (st := [.int r]) (c_R_feed E (xs (6 * kk + 1)) (xs (6 * kk + 2)) (xs (6 * kk + 3)) (xs (6 * kk + 4)) (xs (6 * kk + 5)) M1 r M2 h2) dL_law_223 mz_X12_feed lk_RL_17 im_X12_feed se_X12_feed lo_97 rfl rfl rfl ⟨Nat.le_of_ble_eq_true rfl, Nat.le_of_ble_eq_true rfl⟩ (Nat.le_of_ble_eq_true rfl) ?_
  show ll_W E L xs _ _ [.int r, .int r] M2
  exact ll_icmp_eq 1119 dL_law_226 rfl k
set_option maxHeartbeats 4000000 in
theorem la_day {E : mm_E} {L kk : Nat} {xs : Nat → Int32} (hk : 6 * kk + 6 ≤ L) (hL : L ≤ 3072) {M M1 M2 : mm_M} {r : Int32} (h1 : f_H_day (xs (6 * kk + 1)) (xs (6 * kk + 2)) M = some (r, M1)) (h2 : f_R_day (xs (6 * kk + 1)) (xs (6 * kk + 2)) M1 = some (r, M2)) (k : ll_W E L xs 1119 (ll_lv kk) [] M2) : ll_W E L xs 231 (ll_lv kk) [] M := by
  refine ll_aload_n 1 dL_law_231 rfl ?_
  refine ll_arg 1 dL_law_232 dL_law_233 dL_law_234 rfl dL_law_235 dL_law_236 hk (by decide) hL ?_
  refine ll_arg 2 dL_law_237 dL_law_238 dL_law_239 rfl dL_law_240 dL_law_241 hk (by decide) hL ?_
  refine ll_call (as := [.int (xs (6 * kk + 1)), .int (xs (6 * kk + 2))]) (st := []) (c_H_day E (xs (6 * kk + 1)) (xs (6 * kk + 2)) M r M1 h1) dL_law_242 mz_X11_day lk_RL_18 im_X11_day se_X11_day lo_0 rfl rfl rfl ⟨Nat.le_of_ble_eq_true rfl, Nat.le_of_ble_eq_true rfl⟩ (Nat.le_of_ble_eq_true rfl) ?_
  show ll_W E L xs _ _ [.int r] M1
  refine ll_aload_n 2 dL_law_245 rfl ?_
  refine ll_arg 1 dL_law_246 dL_law_247 dL_law_248 rfl dL_law_249 dL_law_250 hk (by decide) hL ?_
  refine ll_arg 2 dL_law_251 dL_law_252 dL_law_253 rfl dL_law_254 dL_law_255 hk (by decide) hL ?_
  refine ll_call (as := [.int (xs (6 * kk + 1)), .int (xs (6 * kk + 2))]) (st := [.int r]) (c_R_day E (xs (6 * kk + 1)) (xs (6 * kk + 2)) M1 r M2 h2) dL_law_256 mz_X12_day lk_RL_22 im_X12_day se_X12_day lo_97 rfl rfl rfl ⟨Nat.le_of_ble_eq_true rfl, Nat.le_of_ble_eq_true rfl⟩ (Nat.le_of_ble_eq_true rfl) ?_
  show ll_W E L xs _ _ [.int r, .int r] M2
  exact ll_icmp_eq 1119 dL_law_259 rfl k
set_option maxHeartbeats 4000000 in
theorem la_dayIs {E : mm_E} {L kk : Nat} {xs : Nat → Int32} (hk : 6 * kk + 6 ≤ L) (hL : L ≤ 3072) {M M1 M2 : mm_M} {r : Int32} (h1 : f_H_dayIs (xs (6 * kk + 1)) (xs (6 * kk + 2)) (xs (6 * kk + 3)) M = some (r, M1)) (h2 : f_R_dayIs (xs (6 * kk + 1)) (xs (6 * kk + 2)) (xs (6 * kk + 3)) M1 = some (r, M2)) (k : ll_W E L xs 1119 (ll_lv kk) [] M2) : ll_W E L xs 264 (ll_lv kk) [] M := by
  refine ll_aload_n 1 dL_law_264 rfl ?_
  refine ll_arg 1 dL_law_265 dL_law_266 dL_law_267 rfl dL_law_268 dL_law_269 hk (by decide) hL ?_
  refine ll_arg 2 dL_law_270 dL_law_271 dL_law_272 rfl dL_law_273 dL_law_274 hk (by decide) hL ?_
  refine ll_arg 3 dL_law_275 dL_law_276 dL_law_277 rfl dL_law_278 dL_law_279 hk (by decide) hL ?_
  refine ll_call (as := [.int (xs (6 * kk + 1)), .int (xs (6 * kk + 2)), .int (xs (6 * kk + 3))]) (st := []) (c_H_dayIs E (xs (6 * kk + 1)) (xs (6 * kk + 2)) (xs (6 * kk + 3)) M r M1 h1) dL_law_280 mz_X11_dayIs lk_RL_23 im_X11_dayIs se_X11_dayIs lo_0 rfl rfl rfl ⟨Nat.le_of_ble_eq_true rfl, Nat.le_of_ble_eq_true rfl⟩ (Nat.le_of_ble_eq_true rfl) ?_
  show ll_W E L xs _ _ [.int r] M1
  refine ll_aload_n 2 dL_law_283 rfl ?_
  refine ll_arg 1 dL_law_284 dL_law_285 dL_law_286 rfl dL_law_287 dL_law_288 hk (by decide) hL ?_
  refine ll_arg 2 dL_law_289 dL_law_290 dL_law_291 rfl dL_law_292 dL_law_293 hk (by decide) hL ?_
  refine ll_arg 3 dL_law_294 dL_law_295 dL_law_296 rfl dL_law_297 dL_law_298 hk (by decide) hL ?_
  refine ll_call (as := [.int (xs (6 * kk + 1)), .int (xs (6 * kk + 2)), .int (xs (6 * kk + 3))]) (st := [.int r]) (c_R_dayIs E (xs (6 * kk + 1)) (xs (6 * kk + 2)) (xs (6 * kk + 3)) M1 r M2 h2) dL_law_299 mz_X12_dayIs lk_RL_27 im_X12_dayIs se_X12_dayIs lo_97 rfl rfl rfl ⟨Nat.le_of_ble_eq_true rfl, Nat.le_of_ble_eq_true rfl⟩ (Nat.le_of_ble_eq_true rfl) ?_
  show ll_W E L xs _ _ [.int r, .int r] M2
  exact ll_icmp_eq 1119 dL_law_302 rfl k
set_option maxHeartbeats 4000000 in
theorem la_room {E : mm_E} {L kk : Nat} {xs : Nat → Int32} (hk : 6 * kk + 6 ≤ L) (hL : L ≤ 3072) {M M1 M2 : mm_M} {r : Int32} (h1 : f_H_room (xs (6 * kk + 1)) M = some (r, M1)) (h2 : f_R_room (xs (6 * kk + 1)) M1 = some (r, M2)) (k : ll_W E L xs 1119 (ll_lv kk) [] M2) : ll_W E L xs 307 (ll_lv kk) [] M := by
  refine ll_aload_n 1 dL_law_307 rfl ?_
  refine ll_arg 1 dL_law_308 dL_law_309 dL_law_310 rfl dL_law_311 dL_law_312 hk (by decide) hL ?_
  refine ll_call (as := [.int (xs (6 * kk + 1))]) (st := []) (c_H_room E (xs (6 * kk + 1)) M r M1 h1) dL_law_313 mz_X11_room lk_RL_28 im_X11_room se_X11_room lo_0 rfl rfl rfl ⟨Nat.le_of_ble_eq_true rfl, Nat.le_of_ble_eq_true rfl⟩ (Nat.le_of_ble_eq_true rfl) ?_
  show ll_W E L xs _ _ [.int r] M1
  refine ll_aload_n 2 dL_law_316 rfl ?_
  refine ll_arg 1 dL_law_317 dL_law_318 dL_law_319 rfl dL_law_320 dL_law_321 hk (by decide) hL ?_
  refine ll_call (as := [.int (xs (6 * kk + 1))]) (st := [.int r]) (c_R_room E (xs (6 * kk + 1)) M1 r M2 h2) dL_law_322 mz_X12_room lk_RL_32 im_X12_room se_X12_room lo_97 rfl rfl rfl ⟨Nat.le_of_ble_eq_true rfl, Nat.le_of_ble_eq_true rfl⟩ (Nat.le_of_ble_eq_true rfl) ?_
  show ll_W E L xs _ _ [.int r, .int r] M2
  exact ll_icmp_eq 1119 dL_law_325 rfl k
set_option maxHeartbeats 4000000 in
theorem la_plant {E : mm_E} {L kk : Nat} {xs : Nat → Int32} (hk : 6 * kk + 6 ≤ L) (hL : L ≤ 3072) {M M1 M2 : mm_M} {r : Bool} (h1 : f_H_plant (xs (6 * kk + 1)) (xs (6 * kk + 2)) (xs (6 * kk + 3)) M = some (r, M1)) (h2 : f_R_plant (xs (6 * kk + 1)) (xs (6 * kk + 2)) (xs (6 * kk + 3)) M1 = some (r, M2)) (k : ll_W E L xs 1119 (ll_lv kk) [] M2) : ll_W E L xs 330 (ll_lv kk) [] M := by
  refine ll_aload_n 1 dL_law_330 rfl ?_
  refine ll_arg 1 dL_law_331 dL_law_332 dL_law_333 rfl dL_law_334 dL_law_335 hk (by decide) hL ?_
  refine ll_arg 2 dL_law_336 dL_law_337 dL_law_338 rfl dL_law_339 dL_law_340 hk (by decide) hL ?_
  refine ll_arg 3 dL_law_341 dL_law_342 dL_law_343 rfl dL_law_344 dL_law_345 hk (by decide) hL ?_
  refine ll_call (as := [.int (xs (6 * kk + 1)), .int (xs (6 * kk + 2)), .int (xs (6 * kk + 3))]) (st := []) (c_H_plant E (xs (6 * kk + 1)) (xs (6 * kk + 2)) (xs (6 * kk + 3)) M r M1 h1) dL_law_346 mz_X11_plant lk_RL_33 im_X11_plant se_X11_plant lo_0 rfl rfl rfl ⟨Nat.le_of_ble_eq_true rfl, Nat.le_of_ble_eq_true rfl⟩ (Nat.le_of_ble_eq_true rfl) ?_
  show ll_W E L xs _ _ [.int (mm_b r)] M1
  refine ll_aload_n 2 dL_law_349 rfl ?_
  refine ll_arg 1 dL_law_350 dL_law_351 dL_law_352 rfl dL_law_353 dL_law_354 hk (by decide) hL ?_
  refine ll_arg 2 dL_law_355 dL_law_356 dL_law_357 rfl dL_law_358 dL_law_359 hk (by decide) hL ?_
  refine ll_arg 3 dL_law_360 dL_law_361 dL_law_362 rfl dL_law_363 dL_law_364 hk (by decide) hL ?_
  refine ll_call (as := [.int (xs (6 * kk + 1)), .int (xs (6 * kk + 2)), .int (xs (6 * kk + 3))]) (st := [.int (mm_b r)]) (c_R_plant E (xs (6 * kk + 1)) (xs (6 * kk + 2)) (xs (6 * kk + 3)) M1 r M2 h2) dL_law_365 mz_X12_plant lk_RL_37 im_X12_plant se_X12_plant lo_97 rfl rfl rfl ⟨Nat.le_of_ble_eq_true rfl, Nat.le_of_ble_eq_true rfl⟩ (Nat.le_of_ble_eq_true rfl) ?_
  show ll_W E L xs _ _ [.int (mm_b r), .int (mm_b r)] M2
  exact ll_icmp_eq 1119 dL_law_368 rfl k
set_option maxHeartbeats 4000000 in
theorem la_pipes {E : mm_E} {L kk : Nat} {xs : Nat → Int32} (hk : 6 * kk + 6 ≤ L) (hL : L ≤ 3072) {M M1 M2 : mm_M} {r : Bool} (h1 : f_H_pipes (xs (6 * kk + 1)) (xs (6 * kk + 2)) M = some (r, M1)) (h2 : f_R_pipes (xs (6 * kk + 1)) (xs (6 * kk + 2)) M1 = some (r, M2)) (k : ll_W E L xs 1119 (ll_lv kk) [] M2) : ll_W E L xs 373 (ll_lv kk) [] M := by
  refine ll_aload_n 1 dL_law_373 rfl ?_
  refine ll_arg 1 dL_law_374 dL_law_375 dL_law_376 rfl dL_law_377 dL_law_378 hk (by decide) hL ?_
  refine ll_arg 2 dL_law_379 dL_law_380 dL_law_381 rfl dL_law_382 dL_law_383 hk (by decide) hL ?_
  refine ll_call (as := [.int (xs (6 * kk + 1)), .int (xs (6 * kk + 2))]) (st := []) (c_H_pipes E (xs (6 * kk + 1)) (xs (6 * kk + 2)) M r M1 h1) dL_law_384 mz_X11_pipes lk_RL_38 im_X11_pipes se_X11_pipes lo_0 rfl rfl rfl ⟨Nat.le_of_ble_eq_true rfl, Nat.le_of_ble_eq_true rfl⟩ (Nat.le_of_ble_eq_true rfl) ?_
  show ll_W E L xs _ _ [.int (mm_b r)] M1
  refine ll_aload_n 2 dL_law_387 rfl ?_
  refine ll_arg 1 dL_law_388 dL_law_389 dL_law_390 rfl dL_law_391 dL_law_392 hk (by decide) hL ?_
  refine ll_arg 2 dL_law_393 dL_law_394 dL_law_395 rfl dL_law_396 dL_law_397 hk (by decide) hL ?_
  refine ll_call (as := [.int (xs (6 * kk + 1)), .int (xs (6 * kk + 2))]) (st := [.int (mm_b r)]) (c_R_pipes E (xs (6 * kk + 1)) (xs (6 * kk + 2)) M1 r M2 h2) dL_law_398 mz_X12_pipes lk_RL_42 im_X12_pipes se_X12_pipes lo_97 rfl rfl rfl ⟨Nat.le_of_ble_eq_true rfl, Nat.le_of_ble_eq_true rfl⟩ (Nat.le_of_ble_eq_true rfl) ?_
  show ll_W E L xs _ _ [.int (mm_b r), .int (mm_b r)] M2
  exact ll_icmp_eq 1119 dL_law_401 rfl k
set_option maxHeartbeats 4000000 in
theorem la_cellar {E : mm_E} {L kk : Nat} {xs : Nat → Int32} (hk : 6 * kk + 6 ≤ L) (hL : L ≤ 3072) {M M1 M2 : mm_M} {r : Bool} (h1 : f_H_cellar (xs (6 * kk + 1)) (xs (6 * kk + 2)) M = some (r, M1)) (h2 : f_R_cellar (xs (6 * kk + 1)) (xs (6 * kk + 2)) M1 = some (r, M2)) (k : ll_W E L xs 1119 (ll_lv kk) [] M2) : ll_W E L xs 406 (ll_lv kk) [] M := by
  refine ll_aload_n 1 dL_law_406 rfl ?_
  refine ll_arg 1 dL_law_407 dL_law_408 dL_law_409 rfl dL_law_410 dL_law_411 hk (by decide) hL ?_
  refine ll_arg 2 dL_law_412 dL_law_413 dL_law_414 rfl dL_law_415 dL_law_416 hk (by decide) hL ?_
  refine ll_call (as := [.int (xs (6 * kk + 1)), .int (xs (6 * kk + 2))]) (st := []) (c_H_cellar E (xs (6 * kk + 1)) (xs (6 * kk + 2)) M r M1 h1) dL_law_417 mz_X11_cellar lk_RL_43 im_X11_cellar se_X11_cellar lo_0 rfl rfl rfl ⟨Nat.le_of_ble_eq_true rfl, Nat.le_of_ble_eq_true rfl⟩ (Nat.le_of_ble_eq_true rfl) ?_
  show ll_W E L xs _ _ [.int (mm_b r)] M1
  refine ll_aload_n 2 dL_law_420 rfl ?_
  refine ll_arg 1 dL_law_421 dL_law_422 dL_law_423 rfl dL_law_424 dL_law_425 hk (by decide) hL ?_
  refine ll_arg 2 dL_law_426 dL_law_427 dL_law_428 rfl dL_law_429 dL_law_430 hk (by decide) hL ?_
  refine ll_call (as := [.int (xs (6 * kk + 1)), .int (xs (6 * kk + 2))]) (st := [.int (mm_b r)]) (c_R_cellar E (xs (6 * kk + 1)) (xs (6 * kk + 2)) M1 r M2 h2) dL_law_431 mz_X12_cellar lk_RL_46 im_X12_cellar se_X12_cellar lo_97 rfl rfl rfl ⟨Nat.le_of_ble_eq_true rfl, Nat.le_of_ble_eq_true rfl⟩ (Nat.le_of_ble_eq_true rfl) ?_
  show ll_W E L xs _ _ [.int (mm_b r), .int (mm_b r)] M2
  exact ll_icmp_eq 1119 dL_law_434 rfl k
set_option maxHeartbeats 4000000 in
theorem la_stay {E : mm_E} {L kk : Nat} {xs : Nat → Int32} (hk : 6 * kk + 6 ≤ L) (hL : L ≤ 3072) {M M1 M2 : mm_M} {r : Bool} (h1 : f_H_stay (xs (6 * kk + 1)) (xs (6 * kk + 2)) (xs (6 * kk + 3)) (xs (6 * kk + 4)) M = some (r, M1)) (h2 : f_R_stay (xs (6 * kk + 1)) (xs (6 * kk + 2)) (xs (6 * kk + 3)) (xs (6 * kk + 4)) M1 = some (r, M2)) (k : ll_W E L xs 1119 (ll_lv kk) [] M2) : ll_W E L xs 439 (ll_lv kk) [] M := by
  refine ll_aload_n 1 dL_law_439 rfl ?_
  refine ll_arg 1 dL_law_440 dL_law_441 dL_law_442 rfl dL_law_443 dL_law_444 hk (by decide) hL ?_
  refine ll_arg 2 dL_law_445 dL_law_446 dL_law_447 rfl dL_law_448 dL_law_449 hk (by decide) hL ?_
  refine ll_arg 3 dL_law_450 dL_law_451 dL_law_452 rfl dL_law_453 dL_law_454 hk (by decide) hL ?_
  refine ll_arg 4 dL_law_455 dL_law_456 dL_law_457 rfl dL_law_458 dL_law_459 hk (by decide) hL ?_
  refine ll_call (as := [.int (xs (6 * kk + 1)), .int (xs (6 * kk + 2)), .int (xs (6 * kk + 3)), .int (xs (6 * kk + 4))]) (st := []) (c_H_stay E (xs (6 * kk + 1)) (xs (6 * kk + 2)) (xs (6 * kk + 3)) (xs (6 * kk + 4)) M r M1 h1) dL_law_460 mz_X11_stay lk_RL_47 im_X11_stay se_X11_stay lo_0 rfl rfl rfl ⟨Nat.le_of_ble_eq_true rfl, Nat.le_of_ble_eq_true rfl⟩ (Nat.le_of_ble_eq_true rfl) ?_
  show ll_W E L xs _ _ [.int (mm_b r)] M1
  refine ll_aload_n 2 dL_law_463 rfl ?_
  refine ll_arg 1 dL_law_464 dL_law_465 dL_law_466 rfl dL_law_467 dL_law_468 hk (by decide) hL ?_
  refine ll_arg 2 dL_law_469 dL_law_470 dL_law_471 rfl dL_law_472 dL_law_473 hk (by decide) hL ?_
  refine ll_arg 3 dL_law_474 dL_law_475 dL_law_476 rfl dL_law_477 dL_law_478 hk (by decide) hL ?_
  refine ll_arg 4 dL_law_479 dL_law_480 dL_law_481 rfl dL_law_482 dL_law_483 hk (by decide) hL ?_
  refine ll_call (as := [.int (xs (6 * kk + 1)), .int (xs (6 * kk + 2)), .int (xs (6 * kk + 3)), .int (xs (6 * kk + 4))]) (st := [.int (mm_b r)]) (c_R_stay E (xs (6 * kk + 1)) (xs (6 * kk + 2)) (xs (6 * kk + 3)) (xs (6 * kk + 4)) M1 r M2 h2) dL_law_484 mz_X12_stay lk_RL_51 im_X12_stay se_X12_stay lo_97 rfl rfl rfl ⟨Nat.le_of_ble_eq_true rfl, Nat.le_of_ble_eq_true rfl⟩ (Nat.le_of_ble_eq_true rfl) ?_
  show ll_W E L xs _ _ [.int (mm_b r), .int (mm_b r)] M2
  exact ll_icmp_eq 1119 dL_law_487 rfl k
set_option maxHeartbeats 4000000 in
theorem la_leave {E : mm_E} {L kk : Nat} {xs : Nat → Int32} (hk : 6 * kk + 6 ≤ L) (hL : L ≤ 3072) {M M1 M2 : mm_M} {r : Bool} (h1 : f_H_leave (xs (6 * kk + 1)) M = some (r, M1)) (h2 : f_R_leave (xs (6 * kk + 1)) M1 = some (r, M2)) (k : ll_W E L xs 1119 (ll_lv kk) [] M2) : ll_W E L xs 492 (ll_lv kk) [] M := by
  refine ll_aload_n 1 dL_law_492 rfl ?_
  refine ll_arg 1 dL_law_493 dL_law_494 dL_law_495 rfl dL_law_496 dL_law_497 hk (by decide) hL ?_
  refine ll_call (as := [.int (xs (6 * kk + 1))]) (st := []) (c_H_leave E (xs (6 * kk + 1)) M r M1 h1) dL_law_498 mz_X11_leave lk_RL_52 im_X11_leave se_X11_leave lo_0 rfl rfl rfl ⟨Nat.le_of_ble_eq_true rfl, Nat.le_of_ble_eq_true rfl⟩ (Nat.le_of_ble_eq_true rfl) ?_
  show ll_W E L xs _ _ [.int (mm_b r)] M1
  refine ll_aload_n 2 dL_law_501 rfl ?_
  refine ll_arg 1 dL_law_502 dL_law_503 dL_law_504 rfl dL_law_505 dL_law_506 hk (by decide) hL ?_
  refine ll_call (as := [.int (xs (6 * kk + 1))]) (st := [.int (mm_b r)]) (c_R_leave E (xs (6 * kk + 1)) M1 r M2 h2) dL_law_507 mz_X12_leave lk_RL_56 im_X12_leave se_X12_leave lo_97 rfl rfl rfl ⟨Nat.le_of_ble_eq_true rfl, Nat.le_of_ble_eq_true rfl⟩ (Nat.le_of_ble_eq_true rfl) ?_
  show ll_W E L xs _ _ [.int (mm_b r), .int (mm_b r)] M2
  exact ll_icmp_eq 1119 dL_law_510 rfl k
set_option maxHeartbeats 4000000 in
theorem la_shift {E : mm_E} {L kk : Nat} {xs : Nat → Int32} (hk : 6 * kk + 6 ≤ L) (hL : L ≤ 3072) {M M1 M2 : mm_M} {r : Bool} (h1 : f_H_shift (xs (6 * kk + 1)) (xs (6 * kk + 2)) M = some (r, M1)) (h2 : f_R_shift (xs (6 * kk + 1)) (xs (6 * kk + 2)) M1 = some (r, M2)) (k : ll_W E L xs 1119 (ll_lv kk) [] M2) : ll_W E L xs 515 (ll_lv kk) [] M := by
  refine ll_aload_n 1 dL_law_515 rfl ?_
  refine ll_arg 1 dL_law_516 dL_law_517 dL_law_518 rfl dL_law_519 dL_law_520 hk (by decide) hL ?_
  refine ll_arg 2 dL_law_521 dL_law_522 dL_law_523 rfl dL_law_524 dL_law_525 hk (by decide) hL ?_
  refine ll_call (as := [.int (xs (6 * kk + 1)), .int (xs (6 * kk + 2))]) (st := []) (c_H_shift E (xs (6 * kk + 1)) (xs (6 * kk + 2)) M r M1 h1) dL_law_526 mz_X11_shift lk_RL_57 im_X11_shift se_X11_shift lo_0 rfl rfl rfl ⟨Nat.le_of_ble_eq_true rfl, Nat.le_of_ble_eq_true rfl⟩ (Nat.le_of_ble_eq_true rfl) ?_
  show ll_W E L xs _ _ [.int (mm_b r)] M1
  refine ll_aload_n 2 dL_law_529 rfl ?_
  refine ll_arg 1 dL_law_530 dL_law_531 dL_law_532 rfl dL_law_533 dL_law_534 hk (by decide) hL ?_
  refine ll_arg 2 dL_law_535 dL_law_536 dL_law_537 rfl dL_law_538 dL_law_539 hk (by decide) hL ?_
  refine ll_call (as := [.int (xs (6 * kk + 1)), .int (xs (6 * kk + 2))]) (st := [.int (mm_b r)]) (c_R_shift E (xs (6 * kk + 1)) (xs (6 * kk + 2)) M1 r M2 h2) dL_law_540 mz_X12_shift lk_RL_60 im_X12_shift se_X12_shift lo_97 rfl rfl rfl ⟨Nat.le_of_ble_eq_true rfl, Nat.le_of_ble_eq_true rfl⟩ (Nat.le_of_ble_eq_true rfl) ?_
  show ll_W E L xs _ _ [.int (mm_b r), .int (mm_b r)] M2
  exact ll_icmp_eq 1119 dL_law_543 rfl k
set_option maxHeartbeats 4000000 in
theorem la_law {E : mm_E} {L kk : Nat} {xs : Nat → Int32} (hk : 6 * kk + 6 ≤ L) (hL : L ≤ 3072) {M M1 M2 : mm_M} {r : Int32} (h1 : f_H_law (xs (6 * kk + 1)) M = some (r, M1)) (h2 : f_R_law (xs (6 * kk + 1)) M1 = some (r, M2)) (k : ll_W E L xs 1119 (ll_lv kk) [] M2) : ll_W E L xs 548 (ll_lv kk) [] M := by
  refine ll_aload_n 1 dL_law_548 rfl ?_
  refine ll_arg 1 dL_law_549 dL_law_550 dL_law_551 rfl dL_law_552 dL_law_553 hk (by decide) hL ?_
  refine ll_call (as := [.int (xs (6 * kk + 1))]) (st := []) (c_H_law E (xs (6 * kk + 1)) M r M1 h1) dL_law_554 mz_X11_law lk_RL_61 im_X11_law se_X11_law lo_0 rfl rfl rfl ⟨Nat.le_of_ble_eq_true rfl, Nat.le_of_ble_eq_true rfl⟩ (Nat.le_of_ble_eq_true rfl) ?_
  show ll_W E L xs _ _ [.int r] M1
  refine ll_aload_n 2 dL_law_557 rfl ?_
  refine ll_arg 1 dL_law_558 dL_law_559 dL_law_560 rfl dL_law_561 dL_law_562 hk (by decide) hL ?_
  refine ll_call (as := [.int (xs (6 * kk + 1))]) (st := [.int r]) (c_R_law E (xs (6 * kk + 1)) M1 r M2 h2) dL_law_563 mz_X12_law lk_RL_64 im_X12_law se_X12_law lo_97 rfl rfl rfl ⟨Nat.le_of_ble_eq_true rfl, Nat.le_of_ble_eq_true rfl⟩ (Nat.le_of_ble_eq_true rfl) ?_
  show ll_W E L xs _ _ [.int r, .int r] M2
  exact ll_icmp_eq 1119 dL_law_566 rfl k
set_option maxHeartbeats 4000000 in
theorem la_wants {E : mm_E} {L kk : Nat} {xs : Nat → Int32} (hk : 6 * kk + 6 ≤ L) (hL : L ≤ 3072) {M M1 M2 : mm_M} {r : Int32} (h1 : f_H_wants (xs (6 * kk + 1)) (xs (6 * kk + 2)) M = some (r, M1)) (h2 : f_R_wants (xs (6 * kk + 1)) (xs (6 * kk + 2)) M1 = some (r, M2)) (k : ll_W E L xs 1119 (ll_lv kk) [] M2) : ll_W E L xs 571 (ll_lv kk) [] M := by
  refine ll_aload_n 1 dL_law_571 rfl ?_
  refine ll_arg 1 dL_law_572 dL_law_573 dL_law_574 rfl dL_law_575 dL_law_576 hk (by decide) hL ?_
  refine ll_arg 2 dL_law_577 dL_law_578 dL_law_579 rfl dL_law_580 dL_law_581 hk (by decide) hL ?_
  refine ll_call (as := [.int (xs (6 * kk + 1)), .int (xs (6 * kk + 2))]) (st := []) (c_H_wants E (xs (6 * kk + 1)) (xs (6 * kk + 2)) M r M1 h1) dL_law_582 mz_X11_wants lk_RL_65 im_X11_wants se_X11_wants lo_0 rfl rfl rfl ⟨Nat.le_of_ble_eq_true rfl, Nat.le_of_ble_eq_true rfl⟩ (Nat.le_of_ble_eq_true rfl) ?_
  show ll_W E L xs _ _ [.int r] M1
  refine ll_aload_n 2 dL_law_585 rfl ?_
  refine ll_arg 1 dL_law_586 dL_law_587 dL_law_588 rfl dL_law_589 dL_law_590 hk (by decide) hL ?_
  refine ll_arg 2 dL_law_591 dL_law_592 dL_law_593 rfl dL_law_594 dL_law_595 hk (by decide) hL ?_
  refine ll_call (as := [.int (xs (6 * kk + 1)), .int (xs (6 * kk + 2))]) (st := [.int r]) (c_R_wants E (xs (6 * kk + 1)) (xs (6 * kk + 2)) M1 r M2 h2) dL_law_596 mz_X12_wants lk_RL_68 im_X12_wants se_X12_wants lo_97 rfl rfl rfl ⟨Nat.le_of_ble_eq_true rfl, Nat.le_of_ble_eq_true rfl⟩ (Nat.le_of_ble_eq_true rfl) ?_
  show ll_W E L xs _ _ [.int r, .int r] M2
  exact ll_icmp_eq 1119 dL_law_599 rfl k
set_option maxHeartbeats 4000000 in
theorem la_gets {E : mm_E} {L kk : Nat} {xs : Nat → Int32} (hk : 6 * kk + 6 ≤ L) (hL : L ≤ 3072) {M M1 M2 : mm_M} {r : Int32} (h1 : f_H_gets (xs (6 * kk + 1)) (xs (6 * kk + 2)) (xs (6 * kk + 3)) M = some (r, M1)) (h2 : f_R_gets (xs (6 * kk + 1)) (xs (6 * kk + 2)) (xs (6 * kk + 3)) M1 = some (r, M2)) (k : ll_W E L xs 1119 (ll_lv kk) [] M2) : ll_W E L xs 604 (ll_lv kk) [] M := by
  refine ll_aload_n 1 dL_law_604 rfl ?_
  refine ll_arg 1 dL_law_605 dL_law_606 dL_law_607 rfl dL_law_608 dL_law_609 hk (by decide) hL ?_
  refine ll_arg 2 dL_law_610 dL_law_611 dL_law_612 rfl dL_law_613 dL_law_614 hk (by decide) hL ?_
  refine ll_arg 3 dL_law_615 dL_law_616 dL_law_617 rfl dL_law_618 dL_law_619 hk (by decide) hL ?_
  refine ll_call (as := [.int (xs (6 * kk + 1)), .int (xs (6 * kk + 2)), .int (xs (6 * kk + 3))]) (st := []) (c_H_gets E (xs (6 * kk + 1)) (xs (6 * kk + 2)) (xs (6 * kk + 3)) M r M1 h1) dL_law_620 mz_X11_gets lk_RL_69 im_X11_gets se_X11_gets lo_0 rfl rfl rfl ⟨Nat.le_of_ble_eq_true rfl, Nat.le_of_ble_eq_true rfl⟩ (Nat.le_of_ble_eq_true rfl) ?_
  show ll_W E L xs _ _ [.int r] M1
  refine ll_aload_n 2 dL_law_623 rfl ?_
  refine ll_arg 1 dL_law_624 dL_law_625 dL_law_626 rfl dL_law_627 dL_law_628 hk (by decide) hL ?_
  refine ll_arg 2 dL_law_629 dL_law_630 dL_law_631 rfl dL_law_632 dL_law_633 hk (by decide) hL ?_
  refine ll_arg 3 dL_law_634 dL_law_635 dL_law_636 rfl dL_law_637 dL_law_638 hk (by decide) hL ?_
  refine ll_call (as := [.int (xs (6 * kk + 1)), .int (xs (6 * kk + 2)), .int (xs (6 * kk + 3))]) (st := [.int r]) (c_R_gets E (xs (6 * kk + 1)) (xs (6 * kk + 2)) (xs (6 * kk + 3)) M1 r M2 h2) dL_law_639 mz_X12_gets lk_RL_72 im_X12_gets se_X12_gets lo_97 rfl rfl rfl ⟨Nat.le_of_ble_eq_true rfl, Nat.le_of_ble_eq_true rfl⟩ (Nat.le_of_ble_eq_true rfl) ?_
  show ll_W E L xs _ _ [.int r, .int r] M2
  exact ll_icmp_eq 1119 dL_law_642 rfl k
set_option maxHeartbeats 4000000 in
theorem la_served {E : mm_E} {L kk : Nat} {xs : Nat → Int32} (hk : 6 * kk + 6 ≤ L) (hL : L ≤ 3072) {M M1 M2 : mm_M} {r : Int32} (h1 : f_H_served (xs (6 * kk + 1)) M = some (r, M1)) (h2 : f_R_served (xs (6 * kk + 1)) M1 = some (r, M2)) (k : ll_W E L xs 1119 (ll_lv kk) [] M2) : ll_W E L xs 647 (ll_lv kk) [] M := by
  refine ll_aload_n 1 dL_law_647 rfl ?_
  refine ll_arg 1 dL_law_648 dL_law_649 dL_law_650 rfl dL_law_651 dL_law_652 hk (by decide) hL ?_
  refine ll_call (as := [.int (xs (6 * kk + 1))]) (st := []) (c_H_served E (xs (6 * kk + 1)) M r M1 h1) dL_law_653 mz_X11_served lk_RL_73 im_X11_served se_X11_served lo_0 rfl rfl rfl ⟨Nat.le_of_ble_eq_true rfl, Nat.le_of_ble_eq_true rfl⟩ (Nat.le_of_ble_eq_true rfl) ?_
  show ll_W E L xs _ _ [.int r] M1
  refine ll_aload_n 2 dL_law_656 rfl ?_
  refine ll_arg 1 dL_law_657 dL_law_658 dL_law_659 rfl dL_law_660 dL_law_661 hk (by decide) hL ?_
  refine ll_call (as := [.int (xs (6 * kk + 1))]) (st := [.int r]) (c_R_served E (xs (6 * kk + 1)) M1 r M2 h2) dL_law_662 mz_X12_served lk_RL_76 im_X12_served se_X12_served lo_97 rfl rfl rfl ⟨Nat.le_of_ble_eq_true rfl, Nat.le_of_ble_eq_true rfl⟩ (Nat.le_of_ble_eq_true rfl) ?_
  show ll_W E L xs _ _ [.int r, .int r] M2
  exact ll_icmp_eq 1119 dL_law_665 rfl k
set_option maxHeartbeats 4000000 in
theorem la_can {E : mm_E} {L kk : Nat} {xs : Nat → Int32} (hk : 6 * kk + 6 ≤ L) (hL : L ≤ 3072) {M M1 M2 : mm_M} {r : Int32} (h1 : f_H_can (xs (6 * kk + 1)) (xs (6 * kk + 2)) M = some (r, M1)) (h2 : f_R_can (xs (6 * kk + 1)) (xs (6 * kk + 2)) M1 = some (r, M2)) (k : ll_W E L xs 1119 (ll_lv kk) [] M2) : ll_W E L xs 670 (ll_lv kk) [] M := by
  refine ll_aload_n 1 dL_law_670 rfl ?_
  refine ll_arg 1 dL_law_671 dL_law_672 dL_law_673 rfl dL_law_674 dL_law_675 hk (by decide) hL ?_
  refine ll_arg 2 dL_law_676 dL_law_677 dL_law_678 rfl dL_law_679 dL_law_680 hk (by decide) hL ?_
  refine ll_call (as := [.int (xs (6 * kk + 1)), .int (xs (6 * kk + 2))]) (st := []) (c_H_can E (xs (6 * kk + 1)) (xs (6 * kk + 2)) M r M1 h1) dL_law_681 mz_X11_can lk_RL_77 im_X11_can se_X11_can lo_0 rfl rfl rfl ⟨Nat.le_of_ble_eq_true rfl, Nat.le_of_ble_eq_true rfl⟩ (Nat.le_of_ble_eq_true rfl) ?_
  show ll_W E L xs _ _ [.int r] M1
  refine ll_aload_n 2 dL_law_684 rfl ?_
  refine ll_arg 1 dL_law_685 dL_law_686 dL_law_687 rfl dL_law_688 dL_law_689 hk (by decide) hL ?_
  refine ll_arg 2 dL_law_690 dL_law_691 dL_law_692 rfl dL_law_693 dL_law_694 hk (by decide) hL ?_
  refine ll_call (as := [.int (xs (6 * kk + 1)), .int (xs (6 * kk + 2))]) (st := [.int r]) (c_R_can E (xs (6 * kk + 1)) (xs (6 * kk + 2)) M1 r M2 h2) dL_law_695 mz_X12_can lk_RL_80 im_X12_can se_X12_can lo_97 rfl rfl rfl ⟨Nat.le_of_ble_eq_true rfl, Nat.le_of_ble_eq_true rfl⟩ (Nat.le_of_ble_eq_true rfl) ?_
  show ll_W E L xs _ _ [.int r, .int r] M2
  exact ll_icmp_eq 1119 dL_law_698 rfl k
set_option maxHeartbeats 4000000 in
theorem la_best {E : mm_E} {L kk : Nat} {xs : Nat → Int32} (hk : 6 * kk + 6 ≤ L) (hL : L ≤ 3072) {M M1 M2 : mm_M} {r : Int32} (h1 : f_H_best (xs (6 * kk + 1)) M = some (r, M1)) (h2 : f_R_best (xs (6 * kk + 1)) M1 = some (r, M2)) (k : ll_W E L xs 1119 (ll_lv kk) [] M2) : ll_W E L xs 703 (ll_lv kk) [] M := by
  refine ll_aload_n 1 dL_law_703 rfl ?_
  refine ll_arg 1 dL_law_704 dL_law_705 dL_law_706 rfl dL_law_707 dL_law_708 hk (by decide) hL ?_
  refine ll_call (as := [.int (xs (6 * kk + 1))]) (st := []) (c_H_best E (xs (6 * kk + 1)) M r M1 h1) dL_law_709 mz_X11_best lk_RL_81 im_X11_best se_X11_best lo_0 rfl rfl rfl ⟨Nat.le_of_ble_eq_true rfl, Nat.le_of_ble_eq_true rfl⟩ (Nat.le_of_ble_eq_true rfl) ?_
  show ll_W E L xs _ _ [.int r] M1
  refine ll_aload_n 2 dL_law_712 rfl ?_
  refine ll_arg 1 dL_law_713 dL_law_714 dL_law_715 rfl dL_law_716 dL_law_717 hk (by decide) hL ?_
  refine ll_call (as := [.int (xs (6 * kk + 1))]) (st := [.int r]) (c_R_best E (xs (6 * kk + 1)) M1 r M2 h2) dL_law_718 mz_X12_best lk_RL_84 im_X12_best se_X12_best lo_97 rfl rfl rfl ⟨Nat.le_of_ble_eq_true rfl, Nat.le_of_ble_eq_true rfl⟩ (Nat.le_of_ble_eq_true rfl) ?_
  show ll_W E L xs _ _ [.int r, .int r] M2
  exact ll_icmp_eq 1119 dL_law_721 rfl k
set_option maxHeartbeats 4000000 in
theorem la_smallest {E : mm_E} {L kk : Nat} {xs : Nat → Int32} (hk : 6 * kk + 6 ≤ L) (hL : L ≤ 3072) {M M1 M2 : mm_M} {r : Int32} (h1 : f_H_smallest  M = some (r, M1)) (h2 : f_R_smallest  M1 = some (r, M2)) (k : ll_W E L xs 1119 (ll_lv kk) [] M2) : ll_W E L xs 726 (ll_lv kk) [] M := by
  refine ll_aload_n 1 dL_law_726 rfl ?_
  refine ll_call (as := []) (st := []) (c_H_smallest E  M r M1 h1) dL_law_727 mz_X11_smallest lk_RL_85 im_X11_smallest se_X11_smallest lo_0 rfl rfl rfl ⟨Nat.le_of_ble_eq_true rfl, Nat.le_of_ble_eq_true rfl⟩ (Nat.le_of_ble_eq_true rfl) ?_
  show ll_W E L xs _ _ [.int r] M1
  refine ll_aload_n 2 dL_law_730 rfl ?_
  refine ll_call (as := []) (st := [.int r]) (c_R_smallest E  M1 r M2 h2) dL_law_731 mz_X12_smallest lk_RL_89 im_X12_smallest se_X12_smallest lo_97 rfl rfl rfl ⟨Nat.le_of_ble_eq_true rfl, Nat.le_of_ble_eq_true rfl⟩ (Nat.le_of_ble_eq_true rfl) ?_
  show ll_W E L xs _ _ [.int r, .int r] M2
  exact ll_icmp_eq 1119 dL_law_734 rfl k
set_option maxHeartbeats 4000000 in
theorem la_costs {E : mm_E} {L kk : Nat} {xs : Nat → Int32} (hk : 6 * kk + 6 ≤ L) (hL : L ≤ 3072) {M M1 M2 : mm_M} {r : Int32} (h1 : f_H_costs (xs (6 * kk + 1)) M = some (r, M1)) (h2 : f_R_costs (xs (6 * kk + 1)) M1 = some (r, M2)) (k : ll_W E L xs 1119 (ll_lv kk) [] M2) : ll_W E L xs 739 (ll_lv kk) [] M := by
  refine ll_aload_n 1 dL_law_739 rfl ?_
  refine ll_arg 1 dL_law_740 dL_law_741 dL_law_742 rfl dL_law_743 dL_law_744 hk (by decide) hL ?_
  refine ll_call (as := [.int (xs (6 * kk + 1))]) (st := []) (c_H_costs E (xs (6 * kk + 1)) M r M1 h1) dL_law_745 mz_X11_costs lk_RL_90 im_X11_costs se_X11_costs lo_0 rfl rfl rfl ⟨Nat.le_of_ble_eq_true rfl, Nat.le_of_ble_eq_true rfl⟩ (Nat.le_of_ble_eq_true rfl) ?_
  show ll_W E L xs _ _ [.int r] M1
  refine ll_aload_n 2 dL_law_748 rfl ?_
  refine ll_arg 1 dL_law_749 dL_law_750 dL_law_751 rfl dL_law_752 dL_law_753 hk (by decide) hL ?_
  refine ll_call (as := [.int (xs (6 * kk + 1))]) (st := [.int r]) (c_R_costs E (xs (6 * kk + 1)) M1 r M2 h2) dL_law_754 mz_X12_costs lk_RL_93 im_X12_costs se_X12_costs lo_97 rfl rfl rfl ⟨Nat.le_of_ble_eq_true rfl, Nat.le_of_ble_eq_true rfl⟩ (Nat.le_of_ble_eq_true rfl) ?_
  show ll_W E L xs _ _ [.int r, .int r] M2
  exact ll_icmp_eq 1119 dL_law_757 rfl k
set_option maxHeartbeats 4000000 in
theorem la_rooms {E : mm_E} {L kk : Nat} {xs : Nat → Int32} (hk : 6 * kk + 6 ≤ L) (hL : L ≤ 3072) {M M1 M2 : mm_M} {r : Int32} (h1 : f_H_rooms (xs (6 * kk + 1)) (xs (6 * kk + 2)) (xs (6 * kk + 3)) M = some (r, M1)) (h2 : f_R_rooms (xs (6 * kk + 1)) (xs (6 * kk + 2)) (xs (6 * kk + 3)) M1 = some (r, M2)) (k : ll_W E L xs 1119 (ll_lv kk) [] M2) : ll_W E L xs 762 (ll_lv kk) [] M := by
  refine ll_aload_n 1 dL_law_762 rfl ?_
  refine ll_arg 1 dL_law_763 dL_law_764 dL_law_765 rfl dL_law_766 dL_law_767 hk (by decide) hL ?_
  refine ll_arg 2 dL_law_768 dL_law_769 dL_law_770 rfl dL_law_771 dL_law_772 hk (by decide) hL ?_
  refine ll_arg 3 dL_law_773 dL_law_774 dL_law_775 rfl dL_law_776 dL_law_777 hk (by decide) hL ?_
  refine ll_call (as := [.int (xs (6 * kk + 1)), .int (xs (6 * kk + 2)), .int (xs (6 * kk + 3))]) (st := []) (c_H_rooms E (xs (6 * kk + 1)) (xs (6 * kk + 2)) (xs (6 * kk + 3)) M r M1 h1) dL_law_778 mz_X11_rooms lk_RL_94 im_X11_rooms se_X11_rooms lo_0 rfl rfl rfl ⟨Nat.le_of_ble_eq_true rfl, Nat.le_of_ble_eq_true rfl⟩ (Nat.le_of_ble_eq_true rfl) ?_
  show ll_W E L xs _ _ [.int r] M1
  refine ll_aload_n 2 dL_law_781 rfl ?_
  refine ll_arg 1 dL_law_782 dL_law_783 dL_law_784 rfl dL_law_785 dL_law_786 hk (by decide) hL ?_
  refine ll_arg 2 dL_law_787 dL_law_788 dL_law_789 rfl dL_law_790 dL_law_791 hk (by decide) hL ?_
  refine ll_arg 3 dL_law_792 dL_law_793 dL_law_794 rfl dL_law_795 dL_law_796 hk (by decide) hL ?_
  refine ll_call (as := [.int (xs (6 * kk + 1)), .int (xs (6 * kk + 2)), .int (xs (6 * kk + 3))]) (st := [.int r]) (c_R_rooms E (xs (6 * kk + 1)) (xs (6 * kk + 2)) (xs (6 * kk + 3)) M1 r M2 h2) dL_law_797 mz_X12_rooms lk_RL_97 im_X12_rooms se_X12_rooms lo_97 rfl rfl rfl ⟨Nat.le_of_ble_eq_true rfl, Nat.le_of_ble_eq_true rfl⟩ (Nat.le_of_ble_eq_true rfl) ?_
  show ll_W E L xs _ _ [.int r, .int r] M2
  exact ll_icmp_eq 1119 dL_law_800 rfl k
set_option maxHeartbeats 4000000 in
theorem la_shifting {E : mm_E} {L kk : Nat} {xs : Nat → Int32} (hk : 6 * kk + 6 ≤ L) (hL : L ≤ 3072) {M M1 M2 : mm_M} {r : Int32} (h1 : f_H_shifting (xs (6 * kk + 1)) (xs (6 * kk + 2)) (xs (6 * kk + 3)) M = some (r, M1)) (h2 : f_R_shifting (xs (6 * kk + 1)) (xs (6 * kk + 2)) (xs (6 * kk + 3)) M1 = some (r, M2)) (k : ll_W E L xs 1119 (ll_lv kk) [] M2) : ll_W E L xs 805 (ll_lv kk) [] M := by
  refine ll_aload_n 1 dL_law_805 rfl ?_
  refine ll_arg 1 dL_law_806 dL_law_807 dL_law_808 rfl dL_law_809 dL_law_810 hk (by decide) hL ?_
  refine ll_arg 2 dL_law_811 dL_law_812 dL_law_813 rfl dL_law_814 dL_law_815 hk (by decide) hL ?_
  refine ll_arg 3 dL_law_816 dL_law_817 dL_law_818 rfl dL_law_819 dL_law_820 hk (by decide) hL ?_
  refine ll_call (as := [.int (xs (6 * kk + 1)), .int (xs (6 * kk + 2)), .int (xs (6 * kk + 3))]) (st := []) (c_H_shifting E (xs (6 * kk + 1)) (xs (6 * kk + 2)) (xs (6 * kk + 3)) M r M1 h1) dL_law_821 mz_X11_shifting lk_RL_98 im_X11_shifting se_X11_shifting lo_0 rfl rfl rfl ⟨Nat.le_of_ble_eq_true rfl, Nat.le_of_ble_eq_true rfl⟩ (Nat.le_of_ble_eq_true rfl) ?_
  show ll_W E L xs _ _ [.int r] M1
  refine ll_aload_n 2 dL_law_824 rfl ?_
  refine ll_arg 1 dL_law_825 dL_law_826 dL_law_827 rfl dL_law_828 dL_law_829 hk (by decide) hL ?_
  refine ll_arg 2 dL_law_830 dL_law_831 dL_law_832 rfl dL_law_833 dL_law_834 hk (by decide) hL ?_
  refine ll_arg 3 dL_law_835 dL_law_836 dL_law_837 rfl dL_law_838 dL_law_839 hk (by decide) hL ?_
  refine ll_call (as := [.int (xs (6 * kk + 1)), .int (xs (6 * kk + 2)), .int (xs (6 * kk + 3))]) (st := [.int r]) (c_R_shifting E (xs (6 * kk + 1)) (xs (6 * kk + 2)) (xs (6 * kk + 3)) M1 r M2 h2) dL_law_840 mz_X12_shifting lk_RL_101 im_X12_shifting se_X12_shifting lo_97 rfl rfl rfl ⟨Nat.le_of_ble_eq_true rfl, Nat.le_of_ble_eq_true rfl⟩ (Nat.le_of_ble_eq_true rfl) ?_
  show ll_W E L xs _ _ [.int r, .int r] M2
  exact ll_icmp_eq 1119 dL_law_843 rfl k
set_option maxHeartbeats 4000000 in
theorem la_larger {E : mm_E} {L kk : Nat} {xs : Nat → Int32} (hk : 6 * kk + 6 ≤ L) (hL : L ≤ 3072) {M M1 M2 : mm_M} {r : Int32} (h1 : f_H_larger (xs (6 * kk + 1)) M = some (r, M1)) (h2 : f_R_larger (xs (6 * kk + 1)) M1 = some (r, M2)) (k : ll_W E L xs 1119 (ll_lv kk) [] M2) : ll_W E L xs 848 (ll_lv kk) [] M := by
  refine ll_aload_n 1 dL_law_848 rfl ?_
  refine ll_arg 1 dL_law_849 dL_law_850 dL_law_851 rfl dL_law_852 dL_law_853 hk (by decide) hL ?_
  refine ll_call (as := [.int (xs (6 * kk + 1))]) (st := []) (c_H_larger E (xs (6 * kk + 1)) M r M1 h1) dL_law_854 mz_X11_larger lk_RL_102 im_X11_larger se_X11_larger lo_0 rfl rfl rfl ⟨Nat.le_of_ble_eq_true rfl, Nat.le_of_ble_eq_true rfl⟩ (Nat.le_of_ble_eq_true rfl) ?_
  show ll_W E L xs _ _ [.int r] M1
  refine ll_aload_n 2 dL_law_857 rfl ?_
  refine ll_arg 1 dL_law_858 dL_law_859 dL_law_860 rfl dL_law_861 dL_law_862 hk (by decide) hL ?_
  refine ll_call (as := [.int (xs (6 * kk + 1))]) (st := [.int r]) (c_R_larger E (xs (6 * kk + 1)) M1 r M2 h2) dL_law_863 mz_X12_larger lk_RL_105 im_X12_larger se_X12_larger lo_97 rfl rfl rfl ⟨Nat.le_of_ble_eq_true rfl, Nat.le_of_ble_eq_true rfl⟩ (Nat.le_of_ble_eq_true rfl) ?_
  show ll_W E L xs _ _ [.int r, .int r] M2
  exact ll_icmp_eq 1119 dL_law_866 rfl k
set_option maxHeartbeats 4000000 in
theorem la_fair {E : mm_E} {L kk : Nat} {xs : Nat → Int32} (hk : 6 * kk + 6 ≤ L) (hL : L ≤ 3072) {M M1 M2 : mm_M} {r : Int64} (h1 : f_H_fair (xs (6 * kk + 1)) (xs (6 * kk + 2)) (xs (6 * kk + 3)) M = some (r, M1)) (h2 : f_R_fair (xs (6 * kk + 1)) (xs (6 * kk + 2)) (xs (6 * kk + 3)) M1 = some (r, M2)) (k : ll_W E L xs 1119 (ll_lv kk) [] M2) : ll_W E L xs 871 (ll_lv kk) [] M := by
  refine ll_aload_n 1 dL_law_871 rfl ?_
  refine ll_arg 1 dL_law_872 dL_law_873 dL_law_874 rfl dL_law_875 dL_law_876 hk (by decide) hL ?_
  refine ll_arg 2 dL_law_877 dL_law_878 dL_law_879 rfl dL_law_880 dL_law_881 hk (by decide) hL ?_
  refine ll_arg 3 dL_law_882 dL_law_883 dL_law_884 rfl dL_law_885 dL_law_886 hk (by decide) hL ?_
  refine ll_call (as := [.int (xs (6 * kk + 1)), .int (xs (6 * kk + 2)), .int (xs (6 * kk + 3))]) (st := []) (c_H_fair E (xs (6 * kk + 1)) (xs (6 * kk + 2)) (xs (6 * kk + 3)) M r M1 h1) dL_law_887 mz_X11_fair lk_RL_106 im_X11_fair se_X11_fair lo_0 rfl rfl rfl ⟨Nat.le_of_ble_eq_true rfl, Nat.le_of_ble_eq_true rfl⟩ (Nat.le_of_ble_eq_true rfl) ?_
  show ll_W E L xs _ _ [.long r] M1
  refine ll_aload_n 2 dL_law_890 rfl ?_
  refine ll_arg 1 dL_law_891 dL_law_892 dL_law_893 rfl dL_law_894 dL_law_895 hk (by decide) hL ?_
  refine ll_arg 2 dL_law_896 dL_law_897 dL_law_898 rfl dL_law_899 dL_law_900 hk (by decide) hL ?_
  refine ll_arg 3 dL_law_901 dL_law_902 dL_law_903 rfl dL_law_904 dL_law_905 hk (by decide) hL ?_
  refine ll_call (as := [.int (xs (6 * kk + 1)), .int (xs (6 * kk + 2)), .int (xs (6 * kk + 3))]) (st := [.long r]) (c_R_fair E (xs (6 * kk + 1)) (xs (6 * kk + 2)) (xs (6 * kk + 3)) M1 r M2 h2) dL_law_906 mz_X12_fair lk_RL_110 im_X12_fair se_X12_fair lo_97 rfl rfl rfl ⟨Nat.le_of_ble_eq_true rfl, Nat.le_of_ble_eq_true rfl⟩ (Nat.le_of_ble_eq_true rfl) ?_
  show ll_W E L xs _ _ [.long r, .long r] M2
  refine ll_lcmp dL_law_909 ?_
  exact ll_if_eq0 1119 dL_law_910 rfl (by simp [lg_cmp]) k
set_option maxHeartbeats 4000000 in
theorem la_drought {E : mm_E} {L kk : Nat} {xs : Nat → Int32} (hk : 6 * kk + 6 ≤ L) (hL : L ≤ 3072) {M M1 M2 : mm_M} {r : Int32} (h1 : f_H_drought (xs (6 * kk + 1)) (xs (6 * kk + 2)) M = some (r, M1)) (h2 : f_R_drought (xs (6 * kk + 1)) (xs (6 * kk + 2)) M1 = some (r, M2)) (k : ll_W E L xs 1119 (ll_lv kk) [] M2) : ll_W E L xs 915 (ll_lv kk) [] M := by
  refine ll_aload_n 1 dL_law_915 rfl ?_
  refine ll_arg 1 dL_law_916 dL_law_917 dL_law_918 rfl dL_law_919 dL_law_920 hk (by decide) hL ?_
  refine ll_arg 2 dL_law_921 dL_law_922 dL_law_923 rfl dL_law_924 dL_law_925 hk (by decide) hL ?_
  refine ll_call (as := [.int (xs (6 * kk + 1)), .int (xs (6 * kk + 2))]) (st := []) (c_H_drought E (xs (6 * kk + 1)) (xs (6 * kk + 2)) M r M1 h1) dL_law_926 mz_X11_drought lk_RL_111 im_X11_drought se_X11_drought lo_0 rfl rfl rfl ⟨Nat.le_of_ble_eq_true rfl, Nat.le_of_ble_eq_true rfl⟩ (Nat.le_of_ble_eq_true rfl) ?_
  show ll_W E L xs _ _ [.int r] M1
  refine ll_aload_n 2 dL_law_929 rfl ?_
  refine ll_arg 1 dL_law_930 dL_law_931 dL_law_932 rfl dL_law_933 dL_law_934 hk (by decide) hL ?_
  refine ll_arg 2 dL_law_935 dL_law_936 dL_law_937 rfl dL_law_938 dL_law_939 hk (by decide) hL ?_
  refine ll_call (as := [.int (xs (6 * kk + 1)), .int (xs (6 * kk + 2))]) (st := [.int r]) (c_R_drought E (xs (6 * kk + 1)) (xs (6 * kk + 2)) M1 r M2 h2) dL_law_940 mz_X12_drought lk_RL_114 im_X12_drought se_X12_drought lo_97 rfl rfl rfl ⟨Nat.le_of_ble_eq_true rfl, Nat.le_of_ble_eq_true rfl⟩ (Nat.le_of_ble_eq_true rfl) ?_
  show ll_W E L xs _ _ [.int r, .int r] M2
  exact ll_icmp_eq 1119 dL_law_943 rfl k
set_option maxHeartbeats 4000000 in
theorem la_meter {E : mm_E} {L kk : Nat} {xs : Nat → Int32} (hk : 6 * kk + 6 ≤ L) (hL : L ≤ 3072) {M M1 M2 : mm_M} {r : Int32} (h1 : f_H_meter (xs (6 * kk + 1)) (xs (6 * kk + 2)) M = some (r, M1)) (h2 : f_R_meter (xs (6 * kk + 1)) (xs (6 * kk + 2)) M1 = some (r, M2)) (k : ll_W E L xs 1119 (ll_lv kk) [] M2) : ll_W E L xs 948 (ll_lv kk) [] M := by
  refine ll_aload_n 1 dL_law_948 rfl ?_
  refine ll_arg 1 dL_law_949 dL_law_950 dL_law_951 rfl dL_law_952 dL_law_953 hk (by decide) hL ?_
  refine ll_arg 2 dL_law_954 dL_law_955 dL_law_956 rfl dL_law_957 dL_law_958 hk (by decide) hL ?_
  refine ll_call (as := [.int (xs (6 * kk + 1)), .int (xs (6 * kk + 2))]) (st := []) (c_H_meter E (xs (6 * kk + 1)) (xs (6 * kk + 2)) M r M1 h1) dL_law_959 mz_X11_meter lk_RL_115 im_X11_meter se_X11_meter lo_0 rfl rfl rfl ⟨Nat.le_of_ble_eq_true rfl, Nat.le_of_ble_eq_true rfl⟩ (Nat.le_of_ble_eq_true rfl) ?_
  show ll_W E L xs _ _ [.int r] M1
  refine ll_aload_n 2 dL_law_962 rfl ?_
  refine ll_arg 1 dL_law_963 dL_law_964 dL_law_965 rfl dL_law_966 dL_law_967 hk (by decide) hL ?_
  refine ll_arg 2 dL_law_968 dL_law_969 dL_law_970 rfl dL_law_971 dL_law_972 hk (by decide) hL ?_
  refine ll_call (as := [.int (xs (6 * kk + 1)), .int (xs (6 * kk + 2))]) (st := [.int r]) (c_R_meter E (xs (6 * kk + 1)) (xs (6 * kk + 2)) M1 r M2 h2) dL_law_973 mz_X12_meter lk_RL_118 im_X12_meter se_X12_meter lo_97 rfl rfl rfl ⟨Nat.le_of_ble_eq_true rfl, Nat.le_of_ble_eq_true rfl⟩ (Nat.le_of_ble_eq_true rfl) ?_
  show ll_W E L xs _ _ [.int r, .int r] M2
  exact ll_icmp_eq 1119 dL_law_976 rfl k
set_option maxHeartbeats 4000000 in
theorem la_seed {E : mm_E} {L kk : Nat} {xs : Nat → Int32} (hk : 6 * kk + 6 ≤ L) (hL : L ≤ 3072) {M M1 M2 : mm_M} {r : Bool} (h1 : f_H_seed (xs (6 * kk + 1)) M = some (r, M1)) (h2 : f_R_seed (xs (6 * kk + 1)) M1 = some (r, M2)) (k : ll_W E L xs 1119 (ll_lv kk) [] M2) : ll_W E L xs 981 (ll_lv kk) [] M := by
  refine ll_aload_n 1 dL_law_981 rfl ?_
  refine ll_arg 1 dL_law_982 dL_law_983 dL_law_984 rfl dL_law_985 dL_law_986 hk (by decide) hL ?_
  refine ll_call (as := [.int (xs (6 * kk + 1))]) (st := []) (c_H_seed E (xs (6 * kk + 1)) M r M1 h1) dL_law_987 mz_X11_seed lk_RL_119 im_X11_seed se_X11_seed lo_0 rfl rfl rfl ⟨Nat.le_of_ble_eq_true rfl, Nat.le_of_ble_eq_true rfl⟩ (Nat.le_of_ble_eq_true rfl) ?_
  show ll_W E L xs _ _ [.int (mm_b r)] M1
  refine ll_aload_n 2 dL_law_990 rfl ?_
  refine ll_arg 1 dL_law_991 dL_law_992 dL_law_993 rfl dL_law_994 dL_law_995 hk (by decide) hL ?_
  refine ll_call (as := [.int (xs (6 * kk + 1))]) (st := [.int (mm_b r)]) (c_R_seed E (xs (6 * kk + 1)) M1 r M2 h2) dL_law_996 mz_X12_seed lk_RL_122 im_X12_seed se_X12_seed lo_97 rfl rfl rfl ⟨Nat.le_of_ble_eq_true rfl, Nat.le_of_ble_eq_true rfl⟩ (Nat.le_of_ble_eq_true rfl) ?_
  show ll_W E L xs _ _ [.int (mm_b r), .int (mm_b r)] M2
  exact ll_icmp_eq 1119 dL_law_999 rfl k
set_option maxHeartbeats 4000000 in
theorem la_draw {E : mm_E} {L kk : Nat} {xs : Nat → Int32} (hk : 6 * kk + 6 ≤ L) (hL : L ≤ 3072) {M M1 M2 : mm_M} {r : Int32} (h1 : f_H_draw (xs (6 * kk + 1)) M = some (r, M1)) (h2 : f_R_draw (xs (6 * kk + 1)) M1 = some (r, M2)) (k : ll_W E L xs 1119 (ll_lv kk) [] M2) : ll_W E L xs 1004 (ll_lv kk) [] M := by
  refine ll_aload_n 1 dL_law_1004 rfl ?_
  refine ll_arg 1 dL_law_1005 dL_law_1006 dL_law_1007 rfl dL_law_1008 dL_law_1009 hk (by decide) hL ?_
  refine ll_call (as := [.int (xs (6 * kk + 1))]) (st := []) (c_H_draw E (xs (6 * kk + 1)) M r M1 h1) dL_law_1010 mz_X11_draw lk_RL_123 im_X11_draw se_X11_draw lo_0 rfl rfl rfl ⟨Nat.le_of_ble_eq_true rfl, Nat.le_of_ble_eq_true rfl⟩ (Nat.le_of_ble_eq_true rfl) ?_
  show ll_W E L xs _ _ [.int r] M1
  refine ll_aload_n 2 dL_law_1013 rfl ?_
  refine ll_arg 1 dL_law_1014 dL_law_1015 dL_law_1016 rfl dL_law_1017 dL_law_1018 hk (by decide) hL ?_
  refine ll_call (as := [.int (xs (6 * kk + 1))]) (st := [.int r]) (c_R_draw E (xs (6 * kk + 1)) M1 r M2 h2) dL_law_1019 mz_X12_draw lk_RL_126 im_X12_draw se_X12_draw lo_97 rfl rfl rfl ⟨Nat.le_of_ble_eq_true rfl, Nat.le_of_ble_eq_true rfl⟩ (Nat.le_of_ble_eq_true rfl) ?_
  show ll_W E L xs _ _ [.int r, .int r] M2
  exact ll_icmp_eq 1119 dL_law_1022 rfl k
set_option maxHeartbeats 4000000 in
theorem la_keep {E : mm_E} {L kk : Nat} {xs : Nat → Int32} (hk : 6 * kk + 6 ≤ L) (hL : L ≤ 3072) {M M1 M2 : mm_M} {r : Int32} (h1 : f_H_keep  M = some (r, M1)) (h2 : f_R_keep  M1 = some (r, M2)) (k : ll_W E L xs 1119 (ll_lv kk) [] M2) : ll_W E L xs 1027 (ll_lv kk) [] M := by
  refine ll_aload_n 1 dL_law_1027 rfl ?_
  refine ll_call (as := []) (st := []) (c_H_keep E  M r M1 h1) dL_law_1028 mz_X11_keep lk_RL_127 im_X11_keep se_X11_keep lo_0 rfl rfl rfl ⟨Nat.le_of_ble_eq_true rfl, Nat.le_of_ble_eq_true rfl⟩ (Nat.le_of_ble_eq_true rfl) ?_
  show ll_W E L xs _ _ [.int r] M1
  refine ll_aload_n 2 dL_law_1031 rfl ?_
  refine ll_call (as := []) (st := [.int r]) (c_R_keep E  M1 r M2 h2) dL_law_1032 mz_X12_keep lk_RL_130 im_X12_keep se_X12_keep lo_97 rfl rfl rfl ⟨Nat.le_of_ble_eq_true rfl, Nat.le_of_ble_eq_true rfl⟩ (Nat.le_of_ble_eq_true rfl) ?_
  show ll_W E L xs _ _ [.int r, .int r] M2
  exact ll_icmp_eq 1119 dL_law_1035 rfl k
set_option maxHeartbeats 4000000 in
theorem la_undo {E : mm_E} {L kk : Nat} {xs : Nat → Int32} (hk : 6 * kk + 6 ≤ L) (hL : L ≤ 3072) {M M1 M2 : mm_M} {r : Bool} (h1 : f_H_undo  M = some (r, M1)) (h2 : f_R_undo  M1 = some (r, M2)) (k : ll_W E L xs 1119 (ll_lv kk) [] M2) : ll_W E L xs 1040 (ll_lv kk) [] M := by
  refine ll_aload_n 1 dL_law_1040 rfl ?_
  refine ll_call (as := []) (st := []) (c_H_undo E  M r M1 h1) dL_law_1041 mz_X11_undo lk_RL_131 im_X11_undo se_X11_undo lo_0 rfl rfl rfl ⟨Nat.le_of_ble_eq_true rfl, Nat.le_of_ble_eq_true rfl⟩ (Nat.le_of_ble_eq_true rfl) ?_
  show ll_W E L xs _ _ [.int (mm_b r)] M1
  refine ll_aload_n 2 dL_law_1044 rfl ?_
  refine ll_call (as := []) (st := [.int (mm_b r)]) (c_R_undo E  M1 r M2 h2) dL_law_1045 mz_X12_undo lk_RL_135 im_X12_undo se_X12_undo lo_97 rfl rfl rfl ⟨Nat.le_of_ble_eq_true rfl, Nat.le_of_ble_eq_true rfl⟩ (Nat.le_of_ble_eq_true rfl) ?_
  show ll_W E L xs _ _ [.int (mm_b r), .int (mm_b r)] M2
  exact ll_icmp_eq 1119 dL_law_1048 rfl k
set_option maxHeartbeats 4000000 in
theorem la_check {E : mm_E} {L kk : Nat} {xs : Nat → Int32} (hk : 6 * kk + 6 ≤ L) (hL : L ≤ 3072) {M M1 M2 : mm_M} {r : Int32} (h1 : f_H_check (xs (6 * kk + 1)) (xs (6 * kk + 2)) (xs (6 * kk + 3)) M = some (r, M1)) (h2 : f_R_check (xs (6 * kk + 1)) (xs (6 * kk + 2)) (xs (6 * kk + 3)) M1 = some (r, M2)) (k : ll_W E L xs 1119 (ll_lv kk) [] M2) : ll_W E L xs 1053 (ll_lv kk) [] M := by
  refine ll_aload_n 1 dL_law_1053 rfl ?_
  refine ll_arg 1 dL_law_1054 dL_law_1055 dL_law_1056 rfl dL_law_1057 dL_law_1058 hk (by decide) hL ?_
  refine ll_arg 2 dL_law_1059 dL_law_1060 dL_law_1061 rfl dL_law_1062 dL_law_1063 hk (by decide) hL ?_
  refine ll_arg 3 dL_law_1064 dL_law_1065 dL_law_1066 rfl dL_law_1067 dL_law_1068 hk (by decide) hL ?_
  refine ll_call (as := [.int (xs (6 * kk + 1)), .int (xs (6 * kk + 2)), .int (xs (6 * kk + 3))]) (st := []) (c_H_check E (xs (6 * kk + 1)) (xs (6 * kk + 2)) (xs (6 * kk + 3)) M r M1 h1) dL_law_1069 mz_X11_check lk_RL_136 im_X11_check se_X11_check lo_0 rfl rfl rfl ⟨Nat.le_of_ble_eq_true rfl, Nat.le_of_ble_eq_true rfl⟩ (Nat.le_of_ble_eq_true rfl) ?_
  show ll_W E L xs _ _ [.int r] M1
  refine ll_aload_n 2 dL_law_1072 rfl ?_
  refine ll_arg 1 dL_law_1073 dL_law_1074 dL_law_1075 rfl dL_law_1076 dL_law_1077 hk (by decide) hL ?_
  refine ll_arg 2 dL_law_1078 dL_law_1079 dL_law_1080 rfl dL_law_1081 dL_law_1082 hk (by decide) hL ?_
  refine ll_arg 3 dL_law_1083 dL_law_1084 dL_law_1085 rfl dL_law_1086 dL_law_1087 hk (by decide) hL ?_
  refine ll_call (as := [.int (xs (6 * kk + 1)), .int (xs (6 * kk + 2)), .int (xs (6 * kk + 3))]) (st := [.int r]) (c_R_check E (xs (6 * kk + 1)) (xs (6 * kk + 2)) (xs (6 * kk + 3)) M1 r M2 h2) dL_law_1088 mz_X12_check lk_RL_139 im_X12_check se_X12_check lo_97 rfl rfl rfl ⟨Nat.le_of_ble_eq_true rfl, Nat.le_of_ble_eq_true rfl⟩ (Nat.le_of_ble_eq_true rfl) ?_
  show ll_W E L xs _ _ [.int r, .int r] M2
  exact ll_icmp_eq 1119 dL_law_1091 rfl k
set_option maxHeartbeats 4000000 in
theorem la_count {E : mm_E} {L kk : Nat} {xs : Nat → Int32} (hk : 6 * kk + 6 ≤ L) (hL : L ≤ 3072) {M M1 M2 : mm_M} {r : Int32} (h1 : f_H_count (xs (6 * kk + 1)) M = some (r, M1)) (h2 : f_R_count (xs (6 * kk + 1)) M1 = some (r, M2)) (k : ll_W E L xs 1119 (ll_lv kk) [] M2) : ll_W E L xs 1096 (ll_lv kk) [] M := by
  refine ll_aload_n 1 dL_law_1096 rfl ?_
  refine ll_arg 1 dL_law_1097 dL_law_1098 dL_law_1099 rfl dL_law_1100 dL_law_1101 hk (by decide) hL ?_
  refine ll_call (as := [.int (xs (6 * kk + 1))]) (st := []) (c_H_count E (xs (6 * kk + 1)) M r M1 h1) dL_law_1102 mz_X11_count lk_RL_140 im_X11_count se_X11_count lo_0 rfl rfl rfl ⟨Nat.le_of_ble_eq_true rfl, Nat.le_of_ble_eq_true rfl⟩ (Nat.le_of_ble_eq_true rfl) ?_
  show ll_W E L xs _ _ [.int r] M1
  refine ll_aload_n 2 dL_law_1105 rfl ?_
  refine ll_arg 1 dL_law_1106 dL_law_1107 dL_law_1108 rfl dL_law_1109 dL_law_1110 hk (by decide) hL ?_
  refine ll_call (as := [.int (xs (6 * kk + 1))]) (st := [.int r]) (c_R_count E (xs (6 * kk + 1)) M1 r M2 h2) dL_law_1111 mz_X12_count lk_RL_143 im_X12_count se_X12_count lo_97 rfl rfl rfl ⟨Nat.le_of_ble_eq_true rfl, Nat.le_of_ble_eq_true rfl⟩ (Nat.le_of_ble_eq_true rfl) ?_
  show ll_W E L xs _ _ [.int r, .int r] M2
  exact ll_icmp_eq 1119 dL_law_1114 rfl k
/-- what is owed of the two functions of each call: they end, answer alike, and the tie holds behind them -/
def ok_feed (I : mm_M → Prop) : Prop := ∀ (a1 a2 a3 a4 a5 : Int32) (M : mm_M), I M → ∃ (r : Int32) (M1 M2 : mm_M), f_H_feed a1 a2 a3 a4 a5 M = some (r, M1) ∧ f_R_feed a1 a2 a3 a4 a5 M1 = some (r, M2) ∧ I M2
def ok_day (I : mm_M → Prop) : Prop := ∀ (a1 a2 : Int32) (M : mm_M), I M → ∃ (r : Int32) (M1 M2 : mm_M), f_H_day a1 a2 M = some (r, M1) ∧ f_R_day a1 a2 M1 = some (r, M2) ∧ I M2
def ok_dayIs (I : mm_M → Prop) : Prop := ∀ (a1 a2 a3 : Int32) (M : mm_M), I M → ∃ (r : Int32) (M1 M2 : mm_M), f_H_dayIs a1 a2 a3 M = some (r, M1) ∧ f_R_dayIs a1 a2 a3 M1 = some (r, M2) ∧ I M2
def ok_room (I : mm_M → Prop) : Prop := ∀ (a1 : Int32) (M : mm_M), I M → ∃ (r : Int32) (M1 M2 : mm_M), f_H_room a1 M = some (r, M1) ∧ f_R_room a1 M1 = some (r, M2) ∧ I M2
def ok_plant (I : mm_M → Prop) : Prop := ∀ (a1 a2 a3 : Int32) (M : mm_M), I M → ∃ (r : Bool) (M1 M2 : mm_M), f_H_plant a1 a2 a3 M = some (r, M1) ∧ f_R_plant a1 a2 a3 M1 = some (r, M2) ∧ I M2
def ok_pipes (I : mm_M → Prop) : Prop := ∀ (a1 a2 : Int32) (M : mm_M), I M → ∃ (r : Bool) (M1 M2 : mm_M), f_H_pipes a1 a2 M = some (r, M1) ∧ f_R_pipes a1 a2 M1 = some (r, M2) ∧ I M2
def ok_cellar (I : mm_M → Prop) : Prop := ∀ (a1 a2 : Int32) (M : mm_M), I M → ∃ (r : Bool) (M1 M2 : mm_M), f_H_cellar a1 a2 M = some (r, M1) ∧ f_R_cellar a1 a2 M1 = some (r, M2) ∧ I M2
def ok_stay (I : mm_M → Prop) : Prop := ∀ (a1 a2 a3 a4 : Int32) (M : mm_M), I M → ∃ (r : Bool) (M1 M2 : mm_M), f_H_stay a1 a2 a3 a4 M = some (r, M1) ∧ f_R_stay a1 a2 a3 a4 M1 = some (r, M2) ∧ I M2
def ok_leave (I : mm_M → Prop) : Prop := ∀ (a1 : Int32) (M : mm_M), I M → ∃ (r : Bool) (M1 M2 : mm_M), f_H_leave a1 M = some (r, M1) ∧ f_R_leave a1 M1 = some (r, M2) ∧ I M2
def ok_shift (I : mm_M → Prop) : Prop := ∀ (a1 a2 : Int32) (M : mm_M), I M → ∃ (r : Bool) (M1 M2 : mm_M), f_H_shift a1 a2 M = some (r, M1) ∧ f_R_shift a1 a2 M1 = some (r, M2) ∧ I M2
def ok_law (I : mm_M → Prop) : Prop := ∀ (a1 : Int32) (M : mm_M), I M → ∃ (r : Int32) (M1 M2 : mm_M), f_H_law a1 M = some (r, M1) ∧ f_R_law a1 M1 = some (r, M2) ∧ I M2
def ok_wants (I : mm_M → Prop) : Prop := ∀ (a1 a2 : Int32) (M : mm_M), I M → ∃ (r : Int32) (M1 M2 : mm_M), f_H_wants a1 a2 M = some (r, M1) ∧ f_R_wants a1 a2 M1 = some (r, M2) ∧ I M2
def ok_gets (I : mm_M → Prop) : Prop := ∀ (a1 a2 a3 : Int32) (M : mm_M), I M → ∃ (r : Int32) (M1 M2 : mm_M), f_H_gets a1 a2 a3 M = some (r, M1) ∧ f_R_gets a1 a2 a3 M1 = some (r, M2) ∧ I M2
def ok_served (I : mm_M → Prop) : Prop := ∀ (a1 : Int32) (M : mm_M), I M → ∃ (r : Int32) (M1 M2 : mm_M), f_H_served a1 M = some (r, M1) ∧ f_R_served a1 M1 = some (r, M2) ∧ I M2
def ok_can (I : mm_M → Prop) : Prop := ∀ (a1 a2 : Int32) (M : mm_M), I M → ∃ (r : Int32) (M1 M2 : mm_M), f_H_can a1 a2 M = some (r, M1) ∧ f_R_can a1 a2 M1 = some (r, M2) ∧ I M2
def ok_best (I : mm_M → Prop) : Prop := ∀ (a1 : Int32) (M : mm_M), I M → ∃ (r : Int32) (M1 M2 : mm_M), f_H_best a1 M = some (r, M1) ∧ f_R_best a1 M1 = some (r, M2) ∧ I M2
def ok_smallest (I : mm_M → Prop) : Prop := ∀ (M : mm_M), I M → ∃ (r : Int32) (M1 M2 : mm_M), f_H_smallest  M = some (r, M1) ∧ f_R_smallest  M1 = some (r, M2) ∧ I M2
def ok_costs (I : mm_M → Prop) : Prop := ∀ (a1 : Int32) (M : mm_M), I M → ∃ (r : Int32) (M1 M2 : mm_M), f_H_costs a1 M = some (r, M1) ∧ f_R_costs a1 M1 = some (r, M2) ∧ I M2
def ok_rooms (I : mm_M → Prop) : Prop := ∀ (a1 a2 a3 : Int32) (M : mm_M), I M → ∃ (r : Int32) (M1 M2 : mm_M), f_H_rooms a1 a2 a3 M = some (r, M1) ∧ f_R_rooms a1 a2 a3 M1 = some (r, M2) ∧ I M2
def ok_shifting (I : mm_M → Prop) : Prop := ∀ (a1 a2 a3 : Int32) (M : mm_M), I M → ∃ (r : Int32) (M1 M2 : mm_M), f_H_shifting a1 a2 a3 M = some (r, M1) ∧ f_R_shifting a1 a2 a3 M1 = some (r, M2) ∧ I M2
def ok_larger (I : mm_M → Prop) : Prop := ∀ (a1 : Int32) (M : mm_M), I M → ∃ (r : Int32) (M1 M2 : mm_M), f_H_larger a1 M = some (r, M1) ∧ f_R_larger a1 M1 = some (r, M2) ∧ I M2
def ok_fair (I : mm_M → Prop) : Prop := ∀ (a1 a2 a3 : Int32) (M : mm_M), I M → ∃ (r : Int64) (M1 M2 : mm_M), f_H_fair a1 a2 a3 M = some (r, M1) ∧ f_R_fair a1 a2 a3 M1 = some (r, M2) ∧ I M2
def ok_drought (I : mm_M → Prop) : Prop := ∀ (a1 a2 : Int32) (M : mm_M), I M → ∃ (r : Int32) (M1 M2 : mm_M), f_H_drought a1 a2 M = some (r, M1) ∧ f_R_drought a1 a2 M1 = some (r, M2) ∧ I M2
def ok_meter (I : mm_M → Prop) : Prop := ∀ (a1 a2 : Int32) (M : mm_M), I M → ∃ (r : Int32) (M1 M2 : mm_M), f_H_meter a1 a2 M = some (r, M1) ∧ f_R_meter a1 a2 M1 = some (r, M2) ∧ I M2
def ok_seed (I : mm_M → Prop) : Prop := ∀ (a1 : Int32) (M : mm_M), I M → ∃ (r : Bool) (M1 M2 : mm_M), f_H_seed a1 M = some (r, M1) ∧ f_R_seed a1 M1 = some (r, M2) ∧ I M2
def ok_draw (I : mm_M → Prop) : Prop := ∀ (a1 : Int32) (M : mm_M), I M → ∃ (r : Int32) (M1 M2 : mm_M), f_H_draw a1 M = some (r, M1) ∧ f_R_draw a1 M1 = some (r, M2) ∧ I M2
def ok_keep (I : mm_M → Prop) : Prop := ∀ (M : mm_M), I M → ∃ (r : Int32) (M1 M2 : mm_M), f_H_keep  M = some (r, M1) ∧ f_R_keep  M1 = some (r, M2) ∧ I M2
def ok_undo (I : mm_M → Prop) : Prop := ∀ (M : mm_M), I M → ∃ (r : Bool) (M1 M2 : mm_M), f_H_undo  M = some (r, M1) ∧ f_R_undo  M1 = some (r, M2) ∧ I M2
def ok_check (I : mm_M → Prop) : Prop := ∀ (a1 a2 a3 : Int32) (M : mm_M), I M → ∃ (r : Int32) (M1 M2 : mm_M), f_H_check a1 a2 a3 M = some (r, M1) ∧ f_R_check a1 a2 a3 M1 = some (r, M2) ∧ I M2
def ok_count (I : mm_M → Prop) : Prop := ∀ (a1 : Int32) (M : mm_M), I M → ∃ (r : Int32) (M1 M2 : mm_M), f_H_count a1 M = some (r, M1) ∧ f_R_count a1 M1 = some (r, M2) ∧ I M2
def ok_all (I : mm_M → Prop) : Prop := ok_feed I ∧ ok_day I ∧ ok_dayIs I ∧ ok_room I ∧ ok_plant I ∧ ok_pipes I ∧ ok_cellar I ∧ ok_stay I ∧ ok_leave I ∧ ok_shift I ∧ ok_law I ∧ ok_wants I ∧ ok_gets I ∧ ok_served I ∧ ok_can I ∧ ok_best I ∧ ok_smallest I ∧ ok_costs I ∧ ok_rooms I ∧ ok_shifting I ∧ ok_larger I ∧ ok_fair I ∧ ok_drought I ∧ ok_meter I ∧ ok_seed I ∧ ok_draw I ∧ ok_keep I ∧ ok_undo I ∧ ok_check I ∧ ok_count I
set_option maxHeartbeats 4000000 in
theorem ll_loop {I : mm_M → Prop} (ok : ok_all I) {E : mm_E} {L : Nat} {xs : Nat → Int32} (hL : L ≤ 3072) : ∀ (n kk : Nat) (M : mm_M), L < 6 * kk + n → 6 * kk ≤ L → I M → ll_W E L xs 18 (ll_lv kk) [] M := by
  obtain ⟨o_feed, o_day, o_dayIs, o_room, o_plant, o_pipes, o_cellar, o_stay, o_leave, o_shift, o_law, o_wants, o_gets, o_served, o_can, o_best, o_smallest, o_costs, o_rooms, o_shifting, o_larger, o_fair, o_drought, o_meter, o_seed, o_draw, o_keep, o_undo, o_check, o_count⟩ := ok
  intro n
  induction n with
  | zero => intro kk M h1 h2 _; omega
  | succ n ih =>
    intro kk M h1 h2 hI
    refine ll_iload_n 3 dL_law_18 rfl ?_
    refine ll_aload_n 0 dL_law_19 rfl ?_
    refine ll_slen dL_law_20 ?_
    refine ll_bipush (v := nI 6) dL_law_21 rfl ?_
    refine ll_isub dL_law_23 ?_
    have hlt : nI L - nI 6 < nI (6 * kk) ↔ L < 6 * kk + 6 := by
      rw [Int32.lt_iff_toInt_lt, pk_sub_toInt (by omega) (by omega), nI_toInt (by omega)]
      omega
    refine ll_icmp_gt 1125 dL_law_24 rfl (fun _ => ?_) (fun hc => ?_)
    · refine ll_iconst (v := 1) dL_law_1125 rfl ?_
      exact ll_ret dL_law_1126
    · have hk : 6 * kk + 6 ≤ L := by
        rcases Nat.lt_or_ge L (6 * kk + 6) with q | q
        · exact absurd (hlt.mpr q) hc
        · exact q
      have next : ∀ M2 : mm_M, I M2 → ll_W E L xs 1119 (ll_lv kk) [] M2 := by
        intro M2 hI2
        refine ll_iinc 3 [1, 2, 3, 0] (v := nI (6 * (kk + 1))) (lv2 := ll_lv (kk + 1)) dL_law_1119 rfl ?_ (by decide) rfl ?_
        · show nI (6 * kk) + nI 6 = nI (6 * (kk + 1))
          rw [nI_add]
          congr 1
        · refine ll_goto 18 dL_law_1122 rfl ?_
          exact ih (kk + 1) M2 (by omega) (by omega) hI2
      refine ll_aload_n 0 dL_law_27 rfl ?_
      refine ll_iload_n 3 dL_law_28 rfl ?_
      refine ll_sld (j := 6 * kk) dL_law_29 rfl (by omega) hL ?_
      refine ll_bipush (v := 31) dL_law_30 rfl ?_
      refine ll_iand dL_law_32 ?_
      generalize xs (6 * kk) &&& 31 = op
      refine ll_tabC 0 168 dL_law_33 (by decide) (by decide) rfl rfl ?_ (fun h0 => ?_)
      · obtain ⟨r, M1, M2, g1, g2, g3⟩ := o_feed (xs (6 * kk + 1)) (xs (6 * kk + 2)) (xs (6 * kk + 3)) (xs (6 * kk + 4)) (xs (6 * kk + 5)) M hI
        exact la_feed hk hL g1 g2 (next M2 g3)
      refine ll_tabC 1 231 dL_law_33 (by decide) (by decide) rfl rfl ?_ (fun h1 => ?_)
      · obtain ⟨r, M1, M2, g1, g2, g3⟩ := o_day (xs (6 * kk + 1)) (xs (6 * kk + 2)) M hI
        exact la_day hk hL g1 g2 (next M2 g3)
      refine ll_tabC 2 264 dL_law_33 (by decide) (by decide) rfl rfl ?_ (fun h2 => ?_)
      · obtain ⟨r, M1, M2, g1, g2, g3⟩ := o_dayIs (xs (6 * kk + 1)) (xs (6 * kk + 2)) (xs (6 * kk + 3)) M hI
        exact la_dayIs hk hL g1 g2 (next M2 g3)
      refine ll_tabC 3 307 dL_law_33 (by decide) (by decide) rfl rfl ?_ (fun h3 => ?_)
      · obtain ⟨r, M1, M2, g1, g2, g3⟩ := o_room (xs (6 * kk + 1)) M hI
        exact la_room hk hL g1 g2 (next M2 g3)
      refine ll_tabC 4 330 dL_law_33 (by decide) (by decide) rfl rfl ?_ (fun h4 => ?_)
      · obtain ⟨r, M1, M2, g1, g2, g3⟩ := o_plant (xs (6 * kk + 1)) (xs (6 * kk + 2)) (xs (6 * kk + 3)) M hI
        exact la_plant hk hL g1 g2 (next M2 g3)
      refine ll_tabC 5 373 dL_law_33 (by decide) (by decide) rfl rfl ?_ (fun h5 => ?_)
      · obtain ⟨r, M1, M2, g1, g2, g3⟩ := o_pipes (xs (6 * kk + 1)) (xs (6 * kk + 2)) M hI
        exact la_pipes hk hL g1 g2 (next M2 g3)
      refine ll_tabC 6 406 dL_law_33 (by decide) (by decide) rfl rfl ?_ (fun h6 => ?_)
      · obtain ⟨r, M1, M2, g1, g2, g3⟩ := o_cellar (xs (6 * kk + 1)) (xs (6 * kk + 2)) M hI
        exact la_cellar hk hL g1 g2 (next M2 g3)
      refine ll_tabC 7 439 dL_law_33 (by decide) (by decide) rfl rfl ?_ (fun h7 => ?_)
      · obtain ⟨r, M1, M2, g1, g2, g3⟩ := o_stay (xs (6 * kk + 1)) (xs (6 * kk + 2)) (xs (6 * kk + 3)) (xs (6 * kk + 4)) M hI
        exact la_stay hk hL g1 g2 (next M2 g3)
      refine ll_tabC 8 492 dL_law_33 (by decide) (by decide) rfl rfl ?_ (fun h8 => ?_)
      · obtain ⟨r, M1, M2, g1, g2, g3⟩ := o_leave (xs (6 * kk + 1)) M hI
        exact la_leave hk hL g1 g2 (next M2 g3)
      refine ll_tabC 9 515 dL_law_33 (by decide) (by decide) rfl rfl ?_ (fun h9 => ?_)
      · obtain ⟨r, M1, M2, g1, g2, g3⟩ := o_shift (xs (6 * kk + 1)) (xs (6 * kk + 2)) M hI
        exact la_shift hk hL g1 g2 (next M2 g3)
      refine ll_tabC 10 548 dL_law_33 (by decide) (by decide) rfl rfl ?_ (fun h10 => ?_)
      · obtain ⟨r, M1, M2, g1, g2, g3⟩ := o_law (xs (6 * kk + 1)) M hI
        exact la_law hk hL g1 g2 (next M2 g3)
      refine ll_tabC 11 571 dL_law_33 (by decide) (by decide) rfl rfl ?_ (fun h11 => ?_)
      · obtain ⟨r, M1, M2, g1, g2, g3⟩ := o_wants (xs (6 * kk + 1)) (xs (6 * kk + 2)) M hI
        exact la_wants hk hL g1 g2 (next M2 g3)
      refine ll_tabC 12 604 dL_law_33 (by decide) (by decide) rfl rfl ?_ (fun h12 => ?_)
      · obtain ⟨r, M1, M2, g1, g2, g3⟩ := o_gets (xs (6 * kk + 1)) (xs (6 * kk + 2)) (xs (6 * kk + 3)) M hI
        exact la_gets hk hL g1 g2 (next M2 g3)
      refine ll_tabC 13 647 dL_law_33 (by decide) (by decide) rfl rfl ?_ (fun h13 => ?_)
      · obtain ⟨r, M1, M2, g1, g2, g3⟩ := o_served (xs (6 * kk + 1)) M hI
        exact la_served hk hL g1 g2 (next M2 g3)
      refine ll_tabC 14 670 dL_law_33 (by decide) (by decide) rfl rfl ?_ (fun h14 => ?_)
      · obtain ⟨r, M1, M2, g1, g2, g3⟩ := o_can (xs (6 * kk + 1)) (xs (6 * kk + 2)) M hI
        exact la_can hk hL g1 g2 (next M2 g3)
      refine ll_tabC 15 703 dL_law_33 (by decide) (by decide) rfl rfl ?_ (fun h15 => ?_)
      · obtain ⟨r, M1, M2, g1, g2, g3⟩ := o_best (xs (6 * kk + 1)) M hI
        exact la_best hk hL g1 g2 (next M2 g3)
      refine ll_tabC 16 726 dL_law_33 (by decide) (by decide) rfl rfl ?_ (fun h16 => ?_)
      · obtain ⟨r, M1, M2, g1, g2, g3⟩ := o_smallest  M hI
        exact la_smallest hk hL g1 g2 (next M2 g3)
      refine ll_tabC 17 739 dL_law_33 (by decide) (by decide) rfl rfl ?_ (fun h17 => ?_)
      · obtain ⟨r, M1, M2, g1, g2, g3⟩ := o_costs (xs (6 * kk + 1)) M hI
        exact la_costs hk hL g1 g2 (next M2 g3)
      refine ll_tabC 18 762 dL_law_33 (by decide) (by decide) rfl rfl ?_ (fun h18 => ?_)
      · obtain ⟨r, M1, M2, g1, g2, g3⟩ := o_rooms (xs (6 * kk + 1)) (xs (6 * kk + 2)) (xs (6 * kk + 3)) M hI
        exact la_rooms hk hL g1 g2 (next M2 g3)
      refine ll_tabC 19 805 dL_law_33 (by decide) (by decide) rfl rfl ?_ (fun h19 => ?_)
      · obtain ⟨r, M1, M2, g1, g2, g3⟩ := o_shifting (xs (6 * kk + 1)) (xs (6 * kk + 2)) (xs (6 * kk + 3)) M hI
        exact la_shifting hk hL g1 g2 (next M2 g3)
      refine ll_tabC 20 848 dL_law_33 (by decide) (by decide) rfl rfl ?_ (fun h20 => ?_)
      · obtain ⟨r, M1, M2, g1, g2, g3⟩ := o_larger (xs (6 * kk + 1)) M hI
        exact la_larger hk hL g1 g2 (next M2 g3)
      refine ll_tabC 21 871 dL_law_33 (by decide) (by decide) rfl rfl ?_ (fun h21 => ?_)
      · obtain ⟨r, M1, M2, g1, g2, g3⟩ := o_fair (xs (6 * kk + 1)) (xs (6 * kk + 2)) (xs (6 * kk + 3)) M hI
        exact la_fair hk hL g1 g2 (next M2 g3)
      refine ll_tabC 22 915 dL_law_33 (by decide) (by decide) rfl rfl ?_ (fun h22 => ?_)
      · obtain ⟨r, M1, M2, g1, g2, g3⟩ := o_drought (xs (6 * kk + 1)) (xs (6 * kk + 2)) M hI
        exact la_drought hk hL g1 g2 (next M2 g3)
      refine ll_tabC 23 948 dL_law_33 (by decide) (by decide) rfl rfl ?_ (fun h23 => ?_)
      · obtain ⟨r, M1, M2, g1, g2, g3⟩ := o_meter (xs (6 * kk + 1)) (xs (6 * kk + 2)) M hI
        exact la_meter hk hL g1 g2 (next M2 g3)
      refine ll_tabC 24 981 dL_law_33 (by decide) (by decide) rfl rfl ?_ (fun h24 => ?_)
      · obtain ⟨r, M1, M2, g1, g2, g3⟩ := o_seed (xs (6 * kk + 1)) M hI
        exact la_seed hk hL g1 g2 (next M2 g3)
      refine ll_tabC 25 1004 dL_law_33 (by decide) (by decide) rfl rfl ?_ (fun h25 => ?_)
      · obtain ⟨r, M1, M2, g1, g2, g3⟩ := o_draw (xs (6 * kk + 1)) M hI
        exact la_draw hk hL g1 g2 (next M2 g3)
      refine ll_tabC 26 1027 dL_law_33 (by decide) (by decide) rfl rfl ?_ (fun h26 => ?_)
      · obtain ⟨r, M1, M2, g1, g2, g3⟩ := o_keep  M hI
        exact la_keep hk hL g1 g2 (next M2 g3)
      refine ll_tabC 27 1040 dL_law_33 (by decide) (by decide) rfl rfl ?_ (fun h27 => ?_)
      · obtain ⟨r, M1, M2, g1, g2, g3⟩ := o_undo  M hI
        exact la_undo hk hL g1 g2 (next M2 g3)
      refine ll_tabC 28 1053 dL_law_33 (by decide) (by decide) rfl rfl ?_ (fun h28 => ?_)
      · obtain ⟨r, M1, M2, g1, g2, g3⟩ := o_check (xs (6 * kk + 1)) (xs (6 * kk + 2)) (xs (6 * kk + 3)) M hI
        exact la_check hk hL g1 g2 (next M2 g3)
      refine ll_tabC 29 1096 dL_law_33 (by decide) (by decide) rfl rfl ?_ (fun h29 => ?_)
      · obtain ⟨r, M1, M2, g1, g2, g3⟩ := o_count (xs (6 * kk + 1)) M hI
        exact la_count hk hL g1 g2 (next M2 g3)
      refine ll_tabD 1119 dL_law_33 ?_ rfl (next M hI)
      have n0 := lv_neT (a := 0) h0 (by decide)
      have n1 := lv_neT (a := 1) h1 (by decide)
      have n2 := lv_neT (a := 2) h2 (by decide)
      have n3 := lv_neT (a := 3) h3 (by decide)
      have n4 := lv_neT (a := 4) h4 (by decide)
      have n5 := lv_neT (a := 5) h5 (by decide)
      have n6 := lv_neT (a := 6) h6 (by decide)
      have n7 := lv_neT (a := 7) h7 (by decide)
      have n8 := lv_neT (a := 8) h8 (by decide)
      have n9 := lv_neT (a := 9) h9 (by decide)
      have n10 := lv_neT (a := 10) h10 (by decide)
      have n11 := lv_neT (a := 11) h11 (by decide)
      have n12 := lv_neT (a := 12) h12 (by decide)
      have n13 := lv_neT (a := 13) h13 (by decide)
      have n14 := lv_neT (a := 14) h14 (by decide)
      have n15 := lv_neT (a := 15) h15 (by decide)
      have n16 := lv_neT (a := 16) h16 (by decide)
      have n17 := lv_neT (a := 17) h17 (by decide)
      have n18 := lv_neT (a := 18) h18 (by decide)
      have n19 := lv_neT (a := 19) h19 (by decide)
      have n20 := lv_neT (a := 20) h20 (by decide)
      have n21 := lv_neT (a := 21) h21 (by decide)
      have n22 := lv_neT (a := 22) h22 (by decide)
      have n23 := lv_neT (a := 23) h23 (by decide)
      have n24 := lv_neT (a := 24) h24 (by decide)
      have n25 := lv_neT (a := 25) h25 (by decide)
      have n26 := lv_neT (a := 26) h26 (by decide)
      have n27 := lv_neT (a := 27) h27 (by decide)
      have n28 := lv_neT (a := 28) h28 (by decide)
      have n29 := lv_neT (a := 29) h29 (by decide)
      omega
