theorem wh_over {args : Array Value} {s : State} (h : (Cond.arrayOver (.array .int)).before args s = true) : ∃ (comp c : ClassId) (k : Class), s.vm.findClass ("[" ++ (FieldType.int).toString) = some comp ∧ s.vm.classes[c]? = some k ∧ k.kind = .array comp (.array .int) ∧ s.vm.findClass ("[" ++ (FieldType.array .int).toString) = some c := by
  unfold Cond.before Cond.holds at h
  simp only [Cond.value, beq_iff_eq] at h
  obtain ⟨comp, h1, h2⟩ := Option.bind_eq_some_iff.mp h
  obtain ⟨c, h3, h4⟩ := Option.bind_eq_some_iff.mp h2
  obtain ⟨k, h5, h6⟩ := Option.map_eq_some_iff.mp h4
  obtain ⟨hlt, h7, -⟩ := Array.findIdx?_eq_some_iff_getElem.mp h3
  have hk : s.vm.classes[c] = k := (Array.getElem?_eq_some_iff.mp h5).2
  rw [hk] at h7
  cases hkk : k.kind with
  | array c2 ty =>
    rw [hkk] at h6 h7
    simp only [Bool.and_eq_true, decide_eq_true_eq, beq_iff_eq] at h6 h7
    subst h7
    exact ⟨c2, c, k, h1, h5, by rw [hkk, h6.1], h6.2⟩
  | _ => rw [hkk] at h7; simp at h7

set_option maxHeartbeats 4000000 in
set_option maxRecDepth 4000 in
theorem wh_setup {p : Program} {s : State} {m : MethodId} {meth : Method} {c : Code} (l : Launch) {b L : Nat} {xs : Nat → Int32} (C0 : lw_At p s m meth c b L xs) : ∃ E : mm_E, E.1 = l ∧ nn_T E s.heap.size s ∧ mm_S E s ∧ E.2.2.1 152 = b ∧ mm_Ok E ∧ (∀ q, mm_A E q → s.heap.size ≤ q) := by
  obtain ⟨hx, hb, hr, hml, hown, hts0, hX, hbl, hlocks, hgv⟩ := id C0
  have hts : ∀ w ∈ mm_tb, w.before #[Value.ref b] s = true := fun w h => hts0 w (List.mem_filter.mp h).1
  have hs := flat_of_before _ hgv
  obtain ⟨c0, iS0, hKn0⟩ := u_known (C := RX0) (T := TX0) (N := 8) (n := 8) hts cf_0.2.1 (hts _ nw_RX11_75.2.1)
  obtain ⟨c1, iS1, hKn1⟩ := u_known (C := RX1) (T := TX1) (N := 9) (n := 9) hts cf_1.2.1 (hts _ nw_RX11_21.2.1)
  obtain ⟨c2, iS2, hKn2⟩ := u_known (C := RX2) (T := TX2) (N := 7) (n := 7) hts cf_2.2.1 (hts _ nw_RX11_30.2.1)
  obtain ⟨c3, iS3, hKn3⟩ := u_known (C := RX3) (T := TX3) (N := 12) (n := 12) hts cf_3.2.1 (hts _ nw_RX11_47.2.1)
  obtain ⟨c4, iS4, hKn4⟩ := u_known (C := RX4) (T := TX4) (N := 2) (n := 2) hts cf_4.2.1 (hts _ nw_RX11_57.2.1)
  obtain ⟨c5, iS5, hKn5⟩ := u_known (C := RX5) (T := TX5) (N := 10) (n := 10) hts cf_5.2.1 (hts _ nw_RX11_66.2.1)
  obtain ⟨c6, iS6, hKn6⟩ := u_known (C := RX6) (T := TX6) (N := 9) (n := 9) hts cf_6.2.1 (hts _ nw_RX11_93.2.1)
  obtain ⟨c7, iS7, hKn7⟩ := u_known (C := RX7) (T := TX7) (N := 6) (n := 6) hts cf_7.2.1 (hts _ nw_RX11_37.2.1)
  obtain ⟨c8, iS8, hKn8⟩ := u_known (C := RX8) (T := TX8) (N := 15) (n := 15) hts cf_8.2.1 (hts _ nw_RX11_84.2.1)
  obtain ⟨c9, iS9, hKn9⟩ := u_known (C := RX9) (T := TX9) (N := 2) (n := 2) hts cf_9.2.1 (hts _ nw_RX11_9.2.1)
  obtain ⟨c10, iS10, hKn10⟩ := u_known (C := RX10) (T := TX10) (N := 5) (n := 5) hts cf_10.2.1 (hts _ nw_RX11_16.2.1)
  obtain ⟨c11, iS11, hKn11⟩ := u_known (C := RX11) (T := TX11) (N := 13) (n := 13) hts cf_11.2.1 (hts _ nw_RL_7.2.1)
  obtain ⟨c12, iS12, hKn12⟩ := u_known (C := RX12) (T := TX12) (N := 68) (n := 68) hts cf_12.2.1 (hts _ nw_RL_10.2.1)
  obtain ⟨dC, dI, hKc⟩ : ∃ (dC : Nat → ClassId) (dI : Nat → Nat → Nat), ∀ (k : Nat) (q : vw_C), vwCl[k]? = some q → u_Kn s q.1 q.2.1 q.2.2 (dC k) (dI k) := by
    refine ⟨fun k => if k = 0 then c0 else if k = 1 then c1 else if k = 2 then c2 else if k = 3 then c3 else if k = 4 then c4 else if k = 5 then c5 else if k = 6 then c6 else if k = 7 then c7 else if k = 8 then c8 else if k = 9 then c9 else if k = 10 then c10 else if k = 11 then c11 else c12, fun k => if k = 0 then iS0 else if k = 1 then iS1 else if k = 2 then iS2 else if k = 3 then iS3 else if k = 4 then iS4 else if k = 5 then iS5 else if k = 6 then iS6 else if k = 7 then iS7 else if k = 8 then iS8 else if k = 9 then iS9 else if k = 10 then iS10 else if k = 11 then iS11 else iS12, ?_⟩
    intro k q hq
    match k, hq with
    | 0, hq => cases hq; exact hKn0
    | 1, hq => cases hq; exact hKn1
    | 2, hq => cases hq; exact hKn2
    | 3, hq => cases hq; exact hKn3
    | 4, hq => cases hq; exact hKn4
    | 5, hq => cases hq; exact hKn5
    | 6, hq => cases hq; exact hKn6
    | 7, hq => cases hq; exact hKn7
    | 8, hq => cases hq; exact hKn8
    | 9, hq => cases hq; exact hKn9
    | 10, hq => cases hq; exact hKn10
    | 11, hq => cases hq; exact hKn11
    | 12, hq => cases hq; exact hKn12
    | k + 13, hq => simp [vwCl] at hq
  obtain ⟨aI, kI, pI, fI, gI, hI⟩ := Cond.arrayClass_spec (hts _ aw_0)
  obtain ⟨aB, kB, pB, fB, gB, hB⟩ := Cond.arrayClass_spec (hts _ aw_1)
  obtain ⟨cm, aR, kR, f1, gR, hR, fR⟩ := wh_over (hts0 _ (List.mem_append_right _ (List.mem_of_getElem? (i := 80) (by decide +kernel))))
  have hcm : cm = aI := Option.some.inj (f1.symm.trans fI)
  subst hcm
  have hA0 : ∀ a : Nat, a < s.heap.size → ¬ (fun q : Nat => s.heap.size ≤ q) a := fun a h1 h2 => by
    have : s.heap.size ≤ a := h2
    omega
  obtain ⟨adK, adV, hSt, hEv⟩ := vk_Sof (args := #[Value.ref b]) (s := s) (N := 6) (tm := (fun i => match i with | 0 => Term.string "WeatherHotel$Days" 78 | 1 => Term.string "WeatherHotel$LawReader" 49 | 2 => Term.string "WeatherHotel$LawReader" 109 | 3 => Term.string "WeatherHotel$LawReader" 107 | 4 => Term.string "WeatherHotel$LawReader" 102 | _ => Term.string "WeatherHotel$LawReader" 97)) (len := mm_len) (byt := mm_byt) (A := fun q : Nat => s.heap.size ≤ q)
    (fun i hi => by
      rcases (show i = 0 ∨ i = 1 ∨ i = 2 ∨ i = 3 ∨ i = 4 ∨ i = 5 by omega) with rfl | rfl | rfl | rfl | rfl | rfl <;> decide)
    (fun i hi => by
      rcases (show i = 0 ∨ i = 1 ∨ i = 2 ∨ i = 3 ∨ i = 4 ∨ i = 5 by omega) with rfl | rfl | rfl | rfl | rfl | rfl <;> exact hs _ (by decide +kernel))
    (fun i hi => by
      rcases (show i = 0 ∨ i = 1 ∨ i = 2 ∨ i = 3 ∨ i = 4 ∨ i = 5 by omega) with rfl | rfl | rfl | rfl | rfl | rfl <;> exact hs _ (by decide +kernel))
    (fun i hi => by
      rcases (show i = 0 ∨ i = 1 ∨ i = 2 ∨ i = 3 ∨ i = 4 ∨ i = 5 by omega) with rfl | rfl | rfl | rfl | rfl | rfl <;> exact hs _ (by decide +kernel))
    (fun i hi => by
      rcases (show i = 0 ∨ i = 1 ∨ i = 2 ∨ i = 3 ∨ i = 4 ∨ i = 5 by omega) with rfl | rfl | rfl | rfl | rfl | rfl <;> exact hs _ (by decide +kernel))
    (fun i hi => by
      rcases (show i = 0 ∨ i = 1 ∨ i = 2 ∨ i = 3 ∨ i = 4 ∨ i = 5 by omega) with rfl | rfl | rfl | rfl | rfl | rfl
      · intro j hj
        have hj : j < 3 := hj
        rcases (show j = 0 ∨ j = 1 ∨ j = 2 by omega) with rfl | rfl | rfl <;> exact hs _ (by decide +kernel)
      · intro j hj
        have hj : j < 2 := hj
        rcases (show j = 0 ∨ j = 1 by omega) with rfl | rfl <;> exact hs _ (by decide +kernel)
      · intro j hj
        have hj : j < 9 := hj
        rcases (show j = 0 ∨ j = 1 ∨ j = 2 ∨ j = 3 ∨ j = 4 ∨ j = 5 ∨ j = 6 ∨ j = 7 ∨ j = 8 by omega) with rfl | rfl | rfl | rfl | rfl | rfl | rfl | rfl | rfl <;> exact hs _ (by decide +kernel)
      · intro j hj
        have hj : j < 3 := hj
        rcases (show j = 0 ∨ j = 1 ∨ j = 2 by omega) with rfl | rfl | rfl <;> exact hs _ (by decide +kernel)
      · intro j hj
        have hj : j < 2 := hj
        rcases (show j = 0 ∨ j = 1 by omega) with rfl | rfl <;> exact hs _ (by decide +kernel)
      · intro j hj
        have hj : j < 3 := hj
        rcases (show j = 0 ∨ j = 1 ∨ j = 2 by omega) with rfl | rfl | rfl <;> exact hs _ (by decide +kernel))
    (fun i j hi hj hij => by
      rcases (show i = 0 ∨ i = 1 ∨ i = 2 ∨ i = 3 ∨ i = 4 ∨ i = 5 by omega) with rfl | rfl | rfl | rfl | rfl | rfl <;> rcases (show j = 0 ∨ j = 1 ∨ j = 2 ∨ j = 3 ∨ j = 4 ∨ j = 5 by omega) with rfl | rfl | rfl | rfl | rfl | rfl <;> first | exact absurd rfl hij | exact Or.inl (hs _ (by decide +kernel)) | exact Or.inr (hs _ (by decide +kernel)))
    hA0
  have hZ : va_Z "java/lang/String" "COMPACT_STRINGS" "Z" (.int 1) (fun q : Nat => s.heap.size ≤ q) s s.heap := va_Zof (hts0 _ (List.mem_append_right _ (List.mem_of_getElem? (i := 541) (by decide +kernel)))) (hts0 (.initialized "java/lang/String") (List.mem_append_right _ (List.mem_of_getElem? (i := 16) (by decide +kernel)))) (va_eqi (hs _ (by decide +kernel))) hA0
  have hlen : mm_lay.length = 140 := by decide +kernel
  obtain ⟨E, hE⟩ : ∃ E : mm_E, E = (l, (dC, dI), (fun i => if i < 140 then s.heap.size + i else if i < 146 then adK (i - 140) else if i < 152 then adV (i - 146) else b), (fun t => if t = 0 then cm else if t = 1 then aB else aR)) := ⟨_, rfl⟩
  have hEB : nn_B E s.heap.size := fun i hi => by rw [hE]; exact if_pos hi
  have hAs : ∀ q, mm_A E q → s.heap.size ≤ q := by
    intro q hq
    obtain ⟨i, h1, h2⟩ := hq
    rw [hlen] at h1
    rw [h2, hEB i h1]
    omega
  have hK1 : ∀ j, j < 6 → E.2.2.1 (mm_lay.length + j) = adK j := by
    intro j hj
    rw [hE, hlen]
    show (if 140 + j < 140 then _ else if 140 + j < 146 then adK (140 + j - 140) else _) = _
    rw [if_neg (by omega), if_pos (by omega)]
    congr 1
    omega
  have hV1 : ∀ j, j < 6 → E.2.2.1 (mm_lay.length + 6 + j) = adV j := by
    intro j hj
    rw [hE, hlen]
    show (if 140 + 6 + j < 140 then _ else if 140 + 6 + j < 146 then _ else if 140 + 6 + j < 152 then adV (140 + 6 + j - 146) else _) = _
    rw [if_neg (by omega), if_neg (by omega), if_pos (by omega)]
    congr 1
    omega
  refine ⟨E, by rw [hE], ⟨?_, ?_, hEB, ?_⟩, ⟨?_, ?_, ?_⟩, by rw [hE]; rfl, ?_, hAs⟩
  · refine ⟨by rw [hE]; exact hKc, fun k q hq => ?_⟩
    have hq : ([(E.2.2.2 0, .int), (E.2.2.2 1, .byte), (E.2.2.2 2, .array .int)] : List (ClassId × FieldType))[k]? = some q := hq
    match k, hq with
    | 0, hq => cases hq; rw [hE]; exact ⟨fun n z => ⟨fun k h => (by cases h), kI, gI, pI, hI⟩, fI⟩
    | 1, hq => cases hq; rw [hE]; exact ⟨fun n z => ⟨fun k h => (by cases h), kB, gB, pB, hB⟩, fB⟩
    | 2, hq => cases hq; rw [hE]; exact ⟨fun n z => ⟨fun k h => (by cases h), kR, gR, _, hR⟩, fR⟩
    | k + 3, hq => simp at hq
  · intro w hw
    have h1 := hts0 w (List.mem_filter.mp hw).1
    have h2 := (List.mem_filter.mp hw).2
    cases w <;> first | exact va_Nw.of rfl h1 | (simp [mm_isN] at h2)
  · rw [hE]; exact ⟨kR, gR, hR⟩
  · refine ⟨fun i hi => ?_, fun i j hi hj e => ?_⟩
    · have h1 := (hSt.narrow hAs).1 i hi
      rw [← hK1 i hi, ← hV1 i hi] at h1
      exact h1
    · have e : E.2.2.1 (mm_lay.length + i) = E.2.2.1 (mm_lay.length + j) := e
      rw [hK1 i hi, hK1 j hj] at e
      exact hSt.2 i j hi hj e
  · exact hZ.narrow hAs
  · intro q hq
    have hq : q ∈ mm_str := hq
    simp only [mm_str, List.mem_cons, List.not_mem_nil, or_false] at hq
    rcases hq with rfl | rfl | rfl | rfl | rfl | rfl
    · exact vk_R.of (hts0 _ (List.mem_append_right _ (List.mem_of_getElem? (i := 519) (by decide +kernel)))) (by rw [hK1 0 (by decide)]; exact hEv 0 (by decide))
    · exact vk_R.of (hts0 _ (List.mem_append_right _ (List.mem_of_getElem? (i := 725) (by decide +kernel)))) (by rw [hK1 1 (by decide)]; exact hEv 1 (by decide))
    · exact vk_R.of (hts0 _ (List.mem_append_right _ (List.mem_of_getElem? (i := 746) (by decide +kernel)))) (by rw [hK1 2 (by decide)]; exact hEv 2 (by decide))
    · exact vk_R.of (hts0 _ (List.mem_append_right _ (List.mem_of_getElem? (i := 753) (by decide +kernel)))) (by rw [hK1 3 (by decide)]; exact hEv 3 (by decide))
    · exact vk_R.of (hts0 _ (List.mem_append_right _ (List.mem_of_getElem? (i := 754) (by decide +kernel)))) (by rw [hK1 4 (by decide)]; exact hEv 4 (by decide))
    · exact vk_R.of (hts0 _ (List.mem_append_right _ (List.mem_of_getElem? (i := 771) (by decide +kernel)))) (by rw [hK1 5 (by decide)]; exact hEv 5 (by decide))
  · intro i j hi hj e
    rw [hlen] at hi hj
    rw [hEB i hi, hEB j hj] at e
    omega
def wh_M0 : mm_M := (fun o k => if o = 22 ∧ k = 5 then 9999 else if o = 27 ∧ k = 5 then 1 else if o = 32 ∧ k = 5 then 1 else if o = 97 ∧ k = 10 then 9999 else if o = 97 ∧ k = 13 then 1 else 0, fun o => if o = 26 then upd (upd (upd (upd (fun _ => 0) (0 : Int32).toNatClampNeg 999) (1 : Int32).toNatClampNeg 999) (2 : Int32).toNatClampNeg 999) (3 : Int32).toNatClampNeg 999 else if o = 104 then upd (upd (upd (upd (fun _ => 0) (0 : Int32).toNatClampNeg 999) (1 : Int32).toNatClampNeg 999) (2 : Int32).toNatClampNeg 999) (3 : Int32).toNatClampNeg 999 else fun _ => 0, fun _ _ => 0)
theorem wq_0 (E : mm_E) : nn_cc E (.inl (11, [.ref 1, .ref 4, .ref 22, .ref 27, .ref 32, .int 0, .ref 37, .ref 46, .ref 55, .ref 56, .ref 71, .ref 73, .ref 93])) = mm_cell E wh_M0 0 (.inl (11, [3, 6, 24, 29, 34, 0, 39, 48, 57, 58, 73, 75, 95])) := by
  simp [nn_cc, mm_cell, mm_cv, mm_fv, wh_M0]
theorem wq_1 (E : mm_E) : nn_cc E (.inl (9, [.ref 2, .int 0])) = mm_cell E wh_M0 1 (.inl (9, [4, 0])) := by
  simp [nn_cc, mm_cell, mm_cv, mm_fv, wh_M0]
theorem wq_2 (E : mm_E) : nn_cc E (.inr (0, 200, .inl (fun _ => 0))) = mm_cell E wh_M0 2 (.inr (0, 200, 0)) := by
  rfl
theorem wq_3 (E : mm_E) : nn_cc E (.inl (10, [.ref 1, .int 0, .int 0, .int 0, .int 0])) = mm_cell E wh_M0 3 (.inl (10, [3, 0, 0, 0, 0])) := by
  simp [nn_cc, mm_cell, mm_cv, mm_fv, wh_M0]
theorem wq_4 (E : mm_E) : nn_cc E (.inl (1, [.ref 3, .ref 5, .ref 18, .int 0, .ref 19, .ref 20, .ref 21, .int 0, .int 0])) = mm_cell E wh_M0 4 (.inl (1, [5, 7, 20, 0, 21, 22, 23, 0, 0])) := by
  simp [nn_cc, mm_cell, mm_cv, mm_fv, wh_M0]
theorem wq_5 (E : mm_E) : nn_cc E (.inr (2, 12, .inr 6)) = mm_cell E wh_M0 5 (.inr (2, 12, 6)) := by
  rfl
theorem wq_6 (E : mm_E) : nn_cc E (.inr (0, 72, .inl (fun _ => 0))) = mm_cell E wh_M0 6 (.inr (0, 72, 0)) := by
  rfl
theorem wq_7 (E : mm_E) : nn_cc E (.inr (0, 72, .inl (fun _ => 0))) = mm_cell E wh_M0 7 (.inr (0, 72, 0)) := by
  rfl
theorem wq_8 (E : mm_E) : nn_cc E (.inr (0, 72, .inl (fun _ => 0))) = mm_cell E wh_M0 8 (.inr (0, 72, 0)) := by
  rfl
theorem wq_9 (E : mm_E) : nn_cc E (.inr (0, 72, .inl (fun _ => 0))) = mm_cell E wh_M0 9 (.inr (0, 72, 0)) := by
  rfl
theorem wq_10 (E : mm_E) : nn_cc E (.inr (0, 72, .inl (fun _ => 0))) = mm_cell E wh_M0 10 (.inr (0, 72, 0)) := by
  rfl
theorem wq_11 (E : mm_E) : nn_cc E (.inr (0, 72, .inl (fun _ => 0))) = mm_cell E wh_M0 11 (.inr (0, 72, 0)) := by
  rfl
theorem wq_12 (E : mm_E) : nn_cc E (.inr (0, 72, .inl (fun _ => 0))) = mm_cell E wh_M0 12 (.inr (0, 72, 0)) := by
  rfl
theorem wq_13 (E : mm_E) : nn_cc E (.inr (0, 72, .inl (fun _ => 0))) = mm_cell E wh_M0 13 (.inr (0, 72, 0)) := by
  rfl
theorem wq_14 (E : mm_E) : nn_cc E (.inr (0, 72, .inl (fun _ => 0))) = mm_cell E wh_M0 14 (.inr (0, 72, 0)) := by
  rfl
theorem wq_15 (E : mm_E) : nn_cc E (.inr (0, 72, .inl (fun _ => 0))) = mm_cell E wh_M0 15 (.inr (0, 72, 0)) := by
  rfl
theorem wq_16 (E : mm_E) : nn_cc E (.inr (0, 72, .inl (fun _ => 0))) = mm_cell E wh_M0 16 (.inr (0, 72, 0)) := by
  rfl
theorem wq_17 (E : mm_E) : nn_cc E (.inr (0, 72, .inl (fun _ => 0))) = mm_cell E wh_M0 17 (.inr (0, 72, 0)) := by
  rfl
theorem wq_18 (E : mm_E) : nn_cc E (.inr (0, 72, .inl (fun _ => 0))) = mm_cell E wh_M0 18 (.inr (0, 72, 0)) := by
  rfl
theorem wq_19 (E : mm_E) : nn_cc E (.inr (0, 24, .inl (fun _ => 0))) = mm_cell E wh_M0 19 (.inr (0, 24, 0)) := by
  rfl
theorem wq_20 (E : mm_E) : nn_cc E (.inr (0, 3, .inl (fun _ => 0))) = mm_cell E wh_M0 20 (.inr (0, 3, 0)) := by
  rfl
theorem wq_21 (E : mm_E) : nn_cc E (.inr (0, 3, .inl (fun _ => 0))) = mm_cell E wh_M0 21 (.inr (0, 3, 0)) := by
  rfl
theorem wq_22 (E : mm_E) : nn_cc E (.inl (2, [.ref 23, .int 0, .ref 24, .ref 25, .ref 26, .int 9999, .int 0])) = mm_cell E wh_M0 22 (.inl (2, [25, 0, 26, 27, 28, 0, 0])) := by
  simp [nn_cc, mm_cell, mm_cv, mm_fv, wh_M0]
theorem wq_23 (E : mm_E) : nn_cc E (.inr (0, 10, .inl (fun _ => 0))) = mm_cell E wh_M0 23 (.inr (0, 10, 0)) := by
  rfl
theorem wq_24 (E : mm_E) : nn_cc E (.inr (0, 3, .inl (fun _ => 0))) = mm_cell E wh_M0 24 (.inr (0, 3, 0)) := by
  rfl
theorem wq_25 (E : mm_E) : nn_cc E (.inr (0, 3, .inl (fun _ => 0))) = mm_cell E wh_M0 25 (.inr (0, 3, 0)) := by
  rfl
theorem wq_26 (E : mm_E) : nn_cc E (.inr (0, 4, .inl (upd (upd (upd (upd (fun _ => 0) (0 : Int32).toNatClampNeg 999) (1 : Int32).toNatClampNeg 999) (2 : Int32).toNatClampNeg 999) (3 : Int32).toNatClampNeg 999))) = mm_cell E wh_M0 26 (.inr (0, 4, 0)) := by
  rfl
theorem wq_27 (E : mm_E) : nn_cc E (.inl (7, [.int 0, .ref 28, .ref 29, .ref 30, .ref 31, .int 1])) = mm_cell E wh_M0 27 (.inl (7, [0, 30, 31, 32, 33, 0])) := by
  simp [nn_cc, mm_cell, mm_cv, mm_fv, wh_M0]
theorem wq_28 (E : mm_E) : nn_cc E (.inr (0, 10, .inl (fun _ => 0))) = mm_cell E wh_M0 28 (.inr (0, 10, 0)) := by
  rfl
theorem wq_29 (E : mm_E) : nn_cc E (.inr (0, 10, .inl (fun _ => 0))) = mm_cell E wh_M0 29 (.inr (0, 10, 0)) := by
  rfl
theorem wq_30 (E : mm_E) : nn_cc E (.inr (0, 10, .inl (fun _ => 0))) = mm_cell E wh_M0 30 (.inr (0, 10, 0)) := by
  rfl
theorem wq_31 (E : mm_E) : nn_cc E (.inr (0, 10, .inl (fun _ => 0))) = mm_cell E wh_M0 31 (.inr (0, 10, 0)) := by
  rfl
theorem wq_32 (E : mm_E) : nn_cc E (.inl (7, [.int 0, .ref 33, .ref 34, .ref 35, .ref 36, .int 1])) = mm_cell E wh_M0 32 (.inl (7, [0, 35, 36, 37, 38, 0])) := by
  simp [nn_cc, mm_cell, mm_cv, mm_fv, wh_M0]
theorem wq_33 (E : mm_E) : nn_cc E (.inr (0, 10, .inl (fun _ => 0))) = mm_cell E wh_M0 33 (.inr (0, 10, 0)) := by
  rfl
theorem wq_34 (E : mm_E) : nn_cc E (.inr (0, 10, .inl (fun _ => 0))) = mm_cell E wh_M0 34 (.inr (0, 10, 0)) := by
  rfl
theorem wq_35 (E : mm_E) : nn_cc E (.inr (0, 10, .inl (fun _ => 0))) = mm_cell E wh_M0 35 (.inr (0, 10, 0)) := by
  rfl
theorem wq_36 (E : mm_E) : nn_cc E (.inr (0, 10, .inl (fun _ => 0))) = mm_cell E wh_M0 36 (.inr (0, 10, 0)) := by
  rfl
theorem wq_37 (E : mm_E) : nn_cc E (.inl (3, [.ref 38, .ref 39, .int 0, .ref 40, .ref 41, .ref 42, .ref 43, .int 0, .ref 44, .ref 45, .int 0, .int 0])) = mm_cell E wh_M0 37 (.inl (3, [40, 41, 0, 42, 43, 44, 45, 0, 46, 47, 0, 0])) := by
  simp [nn_cc, mm_cell, mm_cv, mm_fv, wh_M0]
theorem wq_38 (E : mm_E) : nn_cc E (.inr (0, 160, .inl (fun _ => 0))) = mm_cell E wh_M0 38 (.inr (0, 160, 0)) := by
  rfl
theorem wq_39 (E : mm_E) : nn_cc E (.inr (0, 160, .inl (fun _ => 0))) = mm_cell E wh_M0 39 (.inr (0, 160, 0)) := by
  rfl
theorem wq_40 (E : mm_E) : nn_cc E (.inr (0, 12, .inl (fun _ => 0))) = mm_cell E wh_M0 40 (.inr (0, 12, 0)) := by
  rfl
theorem wq_41 (E : mm_E) : nn_cc E (.inr (0, 12, .inl (fun _ => 0))) = mm_cell E wh_M0 41 (.inr (0, 12, 0)) := by
  rfl
theorem wq_42 (E : mm_E) : nn_cc E (.inr (0, 12, .inl (fun _ => 0))) = mm_cell E wh_M0 42 (.inr (0, 12, 0)) := by
  rfl
theorem wq_43 (E : mm_E) : nn_cc E (.inr (0, 12, .inl (fun _ => 0))) = mm_cell E wh_M0 43 (.inr (0, 12, 0)) := by
  rfl
theorem wq_44 (E : mm_E) : nn_cc E (.inr (0, 9, .inl (fun _ => 0))) = mm_cell E wh_M0 44 (.inr (0, 9, 0)) := by
  rfl
theorem wq_45 (E : mm_E) : nn_cc E (.inr (0, 160, .inl (fun _ => 0))) = mm_cell E wh_M0 45 (.inr (0, 160, 0)) := by
  rfl
theorem wq_46 (E : mm_E) : nn_cc E (.inl (3, [.ref 47, .ref 48, .int 0, .ref 49, .ref 50, .ref 51, .ref 52, .int 0, .ref 53, .ref 54, .int 0, .int 0])) = mm_cell E wh_M0 46 (.inl (3, [49, 50, 0, 51, 52, 53, 54, 0, 55, 56, 0, 0])) := by
  simp [nn_cc, mm_cell, mm_cv, mm_fv, wh_M0]
theorem wq_47 (E : mm_E) : nn_cc E (.inr (0, 160, .inl (fun _ => 0))) = mm_cell E wh_M0 47 (.inr (0, 160, 0)) := by
  rfl
theorem wq_48 (E : mm_E) : nn_cc E (.inr (0, 160, .inl (fun _ => 0))) = mm_cell E wh_M0 48 (.inr (0, 160, 0)) := by
  rfl
theorem wq_49 (E : mm_E) : nn_cc E (.inr (0, 12, .inl (fun _ => 0))) = mm_cell E wh_M0 49 (.inr (0, 12, 0)) := by
  rfl
theorem wq_50 (E : mm_E) : nn_cc E (.inr (0, 12, .inl (fun _ => 0))) = mm_cell E wh_M0 50 (.inr (0, 12, 0)) := by
  rfl
theorem wq_51 (E : mm_E) : nn_cc E (.inr (0, 12, .inl (fun _ => 0))) = mm_cell E wh_M0 51 (.inr (0, 12, 0)) := by
  rfl
theorem wq_52 (E : mm_E) : nn_cc E (.inr (0, 12, .inl (fun _ => 0))) = mm_cell E wh_M0 52 (.inr (0, 12, 0)) := by
  rfl
theorem wq_53 (E : mm_E) : nn_cc E (.inr (0, 9, .inl (fun _ => 0))) = mm_cell E wh_M0 53 (.inr (0, 9, 0)) := by
  rfl
theorem wq_54 (E : mm_E) : nn_cc E (.inr (0, 160, .inl (fun _ => 0))) = mm_cell E wh_M0 54 (.inr (0, 160, 0)) := by
  rfl
theorem wq_55 (E : mm_E) : nn_cc E (.inl (4, [.ref 3, .ref 46])) = mm_cell E wh_M0 55 (.inl (4, [5, 48])) := by
  simp [nn_cc, mm_cell, mm_cv, mm_fv, wh_M0]
theorem wq_56 (E : mm_E) : nn_cc E (.inl (5, [.ref 22, .ref 27, .ref 4, .ref 57, .ref 68, .ref 69, .ref 70, .int 0, .int 0, .int 0])) = mm_cell E wh_M0 56 (.inl (5, [24, 29, 6, 59, 70, 71, 72, 0, 0, 0])) := by
  simp [nn_cc, mm_cell, mm_cv, mm_fv, wh_M0]
theorem wq_57 (E : mm_E) : nn_cc E (.inr (2, 10, .inr 58)) = mm_cell E wh_M0 57 (.inr (2, 10, 58)) := by
  rfl
theorem wq_58 (E : mm_E) : nn_cc E (.inr (0, 72, .inl (fun _ => 0))) = mm_cell E wh_M0 58 (.inr (0, 72, 0)) := by
  rfl
theorem wq_59 (E : mm_E) : nn_cc E (.inr (0, 72, .inl (fun _ => 0))) = mm_cell E wh_M0 59 (.inr (0, 72, 0)) := by
  rfl
theorem wq_60 (E : mm_E) : nn_cc E (.inr (0, 72, .inl (fun _ => 0))) = mm_cell E wh_M0 60 (.inr (0, 72, 0)) := by
  rfl
theorem wq_61 (E : mm_E) : nn_cc E (.inr (0, 72, .inl (fun _ => 0))) = mm_cell E wh_M0 61 (.inr (0, 72, 0)) := by
  rfl
theorem wq_62 (E : mm_E) : nn_cc E (.inr (0, 72, .inl (fun _ => 0))) = mm_cell E wh_M0 62 (.inr (0, 72, 0)) := by
  rfl
theorem wq_63 (E : mm_E) : nn_cc E (.inr (0, 72, .inl (fun _ => 0))) = mm_cell E wh_M0 63 (.inr (0, 72, 0)) := by
  rfl
theorem wq_64 (E : mm_E) : nn_cc E (.inr (0, 72, .inl (fun _ => 0))) = mm_cell E wh_M0 64 (.inr (0, 72, 0)) := by
  rfl
theorem wq_65 (E : mm_E) : nn_cc E (.inr (0, 72, .inl (fun _ => 0))) = mm_cell E wh_M0 65 (.inr (0, 72, 0)) := by
  rfl
theorem wq_66 (E : mm_E) : nn_cc E (.inr (0, 72, .inl (fun _ => 0))) = mm_cell E wh_M0 66 (.inr (0, 72, 0)) := by
  rfl
theorem wq_67 (E : mm_E) : nn_cc E (.inr (0, 72, .inl (fun _ => 0))) = mm_cell E wh_M0 67 (.inr (0, 72, 0)) := by
  rfl
theorem wq_68 (E : mm_E) : nn_cc E (.inr (0, 10, .inl (fun _ => 0))) = mm_cell E wh_M0 68 (.inr (0, 10, 0)) := by
  rfl
theorem wq_69 (E : mm_E) : nn_cc E (.inr (0, 72, .inl (fun _ => 0))) = mm_cell E wh_M0 69 (.inr (0, 72, 0)) := by
  rfl
theorem wq_70 (E : mm_E) : nn_cc E (.inr (0, 96, .inl (fun _ => 0))) = mm_cell E wh_M0 70 (.inr (0, 96, 0)) := by
  rfl
theorem wq_71 (E : mm_E) : nn_cc E (.inl (0, [.ref 22, .ref 27, .ref 56, .int 0, .int 0, .ref 72, .long 0, .long 0])) = mm_cell E wh_M0 71 (.inl (0, [24, 29, 58, 0, 0, 74, 1, 1])) := by
  simp [nn_cc, mm_cell, mm_cv, mm_fv, wh_M0]
theorem wq_72 (E : mm_E) : nn_cc E (.inr (0, 3, .inl (fun _ => 0))) = mm_cell E wh_M0 72 (.inr (0, 3, 0)) := by
  rfl
theorem wq_73 (E : mm_E) : nn_cc E (.inl (8, [.ref 22, .ref 27, .ref 37, .ref 56, .ref 74, .ref 85, .int 0, .int 0, .ref 86, .ref 87, .ref 88, .ref 89, .ref 90, .ref 91, .ref 92])) = mm_cell E wh_M0 73 (.inl (8, [24, 29, 39, 58, 76, 87, 0, 0, 88, 89, 90, 91, 92, 93, 94])) := by
  simp [nn_cc, mm_cell, mm_cv, mm_fv, wh_M0]
theorem wq_74 (E : mm_E) : nn_cc E (.inr (2, 10, .inr 75)) = mm_cell E wh_M0 74 (.inr (2, 10, 75)) := by
  rfl
theorem wq_75 (E : mm_E) : nn_cc E (.inr (0, 72, .inl (fun _ => 0))) = mm_cell E wh_M0 75 (.inr (0, 72, 0)) := by
  rfl
theorem wq_76 (E : mm_E) : nn_cc E (.inr (0, 72, .inl (fun _ => 0))) = mm_cell E wh_M0 76 (.inr (0, 72, 0)) := by
  rfl
theorem wq_77 (E : mm_E) : nn_cc E (.inr (0, 72, .inl (fun _ => 0))) = mm_cell E wh_M0 77 (.inr (0, 72, 0)) := by
  rfl
theorem wq_78 (E : mm_E) : nn_cc E (.inr (0, 72, .inl (fun _ => 0))) = mm_cell E wh_M0 78 (.inr (0, 72, 0)) := by
  rfl
theorem wq_79 (E : mm_E) : nn_cc E (.inr (0, 72, .inl (fun _ => 0))) = mm_cell E wh_M0 79 (.inr (0, 72, 0)) := by
  rfl
theorem wq_80 (E : mm_E) : nn_cc E (.inr (0, 72, .inl (fun _ => 0))) = mm_cell E wh_M0 80 (.inr (0, 72, 0)) := by
  rfl
theorem wq_81 (E : mm_E) : nn_cc E (.inr (0, 72, .inl (fun _ => 0))) = mm_cell E wh_M0 81 (.inr (0, 72, 0)) := by
  rfl
theorem wq_82 (E : mm_E) : nn_cc E (.inr (0, 72, .inl (fun _ => 0))) = mm_cell E wh_M0 82 (.inr (0, 72, 0)) := by
  rfl
theorem wq_83 (E : mm_E) : nn_cc E (.inr (0, 72, .inl (fun _ => 0))) = mm_cell E wh_M0 83 (.inr (0, 72, 0)) := by
  rfl
theorem wq_84 (E : mm_E) : nn_cc E (.inr (0, 72, .inl (fun _ => 0))) = mm_cell E wh_M0 84 (.inr (0, 72, 0)) := by
  rfl
theorem wq_85 (E : mm_E) : nn_cc E (.inr (0, 10, .inl (fun _ => 0))) = mm_cell E wh_M0 85 (.inr (0, 10, 0)) := by
  rfl
theorem wq_86 (E : mm_E) : nn_cc E (.inr (0, 10, .inl (fun _ => 0))) = mm_cell E wh_M0 86 (.inr (0, 10, 0)) := by
  rfl
theorem wq_87 (E : mm_E) : nn_cc E (.inr (0, 10, .inl (fun _ => 0))) = mm_cell E wh_M0 87 (.inr (0, 10, 0)) := by
  rfl
theorem wq_88 (E : mm_E) : nn_cc E (.inr (0, 3, .inl (fun _ => 0))) = mm_cell E wh_M0 88 (.inr (0, 3, 0)) := by
  rfl
theorem wq_89 (E : mm_E) : nn_cc E (.inr (0, 4, .inl (fun _ => 0))) = mm_cell E wh_M0 89 (.inr (0, 4, 0)) := by
  rfl
theorem wq_90 (E : mm_E) : nn_cc E (.inr (0, 24, .inl (fun _ => 0))) = mm_cell E wh_M0 90 (.inr (0, 24, 0)) := by
  rfl
theorem wq_91 (E : mm_E) : nn_cc E (.inr (0, 1024, .inl (fun _ => 0))) = mm_cell E wh_M0 91 (.inr (0, 1024, 0)) := by
  rfl
theorem wq_92 (E : mm_E) : nn_cc E (.inr (0, 1024, .inl (fun _ => 0))) = mm_cell E wh_M0 92 (.inr (0, 1024, 0)) := by
  rfl
theorem wq_93 (E : mm_E) : nn_cc E (.inl (6, [.ref 22, .ref 27, .ref 56, .int 0, .ref 94, .ref 95, .ref 96, .int 0, .int 0])) = mm_cell E wh_M0 93 (.inl (6, [24, 29, 58, 0, 96, 97, 98, 0, 0])) := by
  simp [nn_cc, mm_cell, mm_cv, mm_fv, wh_M0]
theorem wq_94 (E : mm_E) : nn_cc E (.inr (0, 10, .inl (fun _ => 0))) = mm_cell E wh_M0 94 (.inr (0, 10, 0)) := by
  rfl
theorem wq_95 (E : mm_E) : nn_cc E (.inr (0, 10, .inl (fun _ => 0))) = mm_cell E wh_M0 95 (.inr (0, 10, 0)) := by
  rfl
theorem wq_96 (E : mm_E) : nn_cc E (.inr (0, 10, .inl (fun _ => 0))) = mm_cell E wh_M0 96 (.inr (0, 10, 0)) := by
  rfl
theorem wq_97 (E : mm_E) : nn_cc E (.inl (12, [.ref 98, .int 0, .int 0, .int 0, .int 0, .int 0, .int 0, .ref 99, .ref 100, .int 0, .int 9999, .int 0, .int 0, .int 1, .ref 101, .ref 102, .ref 103, .ref 104, .ref 105, .ref 106, .ref 107, .ref 108, .int 0, .int 0, .int 0, .int 0, .int 0, .ref 109, .ref 110, .ref 111, .ref 112, .ref 113, .ref 114, .ref 115, .ref 116, .ref 117, .ref 118, .ref 119, .ref 120, .ref 121, .ref 122, .ref 123, .ref 124, .ref 125, .ref 126, .ref 127, .int 0, .int 0, .int 0, .int 0, .int 0, .int 0, .ref 128, .ref 129, .ref 130, .ref 131, .ref 132, .int 0, .ref 133, .ref 134, .ref 135, .int 0, .int 0, .int 0, .ref 136, .ref 137, .ref 138, .ref 139])) = mm_cell E wh_M0 97 (.inl (12, [100, 0, 0, 0, 0, 0, 0, 101, 102, 0, 0, 0, 0, 0, 103, 104, 105, 106, 107, 108, 109, 110, 0, 0, 0, 0, 0, 111, 112, 113, 114, 115, 116, 117, 118, 119, 120, 121, 122, 123, 124, 125, 126, 127, 128, 129, 0, 0, 0, 0, 0, 0, 130, 131, 132, 133, 134, 0, 135, 136, 137, 0, 0, 0, 138, 139, 140, 141])) := by
  simp [nn_cc, mm_cell, mm_cv, mm_fv, wh_M0]
theorem wq_98 (E : mm_E) : nn_cc E (.inr (1, 200, .inl (fun _ => 0))) = mm_cell E wh_M0 98 (.inr (1, 200, 0)) := by
  rfl
theorem wq_99 (E : mm_E) : nn_cc E (.inr (0, 864, .inl (fun _ => 0))) = mm_cell E wh_M0 99 (.inr (0, 864, 0)) := by
  rfl
theorem wq_100 (E : mm_E) : nn_cc E (.inr (0, 72, .inl (fun _ => 0))) = mm_cell E wh_M0 100 (.inr (0, 72, 0)) := by
  rfl
theorem wq_101 (E : mm_E) : nn_cc E (.inr (0, 10, .inl (fun _ => 0))) = mm_cell E wh_M0 101 (.inr (0, 10, 0)) := by
  rfl
theorem wq_102 (E : mm_E) : nn_cc E (.inr (0, 3, .inl (fun _ => 0))) = mm_cell E wh_M0 102 (.inr (0, 3, 0)) := by
  rfl
theorem wq_103 (E : mm_E) : nn_cc E (.inr (0, 3, .inl (fun _ => 0))) = mm_cell E wh_M0 103 (.inr (0, 3, 0)) := by
  rfl
theorem wq_104 (E : mm_E) : nn_cc E (.inr (0, 4, .inl (upd (upd (upd (upd (fun _ => 0) (0 : Int32).toNatClampNeg 999) (1 : Int32).toNatClampNeg 999) (2 : Int32).toNatClampNeg 999) (3 : Int32).toNatClampNeg 999))) = mm_cell E wh_M0 104 (.inr (0, 4, 0)) := by
  rfl
theorem wq_105 (E : mm_E) : nn_cc E (.inr (0, 10, .inl (fun _ => 0))) = mm_cell E wh_M0 105 (.inr (0, 10, 0)) := by
  rfl
theorem wq_106 (E : mm_E) : nn_cc E (.inr (0, 10, .inl (fun _ => 0))) = mm_cell E wh_M0 106 (.inr (0, 10, 0)) := by
  rfl
theorem wq_107 (E : mm_E) : nn_cc E (.inr (0, 10, .inl (fun _ => 0))) = mm_cell E wh_M0 107 (.inr (0, 10, 0)) := by
  rfl
theorem wq_108 (E : mm_E) : nn_cc E (.inr (0, 10, .inl (fun _ => 0))) = mm_cell E wh_M0 108 (.inr (0, 10, 0)) := by
  rfl
theorem wq_109 (E : mm_E) : nn_cc E (.inr (0, 180, .inl (fun _ => 0))) = mm_cell E wh_M0 109 (.inr (0, 180, 0)) := by
  rfl
theorem wq_110 (E : mm_E) : nn_cc E (.inr (0, 180, .inl (fun _ => 0))) = mm_cell E wh_M0 110 (.inr (0, 180, 0)) := by
  rfl
theorem wq_111 (E : mm_E) : nn_cc E (.inr (0, 12, .inl (fun _ => 0))) = mm_cell E wh_M0 111 (.inr (0, 12, 0)) := by
  rfl
theorem wq_112 (E : mm_E) : nn_cc E (.inr (0, 12, .inl (fun _ => 0))) = mm_cell E wh_M0 112 (.inr (0, 12, 0)) := by
  rfl
theorem wq_113 (E : mm_E) : nn_cc E (.inr (0, 12, .inl (fun _ => 0))) = mm_cell E wh_M0 113 (.inr (0, 12, 0)) := by
  rfl
theorem wq_114 (E : mm_E) : nn_cc E (.inr (0, 12, .inl (fun _ => 0))) = mm_cell E wh_M0 114 (.inr (0, 12, 0)) := by
  rfl
theorem wq_115 (E : mm_E) : nn_cc E (.inr (0, 180, .inl (fun _ => 0))) = mm_cell E wh_M0 115 (.inr (0, 180, 0)) := by
  rfl
theorem wq_116 (E : mm_E) : nn_cc E (.inr (0, 12, .inl (fun _ => 0))) = mm_cell E wh_M0 116 (.inr (0, 12, 0)) := by
  rfl
theorem wq_117 (E : mm_E) : nn_cc E (.inr (0, 12, .inl (fun _ => 0))) = mm_cell E wh_M0 117 (.inr (0, 12, 0)) := by
  rfl
theorem wq_118 (E : mm_E) : nn_cc E (.inr (0, 12, .inl (fun _ => 0))) = mm_cell E wh_M0 118 (.inr (0, 12, 0)) := by
  rfl
theorem wq_119 (E : mm_E) : nn_cc E (.inr (0, 12, .inl (fun _ => 0))) = mm_cell E wh_M0 119 (.inr (0, 12, 0)) := by
  rfl
theorem wq_120 (E : mm_E) : nn_cc E (.inr (0, 180, .inl (fun _ => 0))) = mm_cell E wh_M0 120 (.inr (0, 180, 0)) := by
  rfl
theorem wq_121 (E : mm_E) : nn_cc E (.inr (0, 9, .inl (fun _ => 0))) = mm_cell E wh_M0 121 (.inr (0, 9, 0)) := by
  rfl
theorem wq_122 (E : mm_E) : nn_cc E (.inr (0, 10, .inl (fun _ => 0))) = mm_cell E wh_M0 122 (.inr (0, 10, 0)) := by
  rfl
theorem wq_123 (E : mm_E) : nn_cc E (.inr (0, 10, .inl (fun _ => 0))) = mm_cell E wh_M0 123 (.inr (0, 10, 0)) := by
  rfl
theorem wq_124 (E : mm_E) : nn_cc E (.inr (0, 3, .inl (fun _ => 0))) = mm_cell E wh_M0 124 (.inr (0, 3, 0)) := by
  rfl
theorem wq_125 (E : mm_E) : nn_cc E (.inr (0, 4, .inl (fun _ => 0))) = mm_cell E wh_M0 125 (.inr (0, 4, 0)) := by
  rfl
theorem wq_126 (E : mm_E) : nn_cc E (.inr (0, 720, .inl (fun _ => 0))) = mm_cell E wh_M0 126 (.inr (0, 720, 0)) := by
  rfl
theorem wq_127 (E : mm_E) : nn_cc E (.inr (0, 10, .inl (fun _ => 0))) = mm_cell E wh_M0 127 (.inr (0, 10, 0)) := by
  rfl
theorem wq_128 (E : mm_E) : nn_cc E (.inr (0, 10, .inl (fun _ => 0))) = mm_cell E wh_M0 128 (.inr (0, 10, 0)) := by
  rfl
theorem wq_129 (E : mm_E) : nn_cc E (.inr (0, 6, .inl (fun _ => 0))) = mm_cell E wh_M0 129 (.inr (0, 6, 0)) := by
  rfl
theorem wq_130 (E : mm_E) : nn_cc E (.inr (0, 10, .inl (fun _ => 0))) = mm_cell E wh_M0 130 (.inr (0, 10, 0)) := by
  rfl
theorem wq_131 (E : mm_E) : nn_cc E (.inr (0, 10, .inl (fun _ => 0))) = mm_cell E wh_M0 131 (.inr (0, 10, 0)) := by
  rfl
theorem wq_132 (E : mm_E) : nn_cc E (.inr (0, 6, .inl (fun _ => 0))) = mm_cell E wh_M0 132 (.inr (0, 6, 0)) := by
  rfl
theorem wq_133 (E : mm_E) : nn_cc E (.inr (0, 24, .inl (fun _ => 0))) = mm_cell E wh_M0 133 (.inr (0, 24, 0)) := by
  rfl
theorem wq_134 (E : mm_E) : nn_cc E (.inr (0, 3, .inl (fun _ => 0))) = mm_cell E wh_M0 134 (.inr (0, 3, 0)) := by
  rfl
theorem wq_135 (E : mm_E) : nn_cc E (.inr (0, 3, .inl (fun _ => 0))) = mm_cell E wh_M0 135 (.inr (0, 3, 0)) := by
  rfl
theorem wq_136 (E : mm_E) : nn_cc E (.inr (0, 10, .inl (fun _ => 0))) = mm_cell E wh_M0 136 (.inr (0, 10, 0)) := by
  rfl
theorem wq_137 (E : mm_E) : nn_cc E (.inr (0, 10, .inl (fun _ => 0))) = mm_cell E wh_M0 137 (.inr (0, 10, 0)) := by
  rfl
theorem wq_138 (E : mm_E) : nn_cc E (.inr (0, 10, .inl (fun _ => 0))) = mm_cell E wh_M0 138 (.inr (0, 10, 0)) := by
  rfl
theorem wq_139 (E : mm_E) : nn_cc E (.inr (0, 10, .inl (fun _ => 0))) = mm_cell E wh_M0 139 (.inr (0, 10, 0)) := by
  rfl
theorem wh_ws (E : mm_E) : nn_ws E nx_243 = mm_ws E wh_M0 := by
  apply List.ext_getElem?
  intro i
  simp only [nn_ws, mm_ws, List.getElem?_mapIdx]
  by_cases hi : i < 140
  · have key : ∀ i, i < 140 → ∃ (c : nn_C) (L : mm_L), nx_243[i]? = some c ∧ mm_lay[i]? = some L ∧ nn_cc E c = mm_cell E wh_M0 i L := by
      intro i hi
      match i, hi with
      | 0, _ => exact ⟨_, _, rfl, rfl, wq_0 E⟩
      | 1, _ => exact ⟨_, _, rfl, rfl, wq_1 E⟩
      | 2, _ => exact ⟨_, _, rfl, rfl, wq_2 E⟩
      | 3, _ => exact ⟨_, _, rfl, rfl, wq_3 E⟩
      | 4, _ => exact ⟨_, _, rfl, rfl, wq_4 E⟩
      | 5, _ => exact ⟨_, _, rfl, rfl, wq_5 E⟩
      | 6, _ => exact ⟨_, _, rfl, rfl, wq_6 E⟩
      | 7, _ => exact ⟨_, _, rfl, rfl, wq_7 E⟩
      | 8, _ => exact ⟨_, _, rfl, rfl, wq_8 E⟩
      | 9, _ => exact ⟨_, _, rfl, rfl, wq_9 E⟩
      | 10, _ => exact ⟨_, _, rfl, rfl, wq_10 E⟩
      | 11, _ => exact ⟨_, _, rfl, rfl, wq_11 E⟩
      | 12, _ => exact ⟨_, _, rfl, rfl, wq_12 E⟩
      | 13, _ => exact ⟨_, _, rfl, rfl, wq_13 E⟩
      | 14, _ => exact ⟨_, _, rfl, rfl, wq_14 E⟩
      | 15, _ => exact ⟨_, _, rfl, rfl, wq_15 E⟩
      | 16, _ => exact ⟨_, _, rfl, rfl, wq_16 E⟩
      | 17, _ => exact ⟨_, _, rfl, rfl, wq_17 E⟩
      | 18, _ => exact ⟨_, _, rfl, rfl, wq_18 E⟩
      | 19, _ => exact ⟨_, _, rfl, rfl, wq_19 E⟩
      | 20, _ => exact ⟨_, _, rfl, rfl, wq_20 E⟩
      | 21, _ => exact ⟨_, _, rfl, rfl, wq_21 E⟩
      | 22, _ => exact ⟨_, _, rfl, rfl, wq_22 E⟩
      | 23, _ => exact ⟨_, _, rfl, rfl, wq_23 E⟩
      | 24, _ => exact ⟨_, _, rfl, rfl, wq_24 E⟩
      | 25, _ => exact ⟨_, _, rfl, rfl, wq_25 E⟩
      | 26, _ => exact ⟨_, _, rfl, rfl, wq_26 E⟩
      | 27, _ => exact ⟨_, _, rfl, rfl, wq_27 E⟩
      | 28, _ => exact ⟨_, _, rfl, rfl, wq_28 E⟩
      | 29, _ => exact ⟨_, _, rfl, rfl, wq_29 E⟩
      | 30, _ => exact ⟨_, _, rfl, rfl, wq_30 E⟩
      | 31, _ => exact ⟨_, _, rfl, rfl, wq_31 E⟩
      | 32, _ => exact ⟨_, _, rfl, rfl, wq_32 E⟩
      | 33, _ => exact ⟨_, _, rfl, rfl, wq_33 E⟩
      | 34, _ => exact ⟨_, _, rfl, rfl, wq_34 E⟩
      | 35, _ => exact ⟨_, _, rfl, rfl, wq_35 E⟩
      | 36, _ => exact ⟨_, _, rfl, rfl, wq_36 E⟩
      | 37, _ => exact ⟨_, _, rfl, rfl, wq_37 E⟩
      | 38, _ => exact ⟨_, _, rfl, rfl, wq_38 E⟩
      | 39, _ => exact ⟨_, _, rfl, rfl, wq_39 E⟩
      | 40, _ => exact ⟨_, _, rfl, rfl, wq_40 E⟩
      | 41, _ => exact ⟨_, _, rfl, rfl, wq_41 E⟩
      | 42, _ => exact ⟨_, _, rfl, rfl, wq_42 E⟩
      | 43, _ => exact ⟨_, _, rfl, rfl, wq_43 E⟩
      | 44, _ => exact ⟨_, _, rfl, rfl, wq_44 E⟩
      | 45, _ => exact ⟨_, _, rfl, rfl, wq_45 E⟩
      | 46, _ => exact ⟨_, _, rfl, rfl, wq_46 E⟩
      | 47, _ => exact ⟨_, _, rfl, rfl, wq_47 E⟩
      | 48, _ => exact ⟨_, _, rfl, rfl, wq_48 E⟩
      | 49, _ => exact ⟨_, _, rfl, rfl, wq_49 E⟩
      | 50, _ => exact ⟨_, _, rfl, rfl, wq_50 E⟩
      | 51, _ => exact ⟨_, _, rfl, rfl, wq_51 E⟩
      | 52, _ => exact ⟨_, _, rfl, rfl, wq_52 E⟩
      | 53, _ => exact ⟨_, _, rfl, rfl, wq_53 E⟩
      | 54, _ => exact ⟨_, _, rfl, rfl, wq_54 E⟩
      | 55, _ => exact ⟨_, _, rfl, rfl, wq_55 E⟩
      | 56, _ => exact ⟨_, _, rfl, rfl, wq_56 E⟩
      | 57, _ => exact ⟨_, _, rfl, rfl, wq_57 E⟩
      | 58, _ => exact ⟨_, _, rfl, rfl, wq_58 E⟩
      | 59, _ => exact ⟨_, _, rfl, rfl, wq_59 E⟩
      | 60, _ => exact ⟨_, _, rfl, rfl, wq_60 E⟩
      | 61, _ => exact ⟨_, _, rfl, rfl, wq_61 E⟩
      | 62, _ => exact ⟨_, _, rfl, rfl, wq_62 E⟩
      | 63, _ => exact ⟨_, _, rfl, rfl, wq_63 E⟩
      | 64, _ => exact ⟨_, _, rfl, rfl, wq_64 E⟩
      | 65, _ => exact ⟨_, _, rfl, rfl, wq_65 E⟩
      | 66, _ => exact ⟨_, _, rfl, rfl, wq_66 E⟩
      | 67, _ => exact ⟨_, _, rfl, rfl, wq_67 E⟩
      | 68, _ => exact ⟨_, _, rfl, rfl, wq_68 E⟩
      | 69, _ => exact ⟨_, _, rfl, rfl, wq_69 E⟩
      | 70, _ => exact ⟨_, _, rfl, rfl, wq_70 E⟩
      | 71, _ => exact ⟨_, _, rfl, rfl, wq_71 E⟩
      | 72, _ => exact ⟨_, _, rfl, rfl, wq_72 E⟩
      | 73, _ => exact ⟨_, _, rfl, rfl, wq_73 E⟩
      | 74, _ => exact ⟨_, _, rfl, rfl, wq_74 E⟩
      | 75, _ => exact ⟨_, _, rfl, rfl, wq_75 E⟩
      | 76, _ => exact ⟨_, _, rfl, rfl, wq_76 E⟩
      | 77, _ => exact ⟨_, _, rfl, rfl, wq_77 E⟩
      | 78, _ => exact ⟨_, _, rfl, rfl, wq_78 E⟩
      | 79, _ => exact ⟨_, _, rfl, rfl, wq_79 E⟩
      | 80, _ => exact ⟨_, _, rfl, rfl, wq_80 E⟩
      | 81, _ => exact ⟨_, _, rfl, rfl, wq_81 E⟩
      | 82, _ => exact ⟨_, _, rfl, rfl, wq_82 E⟩
      | 83, _ => exact ⟨_, _, rfl, rfl, wq_83 E⟩
      | 84, _ => exact ⟨_, _, rfl, rfl, wq_84 E⟩
      | 85, _ => exact ⟨_, _, rfl, rfl, wq_85 E⟩
      | 86, _ => exact ⟨_, _, rfl, rfl, wq_86 E⟩
      | 87, _ => exact ⟨_, _, rfl, rfl, wq_87 E⟩
      | 88, _ => exact ⟨_, _, rfl, rfl, wq_88 E⟩
      | 89, _ => exact ⟨_, _, rfl, rfl, wq_89 E⟩
      | 90, _ => exact ⟨_, _, rfl, rfl, wq_90 E⟩
      | 91, _ => exact ⟨_, _, rfl, rfl, wq_91 E⟩
      | 92, _ => exact ⟨_, _, rfl, rfl, wq_92 E⟩
      | 93, _ => exact ⟨_, _, rfl, rfl, wq_93 E⟩
      | 94, _ => exact ⟨_, _, rfl, rfl, wq_94 E⟩
      | 95, _ => exact ⟨_, _, rfl, rfl, wq_95 E⟩
      | 96, _ => exact ⟨_, _, rfl, rfl, wq_96 E⟩
      | 97, _ => exact ⟨_, _, rfl, rfl, wq_97 E⟩
      | 98, _ => exact ⟨_, _, rfl, rfl, wq_98 E⟩
      | 99, _ => exact ⟨_, _, rfl, rfl, wq_99 E⟩
      | 100, _ => exact ⟨_, _, rfl, rfl, wq_100 E⟩
      | 101, _ => exact ⟨_, _, rfl, rfl, wq_101 E⟩
      | 102, _ => exact ⟨_, _, rfl, rfl, wq_102 E⟩
      | 103, _ => exact ⟨_, _, rfl, rfl, wq_103 E⟩
      | 104, _ => exact ⟨_, _, rfl, rfl, wq_104 E⟩
      | 105, _ => exact ⟨_, _, rfl, rfl, wq_105 E⟩
      | 106, _ => exact ⟨_, _, rfl, rfl, wq_106 E⟩
      | 107, _ => exact ⟨_, _, rfl, rfl, wq_107 E⟩
      | 108, _ => exact ⟨_, _, rfl, rfl, wq_108 E⟩
      | 109, _ => exact ⟨_, _, rfl, rfl, wq_109 E⟩
      | 110, _ => exact ⟨_, _, rfl, rfl, wq_110 E⟩
      | 111, _ => exact ⟨_, _, rfl, rfl, wq_111 E⟩
      | 112, _ => exact ⟨_, _, rfl, rfl, wq_112 E⟩
      | 113, _ => exact ⟨_, _, rfl, rfl, wq_113 E⟩
      | 114, _ => exact ⟨_, _, rfl, rfl, wq_114 E⟩
      | 115, _ => exact ⟨_, _, rfl, rfl, wq_115 E⟩
      | 116, _ => exact ⟨_, _, rfl, rfl, wq_116 E⟩
      | 117, _ => exact ⟨_, _, rfl, rfl, wq_117 E⟩
      | 118, _ => exact ⟨_, _, rfl, rfl, wq_118 E⟩
      | 119, _ => exact ⟨_, _, rfl, rfl, wq_119 E⟩
      | 120, _ => exact ⟨_, _, rfl, rfl, wq_120 E⟩
      | 121, _ => exact ⟨_, _, rfl, rfl, wq_121 E⟩
      | 122, _ => exact ⟨_, _, rfl, rfl, wq_122 E⟩
      | 123, _ => exact ⟨_, _, rfl, rfl, wq_123 E⟩
      | 124, _ => exact ⟨_, _, rfl, rfl, wq_124 E⟩
      | 125, _ => exact ⟨_, _, rfl, rfl, wq_125 E⟩
      | 126, _ => exact ⟨_, _, rfl, rfl, wq_126 E⟩
      | 127, _ => exact ⟨_, _, rfl, rfl, wq_127 E⟩
      | 128, _ => exact ⟨_, _, rfl, rfl, wq_128 E⟩
      | 129, _ => exact ⟨_, _, rfl, rfl, wq_129 E⟩
      | 130, _ => exact ⟨_, _, rfl, rfl, wq_130 E⟩
      | 131, _ => exact ⟨_, _, rfl, rfl, wq_131 E⟩
      | 132, _ => exact ⟨_, _, rfl, rfl, wq_132 E⟩
      | 133, _ => exact ⟨_, _, rfl, rfl, wq_133 E⟩
      | 134, _ => exact ⟨_, _, rfl, rfl, wq_134 E⟩
      | 135, _ => exact ⟨_, _, rfl, rfl, wq_135 E⟩
      | 136, _ => exact ⟨_, _, rfl, rfl, wq_136 E⟩
      | 137, _ => exact ⟨_, _, rfl, rfl, wq_137 E⟩
      | 138, _ => exact ⟨_, _, rfl, rfl, wq_138 E⟩
      | 139, _ => exact ⟨_, _, rfl, rfl, wq_139 E⟩
      | k + 140, hk => omega
    obtain ⟨c, L, h1, h2, h3⟩ := key i hi
    rw [h1, h2, Option.map_some, Option.map_some, h3]
  · have l1 : nx_243.length = 140 := by decide +kernel
    have l2 : mm_lay.length = 140 := by decide +kernel
    have h1 : nx_243[i]? = none := List.getElem?_eq_none (by omega)
    have h2 : mm_lay[i]? = none := List.getElem?_eq_none (by omega)
    rw [h1, h2]
    rfl
abbrev Y_L : mm_Y := (yL_law, cL_law, 4, ret)
set_option maxHeartbeats 4000000 in
set_option maxRecDepth 4000 in
theorem wh_start {I : mm_M → Prop} (ok : ok_all I) (h0 : I wh_M0) {p : Program} {e : Env} {s : State} {m : MethodId} {below : List Frame} {meth : Method} {c : Code} (l : Launch) {b L : Nat} {xs : Nat → Int32} (hL : L ≤ 3072) (C0 : lw_At p s m meth c b L xs) : W p l e room_1 s m #[Value.ref b] below meth c s.heap [] 0 0 (lw_Z below #[Value.ref b] s) (entryFrame m ([Value.ref b] : List Value).toArray 4) := by
  obtain ⟨E, hE1, hT, hSs, hE2, hOk, hA⟩ := wh_setup l C0
  subst hE1
  subst hE2
  obtain ⟨hx, hb, hr, hml, hown, hts0, hX, hbl, hlocks, hgv⟩ := id C0
  have hts : ∀ w ∈ mm_tb, w.before #[Value.ref (E.2.2.1 152)] s = true := fun w h => hts0 w (List.mem_filter.mp h).1
  have hl := lv_entry ([.ref (E.2.2.1 152)]) (n := 4) (Nat.le_of_ble_eq_true rfl)
  rw [lg_entry_eq]
  have key : nn_W E s.heap.size Y_L room_1 0 0 0 [(0, .ref 152)] [] nx_0 0 0 (fun below args s _ _ => lw_Z below args s, fun p s2 m args meth c => s2.heap.size = s.heap.size ∧ ll_C E L xs p s2 m args meth c) := by
    refine nn_new (X2 := nx_1) dL_law_0 cf_11 nw_RL_7 nf_11 (fun _ => rfl) ⟨by decide, by decide⟩ (by decide +kernel) rfl ?_
    rw [show nx_0.length = 0 from rfl]
    refine nn_dup dL_law_3 rfl ?_
    refine nn_callI (as := []) (st := [.ref 0]) (nc_0_X11_init E _) dL_law_4 mz_X11_init lk_RL_9 im_X11_init ⟨rfl, rfl⟩ rfl ⟨by decide, by decide⟩ (by decide) ⟨by decide, by decide⟩ ?_
    refine nn_astore_n [1, 0] (lv2 := [(0, .ref 152), (1, .ref 0)]) dL_law_7 (by decide) rfl ?_
    refine nn_new (X2 := nx_153) dL_law_8 cf_12 nw_RL_10 nf_12 (fun _ => rfl) ⟨by decide, by decide⟩ (by decide +kernel) rfl ?_
    rw [show nx_152.length = 97 from rfl]
    refine nn_dup dL_law_11 rfl ?_
    refine nn_callI (as := []) (st := [.ref 97]) (nc_15_X12_init E _) dL_law_12 mz_X12_init lk_RL_12 im_X12_init ⟨rfl, rfl⟩ rfl ⟨by decide, by decide⟩ (by decide) ⟨by decide, by decide⟩ ?_
    refine nn_astore_n [1, 2, 0] (lv2 := [(0, .ref 152), (1, .ref 0), (2, .ref 97)]) dL_law_15 (by decide) rfl ?_
    refine nn_iconst (v := 0) dL_law_16 rfl ?_
    refine nn_istore_n [1, 2, 3, 0] (lv2 := [(0, .ref 152), (1, .ref 0), (2, .ref 97), (3, .int 0)]) dL_law_17 (by decide) rfl ?_
    intro p ee s2 m args below meth c H locs ls C hP hz hS hl
    obtain ⟨hz2, CL⟩ := C.2.2.2.2.2.2.2.2.2.2
    rw [wh_ws] at hP
    have hb2 : ∀ q ∈ locs, s2.heap.size ≤ q.base := fun q hq => by
      have h1 : s.heap.size ≤ q.base := hS.2.2 q hq
      omega
    refine va_forget hb2 ?_
    exact ll_loop ok hL (L + 1) 0 wh_M0 (by omega) (by omega) h0 p ee s2 m args below meth c H [] ls CL hP ⟨hS.1, fun q h1 h2 => hS.2.1 q h1 (fun h3 => by have h3 : s.heap.size ≤ q := h3; omega), fun _ h => by cases h⟩ hl
  exact key p e s m _ below meth c s.heap [] _ ⟨hx, hb, hr, hml, hown, hts, hlocks, hT, fun h => absurd h (by decide), Nat.le_refl _, rfl, hx, hb, hr, hml, hown, hts, hlocks, ⟨hT.1, hT.2.1, hOk⟩, hSs, ⟨hX, hbl⟩, rfl, hA⟩ (fun k q h => by simp [nn_ws, nx_0] at h) (by simp [nx_0]) va_S.rf hl
