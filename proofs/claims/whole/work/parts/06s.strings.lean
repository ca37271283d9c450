/-! String.indexOf on the six constants -/
theorem mm_ldcT {α : Type} {em : α → Option Value} {E : mm_E} {Y : mm_Y} {d pc : Nat} {lv : List (Nat × Value)} {st : List Value} {M : mm_M} {e : Option (α × mm_M)} {idx j t : Nat} {tx : String} (hd : decode Y.2.1 pc = .ok (.ldc idx, 2)) (hc : (Y.1.cls, idx, tx, j) ∈ mm_str) (ht : mm_lay.length + j = t) (k : mm_G em E Y d (pc + 2) lv (.ref t :: st) M e) : mm_G em E Y d pc lv st M e := mm_ldcS hd hc (by rw [ht]; exact k)
theorem ss_0 : (RX1, 78, "rwl", 0) ∈ mm_str := List.mem_of_getElem? (i := 0) rfl
theorem sl_140 : mm_lay.length ≤ 140 ∧ 140 < mm_lay.length + 6 := by decide +kernel
theorem ss_1 : (RX4, 49, "pm", 1) ∈ mm_str := List.mem_of_getElem? (i := 1) rfl
theorem sl_141 : mm_lay.length ≤ 141 ∧ 141 < mm_lay.length + 6 := by decide +kernel
theorem ss_2 : (RX4, 109, "srfdctkng", 2) ∈ mm_str := List.mem_of_getElem? (i := 2) rfl
theorem sl_142 : mm_lay.length ≤ 142 ∧ 142 < mm_lay.length + 6 := by decide +kernel
theorem ss_3 : (RX4, 107, "*/%", 3) ∈ mm_str := List.mem_of_getElem? (i := 3) rfl
theorem sl_143 : mm_lay.length ≤ 143 ∧ 143 < mm_lay.length + 6 := by decide +kernel
theorem ss_4 : (RX4, 102, "+-", 4) ∈ mm_str := List.mem_of_getElem? (i := 4) rfl
theorem sl_144 : mm_lay.length ≤ 144 ∧ 144 < mm_lay.length + 6 := by decide +kernel
theorem ss_5 : (RX4, 97, "<>=", 5) ∈ mm_str := List.mem_of_getElem? (i := 5) rfl
theorem sl_145 : mm_lay.length ≤ 145 ∧ 145 < mm_lay.length + 6 := by decide +kernel
