/-! the beginning, and all calls -/
def z_S : ss_S := (fun k => if k = 3 then 9999 else if k = 6 then 1 else 0, fun a _ => if a = 5 then 999 else 0)
theorem z_up : ∀ j, j < 4 → wh_M0.2.1 26 j = 999 ∧ wh_M0.2.1 104 j = 999 := by decide
theorem z_row {o j : Nat} (h1 : o ≠ 26) (h2 : o ≠ 104) : wh_M0.2.1 o j = 0 := by
  show (if o = 26 then _ else if o = 104 then _ else fun _ => 0 : Nat → Int32) j = 0
  rw [if_neg h1, if_neg h2]
theorem z_ok : ss_Ok z_S := by
  refine ⟨by decide, fun a ha j hj => ?_⟩
  show ss_lo a ≤ (if a = 5 then (999 : Int32) else 0).toInt ∧ (if a = 5 then (999 : Int32) else 0).toInt ≤ ss_hi a
  have : ∀ a, a < 14 → ss_lo a ≤ (if a = 5 then (999 : Int32) else 0).toInt ∧ (if a = 5 then (999 : Int32) else 0).toInt ≤ ss_hi a := by decide
  exact this a ha
theorem z_RH : ss_RH z_S wh_M0 := by
  refine ⟨by decide, fun a ha j hj => ?_⟩
  by_cases h5 : a = 5
  · subst h5
    exact (z_up j hj).1
  · show wh_M0.2.1 (ss_ha a j).1 (ss_ha a j).2 = if a = 5 then 999 else 0
    rw [if_neg h5]
    refine z_row (fun z => ?_) (fun z => ?_)
    · unfold ss_ha at z
      by_cases h1 : a = 1
      · rw [if_pos h1] at z
        have hj : j < 864 := by rw [h1] at hj; exact hj
        have z : 6 + j / 72 = 26 := z
        omega
      · rw [if_neg h1] at z
        exact h5 (ss_ao_inj a ha h1 5 (by decide) (by decide) z)
    · have := ss_ha_38 ha hj
      omega
theorem z_RR : ss_RR z_S wh_M0 := by
  refine ⟨by decide, fun a ha j hj => ?_⟩
  by_cases h5 : a = 5
  · subst h5
    exact (z_up j hj).2
  · show wh_M0.2.1 (ss_ra a) j = ss_rv a (if a = 5 then 999 else 0)
    have h104 : ss_ra a ≠ 104 := fun z => h5 (ss_ra_inj a ha 5 (by decide) z)
    have h26 : ss_ra a ≠ 26 := fun z => by have := ss_ra_ge a ha; omega
    rw [if_neg h5, z_row h26 h104]
    unfold ss_rv
    split <;> rfl
theorem z_I : ss_I lwQ wh_M0 := ⟨z_S, z_ok, z_RH, z_RR, 0, 0, fun _ => (0, 0), fun _ => (0, 0, 0, 0), rfl, by decide, by decide, fun i hi => by omega, fun i hi => by omega⟩
theorem z_all : ok_all (ss_I lwQ) := ⟨p_feed, p_day, p_dayIs, p_room, p_plant, p_pipes, p_cellar, p_stay, p_leave, p_shift, p_law, p_wants, p_gets, p_served, p_can, p_best, p_smallest, p_costs, p_rooms, p_shifting, p_larger, p_fair, p_drought, p_meter, p_seed, p_draw, p_keep, p_undo, p_check, p_count⟩
theorem whole_start {p : Program} {e : Env} {s : State} {m : MethodId} {below : List Frame} {meth : Method} {c : Code} (l : Launch) {b L : Nat} {xs : Nat → Int32} (hL : L ≤ 3072) (C0 : lw_At p s m meth c b L xs) : W p l e room_1 s m #[Value.ref b] below meth c s.heap [] 0 0 (lw_Z below #[Value.ref b] s) (entryFrame m ([Value.ref b] : List Value).toArray 4) := wh_start z_all z_I l hL C0
