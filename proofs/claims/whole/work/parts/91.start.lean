theorem us1 : Cond.instantiable RX0 3 ∈ wU := wU_t1 (List.mem_of_getElem? (i := 145) rfl) rfl
theorem us2 : Cond.instantiable RX1 8 ∈ wU := wU_t1 (List.mem_of_getElem? (i := 111) rfl) rfl
theorem us3 : Cond.instantiable RX2 9 ∈ wU := wU_t1 (List.mem_of_getElem? (i := 74) rfl) rfl
theorem us4 : Cond.instantiable RX3 6 ∈ wU := wU_t1 (List.mem_of_getElem? (i := 44) rfl) rfl
theorem us5 : Cond.instantiable RX4 5 ∈ wU := wU_t1 (List.mem_of_getElem? (i := 20) rfl) rfl
theorem us6 : Cond.instantiable RX5 9 ∈ wU := wU_t1 (List.mem_of_getElem? (i := 12) rfl) rfl
theorem us7 : Cond.instantiable RX6 29 ∈ wU := wU_t3 (List.mem_of_getElem? (i := 145) rfl) rfl
theorem us8 : Cond.arrayClass .int ∈ wU := wU_t1 (List.mem_of_getElem? (i := 42) rfl) rfl
theorem us9 : Cond.arrayClass .boolean ∈ wU := wU_t3 (List.mem_of_getElem? (i := 238) rfl) rfl
theorem ls1 {w : Cond} (h : w ∈ tables_1_1) : w ∈ lw_tbl := List.mem_append_right _ (List.mem_append_left _ h)
theorem ls2 {w : Cond} (h : w ∈ tables_1_2) : w ∈ lw_tbl := List.mem_append_right _ (List.mem_append_right _ (List.mem_append_left _ h))
theorem ls3 {w : Cond} (h : w ∈ tables_1_3) : w ∈ lw_tbl := List.mem_append_right _ (List.mem_append_right _ (List.mem_append_right _ (List.mem_append_left _ h)))
theorem ls4 {w : Cond} (h : w ∈ tables_1_4) : w ∈ lw_tbl := List.mem_append_right _ (List.mem_append_right _ (List.mem_append_right _ (List.mem_append_right _ h)))
theorem nwF_in : ∀ w ∈ nwF, w ∈ lw_tbl := List.forall_mem_cons.mpr ⟨ls1 (List.mem_of_getElem? (i := 26) rfl), List.forall_mem_cons.mpr ⟨ls1 (List.mem_of_getElem? (i := 50) rfl), List.forall_mem_cons.mpr ⟨ls1 (List.mem_of_getElem? (i := 51) rfl), List.forall_mem_cons.mpr ⟨ls1 (List.mem_of_getElem? (i := 53) rfl), List.forall_mem_cons.mpr ⟨ls1 (List.mem_of_getElem? (i := 54) rfl), List.forall_mem_cons.mpr ⟨ls1 (List.mem_of_getElem? (i := 56) rfl), List.forall_mem_cons.mpr ⟨ls1 (List.mem_of_getElem? (i := 80) rfl), List.forall_mem_cons.mpr ⟨ls1 (List.mem_of_getElem? (i := 81) rfl), List.forall_mem_cons.mpr ⟨ls1 (List.mem_of_getElem? (i := 83) rfl), List.forall_mem_cons.mpr ⟨ls1 (List.mem_of_getElem? (i := 117) rfl), List.forall_mem_cons.mpr ⟨ls1 (List.mem_of_getElem? (i := 118) rfl), List.forall_mem_cons.mpr ⟨ls1 (List.mem_of_getElem? (i := 120) rfl), fun _ h => absurd h List.not_mem_nil⟩⟩⟩⟩⟩⟩⟩⟩⟩⟩⟩⟩
theorem nwF_on : ∀ w ∈ nwF, w.onTables = true := List.all_eq_true.mp (by decide +kernel)
theorem nwM_in : ∀ w ∈ nwM, w ∈ lw_tbl := List.forall_mem_cons.mpr ⟨ls1 (List.mem_of_getElem? (i := 21) rfl), List.forall_mem_cons.mpr ⟨ls1 (List.mem_of_getElem? (i := 45) rfl), List.forall_mem_cons.mpr ⟨ls1 (List.mem_of_getElem? (i := 75) rfl), List.forall_mem_cons.mpr ⟨ls1 (List.mem_of_getElem? (i := 112) rfl), List.forall_mem_cons.mpr ⟨ls1 (List.mem_of_getElem? (i := 146) rfl), List.forall_mem_cons.mpr ⟨ls1 (List.mem_of_getElem? (i := 163) rfl), List.forall_mem_cons.mpr ⟨ls1 (List.mem_of_getElem? (i := 167) rfl), List.forall_mem_cons.mpr ⟨ls1 (List.mem_of_getElem? (i := 177) rfl), List.forall_mem_cons.mpr ⟨ls1 (List.mem_of_getElem? (i := 186) rfl), List.forall_mem_cons.mpr ⟨ls1 (List.mem_of_getElem? (i := 194) rfl), List.forall_mem_cons.mpr ⟨ls1 (List.mem_of_getElem? (i := 206) rfl), List.forall_mem_cons.mpr ⟨ls1 (List.mem_of_getElem? (i := 209) rfl), List.forall_mem_cons.mpr ⟨ls1 (List.mem_of_getElem? (i := 218) rfl), List.forall_mem_cons.mpr ⟨ls1 (List.mem_of_getElem? (i := 222) rfl), List.forall_mem_cons.mpr ⟨ls1 (List.mem_of_getElem? (i := 223) rfl), List.forall_mem_cons.mpr ⟨ls1 (List.mem_of_getElem? (i := 227) rfl), List.forall_mem_cons.mpr ⟨ls1 (List.mem_of_getElem? (i := 231) rfl), List.forall_mem_cons.mpr ⟨ls1 (List.mem_of_getElem? (i := 235) rfl), List.forall_mem_cons.mpr ⟨ls1 (List.mem_of_getElem? (i := 239) rfl), List.forall_mem_cons.mpr ⟨ls2 (List.mem_of_getElem? (i := 4) rfl), List.forall_mem_cons.mpr ⟨ls2 (List.mem_of_getElem? (i := 8) rfl), List.forall_mem_cons.mpr ⟨ls2 (List.mem_of_getElem? (i := 15) rfl), List.forall_mem_cons.mpr ⟨ls2 (List.mem_of_getElem? (i := 23) rfl), List.forall_mem_cons.mpr ⟨ls2 (List.mem_of_getElem? (i := 31) rfl), List.forall_mem_cons.mpr ⟨ls2 (List.mem_of_getElem? (i := 68) rfl), List.forall_mem_cons.mpr ⟨ls2 (List.mem_of_getElem? (i := 72) rfl), List.forall_mem_cons.mpr ⟨ls2 (List.mem_of_getElem? (i := 84) rfl), List.forall_mem_cons.mpr ⟨ls2 (List.mem_of_getElem? (i := 95) rfl), List.forall_mem_cons.mpr ⟨ls2 (List.mem_of_getElem? (i := 96) rfl), List.forall_mem_cons.mpr ⟨ls2 (List.mem_of_getElem? (i := 104) rfl), List.forall_mem_cons.mpr ⟨ls2 (List.mem_of_getElem? (i := 108) rfl), List.forall_mem_cons.mpr ⟨ls2 (List.mem_of_getElem? (i := 112) rfl), List.forall_mem_cons.mpr ⟨ls2 (List.mem_of_getElem? (i := 113) rfl), List.forall_mem_cons.mpr ⟨ls2 (List.mem_of_getElem? (i := 114) rfl), List.forall_mem_cons.mpr ⟨ls2 (List.mem_of_getElem? (i := 118) rfl), List.forall_mem_cons.mpr ⟨ls2 (List.mem_of_getElem? (i := 123) rfl), List.forall_mem_cons.mpr ⟨ls2 (List.mem_of_getElem? (i := 135) rfl), List.forall_mem_cons.mpr ⟨ls2 (List.mem_of_getElem? (i := 146) rfl), List.forall_mem_cons.mpr ⟨ls2 (List.mem_of_getElem? (i := 147) rfl), List.forall_mem_cons.mpr ⟨ls2 (List.mem_of_getElem? (i := 152) rfl), List.forall_mem_cons.mpr ⟨ls2 (List.mem_of_getElem? (i := 157) rfl), List.forall_mem_cons.mpr ⟨ls2 (List.mem_of_getElem? (i := 162) rfl), List.forall_mem_cons.mpr ⟨ls2 (List.mem_of_getElem? (i := 171) rfl), List.forall_mem_cons.mpr ⟨ls2 (List.mem_of_getElem? (i := 179) rfl), List.forall_mem_cons.mpr ⟨ls2 (List.mem_of_getElem? (i := 183) rfl), List.forall_mem_cons.mpr ⟨ls2 (List.mem_of_getElem? (i := 184) rfl), List.forall_mem_cons.mpr ⟨ls2 (List.mem_of_getElem? (i := 188) rfl), List.forall_mem_cons.mpr ⟨ls2 (List.mem_of_getElem? (i := 193) rfl), List.forall_mem_cons.mpr ⟨ls2 (List.mem_of_getElem? (i := 197) rfl), List.forall_mem_cons.mpr ⟨ls2 (List.mem_of_getElem? (i := 221) rfl), List.forall_mem_cons.mpr ⟨ls2 (List.mem_of_getElem? (i := 233) rfl), List.forall_mem_cons.mpr ⟨ls3 (List.mem_of_getElem? (i := 2) rfl), List.forall_mem_cons.mpr ⟨ls3 (List.mem_of_getElem? (i := 11) rfl), List.forall_mem_cons.mpr ⟨ls3 (List.mem_of_getElem? (i := 12) rfl), List.forall_mem_cons.mpr ⟨ls3 (List.mem_of_getElem? (i := 13) rfl), List.forall_mem_cons.mpr ⟨ls3 (List.mem_of_getElem? (i := 18) rfl), List.forall_mem_cons.mpr ⟨ls3 (List.mem_of_getElem? (i := 26) rfl), List.forall_mem_cons.mpr ⟨ls3 (List.mem_of_getElem? (i := 39) rfl), List.forall_mem_cons.mpr ⟨ls3 (List.mem_of_getElem? (i := 47) rfl), List.forall_mem_cons.mpr ⟨ls3 (List.mem_of_getElem? (i := 58) rfl), List.forall_mem_cons.mpr ⟨ls3 (List.mem_of_getElem? (i := 59) rfl), List.forall_mem_cons.mpr ⟨ls3 (List.mem_of_getElem? (i := 61) rfl), List.forall_mem_cons.mpr ⟨ls3 (List.mem_of_getElem? (i := 62) rfl), List.forall_mem_cons.mpr ⟨ls3 (List.mem_of_getElem? (i := 69) rfl), List.forall_mem_cons.mpr ⟨ls3 (List.mem_of_getElem? (i := 70) rfl), List.forall_mem_cons.mpr ⟨ls3 (List.mem_of_getElem? (i := 99) rfl), List.forall_mem_cons.mpr ⟨ls3 (List.mem_of_getElem? (i := 111) rfl), List.forall_mem_cons.mpr ⟨ls3 (List.mem_of_getElem? (i := 119) rfl), fun _ h => absurd h List.not_mem_nil⟩⟩⟩⟩⟩⟩⟩⟩⟩⟩⟩⟩⟩⟩⟩⟩⟩⟩⟩⟩⟩⟩⟩⟩⟩⟩⟩⟩⟩⟩⟩⟩⟩⟩⟩⟩⟩⟩⟩⟩⟩⟩⟩⟩⟩⟩⟩⟩⟩⟩⟩⟩⟩⟩⟩⟩⟩⟩⟩⟩⟩⟩⟩⟩⟩⟩⟩⟩
theorem nwM_on : ∀ w ∈ nwM, w.onTables = true := List.all_eq_true.mp (by decide +kernel)
theorem st_arr {s : State} {A : Array Value} {ty : FieldType} (hty : ty = .int ∨ ty = .boolean) (h : (Cond.arrayClass ty).before A s = true) : ∃ cA : ClassId, ArrOfT s cA ty ∧ va_RA s cA ty := by
  obtain ⟨cA, kA, comp, h1, h2, h3⟩ := Cond.arrayClass_spec h
  exact ⟨cA, fun n z => ⟨(fun k h => by cases h), kA, h2, comp, h3⟩, by rcases hty with rfl | rfl <;> exact h1⟩
theorem st_obj {s : State} {C : String} (h : va_AO C s) : ∃ cA : ClassId, ArrOfT s cA (.object C) ∧ va_RA s cA (.object C) := by
  obtain ⟨comp, c, k, h1, h2, h3, h4, h5⟩ := Cond.arrayOver_spec h
  exact ⟨c, fun n z => ⟨(fun k h => by cases h), k, h3, comp, h4⟩, k, comp, h3, h4, h1, h5⟩
theorem st_aoa {s : State} (h : zwA s) : ∃ cA : ClassId, ArrOfT s cA (.array .int) ∧ va_RA s cA (.array .int) := by
  obtain ⟨comp, c, k, h1, h2, h3, h4, h5⟩ := zwA.spec h
  exact ⟨c, fun n z => ⟨(fun k h => by cases h), k, h3, comp, h4⟩, h5⟩
set_option maxHeartbeats 4000000 in
set_option maxRecDepth 100000 in
theorem KK_start {s : State} {A : Array Value} (hts : ∀ w ∈ lw_tbl, w.before A s = true) : ∃ (G : va_G) (cI cZ cP cJ : ClassId), KK G [(cI, .int), (cZ, .boolean), (cP, .object RX3), (cJ, .array .int)] s := by
  have hu : ∀ w ∈ wU, w.before A s = true := fun w h => hts w (wU_tbl w h)
  obtain ⟨c0, i0, k0⟩ := u_known (C := RX0) (T := TX0) (N := 3) (n := 3) hu inU0 (hu _ us1)
  obtain ⟨c1, i1, k1⟩ := u_known (C := RX1) (T := TX1) (N := 8) (n := 8) hu inU1 (hu _ us2)
  obtain ⟨c2, i2, k2⟩ := u_known (C := RX2) (T := TX2) (N := 9) (n := 9) hu inU2 (hu _ us3)
  obtain ⟨c3, i3, k3⟩ := u_known (C := RX3) (T := TX3) (N := 6) (n := 6) hu inU3 (hu _ us4)
  obtain ⟨c4, i4, k4⟩ := u_known (C := RX4) (T := TX4) (N := 5) (n := 5) hu inU4 (hu _ us5)
  obtain ⟨c5, i5, k5⟩ := u_known (C := RX5) (T := TX5) (N := 9) (n := 9) hu inU5 (hu _ us6)
  obtain ⟨c6, i6, k6⟩ := u_known (C := RX6) (T := TX6) (N := 29) (n := 29) hu inU6 (hu _ us7)
  obtain ⟨cI, a1, a2⟩ := st_arr (Or.inl rfl) (hu _ us8)
  obtain ⟨cZ, b1, b2⟩ := st_arr (Or.inr rfl) (hu _ us9)
  have hO : va_AO RX3 s := va_AO.of (hts _ (ls1 (List.mem_of_getElem? (i := 162) rfl)))
  have hA : zwA s := hts (Cond.arrayOver (.array .int)) (ls1 (List.mem_of_getElem? (i := 151) rfl))
  obtain ⟨cP, d1, d2⟩ := st_obj hO
  obtain ⟨cJ, e1, e2⟩ := st_aoa hA
  refine ⟨(fun k => if k = 0 then c0 else if k = 1 then c1 else if k = 2 then c2 else if k = 3 then c3 else if k = 4 then c4 else if k = 5 then c5 else c6, fun k => if k = 0 then i0 else if k = 1 then i1 else if k = 2 then i2 else if k = 3 then i3 else if k = 4 then i4 else if k = 5 then i5 else i6), cI, cZ, cP, cJ, ⟨fun k q hq => ?_, fun k q hq => ?_⟩, fun w hw => va_Nw.of (nwF_on w hw) (hts w (nwF_in w hw)), fun w hw => va_Nw.of (nwM_on w hw) (hts w (nwM_in w hw)), hA, hO⟩
  · match k, hq with
    | 0, hq => cases hq; exact k0
    | 1, hq => cases hq; exact k1
    | 2, hq => cases hq; exact k2
    | 3, hq => cases hq; exact k3
    | 4, hq => cases hq; exact k4
    | 5, hq => cases hq; exact k5
    | 6, hq => cases hq; exact k6
    | k + 7, hq => simp [vwCl] at hq
  · match k, hq with
    | 0, hq => cases hq; exact ⟨a1, a2⟩
    | 1, hq => cases hq; exact ⟨b1, b2⟩
    | 2, hq => cases hq; exact ⟨d1, d2⟩
    | 3, hq => cases hq; exact ⟨e1, e2⟩
    | k + 4, hq => simp at hq
