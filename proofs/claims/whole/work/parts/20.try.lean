abbrev rmJ7_fill_53178 : Room := ({ frames := 0, cells := 0, slots := 0, locals := 0 } : Room)
set_option maxHeartbeats 4000000 in
set_option maxRecDepth 100000 in
theorem cJ7_fill_53178 {l : Launch} {G : va_G} {cI cZ cP cJ : ClassId} (a_h : Nat) (a_n : Nat) (a_f : Nat → Int32) (p2 : Int32) {Q : (Nat → Int32) → Prop} (h : wJ7_fill_53178 a_n a_f p2 Q) (sz : Nat) : Met l yJ7_fill_53178 wsJ7_fill_53178 rmJ7_fill_53178 (va_Pc [.ref a_h, .int p2] (pB G [(cI, .int), (cZ, .boolean), (cP, .object RX3), (cJ, .array .int)] [(a_h, .inl (cI, a_n, .inl a_f))] sz)) (va_Qv (fun (u : (Nat → Int32)) => Q u) (fun (u : (Nat → Int32)) t => va_P G vwCl [(a_h, .inl (cI, a_n, .inl u))] t.heap ∧ va_D (va_A [(a_h, .inl (cI, a_n, .inl a_f))] sz) [(a_h, .inl (cI, a_n, .inl u))]) (va_A [(a_h, .inl (cI, a_n, .inl a_f))] sz)) 0 0 (va_A [(a_h, .inl (cI, a_n, .inl a_f))] sz) := by
  refine Met.ofW (cc := cJ7_fill_53178) (maxL := 4) (ret := none) (by decide) rfl ?_
  intro p e s m args below meth c s₁ B hml hv
  obtain ⟨hargs, hsz, hP, hK, hD0⟩ := hv
  have hx := B.exec
  have hb := B.bytes
  have hr := B.returns
  have hts := atoms_spec (ws := wsJ7_fill_53178) B.pre
  have hown : s.vm.findClass RJ7 = some m.cls := findClass_of_methodNamed B.named
  have hlocks := B.notSynchronized
  subst hsz
  have hD := hD0.self (sz := s.heap.size)
  generalize hAe : va_A [(a_h, .inl (cI, a_n, .inl a_f))] s.heap.size = A at hD ⊢
  have hA : ∀ q : Nat, s.heap.size ≤ q → A q := fun q h => by rw [← hAe]; exact Or.inr h
  have hS : va_S A s.heap s.heap [] := va_S.rf
  have hl := lv_entry ([.ref a_h, .int p2]) (n := 4) (Nat.le_of_ble_eq_true rfl)
  rw [show entryFrame m args 4 = entryFrame m ([.ref a_h, .int p2] : List Value).toArray 4 by rw [hargs], lg_entry_eq]
  generalize (lg_sl ([.ref a_h, .int p2]) ++ List.replicate (4 - (lg_sl ([.ref a_h, .int p2])).length) Slot.unset).toArray = ls at hl ⊢
  have hl : lv_has ls 4 [(0, .ref a_h), (1, .int p2)] := hl
  unfold wJ7_fill_53178 at h
  suffices hM : ∀ (H : Heap) (locs : List Loc), va_P G vwCl [(a_h, .inl (cI, a_n, .inl a_f))] H → va_S A s.heap H locs → W p l e (headSpec wsJ7_fill_53178 rmJ7_fill_53178).room s m args below meth c H locs 0 0 (MQ below (va_Qv (fun (u : (Nat → Int32)) => Q u) (fun (u : (Nat → Int32)) t => va_P G vwCl [(a_h, .inl (cI, a_n, .inl u))] t.heap ∧ va_D A [(a_h, .inl (cI, a_n, .inl u))]) A) args s 0 0 A) (F0 m 0 ls []) from hM _ _ hP hS
  clear hP hS
  intro H locs hP hS
  refine lv_iconst (v := (0 : Int32)) hx hb dJ7_fill_53178_0 (by decide) ?_
  refine lv_istore_n (lv' := [(2, .int (0 : Int32)), (0, .ref a_h), (1, .int p2)]) hx hb dJ7_fill_53178_1 rfl hl (by decide) rfl (fun ls hl => ?_)
  refine lv_aload_n hx hb dJ7_fill_53178_2 rfl (lv_at hl 1 rfl) ?_
  refine va_alen (v := (nI a_n)) hx hb hK.1 hP 0 0 rfl rfl rfl dJ7_fill_53178_3 ?_
  refine lv_istore_n (lv' := [(3, .int (nI a_n)), (2, .int (0 : Int32)), (0, .ref a_h), (1, .int p2)]) hx hb dJ7_fill_53178_4 rfl hl (by decide) rfl (fun ls hl => ?_)
  have X1 : ∀ (a_f__20 : Nat → Int32) (H : Heap) (locs : List Loc) (ls : Array Slot), wJ7_fill_53178_X20 Q a_f__20 → va_P G vwCl [(a_h, .inl (cI, a_n, .inl a_f__20))] H → va_D A [(a_h, .inl (cI, a_n, .inl a_f__20))] → va_S A s.heap H locs → lv_has ls 4 [] → W p l e (headSpec wsJ7_fill_53178 rmJ7_fill_53178).room s m args below meth c H locs 0 0 (MQ below (va_Qv (fun (u : (Nat → Int32)) => Q u) (fun (u : (Nat → Int32)) t => va_P G vwCl [(a_h, .inl (cI, a_n, .inl u))] t.heap ∧ va_D A [(a_h, .inl (cI, a_n, .inl u))]) A) args s 0 0 A) (F0 m 20 ls []) := by
    intro a_f__20 H locs ls h hP hD hS hl
    unfold wJ7_fill_53178_X20 at h
    exact W.vret hx hb hr (fun t ht hW => ⟨⟨a_f__20, rfl, h, ⟨by rw [ht]; exact hP, hD⟩⟩, hS.F ht⟩) hS.2.2 dJ7_fill_53178_20
  have R2 : ∀ (n : Nat) (x5_2 : Int32) (a_f__5 : Nat → Int32) (H : Heap) (locs : List Loc) (ls : Array Slot), lJ7_fill_53178_5 a_n p2 (wJ7_fill_53178_X20 Q) n x5_2 a_f__5 → va_P G vwCl [(a_h, .inl (cI, a_n, .inl a_f__5))] H → va_D A [(a_h, .inl (cI, a_n, .inl a_f__5))] → va_S A s.heap H locs → lv_has ls 4 [(0, .ref a_h), (1, .int p2), (2, .int x5_2), (3, .int (nI a_n))] → W p l e (headSpec wsJ7_fill_53178 rmJ7_fill_53178).room s m args below meth c H locs 0 0 (MQ below (va_Qv (fun (u : (Nat → Int32)) => Q u) (fun (u : (Nat → Int32)) t => va_P G vwCl [(a_h, .inl (cI, a_n, .inl u))] t.heap ∧ va_D A [(a_h, .inl (cI, a_n, .inl u))]) A) args s 0 0 A) (F0 m 5 ls []) := by
    intro n
    induction n with
    | zero => intro x5_2 a_f__5 H locs ls h; exact False.elim h
    | succ n ih =>
      intro x5_2 a_f__5 H locs ls h hP hD hS hl
      have h : bJ7_fill_53178_5 a_n p2 (wJ7_fill_53178_X20 Q) (fun x5_2 a_f__5 => lJ7_fill_53178_5 a_n p2 (wJ7_fill_53178_X20 Q) n x5_2 a_f__5) x5_2 a_f__5 := h
      unfold bJ7_fill_53178_5 at h
      refine lv_iload_n hx hb dJ7_fill_53178_5 rfl (lv_at hl 2 rfl) ?_
      refine lv_iload_n hx hb dJ7_fill_53178_6 rfl (lv_at hl 3 rfl) ?_
      refine lv_icmp_ge (tgt := 20) hx hb dJ7_fill_53178_7 (by decide) (fun q4 => ?_) (fun q4 => ?_)
      · have h := (if_pos q4).mp h
        exact X1 a_f__5 _ _ _ h hP hD hS (lv_sub hl [] rfl)
      · have h := (if_neg q4).mp h
        refine lv_aload_n hx hb dJ7_fill_53178_10 rfl (lv_at hl 0 rfl) ?_
        refine lv_iload_n hx hb dJ7_fill_53178_11 rfl (lv_at hl 2 rfl) ?_
        refine lv_iload_n hx hb dJ7_fill_53178_12 rfl (lv_at hl 1 rfl) ?_
        obtain ⟨i3, h⟩ := h
        refine va_iast hx hb hK.1 hP hD hS 0 0 rfl rfl i3 dJ7_fill_53178_13 (fun H locs hP hD hS => ?_)
        have hP : va_P G vwCl [(a_h, .inl (cI, a_n, .inl (upd a_f__5 x5_2.toNatClampNeg p2)))] H := hP
        have hD : va_D A [(a_h, .inl (cI, a_n, .inl (upd a_f__5 x5_2.toNatClampNeg p2)))] := hD
        refine lv_iinc (v := (x5_2 + (1 : Int32))) (lv' := [(2, .int (x5_2 + (1 : Int32))), (0, .ref a_h), (1, .int p2), (3, .int (nI a_n))]) hx hb dJ7_fill_53178_14 hl (k := 2) rfl rfl (by decide) rfl (fun ls hl => ?_)
        refine lv_goto (tgt := 5) hx hb dJ7_fill_53178_17 (by decide) ?_
        exact ih (x5_2 + (1 : Int32)) (upd a_f__5 x5_2.toNatClampNeg p2) _ _ _ h hP hD hS (lv_sub hl [1, 2, 0, 3] rfl)
  exact R2 FU (0 : Int32) a_f _ _ _ h hP hD hS (lv_sub hl [2, 3, 1, 0] rfl)
abbrev rmX5_isIn : Room := ({ frames := 0, cells := 0, slots := 0, locals := 0 } : Room)
set_option maxHeartbeats 4000000 in
set_option maxRecDepth 100000 in
theorem cX5_isIn {l : Launch} {G : va_G} {cI cZ cP cJ : ClassId} {ws : va_W} (k_a : Nat) (a_h : Nat) (a_n : Nat) (a_f : Nat → Int32) (e_a : ws[k_a]? = some (a_h, .inl (cI, a_n, .inl a_f))) (p2 : Int32) {Q : Int32 → Prop} (h : wX5_isIn a_n p2 Q) (sz : Nat) : Met l yX5_isIn wsX5_isIn rmX5_isIn (va_Pc [.ref a_h, .int p2] (pB G [(cI, .int), (cZ, .boolean), (cP, .object RX3), (cJ, .array .int)] ws sz)) (va_Qi (fun (r : Int32) (u : Unit) => Q r) (fun (_ : Unit) t => va_P G vwCl ws t.heap) (va_A ws sz)) 0 0 (va_A ws sz) := by
  refine Met.ofW (cc := cX5_isIn) (maxL := 2) (ret := (some .boolean)) (by decide) rfl ?_
  intro p e s m args below meth c s₁ B hml hv
  obtain ⟨hargs, hsz, hP, hK, hD0⟩ := hv
  have hx := B.exec
  have hb := B.bytes
  have hr := B.returns
  have hts := atoms_spec (ws := wsX5_isIn) B.pre
  have hown : s.vm.findClass RX5 = some m.cls := findClass_of_methodNamed B.named
  have hlocks := B.notSynchronized
  subst hsz
  have hD := hD0.self (sz := s.heap.size)
  generalize hAe : va_A ws s.heap.size = A at hD ⊢
  have hA : ∀ q : Nat, s.heap.size ≤ q → A q := fun q h => by rw [← hAe]; exact Or.inr h
  have hS : va_S A s.heap s.heap [] := va_S.rf
  have hl := lv_entry ([.ref a_h, .int p2]) (n := 2) (Nat.le_of_ble_eq_true rfl)
  rw [show entryFrame m args 2 = entryFrame m ([.ref a_h, .int p2] : List Value).toArray 2 by rw [hargs], lg_entry_eq]
  generalize (lg_sl ([.ref a_h, .int p2]) ++ List.replicate (2 - (lg_sl ([.ref a_h, .int p2])).length) Slot.unset).toArray = ls at hl ⊢
  have hl : lv_has ls 2 [(0, .ref a_h), (1, .int p2)] := hl
  unfold wX5_isIn at h
  suffices hM : ∀ (H : Heap) (locs : List Loc), va_P G vwCl ws H → va_S A s.heap H locs → W p l e (headSpec wsX5_isIn rmX5_isIn).room s m args below meth c H locs 0 0 (MQ below (va_Qi (fun (r : Int32) (u : Unit) => Q r) (fun (_ : Unit) t => va_P G vwCl ws t.heap) A) args s 0 0 A) (F0 m 0 ls []) from hM _ _ hP hS
  clear hP hS
  intro H locs hP hS
  refine lv_iload_n hx hb dX5_isIn_0 rfl (lv_at hl 1 rfl) ?_
  refine lv_if_lt (tgt := 14) hx hb dX5_isIn_1 (by decide) (fun q4 => ?_) (fun q4 => ?_)
  · have h := (if_pos q4).mp h
    refine lv_iconst (v := (0 : Int32)) hx hb dX5_isIn_14 (by decide) ?_
    exact W.zret (v := (0 : Int32)) (ty := .boolean) hx hb hr (nB isB_0) (fun t ht hW => ⟨⟨(0 : Int32), (), rfl, h, by rw [ht]; exact hP⟩, hS.F ht⟩) hS.2.2 dX5_isIn_15
  · have h := (if_neg q4).mp h
    refine lv_iload_n hx hb dX5_isIn_4 rfl (lv_at hl 1 rfl) ?_
    refine lv_aload_n hx hb dX5_isIn_5 rfl (lv_at hl 0 rfl) ?_
    refine va_alen (v := (nI a_n)) hx hb hK.1 hP k_a 0 e_a rfl rfl dX5_isIn_6 ?_
    have J2 : ∀ v1 : Int32, v1 = (if (nI a_n) ≤ p2 then (0 : Int32) else (1 : Int32)) → ∀ (ls : Array Slot), lv_has ls 2 [] → W p l e (headSpec wsX5_isIn rmX5_isIn).room s m args below meth c H locs 0 0 (MQ below (va_Qi (fun (r : Int32) (u : Unit) => Q r) (fun (_ : Unit) t => va_P G vwCl ws t.heap) A) args s 0 0 A) (F0 m 15 ls [.int v1]) := by
      intro v1 ev1; subst ev1
      intro ls hl
      exact W.zret (v := (if (nI a_n) ≤ p2 then (0 : Int32) else (1 : Int32))) (ty := .boolean) hx hb hr (nB (isB_if isB_0 isB_1)) (fun t ht hW => ⟨⟨(if (nI a_n) ≤ p2 then (0 : Int32) else (1 : Int32)), (), rfl, h, by rw [ht]; exact hP⟩, hS.F ht⟩) hS.2.2 dX5_isIn_15
    refine lv_icmp_ge (tgt := 14) hx hb dX5_isIn_7 (by decide) (fun q3 => ?_) (fun q3 => ?_)
    · refine lv_iconst (v := (0 : Int32)) hx hb dX5_isIn_14 (by decide) ?_
      exact J2 (0 : Int32) (if_pos q3).symm ls (lv_sub hl [] rfl)
    · refine lv_iconst (v := (1 : Int32)) hx hb dX5_isIn_10 (by decide) ?_
      refine lv_goto (tgt := 15) hx hb dX5_isIn_11 (by decide) ?_
      exact J2 (1 : Int32) (if_neg q3).symm ls (lv_sub hl [] rfl)
abbrev rmX5_at : Room := ({ frames := 0, cells := 0, slots := 0, locals := 0 } : Room)
set_option maxHeartbeats 4000000 in
set_option maxRecDepth 100000 in
theorem cX5_at {l : Launch} {G : va_G} {cI cZ cP cJ : ClassId} {ws : va_W} (k_a : Nat) (a_h : Nat) (a_n : Nat) (a_f : Nat → Int32) (e_a : ws[k_a]? = some (a_h, .inl (cI, a_n, .inl a_f))) (p2 : Int32) {Q : Int32 → Prop} (h : wX5_at a_n a_f p2 Q) (sz : Nat) : Met l yX5_at wsX5_at rmX5_at (va_Pc [.ref a_h, .int p2] (pB G [(cI, .int), (cZ, .boolean), (cP, .object RX3), (cJ, .array .int)] ws sz)) (va_Qi (fun (r : Int32) (u : Unit) => Q r) (fun (_ : Unit) t => va_P G vwCl ws t.heap) (va_A ws sz)) 0 0 (va_A ws sz) := by
  refine Met.ofW (cc := cX5_at) (maxL := 2) (ret := (some .int)) (by decide) rfl ?_
  intro p e s m args below meth c s₁ B hml hv
  obtain ⟨hargs, hsz, hP, hK, hD0⟩ := hv
  have hx := B.exec
  have hb := B.bytes
  have hr := B.returns
  have hts := atoms_spec (ws := wsX5_at) B.pre
  have hown : s.vm.findClass RX5 = some m.cls := findClass_of_methodNamed B.named
  have hlocks := B.notSynchronized
  subst hsz
  have hD := hD0.self (sz := s.heap.size)
  generalize hAe : va_A ws s.heap.size = A at hD ⊢
  have hA : ∀ q : Nat, s.heap.size ≤ q → A q := fun q h => by rw [← hAe]; exact Or.inr h
  have hS : va_S A s.heap s.heap [] := va_S.rf
  have hl := lv_entry ([.ref a_h, .int p2]) (n := 2) (Nat.le_of_ble_eq_true rfl)
  rw [show entryFrame m args 2 = entryFrame m ([.ref a_h, .int p2] : List Value).toArray 2 by rw [hargs], lg_entry_eq]
  generalize (lg_sl ([.ref a_h, .int p2]) ++ List.replicate (2 - (lg_sl ([.ref a_h, .int p2])).length) Slot.unset).toArray = ls at hl ⊢
  have hl : lv_has ls 2 [(0, .ref a_h), (1, .int p2)] := hl
  unfold wX5_at at h
  suffices hM : ∀ (H : Heap) (locs : List Loc), va_P G vwCl ws H → va_S A s.heap H locs → W p l e (headSpec wsX5_at rmX5_at).room s m args below meth c H locs 0 0 (MQ below (va_Qi (fun (r : Int32) (u : Unit) => Q r) (fun (_ : Unit) t => va_P G vwCl ws t.heap) A) args s 0 0 A) (F0 m 0 ls []) from hM _ _ hP hS
  clear hP hS
  intro H locs hP hS
  refine lv_iload_n hx hb dX5_at_0 rfl (lv_at hl 1 rfl) ?_
  refine lv_if_lt (tgt := 16) hx hb dX5_at_1 (by decide) (fun q3 => ?_) (fun q3 => ?_)
  · have h := (if_pos q3).mp h
    refine lv_bipush (v := (-9 : Int32)) hx hb dX5_at_16 (by decide) ?_
    exact W.iret (v := (-9 : Int32)) hx hb hr (fun t ht hW => ⟨⟨(-9 : Int32), (), rfl, h, by rw [ht]; exact hP⟩, hS.F ht⟩) hS.2.2 dX5_at_18
  · have h := (if_neg q3).mp h
    refine lv_iload_n hx hb dX5_at_4 rfl (lv_at hl 1 rfl) ?_
    refine lv_aload_n hx hb dX5_at_5 rfl (lv_at hl 0 rfl) ?_
    refine va_alen (v := (nI a_n)) hx hb hK.1 hP k_a 0 e_a rfl rfl dX5_at_6 ?_
    refine lv_icmp_ge (tgt := 16) hx hb dX5_at_7 (by decide) (fun q2 => ?_) (fun q2 => ?_)
    · have h := (if_pos q2).mp h
      refine lv_bipush (v := (-9 : Int32)) hx hb dX5_at_16 (by decide) ?_
      exact W.iret (v := (-9 : Int32)) hx hb hr (fun t ht hW => ⟨⟨(-9 : Int32), (), rfl, h, by rw [ht]; exact hP⟩, hS.F ht⟩) hS.2.2 dX5_at_18
    · have h := (if_neg q2).mp h
      refine lv_aload_n hx hb dX5_at_10 rfl (lv_at hl 0 rfl) ?_
      refine lv_iload_n hx hb dX5_at_11 rfl (lv_at hl 1 rfl) ?_
      obtain ⟨i1, h⟩ := h
      refine va_iald hx hb hK.1 hP k_a 0 e_a rfl i1 dX5_at_12 ?_
      refine lv_goto (tgt := 18) hx hb dX5_at_13 (by decide) ?_
      exact W.iret (v := (a_f p2.toNatClampNeg)) hx hb hr (fun t ht hW => ⟨⟨(a_f p2.toNatClampNeg), (), rfl, h, by rw [ht]; exact hP⟩, hS.F ht⟩) hS.2.2 dX5_at_18
theorem mX2_firstStep_1 : Cond.fieldLink RX2 15 "PlaitAndBreak$Loops" "firsts" "[I" ∈ wsX2_firstStep := List.mem_of_getElem? (i := 1) rfl
theorem icX2_firstStep_2 : ∀ w ∈ wsX20, w ∈ wsX2_firstStep := fun _ h => List.mem_cons_of_mem _ (List.mem_append_right _ h)
theorem mX2_firstStep_2 : Cond.fieldLink RX2 37 "PlaitAndBreak$Loops" "steps" "I" ∈ wsX2_firstStep := List.mem_of_getElem? (i := 2) rfl
theorem mX2_firstStep_4 : Cond.initialized RX5 ∈ wsX2_firstStep := List.mem_of_getElem? (i := 4) rfl
theorem mX2_firstStep_3 : Cond.static yX5_isIn ∈ wsX2_firstStep := List.mem_of_getElem? (i := 3) rfl
abbrev rmX2_firstStep : Room := ({ frames := 1, cells := 0, slots := 0, locals := 21 } : Room)
set_option maxHeartbeats 4000000 in
set_option maxRecDepth 100000 in
theorem cX2_firstStep {l : Launch} {G : va_G} {cI cZ cP cJ : ClassId} {ws : va_W} (k_t : Nat) (k_t_firsts : Nat) (t_h : Nat) (t_owners_a : Nat) (t_firsts_a : Nat) (t_ownersBySteps_a : Nat) (t_cells_a : Nat) (t_ends_a : Nat) (t_rightward_a : Nat) (t_downward_a : Nat) (t_count : Int32) (t_steps : Int32) (t_firsts : Nat → Int32) (e_t : ws[k_t]? = some (t_h, .inr (2, [.int t_count, .int t_steps, .ref t_owners_a, .ref t_firsts_a, .ref t_ownersBySteps_a, .ref t_cells_a, .ref t_ends_a, .ref t_rightward_a, .ref t_downward_a]))) (e_t_firsts : ws[k_t_firsts]? = some (t_firsts_a, .inl (cI, 37, .inl t_firsts))) (p1 : Int32) {Q : Int32 → Prop} (h : wX2_firstStep t_steps t_firsts p1 Q) (sz : Nat) : Met l yX2_firstStep wsX2_firstStep rmX2_firstStep (va_Pc [.ref t_h, .int p1] (pB G [(cI, .int), (cZ, .boolean), (cP, .object RX3), (cJ, .array .int)] ws sz)) (va_Qi (fun (r : Int32) (u : Unit) => Q r) (fun (_ : Unit) t => va_P G vwCl ws t.heap) (va_A ws sz)) 0 0 (va_A ws sz) := by
  refine Met.ofW (cc := cX2_firstStep) (maxL := 2) (ret := (some .int)) (by decide) rfl ?_
  intro p e s m args below meth c s₁ B hml hv
  obtain ⟨hargs, hsz, hP, hK, hD0⟩ := hv
  have hx := B.exec
  have hb := B.bytes
  have hr := B.returns
  have hts := atoms_spec (ws := wsX2_firstStep) B.pre
  have hown : s.vm.findClass RX2 = some m.cls := findClass_of_methodNamed B.named
  have hlocks := B.notSynchronized
  subst hsz
  have hD := hD0.self (sz := s.heap.size)
  generalize hAe : va_A ws s.heap.size = A at hD ⊢
  have hA : ∀ q : Nat, s.heap.size ≤ q → A q := fun q h => by rw [← hAe]; exact Or.inr h
  have hS : va_S A s.heap s.heap [] := va_S.rf
  have hl := lv_entry ([.ref t_h, .int p1]) (n := 2) (Nat.le_of_ble_eq_true rfl)
  rw [show entryFrame m args 2 = entryFrame m ([.ref t_h, .int p1] : List Value).toArray 2 by rw [hargs], lg_entry_eq]
  generalize (lg_sl ([.ref t_h, .int p1]) ++ List.replicate (2 - (lg_sl ([.ref t_h, .int p1])).length) Slot.unset).toArray = ls at hl ⊢
  have hl : lv_has ls 2 [(0, .ref t_h), (1, .int p1)] := hl
  unfold wX2_firstStep at h
  suffices hM : ∀ (H : Heap) (locs : List Loc), va_P G vwCl ws H → va_S A s.heap H locs → W p l e (headSpec wsX2_firstStep rmX2_firstStep).room s m args below meth c H locs 0 0 (MQ below (va_Qi (fun (r : Int32) (u : Unit) => Q r) (fun (_ : Unit) t => va_P G vwCl ws t.heap) A) args s 0 0 A) (F0 m 0 ls []) from hM _ _ hP hS
  clear hP hS
  intro H locs hP hS
  refine lv_aload_n hx hb dX2_firstStep_0 rfl (lv_at hl 0 rfl) ?_
  refine va_get (D := G) (ci := 2) (v := .ref t_firsts_a) (C := RX2) (T := TX2) (N := 9) hx hb hts icX2_firstStep_2 hown hK.1 hP k_t e_t rfl 3 (by decide) (hts _ mX2_firstStep_1) (fun _ h9 => h9) rfl dX2_firstStep_1 ?_
  refine lv_iload_n hx hb dX2_firstStep_4 rfl (lv_at hl 1 rfl) ?_
  refine rdi (va_runSN (As := [.ref t_firsts_a, .int p1]) (rest := []) ⟨hx, hb, hml, hown, hts⟩ (cX5_isIn (ws := ws) k_t_firsts t_firsts_a 37 t_firsts e_t_firsts p1 h _) ⟨va_cnB 2 hts gX2_firstStep_X5_isIn_n74 rfl rfl rfl (hK.2.2 _ (List.mem_of_getElem? (i := 20) rfl)) (hts _ mX2_firstStep_4) (by decide +kernel) ⟨Nat.le_of_ble_eq_true rfl, Nat.le_of_ble_eq_true rfl⟩, (hts _ mX2_firstStep_3), trivial⟩ (pS hK hP hD) rfl rfl hl.1 rfl (lv_room (Nat.le_of_ble_eq_true rfl)) dX2_firstStep_5 ⟨Nat.zero_le _, Nat.zero_le _⟩) hP hS hA hD (fun r5 H locs h hP hS => ?_)
  refine lv_if_eq (tgt := 20) hx hb dX2_firstStep_8 (by decide) (fun q2 => ?_) (fun q2 => ?_)
  · have h := (if_pos q2).mp h
    refine lv_aload_n hx hb dX2_firstStep_20 rfl (lv_at hl 0 rfl) ?_
    refine va_get (D := G) (ci := 2) (v := .int t_steps) (C := RX2) (T := TX2) (N := 9) hx hb hts icX2_firstStep_2 hown hK.1 hP k_t e_t rfl 1 (by decide) (hts _ mX2_firstStep_2) (fun _ h9 => h9) rfl dX2_firstStep_21 ?_
    exact W.iret (v := t_steps) hx hb hr (fun t ht hW => ⟨⟨t_steps, (), rfl, h, by rw [ht]; exact hP⟩, hS.F ht⟩) hS.2.2 dX2_firstStep_24
  · have h := (if_neg q2).mp h
    refine lv_aload_n hx hb dX2_firstStep_11 rfl (lv_at hl 0 rfl) ?_
    refine va_get (D := G) (ci := 2) (v := .ref t_firsts_a) (C := RX2) (T := TX2) (N := 9) hx hb hts icX2_firstStep_2 hown hK.1 hP k_t e_t rfl 3 (by decide) (hts _ mX2_firstStep_1) (fun _ h9 => h9) rfl dX2_firstStep_12 ?_
    refine lv_iload_n hx hb dX2_firstStep_15 rfl (lv_at hl 1 rfl) ?_
    obtain ⟨i1, h⟩ := h
    refine va_iald hx hb hK.1 hP k_t_firsts 0 e_t_firsts rfl i1 dX2_firstStep_16 ?_
    refine lv_goto (tgt := 24) hx hb dX2_firstStep_17 (by decide) ?_
    exact W.iret (v := (t_firsts p1.toNatClampNeg)) hx hb hr (fun t ht hW => ⟨⟨(t_firsts p1.toNatClampNeg), (), rfl, h, by rw [ht]; exact hP⟩, hS.F ht⟩) hS.2.2 dX2_firstStep_24
theorem mX3_kindOf_1 : Cond.fieldLink RX3 15 "PlaitAndBreak$Plait" "kinds" "[I" ∈ wsX3_kindOf := List.mem_of_getElem? (i := 1) rfl
theorem icX3_kindOf_3 : ∀ w ∈ wsX30, w ∈ wsX3_kindOf := fun _ h => List.mem_cons_of_mem _ (List.mem_append_right _ h)
theorem mX3_kindOf_3 : Cond.initialized RX5 ∈ wsX3_kindOf := List.mem_of_getElem? (i := 3) rfl
theorem mX3_kindOf_2 : Cond.static yX5_at ∈ wsX3_kindOf := List.mem_of_getElem? (i := 2) rfl
abbrev rmX3_kindOf : Room := ({ frames := 1, cells := 0, slots := 0, locals := 21 } : Room)
set_option maxHeartbeats 4000000 in
set_option maxRecDepth 100000 in
theorem cX3_kindOf {l : Launch} {G : va_G} {cI cZ cP cJ : ClassId} {ws : va_W} (k_t : Nat) (k_t_kinds : Nat) (t_h : Nat) (t_points_a : Nat) (t_kinds_a : Nat) (t_numbers_a : Nat) (t_down : Int32) (t_across : Int32) (t_inner : Int32) (t_kinds : Nat → Int32) (e_t : ws[k_t]? = some (t_h, .inr (3, [.int t_down, .int t_across, .int t_inner, .ref t_points_a, .ref t_kinds_a, .ref t_numbers_a]))) (e_t_kinds : ws[k_t_kinds]? = some (t_kinds_a, .inl (cI, 60, .inl t_kinds))) (p1 : Int32) {Q : Int32 → Prop} (h : wX3_kindOf t_kinds p1 Q) (sz : Nat) : Met l yX3_kindOf wsX3_kindOf rmX3_kindOf (va_Pc [.ref t_h, .int p1] (pB G [(cI, .int), (cZ, .boolean), (cP, .object RX3), (cJ, .array .int)] ws sz)) (va_Qi (fun (r : Int32) (u : Unit) => Q r) (fun (_ : Unit) t => va_P G vwCl ws t.heap) (va_A ws sz)) 0 0 (va_A ws sz) := by
  refine Met.ofW (cc := cX3_kindOf) (maxL := 2) (ret := (some .int)) (by decide) rfl ?_
  intro p e s m args below meth c s₁ B hml hv
  obtain ⟨hargs, hsz, hP, hK, hD0⟩ := hv
  have hx := B.exec
  have hb := B.bytes
  have hr := B.returns
  have hts := atoms_spec (ws := wsX3_kindOf) B.pre
  have hown : s.vm.findClass RX3 = some m.cls := findClass_of_methodNamed B.named
  have hlocks := B.notSynchronized
  subst hsz
  have hD := hD0.self (sz := s.heap.size)
  generalize hAe : va_A ws s.heap.size = A at hD ⊢
  have hA : ∀ q : Nat, s.heap.size ≤ q → A q := fun q h => by rw [← hAe]; exact Or.inr h
  have hS : va_S A s.heap s.heap [] := va_S.rf
  have hl := lv_entry ([.ref t_h, .int p1]) (n := 2) (Nat.le_of_ble_eq_true rfl)
  rw [show entryFrame m args 2 = entryFrame m ([.ref t_h, .int p1] : List Value).toArray 2 by rw [hargs], lg_entry_eq]
  generalize (lg_sl ([.ref t_h, .int p1]) ++ List.replicate (2 - (lg_sl ([.ref t_h, .int p1])).length) Slot.unset).toArray = ls at hl ⊢
  have hl : lv_has ls 2 [(0, .ref t_h), (1, .int p1)] := hl
  unfold wX3_kindOf at h
  suffices hM : ∀ (H : Heap) (locs : List Loc), va_P G vwCl ws H → va_S A s.heap H locs → W p l e (headSpec wsX3_kindOf rmX3_kindOf).room s m args below meth c H locs 0 0 (MQ below (va_Qi (fun (r : Int32) (u : Unit) => Q r) (fun (_ : Unit) t => va_P G vwCl ws t.heap) A) args s 0 0 A) (F0 m 0 ls []) from hM _ _ hP hS
  clear hP hS
  intro H locs hP hS
  refine lv_aload_n hx hb dX3_kindOf_0 rfl (lv_at hl 0 rfl) ?_
  refine va_get (D := G) (ci := 3) (v := .ref t_kinds_a) (C := RX3) (T := TX3) (N := 6) hx hb hts icX3_kindOf_3 hown hK.1 hP k_t e_t rfl 4 (by decide) (hts _ mX3_kindOf_1) (fun _ h9 => h9) rfl dX3_kindOf_1 ?_
  refine lv_iload_n hx hb dX3_kindOf_4 rfl (lv_at hl 1 rfl) ?_
  refine rdi (va_runSN (As := [.ref t_kinds_a, .int p1]) (rest := []) ⟨hx, hb, hml, hown, hts⟩ (cX5_at (ws := ws) k_t_kinds t_kinds_a 60 t_kinds e_t_kinds p1 h _) ⟨va_cnB 2 hts gX3_kindOf_X5_at_n57 rfl rfl rfl (hK.2.2 _ (List.mem_of_getElem? (i := 10) rfl)) (hts _ mX3_kindOf_3) (by decide +kernel) ⟨Nat.le_of_ble_eq_true rfl, Nat.le_of_ble_eq_true rfl⟩, (hts _ mX3_kindOf_2), trivial⟩ (pS hK hP hD) rfl rfl hl.1 rfl (lv_room (Nat.le_of_ble_eq_true rfl)) dX3_kindOf_5 ⟨Nat.zero_le _, Nat.zero_le _⟩) hP hS hA hD (fun r5 H locs h hP hS => ?_)
  exact W.iret (v := r5) hx hb hr (fun t ht hW => ⟨⟨r5, (), rfl, h, by rw [ht]; exact hP⟩, hS.F ht⟩) hS.2.2 dX3_kindOf_8
abbrev rmX3_isCrossing : Room := ({ frames := 2, cells := 0, slots := 0, locals := 42 } : Room)
set_option maxHeartbeats 4000000 in
set_option maxRecDepth 100000 in
theorem cX3_isCrossing {l : Launch} {G : va_G} {cI cZ cP cJ : ClassId} {ws : va_W} (k_t : Nat) (k_t_kinds : Nat) (t_h : Nat) (t_points_a : Nat) (t_kinds_a : Nat) (t_numbers_a : Nat) (t_down : Int32) (t_across : Int32) (t_inner : Int32) (t_kinds : Nat → Int32) (e_t : ws[k_t]? = some (t_h, .inr (3, [.int t_down, .int t_across, .int t_inner, .ref t_points_a, .ref t_kinds_a, .ref t_numbers_a]))) (e_t_kinds : ws[k_t_kinds]? = some (t_kinds_a, .inl (cI, 60, .inl t_kinds))) (p1 : Int32) {Q : Int32 → Prop} (h : wX3_isCrossing t_kinds p1 Q) (sz : Nat) : Met l yX3_isCrossing wsX3_isCrossing rmX3_isCrossing (va_Pc [.ref t_h, .int p1] (pB G [(cI, .int), (cZ, .boolean), (cP, .object RX3), (cJ, .array .int)] ws sz)) (va_Qi (fun (r : Int32) (u : Unit) => Q r) (fun (_ : Unit) t => va_P G vwCl ws t.heap) (va_A ws sz)) 0 0 (va_A ws sz) := by
  refine Met.ofW (cc := cX3_isCrossing) (maxL := 3) (ret := (some .boolean)) (by decide) rfl ?_
  intro p e s m args below meth c s₁ B hml hv
  obtain ⟨hargs, hsz, hP, hK, hD0⟩ := hv
  have hx := B.exec
  have hb := B.bytes
  have hr := B.returns
  have hts := atoms_spec (ws := wsX3_isCrossing) B.pre
  have hown : s.vm.findClass RX3 = some m.cls := findClass_of_methodNamed B.named
  have hlocks := B.notSynchronized
  subst hsz
  have hD := hD0.self (sz := s.heap.size)
  generalize hAe : va_A ws s.heap.size = A at hD ⊢
  have hA : ∀ q : Nat, s.heap.size ≤ q → A q := fun q h => by rw [← hAe]; exact Or.inr h
  have hS : va_S A s.heap s.heap [] := va_S.rf
  have hl := lv_entry ([.ref t_h, .int p1]) (n := 3) (Nat.le_of_ble_eq_true rfl)
  rw [show entryFrame m args 3 = entryFrame m ([.ref t_h, .int p1] : List Value).toArray 3 by rw [hargs], lg_entry_eq]
  generalize (lg_sl ([.ref t_h, .int p1]) ++ List.replicate (3 - (lg_sl ([.ref t_h, .int p1])).length) Slot.unset).toArray = ls at hl ⊢
  have hl : lv_has ls 3 [(0, .ref t_h), (1, .int p1)] := hl
  unfold wX3_isCrossing at h
  suffices hM : ∀ (H : Heap) (locs : List Loc), va_P G vwCl ws H → va_S A s.heap H locs → W p l e (headSpec wsX3_isCrossing rmX3_isCrossing).room s m args below meth c H locs 0 0 (MQ below (va_Qi (fun (r : Int32) (u : Unit) => Q r) (fun (_ : Unit) t => va_P G vwCl ws t.heap) A) args s 0 0 A) (F0 m 0 ls []) from hM _ _ hP hS
  clear hP hS
  intro H locs hP hS
  refine lv_aload_n hx hb dX3_isCrossing_0 rfl (lv_at hl 0 rfl) ?_
  refine lv_iload_n hx hb dX3_isCrossing_1 rfl (lv_at hl 1 rfl) ?_
  refine rdi (va_runV (As := [.int p1]) (rest := []) ⟨hx, hb, hml, hown, hts⟩ (cX3_kindOf (ws := ws) k_t k_t_kinds t_h t_points_a t_kinds_a t_numbers_a t_down t_across t_inner t_kinds e_t e_t_kinds p1 h _) (cwV 1 hts gX3_isCrossing_X3_kindOf rfl rfl rfl (by decide +kernel) ⟨Nat.le_of_ble_eq_true rfl, Nat.le_of_ble_eq_true rfl⟩) (pV hK hP hD (ci := 3) (q0 := k_t) rfl e_t) rfl rfl hl.1 rfl (lv_room (Nat.le_of_ble_eq_true rfl)) dX3_isCrossing_2 ⟨Nat.zero_le _, Nat.zero_le _⟩) hP hS hA hD (fun r2 H locs h hP hS => ?_)
  refine lv_istore_n (lv' := [(2, .int r2), (0, .ref t_h), (1, .int p1)]) hx hb dX3_isCrossing_5 rfl hl (by decide) rfl (fun ls hl => ?_)
  refine lv_iload_n hx hb dX3_isCrossing_6 rfl (lv_at hl 0 rfl) ?_
  have J2 : ∀ v1 : Int32, v1 = (if r2 = 0 then (1 : Int32) else (if r2 = (3 : Int32) then (1 : Int32) else (0 : Int32))) → ∀ (ls : Array Slot), lv_has ls 3 [] → W p l e (headSpec wsX3_isCrossing rmX3_isCrossing).room s m args below meth c H locs 0 0 (MQ below (va_Qi (fun (r : Int32) (u : Unit) => Q r) (fun (_ : Unit) t => va_P G vwCl ws t.heap) A) args s 0 0 A) (F0 m 20 ls [.int v1]) := by
    intro v1 ev1; subst ev1
    intro ls hl
    exact W.zret (v := (if r2 = 0 then (1 : Int32) else (if r2 = (3 : Int32) then (1 : Int32) else (0 : Int32)))) (ty := .boolean) hx hb hr (nB (isB_if isB_1 (isB_if isB_1 isB_0))) (fun t ht hW => ⟨⟨(if r2 = 0 then (1 : Int32) else (if r2 = (3 : Int32) then (1 : Int32) else (0 : Int32))), (), rfl, h, by rw [ht]; exact hP⟩, hS.F ht⟩) hS.2.2 dX3_isCrossing_20
  refine lv_if_eq (tgt := 15) hx hb dX3_isCrossing_7 (by decide) (fun q3 => ?_) (fun q3 => ?_)
  · refine lv_iconst (v := (1 : Int32)) hx hb dX3_isCrossing_15 (by decide) ?_
    refine lv_goto (tgt := 20) hx hb dX3_isCrossing_16 (by decide) ?_
    exact J2 (1 : Int32) (if_pos q3).symm ls (lv_sub hl [] rfl)
  · refine lv_iload_n hx hb dX3_isCrossing_10 rfl (lv_at hl 0 rfl) ?_
    refine lv_iconst (v := (3 : Int32)) hx hb dX3_isCrossing_11 (by decide) ?_
    refine lv_icmp_ne (tgt := 19) hx hb dX3_isCrossing_12 (by decide) (fun q4 => ?_) (fun q4 => ?_)
    · refine lv_iconst (v := (0 : Int32)) hx hb dX3_isCrossing_19 (by decide) ?_
      exact J2 (0 : Int32) ((if_neg q3).trans (if_neg q4)).symm ls (lv_sub hl [] rfl)
    · refine lv_iconst (v := (1 : Int32)) hx hb dX3_isCrossing_15 (by decide) ?_
      refine lv_goto (tgt := 20) hx hb dX3_isCrossing_16 (by decide) ?_
      exact J2 (1 : Int32) ((if_neg q3).trans (if_pos q4)).symm ls (lv_sub hl [] rfl)
theorem mX3_countKind_1 : Cond.fieldLink RX3 32 "PlaitAndBreak$Plait" "inner" "I" ∈ wsX3_countKind := List.mem_of_getElem? (i := 1) rfl
theorem icX3_countKind_3 : ∀ w ∈ wsX30, w ∈ wsX3_countKind := fun _ h => List.mem_cons_of_mem _ (List.mem_append_right _ h)
abbrev rmX3_countKind : Room := ({ frames := 2, cells := 0, slots := 0, locals := 42 } : Room)
set_option maxHeartbeats 4000000 in
set_option maxRecDepth 100000 in
theorem cX3_countKind {l : Launch} {G : va_G} {cI cZ cP cJ : ClassId} {ws : va_W} (k_t : Nat) (k_t_kinds : Nat) (t_h : Nat) (t_points_a : Nat) (t_kinds_a : Nat) (t_numbers_a : Nat) (t_down : Int32) (t_across : Int32) (t_inner : Int32) (t_kinds : Nat → Int32) (e_t : ws[k_t]? = some (t_h, .inr (3, [.int t_down, .int t_across, .int t_inner, .ref t_points_a, .ref t_kinds_a, .ref t_numbers_a]))) (e_t_kinds : ws[k_t_kinds]? = some (t_kinds_a, .inl (cI, 60, .inl t_kinds))) (p1 : Int32) {Q : Int32 → Prop} (h : wX3_countKind t_inner t_kinds p1 Q) (sz : Nat) : Met l yX3_countKind wsX3_countKind rmX3_countKind (va_Pc [.ref t_h, .int p1] (pB G [(cI, .int), (cZ, .boolean), (cP, .object RX3), (cJ, .array .int)] ws sz)) (va_Qi (fun (r : Int32) (u : Unit) => Q r) (fun (_ : Unit) t => va_P G vwCl ws t.heap) (va_A ws sz)) 0 0 (va_A ws sz) := by
  refine Met.ofW (cc := cX3_countKind) (maxL := 4) (ret := (some .int)) (by decide) rfl ?_
  intro p e s m args below meth c s₁ B hml hv
  obtain ⟨hargs, hsz, hP, hK, hD0⟩ := hv
  have hx := B.exec
  have hb := B.bytes
  have hr := B.returns
  have hts := atoms_spec (ws := wsX3_countKind) B.pre
  have hown : s.vm.findClass RX3 = some m.cls := findClass_of_methodNamed B.named
  have hlocks := B.notSynchronized
  subst hsz
  have hD := hD0.self (sz := s.heap.size)
  generalize hAe : va_A ws s.heap.size = A at hD ⊢
  have hA : ∀ q : Nat, s.heap.size ≤ q → A q := fun q h => by rw [← hAe]; exact Or.inr h
  have hS : va_S A s.heap s.heap [] := va_S.rf
  have hl := lv_entry ([.ref t_h, .int p1]) (n := 4) (Nat.le_of_ble_eq_true rfl)
  rw [show entryFrame m args 4 = entryFrame m ([.ref t_h, .int p1] : List Value).toArray 4 by rw [hargs], lg_entry_eq]
  generalize (lg_sl ([.ref t_h, .int p1]) ++ List.replicate (4 - (lg_sl ([.ref t_h, .int p1])).length) Slot.unset).toArray = ls at hl ⊢
  have hl : lv_has ls 4 [(0, .ref t_h), (1, .int p1)] := hl
  unfold wX3_countKind at h
  suffices hM : ∀ (H : Heap) (locs : List Loc), va_P G vwCl ws H → va_S A s.heap H locs → W p l e (headSpec wsX3_countKind rmX3_countKind).room s m args below meth c H locs 0 0 (MQ below (va_Qi (fun (r : Int32) (u : Unit) => Q r) (fun (_ : Unit) t => va_P G vwCl ws t.heap) A) args s 0 0 A) (F0 m 0 ls []) from hM _ _ hP hS
  clear hP hS
  intro H locs hP hS
  refine lv_iconst (v := (0 : Int32)) hx hb dX3_countKind_0 (by decide) ?_
  refine lv_istore_n (lv' := [(2, .int (0 : Int32)), (0, .ref t_h), (1, .int p1)]) hx hb dX3_countKind_1 rfl hl (by decide) rfl (fun ls hl => ?_)
  refine lv_iconst (v := (0 : Int32)) hx hb dX3_countKind_2 (by decide) ?_
  refine lv_istore_n (lv' := [(3, .int (0 : Int32)), (2, .int (0 : Int32)), (0, .ref t_h), (1, .int p1)]) hx hb dX3_countKind_3 rfl hl (by decide) rfl (fun ls hl => ?_)
  have X1 : ∀ (y30_2 : Int32) (H : Heap) (locs : List Loc) (ls : Array Slot), wX3_countKind_X30 Q y30_2 → va_P G vwCl ws H → va_S A s.heap H locs → lv_has ls 4 [(2, .int y30_2)] → W p l e (headSpec wsX3_countKind rmX3_countKind).room s m args below meth c H locs 0 0 (MQ below (va_Qi (fun (r : Int32) (u : Unit) => Q r) (fun (_ : Unit) t => va_P G vwCl ws t.heap) A) args s 0 0 A) (F0 m 30 ls []) := by
    intro y30_2 H locs ls h hP hS hl
    unfold wX3_countKind_X30 at h
    refine lv_iload_n hx hb dX3_countKind_30 rfl (lv_at hl 0 rfl) ?_
    exact W.iret (v := y30_2) hx hb hr (fun t ht hW => ⟨⟨y30_2, (), rfl, h, by rw [ht]; exact hP⟩, hS.F ht⟩) hS.2.2 dX3_countKind_31
  have R2 : ∀ (n : Nat) (x4_2 : Int32) (x4_3 : Int32) (H : Heap) (locs : List Loc) (ls : Array Slot), lX3_countKind_4 t_inner t_kinds p1 (wX3_countKind_X30 Q) n x4_2 x4_3 → va_P G vwCl ws H → va_S A s.heap H locs → lv_has ls 4 [(0, .ref t_h), (1, .int p1), (2, .int x4_2), (3, .int x4_3)] → W p l e (headSpec wsX3_countKind rmX3_countKind).room s m args below meth c H locs 0 0 (MQ below (va_Qi (fun (r : Int32) (u : Unit) => Q r) (fun (_ : Unit) t => va_P G vwCl ws t.heap) A) args s 0 0 A) (F0 m 4 ls []) := by
    intro n
    induction n with
    | zero => intro x4_2 x4_3 H locs ls h; exact False.elim h
    | succ n ih =>
      intro x4_2 x4_3 H locs ls h hP hS hl
      have h : bX3_countKind_4 t_inner t_kinds p1 (wX3_countKind_X30 Q) (fun x4_2 x4_3 => lX3_countKind_4 t_inner t_kinds p1 (wX3_countKind_X30 Q) n x4_2 x4_3) x4_2 x4_3 := h
      unfold bX3_countKind_4 at h
      refine lv_iload_n hx hb dX3_countKind_4 rfl (lv_at hl 3 rfl) ?_
      refine lv_aload_n hx hb dX3_countKind_5 rfl (lv_at hl 0 rfl) ?_
      refine va_get (D := G) (ci := 3) (v := .int t_inner) (C := RX3) (T := TX3) (N := 6) hx hb hts icX3_countKind_3 hown hK.1 hP k_t e_t rfl 2 (by decide) (hts _ mX3_countKind_1) (fun _ h9 => h9) rfl dX3_countKind_6 ?_
      refine lv_icmp_ge (tgt := 30) hx hb dX3_countKind_9 (by decide) (fun q6 => ?_) (fun q6 => ?_)
      · have h := (if_pos q6).mp h
        exact X1 x4_2 _ _ _ h hP hS (lv_sub hl [2] rfl)
      · have h := (if_neg q6).mp h
        refine lv_aload_n hx hb dX3_countKind_12 rfl (lv_at hl 0 rfl) ?_
        refine lv_iload_n hx hb dX3_countKind_13 rfl (lv_at hl 3 rfl) ?_
        refine rdi (va_runV (As := [.int x4_3]) (rest := []) ⟨hx, hb, hml, hown, hts⟩ (cX3_kindOf (ws := ws) k_t k_t_kinds t_h t_points_a t_kinds_a t_numbers_a t_down t_across t_inner t_kinds e_t e_t_kinds x4_3 h _) (cwV 1 hts gX3_countKind_X3_kindOf rfl rfl rfl (by decide +kernel) ⟨Nat.le_of_ble_eq_true rfl, Nat.le_of_ble_eq_true rfl⟩) (pV hK hP hD (ci := 3) (q0 := k_t) rfl e_t) rfl rfl hl.1 rfl (lv_room (Nat.le_of_ble_eq_true rfl)) dX3_countKind_14 ⟨Nat.zero_le _, Nat.zero_le _⟩) hP hS hA hD (fun r14 H locs h hP hS => ?_)
        refine lv_iload_n hx hb dX3_countKind_17 rfl (lv_at hl 1 rfl) ?_
        have J4 : ∀ v3 : Int32, v3 = (if r14 = p1 then (x4_2 + (1 : Int32)) else x4_2) → ∀ (ls : Array Slot), lv_has ls 4 [(0, .ref t_h), (1, .int p1), (2, .int v3), (3, .int x4_3)] → W p l e (headSpec wsX3_countKind rmX3_countKind).room s m args below meth c H locs 0 0 (MQ below (va_Qi (fun (r : Int32) (u : Unit) => Q r) (fun (_ : Unit) t => va_P G vwCl ws t.heap) A) args s 0 0 A) (F0 m 24 ls []) := by
          intro v3 ev3; subst ev3
          intro ls hl
          refine lv_iinc (v := (x4_3 + (1 : Int32))) (lv' := [(3, .int (x4_3 + (1 : Int32))), (0, .ref t_h), (1, .int p1), (2, .int (if r14 = p1 then (x4_2 + (1 : Int32)) else x4_2))]) hx hb dX3_countKind_24 hl (k := 3) rfl rfl (by decide) rfl (fun ls hl => ?_)
          refine lv_goto (tgt := 4) hx hb dX3_countKind_27 (by decide) ?_
          exact ih (if r14 = p1 then (x4_2 + (1 : Int32)) else x4_2) (x4_3 + (1 : Int32)) _ _ _ h hP hS (lv_sub hl [1, 2, 3, 0] rfl)
        refine lv_icmp_ne (tgt := 24) hx hb dX3_countKind_18 (by decide) (fun q5 => ?_) (fun q5 => ?_)
        · exact J4 x4_2 (if_neg q5).symm ls (lv_sub hl [0, 1, 2, 3] rfl)
        · refine lv_iinc (v := (x4_2 + (1 : Int32))) (lv' := [(2, .int (x4_2 + (1 : Int32))), (0, .ref t_h), (1, .int p1), (3, .int x4_3)]) hx hb dX3_countKind_21 hl (k := 2) rfl rfl (by decide) rfl (fun ls hl => ?_)
          exact J4 (x4_2 + (1 : Int32)) (if_pos q5).symm ls (lv_sub hl [1, 2, 0, 3] rfl)
  exact R2 FU (0 : Int32) (0 : Int32) _ _ _ h hP hS (lv_sub hl [2, 3, 1, 0] rfl)
theorem mX3_put_1 : Cond.fieldLink RX3 15 "PlaitAndBreak$Plait" "kinds" "[I" ∈ wsX3_put := List.mem_of_getElem? (i := 1) rfl
theorem icX3_put_3 : ∀ w ∈ wsX30, w ∈ wsX3_put := fun _ h => List.mem_cons_of_mem _ (List.mem_append_right _ h)
theorem mX3_put_3 : Cond.initialized RX5 ∈ wsX3_put := List.mem_of_getElem? (i := 3) rfl
theorem mX3_put_2 : Cond.static yX5_isIn ∈ wsX3_put := List.mem_of_getElem? (i := 2) rfl
abbrev rmX3_put : Room := ({ frames := 1, cells := 0, slots := 0, locals := 21 } : Room)
set_option maxHeartbeats 4000000 in
set_option maxRecDepth 100000 in
theorem cX3_put {l : Launch} {G : va_G} {cI cZ cP cJ : ClassId} (t_h : Nat) (t_points_a : Nat) (t_kinds_a : Nat) (t_numbers_a : Nat) (t_down : Int32) (t_across : Int32) (t_inner : Int32) (t_points : Nat → Int32) (t_kinds : Nat → Int32) (t_numbers : Nat → Int32) (p1 : Int32) (p2 : Int32) {Q : (Nat → Int32) → Prop} (h : wX3_put t_kinds p1 p2 Q) (sz : Nat) : Met l yX3_put wsX3_put rmX3_put (va_Pc [.ref t_h, .int p1, .int p2] (pB G [(cI, .int), (cZ, .boolean), (cP, .object RX3), (cJ, .array .int)] [(t_h, .inr (3, [.int t_down, .int t_across, .int t_inner, .ref t_points_a, .ref t_kinds_a, .ref t_numbers_a])), (t_points_a, .inl (cI, 60, .inl t_points)), (t_kinds_a, .inl (cI, 60, .inl t_kinds)), (t_numbers_a, .inl (cI, 169, .inl t_numbers))] sz)) (va_Qv (fun (u : (Nat → Int32)) => Q u) (fun (u : (Nat → Int32)) t => va_P G vwCl [(t_h, .inr (3, [.int t_down, .int t_across, .int t_inner, .ref t_points_a, .ref t_kinds_a, .ref t_numbers_a])), (t_points_a, .inl (cI, 60, .inl t_points)), (t_kinds_a, .inl (cI, 60, .inl u)), (t_numbers_a, .inl (cI, 169, .inl t_numbers))] t.heap ∧ va_D (va_A [(t_h, .inr (3, [.int t_down, .int t_across, .int t_inner, .ref t_points_a, .ref t_kinds_a, .ref t_numbers_a])), (t_points_a, .inl (cI, 60, .inl t_points)), (t_kinds_a, .inl (cI, 60, .inl t_kinds)), (t_numbers_a, .inl (cI, 169, .inl t_numbers))] sz) [(t_h, .inr (3, [.int t_down, .int t_across, .int t_inner, .ref t_points_a, .ref t_kinds_a, .ref t_numbers_a])), (t_points_a, .inl (cI, 60, .inl t_points)), (t_kinds_a, .inl (cI, 60, .inl u)), (t_numbers_a, .inl (cI, 169, .inl t_numbers))]) (va_A [(t_h, .inr (3, [.int t_down, .int t_across, .int t_inner, .ref t_points_a, .ref t_kinds_a, .ref t_numbers_a])), (t_points_a, .inl (cI, 60, .inl t_points)), (t_kinds_a, .inl (cI, 60, .inl t_kinds)), (t_numbers_a, .inl (cI, 169, .inl t_numbers))] sz)) 0 0 (va_A [(t_h, .inr (3, [.int t_down, .int t_across, .int t_inner, .ref t_points_a, .ref t_kinds_a, .ref t_numbers_a])), (t_points_a, .inl (cI, 60, .inl t_points)), (t_kinds_a, .inl (cI, 60, .inl t_kinds)), (t_numbers_a, .inl (cI, 169, .inl t_numbers))] sz) := by
  refine Met.ofW (cc := cX3_put) (maxL := 3) (ret := none) (by decide) rfl ?_
  intro p e s m args below meth c s₁ B hml hv
  obtain ⟨hargs, hsz, hP, hK, hD0⟩ := hv
  have hx := B.exec
  have hb := B.bytes
  have hr := B.returns
  have hts := atoms_spec (ws := wsX3_put) B.pre
  have hown : s.vm.findClass RX3 = some m.cls := findClass_of_methodNamed B.named
  have hlocks := B.notSynchronized
  subst hsz
  have hD := hD0.self (sz := s.heap.size)
  generalize hAe : va_A [(t_h, .inr (3, [.int t_down, .int t_across, .int t_inner, .ref t_points_a, .ref t_kinds_a, .ref t_numbers_a])), (t_points_a, .inl (cI, 60, .inl t_points)), (t_kinds_a, .inl (cI, 60, .inl t_kinds)), (t_numbers_a, .inl (cI, 169, .inl t_numbers))] s.heap.size = A at hD ⊢
  have hA : ∀ q : Nat, s.heap.size ≤ q → A q := fun q h => by rw [← hAe]; exact Or.inr h
  have hS : va_S A s.heap s.heap [] := va_S.rf
  have hl := lv_entry ([.ref t_h, .int p1, .int p2]) (n := 3) (Nat.le_of_ble_eq_true rfl)
  rw [show entryFrame m args 3 = entryFrame m ([.ref t_h, .int p1, .int p2] : List Value).toArray 3 by rw [hargs], lg_entry_eq]
  generalize (lg_sl ([.ref t_h, .int p1, .int p2]) ++ List.replicate (3 - (lg_sl ([.ref t_h, .int p1, .int p2])).length) Slot.unset).toArray = ls at hl ⊢
  have hl : lv_has ls 3 [(0, .ref t_h), (1, .int p1), (2, .int p2)] := hl
  unfold wX3_put at h
  suffices hM : ∀ (H : Heap) (locs : List Loc), va_P G vwCl [(t_h, .inr (3, [.int t_down, .int t_across, .int t_inner, .ref t_points_a, .ref t_kinds_a, .ref t_numbers_a])), (t_points_a, .inl (cI, 60, .inl t_points)), (t_kinds_a, .inl (cI, 60, .inl t_kinds)), (t_numbers_a, .inl (cI, 169, .inl t_numbers))] H → va_S A s.heap H locs → W p l e (headSpec wsX3_put rmX3_put).room s m args below meth c H locs 0 0 (MQ below (va_Qv (fun (u : (Nat → Int32)) => Q u) (fun (u : (Nat → Int32)) t => va_P G vwCl [(t_h, .inr (3, [.int t_down, .int t_across, .int t_inner, .ref t_points_a, .ref t_kinds_a, .ref t_numbers_a])), (t_points_a, .inl (cI, 60, .inl t_points)), (t_kinds_a, .inl (cI, 60, .inl u)), (t_numbers_a, .inl (cI, 169, .inl t_numbers))] t.heap ∧ va_D A [(t_h, .inr (3, [.int t_down, .int t_across, .int t_inner, .ref t_points_a, .ref t_kinds_a, .ref t_numbers_a])), (t_points_a, .inl (cI, 60, .inl t_points)), (t_kinds_a, .inl (cI, 60, .inl u)), (t_numbers_a, .inl (cI, 169, .inl t_numbers))]) A) args s 0 0 A) (F0 m 0 ls []) from hM _ _ hP hS
  clear hP hS
  intro H locs hP hS
  refine lv_aload_n hx hb dX3_put_0 rfl (lv_at hl 0 rfl) ?_
  refine va_get (D := G) (ci := 3) (v := .ref t_kinds_a) (C := RX3) (T := TX3) (N := 6) hx hb hts icX3_put_3 hown hK.1 hP 0 rfl rfl 4 (by decide) (hts _ mX3_put_1) (fun _ h9 => h9) rfl dX3_put_1 ?_
  refine lv_iload_n hx hb dX3_put_4 rfl (lv_at hl 1 rfl) ?_
  refine rdi (va_runSN (As := [.ref t_kinds_a, .int p1]) (rest := []) ⟨hx, hb, hml, hown, hts⟩ (cX5_isIn (ws := [(t_h, .inr (3, [.int t_down, .int t_across, .int t_inner, .ref t_points_a, .ref t_kinds_a, .ref t_numbers_a])), (t_points_a, .inl (cI, 60, .inl t_points)), (t_kinds_a, .inl (cI, 60, .inl t_kinds)), (t_numbers_a, .inl (cI, 169, .inl t_numbers))]) 2 t_kinds_a 60 t_kinds rfl p1 h _) ⟨va_cnB 2 hts gX3_put_X5_isIn_n65 rfl rfl rfl (hK.2.2 _ (List.mem_of_getElem? (i := 34) rfl)) (hts _ mX3_put_3) (by decide +kernel) ⟨Nat.le_of_ble_eq_true rfl, Nat.le_of_ble_eq_true rfl⟩, (hts _ mX3_put_2), trivial⟩ (pS hK hP hD) rfl rfl hl.1 rfl (lv_room (Nat.le_of_ble_eq_true rfl)) dX3_put_5 ⟨Nat.zero_le _, Nat.zero_le _⟩) hP hS hA hD (fun r5 H locs h hP hS => ?_)
  refine lv_if_eq (tgt := 18) hx hb dX3_put_8 (by decide) (fun q2 => ?_) (fun q2 => ?_)
  · have h := (if_pos q2).mp h
    exact W.vret hx hb hr (fun t ht hW => ⟨⟨t_kinds, rfl, h, ⟨by rw [ht]; exact hP, hD⟩⟩, hS.F ht⟩) hS.2.2 dX3_put_18
  · have h := (if_neg q2).mp h
    refine lv_aload_n hx hb dX3_put_11 rfl (lv_at hl 0 rfl) ?_
    refine va_get (D := G) (ci := 3) (v := .ref t_kinds_a) (C := RX3) (T := TX3) (N := 6) hx hb hts icX3_put_3 hown hK.1 hP 0 rfl rfl 4 (by decide) (hts _ mX3_put_1) (fun _ h9 => h9) rfl dX3_put_12 ?_
    refine lv_iload_n hx hb dX3_put_15 rfl (lv_at hl 1 rfl) ?_
    refine lv_iload_n hx hb dX3_put_16 rfl (lv_at hl 2 rfl) ?_
    obtain ⟨i1, h⟩ := h
    refine va_iast hx hb hK.1 hP hD hS 2 0 rfl rfl i1 dX3_put_17 (fun H locs hP hD hS => ?_)
    have hP : va_P G vwCl [(t_h, .inr (3, [.int t_down, .int t_across, .int t_inner, .ref t_points_a, .ref t_kinds_a, .ref t_numbers_a])), (t_points_a, .inl (cI, 60, .inl t_points)), (t_kinds_a, .inl (cI, 60, .inl (upd t_kinds p1.toNatClampNeg p2))), (t_numbers_a, .inl (cI, 169, .inl t_numbers))] H := hP
    have hD : va_D A [(t_h, .inr (3, [.int t_down, .int t_across, .int t_inner, .ref t_points_a, .ref t_kinds_a, .ref t_numbers_a])), (t_points_a, .inl (cI, 60, .inl t_points)), (t_kinds_a, .inl (cI, 60, .inl (upd t_kinds p1.toNatClampNeg p2))), (t_numbers_a, .inl (cI, 169, .inl t_numbers))] := hD
    exact W.vret hx hb hr (fun t ht hW => ⟨⟨(upd t_kinds p1.toNatClampNeg p2), rfl, h, ⟨by rw [ht]; exact hP, hD⟩⟩, hS.F ht⟩) hS.2.2 dX3_put_18
