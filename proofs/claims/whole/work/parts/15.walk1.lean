theorem u1 : Cond.code yX5_isIn cX5_isIn 2 (some .boolean) ∈ wU := wU_t2 (List.mem_of_getElem? (i := 10) rfl) rfl
theorem u2 : Cond.initialized RX5 ∈ wU := wU_t1 (List.mem_of_getElem? (i := 1) rfl) rfl
theorem u3 : Cond.static yX5_isIn ∈ wU := wU_t2 (List.mem_of_getElem? (i := 9) rfl) rfl
theorem u4 : Cond.fieldLink RX0 11 "PlaitAndBreak$Colouring" "rules" "[[I" ∈ wU := wU_t1 (List.mem_of_getElem? (i := 154) rfl) rfl
theorem u5 : Cond.fieldLink RX0 24 "PlaitAndBreak$Colouring" "height" "I" ∈ wU := wU_t1 (List.mem_of_getElem? (i := 153) rfl) rfl
theorem u6 : Cond.fieldLink RX0 20 "PlaitAndBreak$Colouring" "width" "I" ∈ wU := wU_t1 (List.mem_of_getElem? (i := 152) rfl) rfl
theorem u7 : Cond.fieldLink RX1 18 "PlaitAndBreak$Crossings" "overs" "[I" ∈ wU := wU_t1 (List.mem_of_getElem? (i := 123) rfl) rfl
theorem u8 : Cond.code yX5_at cX5_at 2 (some .int) ∈ wU := wU_t1 (List.mem_of_getElem? (i := 208) rfl) rfl
theorem u9 : Cond.static yX5_at ∈ wU := wU_t1 (List.mem_of_getElem? (i := 207) rfl) rfl
theorem u10 : Cond.fieldLink RX1 21 "PlaitAndBreak$Crossings" "unders" "[I" ∈ wU := wU_t1 (List.mem_of_getElem? (i := 124) rfl) rfl
theorem u11 : Cond.methodLink RX1 119 yX1_underAt ∈ wU := wU_t2 (List.mem_of_getElem? (i := 217) rfl) rfl
theorem u12 : Cond.instanceMethod yX1_underAt ∈ wU := wU_t2 (List.mem_of_getElem? (i := 219) rfl) rfl
theorem u13 : Cond.selects RX1 yX1_underAt yX1_underAt ∈ wU := wU_p3 (q := (yX1_underAt, 8)) (List.mem_of_getElem? (i := 13) rfl)
theorem u14 : Cond.initialized RX1 ∈ wU := wU_t1 (List.mem_of_getElem? (i := 5) rfl) rfl
theorem u15 : Cond.code yX1_underAt cX1_underAt 2 (some .int) ∈ wU := wU_t2 (List.mem_of_getElem? (i := 220) rfl) rfl
theorem u16 : Cond.methodLink RX1 116 yX1_overAt ∈ wU := wU_t2 (List.mem_of_getElem? (i := 209) rfl) rfl
theorem u17 : Cond.instanceMethod yX1_overAt ∈ wU := wU_t2 (List.mem_of_getElem? (i := 211) rfl) rfl
theorem u18 : Cond.selects RX1 yX1_overAt yX1_overAt ∈ wU := wU_p3 (q := (yX1_overAt, 8)) (List.mem_of_getElem? (i := 11) rfl)
theorem u19 : Cond.code yX1_overAt cX1_overAt 2 (some .int) ∈ wU := wU_t2 (List.mem_of_getElem? (i := 212) rfl) rfl
theorem u20 : Cond.fieldLink RX1 15 "PlaitAndBreak$Crossings" "arcsBySteps" "[I" ∈ wU := wU_t1 (List.mem_of_getElem? (i := 122) rfl) rfl
theorem u21 : Cond.fieldLink RX2 18 "PlaitAndBreak$Loops" "ownersBySteps" "[I" ∈ wU := wU_t1 (List.mem_of_getElem? (i := 86) rfl) rfl
theorem u22 : Cond.fieldLink RX2 15 "PlaitAndBreak$Loops" "firsts" "[I" ∈ wU := wU_t1 (List.mem_of_getElem? (i := 85) rfl) rfl
theorem u23 : Cond.fieldLink RX2 37 "PlaitAndBreak$Loops" "steps" "I" ∈ wU := wU_t1 (List.mem_of_getElem? (i := 82) rfl) rfl
theorem u24 : Cond.methodLink RX2 78 yX2_firstStep ∈ wU := wU_t2 (List.mem_of_getElem? (i := 192) rfl) rfl
theorem u25 : Cond.instanceMethod yX2_firstStep ∈ wU := wU_t2 (List.mem_of_getElem? (i := 6) rfl) rfl
theorem u26 : Cond.selects RX2 yX2_firstStep yX2_firstStep ∈ wU := wU_p2 (q := (yX2_firstStep, 9)) (List.mem_of_getElem? (i := 1) rfl)
theorem u27 : Cond.initialized RX2 ∈ wU := wU_t1 (List.mem_of_getElem? (i := 4) rfl) rfl
theorem u28 : Cond.code yX2_firstStep cX2_firstStep 2 (some .int) ∈ wU := wU_t2 (List.mem_of_getElem? (i := 7) rfl) rfl
theorem u29 : Cond.methodLink RX2 85 yX2_ownerAt ∈ wU := wU_t3 (List.mem_of_getElem? (i := 74) rfl) rfl
theorem u30 : Cond.instanceMethod yX2_ownerAt ∈ wU := wU_t2 (List.mem_of_getElem? (i := 25) rfl) rfl
theorem u31 : Cond.selects RX2 yX2_ownerAt yX2_ownerAt ∈ wU := wU_p2 (q := (yX2_ownerAt, 9)) (List.mem_of_getElem? (i := 4) rfl)
theorem u32 : Cond.code yX2_ownerAt cX2_ownerAt 2 (some .int) ∈ wU := wU_t2 (List.mem_of_getElem? (i := 26) rfl) rfl
theorem u33 : Cond.methodLink RX0 70 yX0_add ∈ wU := wU_t3 (List.mem_of_getElem? (i := 66) rfl) rfl
theorem u34 : Cond.static yX0_add ∈ wU := wU_t3 (List.mem_of_getElem? (i := 67) rfl) rfl
theorem u35 : Cond.initialized RX0 ∈ wU := wU_t1 (List.mem_of_getElem? (i := 6) rfl) rfl
theorem u36 : Cond.code yX0_add cX0_add 3 none ∈ wU := wU_t3 (List.mem_of_getElem? (i := 68) rfl) rfl
theorem u37 : Cond.code yX1_arcAt cX1_arcAt 2 (some .int) ∈ wU := wU_t3 (List.mem_of_getElem? (i := 65) rfl) rfl
theorem u38 : Cond.instanceMethod yX1_arcAt ∈ wU := wU_t3 (List.mem_of_getElem? (i := 64) rfl) rfl
theorem u39 : Cond.selects RX1 yX1_arcAt yX1_arcAt ∈ wU := wU_p4 (q := (yX1_arcAt, 8)) (List.mem_of_getElem? (i := 7) rfl)
theorem u40 : Cond.code yX2_stepAfter cX2_stepAfter 3 (some .int) ∈ wU := wU_t3 (List.mem_of_getElem? (i := 73) rfl) rfl
theorem u41 : Cond.instanceMethod yX2_stepAfter ∈ wU := wU_t3 (List.mem_of_getElem? (i := 72) rfl) rfl
theorem u42 : Cond.selects RX2 yX2_stepAfter yX2_stepAfter ∈ wU := wU_p4 (q := (yX2_stepAfter, 9)) (List.mem_of_getElem? (i := 8) rfl)
theorem u43 : Cond.methodLink RX0 58 yJ7_fill_53178 ∈ wU := wU_t3 (List.mem_of_getElem? (i := 60) rfl) rfl
theorem u44 : Cond.static yJ7_fill_53178 ∈ wU := wU_t1 (List.mem_of_getElem? (i := 171) rfl) rfl
theorem u45 : Cond.initialized RJ7 ∈ wU := wU_t1 (List.mem_of_getElem? (i := 7) rfl) rfl
theorem u46 : Cond.code yJ7_fill_53178 cJ7_fill_53178 4 none ∈ wU := wU_t1 (List.mem_of_getElem? (i := 172) rfl) rfl
theorem u47 : Cond.code yX1_isHere cX1_isHere 2 (some .boolean) ∈ wU := wU_t3 (List.mem_of_getElem? (i := 33) rfl) rfl
theorem u48 : Cond.instanceMethod yX1_isHere ∈ wU := wU_t3 (List.mem_of_getElem? (i := 32) rfl) rfl
theorem u49 : Cond.selects RX1 yX1_isHere yX1_isHere ∈ wU := wU_p4 (q := (yX1_isHere, 8)) (List.mem_of_getElem? (i := 3) rfl)
theorem u50 : Cond.methodLink RX0 44 Lib.Math.min.name ∈ wU := wU_t3 (List.mem_of_getElem? (i := 55) rfl) rfl
theorem u51 : Cond.static Lib.Math.min.name ∈ wU := wU_t3 (List.mem_of_getElem? (i := 56) rfl) rfl
theorem u52 : Cond.initialized "java/lang/Math" ∈ wU := wU_t1 (List.mem_of_getElem? (i := 8) rfl) rfl
theorem u53 : Cond.code Lib.Math.min.name Lib.Math.min.code 2 (some .int) ∈ wU := wU_t3 (List.mem_of_getElem? (i := 57) rfl) rfl
theorem u54 : Cond.methodLink RX0 35 yX0_clearBelow ∈ wU := wU_t3 (List.mem_of_getElem? (i := 83) rfl) rfl
theorem u55 : Cond.instanceMethod yX0_clearBelow ∈ wU := wU_t3 (List.mem_of_getElem? (i := 85) rfl) rfl
theorem u56 : Cond.selects RX0 yX0_clearBelow yX0_clearBelow ∈ wU := wU_p4 (q := (yX0_clearBelow, 3)) (List.mem_of_getElem? (i := 11) rfl)
theorem u57 : Cond.code yX0_clearBelow cX0_clearBelow 10 none ∈ wU := wU_t3 (List.mem_of_getElem? (i := 86) rfl) rfl
theorem u58 : Cond.methodLink RX0 31 yX0_swap ∈ wU := wU_t3 (List.mem_of_getElem? (i := 79) rfl) rfl
theorem u59 : Cond.instanceMethod yX0_swap ∈ wU := wU_t3 (List.mem_of_getElem? (i := 81) rfl) rfl
theorem u60 : Cond.selects RX0 yX0_swap yX0_swap ∈ wU := wU_p4 (q := (yX0_swap, 3)) (List.mem_of_getElem? (i := 10) rfl)
theorem u61 : Cond.code yX0_swap cX0_swap 4 none ∈ wU := wU_t3 (List.mem_of_getElem? (i := 82) rfl) rfl
theorem u62 : Cond.methodLink RX0 27 yX0_findRule ∈ wU := wU_t3 (List.mem_of_getElem? (i := 75) rfl) rfl
theorem u63 : Cond.instanceMethod yX0_findRule ∈ wU := wU_t3 (List.mem_of_getElem? (i := 77) rfl) rfl
theorem u64 : Cond.selects RX0 yX0_findRule yX0_findRule ∈ wU := wU_p4 (q := (yX0_findRule, 3)) (List.mem_of_getElem? (i := 9) rfl)
theorem u65 : Cond.code yX0_findRule cX0_findRule 5 (some .int) ∈ wU := wU_t3 (List.mem_of_getElem? (i := 78) rfl) rfl
theorem u66 : Cond.methodLink RX0 16 yX0_gather ∈ wU := wU_t3 (List.mem_of_getElem? (i := 51) rfl) rfl
theorem u67 : Cond.instanceMethod yX0_gather ∈ wU := wU_t3 (List.mem_of_getElem? (i := 53) rfl) rfl
theorem u68 : Cond.selects RX0 yX0_gather yX0_gather ∈ wU := wU_p4 (q := (yX0_gather, 3)) (List.mem_of_getElem? (i := 6) rfl)
theorem u69 : Cond.code yX0_gather cX0_gather 6 none ∈ wU := wU_t3 (List.mem_of_getElem? (i := 54) rfl) rfl
theorem u70 : Cond.fieldLink RX1 9 "PlaitAndBreak$Crossings" "passes" "[I" ∈ wU := wU_t1 (List.mem_of_getElem? (i := 121) rfl) rfl
theorem u71 : Cond.methodLink RX1 85 yX1_countPasses ∈ wU := wU_t2 (List.mem_of_getElem? (i := 11) rfl) rfl
theorem u72 : Cond.instanceMethod yX1_countPasses ∈ wU := wU_t2 (List.mem_of_getElem? (i := 13) rfl) rfl
theorem u73 : Cond.selects RX1 yX1_countPasses yX1_countPasses ∈ wU := wU_p2 (q := (yX1_countPasses, 8)) (List.mem_of_getElem? (i := 2) rfl)
theorem u74 : Cond.code yX1_countPasses cX1_countPasses 7 (some .int) ∈ wU := wU_t2 (List.mem_of_getElem? (i := 14) rfl) rfl
theorem u75 : Cond.methodLink RX1 129 yX1_loopUnder ∈ wU := wU_t2 (List.mem_of_getElem? (i := 213) rfl) rfl
theorem u76 : Cond.instanceMethod yX1_loopUnder ∈ wU := wU_t2 (List.mem_of_getElem? (i := 215) rfl) rfl
theorem u77 : Cond.selects RX1 yX1_loopUnder yX1_loopUnder ∈ wU := wU_p3 (q := (yX1_loopUnder, 8)) (List.mem_of_getElem? (i := 12) rfl)
theorem u78 : Cond.code yX1_loopUnder cX1_loopUnder 3 (some .int) ∈ wU := wU_t2 (List.mem_of_getElem? (i := 216) rfl) rfl
theorem u79 : Cond.methodLink RX1 126 yX1_loopOver ∈ wU := wU_t2 (List.mem_of_getElem? (i := 205) rfl) rfl
theorem u80 : Cond.instanceMethod yX1_loopOver ∈ wU := wU_t2 (List.mem_of_getElem? (i := 207) rfl) rfl
theorem u81 : Cond.selects RX1 yX1_loopOver yX1_loopOver ∈ wU := wU_p3 (q := (yX1_loopOver, 8)) (List.mem_of_getElem? (i := 10) rfl)
theorem u82 : Cond.code yX1_loopOver cX1_loopOver 3 (some .int) ∈ wU := wU_t2 (List.mem_of_getElem? (i := 208) rfl) rfl
theorem u83 : Cond.methodLink RX1 132 yX1_isShared ∈ wU := wU_t2 (List.mem_of_getElem? (i := 201) rfl) rfl
theorem u84 : Cond.instanceMethod yX1_isShared ∈ wU := wU_t2 (List.mem_of_getElem? (i := 203) rfl) rfl
theorem u85 : Cond.selects RX1 yX1_isShared yX1_isShared ∈ wU := wU_p3 (q := (yX1_isShared, 8)) (List.mem_of_getElem? (i := 9) rfl)
theorem u86 : Cond.code yX1_isShared cX1_isShared 7 (some .boolean) ∈ wU := wU_t2 (List.mem_of_getElem? (i := 204) rfl) rfl
abbrev rmJ7_fill_53178 : Room := ({ frames := 0, cells := 0, slots := 0, locals := 0 } : Room)
set_option maxHeartbeats 4000000 in
set_option maxRecDepth 100000 in
theorem kJ7_fill_53178 {l : Launch} {G : va_G} {cI cZ cP cJ : ClassId} (a_h : Nat) (a_n : Nat) (a_f : Nat → Int32) (p2 : Int32) {Q : (Nat → Int32) → Prop} (h : wJ7_fill_53178 a_n a_f p2 Q) (sz : Nat) : Met l yJ7_fill_53178 wsJ7_fill_53178 rmJ7_fill_53178 (va_Pc [.ref a_h, .int p2] (pB G [(cI, .int), (cZ, .boolean), (cP, .object RX3), (cJ, .array .int)] [(a_h, .inl (cI, a_n, .inl a_f))] sz)) (va_Qv (fun (u : (Nat → Int32)) => Q u) (fun (u : (Nat → Int32)) t => va_P G vwCl [(a_h, .inl (cI, a_n, .inl u))] t.heap ∧ va_D (va_A [(a_h, .inl (cI, a_n, .inl a_f))] sz) [(a_h, .inl (cI, a_n, .inl u))]) (va_A [(a_h, .inl (cI, a_n, .inl a_f))] sz)) 0 0 (va_A [(a_h, .inl (cI, a_n, .inl a_f))] sz) := by
  refine Met.ofW (cc := cJ7_fill_53178) (maxL := 4) (ret := none) (by decide) rfl ?_
  intro p e s m args below meth c s₁ B hml hv
  obtain ⟨hargs, hsz, hP, hK, hD0⟩ := hv
  have hx := B.exec
  have hb := B.bytes
  have hr := B.returns
  have hts := atoms_spec (ws := wsJ7_fill_53178) B.pre
  have hown : s.vm.findClass RJ7 = some m.cls := findClass_of_methodNamed B.named
  have hlocks := B.notSynchronized
  subst hsz
  have hD := hD0.self (sz := s.heap.size)
  generalize hAe : va_A [(a_h, .inl (cI, a_n, .inl a_f))] s.heap.size = A at hD ⊢
  have hA : ∀ q : Nat, s.heap.size ≤ q → A q := fun q h => by rw [← hAe]; exact Or.inr h
  have hS : va_S A s.heap s.heap [] := va_S.rf
  have hl := lv_entry ([.ref a_h, .int p2]) (n := 4) (Nat.le_of_ble_eq_true rfl)
  rw [show entryFrame m args 4 = entryFrame m ([.ref a_h, .int p2] : List Value).toArray 4 by rw [hargs], lg_entry_eq]
  generalize (lg_sl ([.ref a_h, .int p2]) ++ List.replicate (4 - (lg_sl ([.ref a_h, .int p2])).length) Slot.unset).toArray = ls at hl ⊢
  have hl : lv_has ls 4 [(0, .ref a_h), (1, .int p2)] := hl
  unfold wJ7_fill_53178 at h
  suffices hM : ∀ (H : Heap) (locs : List Loc), va_P G vwCl [(a_h, .inl (cI, a_n, .inl a_f))] H → va_S A s.heap H locs → W p l e (headSpec wsJ7_fill_53178 rmJ7_fill_53178).room s m args below meth c H locs 0 0 (MQ below (va_Qv (fun (u : (Nat → Int32)) => Q u) (fun (u : (Nat → Int32)) t => va_P G vwCl [(a_h, .inl (cI, a_n, .inl u))] t.heap ∧ va_D A [(a_h, .inl (cI, a_n, .inl u))]) A) args s 0 0 A) (F0 m 0 ls []) from hM _ _ hP hS
  clear hP hS
  intro H locs hP hS
  refine lv_iconst (v := (0 : Int32)) hx hb dJ7_fill_53178_0 (by decide) ?_
  refine lv_istore_n (lv' := [(2, .int (0 : Int32)), (0, .ref a_h), (1, .int p2)]) hx hb dJ7_fill_53178_1 rfl hl (by decide) rfl (fun ls hl => ?_)
  refine lv_aload_n hx hb dJ7_fill_53178_2 rfl (lv_at hl 1 rfl) ?_
  refine va_alen (v := (nI a_n)) hx hb hK.1 hP 0 0 rfl rfl rfl dJ7_fill_53178_3 ?_
  refine lv_istore_n (lv' := [(3, .int (nI a_n)), (2, .int (0 : Int32)), (0, .ref a_h), (1, .int p2)]) hx hb dJ7_fill_53178_4 rfl hl (by decide) rfl (fun ls hl => ?_)
  have X1 : ∀ (a_f__20 : Nat → Int32) (H : Heap) (locs : List Loc) (ls : Array Slot), wJ7_fill_53178_X20 Q a_f__20 → va_P G vwCl [(a_h, .inl (cI, a_n, .inl a_f__20))] H → va_D A [(a_h, .inl (cI, a_n, .inl a_f__20))] → va_S A s.heap H locs → lv_has ls 4 [] → W p l e (headSpec wsJ7_fill_53178 rmJ7_fill_53178).room s m args below meth c H locs 0 0 (MQ below (va_Qv (fun (u : (Nat → Int32)) => Q u) (fun (u : (Nat → Int32)) t => va_P G vwCl [(a_h, .inl (cI, a_n, .inl u))] t.heap ∧ va_D A [(a_h, .inl (cI, a_n, .inl u))]) A) args s 0 0 A) (F0 m 20 ls []) := by
    intro a_f__20 H locs ls h hP hD hS hl
    unfold wJ7_fill_53178_X20 at h
    exact W.vret hx hb hr (fun t ht hW => ⟨⟨a_f__20, rfl, h, ⟨by rw [ht]; exact hP, hD⟩⟩, hS.F ht⟩) hS.2.2 dJ7_fill_53178_20
  obtain ⟨K5, hK5⟩ : ∃ f : (Nat → Int32) → Prop, f = (wJ7_fill_53178_X20 Q) := ⟨_, rfl⟩
  replace X1 : ∀ (a_f__20 : Nat → Int32) (H : Heap) (locs : List Loc) (ls : Array Slot), K5 a_f__20 → va_P G vwCl [(a_h, .inl (cI, a_n, .inl a_f__20))] H → va_D A [(a_h, .inl (cI, a_n, .inl a_f__20))] → va_S A s.heap H locs → lv_has ls 4 [] → W p l e (headSpec wsJ7_fill_53178 rmJ7_fill_53178).room s m args below meth c H locs 0 0 (MQ below (va_Qv (fun (u : (Nat → Int32)) => Q u) (fun (u : (Nat → Int32)) t => va_P G vwCl [(a_h, .inl (cI, a_n, .inl u))] t.heap ∧ va_D A [(a_h, .inl (cI, a_n, .inl u))]) A) args s 0 0 A) (F0 m 20 ls []) := by rw [hK5]; exact X1
  have R2 : ∀ (n : Nat) (x5_2 : Int32) (a_f__5 : Nat → Int32) (H : Heap) (locs : List Loc) (ls : Array Slot), lJ7_fill_53178_5 a_n p2 K5 n x5_2 a_f__5 → va_P G vwCl [(a_h, .inl (cI, a_n, .inl a_f__5))] H → va_D A [(a_h, .inl (cI, a_n, .inl a_f__5))] → va_S A s.heap H locs → lv_has ls 4 [(0, .ref a_h), (1, .int p2), (2, .int x5_2), (3, .int (nI a_n))] → W p l e (headSpec wsJ7_fill_53178 rmJ7_fill_53178).room s m args below meth c H locs 0 0 (MQ below (va_Qv (fun (u : (Nat → Int32)) => Q u) (fun (u : (Nat → Int32)) t => va_P G vwCl [(a_h, .inl (cI, a_n, .inl u))] t.heap ∧ va_D A [(a_h, .inl (cI, a_n, .inl u))]) A) args s 0 0 A) (F0 m 5 ls []) := by
    intro n
    induction n with
    | zero => intro x5_2 a_f__5 H locs ls h; exact False.elim h
    | succ n ih =>
      obtain ⟨R5, hR5⟩ : ∃ f : Int32 → (Nat → Int32) → Prop, f = (fun x5_2 a_f__5 => lJ7_fill_53178_5 a_n p2 K5 n x5_2 a_f__5) := ⟨_, rfl⟩
      replace ih : ∀ (x5_2 : Int32) (a_f__5 : Nat → Int32) (H : Heap) (locs : List Loc) (ls : Array Slot), R5 x5_2 a_f__5 → va_P G vwCl [(a_h, .inl (cI, a_n, .inl a_f__5))] H → va_D A [(a_h, .inl (cI, a_n, .inl a_f__5))] → va_S A s.heap H locs → lv_has ls 4 [(0, .ref a_h), (1, .int p2), (2, .int x5_2), (3, .int (nI a_n))] → W p l e (headSpec wsJ7_fill_53178 rmJ7_fill_53178).room s m args below meth c H locs 0 0 (MQ below (va_Qv (fun (u : (Nat → Int32)) => Q u) (fun (u : (Nat → Int32)) t => va_P G vwCl [(a_h, .inl (cI, a_n, .inl u))] t.heap ∧ va_D A [(a_h, .inl (cI, a_n, .inl u))]) A) args s 0 0 A) (F0 m 5 ls []) := by rw [hR5]; exact ih
      intro x5_2 a_f__5 H locs ls h hP hD hS hl
      have h : bJ7_fill_53178_5 a_n p2 K5 R5 x5_2 a_f__5 := by rw [hR5]; exact h
      clear hR5
      unfold bJ7_fill_53178_5 at h
      refine lv_iload_n hx hb dJ7_fill_53178_5 rfl (lv_at hl 2 rfl) ?_
      refine lv_iload_n hx hb dJ7_fill_53178_6 rfl (lv_at hl 3 rfl) ?_
      refine lv_icmp_ge (tgt := 20) hx hb dJ7_fill_53178_7 (by decide) (fun q4 => ?_) (fun q4 => ?_)
      · have h := (if_pos q4).mp h
        exact X1 a_f__5 _ _ _ h hP hD hS (lv_sub hl [] rfl)
      · have h := (if_neg q4).mp h
        refine lv_aload_n hx hb dJ7_fill_53178_10 rfl (lv_at hl 0 rfl) ?_
        refine lv_iload_n hx hb dJ7_fill_53178_11 rfl (lv_at hl 2 rfl) ?_
        refine lv_iload_n hx hb dJ7_fill_53178_12 rfl (lv_at hl 1 rfl) ?_
        obtain ⟨i3, h⟩ := h
        refine va_iast hx hb hK.1 hP hD hS 0 0 rfl rfl i3 dJ7_fill_53178_13 (fun H locs hP hD hS => ?_)
        have hP : va_P G vwCl [(a_h, .inl (cI, a_n, .inl (upd a_f__5 x5_2.toNatClampNeg p2)))] H := hP
        have hD : va_D A [(a_h, .inl (cI, a_n, .inl (upd a_f__5 x5_2.toNatClampNeg p2)))] := hD
        refine lv_iinc (v := (x5_2 + (1 : Int32))) (lv' := [(2, .int (x5_2 + (1 : Int32))), (0, .ref a_h), (1, .int p2), (3, .int (nI a_n))]) hx hb dJ7_fill_53178_14 hl (k := 2) rfl rfl (by decide) rfl (fun ls hl => ?_)
        refine lv_goto (tgt := 5) hx hb dJ7_fill_53178_17 (by decide) ?_
        exact ih (x5_2 + (1 : Int32)) (upd a_f__5 x5_2.toNatClampNeg p2) _ _ _ h hP hD hS (lv_sub hl [1, 2, 0, 3] rfl)
  exact R2 FU (0 : Int32) a_f _ _ _ (by rw [hK5]; exact h) hP hD hS (lv_sub hl [2, 3, 1, 0] rfl)
abbrev rmX5_isIn : Room := ({ frames := 0, cells := 0, slots := 0, locals := 0 } : Room)
set_option maxHeartbeats 4000000 in
set_option maxRecDepth 100000 in
theorem kX5_isIn {l : Launch} {G : va_G} {cI cZ cP cJ : ClassId} {ws : va_W} (k_a : Nat) (a_h : Nat) (a_n : Nat) (a_f : Nat → Int32) (e_a : ws[k_a]? = some (a_h, .inl (cI, a_n, .inl a_f))) (p2 : Int32) {Q : Int32 → Prop} (h : wX5_isIn a_n p2 Q) (sz : Nat) : Met l yX5_isIn wsX5_isIn rmX5_isIn (va_Pc [.ref a_h, .int p2] (pB G [(cI, .int), (cZ, .boolean), (cP, .object RX3), (cJ, .array .int)] ws sz)) (va_Qi (fun (r : Int32) (u : Unit) => Q r) (fun (_ : Unit) t => va_P G vwCl ws t.heap) (va_A ws sz)) 0 0 (va_A ws sz) := by
  refine Met.ofW (cc := cX5_isIn) (maxL := 2) (ret := (some .boolean)) (by decide) rfl ?_
  intro p e s m args below meth c s₁ B hml hv
  obtain ⟨hargs, hsz, hP, hK, hD0⟩ := hv
  have hx := B.exec
  have hb := B.bytes
  have hr := B.returns
  have hts := atoms_spec (ws := wsX5_isIn) B.pre
  have hown : s.vm.findClass RX5 = some m.cls := findClass_of_methodNamed B.named
  have hlocks := B.notSynchronized
  subst hsz
  have hD := hD0.self (sz := s.heap.size)
  generalize hAe : va_A ws s.heap.size = A at hD ⊢
  have hA : ∀ q : Nat, s.heap.size ≤ q → A q := fun q h => by rw [← hAe]; exact Or.inr h
  have hS : va_S A s.heap s.heap [] := va_S.rf
  have hl := lv_entry ([.ref a_h, .int p2]) (n := 2) (Nat.le_of_ble_eq_true rfl)
  rw [show entryFrame m args 2 = entryFrame m ([.ref a_h, .int p2] : List Value).toArray 2 by rw [hargs], lg_entry_eq]
  generalize (lg_sl ([.ref a_h, .int p2]) ++ List.replicate (2 - (lg_sl ([.ref a_h, .int p2])).length) Slot.unset).toArray = ls at hl ⊢
  have hl : lv_has ls 2 [(0, .ref a_h), (1, .int p2)] := hl
  unfold wX5_isIn at h
  suffices hM : ∀ (H : Heap) (locs : List Loc), va_P G vwCl ws H → va_S A s.heap H locs → W p l e (headSpec wsX5_isIn rmX5_isIn).room s m args below meth c H locs 0 0 (MQ below (va_Qi (fun (r : Int32) (u : Unit) => Q r) (fun (_ : Unit) t => va_P G vwCl ws t.heap) A) args s 0 0 A) (F0 m 0 ls []) from hM _ _ hP hS
  clear hP hS
  intro H locs hP hS
  refine lv_iload_n hx hb dX5_isIn_0 rfl (lv_at hl 1 rfl) ?_
  refine lv_if_lt (tgt := 14) hx hb dX5_isIn_1 (by decide) (fun q4 => ?_) (fun q4 => ?_)
  · have h := (if_pos q4).mp h
    refine lv_iconst (v := (0 : Int32)) hx hb dX5_isIn_14 (by decide) ?_
    exact W.zret (v := (0 : Int32)) (ty := .boolean) hx hb hr (nB isB_0) (fun t ht hW => ⟨⟨(0 : Int32), (), rfl, h, by show va_P G vwCl ws t.heap; rw [ht]; exact hP⟩, hS.F ht⟩) hS.2.2 dX5_isIn_15
  · have h := (if_neg q4).mp h
    refine lv_iload_n hx hb dX5_isIn_4 rfl (lv_at hl 1 rfl) ?_
    refine lv_aload_n hx hb dX5_isIn_5 rfl (lv_at hl 0 rfl) ?_
    refine va_alen (v := (nI a_n)) hx hb hK.1 hP k_a 0 e_a rfl rfl dX5_isIn_6 ?_
    have J2 : ∀ v1 : Int32, v1 = (if (nI a_n) ≤ p2 then (0 : Int32) else (1 : Int32)) → ∀ (ls : Array Slot), lv_has ls 2 [] → W p l e (headSpec wsX5_isIn rmX5_isIn).room s m args below meth c H locs 0 0 (MQ below (va_Qi (fun (r : Int32) (u : Unit) => Q r) (fun (_ : Unit) t => va_P G vwCl ws t.heap) A) args s 0 0 A) (F0 m 15 ls [.int v1]) := by
      intro v1 ev1; subst ev1
      intro ls hl
      exact W.zret (v := (if (nI a_n) ≤ p2 then (0 : Int32) else (1 : Int32))) (ty := .boolean) hx hb hr (nB (isB_if isB_0 isB_1)) (fun t ht hW => ⟨⟨(if (nI a_n) ≤ p2 then (0 : Int32) else (1 : Int32)), (), rfl, h, by show va_P G vwCl ws t.heap; rw [ht]; exact hP⟩, hS.F ht⟩) hS.2.2 dX5_isIn_15
    refine lv_icmp_ge (tgt := 14) hx hb dX5_isIn_7 (by decide) (fun q3 => ?_) (fun q3 => ?_)
    · refine lv_iconst (v := (0 : Int32)) hx hb dX5_isIn_14 (by decide) ?_
      exact J2 (0 : Int32) (if_pos q3).symm ls (lv_sub hl [] rfl)
    · refine lv_iconst (v := (1 : Int32)) hx hb dX5_isIn_10 (by decide) ?_
      refine lv_goto (tgt := 15) hx hb dX5_isIn_11 (by decide) ?_
      exact J2 (1 : Int32) (if_neg q3).symm ls (lv_sub hl [] rfl)
abbrev rmX0_add : Room := ({ frames := 1, cells := 0, slots := 0, locals := 21 } : Room)
set_option maxHeartbeats 4000000 in
set_option maxRecDepth 100000 in
theorem kX0_add {l : Launch} {G : va_G} {cI cZ cP cJ : ClassId} (a_h : Nat) (a_n : Nat) (a_f : Nat → Int32) (p2 : Int32) (p3 : Int32) {Q : (Nat → Int32) → Prop} (h : wX0_add a_n a_f p2 p3 Q) (sz : Nat) : Met l yX0_add wsX0_add rmX0_add (va_Pc [.ref a_h, .int p2, .int p3] (pB G [(cI, .int), (cZ, .boolean), (cP, .object RX3), (cJ, .array .int)] [(a_h, .inl (cI, a_n, .inl a_f))] sz)) (va_Qv (fun (u : (Nat → Int32)) => Q u) (fun (u : (Nat → Int32)) t => va_P G vwCl [(a_h, .inl (cI, a_n, .inl u))] t.heap ∧ va_D (va_A [(a_h, .inl (cI, a_n, .inl a_f))] sz) [(a_h, .inl (cI, a_n, .inl u))]) (va_A [(a_h, .inl (cI, a_n, .inl a_f))] sz)) 0 0 (va_A [(a_h, .inl (cI, a_n, .inl a_f))] sz) := by
  refine Met.ofW (cc := cX0_add) (maxL := 3) (ret := none) (by decide) rfl ?_
  intro p e s m args below meth c s₁ B hml hv
  obtain ⟨hargs, hsz, hP, hK, hD0⟩ := hv
  have hx := B.exec
  have hb := B.bytes
  have hr := B.returns
  have hts := atoms_spec (ws := wsX0_add) B.pre
  have hown : s.vm.findClass RX0 = some m.cls := findClass_of_methodNamed B.named
  have hlocks := B.notSynchronized
  subst hsz
  have hD := hD0.self (sz := s.heap.size)
  generalize hAe : va_A [(a_h, .inl (cI, a_n, .inl a_f))] s.heap.size = A at hD ⊢
  have hA : ∀ q : Nat, s.heap.size ≤ q → A q := fun q h => by rw [← hAe]; exact Or.inr h
  have hS : va_S A s.heap s.heap [] := va_S.rf
  have hl := lv_entry ([.ref a_h, .int p2, .int p3]) (n := 3) (Nat.le_of_ble_eq_true rfl)
  rw [show entryFrame m args 3 = entryFrame m ([.ref a_h, .int p2, .int p3] : List Value).toArray 3 by rw [hargs], lg_entry_eq]
  generalize (lg_sl ([.ref a_h, .int p2, .int p3]) ++ List.replicate (3 - (lg_sl ([.ref a_h, .int p2, .int p3])).length) Slot.unset).toArray = ls at hl ⊢
  have hl : lv_has ls 3 [(0, .ref a_h), (1, .int p2), (2, .int p3)] := hl
  unfold wX0_add at h
  suffices hM : ∀ (H : Heap) (locs : List Loc), va_P G vwCl [(a_h, .inl (cI, a_n, .inl a_f))] H → va_S A s.heap H locs → W p l e (headSpec wsX0_add rmX0_add).room s m args below meth c H locs 0 0 (MQ below (va_Qv (fun (u : (Nat → Int32)) => Q u) (fun (u : (Nat → Int32)) t => va_P G vwCl [(a_h, .inl (cI, a_n, .inl u))] t.heap ∧ va_D A [(a_h, .inl (cI, a_n, .inl u))]) A) args s 0 0 A) (F0 m 0 ls []) from hM _ _ hP hS
  clear hP hS
  intro H locs hP hS
  refine lv_aload_n hx hb dX0_add_0 rfl (lv_at hl 0 rfl) ?_
  refine lv_iload_n hx hb dX0_add_1 rfl (lv_at hl 1 rfl) ?_
  refine rdi (va_runSN (As := [.ref a_h, .int p2]) (rest := []) ⟨hx, hb, hml, hown, hts⟩ (kX5_isIn (ws := [(a_h, .inl (cI, a_n, .inl a_f))]) 0 a_h a_n a_f rfl p2 h _) ⟨va_cnB 2 hts (gIn (aN u1)) rfl rfl rfl (hK.2.2.1 _ (List.mem_of_getElem? (i := 63) rfl)) (hts _ (List.mem_cons_of_mem _ u2)) (by decide +kernel) ⟨Nat.le_of_ble_eq_true rfl, Nat.le_of_ble_eq_true rfl⟩, (hts _ (List.mem_cons_of_mem _ u3)), trivial⟩ (pS hK hP hD) rfl rfl hl.1 rfl (lv_room (Nat.le_of_ble_eq_true rfl)) dX0_add_2 ⟨Nat.zero_le _, Nat.zero_le _⟩) hP hS hA hD (fun r2 H locs h hP hS => ?_)
  refine lv_if_eq (tgt := 15) hx hb dX0_add_5 (by decide) (fun q2 => ?_) (fun q2 => ?_)
  · have h := (if_pos q2).mp h
    exact W.vret hx hb hr (fun t ht hW => ⟨⟨a_f, rfl, h, ⟨by rw [ht]; exact hP, hD⟩⟩, hS.F ht⟩) hS.2.2 dX0_add_15
  · have h := (if_neg q2).mp h
    refine lv_aload_n hx hb dX0_add_8 rfl (lv_at hl 0 rfl) ?_
    refine lv_iload_n hx hb dX0_add_9 rfl (lv_at hl 1 rfl) ?_
    refine lv_dup2_11 hx hb dX0_add_10 rfl rfl ?_
    obtain ⟨i1, h⟩ := h
    refine va_iald hx hb hK.1 hP 0 0 rfl rfl i1 dX0_add_11 ?_
    refine lv_iload_n hx hb dX0_add_12 rfl (lv_at hl 2 rfl) ?_
    refine lv_iadd hx hb dX0_add_13 ?_
    refine va_iast hx hb hK.1 hP hD hS 0 0 rfl rfl i1 dX0_add_14 (fun H locs hP hD hS => ?_)
    have hP : va_P G vwCl [(a_h, .inl (cI, a_n, .inl (upd a_f p2.toNatClampNeg ((a_f p2.toNatClampNeg) + p3))))] H := hP
    have hD : va_D A [(a_h, .inl (cI, a_n, .inl (upd a_f p2.toNatClampNeg ((a_f p2.toNatClampNeg) + p3))))] := hD
    exact W.vret hx hb hr (fun t ht hW => ⟨⟨(upd a_f p2.toNatClampNeg ((a_f p2.toNatClampNeg) + p3)), rfl, h, ⟨by rw [ht]; exact hP, hD⟩⟩, hS.F ht⟩) hS.2.2 dX0_add_15
abbrev rmX0_clearBelow : Room := ({ frames := 0, cells := 0, slots := 0, locals := 0 } : Room)
set_option maxHeartbeats 4000000 in
set_option maxRecDepth 100000 in
theorem kX0_clearBelow {l : Launch} {G : va_G} {cI cZ cP cJ : ClassId} (L : List Nat) (E : va_W) (t_h : Nat) (t_rules_a : Nat) (t_width : Int32) (t_height : Int32) (t_rules : Nat → Option Nat) (t_rows : Nat → Nat → Int32) (p1 : Int32) (p2 : Int32) (p3 : Int32) {Q : (Nat → Nat → Int32) → Prop} (h : wX0_clearBelow L t_width t_height t_rules t_rows p1 p2 p3 Q) (sz : Nat) : Met l yX0_clearBelow wsX0_clearBelow rmX0_clearBelow (va_Pc [.ref t_h, .int p1, .int p2, .int p3] (pB G [(cI, .int), (cZ, .boolean), (cP, .object RX3), (cJ, .array .int)] (((t_h, .inr (0, [.int t_width, .int t_height, .ref t_rules_a])) :: (t_rules_a, .inl (cJ, 60, .inr (.inr (.inr (.inr t_rules))))) :: E) ++ va_pl L (fun q => .inl (cI, 96, .inl (t_rows q)))) sz)) (va_Qv (fun (u : (Nat → Nat → Int32)) => Q u) (fun (u : (Nat → Nat → Int32)) t => va_P G vwCl (((t_h, .inr (0, [.int t_width, .int t_height, .ref t_rules_a])) :: (t_rules_a, .inl (cJ, 60, .inr (.inr (.inr (.inr t_rules))))) :: E) ++ va_pl L (fun q => .inl (cI, 96, .inl (u q)))) t.heap ∧ va_D (va_A (((t_h, .inr (0, [.int t_width, .int t_height, .ref t_rules_a])) :: (t_rules_a, .inl (cJ, 60, .inr (.inr (.inr (.inr t_rules))))) :: E) ++ va_pl L (fun q => .inl (cI, 96, .inl (t_rows q)))) sz) (((t_h, .inr (0, [.int t_width, .int t_height, .ref t_rules_a])) :: (t_rules_a, .inl (cJ, 60, .inr (.inr (.inr (.inr t_rules))))) :: E) ++ va_pl L (fun q => .inl (cI, 96, .inl (u q))))) (va_A (((t_h, .inr (0, [.int t_width, .int t_height, .ref t_rules_a])) :: (t_rules_a, .inl (cJ, 60, .inr (.inr (.inr (.inr t_rules))))) :: E) ++ va_pl L (fun q => .inl (cI, 96, .inl (t_rows q)))) sz)) 0 0 (va_A (((t_h, .inr (0, [.int t_width, .int t_height, .ref t_rules_a])) :: (t_rules_a, .inl (cJ, 60, .inr (.inr (.inr (.inr t_rules))))) :: E) ++ va_pl L (fun q => .inl (cI, 96, .inl (t_rows q)))) sz) := by
  refine Met.ofW (cc := cX0_clearBelow) (maxL := 10) (ret := none) (by decide) rfl ?_
  intro p e s m args below meth c s₁ B hml hv
  obtain ⟨hargs, hsz, hP, hK, hD0⟩ := hv
  have hx := B.exec
  have hb := B.bytes
  have hr := B.returns
  have hts := atoms_spec (ws := wsX0_clearBelow) B.pre
  have hown : s.vm.findClass RX0 = some m.cls := findClass_of_methodNamed B.named
  have hlocks := B.notSynchronized
  subst hsz
  have hD := hD0.self (sz := s.heap.size)
  generalize hAe : va_A (((t_h, .inr (0, [.int t_width, .int t_height, .ref t_rules_a])) :: (t_rules_a, .inl (cJ, 60, .inr (.inr (.inr (.inr t_rules))))) :: E) ++ va_pl L (fun q => .inl (cI, 96, .inl (t_rows q)))) s.heap.size = A at hD ⊢
  have hA : ∀ q : Nat, s.heap.size ≤ q → A q := fun q h => by rw [← hAe]; exact Or.inr h
  have hS : va_S A s.heap s.heap [] := va_S.rf
  have hl := lv_entry ([.ref t_h, .int p1, .int p2, .int p3]) (n := 10) (Nat.le_of_ble_eq_true rfl)
  rw [show entryFrame m args 10 = entryFrame m ([.ref t_h, .int p1, .int p2, .int p3] : List Value).toArray 10 by rw [hargs], lg_entry_eq]
  generalize (lg_sl ([.ref t_h, .int p1, .int p2, .int p3]) ++ List.replicate (10 - (lg_sl ([.ref t_h, .int p1, .int p2, .int p3])).length) Slot.unset).toArray = ls at hl ⊢
  have hl : lv_has ls 10 [(0, .ref t_h), (1, .int p1), (2, .int p2), (3, .int p3)] := hl
  unfold wX0_clearBelow at h
  suffices hM : ∀ (H : Heap) (locs : List Loc), va_P G vwCl (((t_h, .inr (0, [.int t_width, .int t_height, .ref t_rules_a])) :: (t_rules_a, .inl (cJ, 60, .inr (.inr (.inr (.inr t_rules))))) :: E) ++ va_pl L (fun q => .inl (cI, 96, .inl (t_rows q)))) H → va_S A s.heap H locs → W p l e (headSpec wsX0_clearBelow rmX0_clearBelow).room s m args below meth c H locs 0 0 (MQ below (va_Qv (fun (u : (Nat → Nat → Int32)) => Q u) (fun (u : (Nat → Nat → Int32)) t => va_P G vwCl (((t_h, .inr (0, [.int t_width, .int t_height, .ref t_rules_a])) :: (t_rules_a, .inl (cJ, 60, .inr (.inr (.inr (.inr t_rules))))) :: E) ++ va_pl L (fun q => .inl (cI, 96, .inl (u q)))) t.heap ∧ va_D A (((t_h, .inr (0, [.int t_width, .int t_height, .ref t_rules_a])) :: (t_rules_a, .inl (cJ, 60, .inr (.inr (.inr (.inr t_rules))))) :: E) ++ va_pl L (fun q => .inl (cI, 96, .inl (u q))))) A) args s 0 0 A) (F0 m 0 ls []) from hM _ _ hP hS
  clear hP hS
  intro H locs hP hS
  refine lv_aload_n hx hb dX0_clearBelow_0 rfl (lv_at hl 0 rfl) ?_
  refine va_get (D := G) (ci := 0) (v := .ref t_rules_a) (C := RX0) (T := TX0) (N := 3) hx hb hts inC0 hown hK.1 hP 0 rfl rfl 2 (by decide) (hts _ (List.mem_cons_of_mem _ u4)) (fun _ h9 => h9) rfl dX0_clearBelow_1 ?_
  refine lv_iload_n hx hb dX0_clearBelow_4 rfl (lv_at hl 1 rfl) ?_
  obtain ⟨i1, h⟩ := h
  obtain ⟨y2, hey2, hLy2, h⟩ := h
  refine zw_ald (y := y2) hx hb hK.1 hP 1 3 rfl rfl i1 hey2 dX0_clearBelow_5 ?_
  refine lv_astore (lv' := [(4, .ref y2), (0, .ref t_h), (1, .int p1), (2, .int p2), (3, .int p3)]) hx hb dX0_clearBelow_6 hl (by decide) rfl (fun ls hl => ?_)
  refine lv_aload hx hb dX0_clearBelow_8 (lv_at hl 0 rfl) ?_
  refine lv_iload_n hx hb dX0_clearBelow_10 rfl (lv_at hl 3 rfl) ?_
  obtain ⟨i3, h⟩ := h
  refine zw_rld hx hb hK.1 hP 0 rfl hLy2 i3 dX0_clearBelow_11 ?_
  refine lv_istore (lv' := [(5, .int (t_rows y2 p2.toNatClampNeg)), (4, .ref y2), (0, .ref t_h), (1, .int p1), (2, .int p2), (3, .int p3)]) hx hb dX0_clearBelow_12 hl (by decide) rfl (fun ls hl => ?_)
  refine lv_iload_n hx hb dX0_clearBelow_14 rfl (lv_at hl 3 rfl) ?_
  refine lv_iconst (v := (1 : Int32)) hx hb dX0_clearBelow_15 (by decide) ?_
  refine lv_iadd hx hb dX0_clearBelow_16 ?_
  refine lv_istore (lv' := [(6, .int (p1 + (1 : Int32))), (5, .int (t_rows y2 p2.toNatClampNeg)), (4, .ref y2), (0, .ref t_h), (1, .int p1), (2, .int p2), (3, .int p3)]) hx hb dX0_clearBelow_17 hl (by decide) rfl (fun ls hl => ?_)
  have X4 : ∀ (t_rows__98 : Nat → Nat → Int32) (H : Heap) (locs : List Loc) (ls : Array Slot), wX0_clearBelow_X98 Q t_rows__98 → va_P G vwCl (((t_h, .inr (0, [.int t_width, .int t_height, .ref t_rules_a])) :: (t_rules_a, .inl (cJ, 60, .inr (.inr (.inr (.inr t_rules))))) :: E) ++ va_pl L (fun q => .inl (cI, 96, .inl (t_rows__98 q)))) H → va_D A (((t_h, .inr (0, [.int t_width, .int t_height, .ref t_rules_a])) :: (t_rules_a, .inl (cJ, 60, .inr (.inr (.inr (.inr t_rules))))) :: E) ++ va_pl L (fun q => .inl (cI, 96, .inl (t_rows__98 q)))) → va_S A s.heap H locs → lv_has ls 10 [] → W p l e (headSpec wsX0_clearBelow rmX0_clearBelow).room s m args below meth c H locs 0 0 (MQ below (va_Qv (fun (u : (Nat → Nat → Int32)) => Q u) (fun (u : (Nat → Nat → Int32)) t => va_P G vwCl (((t_h, .inr (0, [.int t_width, .int t_height, .ref t_rules_a])) :: (t_rules_a, .inl (cJ, 60, .inr (.inr (.inr (.inr t_rules))))) :: E) ++ va_pl L (fun q => .inl (cI, 96, .inl (u q)))) t.heap ∧ va_D A (((t_h, .inr (0, [.int t_width, .int t_height, .ref t_rules_a])) :: (t_rules_a, .inl (cJ, 60, .inr (.inr (.inr (.inr t_rules))))) :: E) ++ va_pl L (fun q => .inl (cI, 96, .inl (u q))))) A) args s 0 0 A) (F0 m 98 ls []) := by
    intro t_rows__98 H locs ls h hP hD hS hl
    unfold wX0_clearBelow_X98 at h
    exact W.vret hx hb hr (fun t ht hW => ⟨⟨t_rows__98, rfl, h, ⟨by rw [ht]; exact hP, hD⟩⟩, hS.F ht⟩) hS.2.2 dX0_clearBelow_98
  obtain ⟨K19, hK19⟩ : ∃ f : (Nat → Nat → Int32) → Prop, f = (wX0_clearBelow_X98 Q) := ⟨_, rfl⟩
  replace X4 : ∀ (t_rows__98 : Nat → Nat → Int32) (H : Heap) (locs : List Loc) (ls : Array Slot), K19 t_rows__98 → va_P G vwCl (((t_h, .inr (0, [.int t_width, .int t_height, .ref t_rules_a])) :: (t_rules_a, .inl (cJ, 60, .inr (.inr (.inr (.inr t_rules))))) :: E) ++ va_pl L (fun q => .inl (cI, 96, .inl (t_rows__98 q)))) H → va_D A (((t_h, .inr (0, [.int t_width, .int t_height, .ref t_rules_a])) :: (t_rules_a, .inl (cJ, 60, .inr (.inr (.inr (.inr t_rules))))) :: E) ++ va_pl L (fun q => .inl (cI, 96, .inl (t_rows__98 q)))) → va_S A s.heap H locs → lv_has ls 10 [] → W p l e (headSpec wsX0_clearBelow rmX0_clearBelow).room s m args below meth c H locs 0 0 (MQ below (va_Qv (fun (u : (Nat → Nat → Int32)) => Q u) (fun (u : (Nat → Nat → Int32)) t => va_P G vwCl (((t_h, .inr (0, [.int t_width, .int t_height, .ref t_rules_a])) :: (t_rules_a, .inl (cJ, 60, .inr (.inr (.inr (.inr t_rules))))) :: E) ++ va_pl L (fun q => .inl (cI, 96, .inl (u q)))) t.heap ∧ va_D A (((t_h, .inr (0, [.int t_width, .int t_height, .ref t_rules_a])) :: (t_rules_a, .inl (cJ, 60, .inr (.inr (.inr (.inr t_rules))))) :: E) ++ va_pl L (fun q => .inl (cI, 96, .inl (u q))))) A) args s 0 0 A) (F0 m 98 ls []) := by rw [hK19]; exact X4
  have R5 : ∀ (n : Nat) (x19_6 : Int32) (t_rows__19 : Nat → Nat → Int32) (H : Heap) (locs : List Loc) (ls : Array Slot), lX0_clearBelow_19 L t_width t_height t_rules t_rows p2 p3 y2 K19 n x19_6 t_rows__19 → va_P G vwCl (((t_h, .inr (0, [.int t_width, .int t_height, .ref t_rules_a])) :: (t_rules_a, .inl (cJ, 60, .inr (.inr (.inr (.inr t_rules))))) :: E) ++ va_pl L (fun q => .inl (cI, 96, .inl (t_rows__19 q)))) H → va_D A (((t_h, .inr (0, [.int t_width, .int t_height, .ref t_rules_a])) :: (t_rules_a, .inl (cJ, 60, .inr (.inr (.inr (.inr t_rules))))) :: E) ++ va_pl L (fun q => .inl (cI, 96, .inl (t_rows__19 q)))) → va_S A s.heap H locs → lv_has ls 10 [(0, .ref t_h), (2, .int p2), (3, .int p3), (4, .ref y2), (5, .int (t_rows y2 p2.toNatClampNeg)), (6, .int x19_6)] → W p l e (headSpec wsX0_clearBelow rmX0_clearBelow).room s m args below meth c H locs 0 0 (MQ below (va_Qv (fun (u : (Nat → Nat → Int32)) => Q u) (fun (u : (Nat → Nat → Int32)) t => va_P G vwCl (((t_h, .inr (0, [.int t_width, .int t_height, .ref t_rules_a])) :: (t_rules_a, .inl (cJ, 60, .inr (.inr (.inr (.inr t_rules))))) :: E) ++ va_pl L (fun q => .inl (cI, 96, .inl (u q)))) t.heap ∧ va_D A (((t_h, .inr (0, [.int t_width, .int t_height, .ref t_rules_a])) :: (t_rules_a, .inl (cJ, 60, .inr (.inr (.inr (.inr t_rules))))) :: E) ++ va_pl L (fun q => .inl (cI, 96, .inl (u q))))) A) args s 0 0 A) (F0 m 19 ls []) := by
    intro n
    induction n with
    | zero => intro x19_6 t_rows__19 H locs ls h; exact False.elim h
    | succ n ih =>
      obtain ⟨R19, hR19⟩ : ∃ f : Int32 → (Nat → Nat → Int32) → Prop, f = (fun x19_6 t_rows__19 => lX0_clearBelow_19 L t_width t_height t_rules t_rows p2 p3 y2 K19 n x19_6 t_rows__19) := ⟨_, rfl⟩
      replace ih : ∀ (x19_6 : Int32) (t_rows__19 : Nat → Nat → Int32) (H : Heap) (locs : List Loc) (ls : Array Slot), R19 x19_6 t_rows__19 → va_P G vwCl (((t_h, .inr (0, [.int t_width, .int t_height, .ref t_rules_a])) :: (t_rules_a, .inl (cJ, 60, .inr (.inr (.inr (.inr t_rules))))) :: E) ++ va_pl L (fun q => .inl (cI, 96, .inl (t_rows__19 q)))) H → va_D A (((t_h, .inr (0, [.int t_width, .int t_height, .ref t_rules_a])) :: (t_rules_a, .inl (cJ, 60, .inr (.inr (.inr (.inr t_rules))))) :: E) ++ va_pl L (fun q => .inl (cI, 96, .inl (t_rows__19 q)))) → va_S A s.heap H locs → lv_has ls 10 [(0, .ref t_h), (2, .int p2), (3, .int p3), (4, .ref y2), (5, .int (t_rows y2 p2.toNatClampNeg)), (6, .int x19_6)] → W p l e (headSpec wsX0_clearBelow rmX0_clearBelow).room s m args below meth c H locs 0 0 (MQ below (va_Qv (fun (u : (Nat → Nat → Int32)) => Q u) (fun (u : (Nat → Nat → Int32)) t => va_P G vwCl (((t_h, .inr (0, [.int t_width, .int t_height, .ref t_rules_a])) :: (t_rules_a, .inl (cJ, 60, .inr (.inr (.inr (.inr t_rules))))) :: E) ++ va_pl L (fun q => .inl (cI, 96, .inl (u q)))) t.heap ∧ va_D A (((t_h, .inr (0, [.int t_width, .int t_height, .ref t_rules_a])) :: (t_rules_a, .inl (cJ, 60, .inr (.inr (.inr (.inr t_rules))))) :: E) ++ va_pl L (fun q => .inl (cI, 96, .inl (u q))))) A) args s 0 0 A) (F0 m 19 ls []) := by rw [hR19]; exact ih
      intro x19_6 t_rows__19 H locs ls h hP hD hS hl
      have h : bX0_clearBelow_19 L t_width t_height t_rules t_rows p2 p3 y2 K19 R19 x19_6 t_rows__19 := by rw [hR19]; exact h
      clear hR19
      unfold bX0_clearBelow_19 at h
      refine lv_iload hx hb dX0_clearBelow_19 (lv_at hl 5 rfl) ?_
      refine lv_aload_n hx hb dX0_clearBelow_21 rfl (lv_at hl 0 rfl) ?_
      refine va_get (D := G) (ci := 0) (v := .int t_height) (C := RX0) (T := TX0) (N := 3) hx hb hts inC0 hown hK.1 hP 0 rfl rfl 1 (by decide) (hts _ (List.mem_cons_of_mem _ u5)) (fun _ h9 => h9) rfl dX0_clearBelow_22 ?_
      refine lv_icmp_ge (tgt := 98) hx hb dX0_clearBelow_25 (by decide) (fun q14 => ?_) (fun q14 => ?_)
      · have h := (if_pos q14).mp h
        exact X4 t_rows__19 _ _ _ h hP hD hS (lv_sub hl [] rfl)
      · have h := (if_neg q14).mp h
        refine lv_aload_n hx hb dX0_clearBelow_28 rfl (lv_at hl 0 rfl) ?_
        refine va_get (D := G) (ci := 0) (v := .ref t_rules_a) (C := RX0) (T := TX0) (N := 3) hx hb hts inC0 hown hK.1 hP 0 rfl rfl 2 (by decide) (hts _ (List.mem_cons_of_mem _ u4)) (fun _ h9 => h9) rfl dX0_clearBelow_29 ?_
        refine lv_iload hx hb dX0_clearBelow_32 (lv_at hl 5 rfl) ?_
        obtain ⟨i6, h⟩ := h
        obtain ⟨y7, hey7, hLy7, h⟩ := h
        refine zw_ald (y := y7) hx hb hK.1 hP 1 3 rfl rfl i6 hey7 dX0_clearBelow_34 ?_
        refine lv_astore (lv' := [(7, .ref y7), (0, .ref t_h), (2, .int p2), (3, .int p3), (4, .ref y2), (5, .int (t_rows y2 p2.toNatClampNeg)), (6, .int x19_6)]) hx hb dX0_clearBelow_35 hl (by decide) rfl (fun ls hl => ?_)
        refine lv_aload hx hb dX0_clearBelow_37 (lv_at hl 0 rfl) ?_
        refine lv_iload_n hx hb dX0_clearBelow_39 rfl (lv_at hl 2 rfl) ?_
        refine zw_rld hx hb hK.1 hP 0 rfl hLy7 i3 dX0_clearBelow_40 ?_
        refine lv_istore (lv' := [(8, .int (t_rows__19 y7 p2.toNatClampNeg)), (7, .ref y7), (0, .ref t_h), (2, .int p2), (3, .int p3), (4, .ref y2), (5, .int (t_rows y2 p2.toNatClampNeg)), (6, .int x19_6)]) hx hb dX0_clearBelow_41 hl (by decide) rfl (fun ls hl => ?_)
        refine lv_iload hx hb dX0_clearBelow_43 (lv_at hl 0 rfl) ?_
        refine lv_iload_n hx hb dX0_clearBelow_45 rfl (lv_at hl 4 rfl) ?_
        obtain ⟨z8, h⟩ := h
        refine lv_iremJ hx hb dX0_clearBelow_46 z8 ?_
        refine lv_if_eq (tgt := 92) hx hb dX0_clearBelow_47 (by decide) (fun q13 => ?_) (fun q13 => ?_)
        · have h := (if_pos q13).mp h
          refine lv_iinc (v := (x19_6 + (1 : Int32))) (lv' := [(6, .int (x19_6 + (1 : Int32))), (8, .int (t_rows__19 y7 p2.toNatClampNeg)), (7, .ref y7), (0, .ref t_h), (2, .int p2), (3, .int p3), (4, .ref y2), (5, .int (t_rows y2 p2.toNatClampNeg))]) hx hb dX0_clearBelow_92 hl (k := 7) rfl rfl (by decide) rfl (fun ls hl => ?_)
          refine lv_goto (tgt := 19) hx hb dX0_clearBelow_95 (by decide) ?_
          exact ih (x19_6 + (1 : Int32)) t_rows__19 _ _ _ h hP hD hS (lv_sub hl [3, 4, 5, 6, 7, 0] rfl)
        · have h := (if_neg q13).mp h
          refine lv_iload_n hx hb dX0_clearBelow_50 rfl (lv_at hl 3 rfl) ?_
          refine lv_istore (lv' := [(9, .int p2), (8, .int (t_rows__19 y7 p2.toNatClampNeg)), (7, .ref y7), (0, .ref t_h), (2, .int p2), (3, .int p3), (4, .ref y2), (5, .int (t_rows y2 p2.toNatClampNeg)), (6, .int x19_6)]) hx hb dX0_clearBelow_51 hl (by decide) rfl (fun ls hl => ?_)
          have X9 : ∀ (t_rows__92 : Nat → Nat → Int32) (H : Heap) (locs : List Loc) (ls : Array Slot), wX0_clearBelow_X92 R19 x19_6 t_rows__92 → va_P G vwCl (((t_h, .inr (0, [.int t_width, .int t_height, .ref t_rules_a])) :: (t_rules_a, .inl (cJ, 60, .inr (.inr (.inr (.inr t_rules))))) :: E) ++ va_pl L (fun q => .inl (cI, 96, .inl (t_rows__92 q)))) H → va_D A (((t_h, .inr (0, [.int t_width, .int t_height, .ref t_rules_a])) :: (t_rules_a, .inl (cJ, 60, .inr (.inr (.inr (.inr t_rules))))) :: E) ++ va_pl L (fun q => .inl (cI, 96, .inl (t_rows__92 q)))) → va_S A s.heap H locs → lv_has ls 10 [(0, .ref t_h), (2, .int p2), (3, .int p3), (4, .ref y2), (5, .int (t_rows y2 p2.toNatClampNeg)), (6, .int x19_6)] → W p l e (headSpec wsX0_clearBelow rmX0_clearBelow).room s m args below meth c H locs 0 0 (MQ below (va_Qv (fun (u : (Nat → Nat → Int32)) => Q u) (fun (u : (Nat → Nat → Int32)) t => va_P G vwCl (((t_h, .inr (0, [.int t_width, .int t_height, .ref t_rules_a])) :: (t_rules_a, .inl (cJ, 60, .inr (.inr (.inr (.inr t_rules))))) :: E) ++ va_pl L (fun q => .inl (cI, 96, .inl (u q)))) t.heap ∧ va_D A (((t_h, .inr (0, [.int t_width, .int t_height, .ref t_rules_a])) :: (t_rules_a, .inl (cJ, 60, .inr (.inr (.inr (.inr t_rules))))) :: E) ++ va_pl L (fun q => .inl (cI, 96, .inl (u q))))) A) args s 0 0 A) (F0 m 92 ls []) := by
            intro t_rows__92 H locs ls h hP hD hS hl
            unfold wX0_clearBelow_X92 at h
            refine lv_iinc (v := (x19_6 + (1 : Int32))) (lv' := [(6, .int (x19_6 + (1 : Int32))), (0, .ref t_h), (2, .int p2), (3, .int p3), (4, .ref y2), (5, .int (t_rows y2 p2.toNatClampNeg))]) hx hb dX0_clearBelow_92 hl (k := 5) rfl rfl (by decide) rfl (fun ls hl => ?_)
            refine lv_goto (tgt := 19) hx hb dX0_clearBelow_95 (by decide) ?_
            exact ih (x19_6 + (1 : Int32)) t_rows__92 _ _ _ h hP hD hS (lv_sub hl [1, 2, 3, 4, 5, 0] rfl)
          obtain ⟨K53, hK53⟩ : ∃ f : (Nat → Nat → Int32) → Prop, f = (wX0_clearBelow_X92 R19 x19_6) := ⟨_, rfl⟩
          replace X9 : ∀ (t_rows__92 : Nat → Nat → Int32) (H : Heap) (locs : List Loc) (ls : Array Slot), K53 t_rows__92 → va_P G vwCl (((t_h, .inr (0, [.int t_width, .int t_height, .ref t_rules_a])) :: (t_rules_a, .inl (cJ, 60, .inr (.inr (.inr (.inr t_rules))))) :: E) ++ va_pl L (fun q => .inl (cI, 96, .inl (t_rows__92 q)))) H → va_D A (((t_h, .inr (0, [.int t_width, .int t_height, .ref t_rules_a])) :: (t_rules_a, .inl (cJ, 60, .inr (.inr (.inr (.inr t_rules))))) :: E) ++ va_pl L (fun q => .inl (cI, 96, .inl (t_rows__92 q)))) → va_S A s.heap H locs → lv_has ls 10 [(0, .ref t_h), (2, .int p2), (3, .int p3), (4, .ref y2), (5, .int (t_rows y2 p2.toNatClampNeg)), (6, .int x19_6)] → W p l e (headSpec wsX0_clearBelow rmX0_clearBelow).room s m args below meth c H locs 0 0 (MQ below (va_Qv (fun (u : (Nat → Nat → Int32)) => Q u) (fun (u : (Nat → Nat → Int32)) t => va_P G vwCl (((t_h, .inr (0, [.int t_width, .int t_height, .ref t_rules_a])) :: (t_rules_a, .inl (cJ, 60, .inr (.inr (.inr (.inr t_rules))))) :: E) ++ va_pl L (fun q => .inl (cI, 96, .inl (u q)))) t.heap ∧ va_D A (((t_h, .inr (0, [.int t_width, .int t_height, .ref t_rules_a])) :: (t_rules_a, .inl (cJ, 60, .inr (.inr (.inr (.inr t_rules))))) :: E) ++ va_pl L (fun q => .inl (cI, 96, .inl (u q))))) A) args s 0 0 A) (F0 m 92 ls []) := by rw [hK53]; exact X9
          have R10 : ∀ (n : Nat) (x53_9 : Int32) (t_rows__53 : Nat → Nat → Int32) (H : Heap) (locs : List Loc) (ls : Array Slot), lX0_clearBelow_53 t_width t_rows p2 p3 y2 t_rows__19 y7 K53 n x53_9 t_rows__53 → va_P G vwCl (((t_h, .inr (0, [.int t_width, .int t_height, .ref t_rules_a])) :: (t_rules_a, .inl (cJ, 60, .inr (.inr (.inr (.inr t_rules))))) :: E) ++ va_pl L (fun q => .inl (cI, 96, .inl (t_rows__53 q)))) H → va_D A (((t_h, .inr (0, [.int t_width, .int t_height, .ref t_rules_a])) :: (t_rules_a, .inl (cJ, 60, .inr (.inr (.inr (.inr t_rules))))) :: E) ++ va_pl L (fun q => .inl (cI, 96, .inl (t_rows__53 q)))) → va_S A s.heap H locs → lv_has ls 10 [(0, .ref t_h), (2, .int p2), (3, .int p3), (4, .ref y2), (5, .int (t_rows y2 p2.toNatClampNeg)), (6, .int x19_6), (7, .ref y7), (8, .int (t_rows__19 y7 p2.toNatClampNeg)), (9, .int x53_9)] → W p l e (headSpec wsX0_clearBelow rmX0_clearBelow).room s m args below meth c H locs 0 0 (MQ below (va_Qv (fun (u : (Nat → Nat → Int32)) => Q u) (fun (u : (Nat → Nat → Int32)) t => va_P G vwCl (((t_h, .inr (0, [.int t_width, .int t_height, .ref t_rules_a])) :: (t_rules_a, .inl (cJ, 60, .inr (.inr (.inr (.inr t_rules))))) :: E) ++ va_pl L (fun q => .inl (cI, 96, .inl (u q)))) t.heap ∧ va_D A (((t_h, .inr (0, [.int t_width, .int t_height, .ref t_rules_a])) :: (t_rules_a, .inl (cJ, 60, .inr (.inr (.inr (.inr t_rules))))) :: E) ++ va_pl L (fun q => .inl (cI, 96, .inl (u q))))) A) args s 0 0 A) (F0 m 53 ls []) := by
            intro n
            induction n with
            | zero => intro x53_9 t_rows__53 H locs ls h; exact False.elim h
            | succ n ih =>
              obtain ⟨R53, hR53⟩ : ∃ f : Int32 → (Nat → Nat → Int32) → Prop, f = (fun x53_9 t_rows__53 => lX0_clearBelow_53 t_width t_rows p2 p3 y2 t_rows__19 y7 K53 n x53_9 t_rows__53) := ⟨_, rfl⟩
              replace ih : ∀ (x53_9 : Int32) (t_rows__53 : Nat → Nat → Int32) (H : Heap) (locs : List Loc) (ls : Array Slot), R53 x53_9 t_rows__53 → va_P G vwCl (((t_h, .inr (0, [.int t_width, .int t_height, .ref t_rules_a])) :: (t_rules_a, .inl (cJ, 60, .inr (.inr (.inr (.inr t_rules))))) :: E) ++ va_pl L (fun q => .inl (cI, 96, .inl (t_rows__53 q)))) H → va_D A (((t_h, .inr (0, [.int t_width, .int t_height, .ref t_rules_a])) :: (t_rules_a, .inl (cJ, 60, .inr (.inr (.inr (.inr t_rules))))) :: E) ++ va_pl L (fun q => .inl (cI, 96, .inl (t_rows__53 q)))) → va_S A s.heap H locs → lv_has ls 10 [(0, .ref t_h), (2, .int p2), (3, .int p3), (4, .ref y2), (5, .int (t_rows y2 p2.toNatClampNeg)), (6, .int x19_6), (7, .ref y7), (8, .int (t_rows__19 y7 p2.toNatClampNeg)), (9, .int x53_9)] → W p l e (headSpec wsX0_clearBelow rmX0_clearBelow).room s m args below meth c H locs 0 0 (MQ below (va_Qv (fun (u : (Nat → Nat → Int32)) => Q u) (fun (u : (Nat → Nat → Int32)) t => va_P G vwCl (((t_h, .inr (0, [.int t_width, .int t_height, .ref t_rules_a])) :: (t_rules_a, .inl (cJ, 60, .inr (.inr (.inr (.inr t_rules))))) :: E) ++ va_pl L (fun q => .inl (cI, 96, .inl (u q)))) t.heap ∧ va_D A (((t_h, .inr (0, [.int t_width, .int t_height, .ref t_rules_a])) :: (t_rules_a, .inl (cJ, 60, .inr (.inr (.inr (.inr t_rules))))) :: E) ++ va_pl L (fun q => .inl (cI, 96, .inl (u q))))) A) args s 0 0 A) (F0 m 53 ls []) := by rw [hR53]; exact ih
              intro x53_9 t_rows__53 H locs ls h hP hD hS hl
              have h : bX0_clearBelow_53 t_width t_rows p2 p3 y2 t_rows__19 y7 K53 R53 x53_9 t_rows__53 := by rw [hR53]; exact h
              clear hR53
              unfold bX0_clearBelow_53 at h
              refine lv_iload hx hb dX0_clearBelow_53 (lv_at hl 8 rfl) ?_
              refine lv_aload_n hx hb dX0_clearBelow_55 rfl (lv_at hl 0 rfl) ?_
              refine va_get (D := G) (ci := 0) (v := .int t_width) (C := RX0) (T := TX0) (N := 3) hx hb hts inC0 hown hK.1 hP 0 rfl rfl 0 (by decide) (hts _ (List.mem_cons_of_mem _ u6)) (fun _ h9 => h9) rfl dX0_clearBelow_56 ?_
              refine lv_icmp_ge (tgt := 92) hx hb dX0_clearBelow_59 (by decide) (fun q12 => ?_) (fun q12 => ?_)
              · have h := (if_pos q12).mp h
                exact X9 t_rows__53 _ _ _ h hP hD hS (lv_sub hl [0, 1, 2, 3, 4, 5] rfl)
              · have h := (if_neg q12).mp h
                refine lv_aload hx hb dX0_clearBelow_62 (lv_at hl 6 rfl) ?_
                refine lv_iload hx hb dX0_clearBelow_64 (lv_at hl 8 rfl) ?_
                refine lv_aload hx hb dX0_clearBelow_66 (lv_at hl 6 rfl) ?_
                refine lv_iload hx hb dX0_clearBelow_68 (lv_at hl 8 rfl) ?_
                obtain ⟨i11, h⟩ := h
                refine zw_rld hx hb hK.1 hP 0 rfl hLy7 i11 dX0_clearBelow_70 ?_
                refine lv_iload hx hb dX0_clearBelow_71 (lv_at hl 4 rfl) ?_
                refine lv_imul hx hb dX0_clearBelow_73 ?_
                refine lv_aload hx hb dX0_clearBelow_74 (lv_at hl 3 rfl) ?_
                refine lv_iload hx hb dX0_clearBelow_76 (lv_at hl 8 rfl) ?_
                refine zw_rld hx hb hK.1 hP 0 rfl hLy2 i11 dX0_clearBelow_78 ?_
                refine lv_iload hx hb dX0_clearBelow_79 (lv_at hl 7 rfl) ?_
                refine lv_imul hx hb dX0_clearBelow_81 ?_
                refine lv_isub hx hb dX0_clearBelow_82 ?_
                refine lv_iload_n hx hb dX0_clearBelow_83 rfl (lv_at hl 2 rfl) ?_
                refine lv_iremJ hx hb dX0_clearBelow_84 z8 ?_
                refine zw_rst hx hb hK.1 hP hD hS 0 rfl hLy7 i11 dX0_clearBelow_85 (fun H locs hP hD hS => ?_)
                have hP : va_P G vwCl (((t_h, .inr (0, [.int t_width, .int t_height, .ref t_rules_a])) :: (t_rules_a, .inl (cJ, 60, .inr (.inr (.inr (.inr t_rules))))) :: E) ++ va_pl L (fun q => .inl (cI, 96, .inl ((va_up t_rows__53 y7 (upd (t_rows__53 y7) x53_9.toNatClampNeg (jr (((t_rows__53 y7 x53_9.toNatClampNeg) * (t_rows y2 p2.toNatClampNeg)) - ((t_rows__53 y2 x53_9.toNatClampNeg) * (t_rows__19 y7 p2.toNatClampNeg))) p3))) q)))) H := hP
                have hD : va_D A (((t_h, .inr (0, [.int t_width, .int t_height, .ref t_rules_a])) :: (t_rules_a, .inl (cJ, 60, .inr (.inr (.inr (.inr t_rules))))) :: E) ++ va_pl L (fun q => .inl (cI, 96, .inl ((va_up t_rows__53 y7 (upd (t_rows__53 y7) x53_9.toNatClampNeg (jr (((t_rows__53 y7 x53_9.toNatClampNeg) * (t_rows y2 p2.toNatClampNeg)) - ((t_rows__53 y2 x53_9.toNatClampNeg) * (t_rows__19 y7 p2.toNatClampNeg))) p3))) q)))) := hD
                refine lv_iinc (v := (x53_9 + (1 : Int32))) (lv' := [(9, .int (x53_9 + (1 : Int32))), (0, .ref t_h), (2, .int p2), (3, .int p3), (4, .ref y2), (5, .int (t_rows y2 p2.toNatClampNeg)), (6, .int x19_6), (7, .ref y7), (8, .int (t_rows__19 y7 p2.toNatClampNeg))]) hx hb dX0_clearBelow_86 hl (k := 8) rfl rfl (by decide) rfl (fun ls hl => ?_)
                refine lv_goto (tgt := 53) hx hb dX0_clearBelow_89 (by decide) ?_
                exact ih (x53_9 + (1 : Int32)) (va_up t_rows__53 y7 (upd (t_rows__53 y7) x53_9.toNatClampNeg (jr (((t_rows__53 y7 x53_9.toNatClampNeg) * (t_rows y2 p2.toNatClampNeg)) - ((t_rows__53 y2 x53_9.toNatClampNeg) * (t_rows__19 y7 p2.toNatClampNeg))) p3))) _ _ _ h hP hD hS (lv_sub hl [1, 2, 3, 4, 5, 6, 7, 8, 0] rfl)
          exact R10 FU p2 t_rows__19 _ _ _ (by rw [hK53]; exact h) hP hD hS (lv_sub hl [3, 4, 5, 6, 7, 8, 2, 1, 0] rfl)
  exact R5 FU (p1 + (1 : Int32)) t_rows _ _ _ (by rw [hK19]; exact h) hP hD hS (lv_sub hl [3, 5, 6, 2, 1, 0] rfl)
abbrev rmX5_at : Room := ({ frames := 0, cells := 0, slots := 0, locals := 0 } : Room)
set_option maxHeartbeats 4000000 in
set_option maxRecDepth 100000 in
theorem kX5_at {l : Launch} {G : va_G} {cI cZ cP cJ : ClassId} {ws : va_W} (k_a : Nat) (a_h : Nat) (a_n : Nat) (a_f : Nat → Int32) (e_a : ws[k_a]? = some (a_h, .inl (cI, a_n, .inl a_f))) (p2 : Int32) {Q : Int32 → Prop} (h : wX5_at a_n a_f p2 Q) (sz : Nat) : Met l yX5_at wsX5_at rmX5_at (va_Pc [.ref a_h, .int p2] (pB G [(cI, .int), (cZ, .boolean), (cP, .object RX3), (cJ, .array .int)] ws sz)) (va_Qi (fun (r : Int32) (u : Unit) => Q r) (fun (_ : Unit) t => va_P G vwCl ws t.heap) (va_A ws sz)) 0 0 (va_A ws sz) := by
  refine Met.ofW (cc := cX5_at) (maxL := 2) (ret := (some .int)) (by decide) rfl ?_
  intro p e s m args below meth c s₁ B hml hv
  obtain ⟨hargs, hsz, hP, hK, hD0⟩ := hv
  have hx := B.exec
  have hb := B.bytes
  have hr := B.returns
  have hts := atoms_spec (ws := wsX5_at) B.pre
  have hown : s.vm.findClass RX5 = some m.cls := findClass_of_methodNamed B.named
  have hlocks := B.notSynchronized
  subst hsz
  have hD := hD0.self (sz := s.heap.size)
  generalize hAe : va_A ws s.heap.size = A at hD ⊢
  have hA : ∀ q : Nat, s.heap.size ≤ q → A q := fun q h => by rw [← hAe]; exact Or.inr h
  have hS : va_S A s.heap s.heap [] := va_S.rf
  have hl := lv_entry ([.ref a_h, .int p2]) (n := 2) (Nat.le_of_ble_eq_true rfl)
  rw [show entryFrame m args 2 = entryFrame m ([.ref a_h, .int p2] : List Value).toArray 2 by rw [hargs], lg_entry_eq]
  generalize (lg_sl ([.ref a_h, .int p2]) ++ List.replicate (2 - (lg_sl ([.ref a_h, .int p2])).length) Slot.unset).toArray = ls at hl ⊢
  have hl : lv_has ls 2 [(0, .ref a_h), (1, .int p2)] := hl
  unfold wX5_at at h
  suffices hM : ∀ (H : Heap) (locs : List Loc), va_P G vwCl ws H → va_S A s.heap H locs → W p l e (headSpec wsX5_at rmX5_at).room s m args below meth c H locs 0 0 (MQ below (va_Qi (fun (r : Int32) (u : Unit) => Q r) (fun (_ : Unit) t => va_P G vwCl ws t.heap) A) args s 0 0 A) (F0 m 0 ls []) from hM _ _ hP hS
  clear hP hS
  intro H locs hP hS
  refine lv_iload_n hx hb dX5_at_0 rfl (lv_at hl 1 rfl) ?_
  refine lv_if_lt (tgt := 16) hx hb dX5_at_1 (by decide) (fun q3 => ?_) (fun q3 => ?_)
  · have h := (if_pos q3).mp h
    refine lv_bipush (v := (-9 : Int32)) hx hb dX5_at_16 (by decide) ?_
    exact W.iret (v := (-9 : Int32)) hx hb hr (fun t ht hW => ⟨⟨(-9 : Int32), (), rfl, h, by show va_P G vwCl ws t.heap; rw [ht]; exact hP⟩, hS.F ht⟩) hS.2.2 dX5_at_18
  · have h := (if_neg q3).mp h
    refine lv_iload_n hx hb dX5_at_4 rfl (lv_at hl 1 rfl) ?_
    refine lv_aload_n hx hb dX5_at_5 rfl (lv_at hl 0 rfl) ?_
    refine va_alen (v := (nI a_n)) hx hb hK.1 hP k_a 0 e_a rfl rfl dX5_at_6 ?_
    refine lv_icmp_ge (tgt := 16) hx hb dX5_at_7 (by decide) (fun q2 => ?_) (fun q2 => ?_)
    · have h := (if_pos q2).mp h
      refine lv_bipush (v := (-9 : Int32)) hx hb dX5_at_16 (by decide) ?_
      exact W.iret (v := (-9 : Int32)) hx hb hr (fun t ht hW => ⟨⟨(-9 : Int32), (), rfl, h, by show va_P G vwCl ws t.heap; rw [ht]; exact hP⟩, hS.F ht⟩) hS.2.2 dX5_at_18
    · have h := (if_neg q2).mp h
      refine lv_aload_n hx hb dX5_at_10 rfl (lv_at hl 0 rfl) ?_
      refine lv_iload_n hx hb dX5_at_11 rfl (lv_at hl 1 rfl) ?_
      obtain ⟨i1, h⟩ := h
      refine va_iald hx hb hK.1 hP k_a 0 e_a rfl i1 dX5_at_12 ?_
      refine lv_goto (tgt := 18) hx hb dX5_at_13 (by decide) ?_
      exact W.iret (v := (a_f p2.toNatClampNeg)) hx hb hr (fun t ht hW => ⟨⟨(a_f p2.toNatClampNeg), (), rfl, h, by show va_P G vwCl ws t.heap; rw [ht]; exact hP⟩, hS.F ht⟩) hS.2.2 dX5_at_18
abbrev rmX1_overAt : Room := ({ frames := 1, cells := 0, slots := 0, locals := 21 } : Room)
set_option maxHeartbeats 4000000 in
set_option maxRecDepth 100000 in
theorem kX1_overAt {l : Launch} {G : va_G} {cI cZ cP cJ : ClassId} {ws : va_W} (k_t : Nat) (k_t_overs : Nat) (t_h : Nat) (t_passes_a : Nat) (t_arcsBySteps_a : Nat) (t_overs_a : Nat) (t_unders_a : Nat) (t_tied_a : Nat) (t_groups_a : Nat) (t_arcs : Int32) (t_ties : Int32) (t_overs : Nat → Int32) (e_t : ws[k_t]? = some (t_h, .inr (1, [.int t_arcs, .int t_ties, .ref t_passes_a, .ref t_arcsBySteps_a, .ref t_overs_a, .ref t_unders_a, .ref t_tied_a, .ref t_groups_a]))) (e_t_overs : ws[k_t_overs]? = some (t_overs_a, .inl (cI, 60, .inl t_overs))) (p1 : Int32) {Q : Int32 → Prop} (h : wX1_overAt t_overs p1 Q) (sz : Nat) : Met l yX1_overAt wsX1_overAt rmX1_overAt (va_Pc [.ref t_h, .int p1] (pB G [(cI, .int), (cZ, .boolean), (cP, .object RX3), (cJ, .array .int)] ws sz)) (va_Qi (fun (r : Int32) (u : Unit) => Q r) (fun (_ : Unit) t => va_P G vwCl ws t.heap) (va_A ws sz)) 0 0 (va_A ws sz) := by
  refine Met.ofW (cc := cX1_overAt) (maxL := 2) (ret := (some .int)) (by decide) rfl ?_
  intro p e s m args below meth c s₁ B hml hv
  obtain ⟨hargs, hsz, hP, hK, hD0⟩ := hv
  have hx := B.exec
  have hb := B.bytes
  have hr := B.returns
  have hts := atoms_spec (ws := wsX1_overAt) B.pre
  have hown : s.vm.findClass RX1 = some m.cls := findClass_of_methodNamed B.named
  have hlocks := B.notSynchronized
  subst hsz
  have hD := hD0.self (sz := s.heap.size)
  generalize hAe : va_A ws s.heap.size = A at hD ⊢
  have hA : ∀ q : Nat, s.heap.size ≤ q → A q := fun q h => by rw [← hAe]; exact Or.inr h
  have hS : va_S A s.heap s.heap [] := va_S.rf
  have hl := lv_entry ([.ref t_h, .int p1]) (n := 2) (Nat.le_of_ble_eq_true rfl)
  rw [show entryFrame m args 2 = entryFrame m ([.ref t_h, .int p1] : List Value).toArray 2 by rw [hargs], lg_entry_eq]
  generalize (lg_sl ([.ref t_h, .int p1]) ++ List.replicate (2 - (lg_sl ([.ref t_h, .int p1])).length) Slot.unset).toArray = ls at hl ⊢
  have hl : lv_has ls 2 [(0, .ref t_h), (1, .int p1)] := hl
  unfold wX1_overAt at h
  suffices hM : ∀ (H : Heap) (locs : List Loc), va_P G vwCl ws H → va_S A s.heap H locs → W p l e (headSpec wsX1_overAt rmX1_overAt).room s m args below meth c H locs 0 0 (MQ below (va_Qi (fun (r : Int32) (u : Unit) => Q r) (fun (_ : Unit) t => va_P G vwCl ws t.heap) A) args s 0 0 A) (F0 m 0 ls []) from hM _ _ hP hS
  clear hP hS
  intro H locs hP hS
  refine lv_aload_n hx hb dX1_overAt_0 rfl (lv_at hl 0 rfl) ?_
  refine va_get (D := G) (ci := 1) (v := .ref t_overs_a) (C := RX1) (T := TX1) (N := 8) hx hb hts inC1 hown hK.1 hP k_t e_t rfl 4 (by decide) (hts _ (List.mem_cons_of_mem _ u7)) (fun _ h9 => h9) rfl dX1_overAt_1 ?_
  refine lv_iload_n hx hb dX1_overAt_4 rfl (lv_at hl 1 rfl) ?_
  refine rdi (va_runSN (As := [.ref t_overs_a, .int p1]) (rest := []) ⟨hx, hb, hml, hown, hts⟩ (kX5_at (ws := ws) k_t_overs t_overs_a 60 t_overs e_t_overs p1 h _) ⟨va_cnB 2 hts (gIn (aN u8)) rfl rfl rfl (hK.2.2.1 _ (List.mem_of_getElem? (i := 23) rfl)) (hts _ (List.mem_cons_of_mem _ u2)) (by decide +kernel) ⟨Nat.le_of_ble_eq_true rfl, Nat.le_of_ble_eq_true rfl⟩, (hts _ (List.mem_cons_of_mem _ u9)), trivial⟩ (pS hK hP hD) rfl rfl hl.1 rfl (lv_room (Nat.le_of_ble_eq_true rfl)) dX1_overAt_5 ⟨Nat.zero_le _, Nat.zero_le _⟩) hP hS hA hD (fun r5 H locs h hP hS => ?_)
  exact W.iret (v := r5) hx hb hr (fun t ht hW => ⟨⟨r5, (), rfl, h, by show va_P G vwCl ws t.heap; rw [ht]; exact hP⟩, hS.F ht⟩) hS.2.2 dX1_overAt_8
abbrev rmX1_underAt : Room := ({ frames := 1, cells := 0, slots := 0, locals := 21 } : Room)
set_option maxHeartbeats 4000000 in
set_option maxRecDepth 100000 in
theorem kX1_underAt {l : Launch} {G : va_G} {cI cZ cP cJ : ClassId} {ws : va_W} (k_t : Nat) (k_t_unders : Nat) (t_h : Nat) (t_passes_a : Nat) (t_arcsBySteps_a : Nat) (t_overs_a : Nat) (t_unders_a : Nat) (t_tied_a : Nat) (t_groups_a : Nat) (t_arcs : Int32) (t_ties : Int32) (t_unders : Nat → Int32) (e_t : ws[k_t]? = some (t_h, .inr (1, [.int t_arcs, .int t_ties, .ref t_passes_a, .ref t_arcsBySteps_a, .ref t_overs_a, .ref t_unders_a, .ref t_tied_a, .ref t_groups_a]))) (e_t_unders : ws[k_t_unders]? = some (t_unders_a, .inl (cI, 60, .inl t_unders))) (p1 : Int32) {Q : Int32 → Prop} (h : wX1_underAt t_unders p1 Q) (sz : Nat) : Met l yX1_underAt wsX1_underAt rmX1_underAt (va_Pc [.ref t_h, .int p1] (pB G [(cI, .int), (cZ, .boolean), (cP, .object RX3), (cJ, .array .int)] ws sz)) (va_Qi (fun (r : Int32) (u : Unit) => Q r) (fun (_ : Unit) t => va_P G vwCl ws t.heap) (va_A ws sz)) 0 0 (va_A ws sz) := by
  refine Met.ofW (cc := cX1_underAt) (maxL := 2) (ret := (some .int)) (by decide) rfl ?_
  intro p e s m args below meth c s₁ B hml hv
  obtain ⟨hargs, hsz, hP, hK, hD0⟩ := hv
  have hx := B.exec
  have hb := B.bytes
  have hr := B.returns
  have hts := atoms_spec (ws := wsX1_underAt) B.pre
  have hown : s.vm.findClass RX1 = some m.cls := findClass_of_methodNamed B.named
  have hlocks := B.notSynchronized
  subst hsz
  have hD := hD0.self (sz := s.heap.size)
  generalize hAe : va_A ws s.heap.size = A at hD ⊢
  have hA : ∀ q : Nat, s.heap.size ≤ q → A q := fun q h => by rw [← hAe]; exact Or.inr h
  have hS : va_S A s.heap s.heap [] := va_S.rf
  have hl := lv_entry ([.ref t_h, .int p1]) (n := 2) (Nat.le_of_ble_eq_true rfl)
  rw [show entryFrame m args 2 = entryFrame m ([.ref t_h, .int p1] : List Value).toArray 2 by rw [hargs], lg_entry_eq]
  generalize (lg_sl ([.ref t_h, .int p1]) ++ List.replicate (2 - (lg_sl ([.ref t_h, .int p1])).length) Slot.unset).toArray = ls at hl ⊢
  have hl : lv_has ls 2 [(0, .ref t_h), (1, .int p1)] := hl
  unfold wX1_underAt at h
  suffices hM : ∀ (H : Heap) (locs : List Loc), va_P G vwCl ws H → va_S A s.heap H locs → W p l e (headSpec wsX1_underAt rmX1_underAt).room s m args below meth c H locs 0 0 (MQ below (va_Qi (fun (r : Int32) (u : Unit) => Q r) (fun (_ : Unit) t => va_P G vwCl ws t.heap) A) args s 0 0 A) (F0 m 0 ls []) from hM _ _ hP hS
  clear hP hS
  intro H locs hP hS
  refine lv_aload_n hx hb dX1_underAt_0 rfl (lv_at hl 0 rfl) ?_
  refine va_get (D := G) (ci := 1) (v := .ref t_unders_a) (C := RX1) (T := TX1) (N := 8) hx hb hts inC1 hown hK.1 hP k_t e_t rfl 5 (by decide) (hts _ (List.mem_cons_of_mem _ u10)) (fun _ h9 => h9) rfl dX1_underAt_1 ?_
  refine lv_iload_n hx hb dX1_underAt_4 rfl (lv_at hl 1 rfl) ?_
  refine rdi (va_runSN (As := [.ref t_unders_a, .int p1]) (rest := []) ⟨hx, hb, hml, hown, hts⟩ (kX5_at (ws := ws) k_t_unders t_unders_a 60 t_unders e_t_unders p1 h _) ⟨va_cnB 2 hts (gIn (aN u8)) rfl rfl rfl (hK.2.2.1 _ (List.mem_of_getElem? (i := 23) rfl)) (hts _ (List.mem_cons_of_mem _ u2)) (by decide +kernel) ⟨Nat.le_of_ble_eq_true rfl, Nat.le_of_ble_eq_true rfl⟩, (hts _ (List.mem_cons_of_mem _ u9)), trivial⟩ (pS hK hP hD) rfl rfl hl.1 rfl (lv_room (Nat.le_of_ble_eq_true rfl)) dX1_underAt_5 ⟨Nat.zero_le _, Nat.zero_le _⟩) hP hS hA hD (fun r5 H locs h hP hS => ?_)
  exact W.iret (v := r5) hx hb hr (fun t ht hW => ⟨⟨r5, (), rfl, h, by show va_P G vwCl ws t.heap; rw [ht]; exact hP⟩, hS.F ht⟩) hS.2.2 dX1_underAt_8
abbrev rmX1_isHere : Room := ({ frames := 2, cells := 0, slots := 0, locals := 42 } : Room)
set_option maxHeartbeats 4000000 in
set_option maxRecDepth 100000 in
theorem kX1_isHere {l : Launch} {G : va_G} {cI cZ cP cJ : ClassId} {ws : va_W} (k_t : Nat) (k_t_overs : Nat) (k_t_unders : Nat) (t_h : Nat) (t_passes_a : Nat) (t_arcsBySteps_a : Nat) (t_overs_a : Nat) (t_unders_a : Nat) (t_tied_a : Nat) (t_groups_a : Nat) (t_arcs : Int32) (t_ties : Int32) (t_overs : Nat → Int32) (t_unders : Nat → Int32) (e_t : ws[k_t]? = some (t_h, .inr (1, [.int t_arcs, .int t_ties, .ref t_passes_a, .ref t_arcsBySteps_a, .ref t_overs_a, .ref t_unders_a, .ref t_tied_a, .ref t_groups_a]))) (e_t_overs : ws[k_t_overs]? = some (t_overs_a, .inl (cI, 60, .inl t_overs))) (e_t_unders : ws[k_t_unders]? = some (t_unders_a, .inl (cI, 60, .inl t_unders))) (p1 : Int32) {Q : Int32 → Prop} (h : wX1_isHere t_overs t_unders p1 Q) (sz : Nat) : Met l yX1_isHere wsX1_isHere rmX1_isHere (va_Pc [.ref t_h, .int p1] (pB G [(cI, .int), (cZ, .boolean), (cP, .object RX3), (cJ, .array .int)] ws sz)) (va_Qi (fun (r : Int32) (u : Unit) => Q r) (fun (_ : Unit) t => va_P G vwCl ws t.heap) (va_A ws sz)) 0 0 (va_A ws sz) := by
  refine Met.ofW (cc := cX1_isHere) (maxL := 2) (ret := (some .boolean)) (by decide) rfl ?_
  intro p e s m args below meth c s₁ B hml hv
  obtain ⟨hargs, hsz, hP, hK, hD0⟩ := hv
  have hx := B.exec
  have hb := B.bytes
  have hr := B.returns
  have hts := atoms_spec (ws := wsX1_isHere) B.pre
  have hown : s.vm.findClass RX1 = some m.cls := findClass_of_methodNamed B.named
  have hlocks := B.notSynchronized
  subst hsz
  have hD := hD0.self (sz := s.heap.size)
  generalize hAe : va_A ws s.heap.size = A at hD ⊢
  have hA : ∀ q : Nat, s.heap.size ≤ q → A q := fun q h => by rw [← hAe]; exact Or.inr h
  have hS : va_S A s.heap s.heap [] := va_S.rf
  have hl := lv_entry ([.ref t_h, .int p1]) (n := 2) (Nat.le_of_ble_eq_true rfl)
  rw [show entryFrame m args 2 = entryFrame m ([.ref t_h, .int p1] : List Value).toArray 2 by rw [hargs], lg_entry_eq]
  generalize (lg_sl ([.ref t_h, .int p1]) ++ List.replicate (2 - (lg_sl ([.ref t_h, .int p1])).length) Slot.unset).toArray = ls at hl ⊢
  have hl : lv_has ls 2 [(0, .ref t_h), (1, .int p1)] := hl
  unfold wX1_isHere at h
  suffices hM : ∀ (H : Heap) (locs : List Loc), va_P G vwCl ws H → va_S A s.heap H locs → W p l e (headSpec wsX1_isHere rmX1_isHere).room s m args below meth c H locs 0 0 (MQ below (va_Qi (fun (r : Int32) (u : Unit) => Q r) (fun (_ : Unit) t => va_P G vwCl ws t.heap) A) args s 0 0 A) (F0 m 0 ls []) from hM _ _ hP hS
  clear hP hS
  intro H locs hP hS
  refine lv_aload_n hx hb dX1_isHere_0 rfl (lv_at hl 0 rfl) ?_
  refine lv_iload_n hx hb dX1_isHere_1 rfl (lv_at hl 1 rfl) ?_
  refine rdi (va_runV (As := [.int p1]) (rest := []) ⟨hx, hb, hml, hown, hts⟩ (kX1_overAt (ws := ws) k_t k_t_overs t_h t_passes_a t_arcsBySteps_a t_overs_a t_unders_a t_tied_a t_groups_a t_arcs t_ties t_overs e_t e_t_overs p1 h _) (cwV 1 hts (gIn (aV u16 u17 u18 u14 u19)) rfl rfl rfl (by decide +kernel) ⟨Nat.le_of_ble_eq_true rfl, Nat.le_of_ble_eq_true rfl⟩) (pV hK hP hD (ci := 1) (q0 := k_t) rfl e_t) rfl rfl hl.1 rfl (lv_room (Nat.le_of_ble_eq_true rfl)) dX1_isHere_2 ⟨Nat.zero_le _, Nat.zero_le _⟩) hP hS hA hD (fun r2 H locs h hP hS => ?_)
  refine lv_if_lt (tgt := 20) hx hb dX1_isHere_5 (by decide) (fun q4 => ?_) (fun q4 => ?_)
  · have h := (if_pos q4).mp h
    refine lv_iconst (v := (0 : Int32)) hx hb dX1_isHere_20 (by decide) ?_
    exact W.zret (v := (0 : Int32)) (ty := .boolean) hx hb hr (nB isB_0) (fun t ht hW => ⟨⟨(0 : Int32), (), rfl, h, by show va_P G vwCl ws t.heap; rw [ht]; exact hP⟩, hS.F ht⟩) hS.2.2 dX1_isHere_21
  · have h := (if_neg q4).mp h
    refine lv_aload_n hx hb dX1_isHere_8 rfl (lv_at hl 0 rfl) ?_
    refine lv_iload_n hx hb dX1_isHere_9 rfl (lv_at hl 1 rfl) ?_
    refine rdi (va_runV (As := [.int p1]) (rest := []) ⟨hx, hb, hml, hown, hts⟩ (kX1_underAt (ws := ws) k_t k_t_unders t_h t_passes_a t_arcsBySteps_a t_overs_a t_unders_a t_tied_a t_groups_a t_arcs t_ties t_unders e_t e_t_unders p1 h _) (cwV 1 hts (gIn (aV u11 u12 u13 u14 u15)) rfl rfl rfl (by decide +kernel) ⟨Nat.le_of_ble_eq_true rfl, Nat.le_of_ble_eq_true rfl⟩) (pV hK hP hD (ci := 1) (q0 := k_t) rfl e_t) rfl rfl hl.1 rfl (lv_room (Nat.le_of_ble_eq_true rfl)) dX1_isHere_10 ⟨Nat.zero_le _, Nat.zero_le _⟩) hP hS hA hD (fun r10 H locs h hP hS => ?_)
    have J2 : ∀ v1 : Int32, v1 = (if r10 < 0 then (0 : Int32) else (1 : Int32)) → ∀ (ls : Array Slot), lv_has ls 2 [] → W p l e (headSpec wsX1_isHere rmX1_isHere).room s m args below meth c H locs 0 0 (MQ below (va_Qi (fun (r : Int32) (u : Unit) => Q r) (fun (_ : Unit) t => va_P G vwCl ws t.heap) A) args s 0 0 A) (F0 m 21 ls [.int v1]) := by
      intro v1 ev1; subst ev1
      intro ls hl
      exact W.zret (v := (if r10 < 0 then (0 : Int32) else (1 : Int32))) (ty := .boolean) hx hb hr (nB (isB_if isB_0 isB_1)) (fun t ht hW => ⟨⟨(if r10 < 0 then (0 : Int32) else (1 : Int32)), (), rfl, h, by show va_P G vwCl ws t.heap; rw [ht]; exact hP⟩, hS.F ht⟩) hS.2.2 dX1_isHere_21
    refine lv_if_lt (tgt := 20) hx hb dX1_isHere_13 (by decide) (fun q3 => ?_) (fun q3 => ?_)
    · refine lv_iconst (v := (0 : Int32)) hx hb dX1_isHere_20 (by decide) ?_
      exact J2 (0 : Int32) (if_pos q3).symm ls (lv_sub hl [] rfl)
    · refine lv_iconst (v := (1 : Int32)) hx hb dX1_isHere_16 (by decide) ?_
      refine lv_goto (tgt := 21) hx hb dX1_isHere_17 (by decide) ?_
      exact J2 (1 : Int32) (if_neg q3).symm ls (lv_sub hl [] rfl)
abbrev rmX1_arcAt : Room := ({ frames := 1, cells := 0, slots := 0, locals := 21 } : Room)
set_option maxHeartbeats 4000000 in
set_option maxRecDepth 100000 in
theorem kX1_arcAt {l : Launch} {G : va_G} {cI cZ cP cJ : ClassId} {ws : va_W} (k_t : Nat) (k_t_arcsBySteps : Nat) (t_h : Nat) (t_passes_a : Nat) (t_arcsBySteps_a : Nat) (t_overs_a : Nat) (t_unders_a : Nat) (t_tied_a : Nat) (t_groups_a : Nat) (t_arcs : Int32) (t_ties : Int32) (t_arcsBySteps : Nat → Int32) (e_t : ws[k_t]? = some (t_h, .inr (1, [.int t_arcs, .int t_ties, .ref t_passes_a, .ref t_arcsBySteps_a, .ref t_overs_a, .ref t_unders_a, .ref t_tied_a, .ref t_groups_a]))) (e_t_arcsBySteps : ws[k_t_arcsBySteps]? = some (t_arcsBySteps_a, .inl (cI, 144, .inl t_arcsBySteps))) (p1 : Int32) {Q : Int32 → Prop} (h : wX1_arcAt t_arcsBySteps p1 Q) (sz : Nat) : Met l yX1_arcAt wsX1_arcAt rmX1_arcAt (va_Pc [.ref t_h, .int p1] (pB G [(cI, .int), (cZ, .boolean), (cP, .object RX3), (cJ, .array .int)] ws sz)) (va_Qi (fun (r : Int32) (u : Unit) => Q r) (fun (_ : Unit) t => va_P G vwCl ws t.heap) (va_A ws sz)) 0 0 (va_A ws sz) := by
  refine Met.ofW (cc := cX1_arcAt) (maxL := 2) (ret := (some .int)) (by decide) rfl ?_
  intro p e s m args below meth c s₁ B hml hv
  obtain ⟨hargs, hsz, hP, hK, hD0⟩ := hv
  have hx := B.exec
  have hb := B.bytes
  have hr := B.returns
  have hts := atoms_spec (ws := wsX1_arcAt) B.pre
  have hown : s.vm.findClass RX1 = some m.cls := findClass_of_methodNamed B.named
  have hlocks := B.notSynchronized
  subst hsz
  have hD := hD0.self (sz := s.heap.size)
  generalize hAe : va_A ws s.heap.size = A at hD ⊢
  have hA : ∀ q : Nat, s.heap.size ≤ q → A q := fun q h => by rw [← hAe]; exact Or.inr h
  have hS : va_S A s.heap s.heap [] := va_S.rf
  have hl := lv_entry ([.ref t_h, .int p1]) (n := 2) (Nat.le_of_ble_eq_true rfl)
  rw [show entryFrame m args 2 = entryFrame m ([.ref t_h, .int p1] : List Value).toArray 2 by rw [hargs], lg_entry_eq]
  generalize (lg_sl ([.ref t_h, .int p1]) ++ List.replicate (2 - (lg_sl ([.ref t_h, .int p1])).length) Slot.unset).toArray = ls at hl ⊢
  have hl : lv_has ls 2 [(0, .ref t_h), (1, .int p1)] := hl
  unfold wX1_arcAt at h
  suffices hM : ∀ (H : Heap) (locs : List Loc), va_P G vwCl ws H → va_S A s.heap H locs → W p l e (headSpec wsX1_arcAt rmX1_arcAt).room s m args below meth c H locs 0 0 (MQ below (va_Qi (fun (r : Int32) (u : Unit) => Q r) (fun (_ : Unit) t => va_P G vwCl ws t.heap) A) args s 0 0 A) (F0 m 0 ls []) from hM _ _ hP hS
  clear hP hS
  intro H locs hP hS
  refine lv_aload_n hx hb dX1_arcAt_0 rfl (lv_at hl 0 rfl) ?_
  refine va_get (D := G) (ci := 1) (v := .ref t_arcsBySteps_a) (C := RX1) (T := TX1) (N := 8) hx hb hts inC1 hown hK.1 hP k_t e_t rfl 3 (by decide) (hts _ (List.mem_cons_of_mem _ u20)) (fun _ h9 => h9) rfl dX1_arcAt_1 ?_
  refine lv_iload_n hx hb dX1_arcAt_4 rfl (lv_at hl 1 rfl) ?_
  refine rdi (va_runSN (As := [.ref t_arcsBySteps_a, .int p1]) (rest := []) ⟨hx, hb, hml, hown, hts⟩ (kX5_at (ws := ws) k_t_arcsBySteps t_arcsBySteps_a 144 t_arcsBySteps e_t_arcsBySteps p1 h _) ⟨va_cnB 2 hts (gIn (aN u8)) rfl rfl rfl (hK.2.2.1 _ (List.mem_of_getElem? (i := 23) rfl)) (hts _ (List.mem_cons_of_mem _ u2)) (by decide +kernel) ⟨Nat.le_of_ble_eq_true rfl, Nat.le_of_ble_eq_true rfl⟩, (hts _ (List.mem_cons_of_mem _ u9)), trivial⟩ (pS hK hP hD) rfl rfl hl.1 rfl (lv_room (Nat.le_of_ble_eq_true rfl)) dX1_arcAt_5 ⟨Nat.zero_le _, Nat.zero_le _⟩) hP hS hA hD (fun r5 H locs h hP hS => ?_)
  exact W.iret (v := r5) hx hb hr (fun t ht hW => ⟨⟨r5, (), rfl, h, by show va_P G vwCl ws t.heap; rw [ht]; exact hP⟩, hS.F ht⟩) hS.2.2 dX1_arcAt_8
abbrev rmX2_ownerAt : Room := ({ frames := 1, cells := 0, slots := 0, locals := 21 } : Room)
set_option maxHeartbeats 4000000 in
set_option maxRecDepth 100000 in
theorem kX2_ownerAt {l : Launch} {G : va_G} {cI cZ cP cJ : ClassId} {ws : va_W} (k_t : Nat) (k_t_ownersBySteps : Nat) (t_h : Nat) (t_owners_a : Nat) (t_firsts_a : Nat) (t_ownersBySteps_a : Nat) (t_cells_a : Nat) (t_ends_a : Nat) (t_rightward_a : Nat) (t_downward_a : Nat) (t_count : Int32) (t_steps : Int32) (t_ownersBySteps : Nat → Int32) (e_t : ws[k_t]? = some (t_h, .inr (2, [.int t_count, .int t_steps, .ref t_owners_a, .ref t_firsts_a, .ref t_ownersBySteps_a, .ref t_cells_a, .ref t_ends_a, .ref t_rightward_a, .ref t_downward_a]))) (e_t_ownersBySteps : ws[k_t_ownersBySteps]? = some (t_ownersBySteps_a, .inl (cI, 144, .inl t_ownersBySteps))) (p1 : Int32) {Q : Int32 → Prop} (h : wX2_ownerAt t_ownersBySteps p1 Q) (sz : Nat) : Met l yX2_ownerAt wsX2_ownerAt rmX2_ownerAt (va_Pc [.ref t_h, .int p1] (pB G [(cI, .int), (cZ, .boolean), (cP, .object RX3), (cJ, .array .int)] ws sz)) (va_Qi (fun (r : Int32) (u : Unit) => Q r) (fun (_ : Unit) t => va_P G vwCl ws t.heap) (va_A ws sz)) 0 0 (va_A ws sz) := by
  refine Met.ofW (cc := cX2_ownerAt) (maxL := 2) (ret := (some .int)) (by decide) rfl ?_
  intro p e s m args below meth c s₁ B hml hv
  obtain ⟨hargs, hsz, hP, hK, hD0⟩ := hv
  have hx := B.exec
  have hb := B.bytes
  have hr := B.returns
  have hts := atoms_spec (ws := wsX2_ownerAt) B.pre
  have hown : s.vm.findClass RX2 = some m.cls := findClass_of_methodNamed B.named
  have hlocks := B.notSynchronized
  subst hsz
  have hD := hD0.self (sz := s.heap.size)
  generalize hAe : va_A ws s.heap.size = A at hD ⊢
  have hA : ∀ q : Nat, s.heap.size ≤ q → A q := fun q h => by rw [← hAe]; exact Or.inr h
  have hS : va_S A s.heap s.heap [] := va_S.rf
  have hl := lv_entry ([.ref t_h, .int p1]) (n := 2) (Nat.le_of_ble_eq_true rfl)
  rw [show entryFrame m args 2 = entryFrame m ([.ref t_h, .int p1] : List Value).toArray 2 by rw [hargs], lg_entry_eq]
  generalize (lg_sl ([.ref t_h, .int p1]) ++ List.replicate (2 - (lg_sl ([.ref t_h, .int p1])).length) Slot.unset).toArray = ls at hl ⊢
  have hl : lv_has ls 2 [(0, .ref t_h), (1, .int p1)] := hl
  unfold wX2_ownerAt at h
  suffices hM : ∀ (H : Heap) (locs : List Loc), va_P G vwCl ws H → va_S A s.heap H locs → W p l e (headSpec wsX2_ownerAt rmX2_ownerAt).room s m args below meth c H locs 0 0 (MQ below (va_Qi (fun (r : Int32) (u : Unit) => Q r) (fun (_ : Unit) t => va_P G vwCl ws t.heap) A) args s 0 0 A) (F0 m 0 ls []) from hM _ _ hP hS
  clear hP hS
  intro H locs hP hS
  refine lv_aload_n hx hb dX2_ownerAt_0 rfl (lv_at hl 0 rfl) ?_
  refine va_get (D := G) (ci := 2) (v := .ref t_ownersBySteps_a) (C := RX2) (T := TX2) (N := 9) hx hb hts inC2 hown hK.1 hP k_t e_t rfl 4 (by decide) (hts _ (List.mem_cons_of_mem _ u21)) (fun _ h9 => h9) rfl dX2_ownerAt_1 ?_
  refine lv_iload_n hx hb dX2_ownerAt_4 rfl (lv_at hl 1 rfl) ?_
  refine rdi (va_runSN (As := [.ref t_ownersBySteps_a, .int p1]) (rest := []) ⟨hx, hb, hml, hown, hts⟩ (kX5_at (ws := ws) k_t_ownersBySteps t_ownersBySteps_a 144 t_ownersBySteps e_t_ownersBySteps p1 h _) ⟨va_cnB 2 hts (gIn (aN u8)) rfl rfl rfl (hK.2.2.1 _ (List.mem_of_getElem? (i := 13) rfl)) (hts _ (List.mem_cons_of_mem _ u2)) (by decide +kernel) ⟨Nat.le_of_ble_eq_true rfl, Nat.le_of_ble_eq_true rfl⟩, (hts _ (List.mem_cons_of_mem _ u9)), trivial⟩ (pS hK hP hD) rfl rfl hl.1 rfl (lv_room (Nat.le_of_ble_eq_true rfl)) dX2_ownerAt_5 ⟨Nat.zero_le _, Nat.zero_le _⟩) hP hS hA hD (fun r5 H locs h hP hS => ?_)
  exact W.iret (v := r5) hx hb hr (fun t ht hW => ⟨⟨r5, (), rfl, h, by show va_P G vwCl ws t.heap; rw [ht]; exact hP⟩, hS.F ht⟩) hS.2.2 dX2_ownerAt_8
abbrev rmX2_firstStep : Room := ({ frames := 1, cells := 0, slots := 0, locals := 21 } : Room)
set_option maxHeartbeats 4000000 in
set_option maxRecDepth 100000 in
theorem kX2_firstStep {l : Launch} {G : va_G} {cI cZ cP cJ : ClassId} {ws : va_W} (k_t : Nat) (k_t_firsts : Nat) (t_h : Nat) (t_owners_a : Nat) (t_firsts_a : Nat) (t_ownersBySteps_a : Nat) (t_cells_a : Nat) (t_ends_a : Nat) (t_rightward_a : Nat) (t_downward_a : Nat) (t_count : Int32) (t_steps : Int32) (t_firsts : Nat → Int32) (e_t : ws[k_t]? = some (t_h, .inr (2, [.int t_count, .int t_steps, .ref t_owners_a, .ref t_firsts_a, .ref t_ownersBySteps_a, .ref t_cells_a, .ref t_ends_a, .ref t_rightward_a, .ref t_downward_a]))) (e_t_firsts : ws[k_t_firsts]? = some (t_firsts_a, .inl (cI, 37, .inl t_firsts))) (p1 : Int32) {Q : Int32 → Prop} (h : wX2_firstStep t_steps t_firsts p1 Q) (sz : Nat) : Met l yX2_firstStep wsX2_firstStep rmX2_firstStep (va_Pc [.ref t_h, .int p1] (pB G [(cI, .int), (cZ, .boolean), (cP, .object RX3), (cJ, .array .int)] ws sz)) (va_Qi (fun (r : Int32) (u : Unit) => Q r) (fun (_ : Unit) t => va_P G vwCl ws t.heap) (va_A ws sz)) 0 0 (va_A ws sz) := by
  refine Met.ofW (cc := cX2_firstStep) (maxL := 2) (ret := (some .int)) (by decide) rfl ?_
  intro p e s m args below meth c s₁ B hml hv
  obtain ⟨hargs, hsz, hP, hK, hD0⟩ := hv
  have hx := B.exec
  have hb := B.bytes
  have hr := B.returns
  have hts := atoms_spec (ws := wsX2_firstStep) B.pre
  have hown : s.vm.findClass RX2 = some m.cls := findClass_of_methodNamed B.named
  have hlocks := B.notSynchronized
  subst hsz
  have hD := hD0.self (sz := s.heap.size)
  generalize hAe : va_A ws s.heap.size = A at hD ⊢
  have hA : ∀ q : Nat, s.heap.size ≤ q → A q := fun q h => by rw [← hAe]; exact Or.inr h
  have hS : va_S A s.heap s.heap [] := va_S.rf
  have hl := lv_entry ([.ref t_h, .int p1]) (n := 2) (Nat.le_of_ble_eq_true rfl)
  rw [show entryFrame m args 2 = entryFrame m ([.ref t_h, .int p1] : List Value).toArray 2 by rw [hargs], lg_entry_eq]
  generalize (lg_sl ([.ref t_h, .int p1]) ++ List.replicate (2 - (lg_sl ([.ref t_h, .int p1])).length) Slot.unset).toArray = ls at hl ⊢
  have hl : lv_has ls 2 [(0, .ref t_h), (1, .int p1)] := hl
  unfold wX2_firstStep at h
  suffices hM : ∀ (H : Heap) (locs : List Loc), va_P G vwCl ws H → va_S A s.heap H locs → W p l e (headSpec wsX2_firstStep rmX2_firstStep).room s m args below meth c H locs 0 0 (MQ below (va_Qi (fun (r : Int32) (u : Unit) => Q r) (fun (_ : Unit) t => va_P G vwCl ws t.heap) A) args s 0 0 A) (F0 m 0 ls []) from hM _ _ hP hS
  clear hP hS
  intro H locs hP hS
  refine lv_aload_n hx hb dX2_firstStep_0 rfl (lv_at hl 0 rfl) ?_
  refine va_get (D := G) (ci := 2) (v := .ref t_firsts_a) (C := RX2) (T := TX2) (N := 9) hx hb hts inC2 hown hK.1 hP k_t e_t rfl 3 (by decide) (hts _ (List.mem_cons_of_mem _ u22)) (fun _ h9 => h9) rfl dX2_firstStep_1 ?_
  refine lv_iload_n hx hb dX2_firstStep_4 rfl (lv_at hl 1 rfl) ?_
  refine rdi (va_runSN (As := [.ref t_firsts_a, .int p1]) (rest := []) ⟨hx, hb, hml, hown, hts⟩ (kX5_isIn (ws := ws) k_t_firsts t_firsts_a 37 t_firsts e_t_firsts p1 h _) ⟨va_cnB 2 hts (gIn (aN u1)) rfl rfl rfl (hK.2.2.1 _ (List.mem_of_getElem? (i := 20) rfl)) (hts _ (List.mem_cons_of_mem _ u2)) (by decide +kernel) ⟨Nat.le_of_ble_eq_true rfl, Nat.le_of_ble_eq_true rfl⟩, (hts _ (List.mem_cons_of_mem _ u3)), trivial⟩ (pS hK hP hD) rfl rfl hl.1 rfl (lv_room (Nat.le_of_ble_eq_true rfl)) dX2_firstStep_5 ⟨Nat.zero_le _, Nat.zero_le _⟩) hP hS hA hD (fun r5 H locs h hP hS => ?_)
  refine lv_if_eq (tgt := 20) hx hb dX2_firstStep_8 (by decide) (fun q2 => ?_) (fun q2 => ?_)
  · have h := (if_pos q2).mp h
    refine lv_aload_n hx hb dX2_firstStep_20 rfl (lv_at hl 0 rfl) ?_
    refine va_get (D := G) (ci := 2) (v := .int t_steps) (C := RX2) (T := TX2) (N := 9) hx hb hts inC2 hown hK.1 hP k_t e_t rfl 1 (by decide) (hts _ (List.mem_cons_of_mem _ u23)) (fun _ h9 => h9) rfl dX2_firstStep_21 ?_
    exact W.iret (v := t_steps) hx hb hr (fun t ht hW => ⟨⟨t_steps, (), rfl, h, by show va_P G vwCl ws t.heap; rw [ht]; exact hP⟩, hS.F ht⟩) hS.2.2 dX2_firstStep_24
  · have h := (if_neg q2).mp h
    refine lv_aload_n hx hb dX2_firstStep_11 rfl (lv_at hl 0 rfl) ?_
    refine va_get (D := G) (ci := 2) (v := .ref t_firsts_a) (C := RX2) (T := TX2) (N := 9) hx hb hts inC2 hown hK.1 hP k_t e_t rfl 3 (by decide) (hts _ (List.mem_cons_of_mem _ u22)) (fun _ h9 => h9) rfl dX2_firstStep_12 ?_
    refine lv_iload_n hx hb dX2_firstStep_15 rfl (lv_at hl 1 rfl) ?_
    obtain ⟨i1, h⟩ := h
    refine va_iald hx hb hK.1 hP k_t_firsts 0 e_t_firsts rfl i1 dX2_firstStep_16 ?_
    refine lv_goto (tgt := 24) hx hb dX2_firstStep_17 (by decide) ?_
    exact W.iret (v := (t_firsts p1.toNatClampNeg)) hx hb hr (fun t ht hW => ⟨⟨(t_firsts p1.toNatClampNeg), (), rfl, h, by show va_P G vwCl ws t.heap; rw [ht]; exact hP⟩, hS.F ht⟩) hS.2.2 dX2_firstStep_24
abbrev rmX2_stepAfter : Room := ({ frames := 2, cells := 0, slots := 0, locals := 42 } : Room)
set_option maxHeartbeats 4000000 in
set_option maxRecDepth 100000 in
theorem kX2_stepAfter {l : Launch} {G : va_G} {cI cZ cP cJ : ClassId} {ws : va_W} (k_t : Nat) (k_t_firsts : Nat) (k_t_ownersBySteps : Nat) (t_h : Nat) (t_owners_a : Nat) (t_firsts_a : Nat) (t_ownersBySteps_a : Nat) (t_cells_a : Nat) (t_ends_a : Nat) (t_rightward_a : Nat) (t_downward_a : Nat) (t_count : Int32) (t_steps : Int32) (t_firsts : Nat → Int32) (t_ownersBySteps : Nat → Int32) (e_t : ws[k_t]? = some (t_h, .inr (2, [.int t_count, .int t_steps, .ref t_owners_a, .ref t_firsts_a, .ref t_ownersBySteps_a, .ref t_cells_a, .ref t_ends_a, .ref t_rightward_a, .ref t_downward_a]))) (e_t_firsts : ws[k_t_firsts]? = some (t_firsts_a, .inl (cI, 37, .inl t_firsts))) (e_t_ownersBySteps : ws[k_t_ownersBySteps]? = some (t_ownersBySteps_a, .inl (cI, 144, .inl t_ownersBySteps))) (p1 : Int32) {Q : Int32 → Prop} (h : wX2_stepAfter t_steps t_firsts t_ownersBySteps p1 Q) (sz : Nat) : Met l yX2_stepAfter wsX2_stepAfter rmX2_stepAfter (va_Pc [.ref t_h, .int p1] (pB G [(cI, .int), (cZ, .boolean), (cP, .object RX3), (cJ, .array .int)] ws sz)) (va_Qi (fun (r : Int32) (u : Unit) => Q r) (fun (_ : Unit) t => va_P G vwCl ws t.heap) (va_A ws sz)) 0 0 (va_A ws sz) := by
  refine Met.ofW (cc := cX2_stepAfter) (maxL := 3) (ret := (some .int)) (by decide) rfl ?_
  intro p e s m args below meth c s₁ B hml hv
  obtain ⟨hargs, hsz, hP, hK, hD0⟩ := hv
  have hx := B.exec
  have hb := B.bytes
  have hr := B.returns
  have hts := atoms_spec (ws := wsX2_stepAfter) B.pre
  have hown : s.vm.findClass RX2 = some m.cls := findClass_of_methodNamed B.named
  have hlocks := B.notSynchronized
  subst hsz
  have hD := hD0.self (sz := s.heap.size)
  generalize hAe : va_A ws s.heap.size = A at hD ⊢
  have hA : ∀ q : Nat, s.heap.size ≤ q → A q := fun q h => by rw [← hAe]; exact Or.inr h
  have hS : va_S A s.heap s.heap [] := va_S.rf
  have hl := lv_entry ([.ref t_h, .int p1]) (n := 3) (Nat.le_of_ble_eq_true rfl)
  rw [show entryFrame m args 3 = entryFrame m ([.ref t_h, .int p1] : List Value).toArray 3 by rw [hargs], lg_entry_eq]
  generalize (lg_sl ([.ref t_h, .int p1]) ++ List.replicate (3 - (lg_sl ([.ref t_h, .int p1])).length) Slot.unset).toArray = ls at hl ⊢
  have hl : lv_has ls 3 [(0, .ref t_h), (1, .int p1)] := hl
  unfold wX2_stepAfter at h
  suffices hM : ∀ (H : Heap) (locs : List Loc), va_P G vwCl ws H → va_S A s.heap H locs → W p l e (headSpec wsX2_stepAfter rmX2_stepAfter).room s m args below meth c H locs 0 0 (MQ below (va_Qi (fun (r : Int32) (u : Unit) => Q r) (fun (_ : Unit) t => va_P G vwCl ws t.heap) A) args s 0 0 A) (F0 m 0 ls []) from hM _ _ hP hS
  clear hP hS
  intro H locs hP hS
  refine lv_aload_n hx hb dX2_stepAfter_0 rfl (lv_at hl 0 rfl) ?_
  refine lv_iload_n hx hb dX2_stepAfter_1 rfl (lv_at hl 1 rfl) ?_
  refine rdi (va_runV (As := [.int p1]) (rest := []) ⟨hx, hb, hml, hown, hts⟩ (kX2_ownerAt (ws := ws) k_t k_t_ownersBySteps t_h t_owners_a t_firsts_a t_ownersBySteps_a t_cells_a t_ends_a t_rightward_a t_downward_a t_count t_steps t_ownersBySteps e_t e_t_ownersBySteps p1 h _) (cwV 1 hts (gIn (aV u29 u30 u31 u27 u32)) rfl rfl rfl (by decide +kernel) ⟨Nat.le_of_ble_eq_true rfl, Nat.le_of_ble_eq_true rfl⟩) (pV hK hP hD (ci := 2) (q0 := k_t) rfl e_t) rfl rfl hl.1 rfl (lv_room (Nat.le_of_ble_eq_true rfl)) dX2_stepAfter_2 ⟨Nat.zero_le _, Nat.zero_le _⟩) hP hS hA hD (fun r2 H locs h hP hS => ?_)
  refine lv_istore_n (lv' := [(2, .int r2), (0, .ref t_h), (1, .int p1)]) hx hb dX2_stepAfter_5 rfl hl (by decide) rfl (fun ls hl => ?_)
  refine lv_iload_n hx hb dX2_stepAfter_6 rfl (lv_at hl 2 rfl) ?_
  refine lv_iconst (v := (1 : Int32)) hx hb dX2_stepAfter_7 (by decide) ?_
  refine lv_iadd hx hb dX2_stepAfter_8 ?_
  refine lv_aload_n hx hb dX2_stepAfter_9 rfl (lv_at hl 1 rfl) ?_
  refine lv_iload_n hx hb dX2_stepAfter_10 rfl (lv_at hl 0 rfl) ?_
  refine lv_iconst (v := (1 : Int32)) hx hb dX2_stepAfter_11 (by decide) ?_
  refine lv_iadd hx hb dX2_stepAfter_12 ?_
  refine rdi (va_runV (As := [.int (r2 + (1 : Int32))]) (rest := [.int (p1 + (1 : Int32))]) ⟨hx, hb, hml, hown, hts⟩ (kX2_firstStep (ws := ws) k_t k_t_firsts t_h t_owners_a t_firsts_a t_ownersBySteps_a t_cells_a t_ends_a t_rightward_a t_downward_a t_count t_steps t_firsts e_t e_t_firsts (r2 + (1 : Int32)) h _) (cwV 1 hts (gIn (aV u24 u25 u26 u27 u28)) rfl rfl rfl (by decide +kernel) ⟨Nat.le_of_ble_eq_true rfl, Nat.le_of_ble_eq_true rfl⟩) (pV hK hP hD (ci := 2) (q0 := k_t) rfl e_t) rfl rfl hl.1 rfl (lv_room (Nat.le_of_ble_eq_true rfl)) dX2_stepAfter_13 ⟨Nat.zero_le _, Nat.zero_le _⟩) hP hS hA hD (fun r13 H locs h hP hS => ?_)
  refine lv_icmp_ge (tgt := 25) hx hb dX2_stepAfter_16 (by decide) (fun q1 => ?_) (fun q1 => ?_)
  · have h := (if_pos q1).mp h
    refine lv_aload_n hx hb dX2_stepAfter_25 rfl (lv_at hl 1 rfl) ?_
    refine lv_iload_n hx hb dX2_stepAfter_26 rfl (lv_at hl 0 rfl) ?_
    refine rdi (va_runV (As := [.int r2]) (rest := []) ⟨hx, hb, hml, hown, hts⟩ (kX2_firstStep (ws := ws) k_t k_t_firsts t_h t_owners_a t_firsts_a t_ownersBySteps_a t_cells_a t_ends_a t_rightward_a t_downward_a t_count t_steps t_firsts e_t e_t_firsts r2 h _) (cwV 1 hts (gIn (aV u24 u25 u26 u27 u28)) rfl rfl rfl (by decide +kernel) ⟨Nat.le_of_ble_eq_true rfl, Nat.le_of_ble_eq_true rfl⟩) (pV hK hP hD (ci := 2) (q0 := k_t) rfl e_t) rfl rfl hl.1 rfl (lv_room (Nat.le_of_ble_eq_true rfl)) dX2_stepAfter_27 ⟨Nat.zero_le _, Nat.zero_le _⟩) hP hS hA hD (fun r27 H locs h hP hS => ?_)
    exact W.iret (v := r27) hx hb hr (fun t ht hW => ⟨⟨r27, (), rfl, h, by show va_P G vwCl ws t.heap; rw [ht]; exact hP⟩, hS.F ht⟩) hS.2.2 dX2_stepAfter_30
  · have h := (if_neg q1).mp h
    refine lv_iload_n hx hb dX2_stepAfter_19 rfl (lv_at hl 2 rfl) ?_
    refine lv_iconst (v := (1 : Int32)) hx hb dX2_stepAfter_20 (by decide) ?_
    refine lv_iadd hx hb dX2_stepAfter_21 ?_
    refine lv_goto (tgt := 30) hx hb dX2_stepAfter_22 (by decide) ?_
    exact W.iret (v := (p1 + (1 : Int32))) hx hb hr (fun t ht hW => ⟨⟨(p1 + (1 : Int32)), (), rfl, h, by show va_P G vwCl ws t.heap; rw [ht]; exact hP⟩, hS.F ht⟩) hS.2.2 dX2_stepAfter_30
abbrev rmX0_gather : Room := ({ frames := 3, cells := 0, slots := 0, locals := 64 } : Room)
set_option maxHeartbeats 4000000 in
set_option maxRecDepth 100000 in
theorem kX0_gather {l : Launch} {G : va_G} {cI cZ cP cJ : ClassId} (L : List Nat) (E : va_W) (t_h : Nat) (t_rules_a : Nat) (l_h : Nat) (l_owners_a : Nat) (l_firsts_a : Nat) (l_ownersBySteps_a : Nat) (l_cells_a : Nat) (l_ends_a : Nat) (l_rightward_a : Nat) (l_downward_a : Nat) (c_h : Nat) (c_passes_a : Nat) (c_arcsBySteps_a : Nat) (c_overs_a : Nat) (c_unders_a : Nat) (c_tied_a : Nat) (c_groups_a : Nat) (t_width : Int32) (t_height : Int32) (t_rules : Nat → Option Nat) (l_count : Int32) (l_steps : Int32) (l_owners : Nat → Int32) (l_firsts : Nat → Int32) (l_ownersBySteps : Nat → Int32) (l_cells : Nat → Int32) (l_ends : Nat → Int32) (l_rightward : Nat → Int32) (l_downward : Nat → Int32) (c_arcs : Int32) (c_ties : Int32) (c_passes : Nat → Int32) (c_arcsBySteps : Nat → Int32) (c_overs : Nat → Int32) (c_unders : Nat → Int32) (c_tied : Nat → Int32) (c_groups : Nat → Int32) (t_rows : Nat → Nat → Int32) {Q : Int32 → Int32 → (Nat → Nat → Int32) → Prop} (h : wX0_gather L t_width t_height t_rules t_rows l_steps l_firsts l_ownersBySteps c_arcs c_arcsBySteps c_overs c_unders Q) (sz : Nat) : Met l yX0_gather wsX0_gather rmX0_gather (va_Pc [.ref t_h, .ref l_h, .ref c_h] (pB G [(cI, .int), (cZ, .boolean), (cP, .object RX3), (cJ, .array .int)] (((t_h, .inr (0, [.int t_width, .int t_height, .ref t_rules_a])) :: (t_rules_a, .inl (cJ, 60, .inr (.inr (.inr (.inr t_rules))))) :: (l_h, .inr (2, [.int l_count, .int l_steps, .ref l_owners_a, .ref l_firsts_a, .ref l_ownersBySteps_a, .ref l_cells_a, .ref l_ends_a, .ref l_rightward_a, .ref l_downward_a])) :: (l_owners_a, .inl (cI, 144, .inl l_owners)) :: (l_firsts_a, .inl (cI, 37, .inl l_firsts)) :: (l_ownersBySteps_a, .inl (cI, 144, .inl l_ownersBySteps)) :: (l_cells_a, .inl (cI, 144, .inl l_cells)) :: (l_ends_a, .inl (cI, 144, .inl l_ends)) :: (l_rightward_a, .inl (cI, 144, .inl l_rightward)) :: (l_downward_a, .inl (cI, 144, .inl l_downward)) :: (c_h, .inr (1, [.int c_arcs, .int c_ties, .ref c_passes_a, .ref c_arcsBySteps_a, .ref c_overs_a, .ref c_unders_a, .ref c_tied_a, .ref c_groups_a])) :: (c_passes_a, .inl (cI, 144, .inl c_passes)) :: (c_arcsBySteps_a, .inl (cI, 144, .inl c_arcsBySteps)) :: (c_overs_a, .inl (cI, 60, .inl c_overs)) :: (c_unders_a, .inl (cI, 60, .inl c_unders)) :: (c_tied_a, .inl (cI, 36, .inl c_tied)) :: (c_groups_a, .inl (cI, 36, .inl c_groups)) :: E) ++ va_pl L (fun q => .inl (cI, 96, .inl (t_rows q)))) sz)) (va_Qv (fun (u : Int32 × Int32 × (Nat → Nat → Int32)) => Q u.1 u.2.1 u.2.2) (fun (u : Int32 × Int32 × (Nat → Nat → Int32)) t => va_P G vwCl (((t_h, .inr (0, [.int u.1, .int u.2.1, .ref t_rules_a])) :: (t_rules_a, .inl (cJ, 60, .inr (.inr (.inr (.inr t_rules))))) :: (l_h, .inr (2, [.int l_count, .int l_steps, .ref l_owners_a, .ref l_firsts_a, .ref l_ownersBySteps_a, .ref l_cells_a, .ref l_ends_a, .ref l_rightward_a, .ref l_downward_a])) :: (l_owners_a, .inl (cI, 144, .inl l_owners)) :: (l_firsts_a, .inl (cI, 37, .inl l_firsts)) :: (l_ownersBySteps_a, .inl (cI, 144, .inl l_ownersBySteps)) :: (l_cells_a, .inl (cI, 144, .inl l_cells)) :: (l_ends_a, .inl (cI, 144, .inl l_ends)) :: (l_rightward_a, .inl (cI, 144, .inl l_rightward)) :: (l_downward_a, .inl (cI, 144, .inl l_downward)) :: (c_h, .inr (1, [.int c_arcs, .int c_ties, .ref c_passes_a, .ref c_arcsBySteps_a, .ref c_overs_a, .ref c_unders_a, .ref c_tied_a, .ref c_groups_a])) :: (c_passes_a, .inl (cI, 144, .inl c_passes)) :: (c_arcsBySteps_a, .inl (cI, 144, .inl c_arcsBySteps)) :: (c_overs_a, .inl (cI, 60, .inl c_overs)) :: (c_unders_a, .inl (cI, 60, .inl c_unders)) :: (c_tied_a, .inl (cI, 36, .inl c_tied)) :: (c_groups_a, .inl (cI, 36, .inl c_groups)) :: E) ++ va_pl L (fun q => .inl (cI, 96, .inl (u.2.2 q)))) t.heap ∧ va_D (va_A (((t_h, .inr (0, [.int t_width, .int t_height, .ref t_rules_a])) :: (t_rules_a, .inl (cJ, 60, .inr (.inr (.inr (.inr t_rules))))) :: (l_h, .inr (2, [.int l_count, .int l_steps, .ref l_owners_a, .ref l_firsts_a, .ref l_ownersBySteps_a, .ref l_cells_a, .ref l_ends_a, .ref l_rightward_a, .ref l_downward_a])) :: (l_owners_a, .inl (cI, 144, .inl l_owners)) :: (l_firsts_a, .inl (cI, 37, .inl l_firsts)) :: (l_ownersBySteps_a, .inl (cI, 144, .inl l_ownersBySteps)) :: (l_cells_a, .inl (cI, 144, .inl l_cells)) :: (l_ends_a, .inl (cI, 144, .inl l_ends)) :: (l_rightward_a, .inl (cI, 144, .inl l_rightward)) :: (l_downward_a, .inl (cI, 144, .inl l_downward)) :: (c_h, .inr (1, [.int c_arcs, .int c_ties, .ref c_passes_a, .ref c_arcsBySteps_a, .ref c_overs_a, .ref c_unders_a, .ref c_tied_a, .ref c_groups_a])) :: (c_passes_a, .inl (cI, 144, .inl c_passes)) :: (c_arcsBySteps_a, .inl (cI, 144, .inl c_arcsBySteps)) :: (c_overs_a, .inl (cI, 60, .inl c_overs)) :: (c_unders_a, .inl (cI, 60, .inl c_unders)) :: (c_tied_a, .inl (cI, 36, .inl c_tied)) :: (c_groups_a, .inl (cI, 36, .inl c_groups)) :: E) ++ va_pl L (fun q => .inl (cI, 96, .inl (t_rows q)))) sz) (((t_h, .inr (0, [.int u.1, .int u.2.1, .ref t_rules_a])) :: (t_rules_a, .inl (cJ, 60, .inr (.inr (.inr (.inr t_rules))))) :: (l_h, .inr (2, [.int l_count, .int l_steps, .ref l_owners_a, .ref l_firsts_a, .ref l_ownersBySteps_a, .ref l_cells_a, .ref l_ends_a, .ref l_rightward_a, .ref l_downward_a])) :: (l_owners_a, .inl (cI, 144, .inl l_owners)) :: (l_firsts_a, .inl (cI, 37, .inl l_firsts)) :: (l_ownersBySteps_a, .inl (cI, 144, .inl l_ownersBySteps)) :: (l_cells_a, .inl (cI, 144, .inl l_cells)) :: (l_ends_a, .inl (cI, 144, .inl l_ends)) :: (l_rightward_a, .inl (cI, 144, .inl l_rightward)) :: (l_downward_a, .inl (cI, 144, .inl l_downward)) :: (c_h, .inr (1, [.int c_arcs, .int c_ties, .ref c_passes_a, .ref c_arcsBySteps_a, .ref c_overs_a, .ref c_unders_a, .ref c_tied_a, .ref c_groups_a])) :: (c_passes_a, .inl (cI, 144, .inl c_passes)) :: (c_arcsBySteps_a, .inl (cI, 144, .inl c_arcsBySteps)) :: (c_overs_a, .inl (cI, 60, .inl c_overs)) :: (c_unders_a, .inl (cI, 60, .inl c_unders)) :: (c_tied_a, .inl (cI, 36, .inl c_tied)) :: (c_groups_a, .inl (cI, 36, .inl c_groups)) :: E) ++ va_pl L (fun q => .inl (cI, 96, .inl (u.2.2 q))))) (va_A (((t_h, .inr (0, [.int t_width, .int t_height, .ref t_rules_a])) :: (t_rules_a, .inl (cJ, 60, .inr (.inr (.inr (.inr t_rules))))) :: (l_h, .inr (2, [.int l_count, .int l_steps, .ref l_owners_a, .ref l_firsts_a, .ref l_ownersBySteps_a, .ref l_cells_a, .ref l_ends_a, .ref l_rightward_a, .ref l_downward_a])) :: (l_owners_a, .inl (cI, 144, .inl l_owners)) :: (l_firsts_a, .inl (cI, 37, .inl l_firsts)) :: (l_ownersBySteps_a, .inl (cI, 144, .inl l_ownersBySteps)) :: (l_cells_a, .inl (cI, 144, .inl l_cells)) :: (l_ends_a, .inl (cI, 144, .inl l_ends)) :: (l_rightward_a, .inl (cI, 144, .inl l_rightward)) :: (l_downward_a, .inl (cI, 144, .inl l_downward)) :: (c_h, .inr (1, [.int c_arcs, .int c_ties, .ref c_passes_a, .ref c_arcsBySteps_a, .ref c_overs_a, .ref c_unders_a, .ref c_tied_a, .ref c_groups_a])) :: (c_passes_a, .inl (cI, 144, .inl c_passes)) :: (c_arcsBySteps_a, .inl (cI, 144, .inl c_arcsBySteps)) :: (c_overs_a, .inl (cI, 60, .inl c_overs)) :: (c_unders_a, .inl (cI, 60, .inl c_unders)) :: (c_tied_a, .inl (cI, 36, .inl c_tied)) :: (c_groups_a, .inl (cI, 36, .inl c_groups)) :: E) ++ va_pl L (fun q => .inl (cI, 96, .inl (t_rows q)))) sz)) 0 0 (va_A (((t_h, .inr (0, [.int t_width, .int t_height, .ref t_rules_a])) :: (t_rules_a, .inl (cJ, 60, .inr (.inr (.inr (.inr t_rules))))) :: (l_h, .inr (2, [.int l_count, .int l_steps, .ref l_owners_a, .ref l_firsts_a, .ref l_ownersBySteps_a, .ref l_cells_a, .ref l_ends_a, .ref l_rightward_a, .ref l_downward_a])) :: (l_owners_a, .inl (cI, 144, .inl l_owners)) :: (l_firsts_a, .inl (cI, 37, .inl l_firsts)) :: (l_ownersBySteps_a, .inl (cI, 144, .inl l_ownersBySteps)) :: (l_cells_a, .inl (cI, 144, .inl l_cells)) :: (l_ends_a, .inl (cI, 144, .inl l_ends)) :: (l_rightward_a, .inl (cI, 144, .inl l_rightward)) :: (l_downward_a, .inl (cI, 144, .inl l_downward)) :: (c_h, .inr (1, [.int c_arcs, .int c_ties, .ref c_passes_a, .ref c_arcsBySteps_a, .ref c_overs_a, .ref c_unders_a, .ref c_tied_a, .ref c_groups_a])) :: (c_passes_a, .inl (cI, 144, .inl c_passes)) :: (c_arcsBySteps_a, .inl (cI, 144, .inl c_arcsBySteps)) :: (c_overs_a, .inl (cI, 60, .inl c_overs)) :: (c_unders_a, .inl (cI, 60, .inl c_unders)) :: (c_tied_a, .inl (cI, 36, .inl c_tied)) :: (c_groups_a, .inl (cI, 36, .inl c_groups)) :: E) ++ va_pl L (fun q => .inl (cI, 96, .inl (t_rows q)))) sz) := by
  refine Met.ofW (cc := cX0_gather) (maxL := 6) (ret := none) (by decide) rfl ?_
  intro p e s m args below meth c s₁ B hml hv
  obtain ⟨hargs, hsz, hP, hK, hD0⟩ := hv
  have hx := B.exec
  have hb := B.bytes
  have hr := B.returns
  have hts := atoms_spec (ws := wsX0_gather) B.pre
  have hown : s.vm.findClass RX0 = some m.cls := findClass_of_methodNamed B.named
  have hlocks := B.notSynchronized
  subst hsz
  have hD := hD0.self (sz := s.heap.size)
  generalize hAe : va_A (((t_h, .inr (0, [.int t_width, .int t_height, .ref t_rules_a])) :: (t_rules_a, .inl (cJ, 60, .inr (.inr (.inr (.inr t_rules))))) :: (l_h, .inr (2, [.int l_count, .int l_steps, .ref l_owners_a, .ref l_firsts_a, .ref l_ownersBySteps_a, .ref l_cells_a, .ref l_ends_a, .ref l_rightward_a, .ref l_downward_a])) :: (l_owners_a, .inl (cI, 144, .inl l_owners)) :: (l_firsts_a, .inl (cI, 37, .inl l_firsts)) :: (l_ownersBySteps_a, .inl (cI, 144, .inl l_ownersBySteps)) :: (l_cells_a, .inl (cI, 144, .inl l_cells)) :: (l_ends_a, .inl (cI, 144, .inl l_ends)) :: (l_rightward_a, .inl (cI, 144, .inl l_rightward)) :: (l_downward_a, .inl (cI, 144, .inl l_downward)) :: (c_h, .inr (1, [.int c_arcs, .int c_ties, .ref c_passes_a, .ref c_arcsBySteps_a, .ref c_overs_a, .ref c_unders_a, .ref c_tied_a, .ref c_groups_a])) :: (c_passes_a, .inl (cI, 144, .inl c_passes)) :: (c_arcsBySteps_a, .inl (cI, 144, .inl c_arcsBySteps)) :: (c_overs_a, .inl (cI, 60, .inl c_overs)) :: (c_unders_a, .inl (cI, 60, .inl c_unders)) :: (c_tied_a, .inl (cI, 36, .inl c_tied)) :: (c_groups_a, .inl (cI, 36, .inl c_groups)) :: E) ++ va_pl L (fun q => .inl (cI, 96, .inl (t_rows q)))) s.heap.size = A at hD ⊢
  have hA : ∀ q : Nat, s.heap.size ≤ q → A q := fun q h => by rw [← hAe]; exact Or.inr h
  have hS : va_S A s.heap s.heap [] := va_S.rf
  have hl := lv_entry ([.ref t_h, .ref l_h, .ref c_h]) (n := 6) (Nat.le_of_ble_eq_true rfl)
  rw [show entryFrame m args 6 = entryFrame m ([.ref t_h, .ref l_h, .ref c_h] : List Value).toArray 6 by rw [hargs], lg_entry_eq]
  generalize (lg_sl ([.ref t_h, .ref l_h, .ref c_h]) ++ List.replicate (6 - (lg_sl ([.ref t_h, .ref l_h, .ref c_h])).length) Slot.unset).toArray = ls at hl ⊢
  have hl : lv_has ls 6 [(0, .ref t_h), (1, .ref l_h), (2, .ref c_h)] := hl
  unfold wX0_gather at h
  suffices hM : ∀ (H : Heap) (locs : List Loc), va_P G vwCl (((t_h, .inr (0, [.int t_width, .int t_height, .ref t_rules_a])) :: (t_rules_a, .inl (cJ, 60, .inr (.inr (.inr (.inr t_rules))))) :: (l_h, .inr (2, [.int l_count, .int l_steps, .ref l_owners_a, .ref l_firsts_a, .ref l_ownersBySteps_a, .ref l_cells_a, .ref l_ends_a, .ref l_rightward_a, .ref l_downward_a])) :: (l_owners_a, .inl (cI, 144, .inl l_owners)) :: (l_firsts_a, .inl (cI, 37, .inl l_firsts)) :: (l_ownersBySteps_a, .inl (cI, 144, .inl l_ownersBySteps)) :: (l_cells_a, .inl (cI, 144, .inl l_cells)) :: (l_ends_a, .inl (cI, 144, .inl l_ends)) :: (l_rightward_a, .inl (cI, 144, .inl l_rightward)) :: (l_downward_a, .inl (cI, 144, .inl l_downward)) :: (c_h, .inr (1, [.int c_arcs, .int c_ties, .ref c_passes_a, .ref c_arcsBySteps_a, .ref c_overs_a, .ref c_unders_a, .ref c_tied_a, .ref c_groups_a])) :: (c_passes_a, .inl (cI, 144, .inl c_passes)) :: (c_arcsBySteps_a, .inl (cI, 144, .inl c_arcsBySteps)) :: (c_overs_a, .inl (cI, 60, .inl c_overs)) :: (c_unders_a, .inl (cI, 60, .inl c_unders)) :: (c_tied_a, .inl (cI, 36, .inl c_tied)) :: (c_groups_a, .inl (cI, 36, .inl c_groups)) :: E) ++ va_pl L (fun q => .inl (cI, 96, .inl (t_rows q)))) H → va_S A s.heap H locs → W p l e (headSpec wsX0_gather rmX0_gather).room s m args below meth c H locs 0 0 (MQ below (va_Qv (fun (u : Int32 × Int32 × (Nat → Nat → Int32)) => Q u.1 u.2.1 u.2.2) (fun (u : Int32 × Int32 × (Nat → Nat → Int32)) t => va_P G vwCl (((t_h, .inr (0, [.int u.1, .int u.2.1, .ref t_rules_a])) :: (t_rules_a, .inl (cJ, 60, .inr (.inr (.inr (.inr t_rules))))) :: (l_h, .inr (2, [.int l_count, .int l_steps, .ref l_owners_a, .ref l_firsts_a, .ref l_ownersBySteps_a, .ref l_cells_a, .ref l_ends_a, .ref l_rightward_a, .ref l_downward_a])) :: (l_owners_a, .inl (cI, 144, .inl l_owners)) :: (l_firsts_a, .inl (cI, 37, .inl l_firsts)) :: (l_ownersBySteps_a, .inl (cI, 144, .inl l_ownersBySteps)) :: (l_cells_a, .inl (cI, 144, .inl l_cells)) :: (l_ends_a, .inl (cI, 144, .inl l_ends)) :: (l_rightward_a, .inl (cI, 144, .inl l_rightward)) :: (l_downward_a, .inl (cI, 144, .inl l_downward)) :: (c_h, .inr (1, [.int c_arcs, .int c_ties, .ref c_passes_a, .ref c_arcsBySteps_a, .ref c_overs_a, .ref c_unders_a, .ref c_tied_a, .ref c_groups_a])) :: (c_passes_a, .inl (cI, 144, .inl c_passes)) :: (c_arcsBySteps_a, .inl (cI, 144, .inl c_arcsBySteps)) :: (c_overs_a, .inl (cI, 60, .inl c_overs)) :: (c_unders_a, .inl (cI, 60, .inl c_unders)) :: (c_tied_a, .inl (cI, 36, .inl c_tied)) :: (c_groups_a, .inl (cI, 36, .inl c_groups)) :: E) ++ va_pl L (fun q => .inl (cI, 96, .inl (u.2.2 q)))) t.heap ∧ va_D A (((t_h, .inr (0, [.int u.1, .int u.2.1, .ref t_rules_a])) :: (t_rules_a, .inl (cJ, 60, .inr (.inr (.inr (.inr t_rules))))) :: (l_h, .inr (2, [.int l_count, .int l_steps, .ref l_owners_a, .ref l_firsts_a, .ref l_ownersBySteps_a, .ref l_cells_a, .ref l_ends_a, .ref l_rightward_a, .ref l_downward_a])) :: (l_owners_a, .inl (cI, 144, .inl l_owners)) :: (l_firsts_a, .inl (cI, 37, .inl l_firsts)) :: (l_ownersBySteps_a, .inl (cI, 144, .inl l_ownersBySteps)) :: (l_cells_a, .inl (cI, 144, .inl l_cells)) :: (l_ends_a, .inl (cI, 144, .inl l_ends)) :: (l_rightward_a, .inl (cI, 144, .inl l_rightward)) :: (l_downward_a, .inl (cI, 144, .inl l_downward)) :: (c_h, .inr (1, [.int c_arcs, .int c_ties, .ref c_passes_a, .ref c_arcsBySteps_a, .ref c_overs_a, .ref c_unders_a, .ref c_tied_a, .ref c_groups_a])) :: (c_passes_a, .inl (cI, 144, .inl c_passes)) :: (c_arcsBySteps_a, .inl (cI, 144, .inl c_arcsBySteps)) :: (c_overs_a, .inl (cI, 60, .inl c_overs)) :: (c_unders_a, .inl (cI, 60, .inl c_unders)) :: (c_tied_a, .inl (cI, 36, .inl c_tied)) :: (c_groups_a, .inl (cI, 36, .inl c_groups)) :: E) ++ va_pl L (fun q => .inl (cI, 96, .inl (u.2.2 q))))) A) args s 0 0 A) (F0 m 0 ls []) from hM _ _ hP hS
  clear hP hS
  intro H locs hP hS
  refine lv_aload_n hx hb dX0_gather_0 rfl (lv_at hl 0 rfl) ?_
  refine lv_aload_n hx hb dX0_gather_1 rfl (lv_at hl 2 rfl) ?_
  refine va_getN (D := G) (ci := 1) (v := .int c_arcs) (C := RX1) (T := TX1) (N := 8) hx hb hts inC1 hown hK.1 hP 10 rfl rfl 0 (by decide) (va_Nw.use rfl (hK.2.1 _ (List.mem_of_getElem? (i := 9) rfl))) (fun _ h9 => h9) rfl dX0_gather_2 ?_
  refine lv_bipush (v := (96 : Int32)) hx hb dX0_gather_5 (by decide) ?_
  refine va_mmin hx hb (hml.trans hl.1.symm) hown (hts _ (List.mem_cons_of_mem _ u50)) (hts _ (List.mem_cons_of_mem _ u51)) (hts _ (List.mem_cons_of_mem _ u52)) (hts _ (List.mem_cons_of_mem _ u53)) (Nat.le_of_ble_eq_true rfl) (Nat.le_of_ble_eq_true rfl) (Nat.zero_le _) (Nat.zero_le _) dX0_gather_7 ?_
  refine va_put (D := G) (ci := 0) (v := .int (if (96 : Int32) < c_arcs then (96 : Int32) else c_arcs)) (ty := .int) (C := RX0) (T := TX0) (N := 3) hx hb hts inC0 tyX0 tyX0_ok nmX0 hown hK.1 hP hD hS 0 rfl rfl 0 (by decide) (hts _ (List.mem_cons_of_mem _ u6)) (fun _ h9 => h9) rfl (by decide +kernel) rfl rfl (Nat.le_of_ble_eq_true rfl) dX0_gather_10 (fun H locs hP hD hS => ?_)
  have hP : va_P G vwCl (((t_h, .inr (0, [.int (if (96 : Int32) < c_arcs then (96 : Int32) else c_arcs), .int t_height, .ref t_rules_a])) :: (t_rules_a, .inl (cJ, 60, .inr (.inr (.inr (.inr t_rules))))) :: (l_h, .inr (2, [.int l_count, .int l_steps, .ref l_owners_a, .ref l_firsts_a, .ref l_ownersBySteps_a, .ref l_cells_a, .ref l_ends_a, .ref l_rightward_a, .ref l_downward_a])) :: (l_owners_a, .inl (cI, 144, .inl l_owners)) :: (l_firsts_a, .inl (cI, 37, .inl l_firsts)) :: (l_ownersBySteps_a, .inl (cI, 144, .inl l_ownersBySteps)) :: (l_cells_a, .inl (cI, 144, .inl l_cells)) :: (l_ends_a, .inl (cI, 144, .inl l_ends)) :: (l_rightward_a, .inl (cI, 144, .inl l_rightward)) :: (l_downward_a, .inl (cI, 144, .inl l_downward)) :: (c_h, .inr (1, [.int c_arcs, .int c_ties, .ref c_passes_a, .ref c_arcsBySteps_a, .ref c_overs_a, .ref c_unders_a, .ref c_tied_a, .ref c_groups_a])) :: (c_passes_a, .inl (cI, 144, .inl c_passes)) :: (c_arcsBySteps_a, .inl (cI, 144, .inl c_arcsBySteps)) :: (c_overs_a, .inl (cI, 60, .inl c_overs)) :: (c_unders_a, .inl (cI, 60, .inl c_unders)) :: (c_tied_a, .inl (cI, 36, .inl c_tied)) :: (c_groups_a, .inl (cI, 36, .inl c_groups)) :: E) ++ va_pl L (fun q => .inl (cI, 96, .inl (t_rows q)))) H := hP
  have hD : va_D A (((t_h, .inr (0, [.int (if (96 : Int32) < c_arcs then (96 : Int32) else c_arcs), .int t_height, .ref t_rules_a])) :: (t_rules_a, .inl (cJ, 60, .inr (.inr (.inr (.inr t_rules))))) :: (l_h, .inr (2, [.int l_count, .int l_steps, .ref l_owners_a, .ref l_firsts_a, .ref l_ownersBySteps_a, .ref l_cells_a, .ref l_ends_a, .ref l_rightward_a, .ref l_downward_a])) :: (l_owners_a, .inl (cI, 144, .inl l_owners)) :: (l_firsts_a, .inl (cI, 37, .inl l_firsts)) :: (l_ownersBySteps_a, .inl (cI, 144, .inl l_ownersBySteps)) :: (l_cells_a, .inl (cI, 144, .inl l_cells)) :: (l_ends_a, .inl (cI, 144, .inl l_ends)) :: (l_rightward_a, .inl (cI, 144, .inl l_rightward)) :: (l_downward_a, .inl (cI, 144, .inl l_downward)) :: (c_h, .inr (1, [.int c_arcs, .int c_ties, .ref c_passes_a, .ref c_arcsBySteps_a, .ref c_overs_a, .ref c_unders_a, .ref c_tied_a, .ref c_groups_a])) :: (c_passes_a, .inl (cI, 144, .inl c_passes)) :: (c_arcsBySteps_a, .inl (cI, 144, .inl c_arcsBySteps)) :: (c_overs_a, .inl (cI, 60, .inl c_overs)) :: (c_unders_a, .inl (cI, 60, .inl c_unders)) :: (c_tied_a, .inl (cI, 36, .inl c_tied)) :: (c_groups_a, .inl (cI, 36, .inl c_groups)) :: E) ++ va_pl L (fun q => .inl (cI, 96, .inl (t_rows q)))) := hD
  refine lv_aload_n hx hb dX0_gather_13 rfl (lv_at hl 0 rfl) ?_
  refine lv_iconst (v := (0 : Int32)) hx hb dX0_gather_14 (by decide) ?_
  refine va_put (D := G) (ci := 0) (v := .int (0 : Int32)) (ty := .int) (C := RX0) (T := TX0) (N := 3) hx hb hts inC0 tyX0 tyX0_ok nmX0 hown hK.1 hP hD hS 0 rfl rfl 1 (by decide) (hts _ (List.mem_cons_of_mem _ u5)) (fun _ h9 => h9) rfl (by decide +kernel) rfl rfl (Nat.le_of_ble_eq_true rfl) dX0_gather_15 (fun H locs hP hD hS => ?_)
  have hP : va_P G vwCl (((t_h, .inr (0, [.int (if (96 : Int32) < c_arcs then (96 : Int32) else c_arcs), .int (0 : Int32), .ref t_rules_a])) :: (t_rules_a, .inl (cJ, 60, .inr (.inr (.inr (.inr t_rules))))) :: (l_h, .inr (2, [.int l_count, .int l_steps, .ref l_owners_a, .ref l_firsts_a, .ref l_ownersBySteps_a, .ref l_cells_a, .ref l_ends_a, .ref l_rightward_a, .ref l_downward_a])) :: (l_owners_a, .inl (cI, 144, .inl l_owners)) :: (l_firsts_a, .inl (cI, 37, .inl l_firsts)) :: (l_ownersBySteps_a, .inl (cI, 144, .inl l_ownersBySteps)) :: (l_cells_a, .inl (cI, 144, .inl l_cells)) :: (l_ends_a, .inl (cI, 144, .inl l_ends)) :: (l_rightward_a, .inl (cI, 144, .inl l_rightward)) :: (l_downward_a, .inl (cI, 144, .inl l_downward)) :: (c_h, .inr (1, [.int c_arcs, .int c_ties, .ref c_passes_a, .ref c_arcsBySteps_a, .ref c_overs_a, .ref c_unders_a, .ref c_tied_a, .ref c_groups_a])) :: (c_passes_a, .inl (cI, 144, .inl c_passes)) :: (c_arcsBySteps_a, .inl (cI, 144, .inl c_arcsBySteps)) :: (c_overs_a, .inl (cI, 60, .inl c_overs)) :: (c_unders_a, .inl (cI, 60, .inl c_unders)) :: (c_tied_a, .inl (cI, 36, .inl c_tied)) :: (c_groups_a, .inl (cI, 36, .inl c_groups)) :: E) ++ va_pl L (fun q => .inl (cI, 96, .inl (t_rows q)))) H := hP
  have hD : va_D A (((t_h, .inr (0, [.int (if (96 : Int32) < c_arcs then (96 : Int32) else c_arcs), .int (0 : Int32), .ref t_rules_a])) :: (t_rules_a, .inl (cJ, 60, .inr (.inr (.inr (.inr t_rules))))) :: (l_h, .inr (2, [.int l_count, .int l_steps, .ref l_owners_a, .ref l_firsts_a, .ref l_ownersBySteps_a, .ref l_cells_a, .ref l_ends_a, .ref l_rightward_a, .ref l_downward_a])) :: (l_owners_a, .inl (cI, 144, .inl l_owners)) :: (l_firsts_a, .inl (cI, 37, .inl l_firsts)) :: (l_ownersBySteps_a, .inl (cI, 144, .inl l_ownersBySteps)) :: (l_cells_a, .inl (cI, 144, .inl l_cells)) :: (l_ends_a, .inl (cI, 144, .inl l_ends)) :: (l_rightward_a, .inl (cI, 144, .inl l_rightward)) :: (l_downward_a, .inl (cI, 144, .inl l_downward)) :: (c_h, .inr (1, [.int c_arcs, .int c_ties, .ref c_passes_a, .ref c_arcsBySteps_a, .ref c_overs_a, .ref c_unders_a, .ref c_tied_a, .ref c_groups_a])) :: (c_passes_a, .inl (cI, 144, .inl c_passes)) :: (c_arcsBySteps_a, .inl (cI, 144, .inl c_arcsBySteps)) :: (c_overs_a, .inl (cI, 60, .inl c_overs)) :: (c_unders_a, .inl (cI, 60, .inl c_unders)) :: (c_tied_a, .inl (cI, 36, .inl c_tied)) :: (c_groups_a, .inl (cI, 36, .inl c_groups)) :: E) ++ va_pl L (fun q => .inl (cI, 96, .inl (t_rows q)))) := hD
  refine lv_iconst (v := (0 : Int32)) hx hb dX0_gather_18 (by decide) ?_
  refine lv_istore_n (lv' := [(3, .int (0 : Int32)), (0, .ref t_h), (1, .ref l_h), (2, .ref c_h)]) hx hb dX0_gather_19 rfl hl (by decide) rfl (fun ls hl => ?_)
  have X1 : ∀ (t_height__126 : Int32) (t_rows__126 : Nat → Nat → Int32) (H : Heap) (locs : List Loc) (ls : Array Slot), wX0_gather_X126 c_arcs Q t_height__126 t_rows__126 → va_P G vwCl (((t_h, .inr (0, [.int (if (96 : Int32) < c_arcs then (96 : Int32) else c_arcs), .int t_height__126, .ref t_rules_a])) :: (t_rules_a, .inl (cJ, 60, .inr (.inr (.inr (.inr t_rules))))) :: (l_h, .inr (2, [.int l_count, .int l_steps, .ref l_owners_a, .ref l_firsts_a, .ref l_ownersBySteps_a, .ref l_cells_a, .ref l_ends_a, .ref l_rightward_a, .ref l_downward_a])) :: (l_owners_a, .inl (cI, 144, .inl l_owners)) :: (l_firsts_a, .inl (cI, 37, .inl l_firsts)) :: (l_ownersBySteps_a, .inl (cI, 144, .inl l_ownersBySteps)) :: (l_cells_a, .inl (cI, 144, .inl l_cells)) :: (l_ends_a, .inl (cI, 144, .inl l_ends)) :: (l_rightward_a, .inl (cI, 144, .inl l_rightward)) :: (l_downward_a, .inl (cI, 144, .inl l_downward)) :: (c_h, .inr (1, [.int c_arcs, .int c_ties, .ref c_passes_a, .ref c_arcsBySteps_a, .ref c_overs_a, .ref c_unders_a, .ref c_tied_a, .ref c_groups_a])) :: (c_passes_a, .inl (cI, 144, .inl c_passes)) :: (c_arcsBySteps_a, .inl (cI, 144, .inl c_arcsBySteps)) :: (c_overs_a, .inl (cI, 60, .inl c_overs)) :: (c_unders_a, .inl (cI, 60, .inl c_unders)) :: (c_tied_a, .inl (cI, 36, .inl c_tied)) :: (c_groups_a, .inl (cI, 36, .inl c_groups)) :: E) ++ va_pl L (fun q => .inl (cI, 96, .inl (t_rows__126 q)))) H → va_D A (((t_h, .inr (0, [.int (if (96 : Int32) < c_arcs then (96 : Int32) else c_arcs), .int t_height__126, .ref t_rules_a])) :: (t_rules_a, .inl (cJ, 60, .inr (.inr (.inr (.inr t_rules))))) :: (l_h, .inr (2, [.int l_count, .int l_steps, .ref l_owners_a, .ref l_firsts_a, .ref l_ownersBySteps_a, .ref l_cells_a, .ref l_ends_a, .ref l_rightward_a, .ref l_downward_a])) :: (l_owners_a, .inl (cI, 144, .inl l_owners)) :: (l_firsts_a, .inl (cI, 37, .inl l_firsts)) :: (l_ownersBySteps_a, .inl (cI, 144, .inl l_ownersBySteps)) :: (l_cells_a, .inl (cI, 144, .inl l_cells)) :: (l_ends_a, .inl (cI, 144, .inl l_ends)) :: (l_rightward_a, .inl (cI, 144, .inl l_rightward)) :: (l_downward_a, .inl (cI, 144, .inl l_downward)) :: (c_h, .inr (1, [.int c_arcs, .int c_ties, .ref c_passes_a, .ref c_arcsBySteps_a, .ref c_overs_a, .ref c_unders_a, .ref c_tied_a, .ref c_groups_a])) :: (c_passes_a, .inl (cI, 144, .inl c_passes)) :: (c_arcsBySteps_a, .inl (cI, 144, .inl c_arcsBySteps)) :: (c_overs_a, .inl (cI, 60, .inl c_overs)) :: (c_unders_a, .inl (cI, 60, .inl c_unders)) :: (c_tied_a, .inl (cI, 36, .inl c_tied)) :: (c_groups_a, .inl (cI, 36, .inl c_groups)) :: E) ++ va_pl L (fun q => .inl (cI, 96, .inl (t_rows__126 q)))) → va_S A s.heap H locs → lv_has ls 6 [] → W p l e (headSpec wsX0_gather rmX0_gather).room s m args below meth c H locs 0 0 (MQ below (va_Qv (fun (u : Int32 × Int32 × (Nat → Nat → Int32)) => Q u.1 u.2.1 u.2.2) (fun (u : Int32 × Int32 × (Nat → Nat → Int32)) t => va_P G vwCl (((t_h, .inr (0, [.int u.1, .int u.2.1, .ref t_rules_a])) :: (t_rules_a, .inl (cJ, 60, .inr (.inr (.inr (.inr t_rules))))) :: (l_h, .inr (2, [.int l_count, .int l_steps, .ref l_owners_a, .ref l_firsts_a, .ref l_ownersBySteps_a, .ref l_cells_a, .ref l_ends_a, .ref l_rightward_a, .ref l_downward_a])) :: (l_owners_a, .inl (cI, 144, .inl l_owners)) :: (l_firsts_a, .inl (cI, 37, .inl l_firsts)) :: (l_ownersBySteps_a, .inl (cI, 144, .inl l_ownersBySteps)) :: (l_cells_a, .inl (cI, 144, .inl l_cells)) :: (l_ends_a, .inl (cI, 144, .inl l_ends)) :: (l_rightward_a, .inl (cI, 144, .inl l_rightward)) :: (l_downward_a, .inl (cI, 144, .inl l_downward)) :: (c_h, .inr (1, [.int c_arcs, .int c_ties, .ref c_passes_a, .ref c_arcsBySteps_a, .ref c_overs_a, .ref c_unders_a, .ref c_tied_a, .ref c_groups_a])) :: (c_passes_a, .inl (cI, 144, .inl c_passes)) :: (c_arcsBySteps_a, .inl (cI, 144, .inl c_arcsBySteps)) :: (c_overs_a, .inl (cI, 60, .inl c_overs)) :: (c_unders_a, .inl (cI, 60, .inl c_unders)) :: (c_tied_a, .inl (cI, 36, .inl c_tied)) :: (c_groups_a, .inl (cI, 36, .inl c_groups)) :: E) ++ va_pl L (fun q => .inl (cI, 96, .inl (u.2.2 q)))) t.heap ∧ va_D A (((t_h, .inr (0, [.int u.1, .int u.2.1, .ref t_rules_a])) :: (t_rules_a, .inl (cJ, 60, .inr (.inr (.inr (.inr t_rules))))) :: (l_h, .inr (2, [.int l_count, .int l_steps, .ref l_owners_a, .ref l_firsts_a, .ref l_ownersBySteps_a, .ref l_cells_a, .ref l_ends_a, .ref l_rightward_a, .ref l_downward_a])) :: (l_owners_a, .inl (cI, 144, .inl l_owners)) :: (l_firsts_a, .inl (cI, 37, .inl l_firsts)) :: (l_ownersBySteps_a, .inl (cI, 144, .inl l_ownersBySteps)) :: (l_cells_a, .inl (cI, 144, .inl l_cells)) :: (l_ends_a, .inl (cI, 144, .inl l_ends)) :: (l_rightward_a, .inl (cI, 144, .inl l_rightward)) :: (l_downward_a, .inl (cI, 144, .inl l_downward)) :: (c_h, .inr (1, [.int c_arcs, .int c_ties, .ref c_passes_a, .ref c_arcsBySteps_a, .ref c_overs_a, .ref c_unders_a, .ref c_tied_a, .ref c_groups_a])) :: (c_passes_a, .inl (cI, 144, .inl c_passes)) :: (c_arcsBySteps_a, .inl (cI, 144, .inl c_arcsBySteps)) :: (c_overs_a, .inl (cI, 60, .inl c_overs)) :: (c_unders_a, .inl (cI, 60, .inl c_unders)) :: (c_tied_a, .inl (cI, 36, .inl c_tied)) :: (c_groups_a, .inl (cI, 36, .inl c_groups)) :: E) ++ va_pl L (fun q => .inl (cI, 96, .inl (u.2.2 q))))) A) args s 0 0 A) (F0 m 126 ls []) := by
    intro t_height__126 t_rows__126 H locs ls h hP hD hS hl
    unfold wX0_gather_X126 at h
    exact W.vret hx hb hr (fun t ht hW => ⟨⟨((if (96 : Int32) < c_arcs then (96 : Int32) else c_arcs), t_height__126, t_rows__126), rfl, h, ⟨by rw [ht]; exact hP, hD⟩⟩, hS.F ht⟩) hS.2.2 dX0_gather_126
  obtain ⟨K20, hK20⟩ : ∃ f : Int32 → (Nat → Nat → Int32) → Prop, f = (wX0_gather_X126 c_arcs Q) := ⟨_, rfl⟩
  replace X1 : ∀ (t_height__126 : Int32) (t_rows__126 : Nat → Nat → Int32) (H : Heap) (locs : List Loc) (ls : Array Slot), K20 t_height__126 t_rows__126 → va_P G vwCl (((t_h, .inr (0, [.int (if (96 : Int32) < c_arcs then (96 : Int32) else c_arcs), .int t_height__126, .ref t_rules_a])) :: (t_rules_a, .inl (cJ, 60, .inr (.inr (.inr (.inr t_rules))))) :: (l_h, .inr (2, [.int l_count, .int l_steps, .ref l_owners_a, .ref l_firsts_a, .ref l_ownersBySteps_a, .ref l_cells_a, .ref l_ends_a, .ref l_rightward_a, .ref l_downward_a])) :: (l_owners_a, .inl (cI, 144, .inl l_owners)) :: (l_firsts_a, .inl (cI, 37, .inl l_firsts)) :: (l_ownersBySteps_a, .inl (cI, 144, .inl l_ownersBySteps)) :: (l_cells_a, .inl (cI, 144, .inl l_cells)) :: (l_ends_a, .inl (cI, 144, .inl l_ends)) :: (l_rightward_a, .inl (cI, 144, .inl l_rightward)) :: (l_downward_a, .inl (cI, 144, .inl l_downward)) :: (c_h, .inr (1, [.int c_arcs, .int c_ties, .ref c_passes_a, .ref c_arcsBySteps_a, .ref c_overs_a, .ref c_unders_a, .ref c_tied_a, .ref c_groups_a])) :: (c_passes_a, .inl (cI, 144, .inl c_passes)) :: (c_arcsBySteps_a, .inl (cI, 144, .inl c_arcsBySteps)) :: (c_overs_a, .inl (cI, 60, .inl c_overs)) :: (c_unders_a, .inl (cI, 60, .inl c_unders)) :: (c_tied_a, .inl (cI, 36, .inl c_tied)) :: (c_groups_a, .inl (cI, 36, .inl c_groups)) :: E) ++ va_pl L (fun q => .inl (cI, 96, .inl (t_rows__126 q)))) H → va_D A (((t_h, .inr (0, [.int (if (96 : Int32) < c_arcs then (96 : Int32) else c_arcs), .int t_height__126, .ref t_rules_a])) :: (t_rules_a, .inl (cJ, 60, .inr (.inr (.inr (.inr t_rules))))) :: (l_h, .inr (2, [.int l_count, .int l_steps, .ref l_owners_a, .ref l_firsts_a, .ref l_ownersBySteps_a, .ref l_cells_a, .ref l_ends_a, .ref l_rightward_a, .ref l_downward_a])) :: (l_owners_a, .inl (cI, 144, .inl l_owners)) :: (l_firsts_a, .inl (cI, 37, .inl l_firsts)) :: (l_ownersBySteps_a, .inl (cI, 144, .inl l_ownersBySteps)) :: (l_cells_a, .inl (cI, 144, .inl l_cells)) :: (l_ends_a, .inl (cI, 144, .inl l_ends)) :: (l_rightward_a, .inl (cI, 144, .inl l_rightward)) :: (l_downward_a, .inl (cI, 144, .inl l_downward)) :: (c_h, .inr (1, [.int c_arcs, .int c_ties, .ref c_passes_a, .ref c_arcsBySteps_a, .ref c_overs_a, .ref c_unders_a, .ref c_tied_a, .ref c_groups_a])) :: (c_passes_a, .inl (cI, 144, .inl c_passes)) :: (c_arcsBySteps_a, .inl (cI, 144, .inl c_arcsBySteps)) :: (c_overs_a, .inl (cI, 60, .inl c_overs)) :: (c_unders_a, .inl (cI, 60, .inl c_unders)) :: (c_tied_a, .inl (cI, 36, .inl c_tied)) :: (c_groups_a, .inl (cI, 36, .inl c_groups)) :: E) ++ va_pl L (fun q => .inl (cI, 96, .inl (t_rows__126 q)))) → va_S A s.heap H locs → lv_has ls 6 [] → W p l e (headSpec wsX0_gather rmX0_gather).room s m args below meth c H locs 0 0 (MQ below (va_Qv (fun (u : Int32 × Int32 × (Nat → Nat → Int32)) => Q u.1 u.2.1 u.2.2) (fun (u : Int32 × Int32 × (Nat → Nat → Int32)) t => va_P G vwCl (((t_h, .inr (0, [.int u.1, .int u.2.1, .ref t_rules_a])) :: (t_rules_a, .inl (cJ, 60, .inr (.inr (.inr (.inr t_rules))))) :: (l_h, .inr (2, [.int l_count, .int l_steps, .ref l_owners_a, .ref l_firsts_a, .ref l_ownersBySteps_a, .ref l_cells_a, .ref l_ends_a, .ref l_rightward_a, .ref l_downward_a])) :: (l_owners_a, .inl (cI, 144, .inl l_owners)) :: (l_firsts_a, .inl (cI, 37, .inl l_firsts)) :: (l_ownersBySteps_a, .inl (cI, 144, .inl l_ownersBySteps)) :: (l_cells_a, .inl (cI, 144, .inl l_cells)) :: (l_ends_a, .inl (cI, 144, .inl l_ends)) :: (l_rightward_a, .inl (cI, 144, .inl l_rightward)) :: (l_downward_a, .inl (cI, 144, .inl l_downward)) :: (c_h, .inr (1, [.int c_arcs, .int c_ties, .ref c_passes_a, .ref c_arcsBySteps_a, .ref c_overs_a, .ref c_unders_a, .ref c_tied_a, .ref c_groups_a])) :: (c_passes_a, .inl (cI, 144, .inl c_passes)) :: (c_arcsBySteps_a, .inl (cI, 144, .inl c_arcsBySteps)) :: (c_overs_a, .inl (cI, 60, .inl c_overs)) :: (c_unders_a, .inl (cI, 60, .inl c_unders)) :: (c_tied_a, .inl (cI, 36, .inl c_tied)) :: (c_groups_a, .inl (cI, 36, .inl c_groups)) :: E) ++ va_pl L (fun q => .inl (cI, 96, .inl (u.2.2 q)))) t.heap ∧ va_D A (((t_h, .inr (0, [.int u.1, .int u.2.1, .ref t_rules_a])) :: (t_rules_a, .inl (cJ, 60, .inr (.inr (.inr (.inr t_rules))))) :: (l_h, .inr (2, [.int l_count, .int l_steps, .ref l_owners_a, .ref l_firsts_a, .ref l_ownersBySteps_a, .ref l_cells_a, .ref l_ends_a, .ref l_rightward_a, .ref l_downward_a])) :: (l_owners_a, .inl (cI, 144, .inl l_owners)) :: (l_firsts_a, .inl (cI, 37, .inl l_firsts)) :: (l_ownersBySteps_a, .inl (cI, 144, .inl l_ownersBySteps)) :: (l_cells_a, .inl (cI, 144, .inl l_cells)) :: (l_ends_a, .inl (cI, 144, .inl l_ends)) :: (l_rightward_a, .inl (cI, 144, .inl l_rightward)) :: (l_downward_a, .inl (cI, 144, .inl l_downward)) :: (c_h, .inr (1, [.int c_arcs, .int c_ties, .ref c_passes_a, .ref c_arcsBySteps_a, .ref c_overs_a, .ref c_unders_a, .ref c_tied_a, .ref c_groups_a])) :: (c_passes_a, .inl (cI, 144, .inl c_passes)) :: (c_arcsBySteps_a, .inl (cI, 144, .inl c_arcsBySteps)) :: (c_overs_a, .inl (cI, 60, .inl c_overs)) :: (c_unders_a, .inl (cI, 60, .inl c_unders)) :: (c_tied_a, .inl (cI, 36, .inl c_tied)) :: (c_groups_a, .inl (cI, 36, .inl c_groups)) :: E) ++ va_pl L (fun q => .inl (cI, 96, .inl (u.2.2 q))))) A) args s 0 0 A) (F0 m 126 ls []) := by rw [hK20]; exact X1
  have R2 : ∀ (n : Nat) (x20_3 : Int32) (t_height__20 : Int32) (t_rows__20 : Nat → Nat → Int32) (H : Heap) (locs : List Loc) (ls : Array Slot), lX0_gather_20 L t_rules l_steps l_firsts l_ownersBySteps c_arcsBySteps c_overs c_unders K20 n x20_3 t_height__20 t_rows__20 → va_P G vwCl (((t_h, .inr (0, [.int (if (96 : Int32) < c_arcs then (96 : Int32) else c_arcs), .int t_height__20, .ref t_rules_a])) :: (t_rules_a, .inl (cJ, 60, .inr (.inr (.inr (.inr t_rules))))) :: (l_h, .inr (2, [.int l_count, .int l_steps, .ref l_owners_a, .ref l_firsts_a, .ref l_ownersBySteps_a, .ref l_cells_a, .ref l_ends_a, .ref l_rightward_a, .ref l_downward_a])) :: (l_owners_a, .inl (cI, 144, .inl l_owners)) :: (l_firsts_a, .inl (cI, 37, .inl l_firsts)) :: (l_ownersBySteps_a, .inl (cI, 144, .inl l_ownersBySteps)) :: (l_cells_a, .inl (cI, 144, .inl l_cells)) :: (l_ends_a, .inl (cI, 144, .inl l_ends)) :: (l_rightward_a, .inl (cI, 144, .inl l_rightward)) :: (l_downward_a, .inl (cI, 144, .inl l_downward)) :: (c_h, .inr (1, [.int c_arcs, .int c_ties, .ref c_passes_a, .ref c_arcsBySteps_a, .ref c_overs_a, .ref c_unders_a, .ref c_tied_a, .ref c_groups_a])) :: (c_passes_a, .inl (cI, 144, .inl c_passes)) :: (c_arcsBySteps_a, .inl (cI, 144, .inl c_arcsBySteps)) :: (c_overs_a, .inl (cI, 60, .inl c_overs)) :: (c_unders_a, .inl (cI, 60, .inl c_unders)) :: (c_tied_a, .inl (cI, 36, .inl c_tied)) :: (c_groups_a, .inl (cI, 36, .inl c_groups)) :: E) ++ va_pl L (fun q => .inl (cI, 96, .inl (t_rows__20 q)))) H → va_D A (((t_h, .inr (0, [.int (if (96 : Int32) < c_arcs then (96 : Int32) else c_arcs), .int t_height__20, .ref t_rules_a])) :: (t_rules_a, .inl (cJ, 60, .inr (.inr (.inr (.inr t_rules))))) :: (l_h, .inr (2, [.int l_count, .int l_steps, .ref l_owners_a, .ref l_firsts_a, .ref l_ownersBySteps_a, .ref l_cells_a, .ref l_ends_a, .ref l_rightward_a, .ref l_downward_a])) :: (l_owners_a, .inl (cI, 144, .inl l_owners)) :: (l_firsts_a, .inl (cI, 37, .inl l_firsts)) :: (l_ownersBySteps_a, .inl (cI, 144, .inl l_ownersBySteps)) :: (l_cells_a, .inl (cI, 144, .inl l_cells)) :: (l_ends_a, .inl (cI, 144, .inl l_ends)) :: (l_rightward_a, .inl (cI, 144, .inl l_rightward)) :: (l_downward_a, .inl (cI, 144, .inl l_downward)) :: (c_h, .inr (1, [.int c_arcs, .int c_ties, .ref c_passes_a, .ref c_arcsBySteps_a, .ref c_overs_a, .ref c_unders_a, .ref c_tied_a, .ref c_groups_a])) :: (c_passes_a, .inl (cI, 144, .inl c_passes)) :: (c_arcsBySteps_a, .inl (cI, 144, .inl c_arcsBySteps)) :: (c_overs_a, .inl (cI, 60, .inl c_overs)) :: (c_unders_a, .inl (cI, 60, .inl c_unders)) :: (c_tied_a, .inl (cI, 36, .inl c_tied)) :: (c_groups_a, .inl (cI, 36, .inl c_groups)) :: E) ++ va_pl L (fun q => .inl (cI, 96, .inl (t_rows__20 q)))) → va_S A s.heap H locs → lv_has ls 6 [(0, .ref t_h), (1, .ref l_h), (2, .ref c_h), (3, .int x20_3)] → W p l e (headSpec wsX0_gather rmX0_gather).room s m args below meth c H locs 0 0 (MQ below (va_Qv (fun (u : Int32 × Int32 × (Nat → Nat → Int32)) => Q u.1 u.2.1 u.2.2) (fun (u : Int32 × Int32 × (Nat → Nat → Int32)) t => va_P G vwCl (((t_h, .inr (0, [.int u.1, .int u.2.1, .ref t_rules_a])) :: (t_rules_a, .inl (cJ, 60, .inr (.inr (.inr (.inr t_rules))))) :: (l_h, .inr (2, [.int l_count, .int l_steps, .ref l_owners_a, .ref l_firsts_a, .ref l_ownersBySteps_a, .ref l_cells_a, .ref l_ends_a, .ref l_rightward_a, .ref l_downward_a])) :: (l_owners_a, .inl (cI, 144, .inl l_owners)) :: (l_firsts_a, .inl (cI, 37, .inl l_firsts)) :: (l_ownersBySteps_a, .inl (cI, 144, .inl l_ownersBySteps)) :: (l_cells_a, .inl (cI, 144, .inl l_cells)) :: (l_ends_a, .inl (cI, 144, .inl l_ends)) :: (l_rightward_a, .inl (cI, 144, .inl l_rightward)) :: (l_downward_a, .inl (cI, 144, .inl l_downward)) :: (c_h, .inr (1, [.int c_arcs, .int c_ties, .ref c_passes_a, .ref c_arcsBySteps_a, .ref c_overs_a, .ref c_unders_a, .ref c_tied_a, .ref c_groups_a])) :: (c_passes_a, .inl (cI, 144, .inl c_passes)) :: (c_arcsBySteps_a, .inl (cI, 144, .inl c_arcsBySteps)) :: (c_overs_a, .inl (cI, 60, .inl c_overs)) :: (c_unders_a, .inl (cI, 60, .inl c_unders)) :: (c_tied_a, .inl (cI, 36, .inl c_tied)) :: (c_groups_a, .inl (cI, 36, .inl c_groups)) :: E) ++ va_pl L (fun q => .inl (cI, 96, .inl (u.2.2 q)))) t.heap ∧ va_D A (((t_h, .inr (0, [.int u.1, .int u.2.1, .ref t_rules_a])) :: (t_rules_a, .inl (cJ, 60, .inr (.inr (.inr (.inr t_rules))))) :: (l_h, .inr (2, [.int l_count, .int l_steps, .ref l_owners_a, .ref l_firsts_a, .ref l_ownersBySteps_a, .ref l_cells_a, .ref l_ends_a, .ref l_rightward_a, .ref l_downward_a])) :: (l_owners_a, .inl (cI, 144, .inl l_owners)) :: (l_firsts_a, .inl (cI, 37, .inl l_firsts)) :: (l_ownersBySteps_a, .inl (cI, 144, .inl l_ownersBySteps)) :: (l_cells_a, .inl (cI, 144, .inl l_cells)) :: (l_ends_a, .inl (cI, 144, .inl l_ends)) :: (l_rightward_a, .inl (cI, 144, .inl l_rightward)) :: (l_downward_a, .inl (cI, 144, .inl l_downward)) :: (c_h, .inr (1, [.int c_arcs, .int c_ties, .ref c_passes_a, .ref c_arcsBySteps_a, .ref c_overs_a, .ref c_unders_a, .ref c_tied_a, .ref c_groups_a])) :: (c_passes_a, .inl (cI, 144, .inl c_passes)) :: (c_arcsBySteps_a, .inl (cI, 144, .inl c_arcsBySteps)) :: (c_overs_a, .inl (cI, 60, .inl c_overs)) :: (c_unders_a, .inl (cI, 60, .inl c_unders)) :: (c_tied_a, .inl (cI, 36, .inl c_tied)) :: (c_groups_a, .inl (cI, 36, .inl c_groups)) :: E) ++ va_pl L (fun q => .inl (cI, 96, .inl (u.2.2 q))))) A) args s 0 0 A) (F0 m 20 ls []) := by
    intro n
    induction n with
    | zero => intro x20_3 t_height__20 t_rows__20 H locs ls h; exact False.elim h
    | succ n ih =>
      obtain ⟨R20, hR20⟩ : ∃ f : Int32 → Int32 → (Nat → Nat → Int32) → Prop, f = (fun x20_3 t_height__20 t_rows__20 => lX0_gather_20 L t_rules l_steps l_firsts l_ownersBySteps c_arcsBySteps c_overs c_unders K20 n x20_3 t_height__20 t_rows__20) := ⟨_, rfl⟩
      replace ih : ∀ (x20_3 : Int32) (t_height__20 : Int32) (t_rows__20 : Nat → Nat → Int32) (H : Heap) (locs : List Loc) (ls : Array Slot), R20 x20_3 t_height__20 t_rows__20 → va_P G vwCl (((t_h, .inr (0, [.int (if (96 : Int32) < c_arcs then (96 : Int32) else c_arcs), .int t_height__20, .ref t_rules_a])) :: (t_rules_a, .inl (cJ, 60, .inr (.inr (.inr (.inr t_rules))))) :: (l_h, .inr (2, [.int l_count, .int l_steps, .ref l_owners_a, .ref l_firsts_a, .ref l_ownersBySteps_a, .ref l_cells_a, .ref l_ends_a, .ref l_rightward_a, .ref l_downward_a])) :: (l_owners_a, .inl (cI, 144, .inl l_owners)) :: (l_firsts_a, .inl (cI, 37, .inl l_firsts)) :: (l_ownersBySteps_a, .inl (cI, 144, .inl l_ownersBySteps)) :: (l_cells_a, .inl (cI, 144, .inl l_cells)) :: (l_ends_a, .inl (cI, 144, .inl l_ends)) :: (l_rightward_a, .inl (cI, 144, .inl l_rightward)) :: (l_downward_a, .inl (cI, 144, .inl l_downward)) :: (c_h, .inr (1, [.int c_arcs, .int c_ties, .ref c_passes_a, .ref c_arcsBySteps_a, .ref c_overs_a, .ref c_unders_a, .ref c_tied_a, .ref c_groups_a])) :: (c_passes_a, .inl (cI, 144, .inl c_passes)) :: (c_arcsBySteps_a, .inl (cI, 144, .inl c_arcsBySteps)) :: (c_overs_a, .inl (cI, 60, .inl c_overs)) :: (c_unders_a, .inl (cI, 60, .inl c_unders)) :: (c_tied_a, .inl (cI, 36, .inl c_tied)) :: (c_groups_a, .inl (cI, 36, .inl c_groups)) :: E) ++ va_pl L (fun q => .inl (cI, 96, .inl (t_rows__20 q)))) H → va_D A (((t_h, .inr (0, [.int (if (96 : Int32) < c_arcs then (96 : Int32) else c_arcs), .int t_height__20, .ref t_rules_a])) :: (t_rules_a, .inl (cJ, 60, .inr (.inr (.inr (.inr t_rules))))) :: (l_h, .inr (2, [.int l_count, .int l_steps, .ref l_owners_a, .ref l_firsts_a, .ref l_ownersBySteps_a, .ref l_cells_a, .ref l_ends_a, .ref l_rightward_a, .ref l_downward_a])) :: (l_owners_a, .inl (cI, 144, .inl l_owners)) :: (l_firsts_a, .inl (cI, 37, .inl l_firsts)) :: (l_ownersBySteps_a, .inl (cI, 144, .inl l_ownersBySteps)) :: (l_cells_a, .inl (cI, 144, .inl l_cells)) :: (l_ends_a, .inl (cI, 144, .inl l_ends)) :: (l_rightward_a, .inl (cI, 144, .inl l_rightward)) :: (l_downward_a, .inl (cI, 144, .inl l_downward)) :: (c_h, .inr (1, [.int c_arcs, .int c_ties, .ref c_passes_a, .ref c_arcsBySteps_a, .ref c_overs_a, .ref c_unders_a, .ref c_tied_a, .ref c_groups_a])) :: (c_passes_a, .inl (cI, 144, .inl c_passes)) :: (c_arcsBySteps_a, .inl (cI, 144, .inl c_arcsBySteps)) :: (c_overs_a, .inl (cI, 60, .inl c_overs)) :: (c_unders_a, .inl (cI, 60, .inl c_unders)) :: (c_tied_a, .inl (cI, 36, .inl c_tied)) :: (c_groups_a, .inl (cI, 36, .inl c_groups)) :: E) ++ va_pl L (fun q => .inl (cI, 96, .inl (t_rows__20 q)))) → va_S A s.heap H locs → lv_has ls 6 [(0, .ref t_h), (1, .ref l_h), (2, .ref c_h), (3, .int x20_3)] → W p l e (headSpec wsX0_gather rmX0_gather).room s m args below meth c H locs 0 0 (MQ below (va_Qv (fun (u : Int32 × Int32 × (Nat → Nat → Int32)) => Q u.1 u.2.1 u.2.2) (fun (u : Int32 × Int32 × (Nat → Nat → Int32)) t => va_P G vwCl (((t_h, .inr (0, [.int u.1, .int u.2.1, .ref t_rules_a])) :: (t_rules_a, .inl (cJ, 60, .inr (.inr (.inr (.inr t_rules))))) :: (l_h, .inr (2, [.int l_count, .int l_steps, .ref l_owners_a, .ref l_firsts_a, .ref l_ownersBySteps_a, .ref l_cells_a, .ref l_ends_a, .ref l_rightward_a, .ref l_downward_a])) :: (l_owners_a, .inl (cI, 144, .inl l_owners)) :: (l_firsts_a, .inl (cI, 37, .inl l_firsts)) :: (l_ownersBySteps_a, .inl (cI, 144, .inl l_ownersBySteps)) :: (l_cells_a, .inl (cI, 144, .inl l_cells)) :: (l_ends_a, .inl (cI, 144, .inl l_ends)) :: (l_rightward_a, .inl (cI, 144, .inl l_rightward)) :: (l_downward_a, .inl (cI, 144, .inl l_downward)) :: (c_h, .inr (1, [.int c_arcs, .int c_ties, .ref c_passes_a, .ref c_arcsBySteps_a, .ref c_overs_a, .ref c_unders_a, .ref c_tied_a, .ref c_groups_a])) :: (c_passes_a, .inl (cI, 144, .inl c_passes)) :: (c_arcsBySteps_a, .inl (cI, 144, .inl c_arcsBySteps)) :: (c_overs_a, .inl (cI, 60, .inl c_overs)) :: (c_unders_a, .inl (cI, 60, .inl c_unders)) :: (c_tied_a, .inl (cI, 36, .inl c_tied)) :: (c_groups_a, .inl (cI, 36, .inl c_groups)) :: E) ++ va_pl L (fun q => .inl (cI, 96, .inl (u.2.2 q)))) t.heap ∧ va_D A (((t_h, .inr (0, [.int u.1, .int u.2.1, .ref t_rules_a])) :: (t_rules_a, .inl (cJ, 60, .inr (.inr (.inr (.inr t_rules))))) :: (l_h, .inr (2, [.int l_count, .int l_steps, .ref l_owners_a, .ref l_firsts_a, .ref l_ownersBySteps_a, .ref l_cells_a, .ref l_ends_a, .ref l_rightward_a, .ref l_downward_a])) :: (l_owners_a, .inl (cI, 144, .inl l_owners)) :: (l_firsts_a, .inl (cI, 37, .inl l_firsts)) :: (l_ownersBySteps_a, .inl (cI, 144, .inl l_ownersBySteps)) :: (l_cells_a, .inl (cI, 144, .inl l_cells)) :: (l_ends_a, .inl (cI, 144, .inl l_ends)) :: (l_rightward_a, .inl (cI, 144, .inl l_rightward)) :: (l_downward_a, .inl (cI, 144, .inl l_downward)) :: (c_h, .inr (1, [.int c_arcs, .int c_ties, .ref c_passes_a, .ref c_arcsBySteps_a, .ref c_overs_a, .ref c_unders_a, .ref c_tied_a, .ref c_groups_a])) :: (c_passes_a, .inl (cI, 144, .inl c_passes)) :: (c_arcsBySteps_a, .inl (cI, 144, .inl c_arcsBySteps)) :: (c_overs_a, .inl (cI, 60, .inl c_overs)) :: (c_unders_a, .inl (cI, 60, .inl c_unders)) :: (c_tied_a, .inl (cI, 36, .inl c_tied)) :: (c_groups_a, .inl (cI, 36, .inl c_groups)) :: E) ++ va_pl L (fun q => .inl (cI, 96, .inl (u.2.2 q))))) A) args s 0 0 A) (F0 m 20 ls []) := by rw [hR20]; exact ih
      intro x20_3 t_height__20 t_rows__20 H locs ls h hP hD hS hl
      have h : bX0_gather_20 L t_rules l_steps l_firsts l_ownersBySteps c_arcsBySteps c_overs c_unders K20 R20 x20_3 t_height__20 t_rows__20 := by rw [hR20]; exact h
      clear hR20
      unfold bX0_gather_20 at h
      refine lv_iload_n hx hb dX0_gather_20 rfl (lv_at hl 3 rfl) ?_
      refine lv_bipush (v := (60 : Int32)) hx hb dX0_gather_21 (by decide) ?_
      refine lv_icmp_ge (tgt := 126) hx hb dX0_gather_23 (by decide) (fun q7 => ?_) (fun q7 => ?_)
      · have h := (if_pos q7).mp h
        exact X1 t_height__20 t_rows__20 _ _ _ h hP hD hS (lv_sub hl [] rfl)
      · have h := (if_neg q7).mp h
        refine lv_aload_n hx hb dX0_gather_26 rfl (lv_at hl 0 rfl) ?_
        refine va_get (D := G) (ci := 0) (v := .int t_height__20) (C := RX0) (T := TX0) (N := 3) hx hb hts inC0 hown hK.1 hP 0 rfl rfl 1 (by decide) (hts _ (List.mem_cons_of_mem _ u5)) (fun _ h9 => h9) rfl dX0_gather_27 ?_
        refine lv_bipush (v := (60 : Int32)) hx hb dX0_gather_30 (by decide) ?_
        refine lv_icmp_ge (tgt := 126) hx hb dX0_gather_32 (by decide) (fun q6 => ?_) (fun q6 => ?_)
        · have h := (if_pos q6).mp h
          exact X1 t_height__20 t_rows__20 _ _ _ h hP hD hS (lv_sub hl [] rfl)
        · have h := (if_neg q6).mp h
          refine lv_aload_n hx hb dX0_gather_35 rfl (lv_at hl 2 rfl) ?_
          refine lv_iload_n hx hb dX0_gather_36 rfl (lv_at hl 3 rfl) ?_
          refine rdi (va_runVN (As := [.int x20_3]) (rest := []) ⟨hx, hb, hml, hown, hts⟩ (kX1_isHere (ws := (((t_h, .inr (0, [.int (if (96 : Int32) < c_arcs then (96 : Int32) else c_arcs), .int t_height__20, .ref t_rules_a])) :: (t_rules_a, .inl (cJ, 60, .inr (.inr (.inr (.inr t_rules))))) :: (l_h, .inr (2, [.int l_count, .int l_steps, .ref l_owners_a, .ref l_firsts_a, .ref l_ownersBySteps_a, .ref l_cells_a, .ref l_ends_a, .ref l_rightward_a, .ref l_downward_a])) :: (l_owners_a, .inl (cI, 144, .inl l_owners)) :: (l_firsts_a, .inl (cI, 37, .inl l_firsts)) :: (l_ownersBySteps_a, .inl (cI, 144, .inl l_ownersBySteps)) :: (l_cells_a, .inl (cI, 144, .inl l_cells)) :: (l_ends_a, .inl (cI, 144, .inl l_ends)) :: (l_rightward_a, .inl (cI, 144, .inl l_rightward)) :: (l_downward_a, .inl (cI, 144, .inl l_downward)) :: (c_h, .inr (1, [.int c_arcs, .int c_ties, .ref c_passes_a, .ref c_arcsBySteps_a, .ref c_overs_a, .ref c_unders_a, .ref c_tied_a, .ref c_groups_a])) :: (c_passes_a, .inl (cI, 144, .inl c_passes)) :: (c_arcsBySteps_a, .inl (cI, 144, .inl c_arcsBySteps)) :: (c_overs_a, .inl (cI, 60, .inl c_overs)) :: (c_unders_a, .inl (cI, 60, .inl c_unders)) :: (c_tied_a, .inl (cI, 36, .inl c_tied)) :: (c_groups_a, .inl (cI, 36, .inl c_groups)) :: E) ++ va_pl L (fun q => .inl (cI, 96, .inl (t_rows__20 q))))) 10 13 14 c_h c_passes_a c_arcsBySteps_a c_overs_a c_unders_a c_tied_a c_groups_a c_arcs c_ties c_overs c_unders rfl rfl rfl x20_3 h _) ⟨va_cnB 1 hts (gIn (aN u47)) rfl rfl rfl (hK.2.2.1 _ (List.mem_of_getElem? (i := 59) rfl)) (hts _ (List.mem_cons_of_mem _ u14)) (by decide +kernel) ⟨Nat.le_of_ble_eq_true rfl, Nat.le_of_ble_eq_true rfl⟩, (hts _ (List.mem_cons_of_mem _ u48)), (hts _ (List.mem_cons_of_mem _ u49))⟩ (pV hK hP hD (ci := 1) (q0 := 10) rfl rfl) rfl rfl hl.1 rfl (lv_room (Nat.le_of_ble_eq_true rfl)) dX0_gather_37 ⟨Nat.zero_le _, Nat.zero_le _⟩) hP hS hA hD (fun r37 H locs h hP hS => ?_)
          refine lv_if_eq (tgt := 120) hx hb dX0_gather_40 (by decide) (fun q5 => ?_) (fun q5 => ?_)
          · have h := (if_pos q5).mp h
            refine lv_iinc (v := (x20_3 + (1 : Int32))) (lv' := [(3, .int (x20_3 + (1 : Int32))), (0, .ref t_h), (1, .ref l_h), (2, .ref c_h)]) hx hb dX0_gather_120 hl (k := 3) rfl rfl (by decide) rfl (fun ls hl => ?_)
            refine lv_goto (tgt := 20) hx hb dX0_gather_123 (by decide) ?_
            exact ih (x20_3 + (1 : Int32)) t_height__20 t_rows__20 _ _ _ h hP hD hS (lv_sub hl [1, 2, 3, 0] rfl)
          · have h := (if_neg q5).mp h
            refine lv_aload_n hx hb dX0_gather_43 rfl (lv_at hl 0 rfl) ?_
            refine va_get (D := G) (ci := 0) (v := .ref t_rules_a) (C := RX0) (T := TX0) (N := 3) hx hb hts inC0 hown hK.1 hP 0 rfl rfl 2 (by decide) (hts _ (List.mem_cons_of_mem _ u4)) (fun _ h9 => h9) rfl dX0_gather_44 ?_
            refine lv_aload_n hx hb dX0_gather_47 rfl (lv_at hl 0 rfl) ?_
            refine va_get (D := G) (ci := 0) (v := .int t_height__20) (C := RX0) (T := TX0) (N := 3) hx hb hts inC0 hown hK.1 hP 0 rfl rfl 1 (by decide) (hts _ (List.mem_cons_of_mem _ u5)) (fun _ h9 => h9) rfl dX0_gather_48 ?_
            obtain ⟨i3, h⟩ := h
            obtain ⟨y4, hey4, hLy4, h⟩ := h
            refine zw_ald (y := y4) hx hb hK.1 hP 1 3 rfl rfl i3 hey4 dX0_gather_51 ?_
            refine lv_astore (lv' := [(4, .ref y4), (0, .ref t_h), (1, .ref l_h), (2, .ref c_h), (3, .int x20_3)]) hx hb dX0_gather_52 hl (by decide) rfl (fun ls hl => ?_)
            refine lv_aload_n hx hb dX0_gather_54 rfl (lv_at hl 1 rfl) ?_
            refine lv_dup hx hb dX0_gather_55 rfl ?_
            refine va_get (D := G) (ci := 0) (v := .int t_height__20) (C := RX0) (T := TX0) (N := 3) hx hb hts inC0 hown hK.1 hP 0 rfl rfl 1 (by decide) (hts _ (List.mem_cons_of_mem _ u5)) (fun _ h9 => h9) rfl dX0_gather_56 ?_
            refine lv_iconst (v := (1 : Int32)) hx hb dX0_gather_59 (by decide) ?_
            refine lv_iadd hx hb dX0_gather_60 ?_
            refine va_put (D := G) (ci := 0) (v := .int (t_height__20 + (1 : Int32))) (ty := .int) (C := RX0) (T := TX0) (N := 3) hx hb hts inC0 tyX0 tyX0_ok nmX0 hown hK.1 hP hD hS 0 rfl rfl 1 (by decide) (hts _ (List.mem_cons_of_mem _ u5)) (fun _ h9 => h9) rfl (by decide +kernel) rfl rfl (Nat.le_of_ble_eq_true rfl) dX0_gather_61 (fun H locs hP hD hS => ?_)
            have hP : va_P G vwCl (((t_h, .inr (0, [.int (if (96 : Int32) < c_arcs then (96 : Int32) else c_arcs), .int (t_height__20 + (1 : Int32)), .ref t_rules_a])) :: (t_rules_a, .inl (cJ, 60, .inr (.inr (.inr (.inr t_rules))))) :: (l_h, .inr (2, [.int l_count, .int l_steps, .ref l_owners_a, .ref l_firsts_a, .ref l_ownersBySteps_a, .ref l_cells_a, .ref l_ends_a, .ref l_rightward_a, .ref l_downward_a])) :: (l_owners_a, .inl (cI, 144, .inl l_owners)) :: (l_firsts_a, .inl (cI, 37, .inl l_firsts)) :: (l_ownersBySteps_a, .inl (cI, 144, .inl l_ownersBySteps)) :: (l_cells_a, .inl (cI, 144, .inl l_cells)) :: (l_ends_a, .inl (cI, 144, .inl l_ends)) :: (l_rightward_a, .inl (cI, 144, .inl l_rightward)) :: (l_downward_a, .inl (cI, 144, .inl l_downward)) :: (c_h, .inr (1, [.int c_arcs, .int c_ties, .ref c_passes_a, .ref c_arcsBySteps_a, .ref c_overs_a, .ref c_unders_a, .ref c_tied_a, .ref c_groups_a])) :: (c_passes_a, .inl (cI, 144, .inl c_passes)) :: (c_arcsBySteps_a, .inl (cI, 144, .inl c_arcsBySteps)) :: (c_overs_a, .inl (cI, 60, .inl c_overs)) :: (c_unders_a, .inl (cI, 60, .inl c_unders)) :: (c_tied_a, .inl (cI, 36, .inl c_tied)) :: (c_groups_a, .inl (cI, 36, .inl c_groups)) :: E) ++ va_pl L (fun q => .inl (cI, 96, .inl (t_rows__20 q)))) H := hP
            have hD : va_D A (((t_h, .inr (0, [.int (if (96 : Int32) < c_arcs then (96 : Int32) else c_arcs), .int (t_height__20 + (1 : Int32)), .ref t_rules_a])) :: (t_rules_a, .inl (cJ, 60, .inr (.inr (.inr (.inr t_rules))))) :: (l_h, .inr (2, [.int l_count, .int l_steps, .ref l_owners_a, .ref l_firsts_a, .ref l_ownersBySteps_a, .ref l_cells_a, .ref l_ends_a, .ref l_rightward_a, .ref l_downward_a])) :: (l_owners_a, .inl (cI, 144, .inl l_owners)) :: (l_firsts_a, .inl (cI, 37, .inl l_firsts)) :: (l_ownersBySteps_a, .inl (cI, 144, .inl l_ownersBySteps)) :: (l_cells_a, .inl (cI, 144, .inl l_cells)) :: (l_ends_a, .inl (cI, 144, .inl l_ends)) :: (l_rightward_a, .inl (cI, 144, .inl l_rightward)) :: (l_downward_a, .inl (cI, 144, .inl l_downward)) :: (c_h, .inr (1, [.int c_arcs, .int c_ties, .ref c_passes_a, .ref c_arcsBySteps_a, .ref c_overs_a, .ref c_unders_a, .ref c_tied_a, .ref c_groups_a])) :: (c_passes_a, .inl (cI, 144, .inl c_passes)) :: (c_arcsBySteps_a, .inl (cI, 144, .inl c_arcsBySteps)) :: (c_overs_a, .inl (cI, 60, .inl c_overs)) :: (c_unders_a, .inl (cI, 60, .inl c_unders)) :: (c_tied_a, .inl (cI, 36, .inl c_tied)) :: (c_groups_a, .inl (cI, 36, .inl c_groups)) :: E) ++ va_pl L (fun q => .inl (cI, 96, .inl (t_rows__20 q)))) := hD
            refine lv_aload_n hx hb dX0_gather_64 rfl (lv_at hl 3 rfl) ?_
            refine lv_iload_n hx hb dX0_gather_65 rfl (lv_at hl 4 rfl) ?_
            refine rdi (va_runVN (As := [.int x20_3]) (rest := []) ⟨hx, hb, hml, hown, hts⟩ (kX1_underAt (ws := (((t_h, .inr (0, [.int (if (96 : Int32) < c_arcs then (96 : Int32) else c_arcs), .int (t_height__20 + (1 : Int32)), .ref t_rules_a])) :: (t_rules_a, .inl (cJ, 60, .inr (.inr (.inr (.inr t_rules))))) :: (l_h, .inr (2, [.int l_count, .int l_steps, .ref l_owners_a, .ref l_firsts_a, .ref l_ownersBySteps_a, .ref l_cells_a, .ref l_ends_a, .ref l_rightward_a, .ref l_downward_a])) :: (l_owners_a, .inl (cI, 144, .inl l_owners)) :: (l_firsts_a, .inl (cI, 37, .inl l_firsts)) :: (l_ownersBySteps_a, .inl (cI, 144, .inl l_ownersBySteps)) :: (l_cells_a, .inl (cI, 144, .inl l_cells)) :: (l_ends_a, .inl (cI, 144, .inl l_ends)) :: (l_rightward_a, .inl (cI, 144, .inl l_rightward)) :: (l_downward_a, .inl (cI, 144, .inl l_downward)) :: (c_h, .inr (1, [.int c_arcs, .int c_ties, .ref c_passes_a, .ref c_arcsBySteps_a, .ref c_overs_a, .ref c_unders_a, .ref c_tied_a, .ref c_groups_a])) :: (c_passes_a, .inl (cI, 144, .inl c_passes)) :: (c_arcsBySteps_a, .inl (cI, 144, .inl c_arcsBySteps)) :: (c_overs_a, .inl (cI, 60, .inl c_overs)) :: (c_unders_a, .inl (cI, 60, .inl c_unders)) :: (c_tied_a, .inl (cI, 36, .inl c_tied)) :: (c_groups_a, .inl (cI, 36, .inl c_groups)) :: E) ++ va_pl L (fun q => .inl (cI, 96, .inl (t_rows__20 q))))) 10 14 c_h c_passes_a c_arcsBySteps_a c_overs_a c_unders_a c_tied_a c_groups_a c_arcs c_ties c_unders rfl rfl x20_3 h _) ⟨va_cnB 1 hts (gIn (aN u15)) rfl rfl rfl (hK.2.2.1 _ (List.mem_of_getElem? (i := 60) rfl)) (hts _ (List.mem_cons_of_mem _ u14)) (by decide +kernel) ⟨Nat.le_of_ble_eq_true rfl, Nat.le_of_ble_eq_true rfl⟩, (hts _ (List.mem_cons_of_mem _ u12)), (hts _ (List.mem_cons_of_mem _ u13))⟩ (pV hK hP hD (ci := 1) (q0 := 10) rfl rfl) rfl rfl hl.1 rfl (lv_room (Nat.le_of_ble_eq_true rfl)) dX0_gather_66 ⟨Nat.zero_le _, Nat.zero_le _⟩) hP hS hA hD (fun r66 H locs h hP hS => ?_)
            refine lv_istore (lv' := [(5, .int r66), (4, .ref y4), (0, .ref t_h), (1, .ref l_h), (2, .ref c_h), (3, .int x20_3)]) hx hb dX0_gather_69 hl (by decide) rfl (fun ls hl => ?_)
            refine lv_aload hx hb dX0_gather_71 (lv_at hl 1 rfl) ?_
            refine lv_iconst (v := (0 : Int32)) hx hb dX0_gather_73 (by decide) ?_
            obtain ⟨hPc, hDc, hFc⟩ := zw_row hP hD hS hA hLy4
            refine va_callv (va_runS (As := [.ref y4, .int (0 : Int32)]) (rest := []) ⟨hx, hb, hml, hown, hts⟩ (kJ7_fill_53178 y4 96 (t_rows__20 y4) (0 : Int32) h _) (va_cwS 2 hts (gIn (aS u43 u44 u45 u46)) rfl rfl rfl (by decide +kernel) ⟨Nat.le_of_ble_eq_true rfl, Nat.le_of_ble_eq_true rfl⟩) (pS hK hPc hDc) rfl rfl hl.1 rfl (lv_room (Nat.le_of_ble_eq_true rfl)) dX0_gather_74 ⟨Nat.zero_le _, Nat.zero_le _⟩) hS (fun q _ h => hFc q h) hFc (fun u t H1 locs ht hvm hw hB hz1 hk1 hS => ?_)
            obtain ⟨t_rows__74, rfl⟩ : ∃ z, z = u := ⟨_, rfl⟩
            obtain ⟨hP1, hD1⟩ := hB
            rw [ht] at hP1
            obtain ⟨hP, hD⟩ := zw_back hP hD hLy4 hk1 hP1
            generalize H1 = H at hP hS ⊢
            have hP : va_P G vwCl (((t_h, .inr (0, [.int (if (96 : Int32) < c_arcs then (96 : Int32) else c_arcs), .int (t_height__20 + (1 : Int32)), .ref t_rules_a])) :: (t_rules_a, .inl (cJ, 60, .inr (.inr (.inr (.inr t_rules))))) :: (l_h, .inr (2, [.int l_count, .int l_steps, .ref l_owners_a, .ref l_firsts_a, .ref l_ownersBySteps_a, .ref l_cells_a, .ref l_ends_a, .ref l_rightward_a, .ref l_downward_a])) :: (l_owners_a, .inl (cI, 144, .inl l_owners)) :: (l_firsts_a, .inl (cI, 37, .inl l_firsts)) :: (l_ownersBySteps_a, .inl (cI, 144, .inl l_ownersBySteps)) :: (l_cells_a, .inl (cI, 144, .inl l_cells)) :: (l_ends_a, .inl (cI, 144, .inl l_ends)) :: (l_rightward_a, .inl (cI, 144, .inl l_rightward)) :: (l_downward_a, .inl (cI, 144, .inl l_downward)) :: (c_h, .inr (1, [.int c_arcs, .int c_ties, .ref c_passes_a, .ref c_arcsBySteps_a, .ref c_overs_a, .ref c_unders_a, .ref c_tied_a, .ref c_groups_a])) :: (c_passes_a, .inl (cI, 144, .inl c_passes)) :: (c_arcsBySteps_a, .inl (cI, 144, .inl c_arcsBySteps)) :: (c_overs_a, .inl (cI, 60, .inl c_overs)) :: (c_unders_a, .inl (cI, 60, .inl c_unders)) :: (c_tied_a, .inl (cI, 36, .inl c_tied)) :: (c_groups_a, .inl (cI, 36, .inl c_groups)) :: E) ++ va_pl L (fun q => .inl (cI, 96, .inl ((va_up t_rows__20 y4 t_rows__74) q)))) H := hP
            have hD : va_D A (((t_h, .inr (0, [.int (if (96 : Int32) < c_arcs then (96 : Int32) else c_arcs), .int (t_height__20 + (1 : Int32)), .ref t_rules_a])) :: (t_rules_a, .inl (cJ, 60, .inr (.inr (.inr (.inr t_rules))))) :: (l_h, .inr (2, [.int l_count, .int l_steps, .ref l_owners_a, .ref l_firsts_a, .ref l_ownersBySteps_a, .ref l_cells_a, .ref l_ends_a, .ref l_rightward_a, .ref l_downward_a])) :: (l_owners_a, .inl (cI, 144, .inl l_owners)) :: (l_firsts_a, .inl (cI, 37, .inl l_firsts)) :: (l_ownersBySteps_a, .inl (cI, 144, .inl l_ownersBySteps)) :: (l_cells_a, .inl (cI, 144, .inl l_cells)) :: (l_ends_a, .inl (cI, 144, .inl l_ends)) :: (l_rightward_a, .inl (cI, 144, .inl l_rightward)) :: (l_downward_a, .inl (cI, 144, .inl l_downward)) :: (c_h, .inr (1, [.int c_arcs, .int c_ties, .ref c_passes_a, .ref c_arcsBySteps_a, .ref c_overs_a, .ref c_unders_a, .ref c_tied_a, .ref c_groups_a])) :: (c_passes_a, .inl (cI, 144, .inl c_passes)) :: (c_arcsBySteps_a, .inl (cI, 144, .inl c_arcsBySteps)) :: (c_overs_a, .inl (cI, 60, .inl c_overs)) :: (c_unders_a, .inl (cI, 60, .inl c_unders)) :: (c_tied_a, .inl (cI, 36, .inl c_tied)) :: (c_groups_a, .inl (cI, 36, .inl c_groups)) :: E) ++ va_pl L (fun q => .inl (cI, 96, .inl ((va_up t_rows__20 y4 t_rows__74) q)))) := hD
            have h := hw
            clear hw
            refine lv_aload hx hb dX0_gather_77 (lv_at hl 1 rfl) ?_
            refine lv_aload_n hx hb dX0_gather_79 rfl (lv_at hl 4 rfl) ?_
            refine lv_aload_n hx hb dX0_gather_80 rfl (lv_at hl 4 rfl) ?_
            refine lv_iload_n hx hb dX0_gather_81 rfl (lv_at hl 5 rfl) ?_
            refine rdi (va_runVN (As := [.int x20_3]) (rest := [.ref c_h, .ref y4]) ⟨hx, hb, hml, hown, hts⟩ (kX1_overAt (ws := (((t_h, .inr (0, [.int (if (96 : Int32) < c_arcs then (96 : Int32) else c_arcs), .int (t_height__20 + (1 : Int32)), .ref t_rules_a])) :: (t_rules_a, .inl (cJ, 60, .inr (.inr (.inr (.inr t_rules))))) :: (l_h, .inr (2, [.int l_count, .int l_steps, .ref l_owners_a, .ref l_firsts_a, .ref l_ownersBySteps_a, .ref l_cells_a, .ref l_ends_a, .ref l_rightward_a, .ref l_downward_a])) :: (l_owners_a, .inl (cI, 144, .inl l_owners)) :: (l_firsts_a, .inl (cI, 37, .inl l_firsts)) :: (l_ownersBySteps_a, .inl (cI, 144, .inl l_ownersBySteps)) :: (l_cells_a, .inl (cI, 144, .inl l_cells)) :: (l_ends_a, .inl (cI, 144, .inl l_ends)) :: (l_rightward_a, .inl (cI, 144, .inl l_rightward)) :: (l_downward_a, .inl (cI, 144, .inl l_downward)) :: (c_h, .inr (1, [.int c_arcs, .int c_ties, .ref c_passes_a, .ref c_arcsBySteps_a, .ref c_overs_a, .ref c_unders_a, .ref c_tied_a, .ref c_groups_a])) :: (c_passes_a, .inl (cI, 144, .inl c_passes)) :: (c_arcsBySteps_a, .inl (cI, 144, .inl c_arcsBySteps)) :: (c_overs_a, .inl (cI, 60, .inl c_overs)) :: (c_unders_a, .inl (cI, 60, .inl c_unders)) :: (c_tied_a, .inl (cI, 36, .inl c_tied)) :: (c_groups_a, .inl (cI, 36, .inl c_groups)) :: E) ++ va_pl L (fun q => .inl (cI, 96, .inl ((va_up t_rows__20 y4 t_rows__74) q))))) 10 13 c_h c_passes_a c_arcsBySteps_a c_overs_a c_unders_a c_tied_a c_groups_a c_arcs c_ties c_overs rfl rfl x20_3 h _) ⟨va_cnB 1 hts (gIn (aN u19)) rfl rfl rfl (hK.2.2.1 _ (List.mem_of_getElem? (i := 61) rfl)) (hts _ (List.mem_cons_of_mem _ u14)) (by decide +kernel) ⟨Nat.le_of_ble_eq_true rfl, Nat.le_of_ble_eq_true rfl⟩, (hts _ (List.mem_cons_of_mem _ u17)), (hts _ (List.mem_cons_of_mem _ u18))⟩ (pV hK hP hD (ci := 1) (q0 := 10) rfl rfl) rfl rfl hl.1 rfl (lv_room (Nat.le_of_ble_eq_true rfl)) dX0_gather_82 ⟨Nat.zero_le _, Nat.zero_le _⟩) hP hS hA hD (fun r82 H locs h hP hS => ?_)
            refine rdi (va_runVN (As := [.int r82]) (rest := [.ref y4]) ⟨hx, hb, hml, hown, hts⟩ (kX1_arcAt (ws := (((t_h, .inr (0, [.int (if (96 : Int32) < c_arcs then (96 : Int32) else c_arcs), .int (t_height__20 + (1 : Int32)), .ref t_rules_a])) :: (t_rules_a, .inl (cJ, 60, .inr (.inr (.inr (.inr t_rules))))) :: (l_h, .inr (2, [.int l_count, .int l_steps, .ref l_owners_a, .ref l_firsts_a, .ref l_ownersBySteps_a, .ref l_cells_a, .ref l_ends_a, .ref l_rightward_a, .ref l_downward_a])) :: (l_owners_a, .inl (cI, 144, .inl l_owners)) :: (l_firsts_a, .inl (cI, 37, .inl l_firsts)) :: (l_ownersBySteps_a, .inl (cI, 144, .inl l_ownersBySteps)) :: (l_cells_a, .inl (cI, 144, .inl l_cells)) :: (l_ends_a, .inl (cI, 144, .inl l_ends)) :: (l_rightward_a, .inl (cI, 144, .inl l_rightward)) :: (l_downward_a, .inl (cI, 144, .inl l_downward)) :: (c_h, .inr (1, [.int c_arcs, .int c_ties, .ref c_passes_a, .ref c_arcsBySteps_a, .ref c_overs_a, .ref c_unders_a, .ref c_tied_a, .ref c_groups_a])) :: (c_passes_a, .inl (cI, 144, .inl c_passes)) :: (c_arcsBySteps_a, .inl (cI, 144, .inl c_arcsBySteps)) :: (c_overs_a, .inl (cI, 60, .inl c_overs)) :: (c_unders_a, .inl (cI, 60, .inl c_unders)) :: (c_tied_a, .inl (cI, 36, .inl c_tied)) :: (c_groups_a, .inl (cI, 36, .inl c_groups)) :: E) ++ va_pl L (fun q => .inl (cI, 96, .inl ((va_up t_rows__20 y4 t_rows__74) q))))) 10 12 c_h c_passes_a c_arcsBySteps_a c_overs_a c_unders_a c_tied_a c_groups_a c_arcs c_ties c_arcsBySteps rfl rfl r82 h _) ⟨va_cnB 1 hts (gIn (aN u37)) rfl rfl rfl (hK.2.2.1 _ (List.mem_of_getElem? (i := 62) rfl)) (hts _ (List.mem_cons_of_mem _ u14)) (by decide +kernel) ⟨Nat.le_of_ble_eq_true rfl, Nat.le_of_ble_eq_true rfl⟩, (hts _ (List.mem_cons_of_mem _ u38)), (hts _ (List.mem_cons_of_mem _ u39))⟩ (pV hK hP hD (ci := 1) (q0 := 10) rfl rfl) rfl rfl hl.1 rfl (lv_room (Nat.le_of_ble_eq_true rfl)) dX0_gather_85 ⟨Nat.zero_le _, Nat.zero_le _⟩) hP hS hA hD (fun r85 H locs h hP hS => ?_)
            refine lv_iconst (v := (2 : Int32)) hx hb dX0_gather_88 (by decide) ?_
            obtain ⟨hPc, hDc, hFc⟩ := zw_row hP hD hS hA hLy4
            refine va_callv (va_runS (As := [.ref y4, .int r85, .int (2 : Int32)]) (rest := []) ⟨hx, hb, hml, hown, hts⟩ (kX0_add y4 96 ((va_up t_rows__20 y4 t_rows__74) y4) r85 (2 : Int32) h _) (va_cwS 3 hts (gIn (aS u33 u34 u35 u36)) rfl rfl rfl (by decide +kernel) ⟨Nat.le_of_ble_eq_true rfl, Nat.le_of_ble_eq_true rfl⟩) (pS hK hPc hDc) rfl rfl hl.1 rfl (lv_room (Nat.le_of_ble_eq_true rfl)) dX0_gather_89 ⟨Nat.zero_le _, Nat.zero_le _⟩) hS (fun q _ h => hFc q h) hFc (fun u t H1 locs ht hvm hw hB hz1 hk1 hS => ?_)
            obtain ⟨t_rows__89, rfl⟩ : ∃ z, z = u := ⟨_, rfl⟩
            obtain ⟨hP1, hD1⟩ := hB
            rw [ht] at hP1
            obtain ⟨hP, hD⟩ := zw_back hP hD hLy4 hk1 hP1
            generalize H1 = H at hP hS ⊢
            have hP : va_P G vwCl (((t_h, .inr (0, [.int (if (96 : Int32) < c_arcs then (96 : Int32) else c_arcs), .int (t_height__20 + (1 : Int32)), .ref t_rules_a])) :: (t_rules_a, .inl (cJ, 60, .inr (.inr (.inr (.inr t_rules))))) :: (l_h, .inr (2, [.int l_count, .int l_steps, .ref l_owners_a, .ref l_firsts_a, .ref l_ownersBySteps_a, .ref l_cells_a, .ref l_ends_a, .ref l_rightward_a, .ref l_downward_a])) :: (l_owners_a, .inl (cI, 144, .inl l_owners)) :: (l_firsts_a, .inl (cI, 37, .inl l_firsts)) :: (l_ownersBySteps_a, .inl (cI, 144, .inl l_ownersBySteps)) :: (l_cells_a, .inl (cI, 144, .inl l_cells)) :: (l_ends_a, .inl (cI, 144, .inl l_ends)) :: (l_rightward_a, .inl (cI, 144, .inl l_rightward)) :: (l_downward_a, .inl (cI, 144, .inl l_downward)) :: (c_h, .inr (1, [.int c_arcs, .int c_ties, .ref c_passes_a, .ref c_arcsBySteps_a, .ref c_overs_a, .ref c_unders_a, .ref c_tied_a, .ref c_groups_a])) :: (c_passes_a, .inl (cI, 144, .inl c_passes)) :: (c_arcsBySteps_a, .inl (cI, 144, .inl c_arcsBySteps)) :: (c_overs_a, .inl (cI, 60, .inl c_overs)) :: (c_unders_a, .inl (cI, 60, .inl c_unders)) :: (c_tied_a, .inl (cI, 36, .inl c_tied)) :: (c_groups_a, .inl (cI, 36, .inl c_groups)) :: E) ++ va_pl L (fun q => .inl (cI, 96, .inl ((va_up (va_up t_rows__20 y4 t_rows__74) y4 t_rows__89) q)))) H := hP
            have hD : va_D A (((t_h, .inr (0, [.int (if (96 : Int32) < c_arcs then (96 : Int32) else c_arcs), .int (t_height__20 + (1 : Int32)), .ref t_rules_a])) :: (t_rules_a, .inl (cJ, 60, .inr (.inr (.inr (.inr t_rules))))) :: (l_h, .inr (2, [.int l_count, .int l_steps, .ref l_owners_a, .ref l_firsts_a, .ref l_ownersBySteps_a, .ref l_cells_a, .ref l_ends_a, .ref l_rightward_a, .ref l_downward_a])) :: (l_owners_a, .inl (cI, 144, .inl l_owners)) :: (l_firsts_a, .inl (cI, 37, .inl l_firsts)) :: (l_ownersBySteps_a, .inl (cI, 144, .inl l_ownersBySteps)) :: (l_cells_a, .inl (cI, 144, .inl l_cells)) :: (l_ends_a, .inl (cI, 144, .inl l_ends)) :: (l_rightward_a, .inl (cI, 144, .inl l_rightward)) :: (l_downward_a, .inl (cI, 144, .inl l_downward)) :: (c_h, .inr (1, [.int c_arcs, .int c_ties, .ref c_passes_a, .ref c_arcsBySteps_a, .ref c_overs_a, .ref c_unders_a, .ref c_tied_a, .ref c_groups_a])) :: (c_passes_a, .inl (cI, 144, .inl c_passes)) :: (c_arcsBySteps_a, .inl (cI, 144, .inl c_arcsBySteps)) :: (c_overs_a, .inl (cI, 60, .inl c_overs)) :: (c_unders_a, .inl (cI, 60, .inl c_unders)) :: (c_tied_a, .inl (cI, 36, .inl c_tied)) :: (c_groups_a, .inl (cI, 36, .inl c_groups)) :: E) ++ va_pl L (fun q => .inl (cI, 96, .inl ((va_up (va_up t_rows__20 y4 t_rows__74) y4 t_rows__89) q)))) := hD
            have h := hw
            clear hw
            refine lv_aload hx hb dX0_gather_92 (lv_at hl 1 rfl) ?_
            refine lv_aload_n hx hb dX0_gather_94 rfl (lv_at hl 4 rfl) ?_
            refine lv_iload hx hb dX0_gather_95 (lv_at hl 0 rfl) ?_
            refine rdi (va_runVN (As := [.int r66]) (rest := [.ref y4]) ⟨hx, hb, hml, hown, hts⟩ (kX1_arcAt (ws := (((t_h, .inr (0, [.int (if (96 : Int32) < c_arcs then (96 : Int32) else c_arcs), .int (t_height__20 + (1 : Int32)), .ref t_rules_a])) :: (t_rules_a, .inl (cJ, 60, .inr (.inr (.inr (.inr t_rules))))) :: (l_h, .inr (2, [.int l_count, .int l_steps, .ref l_owners_a, .ref l_firsts_a, .ref l_ownersBySteps_a, .ref l_cells_a, .ref l_ends_a, .ref l_rightward_a, .ref l_downward_a])) :: (l_owners_a, .inl (cI, 144, .inl l_owners)) :: (l_firsts_a, .inl (cI, 37, .inl l_firsts)) :: (l_ownersBySteps_a, .inl (cI, 144, .inl l_ownersBySteps)) :: (l_cells_a, .inl (cI, 144, .inl l_cells)) :: (l_ends_a, .inl (cI, 144, .inl l_ends)) :: (l_rightward_a, .inl (cI, 144, .inl l_rightward)) :: (l_downward_a, .inl (cI, 144, .inl l_downward)) :: (c_h, .inr (1, [.int c_arcs, .int c_ties, .ref c_passes_a, .ref c_arcsBySteps_a, .ref c_overs_a, .ref c_unders_a, .ref c_tied_a, .ref c_groups_a])) :: (c_passes_a, .inl (cI, 144, .inl c_passes)) :: (c_arcsBySteps_a, .inl (cI, 144, .inl c_arcsBySteps)) :: (c_overs_a, .inl (cI, 60, .inl c_overs)) :: (c_unders_a, .inl (cI, 60, .inl c_unders)) :: (c_tied_a, .inl (cI, 36, .inl c_tied)) :: (c_groups_a, .inl (cI, 36, .inl c_groups)) :: E) ++ va_pl L (fun q => .inl (cI, 96, .inl ((va_up (va_up t_rows__20 y4 t_rows__74) y4 t_rows__89) q))))) 10 12 c_h c_passes_a c_arcsBySteps_a c_overs_a c_unders_a c_tied_a c_groups_a c_arcs c_ties c_arcsBySteps rfl rfl r66 h _) ⟨va_cnB 1 hts (gIn (aN u37)) rfl rfl rfl (hK.2.2.1 _ (List.mem_of_getElem? (i := 62) rfl)) (hts _ (List.mem_cons_of_mem _ u14)) (by decide +kernel) ⟨Nat.le_of_ble_eq_true rfl, Nat.le_of_ble_eq_true rfl⟩, (hts _ (List.mem_cons_of_mem _ u38)), (hts _ (List.mem_cons_of_mem _ u39))⟩ (pV hK hP hD (ci := 1) (q0 := 10) rfl rfl) rfl rfl hl.1 rfl (lv_room (Nat.le_of_ble_eq_true rfl)) dX0_gather_97 ⟨Nat.zero_le _, Nat.zero_le _⟩) hP hS hA hD (fun r97 H locs h hP hS => ?_)
            refine lv_iconst (v := (-1 : Int32)) hx hb dX0_gather_100 (by decide) ?_
            obtain ⟨hPc, hDc, hFc⟩ := zw_row hP hD hS hA hLy4
            refine va_callv (va_runS (As := [.ref y4, .int r97, .int (-1 : Int32)]) (rest := []) ⟨hx, hb, hml, hown, hts⟩ (kX0_add y4 96 ((va_up (va_up t_rows__20 y4 t_rows__74) y4 t_rows__89) y4) r97 (-1 : Int32) h _) (va_cwS 3 hts (gIn (aS u33 u34 u35 u36)) rfl rfl rfl (by decide +kernel) ⟨Nat.le_of_ble_eq_true rfl, Nat.le_of_ble_eq_true rfl⟩) (pS hK hPc hDc) rfl rfl hl.1 rfl (lv_room (Nat.le_of_ble_eq_true rfl)) dX0_gather_101 ⟨Nat.zero_le _, Nat.zero_le _⟩) hS (fun q _ h => hFc q h) hFc (fun u t H1 locs ht hvm hw hB hz1 hk1 hS => ?_)
            obtain ⟨t_rows__101, rfl⟩ : ∃ z, z = u := ⟨_, rfl⟩
            obtain ⟨hP1, hD1⟩ := hB
            rw [ht] at hP1
            obtain ⟨hP, hD⟩ := zw_back hP hD hLy4 hk1 hP1
            generalize H1 = H at hP hS ⊢
            have hP : va_P G vwCl (((t_h, .inr (0, [.int (if (96 : Int32) < c_arcs then (96 : Int32) else c_arcs), .int (t_height__20 + (1 : Int32)), .ref t_rules_a])) :: (t_rules_a, .inl (cJ, 60, .inr (.inr (.inr (.inr t_rules))))) :: (l_h, .inr (2, [.int l_count, .int l_steps, .ref l_owners_a, .ref l_firsts_a, .ref l_ownersBySteps_a, .ref l_cells_a, .ref l_ends_a, .ref l_rightward_a, .ref l_downward_a])) :: (l_owners_a, .inl (cI, 144, .inl l_owners)) :: (l_firsts_a, .inl (cI, 37, .inl l_firsts)) :: (l_ownersBySteps_a, .inl (cI, 144, .inl l_ownersBySteps)) :: (l_cells_a, .inl (cI, 144, .inl l_cells)) :: (l_ends_a, .inl (cI, 144, .inl l_ends)) :: (l_rightward_a, .inl (cI, 144, .inl l_rightward)) :: (l_downward_a, .inl (cI, 144, .inl l_downward)) :: (c_h, .inr (1, [.int c_arcs, .int c_ties, .ref c_passes_a, .ref c_arcsBySteps_a, .ref c_overs_a, .ref c_unders_a, .ref c_tied_a, .ref c_groups_a])) :: (c_passes_a, .inl (cI, 144, .inl c_passes)) :: (c_arcsBySteps_a, .inl (cI, 144, .inl c_arcsBySteps)) :: (c_overs_a, .inl (cI, 60, .inl c_overs)) :: (c_unders_a, .inl (cI, 60, .inl c_unders)) :: (c_tied_a, .inl (cI, 36, .inl c_tied)) :: (c_groups_a, .inl (cI, 36, .inl c_groups)) :: E) ++ va_pl L (fun q => .inl (cI, 96, .inl ((va_up (va_up (va_up t_rows__20 y4 t_rows__74) y4 t_rows__89) y4 t_rows__101) q)))) H := hP
            have hD : va_D A (((t_h, .inr (0, [.int (if (96 : Int32) < c_arcs then (96 : Int32) else c_arcs), .int (t_height__20 + (1 : Int32)), .ref t_rules_a])) :: (t_rules_a, .inl (cJ, 60, .inr (.inr (.inr (.inr t_rules))))) :: (l_h, .inr (2, [.int l_count, .int l_steps, .ref l_owners_a, .ref l_firsts_a, .ref l_ownersBySteps_a, .ref l_cells_a, .ref l_ends_a, .ref l_rightward_a, .ref l_downward_a])) :: (l_owners_a, .inl (cI, 144, .inl l_owners)) :: (l_firsts_a, .inl (cI, 37, .inl l_firsts)) :: (l_ownersBySteps_a, .inl (cI, 144, .inl l_ownersBySteps)) :: (l_cells_a, .inl (cI, 144, .inl l_cells)) :: (l_ends_a, .inl (cI, 144, .inl l_ends)) :: (l_rightward_a, .inl (cI, 144, .inl l_rightward)) :: (l_downward_a, .inl (cI, 144, .inl l_downward)) :: (c_h, .inr (1, [.int c_arcs, .int c_ties, .ref c_passes_a, .ref c_arcsBySteps_a, .ref c_overs_a, .ref c_unders_a, .ref c_tied_a, .ref c_groups_a])) :: (c_passes_a, .inl (cI, 144, .inl c_passes)) :: (c_arcsBySteps_a, .inl (cI, 144, .inl c_arcsBySteps)) :: (c_overs_a, .inl (cI, 60, .inl c_overs)) :: (c_unders_a, .inl (cI, 60, .inl c_unders)) :: (c_tied_a, .inl (cI, 36, .inl c_tied)) :: (c_groups_a, .inl (cI, 36, .inl c_groups)) :: E) ++ va_pl L (fun q => .inl (cI, 96, .inl ((va_up (va_up (va_up t_rows__20 y4 t_rows__74) y4 t_rows__89) y4 t_rows__101) q)))) := hD
            have h := hw
            clear hw
            refine lv_aload hx hb dX0_gather_104 (lv_at hl 1 rfl) ?_
            refine lv_aload_n hx hb dX0_gather_106 rfl (lv_at hl 4 rfl) ?_
            refine lv_aload_n hx hb dX0_gather_107 rfl (lv_at hl 3 rfl) ?_
            refine lv_iload hx hb dX0_gather_108 (lv_at hl 0 rfl) ?_
            refine rdi (va_runVN (As := [.int r66]) (rest := [.ref c_h, .ref y4]) ⟨hx, hb, hml, hown, hts⟩ (kX2_stepAfter (ws := (((t_h, .inr (0, [.int (if (96 : Int32) < c_arcs then (96 : Int32) else c_arcs), .int (t_height__20 + (1 : Int32)), .ref t_rules_a])) :: (t_rules_a, .inl (cJ, 60, .inr (.inr (.inr (.inr t_rules))))) :: (l_h, .inr (2, [.int l_count, .int l_steps, .ref l_owners_a, .ref l_firsts_a, .ref l_ownersBySteps_a, .ref l_cells_a, .ref l_ends_a, .ref l_rightward_a, .ref l_downward_a])) :: (l_owners_a, .inl (cI, 144, .inl l_owners)) :: (l_firsts_a, .inl (cI, 37, .inl l_firsts)) :: (l_ownersBySteps_a, .inl (cI, 144, .inl l_ownersBySteps)) :: (l_cells_a, .inl (cI, 144, .inl l_cells)) :: (l_ends_a, .inl (cI, 144, .inl l_ends)) :: (l_rightward_a, .inl (cI, 144, .inl l_rightward)) :: (l_downward_a, .inl (cI, 144, .inl l_downward)) :: (c_h, .inr (1, [.int c_arcs, .int c_ties, .ref c_passes_a, .ref c_arcsBySteps_a, .ref c_overs_a, .ref c_unders_a, .ref c_tied_a, .ref c_groups_a])) :: (c_passes_a, .inl (cI, 144, .inl c_passes)) :: (c_arcsBySteps_a, .inl (cI, 144, .inl c_arcsBySteps)) :: (c_overs_a, .inl (cI, 60, .inl c_overs)) :: (c_unders_a, .inl (cI, 60, .inl c_unders)) :: (c_tied_a, .inl (cI, 36, .inl c_tied)) :: (c_groups_a, .inl (cI, 36, .inl c_groups)) :: E) ++ va_pl L (fun q => .inl (cI, 96, .inl ((va_up (va_up (va_up t_rows__20 y4 t_rows__74) y4 t_rows__89) y4 t_rows__101) q))))) 2 4 5 l_h l_owners_a l_firsts_a l_ownersBySteps_a l_cells_a l_ends_a l_rightward_a l_downward_a l_count l_steps l_firsts l_ownersBySteps rfl rfl rfl r66 h _) ⟨va_cnB 1 hts (gIn (aN u40)) rfl rfl rfl (hK.2.2.1 _ (List.mem_of_getElem? (i := 64) rfl)) (hts _ (List.mem_cons_of_mem _ u27)) (by decide +kernel) ⟨Nat.le_of_ble_eq_true rfl, Nat.le_of_ble_eq_true rfl⟩, (hts _ (List.mem_cons_of_mem _ u41)), (hts _ (List.mem_cons_of_mem _ u42))⟩ (pV hK hP hD (ci := 2) (q0 := 2) rfl rfl) rfl rfl hl.1 rfl (lv_room (Nat.le_of_ble_eq_true rfl)) dX0_gather_110 ⟨Nat.zero_le _, Nat.zero_le _⟩) hP hS hA hD (fun r110 H locs h hP hS => ?_)
            refine rdi (va_runVN (As := [.int r110]) (rest := [.ref y4]) ⟨hx, hb, hml, hown, hts⟩ (kX1_arcAt (ws := (((t_h, .inr (0, [.int (if (96 : Int32) < c_arcs then (96 : Int32) else c_arcs), .int (t_height__20 + (1 : Int32)), .ref t_rules_a])) :: (t_rules_a, .inl (cJ, 60, .inr (.inr (.inr (.inr t_rules))))) :: (l_h, .inr (2, [.int l_count, .int l_steps, .ref l_owners_a, .ref l_firsts_a, .ref l_ownersBySteps_a, .ref l_cells_a, .ref l_ends_a, .ref l_rightward_a, .ref l_downward_a])) :: (l_owners_a, .inl (cI, 144, .inl l_owners)) :: (l_firsts_a, .inl (cI, 37, .inl l_firsts)) :: (l_ownersBySteps_a, .inl (cI, 144, .inl l_ownersBySteps)) :: (l_cells_a, .inl (cI, 144, .inl l_cells)) :: (l_ends_a, .inl (cI, 144, .inl l_ends)) :: (l_rightward_a, .inl (cI, 144, .inl l_rightward)) :: (l_downward_a, .inl (cI, 144, .inl l_downward)) :: (c_h, .inr (1, [.int c_arcs, .int c_ties, .ref c_passes_a, .ref c_arcsBySteps_a, .ref c_overs_a, .ref c_unders_a, .ref c_tied_a, .ref c_groups_a])) :: (c_passes_a, .inl (cI, 144, .inl c_passes)) :: (c_arcsBySteps_a, .inl (cI, 144, .inl c_arcsBySteps)) :: (c_overs_a, .inl (cI, 60, .inl c_overs)) :: (c_unders_a, .inl (cI, 60, .inl c_unders)) :: (c_tied_a, .inl (cI, 36, .inl c_tied)) :: (c_groups_a, .inl (cI, 36, .inl c_groups)) :: E) ++ va_pl L (fun q => .inl (cI, 96, .inl ((va_up (va_up (va_up t_rows__20 y4 t_rows__74) y4 t_rows__89) y4 t_rows__101) q))))) 10 12 c_h c_passes_a c_arcsBySteps_a c_overs_a c_unders_a c_tied_a c_groups_a c_arcs c_ties c_arcsBySteps rfl rfl r110 h _) ⟨va_cnB 1 hts (gIn (aN u37)) rfl rfl rfl (hK.2.2.1 _ (List.mem_of_getElem? (i := 62) rfl)) (hts _ (List.mem_cons_of_mem _ u14)) (by decide +kernel) ⟨Nat.le_of_ble_eq_true rfl, Nat.le_of_ble_eq_true rfl⟩, (hts _ (List.mem_cons_of_mem _ u38)), (hts _ (List.mem_cons_of_mem _ u39))⟩ (pV hK hP hD (ci := 1) (q0 := 10) rfl rfl) rfl rfl hl.1 rfl (lv_room (Nat.le_of_ble_eq_true rfl)) dX0_gather_113 ⟨Nat.zero_le _, Nat.zero_le _⟩) hP hS hA hD (fun r113 H locs h hP hS => ?_)
            refine lv_iconst (v := (-1 : Int32)) hx hb dX0_gather_116 (by decide) ?_
            obtain ⟨hPc, hDc, hFc⟩ := zw_row hP hD hS hA hLy4
            refine va_callv (va_runS (As := [.ref y4, .int r113, .int (-1 : Int32)]) (rest := []) ⟨hx, hb, hml, hown, hts⟩ (kX0_add y4 96 ((va_up (va_up (va_up t_rows__20 y4 t_rows__74) y4 t_rows__89) y4 t_rows__101) y4) r113 (-1 : Int32) h _) (va_cwS 3 hts (gIn (aS u33 u34 u35 u36)) rfl rfl rfl (by decide +kernel) ⟨Nat.le_of_ble_eq_true rfl, Nat.le_of_ble_eq_true rfl⟩) (pS hK hPc hDc) rfl rfl hl.1 rfl (lv_room (Nat.le_of_ble_eq_true rfl)) dX0_gather_117 ⟨Nat.zero_le _, Nat.zero_le _⟩) hS (fun q _ h => hFc q h) hFc (fun u t H1 locs ht hvm hw hB hz1 hk1 hS => ?_)
            obtain ⟨t_rows__117, rfl⟩ : ∃ z, z = u := ⟨_, rfl⟩
            obtain ⟨hP1, hD1⟩ := hB
            rw [ht] at hP1
            obtain ⟨hP, hD⟩ := zw_back hP hD hLy4 hk1 hP1
            generalize H1 = H at hP hS ⊢
            have hP : va_P G vwCl (((t_h, .inr (0, [.int (if (96 : Int32) < c_arcs then (96 : Int32) else c_arcs), .int (t_height__20 + (1 : Int32)), .ref t_rules_a])) :: (t_rules_a, .inl (cJ, 60, .inr (.inr (.inr (.inr t_rules))))) :: (l_h, .inr (2, [.int l_count, .int l_steps, .ref l_owners_a, .ref l_firsts_a, .ref l_ownersBySteps_a, .ref l_cells_a, .ref l_ends_a, .ref l_rightward_a, .ref l_downward_a])) :: (l_owners_a, .inl (cI, 144, .inl l_owners)) :: (l_firsts_a, .inl (cI, 37, .inl l_firsts)) :: (l_ownersBySteps_a, .inl (cI, 144, .inl l_ownersBySteps)) :: (l_cells_a, .inl (cI, 144, .inl l_cells)) :: (l_ends_a, .inl (cI, 144, .inl l_ends)) :: (l_rightward_a, .inl (cI, 144, .inl l_rightward)) :: (l_downward_a, .inl (cI, 144, .inl l_downward)) :: (c_h, .inr (1, [.int c_arcs, .int c_ties, .ref c_passes_a, .ref c_arcsBySteps_a, .ref c_overs_a, .ref c_unders_a, .ref c_tied_a, .ref c_groups_a])) :: (c_passes_a, .inl (cI, 144, .inl c_passes)) :: (c_arcsBySteps_a, .inl (cI, 144, .inl c_arcsBySteps)) :: (c_overs_a, .inl (cI, 60, .inl c_overs)) :: (c_unders_a, .inl (cI, 60, .inl c_unders)) :: (c_tied_a, .inl (cI, 36, .inl c_tied)) :: (c_groups_a, .inl (cI, 36, .inl c_groups)) :: E) ++ va_pl L (fun q => .inl (cI, 96, .inl ((va_up (va_up (va_up (va_up t_rows__20 y4 t_rows__74) y4 t_rows__89) y4 t_rows__101) y4 t_rows__117) q)))) H := hP
            have hD : va_D A (((t_h, .inr (0, [.int (if (96 : Int32) < c_arcs then (96 : Int32) else c_arcs), .int (t_height__20 + (1 : Int32)), .ref t_rules_a])) :: (t_rules_a, .inl (cJ, 60, .inr (.inr (.inr (.inr t_rules))))) :: (l_h, .inr (2, [.int l_count, .int l_steps, .ref l_owners_a, .ref l_firsts_a, .ref l_ownersBySteps_a, .ref l_cells_a, .ref l_ends_a, .ref l_rightward_a, .ref l_downward_a])) :: (l_owners_a, .inl (cI, 144, .inl l_owners)) :: (l_firsts_a, .inl (cI, 37, .inl l_firsts)) :: (l_ownersBySteps_a, .inl (cI, 144, .inl l_ownersBySteps)) :: (l_cells_a, .inl (cI, 144, .inl l_cells)) :: (l_ends_a, .inl (cI, 144, .inl l_ends)) :: (l_rightward_a, .inl (cI, 144, .inl l_rightward)) :: (l_downward_a, .inl (cI, 144, .inl l_downward)) :: (c_h, .inr (1, [.int c_arcs, .int c_ties, .ref c_passes_a, .ref c_arcsBySteps_a, .ref c_overs_a, .ref c_unders_a, .ref c_tied_a, .ref c_groups_a])) :: (c_passes_a, .inl (cI, 144, .inl c_passes)) :: (c_arcsBySteps_a, .inl (cI, 144, .inl c_arcsBySteps)) :: (c_overs_a, .inl (cI, 60, .inl c_overs)) :: (c_unders_a, .inl (cI, 60, .inl c_unders)) :: (c_tied_a, .inl (cI, 36, .inl c_tied)) :: (c_groups_a, .inl (cI, 36, .inl c_groups)) :: E) ++ va_pl L (fun q => .inl (cI, 96, .inl ((va_up (va_up (va_up (va_up t_rows__20 y4 t_rows__74) y4 t_rows__89) y4 t_rows__101) y4 t_rows__117) q)))) := hD
            have h := hw
            clear hw
            refine lv_iinc (v := (x20_3 + (1 : Int32))) (lv' := [(3, .int (x20_3 + (1 : Int32))), (5, .int r66), (4, .ref y4), (0, .ref t_h), (1, .ref l_h), (2, .ref c_h)]) hx hb dX0_gather_120 hl (k := 5) rfl rfl (by decide) rfl (fun ls hl => ?_)
            refine lv_goto (tgt := 20) hx hb dX0_gather_123 (by decide) ?_
            exact ih (x20_3 + (1 : Int32)) (t_height__20 + (1 : Int32)) (va_up (va_up (va_up (va_up t_rows__20 y4 t_rows__74) y4 t_rows__89) y4 t_rows__101) y4 t_rows__117) _ _ _ h hP hD hS (lv_sub hl [3, 4, 5, 0] rfl)
  exact R2 FU (0 : Int32) (0 : Int32) t_rows _ _ _ (by rw [hK20]; exact h) hP hD hS (lv_sub hl [1, 2, 3, 0] rfl)
abbrev rmX0_findRule : Room := ({ frames := 0, cells := 0, slots := 0, locals := 0 } : Room)
set_option maxHeartbeats 4000000 in
set_option maxRecDepth 100000 in
theorem kX0_findRule {l : Launch} {G : va_G} {cI cZ cP cJ : ClassId} (L : List Nat) (E : va_W) (t_h : Nat) (t_rules_a : Nat) (t_width : Int32) (t_height : Int32) (t_rules : Nat → Option Nat) (t_rows : Nat → Nat → Int32) (p1 : Int32) (p2 : Int32) (p3 : Int32) {Q : Int32 → Prop} (h : wX0_findRule L t_height t_rules t_rows p1 p2 p3 Q) (sz : Nat) : Met l yX0_findRule wsX0_findRule rmX0_findRule (va_Pc [.ref t_h, .int p1, .int p2, .int p3] (pB G [(cI, .int), (cZ, .boolean), (cP, .object RX3), (cJ, .array .int)] (((t_h, .inr (0, [.int t_width, .int t_height, .ref t_rules_a])) :: (t_rules_a, .inl (cJ, 60, .inr (.inr (.inr (.inr t_rules))))) :: E) ++ va_pl L (fun q => .inl (cI, 96, .inl (t_rows q)))) sz)) (va_Qi (fun (r : Int32) (u : Unit) => Q r) (fun (u : Unit) t => va_P G vwCl (((t_h, .inr (0, [.int t_width, .int t_height, .ref t_rules_a])) :: (t_rules_a, .inl (cJ, 60, .inr (.inr (.inr (.inr t_rules))))) :: E) ++ va_pl L (fun q => .inl (cI, 96, .inl (t_rows q)))) t.heap ∧ va_D (va_A (((t_h, .inr (0, [.int t_width, .int t_height, .ref t_rules_a])) :: (t_rules_a, .inl (cJ, 60, .inr (.inr (.inr (.inr t_rules))))) :: E) ++ va_pl L (fun q => .inl (cI, 96, .inl (t_rows q)))) sz) (((t_h, .inr (0, [.int t_width, .int t_height, .ref t_rules_a])) :: (t_rules_a, .inl (cJ, 60, .inr (.inr (.inr (.inr t_rules))))) :: E) ++ va_pl L (fun q => .inl (cI, 96, .inl (t_rows q))))) (va_A (((t_h, .inr (0, [.int t_width, .int t_height, .ref t_rules_a])) :: (t_rules_a, .inl (cJ, 60, .inr (.inr (.inr (.inr t_rules))))) :: E) ++ va_pl L (fun q => .inl (cI, 96, .inl (t_rows q)))) sz)) 0 0 (va_A (((t_h, .inr (0, [.int t_width, .int t_height, .ref t_rules_a])) :: (t_rules_a, .inl (cJ, 60, .inr (.inr (.inr (.inr t_rules))))) :: E) ++ va_pl L (fun q => .inl (cI, 96, .inl (t_rows q)))) sz) := by
  refine Met.ofW (cc := cX0_findRule) (maxL := 5) (ret := (some .int)) (by decide) rfl ?_
  intro p e s m args below meth c s₁ B hml hv
  obtain ⟨hargs, hsz, hP, hK, hD0⟩ := hv
  have hx := B.exec
  have hb := B.bytes
  have hr := B.returns
  have hts := atoms_spec (ws := wsX0_findRule) B.pre
  have hown : s.vm.findClass RX0 = some m.cls := findClass_of_methodNamed B.named
  have hlocks := B.notSynchronized
  subst hsz
  have hD := hD0.self (sz := s.heap.size)
  generalize hAe : va_A (((t_h, .inr (0, [.int t_width, .int t_height, .ref t_rules_a])) :: (t_rules_a, .inl (cJ, 60, .inr (.inr (.inr (.inr t_rules))))) :: E) ++ va_pl L (fun q => .inl (cI, 96, .inl (t_rows q)))) s.heap.size = A at hD ⊢
  have hA : ∀ q : Nat, s.heap.size ≤ q → A q := fun q h => by rw [← hAe]; exact Or.inr h
  have hS : va_S A s.heap s.heap [] := va_S.rf
  have hl := lv_entry ([.ref t_h, .int p1, .int p2, .int p3]) (n := 5) (Nat.le_of_ble_eq_true rfl)
  rw [show entryFrame m args 5 = entryFrame m ([.ref t_h, .int p1, .int p2, .int p3] : List Value).toArray 5 by rw [hargs], lg_entry_eq]
  generalize (lg_sl ([.ref t_h, .int p1, .int p2, .int p3]) ++ List.replicate (5 - (lg_sl ([.ref t_h, .int p1, .int p2, .int p3])).length) Slot.unset).toArray = ls at hl ⊢
  have hl : lv_has ls 5 [(0, .ref t_h), (1, .int p1), (2, .int p2), (3, .int p3)] := hl
  unfold wX0_findRule at h
  suffices hM : ∀ (H : Heap) (locs : List Loc), va_P G vwCl (((t_h, .inr (0, [.int t_width, .int t_height, .ref t_rules_a])) :: (t_rules_a, .inl (cJ, 60, .inr (.inr (.inr (.inr t_rules))))) :: E) ++ va_pl L (fun q => .inl (cI, 96, .inl (t_rows q)))) H → va_S A s.heap H locs → W p l e (headSpec wsX0_findRule rmX0_findRule).room s m args below meth c H locs 0 0 (MQ below (va_Qi (fun (r : Int32) (u : Unit) => Q r) (fun (u : Unit) t => va_P G vwCl (((t_h, .inr (0, [.int t_width, .int t_height, .ref t_rules_a])) :: (t_rules_a, .inl (cJ, 60, .inr (.inr (.inr (.inr t_rules))))) :: E) ++ va_pl L (fun q => .inl (cI, 96, .inl (t_rows q)))) t.heap ∧ va_D A (((t_h, .inr (0, [.int t_width, .int t_height, .ref t_rules_a])) :: (t_rules_a, .inl (cJ, 60, .inr (.inr (.inr (.inr t_rules))))) :: E) ++ va_pl L (fun q => .inl (cI, 96, .inl (t_rows q))))) A) args s 0 0 A) (F0 m 0 ls []) from hM _ _ hP hS
  clear hP hS
  intro H locs hP hS
  refine lv_iload_n hx hb dX0_findRule_0 rfl (lv_at hl 1 rfl) ?_
  refine lv_istore (lv' := [(4, .int p1), (0, .ref t_h), (1, .int p1), (2, .int p2), (3, .int p3)]) hx hb dX0_findRule_1 hl (by decide) rfl (fun ls hl => ?_)
  have X1 : ∀ (H : Heap) (locs : List Loc) (ls : Array Slot), wX0_findRule_X35 Q → va_P G vwCl (((t_h, .inr (0, [.int t_width, .int t_height, .ref t_rules_a])) :: (t_rules_a, .inl (cJ, 60, .inr (.inr (.inr (.inr t_rules))))) :: E) ++ va_pl L (fun q => .inl (cI, 96, .inl (t_rows q)))) H → va_D A (((t_h, .inr (0, [.int t_width, .int t_height, .ref t_rules_a])) :: (t_rules_a, .inl (cJ, 60, .inr (.inr (.inr (.inr t_rules))))) :: E) ++ va_pl L (fun q => .inl (cI, 96, .inl (t_rows q)))) → va_S A s.heap H locs → lv_has ls 5 [] → W p l e (headSpec wsX0_findRule rmX0_findRule).room s m args below meth c H locs 0 0 (MQ below (va_Qi (fun (r : Int32) (u : Unit) => Q r) (fun (u : Unit) t => va_P G vwCl (((t_h, .inr (0, [.int t_width, .int t_height, .ref t_rules_a])) :: (t_rules_a, .inl (cJ, 60, .inr (.inr (.inr (.inr t_rules))))) :: E) ++ va_pl L (fun q => .inl (cI, 96, .inl (t_rows q)))) t.heap ∧ va_D A (((t_h, .inr (0, [.int t_width, .int t_height, .ref t_rules_a])) :: (t_rules_a, .inl (cJ, 60, .inr (.inr (.inr (.inr t_rules))))) :: E) ++ va_pl L (fun q => .inl (cI, 96, .inl (t_rows q))))) A) args s 0 0 A) (F0 m 35 ls []) := by
    intro H locs ls h hP hD hS hl
    unfold wX0_findRule_X35 at h
    refine lv_bipush (v := (-9 : Int32)) hx hb dX0_findRule_35 (by decide) ?_
    exact W.iret (v := (-9 : Int32)) hx hb hr (fun t ht hW => ⟨⟨(-9 : Int32), (), rfl, h, ⟨by rw [ht]; exact hP, hD⟩⟩, hS.F ht⟩) hS.2.2 dX0_findRule_37
  obtain ⟨K3, hK3⟩ : ∃ f : Prop, f = (wX0_findRule_X35 Q) := ⟨_, rfl⟩
  replace X1 : ∀ (H : Heap) (locs : List Loc) (ls : Array Slot), K3 → va_P G vwCl (((t_h, .inr (0, [.int t_width, .int t_height, .ref t_rules_a])) :: (t_rules_a, .inl (cJ, 60, .inr (.inr (.inr (.inr t_rules))))) :: E) ++ va_pl L (fun q => .inl (cI, 96, .inl (t_rows q)))) H → va_D A (((t_h, .inr (0, [.int t_width, .int t_height, .ref t_rules_a])) :: (t_rules_a, .inl (cJ, 60, .inr (.inr (.inr (.inr t_rules))))) :: E) ++ va_pl L (fun q => .inl (cI, 96, .inl (t_rows q)))) → va_S A s.heap H locs → lv_has ls 5 [] → W p l e (headSpec wsX0_findRule rmX0_findRule).room s m args below meth c H locs 0 0 (MQ below (va_Qi (fun (r : Int32) (u : Unit) => Q r) (fun (u : Unit) t => va_P G vwCl (((t_h, .inr (0, [.int t_width, .int t_height, .ref t_rules_a])) :: (t_rules_a, .inl (cJ, 60, .inr (.inr (.inr (.inr t_rules))))) :: E) ++ va_pl L (fun q => .inl (cI, 96, .inl (t_rows q)))) t.heap ∧ va_D A (((t_h, .inr (0, [.int t_width, .int t_height, .ref t_rules_a])) :: (t_rules_a, .inl (cJ, 60, .inr (.inr (.inr (.inr t_rules))))) :: E) ++ va_pl L (fun q => .inl (cI, 96, .inl (t_rows q))))) A) args s 0 0 A) (F0 m 35 ls []) := by rw [hK3]; exact X1
  have R2 : ∀ (n : Nat) (x3_4 : Int32) (H : Heap) (locs : List Loc) (ls : Array Slot), lX0_findRule_3 L t_height t_rules t_rows p2 p3 Q K3 n x3_4 → va_P G vwCl (((t_h, .inr (0, [.int t_width, .int t_height, .ref t_rules_a])) :: (t_rules_a, .inl (cJ, 60, .inr (.inr (.inr (.inr t_rules))))) :: E) ++ va_pl L (fun q => .inl (cI, 96, .inl (t_rows q)))) H → va_D A (((t_h, .inr (0, [.int t_width, .int t_height, .ref t_rules_a])) :: (t_rules_a, .inl (cJ, 60, .inr (.inr (.inr (.inr t_rules))))) :: E) ++ va_pl L (fun q => .inl (cI, 96, .inl (t_rows q)))) → va_S A s.heap H locs → lv_has ls 5 [(0, .ref t_h), (2, .int p2), (3, .int p3), (4, .int x3_4)] → W p l e (headSpec wsX0_findRule rmX0_findRule).room s m args below meth c H locs 0 0 (MQ below (va_Qi (fun (r : Int32) (u : Unit) => Q r) (fun (u : Unit) t => va_P G vwCl (((t_h, .inr (0, [.int t_width, .int t_height, .ref t_rules_a])) :: (t_rules_a, .inl (cJ, 60, .inr (.inr (.inr (.inr t_rules))))) :: E) ++ va_pl L (fun q => .inl (cI, 96, .inl (t_rows q)))) t.heap ∧ va_D A (((t_h, .inr (0, [.int t_width, .int t_height, .ref t_rules_a])) :: (t_rules_a, .inl (cJ, 60, .inr (.inr (.inr (.inr t_rules))))) :: E) ++ va_pl L (fun q => .inl (cI, 96, .inl (t_rows q))))) A) args s 0 0 A) (F0 m 3 ls []) := by
    intro n
    induction n with
    | zero => intro x3_4 H locs ls h; exact False.elim h
    | succ n ih =>
      obtain ⟨R3, hR3⟩ : ∃ f : Int32 → Prop, f = (fun x3_4 => lX0_findRule_3 L t_height t_rules t_rows p2 p3 Q K3 n x3_4) := ⟨_, rfl⟩
      replace ih : ∀ (x3_4 : Int32) (H : Heap) (locs : List Loc) (ls : Array Slot), R3 x3_4 → va_P G vwCl (((t_h, .inr (0, [.int t_width, .int t_height, .ref t_rules_a])) :: (t_rules_a, .inl (cJ, 60, .inr (.inr (.inr (.inr t_rules))))) :: E) ++ va_pl L (fun q => .inl (cI, 96, .inl (t_rows q)))) H → va_D A (((t_h, .inr (0, [.int t_width, .int t_height, .ref t_rules_a])) :: (t_rules_a, .inl (cJ, 60, .inr (.inr (.inr (.inr t_rules))))) :: E) ++ va_pl L (fun q => .inl (cI, 96, .inl (t_rows q)))) → va_S A s.heap H locs → lv_has ls 5 [(0, .ref t_h), (2, .int p2), (3, .int p3), (4, .int x3_4)] → W p l e (headSpec wsX0_findRule rmX0_findRule).room s m args below meth c H locs 0 0 (MQ below (va_Qi (fun (r : Int32) (u : Unit) => Q r) (fun (u : Unit) t => va_P G vwCl (((t_h, .inr (0, [.int t_width, .int t_height, .ref t_rules_a])) :: (t_rules_a, .inl (cJ, 60, .inr (.inr (.inr (.inr t_rules))))) :: E) ++ va_pl L (fun q => .inl (cI, 96, .inl (t_rows q)))) t.heap ∧ va_D A (((t_h, .inr (0, [.int t_width, .int t_height, .ref t_rules_a])) :: (t_rules_a, .inl (cJ, 60, .inr (.inr (.inr (.inr t_rules))))) :: E) ++ va_pl L (fun q => .inl (cI, 96, .inl (t_rows q))))) A) args s 0 0 A) (F0 m 3 ls []) := by rw [hR3]; exact ih
      intro x3_4 H locs ls h hP hD hS hl
      have h : bX0_findRule_3 L t_height t_rules t_rows p2 p3 Q K3 R3 x3_4 := by rw [hR3]; exact h
      clear hR3
      unfold bX0_findRule_3 at h
      refine lv_iload hx hb dX0_findRule_3 (lv_at hl 3 rfl) ?_
      refine lv_aload_n hx hb dX0_findRule_5 rfl (lv_at hl 0 rfl) ?_
      refine va_get (D := G) (ci := 0) (v := .int t_height) (C := RX0) (T := TX0) (N := 3) hx hb hts inC0 hown hK.1 hP 0 rfl rfl 1 (by decide) (hts _ (List.mem_cons_of_mem _ u5)) (fun _ h9 => h9) rfl dX0_findRule_6 ?_
      refine lv_icmp_ge (tgt := 35) hx hb dX0_findRule_9 (by decide) (fun q8 => ?_) (fun q8 => ?_)
      · have h := (if_pos q8).mp h
        exact X1  _ _ _ h hP hD hS (lv_sub hl [] rfl)
      · have h := (if_neg q8).mp h
        refine lv_aload_n hx hb dX0_findRule_12 rfl (lv_at hl 0 rfl) ?_
        refine va_get (D := G) (ci := 0) (v := .ref t_rules_a) (C := RX0) (T := TX0) (N := 3) hx hb hts inC0 hown hK.1 hP 0 rfl rfl 2 (by decide) (hts _ (List.mem_cons_of_mem _ u4)) (fun _ h9 => h9) rfl dX0_findRule_13 ?_
        refine lv_iload hx hb dX0_findRule_16 (lv_at hl 3 rfl) ?_
        obtain ⟨i3, h⟩ := h
        obtain ⟨y4, hey4, hLy4, h⟩ := h
        refine zw_ald (y := y4) hx hb hK.1 hP 1 3 rfl rfl i3 hey4 dX0_findRule_18 ?_
        refine lv_iload_n hx hb dX0_findRule_19 rfl (lv_at hl 1 rfl) ?_
        obtain ⟨i5, h⟩ := h
        refine zw_rld hx hb hK.1 hP 0 rfl hLy4 i5 dX0_findRule_20 ?_
        refine lv_iload_n hx hb dX0_findRule_21 rfl (lv_at hl 2 rfl) ?_
        obtain ⟨z6, h⟩ := h
        refine lv_iremJ hx hb dX0_findRule_22 z6 ?_
        refine lv_if_eq (tgt := 29) hx hb dX0_findRule_23 (by decide) (fun q7 => ?_) (fun q7 => ?_)
        · have h := (if_pos q7).mp h
          refine lv_iinc (v := (x3_4 + (1 : Int32))) (lv' := [(4, .int (x3_4 + (1 : Int32))), (0, .ref t_h), (2, .int p2), (3, .int p3)]) hx hb dX0_findRule_29 hl (k := 3) rfl rfl (by decide) rfl (fun ls hl => ?_)
          refine lv_goto (tgt := 3) hx hb dX0_findRule_32 (by decide) ?_
          exact ih (x3_4 + (1 : Int32)) _ _ _ h hP hD hS (lv_sub hl [1, 2, 3, 0] rfl)
        · have h := (if_neg q7).mp h
          refine lv_iload hx hb dX0_findRule_26 (lv_at hl 3 rfl) ?_
          exact W.iret (v := x3_4) hx hb hr (fun t ht hW => ⟨⟨x3_4, (), rfl, h, ⟨by rw [ht]; exact hP, hD⟩⟩, hS.F ht⟩) hS.2.2 dX0_findRule_28
  exact R2 FU p1 _ _ _ (by rw [hK3]; exact h) hP hD hS (lv_sub hl [1, 3, 4, 0] rfl)
abbrev rmX0_swap : Room := ({ frames := 0, cells := 0, slots := 0, locals := 0 } : Room)
set_option maxHeartbeats 4000000 in
set_option maxRecDepth 100000 in
theorem kX0_swap {l : Launch} {G : va_G} {cI cZ cP cJ : ClassId} (L : List Nat) (E : va_W) (t_h : Nat) (t_rules_a : Nat) (t_width : Int32) (t_height : Int32) (t_rules : Nat → Option Nat) (t_rows : Nat → Nat → Int32) (p1 : Int32) (p2 : Int32) {Q : (Nat → Option Nat) → Prop} (h : wX0_swap L t_rules p1 p2 Q) (sz : Nat) : Met l yX0_swap wsX0_swap rmX0_swap (va_Pc [.ref t_h, .int p1, .int p2] (pB G [(cI, .int), (cZ, .boolean), (cP, .object RX3), (cJ, .array .int)] (((t_h, .inr (0, [.int t_width, .int t_height, .ref t_rules_a])) :: (t_rules_a, .inl (cJ, 60, .inr (.inr (.inr (.inr t_rules))))) :: E) ++ va_pl L (fun q => .inl (cI, 96, .inl (t_rows q)))) sz)) (va_Qv (fun (u : (Nat → Option Nat)) => Q u) (fun (u : (Nat → Option Nat)) t => va_P G vwCl (((t_h, .inr (0, [.int t_width, .int t_height, .ref t_rules_a])) :: (t_rules_a, .inl (cJ, 60, .inr (.inr (.inr (.inr u))))) :: E) ++ va_pl L (fun q => .inl (cI, 96, .inl (t_rows q)))) t.heap ∧ va_D (va_A (((t_h, .inr (0, [.int t_width, .int t_height, .ref t_rules_a])) :: (t_rules_a, .inl (cJ, 60, .inr (.inr (.inr (.inr t_rules))))) :: E) ++ va_pl L (fun q => .inl (cI, 96, .inl (t_rows q)))) sz) (((t_h, .inr (0, [.int t_width, .int t_height, .ref t_rules_a])) :: (t_rules_a, .inl (cJ, 60, .inr (.inr (.inr (.inr u))))) :: E) ++ va_pl L (fun q => .inl (cI, 96, .inl (t_rows q))))) (va_A (((t_h, .inr (0, [.int t_width, .int t_height, .ref t_rules_a])) :: (t_rules_a, .inl (cJ, 60, .inr (.inr (.inr (.inr t_rules))))) :: E) ++ va_pl L (fun q => .inl (cI, 96, .inl (t_rows q)))) sz)) 0 0 (va_A (((t_h, .inr (0, [.int t_width, .int t_height, .ref t_rules_a])) :: (t_rules_a, .inl (cJ, 60, .inr (.inr (.inr (.inr t_rules))))) :: E) ++ va_pl L (fun q => .inl (cI, 96, .inl (t_rows q)))) sz) := by
  refine Met.ofW (cc := cX0_swap) (maxL := 4) (ret := none) (by decide) rfl ?_
  intro p e s m args below meth c s₁ B hml hv
  obtain ⟨hargs, hsz, hP, hK, hD0⟩ := hv
  have hx := B.exec
  have hb := B.bytes
  have hr := B.returns
  have hts := atoms_spec (ws := wsX0_swap) B.pre
  have hown : s.vm.findClass RX0 = some m.cls := findClass_of_methodNamed B.named
  have hlocks := B.notSynchronized
  subst hsz
  have hD := hD0.self (sz := s.heap.size)
  generalize hAe : va_A (((t_h, .inr (0, [.int t_width, .int t_height, .ref t_rules_a])) :: (t_rules_a, .inl (cJ, 60, .inr (.inr (.inr (.inr t_rules))))) :: E) ++ va_pl L (fun q => .inl (cI, 96, .inl (t_rows q)))) s.heap.size = A at hD ⊢
  have hA : ∀ q : Nat, s.heap.size ≤ q → A q := fun q h => by rw [← hAe]; exact Or.inr h
  have hS : va_S A s.heap s.heap [] := va_S.rf
  have hl := lv_entry ([.ref t_h, .int p1, .int p2]) (n := 4) (Nat.le_of_ble_eq_true rfl)
  rw [show entryFrame m args 4 = entryFrame m ([.ref t_h, .int p1, .int p2] : List Value).toArray 4 by rw [hargs], lg_entry_eq]
  generalize (lg_sl ([.ref t_h, .int p1, .int p2]) ++ List.replicate (4 - (lg_sl ([.ref t_h, .int p1, .int p2])).length) Slot.unset).toArray = ls at hl ⊢
  have hl : lv_has ls 4 [(0, .ref t_h), (1, .int p1), (2, .int p2)] := hl
  unfold wX0_swap at h
  suffices hM : ∀ (H : Heap) (locs : List Loc), va_P G vwCl (((t_h, .inr (0, [.int t_width, .int t_height, .ref t_rules_a])) :: (t_rules_a, .inl (cJ, 60, .inr (.inr (.inr (.inr t_rules))))) :: E) ++ va_pl L (fun q => .inl (cI, 96, .inl (t_rows q)))) H → va_S A s.heap H locs → W p l e (headSpec wsX0_swap rmX0_swap).room s m args below meth c H locs 0 0 (MQ below (va_Qv (fun (u : (Nat → Option Nat)) => Q u) (fun (u : (Nat → Option Nat)) t => va_P G vwCl (((t_h, .inr (0, [.int t_width, .int t_height, .ref t_rules_a])) :: (t_rules_a, .inl (cJ, 60, .inr (.inr (.inr (.inr u))))) :: E) ++ va_pl L (fun q => .inl (cI, 96, .inl (t_rows q)))) t.heap ∧ va_D A (((t_h, .inr (0, [.int t_width, .int t_height, .ref t_rules_a])) :: (t_rules_a, .inl (cJ, 60, .inr (.inr (.inr (.inr u))))) :: E) ++ va_pl L (fun q => .inl (cI, 96, .inl (t_rows q))))) A) args s 0 0 A) (F0 m 0 ls []) from hM _ _ hP hS
  clear hP hS
  intro H locs hP hS
  refine lv_aload_n hx hb dX0_swap_0 rfl (lv_at hl 0 rfl) ?_
  refine va_get (D := G) (ci := 0) (v := .ref t_rules_a) (C := RX0) (T := TX0) (N := 3) hx hb hts inC0 hown hK.1 hP 0 rfl rfl 2 (by decide) (hts _ (List.mem_cons_of_mem _ u4)) (fun _ h9 => h9) rfl dX0_swap_1 ?_
  refine lv_iload_n hx hb dX0_swap_4 rfl (lv_at hl 1 rfl) ?_
  obtain ⟨i1, h⟩ := h
  obtain ⟨y2, hey2, hLy2, h⟩ := h
  refine zw_ald (y := y2) hx hb hK.1 hP 1 3 rfl rfl i1 hey2 dX0_swap_5 ?_
  refine lv_astore_n (lv' := [(3, .ref y2), (0, .ref t_h), (1, .int p1), (2, .int p2)]) hx hb dX0_swap_6 rfl hl (by decide) rfl (fun ls hl => ?_)
  refine lv_aload_n hx hb dX0_swap_7 rfl (lv_at hl 1 rfl) ?_
  refine va_get (D := G) (ci := 0) (v := .ref t_rules_a) (C := RX0) (T := TX0) (N := 3) hx hb hts inC0 hown hK.1 hP 0 rfl rfl 2 (by decide) (hts _ (List.mem_cons_of_mem _ u4)) (fun _ h9 => h9) rfl dX0_swap_8 ?_
  refine lv_iload_n hx hb dX0_swap_11 rfl (lv_at hl 2 rfl) ?_
  refine lv_aload_n hx hb dX0_swap_12 rfl (lv_at hl 1 rfl) ?_
  refine va_get (D := G) (ci := 0) (v := .ref t_rules_a) (C := RX0) (T := TX0) (N := 3) hx hb hts inC0 hown hK.1 hP 0 rfl rfl 2 (by decide) (hts _ (List.mem_cons_of_mem _ u4)) (fun _ h9 => h9) rfl dX0_swap_13 ?_
  refine lv_iload_n hx hb dX0_swap_16 rfl (lv_at hl 3 rfl) ?_
  obtain ⟨i3, h⟩ := h
  obtain ⟨y4, hey4, hLy4, h⟩ := h
  refine zw_ald (y := y4) hx hb hK.1 hP 1 3 rfl rfl i3 hey4 dX0_swap_17 ?_
  refine zw_ast (y := y4) hx hb hK hP hD hS 1 3 0 rfl rfl rfl hLy4 i1 dX0_swap_18 (fun H locs hP hD hS => ?_)
  have hP : va_P G vwCl (((t_h, .inr (0, [.int t_width, .int t_height, .ref t_rules_a])) :: (t_rules_a, .inl (cJ, 60, .inr (.inr (.inr (.inr (va_up t_rules p1.toNatClampNeg (some y4))))))) :: E) ++ va_pl L (fun q => .inl (cI, 96, .inl (t_rows q)))) H := hP
  have hD : va_D A (((t_h, .inr (0, [.int t_width, .int t_height, .ref t_rules_a])) :: (t_rules_a, .inl (cJ, 60, .inr (.inr (.inr (.inr (va_up t_rules p1.toNatClampNeg (some y4))))))) :: E) ++ va_pl L (fun q => .inl (cI, 96, .inl (t_rows q)))) := hD
  refine lv_aload_n hx hb dX0_swap_19 rfl (lv_at hl 1 rfl) ?_
  refine va_get (D := G) (ci := 0) (v := .ref t_rules_a) (C := RX0) (T := TX0) (N := 3) hx hb hts inC0 hown hK.1 hP 0 rfl rfl 2 (by decide) (hts _ (List.mem_cons_of_mem _ u4)) (fun _ h9 => h9) rfl dX0_swap_20 ?_
  refine lv_iload_n hx hb dX0_swap_23 rfl (lv_at hl 3 rfl) ?_
  refine lv_aload_n hx hb dX0_swap_24 rfl (lv_at hl 0 rfl) ?_
  refine zw_ast (y := y2) hx hb hK hP hD hS 1 3 0 rfl rfl rfl hLy2 i3 dX0_swap_25 (fun H locs hP hD hS => ?_)
  have hP : va_P G vwCl (((t_h, .inr (0, [.int t_width, .int t_height, .ref t_rules_a])) :: (t_rules_a, .inl (cJ, 60, .inr (.inr (.inr (.inr (va_up (va_up t_rules p1.toNatClampNeg (some y4)) p2.toNatClampNeg (some y2))))))) :: E) ++ va_pl L (fun q => .inl (cI, 96, .inl (t_rows q)))) H := hP
  have hD : va_D A (((t_h, .inr (0, [.int t_width, .int t_height, .ref t_rules_a])) :: (t_rules_a, .inl (cJ, 60, .inr (.inr (.inr (.inr (va_up (va_up t_rules p1.toNatClampNeg (some y4)) p2.toNatClampNeg (some y2))))))) :: E) ++ va_pl L (fun q => .inl (cI, 96, .inl (t_rows q)))) := hD
  exact W.vret hx hb hr (fun t ht hW => ⟨⟨(va_up (va_up t_rules p1.toNatClampNeg (some y4)) p2.toNatClampNeg (some y2)), rfl, h, ⟨by rw [ht]; exact hP, hD⟩⟩, hS.F ht⟩) hS.2.2 dX0_swap_26
abbrev rmX0_countFree : Room := ({ frames := 4, cells := 0, slots := 0, locals := 89 } : Room)
set_option maxHeartbeats 4000000 in
set_option maxRecDepth 100000 in
theorem kX0_countFree {l : Launch} {G : va_G} {cI cZ cP cJ : ClassId} (L : List Nat) (E : va_W) (t_h : Nat) (t_rules_a : Nat) (l_h : Nat) (l_owners_a : Nat) (l_firsts_a : Nat) (l_ownersBySteps_a : Nat) (l_cells_a : Nat) (l_ends_a : Nat) (l_rightward_a : Nat) (l_downward_a : Nat) (c_h : Nat) (c_passes_a : Nat) (c_arcsBySteps_a : Nat) (c_overs_a : Nat) (c_unders_a : Nat) (c_tied_a : Nat) (c_groups_a : Nat) (t_width : Int32) (t_height : Int32) (t_rules : Nat → Option Nat) (l_count : Int32) (l_steps : Int32) (l_owners : Nat → Int32) (l_firsts : Nat → Int32) (l_ownersBySteps : Nat → Int32) (l_cells : Nat → Int32) (l_ends : Nat → Int32) (l_rightward : Nat → Int32) (l_downward : Nat → Int32) (c_arcs : Int32) (c_ties : Int32) (c_passes : Nat → Int32) (c_arcsBySteps : Nat → Int32) (c_overs : Nat → Int32) (c_unders : Nat → Int32) (c_tied : Nat → Int32) (c_groups : Nat → Int32) (t_rows : Nat → Nat → Int32) (p3 : Int32) {Q : Int32 → Int32 → Int32 → (Nat → Option Nat) → (Nat → Nat → Int32) → Prop} (h : wX0_countFree L t_width t_height t_rules t_rows l_steps l_firsts l_ownersBySteps c_arcs c_arcsBySteps c_overs c_unders p3 Q) (sz : Nat) : Met l yX0_countFree wsX0_countFree rmX0_countFree (va_Pc [.ref t_h, .ref l_h, .ref c_h, .int p3] (pB G [(cI, .int), (cZ, .boolean), (cP, .object RX3), (cJ, .array .int)] (((t_h, .inr (0, [.int t_width, .int t_height, .ref t_rules_a])) :: (t_rules_a, .inl (cJ, 60, .inr (.inr (.inr (.inr t_rules))))) :: (l_h, .inr (2, [.int l_count, .int l_steps, .ref l_owners_a, .ref l_firsts_a, .ref l_ownersBySteps_a, .ref l_cells_a, .ref l_ends_a, .ref l_rightward_a, .ref l_downward_a])) :: (l_owners_a, .inl (cI, 144, .inl l_owners)) :: (l_firsts_a, .inl (cI, 37, .inl l_firsts)) :: (l_ownersBySteps_a, .inl (cI, 144, .inl l_ownersBySteps)) :: (l_cells_a, .inl (cI, 144, .inl l_cells)) :: (l_ends_a, .inl (cI, 144, .inl l_ends)) :: (l_rightward_a, .inl (cI, 144, .inl l_rightward)) :: (l_downward_a, .inl (cI, 144, .inl l_downward)) :: (c_h, .inr (1, [.int c_arcs, .int c_ties, .ref c_passes_a, .ref c_arcsBySteps_a, .ref c_overs_a, .ref c_unders_a, .ref c_tied_a, .ref c_groups_a])) :: (c_passes_a, .inl (cI, 144, .inl c_passes)) :: (c_arcsBySteps_a, .inl (cI, 144, .inl c_arcsBySteps)) :: (c_overs_a, .inl (cI, 60, .inl c_overs)) :: (c_unders_a, .inl (cI, 60, .inl c_unders)) :: (c_tied_a, .inl (cI, 36, .inl c_tied)) :: (c_groups_a, .inl (cI, 36, .inl c_groups)) :: E) ++ va_pl L (fun q => .inl (cI, 96, .inl (t_rows q)))) sz)) (va_Qi (fun (r : Int32) (u : Int32 × Int32 × (Nat → Option Nat) × (Nat → Nat → Int32)) => Q r u.1 u.2.1 u.2.2.1 u.2.2.2) (fun (u : Int32 × Int32 × (Nat → Option Nat) × (Nat → Nat → Int32)) t => va_P G vwCl (((t_h, .inr (0, [.int u.1, .int u.2.1, .ref t_rules_a])) :: (t_rules_a, .inl (cJ, 60, .inr (.inr (.inr (.inr u.2.2.1))))) :: (l_h, .inr (2, [.int l_count, .int l_steps, .ref l_owners_a, .ref l_firsts_a, .ref l_ownersBySteps_a, .ref l_cells_a, .ref l_ends_a, .ref l_rightward_a, .ref l_downward_a])) :: (l_owners_a, .inl (cI, 144, .inl l_owners)) :: (l_firsts_a, .inl (cI, 37, .inl l_firsts)) :: (l_ownersBySteps_a, .inl (cI, 144, .inl l_ownersBySteps)) :: (l_cells_a, .inl (cI, 144, .inl l_cells)) :: (l_ends_a, .inl (cI, 144, .inl l_ends)) :: (l_rightward_a, .inl (cI, 144, .inl l_rightward)) :: (l_downward_a, .inl (cI, 144, .inl l_downward)) :: (c_h, .inr (1, [.int c_arcs, .int c_ties, .ref c_passes_a, .ref c_arcsBySteps_a, .ref c_overs_a, .ref c_unders_a, .ref c_tied_a, .ref c_groups_a])) :: (c_passes_a, .inl (cI, 144, .inl c_passes)) :: (c_arcsBySteps_a, .inl (cI, 144, .inl c_arcsBySteps)) :: (c_overs_a, .inl (cI, 60, .inl c_overs)) :: (c_unders_a, .inl (cI, 60, .inl c_unders)) :: (c_tied_a, .inl (cI, 36, .inl c_tied)) :: (c_groups_a, .inl (cI, 36, .inl c_groups)) :: E) ++ va_pl L (fun q => .inl (cI, 96, .inl (u.2.2.2 q)))) t.heap ∧ va_D (va_A (((t_h, .inr (0, [.int t_width, .int t_height, .ref t_rules_a])) :: (t_rules_a, .inl (cJ, 60, .inr (.inr (.inr (.inr t_rules))))) :: (l_h, .inr (2, [.int l_count, .int l_steps, .ref l_owners_a, .ref l_firsts_a, .ref l_ownersBySteps_a, .ref l_cells_a, .ref l_ends_a, .ref l_rightward_a, .ref l_downward_a])) :: (l_owners_a, .inl (cI, 144, .inl l_owners)) :: (l_firsts_a, .inl (cI, 37, .inl l_firsts)) :: (l_ownersBySteps_a, .inl (cI, 144, .inl l_ownersBySteps)) :: (l_cells_a, .inl (cI, 144, .inl l_cells)) :: (l_ends_a, .inl (cI, 144, .inl l_ends)) :: (l_rightward_a, .inl (cI, 144, .inl l_rightward)) :: (l_downward_a, .inl (cI, 144, .inl l_downward)) :: (c_h, .inr (1, [.int c_arcs, .int c_ties, .ref c_passes_a, .ref c_arcsBySteps_a, .ref c_overs_a, .ref c_unders_a, .ref c_tied_a, .ref c_groups_a])) :: (c_passes_a, .inl (cI, 144, .inl c_passes)) :: (c_arcsBySteps_a, .inl (cI, 144, .inl c_arcsBySteps)) :: (c_overs_a, .inl (cI, 60, .inl c_overs)) :: (c_unders_a, .inl (cI, 60, .inl c_unders)) :: (c_tied_a, .inl (cI, 36, .inl c_tied)) :: (c_groups_a, .inl (cI, 36, .inl c_groups)) :: E) ++ va_pl L (fun q => .inl (cI, 96, .inl (t_rows q)))) sz) (((t_h, .inr (0, [.int u.1, .int u.2.1, .ref t_rules_a])) :: (t_rules_a, .inl (cJ, 60, .inr (.inr (.inr (.inr u.2.2.1))))) :: (l_h, .inr (2, [.int l_count, .int l_steps, .ref l_owners_a, .ref l_firsts_a, .ref l_ownersBySteps_a, .ref l_cells_a, .ref l_ends_a, .ref l_rightward_a, .ref l_downward_a])) :: (l_owners_a, .inl (cI, 144, .inl l_owners)) :: (l_firsts_a, .inl (cI, 37, .inl l_firsts)) :: (l_ownersBySteps_a, .inl (cI, 144, .inl l_ownersBySteps)) :: (l_cells_a, .inl (cI, 144, .inl l_cells)) :: (l_ends_a, .inl (cI, 144, .inl l_ends)) :: (l_rightward_a, .inl (cI, 144, .inl l_rightward)) :: (l_downward_a, .inl (cI, 144, .inl l_downward)) :: (c_h, .inr (1, [.int c_arcs, .int c_ties, .ref c_passes_a, .ref c_arcsBySteps_a, .ref c_overs_a, .ref c_unders_a, .ref c_tied_a, .ref c_groups_a])) :: (c_passes_a, .inl (cI, 144, .inl c_passes)) :: (c_arcsBySteps_a, .inl (cI, 144, .inl c_arcsBySteps)) :: (c_overs_a, .inl (cI, 60, .inl c_overs)) :: (c_unders_a, .inl (cI, 60, .inl c_unders)) :: (c_tied_a, .inl (cI, 36, .inl c_tied)) :: (c_groups_a, .inl (cI, 36, .inl c_groups)) :: E) ++ va_pl L (fun q => .inl (cI, 96, .inl (u.2.2.2 q))))) (va_A (((t_h, .inr (0, [.int t_width, .int t_height, .ref t_rules_a])) :: (t_rules_a, .inl (cJ, 60, .inr (.inr (.inr (.inr t_rules))))) :: (l_h, .inr (2, [.int l_count, .int l_steps, .ref l_owners_a, .ref l_firsts_a, .ref l_ownersBySteps_a, .ref l_cells_a, .ref l_ends_a, .ref l_rightward_a, .ref l_downward_a])) :: (l_owners_a, .inl (cI, 144, .inl l_owners)) :: (l_firsts_a, .inl (cI, 37, .inl l_firsts)) :: (l_ownersBySteps_a, .inl (cI, 144, .inl l_ownersBySteps)) :: (l_cells_a, .inl (cI, 144, .inl l_cells)) :: (l_ends_a, .inl (cI, 144, .inl l_ends)) :: (l_rightward_a, .inl (cI, 144, .inl l_rightward)) :: (l_downward_a, .inl (cI, 144, .inl l_downward)) :: (c_h, .inr (1, [.int c_arcs, .int c_ties, .ref c_passes_a, .ref c_arcsBySteps_a, .ref c_overs_a, .ref c_unders_a, .ref c_tied_a, .ref c_groups_a])) :: (c_passes_a, .inl (cI, 144, .inl c_passes)) :: (c_arcsBySteps_a, .inl (cI, 144, .inl c_arcsBySteps)) :: (c_overs_a, .inl (cI, 60, .inl c_overs)) :: (c_unders_a, .inl (cI, 60, .inl c_unders)) :: (c_tied_a, .inl (cI, 36, .inl c_tied)) :: (c_groups_a, .inl (cI, 36, .inl c_groups)) :: E) ++ va_pl L (fun q => .inl (cI, 96, .inl (t_rows q)))) sz)) 0 0 (va_A (((t_h, .inr (0, [.int t_width, .int t_height, .ref t_rules_a])) :: (t_rules_a, .inl (cJ, 60, .inr (.inr (.inr (.inr t_rules))))) :: (l_h, .inr (2, [.int l_count, .int l_steps, .ref l_owners_a, .ref l_firsts_a, .ref l_ownersBySteps_a, .ref l_cells_a, .ref l_ends_a, .ref l_rightward_a, .ref l_downward_a])) :: (l_owners_a, .inl (cI, 144, .inl l_owners)) :: (l_firsts_a, .inl (cI, 37, .inl l_firsts)) :: (l_ownersBySteps_a, .inl (cI, 144, .inl l_ownersBySteps)) :: (l_cells_a, .inl (cI, 144, .inl l_cells)) :: (l_ends_a, .inl (cI, 144, .inl l_ends)) :: (l_rightward_a, .inl (cI, 144, .inl l_rightward)) :: (l_downward_a, .inl (cI, 144, .inl l_downward)) :: (c_h, .inr (1, [.int c_arcs, .int c_ties, .ref c_passes_a, .ref c_arcsBySteps_a, .ref c_overs_a, .ref c_unders_a, .ref c_tied_a, .ref c_groups_a])) :: (c_passes_a, .inl (cI, 144, .inl c_passes)) :: (c_arcsBySteps_a, .inl (cI, 144, .inl c_arcsBySteps)) :: (c_overs_a, .inl (cI, 60, .inl c_overs)) :: (c_unders_a, .inl (cI, 60, .inl c_unders)) :: (c_tied_a, .inl (cI, 36, .inl c_tied)) :: (c_groups_a, .inl (cI, 36, .inl c_groups)) :: E) ++ va_pl L (fun q => .inl (cI, 96, .inl (t_rows q)))) sz) := by
  refine Met.ofW (cc := cX0_countFree) (maxL := 7) (ret := (some .int)) (by decide) rfl ?_
  intro p e s m args below meth c s₁ B hml hv
  obtain ⟨hargs, hsz, hP, hK, hD0⟩ := hv
  have hx := B.exec
  have hb := B.bytes
  have hr := B.returns
  have hts := atoms_spec (ws := wsX0_countFree) B.pre
  have hown : s.vm.findClass RX0 = some m.cls := findClass_of_methodNamed B.named
  have hlocks := B.notSynchronized
  subst hsz
  have hD := hD0.self (sz := s.heap.size)
  generalize hAe : va_A (((t_h, .inr (0, [.int t_width, .int t_height, .ref t_rules_a])) :: (t_rules_a, .inl (cJ, 60, .inr (.inr (.inr (.inr t_rules))))) :: (l_h, .inr (2, [.int l_count, .int l_steps, .ref l_owners_a, .ref l_firsts_a, .ref l_ownersBySteps_a, .ref l_cells_a, .ref l_ends_a, .ref l_rightward_a, .ref l_downward_a])) :: (l_owners_a, .inl (cI, 144, .inl l_owners)) :: (l_firsts_a, .inl (cI, 37, .inl l_firsts)) :: (l_ownersBySteps_a, .inl (cI, 144, .inl l_ownersBySteps)) :: (l_cells_a, .inl (cI, 144, .inl l_cells)) :: (l_ends_a, .inl (cI, 144, .inl l_ends)) :: (l_rightward_a, .inl (cI, 144, .inl l_rightward)) :: (l_downward_a, .inl (cI, 144, .inl l_downward)) :: (c_h, .inr (1, [.int c_arcs, .int c_ties, .ref c_passes_a, .ref c_arcsBySteps_a, .ref c_overs_a, .ref c_unders_a, .ref c_tied_a, .ref c_groups_a])) :: (c_passes_a, .inl (cI, 144, .inl c_passes)) :: (c_arcsBySteps_a, .inl (cI, 144, .inl c_arcsBySteps)) :: (c_overs_a, .inl (cI, 60, .inl c_overs)) :: (c_unders_a, .inl (cI, 60, .inl c_unders)) :: (c_tied_a, .inl (cI, 36, .inl c_tied)) :: (c_groups_a, .inl (cI, 36, .inl c_groups)) :: E) ++ va_pl L (fun q => .inl (cI, 96, .inl (t_rows q)))) s.heap.size = A at hD ⊢
  have hA : ∀ q : Nat, s.heap.size ≤ q → A q := fun q h => by rw [← hAe]; exact Or.inr h
  have hS : va_S A s.heap s.heap [] := va_S.rf
  have hl := lv_entry ([.ref t_h, .ref l_h, .ref c_h, .int p3]) (n := 7) (Nat.le_of_ble_eq_true rfl)
  rw [show entryFrame m args 7 = entryFrame m ([.ref t_h, .ref l_h, .ref c_h, .int p3] : List Value).toArray 7 by rw [hargs], lg_entry_eq]
  generalize (lg_sl ([.ref t_h, .ref l_h, .ref c_h, .int p3]) ++ List.replicate (7 - (lg_sl ([.ref t_h, .ref l_h, .ref c_h, .int p3])).length) Slot.unset).toArray = ls at hl ⊢
  have hl : lv_has ls 7 [(0, .ref t_h), (1, .ref l_h), (2, .ref c_h), (3, .int p3)] := hl
  unfold wX0_countFree at h
  suffices hM : ∀ (H : Heap) (locs : List Loc), va_P G vwCl (((t_h, .inr (0, [.int t_width, .int t_height, .ref t_rules_a])) :: (t_rules_a, .inl (cJ, 60, .inr (.inr (.inr (.inr t_rules))))) :: (l_h, .inr (2, [.int l_count, .int l_steps, .ref l_owners_a, .ref l_firsts_a, .ref l_ownersBySteps_a, .ref l_cells_a, .ref l_ends_a, .ref l_rightward_a, .ref l_downward_a])) :: (l_owners_a, .inl (cI, 144, .inl l_owners)) :: (l_firsts_a, .inl (cI, 37, .inl l_firsts)) :: (l_ownersBySteps_a, .inl (cI, 144, .inl l_ownersBySteps)) :: (l_cells_a, .inl (cI, 144, .inl l_cells)) :: (l_ends_a, .inl (cI, 144, .inl l_ends)) :: (l_rightward_a, .inl (cI, 144, .inl l_rightward)) :: (l_downward_a, .inl (cI, 144, .inl l_downward)) :: (c_h, .inr (1, [.int c_arcs, .int c_ties, .ref c_passes_a, .ref c_arcsBySteps_a, .ref c_overs_a, .ref c_unders_a, .ref c_tied_a, .ref c_groups_a])) :: (c_passes_a, .inl (cI, 144, .inl c_passes)) :: (c_arcsBySteps_a, .inl (cI, 144, .inl c_arcsBySteps)) :: (c_overs_a, .inl (cI, 60, .inl c_overs)) :: (c_unders_a, .inl (cI, 60, .inl c_unders)) :: (c_tied_a, .inl (cI, 36, .inl c_tied)) :: (c_groups_a, .inl (cI, 36, .inl c_groups)) :: E) ++ va_pl L (fun q => .inl (cI, 96, .inl (t_rows q)))) H → va_S A s.heap H locs → W p l e (headSpec wsX0_countFree rmX0_countFree).room s m args below meth c H locs 0 0 (MQ below (va_Qi (fun (r : Int32) (u : Int32 × Int32 × (Nat → Option Nat) × (Nat → Nat → Int32)) => Q r u.1 u.2.1 u.2.2.1 u.2.2.2) (fun (u : Int32 × Int32 × (Nat → Option Nat) × (Nat → Nat → Int32)) t => va_P G vwCl (((t_h, .inr (0, [.int u.1, .int u.2.1, .ref t_rules_a])) :: (t_rules_a, .inl (cJ, 60, .inr (.inr (.inr (.inr u.2.2.1))))) :: (l_h, .inr (2, [.int l_count, .int l_steps, .ref l_owners_a, .ref l_firsts_a, .ref l_ownersBySteps_a, .ref l_cells_a, .ref l_ends_a, .ref l_rightward_a, .ref l_downward_a])) :: (l_owners_a, .inl (cI, 144, .inl l_owners)) :: (l_firsts_a, .inl (cI, 37, .inl l_firsts)) :: (l_ownersBySteps_a, .inl (cI, 144, .inl l_ownersBySteps)) :: (l_cells_a, .inl (cI, 144, .inl l_cells)) :: (l_ends_a, .inl (cI, 144, .inl l_ends)) :: (l_rightward_a, .inl (cI, 144, .inl l_rightward)) :: (l_downward_a, .inl (cI, 144, .inl l_downward)) :: (c_h, .inr (1, [.int c_arcs, .int c_ties, .ref c_passes_a, .ref c_arcsBySteps_a, .ref c_overs_a, .ref c_unders_a, .ref c_tied_a, .ref c_groups_a])) :: (c_passes_a, .inl (cI, 144, .inl c_passes)) :: (c_arcsBySteps_a, .inl (cI, 144, .inl c_arcsBySteps)) :: (c_overs_a, .inl (cI, 60, .inl c_overs)) :: (c_unders_a, .inl (cI, 60, .inl c_unders)) :: (c_tied_a, .inl (cI, 36, .inl c_tied)) :: (c_groups_a, .inl (cI, 36, .inl c_groups)) :: E) ++ va_pl L (fun q => .inl (cI, 96, .inl (u.2.2.2 q)))) t.heap ∧ va_D A (((t_h, .inr (0, [.int u.1, .int u.2.1, .ref t_rules_a])) :: (t_rules_a, .inl (cJ, 60, .inr (.inr (.inr (.inr u.2.2.1))))) :: (l_h, .inr (2, [.int l_count, .int l_steps, .ref l_owners_a, .ref l_firsts_a, .ref l_ownersBySteps_a, .ref l_cells_a, .ref l_ends_a, .ref l_rightward_a, .ref l_downward_a])) :: (l_owners_a, .inl (cI, 144, .inl l_owners)) :: (l_firsts_a, .inl (cI, 37, .inl l_firsts)) :: (l_ownersBySteps_a, .inl (cI, 144, .inl l_ownersBySteps)) :: (l_cells_a, .inl (cI, 144, .inl l_cells)) :: (l_ends_a, .inl (cI, 144, .inl l_ends)) :: (l_rightward_a, .inl (cI, 144, .inl l_rightward)) :: (l_downward_a, .inl (cI, 144, .inl l_downward)) :: (c_h, .inr (1, [.int c_arcs, .int c_ties, .ref c_passes_a, .ref c_arcsBySteps_a, .ref c_overs_a, .ref c_unders_a, .ref c_tied_a, .ref c_groups_a])) :: (c_passes_a, .inl (cI, 144, .inl c_passes)) :: (c_arcsBySteps_a, .inl (cI, 144, .inl c_arcsBySteps)) :: (c_overs_a, .inl (cI, 60, .inl c_overs)) :: (c_unders_a, .inl (cI, 60, .inl c_unders)) :: (c_tied_a, .inl (cI, 36, .inl c_tied)) :: (c_groups_a, .inl (cI, 36, .inl c_groups)) :: E) ++ va_pl L (fun q => .inl (cI, 96, .inl (u.2.2.2 q))))) A) args s 0 0 A) (F0 m 0 ls []) from hM _ _ hP hS
  clear hP hS
  intro H locs hP hS
  refine lv_iload_n hx hb dX0_countFree_0 rfl (lv_at hl 3 rfl) ?_
  refine lv_iconst (v := (2 : Int32)) hx hb dX0_countFree_1 (by decide) ?_
  refine lv_icmp_ge (tgt := 8) hx hb dX0_countFree_2 (by decide) (fun q6 => ?_) (fun q6 => ?_)
  · have h := (if_pos q6).mp h
    refine lv_aload_n hx hb dX0_countFree_8 rfl (lv_at hl 0 rfl) ?_
    refine lv_aload_n hx hb dX0_countFree_9 rfl (lv_at hl 1 rfl) ?_
    refine lv_aload_n hx hb dX0_countFree_10 rfl (lv_at hl 2 rfl) ?_
    have hPc := hP
    have hDc := hD
    have hFc := zw_free hD hS hA
    refine va_callv (va_runV (As := [.ref l_h, .ref c_h]) (rest := []) ⟨hx, hb, hml, hown, hts⟩ (kX0_gather L (E) t_h t_rules_a l_h l_owners_a l_firsts_a l_ownersBySteps_a l_cells_a l_ends_a l_rightward_a l_downward_a c_h c_passes_a c_arcsBySteps_a c_overs_a c_unders_a c_tied_a c_groups_a t_width t_height t_rules l_count l_steps l_owners l_firsts l_ownersBySteps l_cells l_ends l_rightward l_downward c_arcs c_ties c_passes c_arcsBySteps c_overs c_unders c_tied c_groups t_rows h _) (cwV 2 hts (gIn (aV u66 u67 u68 u35 u69)) rfl rfl rfl (by decide +kernel) ⟨Nat.le_of_ble_eq_true rfl, Nat.le_of_ble_eq_true rfl⟩) (pV hK hPc hDc (ci := 0) (q0 := 0) rfl rfl) rfl rfl hl.1 rfl (lv_room (Nat.le_of_ble_eq_true rfl)) dX0_countFree_11 ⟨Nat.zero_le _, Nat.zero_le _⟩) hS (fun q _ h => hFc q h) hFc (fun u t H1 locs ht hvm hw hB hz1 hk1 hS => ?_)
    obtain ⟨t_width__11, t_height__11, t_rows__11⟩ := u
    obtain ⟨hP1, hD1⟩ := hB
    rw [ht] at hP1
    have hP : va_P G vwCl (((t_h, .inr (0, [.int t_width__11, .int t_height__11, .ref t_rules_a])) :: (t_rules_a, .inl (cJ, 60, .inr (.inr (.inr (.inr t_rules))))) :: (l_h, .inr (2, [.int l_count, .int l_steps, .ref l_owners_a, .ref l_firsts_a, .ref l_ownersBySteps_a, .ref l_cells_a, .ref l_ends_a, .ref l_rightward_a, .ref l_downward_a])) :: (l_owners_a, .inl (cI, 144, .inl l_owners)) :: (l_firsts_a, .inl (cI, 37, .inl l_firsts)) :: (l_ownersBySteps_a, .inl (cI, 144, .inl l_ownersBySteps)) :: (l_cells_a, .inl (cI, 144, .inl l_cells)) :: (l_ends_a, .inl (cI, 144, .inl l_ends)) :: (l_rightward_a, .inl (cI, 144, .inl l_rightward)) :: (l_downward_a, .inl (cI, 144, .inl l_downward)) :: (c_h, .inr (1, [.int c_arcs, .int c_ties, .ref c_passes_a, .ref c_arcsBySteps_a, .ref c_overs_a, .ref c_unders_a, .ref c_tied_a, .ref c_groups_a])) :: (c_passes_a, .inl (cI, 144, .inl c_passes)) :: (c_arcsBySteps_a, .inl (cI, 144, .inl c_arcsBySteps)) :: (c_overs_a, .inl (cI, 60, .inl c_overs)) :: (c_unders_a, .inl (cI, 60, .inl c_unders)) :: (c_tied_a, .inl (cI, 36, .inl c_tied)) :: (c_groups_a, .inl (cI, 36, .inl c_groups)) :: E) ++ va_pl L (fun q => .inl (cI, 96, .inl (t_rows__11 q)))) H1 := hP1
    have hD : va_D A (((t_h, .inr (0, [.int t_width__11, .int t_height__11, .ref t_rules_a])) :: (t_rules_a, .inl (cJ, 60, .inr (.inr (.inr (.inr t_rules))))) :: (l_h, .inr (2, [.int l_count, .int l_steps, .ref l_owners_a, .ref l_firsts_a, .ref l_ownersBySteps_a, .ref l_cells_a, .ref l_ends_a, .ref l_rightward_a, .ref l_downward_a])) :: (l_owners_a, .inl (cI, 144, .inl l_owners)) :: (l_firsts_a, .inl (cI, 37, .inl l_firsts)) :: (l_ownersBySteps_a, .inl (cI, 144, .inl l_ownersBySteps)) :: (l_cells_a, .inl (cI, 144, .inl l_cells)) :: (l_ends_a, .inl (cI, 144, .inl l_ends)) :: (l_rightward_a, .inl (cI, 144, .inl l_rightward)) :: (l_downward_a, .inl (cI, 144, .inl l_downward)) :: (c_h, .inr (1, [.int c_arcs, .int c_ties, .ref c_passes_a, .ref c_arcsBySteps_a, .ref c_overs_a, .ref c_unders_a, .ref c_tied_a, .ref c_groups_a])) :: (c_passes_a, .inl (cI, 144, .inl c_passes)) :: (c_arcsBySteps_a, .inl (cI, 144, .inl c_arcsBySteps)) :: (c_overs_a, .inl (cI, 60, .inl c_overs)) :: (c_unders_a, .inl (cI, 60, .inl c_unders)) :: (c_tied_a, .inl (cI, 36, .inl c_tied)) :: (c_groups_a, .inl (cI, 36, .inl c_groups)) :: E) ++ va_pl L (fun q => .inl (cI, 96, .inl (t_rows__11 q)))) := hD1.weaken (fun k q _ h => hFc q.1 h)
    generalize H1 = H at hP hS ⊢
    have h := hw
    clear hw
    refine lv_iconst (v := (0 : Int32)) hx hb dX0_countFree_14 (by decide) ?_
    refine lv_istore (lv' := [(4, .int (0 : Int32)), (0, .ref t_h), (1, .ref l_h), (2, .ref c_h), (3, .int p3)]) hx hb dX0_countFree_15 hl (by decide) rfl (fun ls hl => ?_)
    refine lv_iconst (v := (0 : Int32)) hx hb dX0_countFree_17 (by decide) ?_
    refine lv_istore (lv' := [(5, .int (0 : Int32)), (4, .int (0 : Int32)), (0, .ref t_h), (1, .ref l_h), (2, .ref c_h), (3, .int p3)]) hx hb dX0_countFree_18 hl (by decide) rfl (fun ls hl => ?_)
    have X1 : ∀ (y80_4 : Int32) (t_rules__80 : Nat → Option Nat) (t_rows__80 : Nat → Nat → Int32) (H : Heap) (locs : List Loc) (ls : Array Slot), wX0_countFree_X80 Q t_width__11 t_height__11 y80_4 t_rules__80 t_rows__80 → va_P G vwCl (((t_h, .inr (0, [.int t_width__11, .int t_height__11, .ref t_rules_a])) :: (t_rules_a, .inl (cJ, 60, .inr (.inr (.inr (.inr t_rules__80))))) :: (l_h, .inr (2, [.int l_count, .int l_steps, .ref l_owners_a, .ref l_firsts_a, .ref l_ownersBySteps_a, .ref l_cells_a, .ref l_ends_a, .ref l_rightward_a, .ref l_downward_a])) :: (l_owners_a, .inl (cI, 144, .inl l_owners)) :: (l_firsts_a, .inl (cI, 37, .inl l_firsts)) :: (l_ownersBySteps_a, .inl (cI, 144, .inl l_ownersBySteps)) :: (l_cells_a, .inl (cI, 144, .inl l_cells)) :: (l_ends_a, .inl (cI, 144, .inl l_ends)) :: (l_rightward_a, .inl (cI, 144, .inl l_rightward)) :: (l_downward_a, .inl (cI, 144, .inl l_downward)) :: (c_h, .inr (1, [.int c_arcs, .int c_ties, .ref c_passes_a, .ref c_arcsBySteps_a, .ref c_overs_a, .ref c_unders_a, .ref c_tied_a, .ref c_groups_a])) :: (c_passes_a, .inl (cI, 144, .inl c_passes)) :: (c_arcsBySteps_a, .inl (cI, 144, .inl c_arcsBySteps)) :: (c_overs_a, .inl (cI, 60, .inl c_overs)) :: (c_unders_a, .inl (cI, 60, .inl c_unders)) :: (c_tied_a, .inl (cI, 36, .inl c_tied)) :: (c_groups_a, .inl (cI, 36, .inl c_groups)) :: E) ++ va_pl L (fun q => .inl (cI, 96, .inl (t_rows__80 q)))) H → va_D A (((t_h, .inr (0, [.int t_width__11, .int t_height__11, .ref t_rules_a])) :: (t_rules_a, .inl (cJ, 60, .inr (.inr (.inr (.inr t_rules__80))))) :: (l_h, .inr (2, [.int l_count, .int l_steps, .ref l_owners_a, .ref l_firsts_a, .ref l_ownersBySteps_a, .ref l_cells_a, .ref l_ends_a, .ref l_rightward_a, .ref l_downward_a])) :: (l_owners_a, .inl (cI, 144, .inl l_owners)) :: (l_firsts_a, .inl (cI, 37, .inl l_firsts)) :: (l_ownersBySteps_a, .inl (cI, 144, .inl l_ownersBySteps)) :: (l_cells_a, .inl (cI, 144, .inl l_cells)) :: (l_ends_a, .inl (cI, 144, .inl l_ends)) :: (l_rightward_a, .inl (cI, 144, .inl l_rightward)) :: (l_downward_a, .inl (cI, 144, .inl l_downward)) :: (c_h, .inr (1, [.int c_arcs, .int c_ties, .ref c_passes_a, .ref c_arcsBySteps_a, .ref c_overs_a, .ref c_unders_a, .ref c_tied_a, .ref c_groups_a])) :: (c_passes_a, .inl (cI, 144, .inl c_passes)) :: (c_arcsBySteps_a, .inl (cI, 144, .inl c_arcsBySteps)) :: (c_overs_a, .inl (cI, 60, .inl c_overs)) :: (c_unders_a, .inl (cI, 60, .inl c_unders)) :: (c_tied_a, .inl (cI, 36, .inl c_tied)) :: (c_groups_a, .inl (cI, 36, .inl c_groups)) :: E) ++ va_pl L (fun q => .inl (cI, 96, .inl (t_rows__80 q)))) → va_S A s.heap H locs → lv_has ls 7 [(0, .ref t_h), (4, .int y80_4)] → W p l e (headSpec wsX0_countFree rmX0_countFree).room s m args below meth c H locs 0 0 (MQ below (va_Qi (fun (r : Int32) (u : Int32 × Int32 × (Nat → Option Nat) × (Nat → Nat → Int32)) => Q r u.1 u.2.1 u.2.2.1 u.2.2.2) (fun (u : Int32 × Int32 × (Nat → Option Nat) × (Nat → Nat → Int32)) t => va_P G vwCl (((t_h, .inr (0, [.int u.1, .int u.2.1, .ref t_rules_a])) :: (t_rules_a, .inl (cJ, 60, .inr (.inr (.inr (.inr u.2.2.1))))) :: (l_h, .inr (2, [.int l_count, .int l_steps, .ref l_owners_a, .ref l_firsts_a, .ref l_ownersBySteps_a, .ref l_cells_a, .ref l_ends_a, .ref l_rightward_a, .ref l_downward_a])) :: (l_owners_a, .inl (cI, 144, .inl l_owners)) :: (l_firsts_a, .inl (cI, 37, .inl l_firsts)) :: (l_ownersBySteps_a, .inl (cI, 144, .inl l_ownersBySteps)) :: (l_cells_a, .inl (cI, 144, .inl l_cells)) :: (l_ends_a, .inl (cI, 144, .inl l_ends)) :: (l_rightward_a, .inl (cI, 144, .inl l_rightward)) :: (l_downward_a, .inl (cI, 144, .inl l_downward)) :: (c_h, .inr (1, [.int c_arcs, .int c_ties, .ref c_passes_a, .ref c_arcsBySteps_a, .ref c_overs_a, .ref c_unders_a, .ref c_tied_a, .ref c_groups_a])) :: (c_passes_a, .inl (cI, 144, .inl c_passes)) :: (c_arcsBySteps_a, .inl (cI, 144, .inl c_arcsBySteps)) :: (c_overs_a, .inl (cI, 60, .inl c_overs)) :: (c_unders_a, .inl (cI, 60, .inl c_unders)) :: (c_tied_a, .inl (cI, 36, .inl c_tied)) :: (c_groups_a, .inl (cI, 36, .inl c_groups)) :: E) ++ va_pl L (fun q => .inl (cI, 96, .inl (u.2.2.2 q)))) t.heap ∧ va_D A (((t_h, .inr (0, [.int u.1, .int u.2.1, .ref t_rules_a])) :: (t_rules_a, .inl (cJ, 60, .inr (.inr (.inr (.inr u.2.2.1))))) :: (l_h, .inr (2, [.int l_count, .int l_steps, .ref l_owners_a, .ref l_firsts_a, .ref l_ownersBySteps_a, .ref l_cells_a, .ref l_ends_a, .ref l_rightward_a, .ref l_downward_a])) :: (l_owners_a, .inl (cI, 144, .inl l_owners)) :: (l_firsts_a, .inl (cI, 37, .inl l_firsts)) :: (l_ownersBySteps_a, .inl (cI, 144, .inl l_ownersBySteps)) :: (l_cells_a, .inl (cI, 144, .inl l_cells)) :: (l_ends_a, .inl (cI, 144, .inl l_ends)) :: (l_rightward_a, .inl (cI, 144, .inl l_rightward)) :: (l_downward_a, .inl (cI, 144, .inl l_downward)) :: (c_h, .inr (1, [.int c_arcs, .int c_ties, .ref c_passes_a, .ref c_arcsBySteps_a, .ref c_overs_a, .ref c_unders_a, .ref c_tied_a, .ref c_groups_a])) :: (c_passes_a, .inl (cI, 144, .inl c_passes)) :: (c_arcsBySteps_a, .inl (cI, 144, .inl c_arcsBySteps)) :: (c_overs_a, .inl (cI, 60, .inl c_overs)) :: (c_unders_a, .inl (cI, 60, .inl c_unders)) :: (c_tied_a, .inl (cI, 36, .inl c_tied)) :: (c_groups_a, .inl (cI, 36, .inl c_groups)) :: E) ++ va_pl L (fun q => .inl (cI, 96, .inl (u.2.2.2 q))))) A) args s 0 0 A) (F0 m 80 ls []) := by
      intro y80_4 t_rules__80 t_rows__80 H locs ls h hP hD hS hl
      unfold wX0_countFree_X80 at h
      refine lv_aload_n hx hb dX0_countFree_80 rfl (lv_at hl 0 rfl) ?_
      refine va_get (D := G) (ci := 0) (v := .int t_width__11) (C := RX0) (T := TX0) (N := 3) hx hb hts inC0 hown hK.1 hP 0 rfl rfl 0 (by decide) (hts _ (List.mem_cons_of_mem _ u6)) (fun _ h9 => h9) rfl dX0_countFree_81 ?_
      refine lv_iload hx hb dX0_countFree_84 (lv_at hl 1 rfl) ?_
      refine lv_isub hx hb dX0_countFree_86 ?_
      exact W.iret (v := (t_width__11 - y80_4)) hx hb hr (fun t ht hW => ⟨⟨(t_width__11 - y80_4), (t_width__11, t_height__11, t_rules__80, t_rows__80), rfl, h, ⟨by rw [ht]; exact hP, hD⟩⟩, hS.F ht⟩) hS.2.2 dX0_countFree_87
    obtain ⟨K20, hK20⟩ : ∃ f : Int32 → (Nat → Option Nat) → (Nat → Nat → Int32) → Prop, f = (wX0_countFree_X80 Q t_width__11 t_height__11) := ⟨_, rfl⟩
    replace X1 : ∀ (y80_4 : Int32) (t_rules__80 : Nat → Option Nat) (t_rows__80 : Nat → Nat → Int32) (H : Heap) (locs : List Loc) (ls : Array Slot), K20 y80_4 t_rules__80 t_rows__80 → va_P G vwCl (((t_h, .inr (0, [.int t_width__11, .int t_height__11, .ref t_rules_a])) :: (t_rules_a, .inl (cJ, 60, .inr (.inr (.inr (.inr t_rules__80))))) :: (l_h, .inr (2, [.int l_count, .int l_steps, .ref l_owners_a, .ref l_firsts_a, .ref l_ownersBySteps_a, .ref l_cells_a, .ref l_ends_a, .ref l_rightward_a, .ref l_downward_a])) :: (l_owners_a, .inl (cI, 144, .inl l_owners)) :: (l_firsts_a, .inl (cI, 37, .inl l_firsts)) :: (l_ownersBySteps_a, .inl (cI, 144, .inl l_ownersBySteps)) :: (l_cells_a, .inl (cI, 144, .inl l_cells)) :: (l_ends_a, .inl (cI, 144, .inl l_ends)) :: (l_rightward_a, .inl (cI, 144, .inl l_rightward)) :: (l_downward_a, .inl (cI, 144, .inl l_downward)) :: (c_h, .inr (1, [.int c_arcs, .int c_ties, .ref c_passes_a, .ref c_arcsBySteps_a, .ref c_overs_a, .ref c_unders_a, .ref c_tied_a, .ref c_groups_a])) :: (c_passes_a, .inl (cI, 144, .inl c_passes)) :: (c_arcsBySteps_a, .inl (cI, 144, .inl c_arcsBySteps)) :: (c_overs_a, .inl (cI, 60, .inl c_overs)) :: (c_unders_a, .inl (cI, 60, .inl c_unders)) :: (c_tied_a, .inl (cI, 36, .inl c_tied)) :: (c_groups_a, .inl (cI, 36, .inl c_groups)) :: E) ++ va_pl L (fun q => .inl (cI, 96, .inl (t_rows__80 q)))) H → va_D A (((t_h, .inr (0, [.int t_width__11, .int t_height__11, .ref t_rules_a])) :: (t_rules_a, .inl (cJ, 60, .inr (.inr (.inr (.inr t_rules__80))))) :: (l_h, .inr (2, [.int l_count, .int l_steps, .ref l_owners_a, .ref l_firsts_a, .ref l_ownersBySteps_a, .ref l_cells_a, .ref l_ends_a, .ref l_rightward_a, .ref l_downward_a])) :: (l_owners_a, .inl (cI, 144, .inl l_owners)) :: (l_firsts_a, .inl (cI, 37, .inl l_firsts)) :: (l_ownersBySteps_a, .inl (cI, 144, .inl l_ownersBySteps)) :: (l_cells_a, .inl (cI, 144, .inl l_cells)) :: (l_ends_a, .inl (cI, 144, .inl l_ends)) :: (l_rightward_a, .inl (cI, 144, .inl l_rightward)) :: (l_downward_a, .inl (cI, 144, .inl l_downward)) :: (c_h, .inr (1, [.int c_arcs, .int c_ties, .ref c_passes_a, .ref c_arcsBySteps_a, .ref c_overs_a, .ref c_unders_a, .ref c_tied_a, .ref c_groups_a])) :: (c_passes_a, .inl (cI, 144, .inl c_passes)) :: (c_arcsBySteps_a, .inl (cI, 144, .inl c_arcsBySteps)) :: (c_overs_a, .inl (cI, 60, .inl c_overs)) :: (c_unders_a, .inl (cI, 60, .inl c_unders)) :: (c_tied_a, .inl (cI, 36, .inl c_tied)) :: (c_groups_a, .inl (cI, 36, .inl c_groups)) :: E) ++ va_pl L (fun q => .inl (cI, 96, .inl (t_rows__80 q)))) → va_S A s.heap H locs → lv_has ls 7 [(0, .ref t_h), (4, .int y80_4)] → W p l e (headSpec wsX0_countFree rmX0_countFree).room s m args below meth c H locs 0 0 (MQ below (va_Qi (fun (r : Int32) (u : Int32 × Int32 × (Nat → Option Nat) × (Nat → Nat → Int32)) => Q r u.1 u.2.1 u.2.2.1 u.2.2.2) (fun (u : Int32 × Int32 × (Nat → Option Nat) × (Nat → Nat → Int32)) t => va_P G vwCl (((t_h, .inr (0, [.int u.1, .int u.2.1, .ref t_rules_a])) :: (t_rules_a, .inl (cJ, 60, .inr (.inr (.inr (.inr u.2.2.1))))) :: (l_h, .inr (2, [.int l_count, .int l_steps, .ref l_owners_a, .ref l_firsts_a, .ref l_ownersBySteps_a, .ref l_cells_a, .ref l_ends_a, .ref l_rightward_a, .ref l_downward_a])) :: (l_owners_a, .inl (cI, 144, .inl l_owners)) :: (l_firsts_a, .inl (cI, 37, .inl l_firsts)) :: (l_ownersBySteps_a, .inl (cI, 144, .inl l_ownersBySteps)) :: (l_cells_a, .inl (cI, 144, .inl l_cells)) :: (l_ends_a, .inl (cI, 144, .inl l_ends)) :: (l_rightward_a, .inl (cI, 144, .inl l_rightward)) :: (l_downward_a, .inl (cI, 144, .inl l_downward)) :: (c_h, .inr (1, [.int c_arcs, .int c_ties, .ref c_passes_a, .ref c_arcsBySteps_a, .ref c_overs_a, .ref c_unders_a, .ref c_tied_a, .ref c_groups_a])) :: (c_passes_a, .inl (cI, 144, .inl c_passes)) :: (c_arcsBySteps_a, .inl (cI, 144, .inl c_arcsBySteps)) :: (c_overs_a, .inl (cI, 60, .inl c_overs)) :: (c_unders_a, .inl (cI, 60, .inl c_unders)) :: (c_tied_a, .inl (cI, 36, .inl c_tied)) :: (c_groups_a, .inl (cI, 36, .inl c_groups)) :: E) ++ va_pl L (fun q => .inl (cI, 96, .inl (u.2.2.2 q)))) t.heap ∧ va_D A (((t_h, .inr (0, [.int u.1, .int u.2.1, .ref t_rules_a])) :: (t_rules_a, .inl (cJ, 60, .inr (.inr (.inr (.inr u.2.2.1))))) :: (l_h, .inr (2, [.int l_count, .int l_steps, .ref l_owners_a, .ref l_firsts_a, .ref l_ownersBySteps_a, .ref l_cells_a, .ref l_ends_a, .ref l_rightward_a, .ref l_downward_a])) :: (l_owners_a, .inl (cI, 144, .inl l_owners)) :: (l_firsts_a, .inl (cI, 37, .inl l_firsts)) :: (l_ownersBySteps_a, .inl (cI, 144, .inl l_ownersBySteps)) :: (l_cells_a, .inl (cI, 144, .inl l_cells)) :: (l_ends_a, .inl (cI, 144, .inl l_ends)) :: (l_rightward_a, .inl (cI, 144, .inl l_rightward)) :: (l_downward_a, .inl (cI, 144, .inl l_downward)) :: (c_h, .inr (1, [.int c_arcs, .int c_ties, .ref c_passes_a, .ref c_arcsBySteps_a, .ref c_overs_a, .ref c_unders_a, .ref c_tied_a, .ref c_groups_a])) :: (c_passes_a, .inl (cI, 144, .inl c_passes)) :: (c_arcsBySteps_a, .inl (cI, 144, .inl c_arcsBySteps)) :: (c_overs_a, .inl (cI, 60, .inl c_overs)) :: (c_unders_a, .inl (cI, 60, .inl c_unders)) :: (c_tied_a, .inl (cI, 36, .inl c_tied)) :: (c_groups_a, .inl (cI, 36, .inl c_groups)) :: E) ++ va_pl L (fun q => .inl (cI, 96, .inl (u.2.2.2 q))))) A) args s 0 0 A) (F0 m 80 ls []) := by rw [hK20]; exact X1
    have R2 : ∀ (n : Nat) (x20_4 : Int32) (x20_5 : Int32) (t_rules__20 : Nat → Option Nat) (t_rows__20 : Nat → Nat → Int32) (H : Heap) (locs : List Loc) (ls : Array Slot), lX0_countFree_20 L p3 t_width__11 t_height__11 K20 n x20_4 x20_5 t_rules__20 t_rows__20 → va_P G vwCl (((t_h, .inr (0, [.int t_width__11, .int t_height__11, .ref t_rules_a])) :: (t_rules_a, .inl (cJ, 60, .inr (.inr (.inr (.inr t_rules__20))))) :: (l_h, .inr (2, [.int l_count, .int l_steps, .ref l_owners_a, .ref l_firsts_a, .ref l_ownersBySteps_a, .ref l_cells_a, .ref l_ends_a, .ref l_rightward_a, .ref l_downward_a])) :: (l_owners_a, .inl (cI, 144, .inl l_owners)) :: (l_firsts_a, .inl (cI, 37, .inl l_firsts)) :: (l_ownersBySteps_a, .inl (cI, 144, .inl l_ownersBySteps)) :: (l_cells_a, .inl (cI, 144, .inl l_cells)) :: (l_ends_a, .inl (cI, 144, .inl l_ends)) :: (l_rightward_a, .inl (cI, 144, .inl l_rightward)) :: (l_downward_a, .inl (cI, 144, .inl l_downward)) :: (c_h, .inr (1, [.int c_arcs, .int c_ties, .ref c_passes_a, .ref c_arcsBySteps_a, .ref c_overs_a, .ref c_unders_a, .ref c_tied_a, .ref c_groups_a])) :: (c_passes_a, .inl (cI, 144, .inl c_passes)) :: (c_arcsBySteps_a, .inl (cI, 144, .inl c_arcsBySteps)) :: (c_overs_a, .inl (cI, 60, .inl c_overs)) :: (c_unders_a, .inl (cI, 60, .inl c_unders)) :: (c_tied_a, .inl (cI, 36, .inl c_tied)) :: (c_groups_a, .inl (cI, 36, .inl c_groups)) :: E) ++ va_pl L (fun q => .inl (cI, 96, .inl (t_rows__20 q)))) H → va_D A (((t_h, .inr (0, [.int t_width__11, .int t_height__11, .ref t_rules_a])) :: (t_rules_a, .inl (cJ, 60, .inr (.inr (.inr (.inr t_rules__20))))) :: (l_h, .inr (2, [.int l_count, .int l_steps, .ref l_owners_a, .ref l_firsts_a, .ref l_ownersBySteps_a, .ref l_cells_a, .ref l_ends_a, .ref l_rightward_a, .ref l_downward_a])) :: (l_owners_a, .inl (cI, 144, .inl l_owners)) :: (l_firsts_a, .inl (cI, 37, .inl l_firsts)) :: (l_ownersBySteps_a, .inl (cI, 144, .inl l_ownersBySteps)) :: (l_cells_a, .inl (cI, 144, .inl l_cells)) :: (l_ends_a, .inl (cI, 144, .inl l_ends)) :: (l_rightward_a, .inl (cI, 144, .inl l_rightward)) :: (l_downward_a, .inl (cI, 144, .inl l_downward)) :: (c_h, .inr (1, [.int c_arcs, .int c_ties, .ref c_passes_a, .ref c_arcsBySteps_a, .ref c_overs_a, .ref c_unders_a, .ref c_tied_a, .ref c_groups_a])) :: (c_passes_a, .inl (cI, 144, .inl c_passes)) :: (c_arcsBySteps_a, .inl (cI, 144, .inl c_arcsBySteps)) :: (c_overs_a, .inl (cI, 60, .inl c_overs)) :: (c_unders_a, .inl (cI, 60, .inl c_unders)) :: (c_tied_a, .inl (cI, 36, .inl c_tied)) :: (c_groups_a, .inl (cI, 36, .inl c_groups)) :: E) ++ va_pl L (fun q => .inl (cI, 96, .inl (t_rows__20 q)))) → va_S A s.heap H locs → lv_has ls 7 [(0, .ref t_h), (3, .int p3), (4, .int x20_4), (5, .int x20_5)] → W p l e (headSpec wsX0_countFree rmX0_countFree).room s m args below meth c H locs 0 0 (MQ below (va_Qi (fun (r : Int32) (u : Int32 × Int32 × (Nat → Option Nat) × (Nat → Nat → Int32)) => Q r u.1 u.2.1 u.2.2.1 u.2.2.2) (fun (u : Int32 × Int32 × (Nat → Option Nat) × (Nat → Nat → Int32)) t => va_P G vwCl (((t_h, .inr (0, [.int u.1, .int u.2.1, .ref t_rules_a])) :: (t_rules_a, .inl (cJ, 60, .inr (.inr (.inr (.inr u.2.2.1))))) :: (l_h, .inr (2, [.int l_count, .int l_steps, .ref l_owners_a, .ref l_firsts_a, .ref l_ownersBySteps_a, .ref l_cells_a, .ref l_ends_a, .ref l_rightward_a, .ref l_downward_a])) :: (l_owners_a, .inl (cI, 144, .inl l_owners)) :: (l_firsts_a, .inl (cI, 37, .inl l_firsts)) :: (l_ownersBySteps_a, .inl (cI, 144, .inl l_ownersBySteps)) :: (l_cells_a, .inl (cI, 144, .inl l_cells)) :: (l_ends_a, .inl (cI, 144, .inl l_ends)) :: (l_rightward_a, .inl (cI, 144, .inl l_rightward)) :: (l_downward_a, .inl (cI, 144, .inl l_downward)) :: (c_h, .inr (1, [.int c_arcs, .int c_ties, .ref c_passes_a, .ref c_arcsBySteps_a, .ref c_overs_a, .ref c_unders_a, .ref c_tied_a, .ref c_groups_a])) :: (c_passes_a, .inl (cI, 144, .inl c_passes)) :: (c_arcsBySteps_a, .inl (cI, 144, .inl c_arcsBySteps)) :: (c_overs_a, .inl (cI, 60, .inl c_overs)) :: (c_unders_a, .inl (cI, 60, .inl c_unders)) :: (c_tied_a, .inl (cI, 36, .inl c_tied)) :: (c_groups_a, .inl (cI, 36, .inl c_groups)) :: E) ++ va_pl L (fun q => .inl (cI, 96, .inl (u.2.2.2 q)))) t.heap ∧ va_D A (((t_h, .inr (0, [.int u.1, .int u.2.1, .ref t_rules_a])) :: (t_rules_a, .inl (cJ, 60, .inr (.inr (.inr (.inr u.2.2.1))))) :: (l_h, .inr (2, [.int l_count, .int l_steps, .ref l_owners_a, .ref l_firsts_a, .ref l_ownersBySteps_a, .ref l_cells_a, .ref l_ends_a, .ref l_rightward_a, .ref l_downward_a])) :: (l_owners_a, .inl (cI, 144, .inl l_owners)) :: (l_firsts_a, .inl (cI, 37, .inl l_firsts)) :: (l_ownersBySteps_a, .inl (cI, 144, .inl l_ownersBySteps)) :: (l_cells_a, .inl (cI, 144, .inl l_cells)) :: (l_ends_a, .inl (cI, 144, .inl l_ends)) :: (l_rightward_a, .inl (cI, 144, .inl l_rightward)) :: (l_downward_a, .inl (cI, 144, .inl l_downward)) :: (c_h, .inr (1, [.int c_arcs, .int c_ties, .ref c_passes_a, .ref c_arcsBySteps_a, .ref c_overs_a, .ref c_unders_a, .ref c_tied_a, .ref c_groups_a])) :: (c_passes_a, .inl (cI, 144, .inl c_passes)) :: (c_arcsBySteps_a, .inl (cI, 144, .inl c_arcsBySteps)) :: (c_overs_a, .inl (cI, 60, .inl c_overs)) :: (c_unders_a, .inl (cI, 60, .inl c_unders)) :: (c_tied_a, .inl (cI, 36, .inl c_tied)) :: (c_groups_a, .inl (cI, 36, .inl c_groups)) :: E) ++ va_pl L (fun q => .inl (cI, 96, .inl (u.2.2.2 q))))) A) args s 0 0 A) (F0 m 20 ls []) := by
      intro n
      induction n with
      | zero => intro x20_4 x20_5 t_rules__20 t_rows__20 H locs ls h; exact False.elim h
      | succ n ih =>
        obtain ⟨R20, hR20⟩ : ∃ f : Int32 → Int32 → (Nat → Option Nat) → (Nat → Nat → Int32) → Prop, f = (fun x20_4 x20_5 t_rules__20 t_rows__20 => lX0_countFree_20 L p3 t_width__11 t_height__11 K20 n x20_4 x20_5 t_rules__20 t_rows__20) := ⟨_, rfl⟩
        replace ih : ∀ (x20_4 : Int32) (x20_5 : Int32) (t_rules__20 : Nat → Option Nat) (t_rows__20 : Nat → Nat → Int32) (H : Heap) (locs : List Loc) (ls : Array Slot), R20 x20_4 x20_5 t_rules__20 t_rows__20 → va_P G vwCl (((t_h, .inr (0, [.int t_width__11, .int t_height__11, .ref t_rules_a])) :: (t_rules_a, .inl (cJ, 60, .inr (.inr (.inr (.inr t_rules__20))))) :: (l_h, .inr (2, [.int l_count, .int l_steps, .ref l_owners_a, .ref l_firsts_a, .ref l_ownersBySteps_a, .ref l_cells_a, .ref l_ends_a, .ref l_rightward_a, .ref l_downward_a])) :: (l_owners_a, .inl (cI, 144, .inl l_owners)) :: (l_firsts_a, .inl (cI, 37, .inl l_firsts)) :: (l_ownersBySteps_a, .inl (cI, 144, .inl l_ownersBySteps)) :: (l_cells_a, .inl (cI, 144, .inl l_cells)) :: (l_ends_a, .inl (cI, 144, .inl l_ends)) :: (l_rightward_a, .inl (cI, 144, .inl l_rightward)) :: (l_downward_a, .inl (cI, 144, .inl l_downward)) :: (c_h, .inr (1, [.int c_arcs, .int c_ties, .ref c_passes_a, .ref c_arcsBySteps_a, .ref c_overs_a, .ref c_unders_a, .ref c_tied_a, .ref c_groups_a])) :: (c_passes_a, .inl (cI, 144, .inl c_passes)) :: (c_arcsBySteps_a, .inl (cI, 144, .inl c_arcsBySteps)) :: (c_overs_a, .inl (cI, 60, .inl c_overs)) :: (c_unders_a, .inl (cI, 60, .inl c_unders)) :: (c_tied_a, .inl (cI, 36, .inl c_tied)) :: (c_groups_a, .inl (cI, 36, .inl c_groups)) :: E) ++ va_pl L (fun q => .inl (cI, 96, .inl (t_rows__20 q)))) H → va_D A (((t_h, .inr (0, [.int t_width__11, .int t_height__11, .ref t_rules_a])) :: (t_rules_a, .inl (cJ, 60, .inr (.inr (.inr (.inr t_rules__20))))) :: (l_h, .inr (2, [.int l_count, .int l_steps, .ref l_owners_a, .ref l_firsts_a, .ref l_ownersBySteps_a, .ref l_cells_a, .ref l_ends_a, .ref l_rightward_a, .ref l_downward_a])) :: (l_owners_a, .inl (cI, 144, .inl l_owners)) :: (l_firsts_a, .inl (cI, 37, .inl l_firsts)) :: (l_ownersBySteps_a, .inl (cI, 144, .inl l_ownersBySteps)) :: (l_cells_a, .inl (cI, 144, .inl l_cells)) :: (l_ends_a, .inl (cI, 144, .inl l_ends)) :: (l_rightward_a, .inl (cI, 144, .inl l_rightward)) :: (l_downward_a, .inl (cI, 144, .inl l_downward)) :: (c_h, .inr (1, [.int c_arcs, .int c_ties, .ref c_passes_a, .ref c_arcsBySteps_a, .ref c_overs_a, .ref c_unders_a, .ref c_tied_a, .ref c_groups_a])) :: (c_passes_a, .inl (cI, 144, .inl c_passes)) :: (c_arcsBySteps_a, .inl (cI, 144, .inl c_arcsBySteps)) :: (c_overs_a, .inl (cI, 60, .inl c_overs)) :: (c_unders_a, .inl (cI, 60, .inl c_unders)) :: (c_tied_a, .inl (cI, 36, .inl c_tied)) :: (c_groups_a, .inl (cI, 36, .inl c_groups)) :: E) ++ va_pl L (fun q => .inl (cI, 96, .inl (t_rows__20 q)))) → va_S A s.heap H locs → lv_has ls 7 [(0, .ref t_h), (3, .int p3), (4, .int x20_4), (5, .int x20_5)] → W p l e (headSpec wsX0_countFree rmX0_countFree).room s m args below meth c H locs 0 0 (MQ below (va_Qi (fun (r : Int32) (u : Int32 × Int32 × (Nat → Option Nat) × (Nat → Nat → Int32)) => Q r u.1 u.2.1 u.2.2.1 u.2.2.2) (fun (u : Int32 × Int32 × (Nat → Option Nat) × (Nat → Nat → Int32)) t => va_P G vwCl (((t_h, .inr (0, [.int u.1, .int u.2.1, .ref t_rules_a])) :: (t_rules_a, .inl (cJ, 60, .inr (.inr (.inr (.inr u.2.2.1))))) :: (l_h, .inr (2, [.int l_count, .int l_steps, .ref l_owners_a, .ref l_firsts_a, .ref l_ownersBySteps_a, .ref l_cells_a, .ref l_ends_a, .ref l_rightward_a, .ref l_downward_a])) :: (l_owners_a, .inl (cI, 144, .inl l_owners)) :: (l_firsts_a, .inl (cI, 37, .inl l_firsts)) :: (l_ownersBySteps_a, .inl (cI, 144, .inl l_ownersBySteps)) :: (l_cells_a, .inl (cI, 144, .inl l_cells)) :: (l_ends_a, .inl (cI, 144, .inl l_ends)) :: (l_rightward_a, .inl (cI, 144, .inl l_rightward)) :: (l_downward_a, .inl (cI, 144, .inl l_downward)) :: (c_h, .inr (1, [.int c_arcs, .int c_ties, .ref c_passes_a, .ref c_arcsBySteps_a, .ref c_overs_a, .ref c_unders_a, .ref c_tied_a, .ref c_groups_a])) :: (c_passes_a, .inl (cI, 144, .inl c_passes)) :: (c_arcsBySteps_a, .inl (cI, 144, .inl c_arcsBySteps)) :: (c_overs_a, .inl (cI, 60, .inl c_overs)) :: (c_unders_a, .inl (cI, 60, .inl c_unders)) :: (c_tied_a, .inl (cI, 36, .inl c_tied)) :: (c_groups_a, .inl (cI, 36, .inl c_groups)) :: E) ++ va_pl L (fun q => .inl (cI, 96, .inl (u.2.2.2 q)))) t.heap ∧ va_D A (((t_h, .inr (0, [.int u.1, .int u.2.1, .ref t_rules_a])) :: (t_rules_a, .inl (cJ, 60, .inr (.inr (.inr (.inr u.2.2.1))))) :: (l_h, .inr (2, [.int l_count, .int l_steps, .ref l_owners_a, .ref l_firsts_a, .ref l_ownersBySteps_a, .ref l_cells_a, .ref l_ends_a, .ref l_rightward_a, .ref l_downward_a])) :: (l_owners_a, .inl (cI, 144, .inl l_owners)) :: (l_firsts_a, .inl (cI, 37, .inl l_firsts)) :: (l_ownersBySteps_a, .inl (cI, 144, .inl l_ownersBySteps)) :: (l_cells_a, .inl (cI, 144, .inl l_cells)) :: (l_ends_a, .inl (cI, 144, .inl l_ends)) :: (l_rightward_a, .inl (cI, 144, .inl l_rightward)) :: (l_downward_a, .inl (cI, 144, .inl l_downward)) :: (c_h, .inr (1, [.int c_arcs, .int c_ties, .ref c_passes_a, .ref c_arcsBySteps_a, .ref c_overs_a, .ref c_unders_a, .ref c_tied_a, .ref c_groups_a])) :: (c_passes_a, .inl (cI, 144, .inl c_passes)) :: (c_arcsBySteps_a, .inl (cI, 144, .inl c_arcsBySteps)) :: (c_overs_a, .inl (cI, 60, .inl c_overs)) :: (c_unders_a, .inl (cI, 60, .inl c_unders)) :: (c_tied_a, .inl (cI, 36, .inl c_tied)) :: (c_groups_a, .inl (cI, 36, .inl c_groups)) :: E) ++ va_pl L (fun q => .inl (cI, 96, .inl (u.2.2.2 q))))) A) args s 0 0 A) (F0 m 20 ls []) := by rw [hR20]; exact ih
        intro x20_4 x20_5 t_rules__20 t_rows__20 H locs ls h hP hD hS hl
        have h : bX0_countFree_20 L p3 t_width__11 t_height__11 K20 R20 x20_4 x20_5 t_rules__20 t_rows__20 := by rw [hR20]; exact h
        clear hR20
        unfold bX0_countFree_20 at h
        refine lv_iload hx hb dX0_countFree_20 (lv_at hl 3 rfl) ?_
        refine lv_aload_n hx hb dX0_countFree_22 rfl (lv_at hl 0 rfl) ?_
        refine va_get (D := G) (ci := 0) (v := .int t_width__11) (C := RX0) (T := TX0) (N := 3) hx hb hts inC0 hown hK.1 hP 0 rfl rfl 0 (by decide) (hts _ (List.mem_cons_of_mem _ u6)) (fun _ h9 => h9) rfl dX0_countFree_23 ?_
        refine lv_icmp_ge (tgt := 80) hx hb dX0_countFree_26 (by decide) (fun q5 => ?_) (fun q5 => ?_)
        · have h := (if_pos q5).mp h
          exact X1 x20_4 t_rules__20 t_rows__20 _ _ _ h hP hD hS (lv_sub hl [0, 2] rfl)
        · have h := (if_neg q5).mp h
          refine lv_iload hx hb dX0_countFree_29 (lv_at hl 2 rfl) ?_
          refine lv_aload_n hx hb dX0_countFree_31 rfl (lv_at hl 0 rfl) ?_
          refine va_get (D := G) (ci := 0) (v := .int t_height__11) (C := RX0) (T := TX0) (N := 3) hx hb hts inC0 hown hK.1 hP 0 rfl rfl 1 (by decide) (hts _ (List.mem_cons_of_mem _ u5)) (fun _ h9 => h9) rfl dX0_countFree_32 ?_
          refine lv_icmp_ge (tgt := 80) hx hb dX0_countFree_35 (by decide) (fun q4 => ?_) (fun q4 => ?_)
          · have h := (if_pos q4).mp h
            exact X1 x20_4 t_rules__20 t_rows__20 _ _ _ h hP hD hS (lv_sub hl [0, 2] rfl)
          · have h := (if_neg q4).mp h
            refine lv_aload_n hx hb dX0_countFree_38 rfl (lv_at hl 0 rfl) ?_
            refine lv_iload hx hb dX0_countFree_39 (lv_at hl 2 rfl) ?_
            refine lv_iload hx hb dX0_countFree_41 (lv_at hl 3 rfl) ?_
            refine lv_iload_n hx hb dX0_countFree_43 rfl (lv_at hl 1 rfl) ?_
            have hPc := hP
            have hDc := hD
            have hFc := zw_free hD hS hA
            refine va_calli (va_runV (As := [.int x20_4, .int x20_5, .int p3]) (rest := []) ⟨hx, hb, hml, hown, hts⟩ (kX0_findRule L ((l_h, .inr (2, [.int l_count, .int l_steps, .ref l_owners_a, .ref l_firsts_a, .ref l_ownersBySteps_a, .ref l_cells_a, .ref l_ends_a, .ref l_rightward_a, .ref l_downward_a])) :: (l_owners_a, .inl (cI, 144, .inl l_owners)) :: (l_firsts_a, .inl (cI, 37, .inl l_firsts)) :: (l_ownersBySteps_a, .inl (cI, 144, .inl l_ownersBySteps)) :: (l_cells_a, .inl (cI, 144, .inl l_cells)) :: (l_ends_a, .inl (cI, 144, .inl l_ends)) :: (l_rightward_a, .inl (cI, 144, .inl l_rightward)) :: (l_downward_a, .inl (cI, 144, .inl l_downward)) :: (c_h, .inr (1, [.int c_arcs, .int c_ties, .ref c_passes_a, .ref c_arcsBySteps_a, .ref c_overs_a, .ref c_unders_a, .ref c_tied_a, .ref c_groups_a])) :: (c_passes_a, .inl (cI, 144, .inl c_passes)) :: (c_arcsBySteps_a, .inl (cI, 144, .inl c_arcsBySteps)) :: (c_overs_a, .inl (cI, 60, .inl c_overs)) :: (c_unders_a, .inl (cI, 60, .inl c_unders)) :: (c_tied_a, .inl (cI, 36, .inl c_tied)) :: (c_groups_a, .inl (cI, 36, .inl c_groups)) :: E) t_h t_rules_a t_width__11 t_height__11 t_rules__20 t_rows__20 x20_4 x20_5 p3 h _) (cwV 3 hts (gIn (aV u62 u63 u64 u35 u65)) rfl rfl rfl (by decide +kernel) ⟨Nat.le_of_ble_eq_true rfl, Nat.le_of_ble_eq_true rfl⟩) (pV hK hPc hDc (ci := 0) (q0 := 0) rfl rfl) rfl rfl hl.1 rfl (lv_room (Nat.le_of_ble_eq_true rfl)) dX0_countFree_44 ⟨Nat.zero_le _, Nat.zero_le _⟩) hS (fun q _ h => hFc q h) hFc (fun r44 u t H1 locs ht hvm hw hB hz1 hk1 hS => ?_)
            obtain ⟨hP1, hD1⟩ := hB
            rw [ht] at hP1
            have hP : va_P G vwCl (((t_h, .inr (0, [.int t_width__11, .int t_height__11, .ref t_rules_a])) :: (t_rules_a, .inl (cJ, 60, .inr (.inr (.inr (.inr t_rules__20))))) :: (l_h, .inr (2, [.int l_count, .int l_steps, .ref l_owners_a, .ref l_firsts_a, .ref l_ownersBySteps_a, .ref l_cells_a, .ref l_ends_a, .ref l_rightward_a, .ref l_downward_a])) :: (l_owners_a, .inl (cI, 144, .inl l_owners)) :: (l_firsts_a, .inl (cI, 37, .inl l_firsts)) :: (l_ownersBySteps_a, .inl (cI, 144, .inl l_ownersBySteps)) :: (l_cells_a, .inl (cI, 144, .inl l_cells)) :: (l_ends_a, .inl (cI, 144, .inl l_ends)) :: (l_rightward_a, .inl (cI, 144, .inl l_rightward)) :: (l_downward_a, .inl (cI, 144, .inl l_downward)) :: (c_h, .inr (1, [.int c_arcs, .int c_ties, .ref c_passes_a, .ref c_arcsBySteps_a, .ref c_overs_a, .ref c_unders_a, .ref c_tied_a, .ref c_groups_a])) :: (c_passes_a, .inl (cI, 144, .inl c_passes)) :: (c_arcsBySteps_a, .inl (cI, 144, .inl c_arcsBySteps)) :: (c_overs_a, .inl (cI, 60, .inl c_overs)) :: (c_unders_a, .inl (cI, 60, .inl c_unders)) :: (c_tied_a, .inl (cI, 36, .inl c_tied)) :: (c_groups_a, .inl (cI, 36, .inl c_groups)) :: E) ++ va_pl L (fun q => .inl (cI, 96, .inl (t_rows__20 q)))) H1 := hP1
            have hD : va_D A (((t_h, .inr (0, [.int t_width__11, .int t_height__11, .ref t_rules_a])) :: (t_rules_a, .inl (cJ, 60, .inr (.inr (.inr (.inr t_rules__20))))) :: (l_h, .inr (2, [.int l_count, .int l_steps, .ref l_owners_a, .ref l_firsts_a, .ref l_ownersBySteps_a, .ref l_cells_a, .ref l_ends_a, .ref l_rightward_a, .ref l_downward_a])) :: (l_owners_a, .inl (cI, 144, .inl l_owners)) :: (l_firsts_a, .inl (cI, 37, .inl l_firsts)) :: (l_ownersBySteps_a, .inl (cI, 144, .inl l_ownersBySteps)) :: (l_cells_a, .inl (cI, 144, .inl l_cells)) :: (l_ends_a, .inl (cI, 144, .inl l_ends)) :: (l_rightward_a, .inl (cI, 144, .inl l_rightward)) :: (l_downward_a, .inl (cI, 144, .inl l_downward)) :: (c_h, .inr (1, [.int c_arcs, .int c_ties, .ref c_passes_a, .ref c_arcsBySteps_a, .ref c_overs_a, .ref c_unders_a, .ref c_tied_a, .ref c_groups_a])) :: (c_passes_a, .inl (cI, 144, .inl c_passes)) :: (c_arcsBySteps_a, .inl (cI, 144, .inl c_arcsBySteps)) :: (c_overs_a, .inl (cI, 60, .inl c_overs)) :: (c_unders_a, .inl (cI, 60, .inl c_unders)) :: (c_tied_a, .inl (cI, 36, .inl c_tied)) :: (c_groups_a, .inl (cI, 36, .inl c_groups)) :: E) ++ va_pl L (fun q => .inl (cI, 96, .inl (t_rows__20 q)))) := hD1.weaken (fun k q _ h => hFc q.1 h)
            generalize H1 = H at hP hS ⊢
            have h := hw
            clear hw
            refine lv_istore (lv' := [(6, .int r44), (0, .ref t_h), (3, .int p3), (4, .int x20_4), (5, .int x20_5)]) hx hb dX0_countFree_47 hl (by decide) rfl (fun ls hl => ?_)
            refine lv_iload hx hb dX0_countFree_49 (lv_at hl 0 rfl) ?_
            refine lv_if_lt (tgt := 74) hx hb dX0_countFree_51 (by decide) (fun q3 => ?_) (fun q3 => ?_)
            · have h := (if_pos q3).mp h
              refine lv_iinc (v := (x20_5 + (1 : Int32))) (lv' := [(5, .int (x20_5 + (1 : Int32))), (6, .int r44), (0, .ref t_h), (3, .int p3), (4, .int x20_4)]) hx hb dX0_countFree_74 hl (k := 4) rfl rfl (by decide) rfl (fun ls hl => ?_)
              refine lv_goto (tgt := 20) hx hb dX0_countFree_77 (by decide) ?_
              exact ih x20_4 (x20_5 + (1 : Int32)) t_rules__20 t_rows__20 _ _ _ h hP hD hS (lv_sub hl [2, 3, 4, 0] rfl)
            · have h := (if_neg q3).mp h
              refine lv_aload_n hx hb dX0_countFree_54 rfl (lv_at hl 1 rfl) ?_
              refine lv_iload hx hb dX0_countFree_55 (lv_at hl 3 rfl) ?_
              refine lv_iload hx hb dX0_countFree_57 (lv_at hl 0 rfl) ?_
              have hPc := hP
              have hDc := hD
              have hFc := zw_free hD hS hA
              refine va_callv (va_runV (As := [.int x20_4, .int r44]) (rest := []) ⟨hx, hb, hml, hown, hts⟩ (kX0_swap L ((l_h, .inr (2, [.int l_count, .int l_steps, .ref l_owners_a, .ref l_firsts_a, .ref l_ownersBySteps_a, .ref l_cells_a, .ref l_ends_a, .ref l_rightward_a, .ref l_downward_a])) :: (l_owners_a, .inl (cI, 144, .inl l_owners)) :: (l_firsts_a, .inl (cI, 37, .inl l_firsts)) :: (l_ownersBySteps_a, .inl (cI, 144, .inl l_ownersBySteps)) :: (l_cells_a, .inl (cI, 144, .inl l_cells)) :: (l_ends_a, .inl (cI, 144, .inl l_ends)) :: (l_rightward_a, .inl (cI, 144, .inl l_rightward)) :: (l_downward_a, .inl (cI, 144, .inl l_downward)) :: (c_h, .inr (1, [.int c_arcs, .int c_ties, .ref c_passes_a, .ref c_arcsBySteps_a, .ref c_overs_a, .ref c_unders_a, .ref c_tied_a, .ref c_groups_a])) :: (c_passes_a, .inl (cI, 144, .inl c_passes)) :: (c_arcsBySteps_a, .inl (cI, 144, .inl c_arcsBySteps)) :: (c_overs_a, .inl (cI, 60, .inl c_overs)) :: (c_unders_a, .inl (cI, 60, .inl c_unders)) :: (c_tied_a, .inl (cI, 36, .inl c_tied)) :: (c_groups_a, .inl (cI, 36, .inl c_groups)) :: E) t_h t_rules_a t_width__11 t_height__11 t_rules__20 t_rows__20 x20_4 r44 h _) (cwV 2 hts (gIn (aV u58 u59 u60 u35 u61)) rfl rfl rfl (by decide +kernel) ⟨Nat.le_of_ble_eq_true rfl, Nat.le_of_ble_eq_true rfl⟩) (pV hK hPc hDc (ci := 0) (q0 := 0) rfl rfl) rfl rfl hl.1 rfl (lv_room (Nat.le_of_ble_eq_true rfl)) dX0_countFree_59 ⟨Nat.zero_le _, Nat.zero_le _⟩) hS (fun q _ h => hFc q h) hFc (fun u t H1 locs ht hvm hw hB hz1 hk1 hS => ?_)
              obtain ⟨t_rules__59, rfl⟩ : ∃ z, z = u := ⟨_, rfl⟩
              obtain ⟨hP1, hD1⟩ := hB
              rw [ht] at hP1
              have hP : va_P G vwCl (((t_h, .inr (0, [.int t_width__11, .int t_height__11, .ref t_rules_a])) :: (t_rules_a, .inl (cJ, 60, .inr (.inr (.inr (.inr t_rules__59))))) :: (l_h, .inr (2, [.int l_count, .int l_steps, .ref l_owners_a, .ref l_firsts_a, .ref l_ownersBySteps_a, .ref l_cells_a, .ref l_ends_a, .ref l_rightward_a, .ref l_downward_a])) :: (l_owners_a, .inl (cI, 144, .inl l_owners)) :: (l_firsts_a, .inl (cI, 37, .inl l_firsts)) :: (l_ownersBySteps_a, .inl (cI, 144, .inl l_ownersBySteps)) :: (l_cells_a, .inl (cI, 144, .inl l_cells)) :: (l_ends_a, .inl (cI, 144, .inl l_ends)) :: (l_rightward_a, .inl (cI, 144, .inl l_rightward)) :: (l_downward_a, .inl (cI, 144, .inl l_downward)) :: (c_h, .inr (1, [.int c_arcs, .int c_ties, .ref c_passes_a, .ref c_arcsBySteps_a, .ref c_overs_a, .ref c_unders_a, .ref c_tied_a, .ref c_groups_a])) :: (c_passes_a, .inl (cI, 144, .inl c_passes)) :: (c_arcsBySteps_a, .inl (cI, 144, .inl c_arcsBySteps)) :: (c_overs_a, .inl (cI, 60, .inl c_overs)) :: (c_unders_a, .inl (cI, 60, .inl c_unders)) :: (c_tied_a, .inl (cI, 36, .inl c_tied)) :: (c_groups_a, .inl (cI, 36, .inl c_groups)) :: E) ++ va_pl L (fun q => .inl (cI, 96, .inl (t_rows__20 q)))) H1 := hP1
              have hD : va_D A (((t_h, .inr (0, [.int t_width__11, .int t_height__11, .ref t_rules_a])) :: (t_rules_a, .inl (cJ, 60, .inr (.inr (.inr (.inr t_rules__59))))) :: (l_h, .inr (2, [.int l_count, .int l_steps, .ref l_owners_a, .ref l_firsts_a, .ref l_ownersBySteps_a, .ref l_cells_a, .ref l_ends_a, .ref l_rightward_a, .ref l_downward_a])) :: (l_owners_a, .inl (cI, 144, .inl l_owners)) :: (l_firsts_a, .inl (cI, 37, .inl l_firsts)) :: (l_ownersBySteps_a, .inl (cI, 144, .inl l_ownersBySteps)) :: (l_cells_a, .inl (cI, 144, .inl l_cells)) :: (l_ends_a, .inl (cI, 144, .inl l_ends)) :: (l_rightward_a, .inl (cI, 144, .inl l_rightward)) :: (l_downward_a, .inl (cI, 144, .inl l_downward)) :: (c_h, .inr (1, [.int c_arcs, .int c_ties, .ref c_passes_a, .ref c_arcsBySteps_a, .ref c_overs_a, .ref c_unders_a, .ref c_tied_a, .ref c_groups_a])) :: (c_passes_a, .inl (cI, 144, .inl c_passes)) :: (c_arcsBySteps_a, .inl (cI, 144, .inl c_arcsBySteps)) :: (c_overs_a, .inl (cI, 60, .inl c_overs)) :: (c_unders_a, .inl (cI, 60, .inl c_unders)) :: (c_tied_a, .inl (cI, 36, .inl c_tied)) :: (c_groups_a, .inl (cI, 36, .inl c_groups)) :: E) ++ va_pl L (fun q => .inl (cI, 96, .inl (t_rows__20 q)))) := hD1.weaken (fun k q _ h => hFc q.1 h)
              generalize H1 = H at hP hS ⊢
              have h := hw
              clear hw
              refine lv_aload_n hx hb dX0_countFree_62 rfl (lv_at hl 1 rfl) ?_
              refine lv_iload hx hb dX0_countFree_63 (lv_at hl 3 rfl) ?_
              refine lv_iload hx hb dX0_countFree_65 (lv_at hl 4 rfl) ?_
              refine lv_iload_n hx hb dX0_countFree_67 rfl (lv_at hl 2 rfl) ?_
              have hPc := hP
              have hDc := hD
              have hFc := zw_free hD hS hA
              refine va_callv (va_runV (As := [.int x20_4, .int x20_5, .int p3]) (rest := []) ⟨hx, hb, hml, hown, hts⟩ (kX0_clearBelow L ((l_h, .inr (2, [.int l_count, .int l_steps, .ref l_owners_a, .ref l_firsts_a, .ref l_ownersBySteps_a, .ref l_cells_a, .ref l_ends_a, .ref l_rightward_a, .ref l_downward_a])) :: (l_owners_a, .inl (cI, 144, .inl l_owners)) :: (l_firsts_a, .inl (cI, 37, .inl l_firsts)) :: (l_ownersBySteps_a, .inl (cI, 144, .inl l_ownersBySteps)) :: (l_cells_a, .inl (cI, 144, .inl l_cells)) :: (l_ends_a, .inl (cI, 144, .inl l_ends)) :: (l_rightward_a, .inl (cI, 144, .inl l_rightward)) :: (l_downward_a, .inl (cI, 144, .inl l_downward)) :: (c_h, .inr (1, [.int c_arcs, .int c_ties, .ref c_passes_a, .ref c_arcsBySteps_a, .ref c_overs_a, .ref c_unders_a, .ref c_tied_a, .ref c_groups_a])) :: (c_passes_a, .inl (cI, 144, .inl c_passes)) :: (c_arcsBySteps_a, .inl (cI, 144, .inl c_arcsBySteps)) :: (c_overs_a, .inl (cI, 60, .inl c_overs)) :: (c_unders_a, .inl (cI, 60, .inl c_unders)) :: (c_tied_a, .inl (cI, 36, .inl c_tied)) :: (c_groups_a, .inl (cI, 36, .inl c_groups)) :: E) t_h t_rules_a t_width__11 t_height__11 t_rules__59 t_rows__20 x20_4 x20_5 p3 h _) (cwV 3 hts (gIn (aV u54 u55 u56 u35 u57)) rfl rfl rfl (by decide +kernel) ⟨Nat.le_of_ble_eq_true rfl, Nat.le_of_ble_eq_true rfl⟩) (pV hK hPc hDc (ci := 0) (q0 := 0) rfl rfl) rfl rfl hl.1 rfl (lv_room (Nat.le_of_ble_eq_true rfl)) dX0_countFree_68 ⟨Nat.zero_le _, Nat.zero_le _⟩) hS (fun q _ h => hFc q h) hFc (fun u t H1 locs ht hvm hw hB hz1 hk1 hS => ?_)
              obtain ⟨t_rows__68, rfl⟩ : ∃ z, z = u := ⟨_, rfl⟩
              obtain ⟨hP1, hD1⟩ := hB
              rw [ht] at hP1
              have hP : va_P G vwCl (((t_h, .inr (0, [.int t_width__11, .int t_height__11, .ref t_rules_a])) :: (t_rules_a, .inl (cJ, 60, .inr (.inr (.inr (.inr t_rules__59))))) :: (l_h, .inr (2, [.int l_count, .int l_steps, .ref l_owners_a, .ref l_firsts_a, .ref l_ownersBySteps_a, .ref l_cells_a, .ref l_ends_a, .ref l_rightward_a, .ref l_downward_a])) :: (l_owners_a, .inl (cI, 144, .inl l_owners)) :: (l_firsts_a, .inl (cI, 37, .inl l_firsts)) :: (l_ownersBySteps_a, .inl (cI, 144, .inl l_ownersBySteps)) :: (l_cells_a, .inl (cI, 144, .inl l_cells)) :: (l_ends_a, .inl (cI, 144, .inl l_ends)) :: (l_rightward_a, .inl (cI, 144, .inl l_rightward)) :: (l_downward_a, .inl (cI, 144, .inl l_downward)) :: (c_h, .inr (1, [.int c_arcs, .int c_ties, .ref c_passes_a, .ref c_arcsBySteps_a, .ref c_overs_a, .ref c_unders_a, .ref c_tied_a, .ref c_groups_a])) :: (c_passes_a, .inl (cI, 144, .inl c_passes)) :: (c_arcsBySteps_a, .inl (cI, 144, .inl c_arcsBySteps)) :: (c_overs_a, .inl (cI, 60, .inl c_overs)) :: (c_unders_a, .inl (cI, 60, .inl c_unders)) :: (c_tied_a, .inl (cI, 36, .inl c_tied)) :: (c_groups_a, .inl (cI, 36, .inl c_groups)) :: E) ++ va_pl L (fun q => .inl (cI, 96, .inl (t_rows__68 q)))) H1 := hP1
              have hD : va_D A (((t_h, .inr (0, [.int t_width__11, .int t_height__11, .ref t_rules_a])) :: (t_rules_a, .inl (cJ, 60, .inr (.inr (.inr (.inr t_rules__59))))) :: (l_h, .inr (2, [.int l_count, .int l_steps, .ref l_owners_a, .ref l_firsts_a, .ref l_ownersBySteps_a, .ref l_cells_a, .ref l_ends_a, .ref l_rightward_a, .ref l_downward_a])) :: (l_owners_a, .inl (cI, 144, .inl l_owners)) :: (l_firsts_a, .inl (cI, 37, .inl l_firsts)) :: (l_ownersBySteps_a, .inl (cI, 144, .inl l_ownersBySteps)) :: (l_cells_a, .inl (cI, 144, .inl l_cells)) :: (l_ends_a, .inl (cI, 144, .inl l_ends)) :: (l_rightward_a, .inl (cI, 144, .inl l_rightward)) :: (l_downward_a, .inl (cI, 144, .inl l_downward)) :: (c_h, .inr (1, [.int c_arcs, .int c_ties, .ref c_passes_a, .ref c_arcsBySteps_a, .ref c_overs_a, .ref c_unders_a, .ref c_tied_a, .ref c_groups_a])) :: (c_passes_a, .inl (cI, 144, .inl c_passes)) :: (c_arcsBySteps_a, .inl (cI, 144, .inl c_arcsBySteps)) :: (c_overs_a, .inl (cI, 60, .inl c_overs)) :: (c_unders_a, .inl (cI, 60, .inl c_unders)) :: (c_tied_a, .inl (cI, 36, .inl c_tied)) :: (c_groups_a, .inl (cI, 36, .inl c_groups)) :: E) ++ va_pl L (fun q => .inl (cI, 96, .inl (t_rows__68 q)))) := hD1.weaken (fun k q _ h => hFc q.1 h)
              generalize H1 = H at hP hS ⊢
              have h := hw
              clear hw
              refine lv_iinc (v := (x20_4 + (1 : Int32))) (lv' := [(4, .int (x20_4 + (1 : Int32))), (6, .int r44), (0, .ref t_h), (3, .int p3), (5, .int x20_5)]) hx hb dX0_countFree_71 hl (k := 3) rfl rfl (by decide) rfl (fun ls hl => ?_)
              refine lv_iinc (v := (x20_5 + (1 : Int32))) (lv' := [(5, .int (x20_5 + (1 : Int32))), (4, .int (x20_4 + (1 : Int32))), (6, .int r44), (0, .ref t_h), (3, .int p3)]) hx hb dX0_countFree_74 hl (k := 4) rfl rfl (by decide) rfl (fun ls hl => ?_)
              refine lv_goto (tgt := 20) hx hb dX0_countFree_77 (by decide) ?_
              exact ih (x20_4 + (1 : Int32)) (x20_5 + (1 : Int32)) t_rules__59 t_rows__68 _ _ _ h hP hD hS (lv_sub hl [3, 4, 1, 0] rfl)
    exact R2 FU (0 : Int32) (0 : Int32) t_rules t_rows__11 _ _ _ (by rw [hK20]; exact h) hP hD hS (lv_sub hl [2, 5, 1, 0] rfl)
  · have h := (if_neg q6).mp h
    refine lv_bipush (v := (-9 : Int32)) hx hb dX0_countFree_5 (by decide) ?_
    exact W.iret (v := (-9 : Int32)) hx hb hr (fun t ht hW => ⟨⟨(-9 : Int32), (t_width, t_height, t_rules, t_rows), rfl, h, ⟨by rw [ht]; exact hP, hD⟩⟩, hS.F ht⟩) hS.2.2 dX0_countFree_7
abbrev rmX1_countPasses : Room := ({ frames := 2, cells := 0, slots := 0, locals := 42 } : Room)
set_option maxHeartbeats 4000000 in
set_option maxRecDepth 100000 in
theorem kX1_countPasses {l : Launch} {G : va_G} {cI cZ cP cJ : ClassId} {ws : va_W} (k_t : Nat) (k_t_passes : Nat) (k_l : Nat) (k_l_firsts : Nat) (t_h : Nat) (t_passes_a : Nat) (t_arcsBySteps_a : Nat) (t_overs_a : Nat) (t_unders_a : Nat) (t_tied_a : Nat) (t_groups_a : Nat) (l_h : Nat) (l_owners_a : Nat) (l_firsts_a : Nat) (l_ownersBySteps_a : Nat) (l_cells_a : Nat) (l_ends_a : Nat) (l_rightward_a : Nat) (l_downward_a : Nat) (t_arcs : Int32) (t_ties : Int32) (t_passes : Nat → Int32) (l_count : Int32) (l_steps : Int32) (l_firsts : Nat → Int32) (e_t : ws[k_t]? = some (t_h, .inr (1, [.int t_arcs, .int t_ties, .ref t_passes_a, .ref t_arcsBySteps_a, .ref t_overs_a, .ref t_unders_a, .ref t_tied_a, .ref t_groups_a]))) (e_t_passes : ws[k_t_passes]? = some (t_passes_a, .inl (cI, 144, .inl t_passes))) (e_l : ws[k_l]? = some (l_h, .inr (2, [.int l_count, .int l_steps, .ref l_owners_a, .ref l_firsts_a, .ref l_ownersBySteps_a, .ref l_cells_a, .ref l_ends_a, .ref l_rightward_a, .ref l_downward_a]))) (e_l_firsts : ws[k_l_firsts]? = some (l_firsts_a, .inl (cI, 37, .inl l_firsts))) (p2 : Int32) (p3 : Int32) {Q : Int32 → Prop} (h : wX1_countPasses t_passes l_steps l_firsts p2 p3 Q) (sz : Nat) : Met l yX1_countPasses wsX1_countPasses rmX1_countPasses (va_Pc [.ref t_h, .ref l_h, .int p2, .int p3] (pB G [(cI, .int), (cZ, .boolean), (cP, .object RX3), (cJ, .array .int)] ws sz)) (va_Qi (fun (r : Int32) (u : Unit) => Q r) (fun (_ : Unit) t => va_P G vwCl ws t.heap) (va_A ws sz)) 0 0 (va_A ws sz) := by
  refine Met.ofW (cc := cX1_countPasses) (maxL := 7) (ret := (some .int)) (by decide) rfl ?_
  intro p e s m args below meth c s₁ B hml hv
  obtain ⟨hargs, hsz, hP, hK, hD0⟩ := hv
  have hx := B.exec
  have hb := B.bytes
  have hr := B.returns
  have hts := atoms_spec (ws := wsX1_countPasses) B.pre
  have hown : s.vm.findClass RX1 = some m.cls := findClass_of_methodNamed B.named
  have hlocks := B.notSynchronized
  subst hsz
  have hD := hD0.self (sz := s.heap.size)
  generalize hAe : va_A ws s.heap.size = A at hD ⊢
  have hA : ∀ q : Nat, s.heap.size ≤ q → A q := fun q h => by rw [← hAe]; exact Or.inr h
  have hS : va_S A s.heap s.heap [] := va_S.rf
  have hl := lv_entry ([.ref t_h, .ref l_h, .int p2, .int p3]) (n := 7) (Nat.le_of_ble_eq_true rfl)
  rw [show entryFrame m args 7 = entryFrame m ([.ref t_h, .ref l_h, .int p2, .int p3] : List Value).toArray 7 by rw [hargs], lg_entry_eq]
  generalize (lg_sl ([.ref t_h, .ref l_h, .int p2, .int p3]) ++ List.replicate (7 - (lg_sl ([.ref t_h, .ref l_h, .int p2, .int p3])).length) Slot.unset).toArray = ls at hl ⊢
  have hl : lv_has ls 7 [(0, .ref t_h), (1, .ref l_h), (2, .int p2), (3, .int p3)] := hl
  unfold wX1_countPasses at h
  suffices hM : ∀ (H : Heap) (locs : List Loc), va_P G vwCl ws H → va_S A s.heap H locs → W p l e (headSpec wsX1_countPasses rmX1_countPasses).room s m args below meth c H locs 0 0 (MQ below (va_Qi (fun (r : Int32) (u : Unit) => Q r) (fun (_ : Unit) t => va_P G vwCl ws t.heap) A) args s 0 0 A) (F0 m 0 ls []) from hM _ _ hP hS
  clear hP hS
  intro H locs hP hS
  refine lv_iconst (v := (0 : Int32)) hx hb dX1_countPasses_0 (by decide) ?_
  refine lv_istore (lv' := [(4, .int (0 : Int32)), (0, .ref t_h), (1, .ref l_h), (2, .int p2), (3, .int p3)]) hx hb dX1_countPasses_1 hl (by decide) rfl (fun ls hl => ?_)
  refine lv_aload_n hx hb dX1_countPasses_3 rfl (lv_at hl 2 rfl) ?_
  refine lv_iload_n hx hb dX1_countPasses_4 rfl (lv_at hl 3 rfl) ?_
  refine lv_iconst (v := (1 : Int32)) hx hb dX1_countPasses_5 (by decide) ?_
  refine lv_iadd hx hb dX1_countPasses_6 ?_
  refine rdi (va_runVN (As := [.int (p2 + (1 : Int32))]) (rest := []) ⟨hx, hb, hml, hown, hts⟩ (kX2_firstStep (ws := ws) k_l k_l_firsts l_h l_owners_a l_firsts_a l_ownersBySteps_a l_cells_a l_ends_a l_rightward_a l_downward_a l_count l_steps l_firsts e_l e_l_firsts (p2 + (1 : Int32)) h _) ⟨va_cnB 1 hts (gIn (aN u28)) rfl rfl rfl (hK.2.2.1 _ (List.mem_of_getElem? (i := 19) rfl)) (hts _ (List.mem_cons_of_mem _ u27)) (by decide +kernel) ⟨Nat.le_of_ble_eq_true rfl, Nat.le_of_ble_eq_true rfl⟩, (hts _ (List.mem_cons_of_mem _ u25)), (hts _ (List.mem_cons_of_mem _ u26))⟩ (pV hK hP hD (ci := 2) (q0 := k_l) rfl e_l) rfl rfl hl.1 rfl (lv_room (Nat.le_of_ble_eq_true rfl)) dX1_countPasses_7 ⟨Nat.zero_le _, Nat.zero_le _⟩) hP hS hA hD (fun r7 H locs h hP hS => ?_)
  refine lv_istore (lv' := [(5, .int r7), (4, .int (0 : Int32)), (0, .ref t_h), (1, .ref l_h), (2, .int p2), (3, .int p3)]) hx hb dX1_countPasses_10 hl (by decide) rfl (fun ls hl => ?_)
  refine lv_aload_n hx hb dX1_countPasses_12 rfl (lv_at hl 3 rfl) ?_
  refine lv_iload_n hx hb dX1_countPasses_13 rfl (lv_at hl 4 rfl) ?_
  refine rdi (va_runVN (As := [.int p2]) (rest := []) ⟨hx, hb, hml, hown, hts⟩ (kX2_firstStep (ws := ws) k_l k_l_firsts l_h l_owners_a l_firsts_a l_ownersBySteps_a l_cells_a l_ends_a l_rightward_a l_downward_a l_count l_steps l_firsts e_l e_l_firsts p2 h _) ⟨va_cnB 1 hts (gIn (aN u28)) rfl rfl rfl (hK.2.2.1 _ (List.mem_of_getElem? (i := 19) rfl)) (hts _ (List.mem_cons_of_mem _ u27)) (by decide +kernel) ⟨Nat.le_of_ble_eq_true rfl, Nat.le_of_ble_eq_true rfl⟩, (hts _ (List.mem_cons_of_mem _ u25)), (hts _ (List.mem_cons_of_mem _ u26))⟩ (pV hK hP hD (ci := 2) (q0 := k_l) rfl e_l) rfl rfl hl.1 rfl (lv_room (Nat.le_of_ble_eq_true rfl)) dX1_countPasses_14 ⟨Nat.zero_le _, Nat.zero_le _⟩) hP hS hA hD (fun r14 H locs h hP hS => ?_)
  refine lv_istore (lv' := [(6, .int r14), (5, .int r7), (4, .int (0 : Int32)), (0, .ref t_h), (1, .ref l_h), (2, .int p2), (3, .int p3)]) hx hb dX1_countPasses_17 hl (by decide) rfl (fun ls hl => ?_)
  have X1 : ∀ (y58_4 : Int32) (H : Heap) (locs : List Loc) (ls : Array Slot), wX1_countPasses_X58 Q y58_4 → va_P G vwCl ws H → va_S A s.heap H locs → lv_has ls 7 [(4, .int y58_4)] → W p l e (headSpec wsX1_countPasses rmX1_countPasses).room s m args below meth c H locs 0 0 (MQ below (va_Qi (fun (r : Int32) (u : Unit) => Q r) (fun (_ : Unit) t => va_P G vwCl ws t.heap) A) args s 0 0 A) (F0 m 58 ls []) := by
    intro y58_4 H locs ls h hP hS hl
    unfold wX1_countPasses_X58 at h
    refine lv_iload hx hb dX1_countPasses_58 (lv_at hl 0 rfl) ?_
    exact W.iret (v := y58_4) hx hb hr (fun t ht hW => ⟨⟨y58_4, (), rfl, h, by show va_P G vwCl ws t.heap; rw [ht]; exact hP⟩, hS.F ht⟩) hS.2.2 dX1_countPasses_60
  obtain ⟨K19, hK19⟩ : ∃ f : Int32 → Prop, f = (wX1_countPasses_X58 Q) := ⟨_, rfl⟩
  replace X1 : ∀ (y58_4 : Int32) (H : Heap) (locs : List Loc) (ls : Array Slot), K19 y58_4 → va_P G vwCl ws H → va_S A s.heap H locs → lv_has ls 7 [(4, .int y58_4)] → W p l e (headSpec wsX1_countPasses rmX1_countPasses).room s m args below meth c H locs 0 0 (MQ below (va_Qi (fun (r : Int32) (u : Unit) => Q r) (fun (_ : Unit) t => va_P G vwCl ws t.heap) A) args s 0 0 A) (F0 m 58 ls []) := by rw [hK19]; exact X1
  have R2 : ∀ (n : Nat) (x19_4 : Int32) (x19_6 : Int32) (H : Heap) (locs : List Loc) (ls : Array Slot), lX1_countPasses_19 t_passes p3 r7 K19 n x19_4 x19_6 → va_P G vwCl ws H → va_S A s.heap H locs → lv_has ls 7 [(0, .ref t_h), (3, .int p3), (4, .int x19_4), (5, .int r7), (6, .int x19_6)] → W p l e (headSpec wsX1_countPasses rmX1_countPasses).room s m args below meth c H locs 0 0 (MQ below (va_Qi (fun (r : Int32) (u : Unit) => Q r) (fun (_ : Unit) t => va_P G vwCl ws t.heap) A) args s 0 0 A) (F0 m 19 ls []) := by
    intro n
    induction n with
    | zero => intro x19_4 x19_6 H locs ls h; exact False.elim h
    | succ n ih =>
      obtain ⟨R19, hR19⟩ : ∃ f : Int32 → Int32 → Prop, f = (fun x19_4 x19_6 => lX1_countPasses_19 t_passes p3 r7 K19 n x19_4 x19_6) := ⟨_, rfl⟩
      replace ih : ∀ (x19_4 : Int32) (x19_6 : Int32) (H : Heap) (locs : List Loc) (ls : Array Slot), R19 x19_4 x19_6 → va_P G vwCl ws H → va_S A s.heap H locs → lv_has ls 7 [(0, .ref t_h), (3, .int p3), (4, .int x19_4), (5, .int r7), (6, .int x19_6)] → W p l e (headSpec wsX1_countPasses rmX1_countPasses).room s m args below meth c H locs 0 0 (MQ below (va_Qi (fun (r : Int32) (u : Unit) => Q r) (fun (_ : Unit) t => va_P G vwCl ws t.heap) A) args s 0 0 A) (F0 m 19 ls []) := by rw [hR19]; exact ih
      intro x19_4 x19_6 H locs ls h hP hS hl
      have h : bX1_countPasses_19 t_passes p3 r7 K19 R19 x19_4 x19_6 := by rw [hR19]; exact h
      clear hR19
      unfold bX1_countPasses_19 at h
      refine lv_iload hx hb dX1_countPasses_19 (lv_at hl 4 rfl) ?_
      refine lv_iload hx hb dX1_countPasses_21 (lv_at hl 3 rfl) ?_
      refine lv_icmp_ge (tgt := 58) hx hb dX1_countPasses_23 (by decide) (fun q8 => ?_) (fun q8 => ?_)
      · have h := (if_pos q8).mp h
        exact X1 x19_4 _ _ _ h hP hS (lv_sub hl [2] rfl)
      · have h := (if_neg q8).mp h
        refine lv_aload_n hx hb dX1_countPasses_26 rfl (lv_at hl 0 rfl) ?_
        refine va_get (D := G) (ci := 1) (v := .ref t_passes_a) (C := RX1) (T := TX1) (N := 8) hx hb hts inC1 hown hK.1 hP k_t e_t rfl 2 (by decide) (hts _ (List.mem_cons_of_mem _ u70)) (fun _ h9 => h9) rfl dX1_countPasses_27 ?_
        refine lv_iload hx hb dX1_countPasses_30 (lv_at hl 4 rfl) ?_
        refine rdi (va_runSN (As := [.ref t_passes_a, .int x19_6]) (rest := []) ⟨hx, hb, hml, hown, hts⟩ (kX5_isIn (ws := ws) k_t_passes t_passes_a 144 t_passes e_t_passes x19_6 h _) ⟨va_cnB 2 hts (gIn (aN u1)) rfl rfl rfl (hK.2.2.1 _ (List.mem_of_getElem? (i := 21) rfl)) (hts _ (List.mem_cons_of_mem _ u2)) (by decide +kernel) ⟨Nat.le_of_ble_eq_true rfl, Nat.le_of_ble_eq_true rfl⟩, (hts _ (List.mem_cons_of_mem _ u3)), trivial⟩ (pS hK hP hD) rfl rfl hl.1 rfl (lv_room (Nat.le_of_ble_eq_true rfl)) dX1_countPasses_32 ⟨Nat.zero_le _, Nat.zero_le _⟩) hP hS hA hD (fun r32 H locs h hP hS => ?_)
        refine lv_if_eq (tgt := 58) hx hb dX1_countPasses_35 (by decide) (fun q7 => ?_) (fun q7 => ?_)
        · have h := (if_pos q7).mp h
          exact X1 x19_4 _ _ _ h hP hS (lv_sub hl [2] rfl)
        · have h := (if_neg q7).mp h
          refine lv_aload_n hx hb dX1_countPasses_38 rfl (lv_at hl 0 rfl) ?_
          refine va_get (D := G) (ci := 1) (v := .ref t_passes_a) (C := RX1) (T := TX1) (N := 8) hx hb hts inC1 hown hK.1 hP k_t e_t rfl 2 (by decide) (hts _ (List.mem_cons_of_mem _ u70)) (fun _ h9 => h9) rfl dX1_countPasses_39 ?_
          refine lv_iload hx hb dX1_countPasses_42 (lv_at hl 4 rfl) ?_
          obtain ⟨i3, h⟩ := h
          refine va_iald hx hb hK.1 hP k_t_passes 0 e_t_passes rfl i3 dX1_countPasses_44 ?_
          refine lv_iload_n hx hb dX1_countPasses_45 rfl (lv_at hl 1 rfl) ?_
          have J5 : ∀ v4 : Int32, v4 = (if (t_passes x19_6.toNatClampNeg) = p3 then (x19_4 + (1 : Int32)) else x19_4) → ∀ (ls : Array Slot), lv_has ls 7 [(0, .ref t_h), (3, .int p3), (4, .int v4), (5, .int r7), (6, .int x19_6)] → W p l e (headSpec wsX1_countPasses rmX1_countPasses).room s m args below meth c H locs 0 0 (MQ below (va_Qi (fun (r : Int32) (u : Unit) => Q r) (fun (_ : Unit) t => va_P G vwCl ws t.heap) A) args s 0 0 A) (F0 m 52 ls []) := by
            intro v4 ev4; subst ev4
            intro ls hl
            refine lv_iinc (v := (x19_6 + (1 : Int32))) (lv' := [(6, .int (x19_6 + (1 : Int32))), (0, .ref t_h), (3, .int p3), (4, .int (if (t_passes x19_6.toNatClampNeg) = p3 then (x19_4 + (1 : Int32)) else x19_4)), (5, .int r7)]) hx hb dX1_countPasses_52 hl (k := 4) rfl rfl (by decide) rfl (fun ls hl => ?_)
            refine lv_goto (tgt := 19) hx hb dX1_countPasses_55 (by decide) ?_
            exact ih (if (t_passes x19_6.toNatClampNeg) = p3 then (x19_4 + (1 : Int32)) else x19_4) (x19_6 + (1 : Int32)) _ _ _ h hP hS (lv_sub hl [1, 2, 3, 4, 0] rfl)
          refine lv_icmp_ne (tgt := 52) hx hb dX1_countPasses_46 (by decide) (fun q6 => ?_) (fun q6 => ?_)
          · exact J5 x19_4 (if_neg q6).symm ls (lv_sub hl [0, 1, 2, 3, 4] rfl)
          · refine lv_iinc (v := (x19_4 + (1 : Int32))) (lv' := [(4, .int (x19_4 + (1 : Int32))), (0, .ref t_h), (3, .int p3), (5, .int r7), (6, .int x19_6)]) hx hb dX1_countPasses_49 hl (k := 2) rfl rfl (by decide) rfl (fun ls hl => ?_)
            exact J5 (x19_4 + (1 : Int32)) (if_pos q6).symm ls (lv_sub hl [1, 2, 0, 3, 4] rfl)
  exact R2 FU (0 : Int32) r14 _ _ _ (by rw [hK19]; exact h) hP hS (lv_sub hl [3, 6, 2, 1, 0] rfl)
abbrev rmX1_countBends : Room := ({ frames := 3, cells := 0, slots := 0, locals := 68 } : Room)
set_option maxHeartbeats 4000000 in
set_option maxRecDepth 100000 in
theorem kX1_countBends {l : Launch} {G : va_G} {cI cZ cP cJ : ClassId} {ws : va_W} (k_t : Nat) (k_t_passes : Nat) (k_l : Nat) (k_l_firsts : Nat) (t_h : Nat) (t_passes_a : Nat) (t_arcsBySteps_a : Nat) (t_overs_a : Nat) (t_unders_a : Nat) (t_tied_a : Nat) (t_groups_a : Nat) (l_h : Nat) (l_owners_a : Nat) (l_firsts_a : Nat) (l_ownersBySteps_a : Nat) (l_cells_a : Nat) (l_ends_a : Nat) (l_rightward_a : Nat) (l_downward_a : Nat) (t_arcs : Int32) (t_ties : Int32) (t_passes : Nat → Int32) (l_count : Int32) (l_steps : Int32) (l_firsts : Nat → Int32) (e_t : ws[k_t]? = some (t_h, .inr (1, [.int t_arcs, .int t_ties, .ref t_passes_a, .ref t_arcsBySteps_a, .ref t_overs_a, .ref t_unders_a, .ref t_tied_a, .ref t_groups_a]))) (e_t_passes : ws[k_t_passes]? = some (t_passes_a, .inl (cI, 144, .inl t_passes))) (e_l : ws[k_l]? = some (l_h, .inr (2, [.int l_count, .int l_steps, .ref l_owners_a, .ref l_firsts_a, .ref l_ownersBySteps_a, .ref l_cells_a, .ref l_ends_a, .ref l_rightward_a, .ref l_downward_a]))) (e_l_firsts : ws[k_l_firsts]? = some (l_firsts_a, .inl (cI, 37, .inl l_firsts))) (p2 : Int32) {Q : Int32 → Prop} (h : wX1_countBends t_passes l_steps l_firsts p2 Q) (sz : Nat) : Met l yX1_countBends wsX1_countBends rmX1_countBends (va_Pc [.ref t_h, .ref l_h, .int p2] (pB G [(cI, .int), (cZ, .boolean), (cP, .object RX3), (cJ, .array .int)] ws sz)) (va_Qi (fun (r : Int32) (u : Unit) => Q r) (fun (_ : Unit) t => va_P G vwCl ws t.heap) (va_A ws sz)) 0 0 (va_A ws sz) := by
  refine Met.ofW (cc := cX1_countBends) (maxL := 3) (ret := (some .int)) (by decide) rfl ?_
  intro p e s m args below meth c s₁ B hml hv
  obtain ⟨hargs, hsz, hP, hK, hD0⟩ := hv
  have hx := B.exec
  have hb := B.bytes
  have hr := B.returns
  have hts := atoms_spec (ws := wsX1_countBends) B.pre
  have hown : s.vm.findClass RX1 = some m.cls := findClass_of_methodNamed B.named
  have hlocks := B.notSynchronized
  subst hsz
  have hD := hD0.self (sz := s.heap.size)
  generalize hAe : va_A ws s.heap.size = A at hD ⊢
  have hA : ∀ q : Nat, s.heap.size ≤ q → A q := fun q h => by rw [← hAe]; exact Or.inr h
  have hS : va_S A s.heap s.heap [] := va_S.rf
  have hl := lv_entry ([.ref t_h, .ref l_h, .int p2]) (n := 3) (Nat.le_of_ble_eq_true rfl)
  rw [show entryFrame m args 3 = entryFrame m ([.ref t_h, .ref l_h, .int p2] : List Value).toArray 3 by rw [hargs], lg_entry_eq]
  generalize (lg_sl ([.ref t_h, .ref l_h, .int p2]) ++ List.replicate (3 - (lg_sl ([.ref t_h, .ref l_h, .int p2])).length) Slot.unset).toArray = ls at hl ⊢
  have hl : lv_has ls 3 [(0, .ref t_h), (1, .ref l_h), (2, .int p2)] := hl
  unfold wX1_countBends at h
  suffices hM : ∀ (H : Heap) (locs : List Loc), va_P G vwCl ws H → va_S A s.heap H locs → W p l e (headSpec wsX1_countBends rmX1_countBends).room s m args below meth c H locs 0 0 (MQ below (va_Qi (fun (r : Int32) (u : Unit) => Q r) (fun (_ : Unit) t => va_P G vwCl ws t.heap) A) args s 0 0 A) (F0 m 0 ls []) from hM _ _ hP hS
  clear hP hS
  intro H locs hP hS
  refine lv_aload_n hx hb dX1_countBends_0 rfl (lv_at hl 0 rfl) ?_
  refine lv_aload_n hx hb dX1_countBends_1 rfl (lv_at hl 1 rfl) ?_
  refine lv_iload_n hx hb dX1_countBends_2 rfl (lv_at hl 2 rfl) ?_
  refine lv_iconst (v := (0 : Int32)) hx hb dX1_countBends_3 (by decide) ?_
  refine rdi (va_runV (As := [.ref l_h, .int p2, .int (0 : Int32)]) (rest := []) ⟨hx, hb, hml, hown, hts⟩ (kX1_countPasses (ws := ws) k_t k_t_passes k_l k_l_firsts t_h t_passes_a t_arcsBySteps_a t_overs_a t_unders_a t_tied_a t_groups_a l_h l_owners_a l_firsts_a l_ownersBySteps_a l_cells_a l_ends_a l_rightward_a l_downward_a t_arcs t_ties t_passes l_count l_steps l_firsts e_t e_t_passes e_l e_l_firsts p2 (0 : Int32) h _) (cwV 3 hts (gIn (aV u71 u72 u73 u14 u74)) rfl rfl rfl (by decide +kernel) ⟨Nat.le_of_ble_eq_true rfl, Nat.le_of_ble_eq_true rfl⟩) (pV hK hP hD (ci := 1) (q0 := k_t) rfl e_t) rfl rfl hl.1 rfl (lv_room (Nat.le_of_ble_eq_true rfl)) dX1_countBends_4 ⟨Nat.zero_le _, Nat.zero_le _⟩) hP hS hA hD (fun r4 H locs h hP hS => ?_)
  exact W.iret (v := r4) hx hb hr (fun t ht hW => ⟨⟨r4, (), rfl, h, by show va_P G vwCl ws t.heap; rw [ht]; exact hP⟩, hS.F ht⟩) hS.2.2 dX1_countBends_7
abbrev rmX1_loopOver : Room := ({ frames := 2, cells := 0, slots := 0, locals := 42 } : Room)
set_option maxHeartbeats 4000000 in
set_option maxRecDepth 100000 in
theorem kX1_loopOver {l : Launch} {G : va_G} {cI cZ cP cJ : ClassId} {ws : va_W} (k_t : Nat) (k_t_overs : Nat) (k_l : Nat) (k_l_ownersBySteps : Nat) (t_h : Nat) (t_passes_a : Nat) (t_arcsBySteps_a : Nat) (t_overs_a : Nat) (t_unders_a : Nat) (t_tied_a : Nat) (t_groups_a : Nat) (l_h : Nat) (l_owners_a : Nat) (l_firsts_a : Nat) (l_ownersBySteps_a : Nat) (l_cells_a : Nat) (l_ends_a : Nat) (l_rightward_a : Nat) (l_downward_a : Nat) (t_arcs : Int32) (t_ties : Int32) (t_overs : Nat → Int32) (l_count : Int32) (l_steps : Int32) (l_ownersBySteps : Nat → Int32) (e_t : ws[k_t]? = some (t_h, .inr (1, [.int t_arcs, .int t_ties, .ref t_passes_a, .ref t_arcsBySteps_a, .ref t_overs_a, .ref t_unders_a, .ref t_tied_a, .ref t_groups_a]))) (e_t_overs : ws[k_t_overs]? = some (t_overs_a, .inl (cI, 60, .inl t_overs))) (e_l : ws[k_l]? = some (l_h, .inr (2, [.int l_count, .int l_steps, .ref l_owners_a, .ref l_firsts_a, .ref l_ownersBySteps_a, .ref l_cells_a, .ref l_ends_a, .ref l_rightward_a, .ref l_downward_a]))) (e_l_ownersBySteps : ws[k_l_ownersBySteps]? = some (l_ownersBySteps_a, .inl (cI, 144, .inl l_ownersBySteps))) (p2 : Int32) {Q : Int32 → Prop} (h : wX1_loopOver t_overs l_ownersBySteps p2 Q) (sz : Nat) : Met l yX1_loopOver wsX1_loopOver rmX1_loopOver (va_Pc [.ref t_h, .ref l_h, .int p2] (pB G [(cI, .int), (cZ, .boolean), (cP, .object RX3), (cJ, .array .int)] ws sz)) (va_Qi (fun (r : Int32) (u : Unit) => Q r) (fun (_ : Unit) t => va_P G vwCl ws t.heap) (va_A ws sz)) 0 0 (va_A ws sz) := by
  refine Met.ofW (cc := cX1_loopOver) (maxL := 3) (ret := (some .int)) (by decide) rfl ?_
  intro p e s m args below meth c s₁ B hml hv
  obtain ⟨hargs, hsz, hP, hK, hD0⟩ := hv
  have hx := B.exec
  have hb := B.bytes
  have hr := B.returns
  have hts := atoms_spec (ws := wsX1_loopOver) B.pre
  have hown : s.vm.findClass RX1 = some m.cls := findClass_of_methodNamed B.named
  have hlocks := B.notSynchronized
  subst hsz
  have hD := hD0.self (sz := s.heap.size)
  generalize hAe : va_A ws s.heap.size = A at hD ⊢
  have hA : ∀ q : Nat, s.heap.size ≤ q → A q := fun q h => by rw [← hAe]; exact Or.inr h
  have hS : va_S A s.heap s.heap [] := va_S.rf
  have hl := lv_entry ([.ref t_h, .ref l_h, .int p2]) (n := 3) (Nat.le_of_ble_eq_true rfl)
  rw [show entryFrame m args 3 = entryFrame m ([.ref t_h, .ref l_h, .int p2] : List Value).toArray 3 by rw [hargs], lg_entry_eq]
  generalize (lg_sl ([.ref t_h, .ref l_h, .int p2]) ++ List.replicate (3 - (lg_sl ([.ref t_h, .ref l_h, .int p2])).length) Slot.unset).toArray = ls at hl ⊢
  have hl : lv_has ls 3 [(0, .ref t_h), (1, .ref l_h), (2, .int p2)] := hl
  unfold wX1_loopOver at h
  suffices hM : ∀ (H : Heap) (locs : List Loc), va_P G vwCl ws H → va_S A s.heap H locs → W p l e (headSpec wsX1_loopOver rmX1_loopOver).room s m args below meth c H locs 0 0 (MQ below (va_Qi (fun (r : Int32) (u : Unit) => Q r) (fun (_ : Unit) t => va_P G vwCl ws t.heap) A) args s 0 0 A) (F0 m 0 ls []) from hM _ _ hP hS
  clear hP hS
  intro H locs hP hS
  refine lv_aload_n hx hb dX1_loopOver_0 rfl (lv_at hl 1 rfl) ?_
  refine lv_aload_n hx hb dX1_loopOver_1 rfl (lv_at hl 0 rfl) ?_
  refine lv_iload_n hx hb dX1_loopOver_2 rfl (lv_at hl 2 rfl) ?_
  refine rdi (va_runV (As := [.int p2]) (rest := [.ref l_h]) ⟨hx, hb, hml, hown, hts⟩ (kX1_overAt (ws := ws) k_t k_t_overs t_h t_passes_a t_arcsBySteps_a t_overs_a t_unders_a t_tied_a t_groups_a t_arcs t_ties t_overs e_t e_t_overs p2 h _) (cwV 1 hts (gIn (aV u16 u17 u18 u14 u19)) rfl rfl rfl (by decide +kernel) ⟨Nat.le_of_ble_eq_true rfl, Nat.le_of_ble_eq_true rfl⟩) (pV hK hP hD (ci := 1) (q0 := k_t) rfl e_t) rfl rfl hl.1 rfl (lv_room (Nat.le_of_ble_eq_true rfl)) dX1_loopOver_3 ⟨Nat.zero_le _, Nat.zero_le _⟩) hP hS hA hD (fun r3 H locs h hP hS => ?_)
  refine rdi (va_runVN (As := [.int r3]) (rest := []) ⟨hx, hb, hml, hown, hts⟩ (kX2_ownerAt (ws := ws) k_l k_l_ownersBySteps l_h l_owners_a l_firsts_a l_ownersBySteps_a l_cells_a l_ends_a l_rightward_a l_downward_a l_count l_steps l_ownersBySteps e_l e_l_ownersBySteps r3 h _) ⟨va_cnB 1 hts (gIn (aN u32)) rfl rfl rfl (hK.2.2.1 _ (List.mem_of_getElem? (i := 22) rfl)) (hts _ (List.mem_cons_of_mem _ u27)) (by decide +kernel) ⟨Nat.le_of_ble_eq_true rfl, Nat.le_of_ble_eq_true rfl⟩, (hts _ (List.mem_cons_of_mem _ u30)), (hts _ (List.mem_cons_of_mem _ u31))⟩ (pV hK hP hD (ci := 2) (q0 := k_l) rfl e_l) rfl rfl hl.1 rfl (lv_room (Nat.le_of_ble_eq_true rfl)) dX1_loopOver_6 ⟨Nat.zero_le _, Nat.zero_le _⟩) hP hS hA hD (fun r6 H locs h hP hS => ?_)
  exact W.iret (v := r6) hx hb hr (fun t ht hW => ⟨⟨r6, (), rfl, h, by show va_P G vwCl ws t.heap; rw [ht]; exact hP⟩, hS.F ht⟩) hS.2.2 dX1_loopOver_9
abbrev rmX1_loopUnder : Room := ({ frames := 2, cells := 0, slots := 0, locals := 42 } : Room)
set_option maxHeartbeats 4000000 in
set_option maxRecDepth 100000 in
theorem kX1_loopUnder {l : Launch} {G : va_G} {cI cZ cP cJ : ClassId} {ws : va_W} (k_t : Nat) (k_t_unders : Nat) (k_l : Nat) (k_l_ownersBySteps : Nat) (t_h : Nat) (t_passes_a : Nat) (t_arcsBySteps_a : Nat) (t_overs_a : Nat) (t_unders_a : Nat) (t_tied_a : Nat) (t_groups_a : Nat) (l_h : Nat) (l_owners_a : Nat) (l_firsts_a : Nat) (l_ownersBySteps_a : Nat) (l_cells_a : Nat) (l_ends_a : Nat) (l_rightward_a : Nat) (l_downward_a : Nat) (t_arcs : Int32) (t_ties : Int32) (t_unders : Nat → Int32) (l_count : Int32) (l_steps : Int32) (l_ownersBySteps : Nat → Int32) (e_t : ws[k_t]? = some (t_h, .inr (1, [.int t_arcs, .int t_ties, .ref t_passes_a, .ref t_arcsBySteps_a, .ref t_overs_a, .ref t_unders_a, .ref t_tied_a, .ref t_groups_a]))) (e_t_unders : ws[k_t_unders]? = some (t_unders_a, .inl (cI, 60, .inl t_unders))) (e_l : ws[k_l]? = some (l_h, .inr (2, [.int l_count, .int l_steps, .ref l_owners_a, .ref l_firsts_a, .ref l_ownersBySteps_a, .ref l_cells_a, .ref l_ends_a, .ref l_rightward_a, .ref l_downward_a]))) (e_l_ownersBySteps : ws[k_l_ownersBySteps]? = some (l_ownersBySteps_a, .inl (cI, 144, .inl l_ownersBySteps))) (p2 : Int32) {Q : Int32 → Prop} (h : wX1_loopUnder t_unders l_ownersBySteps p2 Q) (sz : Nat) : Met l yX1_loopUnder wsX1_loopUnder rmX1_loopUnder (va_Pc [.ref t_h, .ref l_h, .int p2] (pB G [(cI, .int), (cZ, .boolean), (cP, .object RX3), (cJ, .array .int)] ws sz)) (va_Qi (fun (r : Int32) (u : Unit) => Q r) (fun (_ : Unit) t => va_P G vwCl ws t.heap) (va_A ws sz)) 0 0 (va_A ws sz) := by
  refine Met.ofW (cc := cX1_loopUnder) (maxL := 3) (ret := (some .int)) (by decide) rfl ?_
  intro p e s m args below meth c s₁ B hml hv
  obtain ⟨hargs, hsz, hP, hK, hD0⟩ := hv
  have hx := B.exec
  have hb := B.bytes
  have hr := B.returns
  have hts := atoms_spec (ws := wsX1_loopUnder) B.pre
  have hown : s.vm.findClass RX1 = some m.cls := findClass_of_methodNamed B.named
  have hlocks := B.notSynchronized
  subst hsz
  have hD := hD0.self (sz := s.heap.size)
  generalize hAe : va_A ws s.heap.size = A at hD ⊢
  have hA : ∀ q : Nat, s.heap.size ≤ q → A q := fun q h => by rw [← hAe]; exact Or.inr h
  have hS : va_S A s.heap s.heap [] := va_S.rf
  have hl := lv_entry ([.ref t_h, .ref l_h, .int p2]) (n := 3) (Nat.le_of_ble_eq_true rfl)
  rw [show entryFrame m args 3 = entryFrame m ([.ref t_h, .ref l_h, .int p2] : List Value).toArray 3 by rw [hargs], lg_entry_eq]
  generalize (lg_sl ([.ref t_h, .ref l_h, .int p2]) ++ List.replicate (3 - (lg_sl ([.ref t_h, .ref l_h, .int p2])).length) Slot.unset).toArray = ls at hl ⊢
  have hl : lv_has ls 3 [(0, .ref t_h), (1, .ref l_h), (2, .int p2)] := hl
  unfold wX1_loopUnder at h
  suffices hM : ∀ (H : Heap) (locs : List Loc), va_P G vwCl ws H → va_S A s.heap H locs → W p l e (headSpec wsX1_loopUnder rmX1_loopUnder).room s m args below meth c H locs 0 0 (MQ below (va_Qi (fun (r : Int32) (u : Unit) => Q r) (fun (_ : Unit) t => va_P G vwCl ws t.heap) A) args s 0 0 A) (F0 m 0 ls []) from hM _ _ hP hS
  clear hP hS
  intro H locs hP hS
  refine lv_aload_n hx hb dX1_loopUnder_0 rfl (lv_at hl 1 rfl) ?_
  refine lv_aload_n hx hb dX1_loopUnder_1 rfl (lv_at hl 0 rfl) ?_
  refine lv_iload_n hx hb dX1_loopUnder_2 rfl (lv_at hl 2 rfl) ?_
  refine rdi (va_runV (As := [.int p2]) (rest := [.ref l_h]) ⟨hx, hb, hml, hown, hts⟩ (kX1_underAt (ws := ws) k_t k_t_unders t_h t_passes_a t_arcsBySteps_a t_overs_a t_unders_a t_tied_a t_groups_a t_arcs t_ties t_unders e_t e_t_unders p2 h _) (cwV 1 hts (gIn (aV u11 u12 u13 u14 u15)) rfl rfl rfl (by decide +kernel) ⟨Nat.le_of_ble_eq_true rfl, Nat.le_of_ble_eq_true rfl⟩) (pV hK hP hD (ci := 1) (q0 := k_t) rfl e_t) rfl rfl hl.1 rfl (lv_room (Nat.le_of_ble_eq_true rfl)) dX1_loopUnder_3 ⟨Nat.zero_le _, Nat.zero_le _⟩) hP hS hA hD (fun r3 H locs h hP hS => ?_)
  refine rdi (va_runVN (As := [.int r3]) (rest := []) ⟨hx, hb, hml, hown, hts⟩ (kX2_ownerAt (ws := ws) k_l k_l_ownersBySteps l_h l_owners_a l_firsts_a l_ownersBySteps_a l_cells_a l_ends_a l_rightward_a l_downward_a l_count l_steps l_ownersBySteps e_l e_l_ownersBySteps r3 h _) ⟨va_cnB 1 hts (gIn (aN u32)) rfl rfl rfl (hK.2.2.1 _ (List.mem_of_getElem? (i := 22) rfl)) (hts _ (List.mem_cons_of_mem _ u27)) (by decide +kernel) ⟨Nat.le_of_ble_eq_true rfl, Nat.le_of_ble_eq_true rfl⟩, (hts _ (List.mem_cons_of_mem _ u30)), (hts _ (List.mem_cons_of_mem _ u31))⟩ (pV hK hP hD (ci := 2) (q0 := k_l) rfl e_l) rfl rfl hl.1 rfl (lv_room (Nat.le_of_ble_eq_true rfl)) dX1_loopUnder_6 ⟨Nat.zero_le _, Nat.zero_le _⟩) hP hS hA hD (fun r6 H locs h hP hS => ?_)
  exact W.iret (v := r6) hx hb hr (fun t ht hW => ⟨⟨r6, (), rfl, h, by show va_P G vwCl ws t.heap; rw [ht]; exact hP⟩, hS.F ht⟩) hS.2.2 dX1_loopUnder_9
abbrev rmX1_isShared : Room := ({ frames := 3, cells := 0, slots := 0, locals := 64 } : Room)
set_option maxHeartbeats 4000000 in
set_option maxRecDepth 100000 in
theorem kX1_isShared {l : Launch} {G : va_G} {cI cZ cP cJ : ClassId} {ws : va_W} (k_t : Nat) (k_t_overs : Nat) (k_t_unders : Nat) (k_l : Nat) (k_l_ownersBySteps : Nat) (t_h : Nat) (t_passes_a : Nat) (t_arcsBySteps_a : Nat) (t_overs_a : Nat) (t_unders_a : Nat) (t_tied_a : Nat) (t_groups_a : Nat) (l_h : Nat) (l_owners_a : Nat) (l_firsts_a : Nat) (l_ownersBySteps_a : Nat) (l_cells_a : Nat) (l_ends_a : Nat) (l_rightward_a : Nat) (l_downward_a : Nat) (t_arcs : Int32) (t_ties : Int32) (t_overs : Nat → Int32) (t_unders : Nat → Int32) (l_count : Int32) (l_steps : Int32) (l_ownersBySteps : Nat → Int32) (e_t : ws[k_t]? = some (t_h, .inr (1, [.int t_arcs, .int t_ties, .ref t_passes_a, .ref t_arcsBySteps_a, .ref t_overs_a, .ref t_unders_a, .ref t_tied_a, .ref t_groups_a]))) (e_t_overs : ws[k_t_overs]? = some (t_overs_a, .inl (cI, 60, .inl t_overs))) (e_t_unders : ws[k_t_unders]? = some (t_unders_a, .inl (cI, 60, .inl t_unders))) (e_l : ws[k_l]? = some (l_h, .inr (2, [.int l_count, .int l_steps, .ref l_owners_a, .ref l_firsts_a, .ref l_ownersBySteps_a, .ref l_cells_a, .ref l_ends_a, .ref l_rightward_a, .ref l_downward_a]))) (e_l_ownersBySteps : ws[k_l_ownersBySteps]? = some (l_ownersBySteps_a, .inl (cI, 144, .inl l_ownersBySteps))) (p2 : Int32) (p3 : Int32) (p4 : Int32) {Q : Int32 → Prop} (h : wX1_isShared t_overs t_unders l_ownersBySteps p2 p3 p4 Q) (sz : Nat) : Met l yX1_isShared wsX1_isShared rmX1_isShared (va_Pc [.ref t_h, .ref l_h, .int p2, .int p3, .int p4] (pB G [(cI, .int), (cZ, .boolean), (cP, .object RX3), (cJ, .array .int)] ws sz)) (va_Qi (fun (r : Int32) (u : Unit) => Q r) (fun (_ : Unit) t => va_P G vwCl ws t.heap) (va_A ws sz)) 0 0 (va_A ws sz) := by
  refine Met.ofW (cc := cX1_isShared) (maxL := 7) (ret := (some .boolean)) (by decide) rfl ?_
  intro p e s m args below meth c s₁ B hml hv
  obtain ⟨hargs, hsz, hP, hK, hD0⟩ := hv
  have hx := B.exec
  have hb := B.bytes
  have hr := B.returns
  have hts := atoms_spec (ws := wsX1_isShared) B.pre
  have hown : s.vm.findClass RX1 = some m.cls := findClass_of_methodNamed B.named
  have hlocks := B.notSynchronized
  subst hsz
  have hD := hD0.self (sz := s.heap.size)
  generalize hAe : va_A ws s.heap.size = A at hD ⊢
  have hA : ∀ q : Nat, s.heap.size ≤ q → A q := fun q h => by rw [← hAe]; exact Or.inr h
  have hS : va_S A s.heap s.heap [] := va_S.rf
  have hl := lv_entry ([.ref t_h, .ref l_h, .int p2, .int p3, .int p4]) (n := 7) (Nat.le_of_ble_eq_true rfl)
  rw [show entryFrame m args 7 = entryFrame m ([.ref t_h, .ref l_h, .int p2, .int p3, .int p4] : List Value).toArray 7 by rw [hargs], lg_entry_eq]
  generalize (lg_sl ([.ref t_h, .ref l_h, .int p2, .int p3, .int p4]) ++ List.replicate (7 - (lg_sl ([.ref t_h, .ref l_h, .int p2, .int p3, .int p4])).length) Slot.unset).toArray = ls at hl ⊢
  have hl : lv_has ls 7 [(0, .ref t_h), (1, .ref l_h), (2, .int p2), (3, .int p3), (4, .int p4)] := hl
  unfold wX1_isShared at h
  suffices hM : ∀ (H : Heap) (locs : List Loc), va_P G vwCl ws H → va_S A s.heap H locs → W p l e (headSpec wsX1_isShared rmX1_isShared).room s m args below meth c H locs 0 0 (MQ below (va_Qi (fun (r : Int32) (u : Unit) => Q r) (fun (_ : Unit) t => va_P G vwCl ws t.heap) A) args s 0 0 A) (F0 m 0 ls []) from hM _ _ hP hS
  clear hP hS
  intro H locs hP hS
  refine lv_aload_n hx hb dX1_isShared_0 rfl (lv_at hl 0 rfl) ?_
  refine lv_aload_n hx hb dX1_isShared_1 rfl (lv_at hl 1 rfl) ?_
  refine lv_iload_n hx hb dX1_isShared_2 rfl (lv_at hl 2 rfl) ?_
  refine rdi (va_runV (As := [.ref l_h, .int p2]) (rest := []) ⟨hx, hb, hml, hown, hts⟩ (kX1_loopOver (ws := ws) k_t k_t_overs k_l k_l_ownersBySteps t_h t_passes_a t_arcsBySteps_a t_overs_a t_unders_a t_tied_a t_groups_a l_h l_owners_a l_firsts_a l_ownersBySteps_a l_cells_a l_ends_a l_rightward_a l_downward_a t_arcs t_ties t_overs l_count l_steps l_ownersBySteps e_t e_t_overs e_l e_l_ownersBySteps p2 h _) (cwV 2 hts (gIn (aV u79 u80 u81 u14 u82)) rfl rfl rfl (by decide +kernel) ⟨Nat.le_of_ble_eq_true rfl, Nat.le_of_ble_eq_true rfl⟩) (pV hK hP hD (ci := 1) (q0 := k_t) rfl e_t) rfl rfl hl.1 rfl (lv_room (Nat.le_of_ble_eq_true rfl)) dX1_isShared_3 ⟨Nat.zero_le _, Nat.zero_le _⟩) hP hS hA hD (fun r3 H locs h hP hS => ?_)
  refine lv_istore (lv' := [(5, .int r3), (0, .ref t_h), (1, .ref l_h), (2, .int p2), (3, .int p3), (4, .int p4)]) hx hb dX1_isShared_6 hl (by decide) rfl (fun ls hl => ?_)
  refine lv_aload_n hx hb dX1_isShared_8 rfl (lv_at hl 1 rfl) ?_
  refine lv_aload_n hx hb dX1_isShared_9 rfl (lv_at hl 2 rfl) ?_
  refine lv_iload_n hx hb dX1_isShared_10 rfl (lv_at hl 3 rfl) ?_
  refine rdi (va_runV (As := [.ref l_h, .int p2]) (rest := []) ⟨hx, hb, hml, hown, hts⟩ (kX1_loopUnder (ws := ws) k_t k_t_unders k_l k_l_ownersBySteps t_h t_passes_a t_arcsBySteps_a t_overs_a t_unders_a t_tied_a t_groups_a l_h l_owners_a l_firsts_a l_ownersBySteps_a l_cells_a l_ends_a l_rightward_a l_downward_a t_arcs t_ties t_unders l_count l_steps l_ownersBySteps e_t e_t_unders e_l e_l_ownersBySteps p2 h _) (cwV 2 hts (gIn (aV u75 u76 u77 u14 u78)) rfl rfl rfl (by decide +kernel) ⟨Nat.le_of_ble_eq_true rfl, Nat.le_of_ble_eq_true rfl⟩) (pV hK hP hD (ci := 1) (q0 := k_t) rfl e_t) rfl rfl hl.1 rfl (lv_room (Nat.le_of_ble_eq_true rfl)) dX1_isShared_11 ⟨Nat.zero_le _, Nat.zero_le _⟩) hP hS hA hD (fun r11 H locs h hP hS => ?_)
  refine lv_istore (lv' := [(6, .int r11), (5, .int r3), (0, .ref t_h), (1, .ref l_h), (2, .int p2), (3, .int p3), (4, .int p4)]) hx hb dX1_isShared_14 hl (by decide) rfl (fun ls hl => ?_)
  refine lv_iload hx hb dX1_isShared_16 (lv_at hl 1 rfl) ?_
  refine lv_iload_n hx hb dX1_isShared_18 rfl (lv_at hl 5 rfl) ?_
  have J2 : ∀ v1 : Int32, v1 = (if r3 = p3 then (if r11 = p4 then (1 : Int32) else (if r3 = p4 then (if r11 = p3 then (1 : Int32) else (0 : Int32)) else (0 : Int32))) else (if r3 = p4 then (if r11 = p3 then (1 : Int32) else (0 : Int32)) else (0 : Int32))) → ∀ (ls : Array Slot), lv_has ls 7 [] → W p l e (headSpec wsX1_isShared rmX1_isShared).room s m args below meth c H locs 0 0 (MQ below (va_Qi (fun (r : Int32) (u : Unit) => Q r) (fun (_ : Unit) t => va_P G vwCl ws t.heap) A) args s 0 0 A) (F0 m 47 ls [.int v1]) := by
    intro v1 ev1; subst ev1
    intro ls hl
    exact W.zret (v := (if r3 = p3 then (if r11 = p4 then (1 : Int32) else (if r3 = p4 then (if r11 = p3 then (1 : Int32) else (0 : Int32)) else (0 : Int32))) else (if r3 = p4 then (if r11 = p3 then (1 : Int32) else (0 : Int32)) else (0 : Int32)))) (ty := .boolean) hx hb hr (nB (isB_if (isB_if isB_1 (isB_if (isB_if isB_1 isB_0) isB_0)) (isB_if (isB_if isB_1 isB_0) isB_0))) (fun t ht hW => ⟨⟨(if r3 = p3 then (if r11 = p4 then (1 : Int32) else (if r3 = p4 then (if r11 = p3 then (1 : Int32) else (0 : Int32)) else (0 : Int32))) else (if r3 = p4 then (if r11 = p3 then (1 : Int32) else (0 : Int32)) else (0 : Int32))), (), rfl, h, by show va_P G vwCl ws t.heap; rw [ht]; exact hP⟩, hS.F ht⟩) hS.2.2 dX1_isShared_47
  refine lv_icmp_ne (tgt := 29) hx hb dX1_isShared_19 (by decide) (fun q3 => ?_) (fun q3 => ?_)
  · refine lv_iload hx hb dX1_isShared_29 (lv_at hl 1 rfl) ?_
    refine lv_iload hx hb dX1_isShared_31 (lv_at hl 6 rfl) ?_
    refine lv_icmp_ne (tgt := 46) hx hb dX1_isShared_33 (by decide) (fun q4 => ?_) (fun q4 => ?_)
    · refine lv_iconst (v := (0 : Int32)) hx hb dX1_isShared_46 (by decide) ?_
      exact J2 (0 : Int32) ((if_neg q3).trans (if_neg q4)).symm ls (lv_sub hl [] rfl)
    · refine lv_iload hx hb dX1_isShared_36 (lv_at hl 0 rfl) ?_
      refine lv_iload_n hx hb dX1_isShared_38 rfl (lv_at hl 5 rfl) ?_
      refine lv_icmp_ne (tgt := 46) hx hb dX1_isShared_39 (by decide) (fun q5 => ?_) (fun q5 => ?_)
      · refine lv_iconst (v := (0 : Int32)) hx hb dX1_isShared_46 (by decide) ?_
        exact J2 (0 : Int32) ((if_neg q3).trans ((if_pos q4).trans (if_neg q5))).symm ls (lv_sub hl [] rfl)
      · refine lv_iconst (v := (1 : Int32)) hx hb dX1_isShared_42 (by decide) ?_
        refine lv_goto (tgt := 47) hx hb dX1_isShared_43 (by decide) ?_
        exact J2 (1 : Int32) ((if_neg q3).trans ((if_pos q4).trans (if_pos q5))).symm ls (lv_sub hl [] rfl)
  · refine lv_iload hx hb dX1_isShared_22 (lv_at hl 0 rfl) ?_
    refine lv_iload hx hb dX1_isShared_24 (lv_at hl 6 rfl) ?_
    refine lv_icmp_eq (tgt := 42) hx hb dX1_isShared_26 (by decide) (fun q6 => ?_) (fun q6 => ?_)
    · refine lv_iconst (v := (1 : Int32)) hx hb dX1_isShared_42 (by decide) ?_
      refine lv_goto (tgt := 47) hx hb dX1_isShared_43 (by decide) ?_
      exact J2 (1 : Int32) ((if_pos q3).trans (if_pos q6)).symm ls (lv_sub hl [] rfl)
    · refine lv_iload hx hb dX1_isShared_29 (lv_at hl 1 rfl) ?_
      refine lv_iload hx hb dX1_isShared_31 (lv_at hl 6 rfl) ?_
      refine lv_icmp_ne (tgt := 46) hx hb dX1_isShared_33 (by decide) (fun q7 => ?_) (fun q7 => ?_)
      · refine lv_iconst (v := (0 : Int32)) hx hb dX1_isShared_46 (by decide) ?_
        exact J2 (0 : Int32) ((if_pos q3).trans ((if_neg q6).trans (if_neg q7))).symm ls (lv_sub hl [] rfl)
      · refine lv_iload hx hb dX1_isShared_36 (lv_at hl 0 rfl) ?_
        refine lv_iload_n hx hb dX1_isShared_38 rfl (lv_at hl 5 rfl) ?_
        refine lv_icmp_ne (tgt := 46) hx hb dX1_isShared_39 (by decide) (fun q8 => ?_) (fun q8 => ?_)
        · refine lv_iconst (v := (0 : Int32)) hx hb dX1_isShared_46 (by decide) ?_
          exact J2 (0 : Int32) ((if_pos q3).trans ((if_neg q6).trans ((if_pos q7).trans (if_neg q8)))).symm ls (lv_sub hl [] rfl)
        · refine lv_iconst (v := (1 : Int32)) hx hb dX1_isShared_42 (by decide) ?_
          refine lv_goto (tgt := 47) hx hb dX1_isShared_43 (by decide) ?_
          exact J2 (1 : Int32) ((if_pos q3).trans ((if_neg q6).trans ((if_pos q7).trans (if_pos q8)))).symm ls (lv_sub hl [] rfl)
abbrev rmX1_countShared : Room := ({ frames := 4, cells := 0, slots := 0, locals := 90 } : Room)
set_option maxHeartbeats 4000000 in
set_option maxRecDepth 100000 in
theorem kX1_countShared {l : Launch} {G : va_G} {cI cZ cP cJ : ClassId} {ws : va_W} (k_t : Nat) (k_t_overs : Nat) (k_t_unders : Nat) (k_l : Nat) (k_l_ownersBySteps : Nat) (t_h : Nat) (t_passes_a : Nat) (t_arcsBySteps_a : Nat) (t_overs_a : Nat) (t_unders_a : Nat) (t_tied_a : Nat) (t_groups_a : Nat) (l_h : Nat) (l_owners_a : Nat) (l_firsts_a : Nat) (l_ownersBySteps_a : Nat) (l_cells_a : Nat) (l_ends_a : Nat) (l_rightward_a : Nat) (l_downward_a : Nat) (t_arcs : Int32) (t_ties : Int32) (t_overs : Nat → Int32) (t_unders : Nat → Int32) (l_count : Int32) (l_steps : Int32) (l_ownersBySteps : Nat → Int32) (e_t : ws[k_t]? = some (t_h, .inr (1, [.int t_arcs, .int t_ties, .ref t_passes_a, .ref t_arcsBySteps_a, .ref t_overs_a, .ref t_unders_a, .ref t_tied_a, .ref t_groups_a]))) (e_t_overs : ws[k_t_overs]? = some (t_overs_a, .inl (cI, 60, .inl t_overs))) (e_t_unders : ws[k_t_unders]? = some (t_unders_a, .inl (cI, 60, .inl t_unders))) (e_l : ws[k_l]? = some (l_h, .inr (2, [.int l_count, .int l_steps, .ref l_owners_a, .ref l_firsts_a, .ref l_ownersBySteps_a, .ref l_cells_a, .ref l_ends_a, .ref l_rightward_a, .ref l_downward_a]))) (e_l_ownersBySteps : ws[k_l_ownersBySteps]? = some (l_ownersBySteps_a, .inl (cI, 144, .inl l_ownersBySteps))) (p2 : Int32) (p3 : Int32) {Q : Int32 → Prop} (h : wX1_countShared t_overs t_unders l_ownersBySteps p2 p3 Q) (sz : Nat) : Met l yX1_countShared wsX1_countShared rmX1_countShared (va_Pc [.ref t_h, .ref l_h, .int p2, .int p3] (pB G [(cI, .int), (cZ, .boolean), (cP, .object RX3), (cJ, .array .int)] ws sz)) (va_Qi (fun (r : Int32) (u : Unit) => Q r) (fun (_ : Unit) t => va_P G vwCl ws t.heap) (va_A ws sz)) 0 0 (va_A ws sz) := by
  refine Met.ofW (cc := cX1_countShared) (maxL := 6) (ret := (some .int)) (by decide) rfl ?_
  intro p e s m args below meth c s₁ B hml hv
  obtain ⟨hargs, hsz, hP, hK, hD0⟩ := hv
  have hx := B.exec
  have hb := B.bytes
  have hr := B.returns
  have hts := atoms_spec (ws := wsX1_countShared) B.pre
  have hown : s.vm.findClass RX1 = some m.cls := findClass_of_methodNamed B.named
  have hlocks := B.notSynchronized
  subst hsz
  have hD := hD0.self (sz := s.heap.size)
  generalize hAe : va_A ws s.heap.size = A at hD ⊢
  have hA : ∀ q : Nat, s.heap.size ≤ q → A q := fun q h => by rw [← hAe]; exact Or.inr h
  have hS : va_S A s.heap s.heap [] := va_S.rf
  have hl := lv_entry ([.ref t_h, .ref l_h, .int p2, .int p3]) (n := 6) (Nat.le_of_ble_eq_true rfl)
  rw [show entryFrame m args 6 = entryFrame m ([.ref t_h, .ref l_h, .int p2, .int p3] : List Value).toArray 6 by rw [hargs], lg_entry_eq]
  generalize (lg_sl ([.ref t_h, .ref l_h, .int p2, .int p3]) ++ List.replicate (6 - (lg_sl ([.ref t_h, .ref l_h, .int p2, .int p3])).length) Slot.unset).toArray = ls at hl ⊢
  have hl : lv_has ls 6 [(0, .ref t_h), (1, .ref l_h), (2, .int p2), (3, .int p3)] := hl
  unfold wX1_countShared at h
  suffices hM : ∀ (H : Heap) (locs : List Loc), va_P G vwCl ws H → va_S A s.heap H locs → W p l e (headSpec wsX1_countShared rmX1_countShared).room s m args below meth c H locs 0 0 (MQ below (va_Qi (fun (r : Int32) (u : Unit) => Q r) (fun (_ : Unit) t => va_P G vwCl ws t.heap) A) args s 0 0 A) (F0 m 0 ls []) from hM _ _ hP hS
  clear hP hS
  intro H locs hP hS
  refine lv_iconst (v := (0 : Int32)) hx hb dX1_countShared_0 (by decide) ?_
  refine lv_istore (lv' := [(4, .int (0 : Int32)), (0, .ref t_h), (1, .ref l_h), (2, .int p2), (3, .int p3)]) hx hb dX1_countShared_1 hl (by decide) rfl (fun ls hl => ?_)
  refine lv_iconst (v := (0 : Int32)) hx hb dX1_countShared_3 (by decide) ?_
  refine lv_istore (lv' := [(5, .int (0 : Int32)), (4, .int (0 : Int32)), (0, .ref t_h), (1, .ref l_h), (2, .int p2), (3, .int p3)]) hx hb dX1_countShared_4 hl (by decide) rfl (fun ls hl => ?_)
  have X1 : ∀ (y34_4 : Int32) (H : Heap) (locs : List Loc) (ls : Array Slot), wX1_countShared_X34 Q y34_4 → va_P G vwCl ws H → va_S A s.heap H locs → lv_has ls 6 [(4, .int y34_4)] → W p l e (headSpec wsX1_countShared rmX1_countShared).room s m args below meth c H locs 0 0 (MQ below (va_Qi (fun (r : Int32) (u : Unit) => Q r) (fun (_ : Unit) t => va_P G vwCl ws t.heap) A) args s 0 0 A) (F0 m 34 ls []) := by
    intro y34_4 H locs ls h hP hS hl
    unfold wX1_countShared_X34 at h
    refine lv_iload hx hb dX1_countShared_34 (lv_at hl 0 rfl) ?_
    exact W.iret (v := y34_4) hx hb hr (fun t ht hW => ⟨⟨y34_4, (), rfl, h, by show va_P G vwCl ws t.heap; rw [ht]; exact hP⟩, hS.F ht⟩) hS.2.2 dX1_countShared_36
  obtain ⟨K6, hK6⟩ : ∃ f : Int32 → Prop, f = (wX1_countShared_X34 Q) := ⟨_, rfl⟩
  replace X1 : ∀ (y34_4 : Int32) (H : Heap) (locs : List Loc) (ls : Array Slot), K6 y34_4 → va_P G vwCl ws H → va_S A s.heap H locs → lv_has ls 6 [(4, .int y34_4)] → W p l e (headSpec wsX1_countShared rmX1_countShared).room s m args below meth c H locs 0 0 (MQ below (va_Qi (fun (r : Int32) (u : Unit) => Q r) (fun (_ : Unit) t => va_P G vwCl ws t.heap) A) args s 0 0 A) (F0 m 34 ls []) := by rw [hK6]; exact X1
  have R2 : ∀ (n : Nat) (x6_4 : Int32) (x6_5 : Int32) (H : Heap) (locs : List Loc) (ls : Array Slot), lX1_countShared_6 t_overs t_unders l_ownersBySteps p2 p3 K6 n x6_4 x6_5 → va_P G vwCl ws H → va_S A s.heap H locs → lv_has ls 6 [(0, .ref t_h), (1, .ref l_h), (2, .int p2), (3, .int p3), (4, .int x6_4), (5, .int x6_5)] → W p l e (headSpec wsX1_countShared rmX1_countShared).room s m args below meth c H locs 0 0 (MQ below (va_Qi (fun (r : Int32) (u : Unit) => Q r) (fun (_ : Unit) t => va_P G vwCl ws t.heap) A) args s 0 0 A) (F0 m 6 ls []) := by
    intro n
    induction n with
    | zero => intro x6_4 x6_5 H locs ls h; exact False.elim h
    | succ n ih =>
      obtain ⟨R6, hR6⟩ : ∃ f : Int32 → Int32 → Prop, f = (fun x6_4 x6_5 => lX1_countShared_6 t_overs t_unders l_ownersBySteps p2 p3 K6 n x6_4 x6_5) := ⟨_, rfl⟩
      replace ih : ∀ (x6_4 : Int32) (x6_5 : Int32) (H : Heap) (locs : List Loc) (ls : Array Slot), R6 x6_4 x6_5 → va_P G vwCl ws H → va_S A s.heap H locs → lv_has ls 6 [(0, .ref t_h), (1, .ref l_h), (2, .int p2), (3, .int p3), (4, .int x6_4), (5, .int x6_5)] → W p l e (headSpec wsX1_countShared rmX1_countShared).room s m args below meth c H locs 0 0 (MQ below (va_Qi (fun (r : Int32) (u : Unit) => Q r) (fun (_ : Unit) t => va_P G vwCl ws t.heap) A) args s 0 0 A) (F0 m 6 ls []) := by rw [hR6]; exact ih
      intro x6_4 x6_5 H locs ls h hP hS hl
      have h : bX1_countShared_6 t_overs t_unders l_ownersBySteps p2 p3 K6 R6 x6_4 x6_5 := by rw [hR6]; exact h
      clear hR6
      unfold bX1_countShared_6 at h
      refine lv_iload hx hb dX1_countShared_6 (lv_at hl 5 rfl) ?_
      refine lv_bipush (v := (60 : Int32)) hx hb dX1_countShared_8 (by decide) ?_
      refine lv_icmp_ge (tgt := 34) hx hb dX1_countShared_10 (by decide) (fun q6 => ?_) (fun q6 => ?_)
      · have h := (if_pos q6).mp h
        exact X1 x6_4 _ _ _ h hP hS (lv_sub hl [4] rfl)
      · have h := (if_neg q6).mp h
        refine lv_aload_n hx hb dX1_countShared_13 rfl (lv_at hl 0 rfl) ?_
        refine lv_aload_n hx hb dX1_countShared_14 rfl (lv_at hl 1 rfl) ?_
        refine lv_iload hx hb dX1_countShared_15 (lv_at hl 5 rfl) ?_
        refine lv_iload_n hx hb dX1_countShared_17 rfl (lv_at hl 2 rfl) ?_
        refine lv_iload_n hx hb dX1_countShared_18 rfl (lv_at hl 3 rfl) ?_
        refine rdi (va_runV (As := [.ref l_h, .int x6_5, .int p2, .int p3]) (rest := []) ⟨hx, hb, hml, hown, hts⟩ (kX1_isShared (ws := ws) k_t k_t_overs k_t_unders k_l k_l_ownersBySteps t_h t_passes_a t_arcsBySteps_a t_overs_a t_unders_a t_tied_a t_groups_a l_h l_owners_a l_firsts_a l_ownersBySteps_a l_cells_a l_ends_a l_rightward_a l_downward_a t_arcs t_ties t_overs t_unders l_count l_steps l_ownersBySteps e_t e_t_overs e_t_unders e_l e_l_ownersBySteps x6_5 p2 p3 h _) (cwV 4 hts (gIn (aV u83 u84 u85 u14 u86)) rfl rfl rfl (by decide +kernel) ⟨Nat.le_of_ble_eq_true rfl, Nat.le_of_ble_eq_true rfl⟩) (pV hK hP hD (ci := 1) (q0 := k_t) rfl e_t) rfl rfl hl.1 rfl (lv_room (Nat.le_of_ble_eq_true rfl)) dX1_countShared_19 ⟨Nat.zero_le _, Nat.zero_le _⟩) hP hS hA hD (fun r19 H locs h hP hS => ?_)
        have J4 : ∀ v3 : Int32, v3 = (if r19 = 0 then x6_4 else (x6_4 + (1 : Int32))) → ∀ (ls : Array Slot), lv_has ls 6 [(0, .ref t_h), (1, .ref l_h), (2, .int p2), (3, .int p3), (4, .int v3), (5, .int x6_5)] → W p l e (headSpec wsX1_countShared rmX1_countShared).room s m args below meth c H locs 0 0 (MQ below (va_Qi (fun (r : Int32) (u : Unit) => Q r) (fun (_ : Unit) t => va_P G vwCl ws t.heap) A) args s 0 0 A) (F0 m 28 ls []) := by
          intro v3 ev3; subst ev3
          intro ls hl
          refine lv_iinc (v := (x6_5 + (1 : Int32))) (lv' := [(5, .int (x6_5 + (1 : Int32))), (0, .ref t_h), (1, .ref l_h), (2, .int p2), (3, .int p3), (4, .int (if r19 = 0 then x6_4 else (x6_4 + (1 : Int32))))]) hx hb dX1_countShared_28 hl (k := 5) rfl rfl (by decide) rfl (fun ls hl => ?_)
          refine lv_goto (tgt := 6) hx hb dX1_countShared_31 (by decide) ?_
          exact ih (if r19 = 0 then x6_4 else (x6_4 + (1 : Int32))) (x6_5 + (1 : Int32)) _ _ _ h hP hS (lv_sub hl [1, 2, 3, 4, 5, 0] rfl)
        refine lv_if_eq (tgt := 28) hx hb dX1_countShared_22 (by decide) (fun q5 => ?_) (fun q5 => ?_)
        · exact J4 x6_4 (if_pos q5).symm ls (lv_sub hl [0, 1, 2, 3, 4, 5] rfl)
        · refine lv_iinc (v := (x6_4 + (1 : Int32))) (lv' := [(4, .int (x6_4 + (1 : Int32))), (0, .ref t_h), (1, .ref l_h), (2, .int p2), (3, .int p3), (5, .int x6_5)]) hx hb dX1_countShared_25 hl (k := 4) rfl rfl (by decide) rfl (fun ls hl => ?_)
          exact J4 (x6_4 + (1 : Int32)) (if_neg q5).symm ls (lv_sub hl [1, 2, 3, 4, 0, 5] rfl)
  exact R2 FU (0 : Int32) (0 : Int32) _ _ _ (by rw [hK6]; exact h) hP hS (lv_sub hl [2, 3, 4, 5, 1, 0] rfl)
abbrev rmX1_lastPass : Room := ({ frames := 2, cells := 0, slots := 0, locals := 42 } : Room)
set_option maxHeartbeats 4000000 in
set_option maxRecDepth 100000 in
theorem kX1_lastPass {l : Launch} {G : va_G} {cI cZ cP cJ : ClassId} {ws : va_W} (k_t : Nat) (k_t_passes : Nat) (k_l : Nat) (k_l_firsts : Nat) (t_h : Nat) (t_passes_a : Nat) (t_arcsBySteps_a : Nat) (t_overs_a : Nat) (t_unders_a : Nat) (t_tied_a : Nat) (t_groups_a : Nat) (l_h : Nat) (l_owners_a : Nat) (l_firsts_a : Nat) (l_ownersBySteps_a : Nat) (l_cells_a : Nat) (l_ends_a : Nat) (l_rightward_a : Nat) (l_downward_a : Nat) (t_arcs : Int32) (t_ties : Int32) (t_passes : Nat → Int32) (l_count : Int32) (l_steps : Int32) (l_firsts : Nat → Int32) (e_t : ws[k_t]? = some (t_h, .inr (1, [.int t_arcs, .int t_ties, .ref t_passes_a, .ref t_arcsBySteps_a, .ref t_overs_a, .ref t_unders_a, .ref t_tied_a, .ref t_groups_a]))) (e_t_passes : ws[k_t_passes]? = some (t_passes_a, .inl (cI, 144, .inl t_passes))) (e_l : ws[k_l]? = some (l_h, .inr (2, [.int l_count, .int l_steps, .ref l_owners_a, .ref l_firsts_a, .ref l_ownersBySteps_a, .ref l_cells_a, .ref l_ends_a, .ref l_rightward_a, .ref l_downward_a]))) (e_l_firsts : ws[k_l_firsts]? = some (l_firsts_a, .inl (cI, 37, .inl l_firsts))) (p2 : Int32) {Q : Int32 → Prop} (h : wX1_lastPass t_passes l_steps l_firsts p2 Q) (sz : Nat) : Met l yX1_lastPass wsX1_lastPass rmX1_lastPass (va_Pc [.ref t_h, .ref l_h, .int p2] (pB G [(cI, .int), (cZ, .boolean), (cP, .object RX3), (cJ, .array .int)] ws sz)) (va_Qi (fun (r : Int32) (u : Unit) => Q r) (fun (_ : Unit) t => va_P G vwCl ws t.heap) (va_A ws sz)) 0 0 (va_A ws sz) := by
  refine Met.ofW (cc := cX1_lastPass) (maxL := 6) (ret := (some .int)) (by decide) rfl ?_
  intro p e s m args below meth c s₁ B hml hv
  obtain ⟨hargs, hsz, hP, hK, hD0⟩ := hv
  have hx := B.exec
  have hb := B.bytes
  have hr := B.returns
  have hts := atoms_spec (ws := wsX1_lastPass) B.pre
  have hown : s.vm.findClass RX1 = some m.cls := findClass_of_methodNamed B.named
  have hlocks := B.notSynchronized
  subst hsz
  have hD := hD0.self (sz := s.heap.size)
  generalize hAe : va_A ws s.heap.size = A at hD ⊢
  have hA : ∀ q : Nat, s.heap.size ≤ q → A q := fun q h => by rw [← hAe]; exact Or.inr h
  have hS : va_S A s.heap s.heap [] := va_S.rf
  have hl := lv_entry ([.ref t_h, .ref l_h, .int p2]) (n := 6) (Nat.le_of_ble_eq_true rfl)
  rw [show entryFrame m args 6 = entryFrame m ([.ref t_h, .ref l_h, .int p2] : List Value).toArray 6 by rw [hargs], lg_entry_eq]
  generalize (lg_sl ([.ref t_h, .ref l_h, .int p2]) ++ List.replicate (6 - (lg_sl ([.ref t_h, .ref l_h, .int p2])).length) Slot.unset).toArray = ls at hl ⊢
  have hl : lv_has ls 6 [(0, .ref t_h), (1, .ref l_h), (2, .int p2)] := hl
  unfold wX1_lastPass at h
  suffices hM : ∀ (H : Heap) (locs : List Loc), va_P G vwCl ws H → va_S A s.heap H locs → W p l e (headSpec wsX1_lastPass rmX1_lastPass).room s m args below meth c H locs 0 0 (MQ below (va_Qi (fun (r : Int32) (u : Unit) => Q r) (fun (_ : Unit) t => va_P G vwCl ws t.heap) A) args s 0 0 A) (F0 m 0 ls []) from hM _ _ hP hS
  clear hP hS
  intro H locs hP hS
  refine lv_iconst (v := (0 : Int32)) hx hb dX1_lastPass_0 (by decide) ?_
  refine lv_istore_n (lv' := [(3, .int (0 : Int32)), (0, .ref t_h), (1, .ref l_h), (2, .int p2)]) hx hb dX1_lastPass_1 rfl hl (by decide) rfl (fun ls hl => ?_)
  refine lv_aload_n hx hb dX1_lastPass_2 rfl (lv_at hl 2 rfl) ?_
  refine lv_iload_n hx hb dX1_lastPass_3 rfl (lv_at hl 3 rfl) ?_
  refine lv_iconst (v := (1 : Int32)) hx hb dX1_lastPass_4 (by decide) ?_
  refine lv_iadd hx hb dX1_lastPass_5 ?_
  refine rdi (va_runVN (As := [.int (p2 + (1 : Int32))]) (rest := []) ⟨hx, hb, hml, hown, hts⟩ (kX2_firstStep (ws := ws) k_l k_l_firsts l_h l_owners_a l_firsts_a l_ownersBySteps_a l_cells_a l_ends_a l_rightward_a l_downward_a l_count l_steps l_firsts e_l e_l_firsts (p2 + (1 : Int32)) h _) ⟨va_cnB 1 hts (gIn (aN u28)) rfl rfl rfl (hK.2.2.1 _ (List.mem_of_getElem? (i := 19) rfl)) (hts _ (List.mem_cons_of_mem _ u27)) (by decide +kernel) ⟨Nat.le_of_ble_eq_true rfl, Nat.le_of_ble_eq_true rfl⟩, (hts _ (List.mem_cons_of_mem _ u25)), (hts _ (List.mem_cons_of_mem _ u26))⟩ (pV hK hP hD (ci := 2) (q0 := k_l) rfl e_l) rfl rfl hl.1 rfl (lv_room (Nat.le_of_ble_eq_true rfl)) dX1_lastPass_6 ⟨Nat.zero_le _, Nat.zero_le _⟩) hP hS hA hD (fun r6 H locs h hP hS => ?_)
  refine lv_istore (lv' := [(4, .int r6), (3, .int (0 : Int32)), (0, .ref t_h), (1, .ref l_h), (2, .int p2)]) hx hb dX1_lastPass_9 hl (by decide) rfl (fun ls hl => ?_)
  refine lv_aload_n hx hb dX1_lastPass_11 rfl (lv_at hl 3 rfl) ?_
  refine lv_iload_n hx hb dX1_lastPass_12 rfl (lv_at hl 4 rfl) ?_
  refine rdi (va_runVN (As := [.int p2]) (rest := []) ⟨hx, hb, hml, hown, hts⟩ (kX2_firstStep (ws := ws) k_l k_l_firsts l_h l_owners_a l_firsts_a l_ownersBySteps_a l_cells_a l_ends_a l_rightward_a l_downward_a l_count l_steps l_firsts e_l e_l_firsts p2 h _) ⟨va_cnB 1 hts (gIn (aN u28)) rfl rfl rfl (hK.2.2.1 _ (List.mem_of_getElem? (i := 19) rfl)) (hts _ (List.mem_cons_of_mem _ u27)) (by decide +kernel) ⟨Nat.le_of_ble_eq_true rfl, Nat.le_of_ble_eq_true rfl⟩, (hts _ (List.mem_cons_of_mem _ u25)), (hts _ (List.mem_cons_of_mem _ u26))⟩ (pV hK hP hD (ci := 2) (q0 := k_l) rfl e_l) rfl rfl hl.1 rfl (lv_room (Nat.le_of_ble_eq_true rfl)) dX1_lastPass_13 ⟨Nat.zero_le _, Nat.zero_le _⟩) hP hS hA hD (fun r13 H locs h hP hS => ?_)
  refine lv_istore (lv' := [(5, .int r13), (4, .int r6), (3, .int (0 : Int32)), (0, .ref t_h), (1, .ref l_h), (2, .int p2)]) hx hb dX1_lastPass_16 hl (by decide) rfl (fun ls hl => ?_)
  have X1 : ∀ (y61_3 : Int32) (H : Heap) (locs : List Loc) (ls : Array Slot), wX1_lastPass_X61 Q y61_3 → va_P G vwCl ws H → va_S A s.heap H locs → lv_has ls 6 [(3, .int y61_3)] → W p l e (headSpec wsX1_lastPass rmX1_lastPass).room s m args below meth c H locs 0 0 (MQ below (va_Qi (fun (r : Int32) (u : Unit) => Q r) (fun (_ : Unit) t => va_P G vwCl ws t.heap) A) args s 0 0 A) (F0 m 61 ls []) := by
    intro y61_3 H locs ls h hP hS hl
    unfold wX1_lastPass_X61 at h
    refine lv_iload_n hx hb dX1_lastPass_61 rfl (lv_at hl 0 rfl) ?_
    exact W.iret (v := y61_3) hx hb hr (fun t ht hW => ⟨⟨y61_3, (), rfl, h, by show va_P G vwCl ws t.heap; rw [ht]; exact hP⟩, hS.F ht⟩) hS.2.2 dX1_lastPass_62
  obtain ⟨K18, hK18⟩ : ∃ f : Int32 → Prop, f = (wX1_lastPass_X61 Q) := ⟨_, rfl⟩
  replace X1 : ∀ (y61_3 : Int32) (H : Heap) (locs : List Loc) (ls : Array Slot), K18 y61_3 → va_P G vwCl ws H → va_S A s.heap H locs → lv_has ls 6 [(3, .int y61_3)] → W p l e (headSpec wsX1_lastPass rmX1_lastPass).room s m args below meth c H locs 0 0 (MQ below (va_Qi (fun (r : Int32) (u : Unit) => Q r) (fun (_ : Unit) t => va_P G vwCl ws t.heap) A) args s 0 0 A) (F0 m 61 ls []) := by rw [hK18]; exact X1
  have R2 : ∀ (n : Nat) (x18_3 : Int32) (x18_5 : Int32) (H : Heap) (locs : List Loc) (ls : Array Slot), lX1_lastPass_18 t_passes r6 K18 n x18_3 x18_5 → va_P G vwCl ws H → va_S A s.heap H locs → lv_has ls 6 [(0, .ref t_h), (3, .int x18_3), (4, .int r6), (5, .int x18_5)] → W p l e (headSpec wsX1_lastPass rmX1_lastPass).room s m args below meth c H locs 0 0 (MQ below (va_Qi (fun (r : Int32) (u : Unit) => Q r) (fun (_ : Unit) t => va_P G vwCl ws t.heap) A) args s 0 0 A) (F0 m 18 ls []) := by
    intro n
    induction n with
    | zero => intro x18_3 x18_5 H locs ls h; exact False.elim h
    | succ n ih =>
      obtain ⟨R18, hR18⟩ : ∃ f : Int32 → Int32 → Prop, f = (fun x18_3 x18_5 => lX1_lastPass_18 t_passes r6 K18 n x18_3 x18_5) := ⟨_, rfl⟩
      replace ih : ∀ (x18_3 : Int32) (x18_5 : Int32) (H : Heap) (locs : List Loc) (ls : Array Slot), R18 x18_3 x18_5 → va_P G vwCl ws H → va_S A s.heap H locs → lv_has ls 6 [(0, .ref t_h), (3, .int x18_3), (4, .int r6), (5, .int x18_5)] → W p l e (headSpec wsX1_lastPass rmX1_lastPass).room s m args below meth c H locs 0 0 (MQ below (va_Qi (fun (r : Int32) (u : Unit) => Q r) (fun (_ : Unit) t => va_P G vwCl ws t.heap) A) args s 0 0 A) (F0 m 18 ls []) := by rw [hR18]; exact ih
      intro x18_3 x18_5 H locs ls h hP hS hl
      have h : bX1_lastPass_18 t_passes r6 K18 R18 x18_3 x18_5 := by rw [hR18]; exact h
      clear hR18
      unfold bX1_lastPass_18 at h
      refine lv_iload hx hb dX1_lastPass_18 (lv_at hl 3 rfl) ?_
      refine lv_iload hx hb dX1_lastPass_20 (lv_at hl 2 rfl) ?_
      refine lv_icmp_ge (tgt := 61) hx hb dX1_lastPass_22 (by decide) (fun q6 => ?_) (fun q6 => ?_)
      · have h := (if_pos q6).mp h
        exact X1 x18_3 _ _ _ h hP hS (lv_sub hl [1] rfl)
      · have h := (if_neg q6).mp h
        refine lv_aload_n hx hb dX1_lastPass_25 rfl (lv_at hl 0 rfl) ?_
        refine va_get (D := G) (ci := 1) (v := .ref t_passes_a) (C := RX1) (T := TX1) (N := 8) hx hb hts inC1 hown hK.1 hP k_t e_t rfl 2 (by decide) (hts _ (List.mem_cons_of_mem _ u70)) (fun _ h9 => h9) rfl dX1_lastPass_26 ?_
        refine lv_iload hx hb dX1_lastPass_29 (lv_at hl 3 rfl) ?_
        refine rdi (va_runSN (As := [.ref t_passes_a, .int x18_5]) (rest := []) ⟨hx, hb, hml, hown, hts⟩ (kX5_isIn (ws := ws) k_t_passes t_passes_a 144 t_passes e_t_passes x18_5 h _) ⟨va_cnB 2 hts (gIn (aN u1)) rfl rfl rfl (hK.2.2.1 _ (List.mem_of_getElem? (i := 21) rfl)) (hts _ (List.mem_cons_of_mem _ u2)) (by decide +kernel) ⟨Nat.le_of_ble_eq_true rfl, Nat.le_of_ble_eq_true rfl⟩, (hts _ (List.mem_cons_of_mem _ u3)), trivial⟩ (pS hK hP hD) rfl rfl hl.1 rfl (lv_room (Nat.le_of_ble_eq_true rfl)) dX1_lastPass_31 ⟨Nat.zero_le _, Nat.zero_le _⟩) hP hS hA hD (fun r31 H locs h hP hS => ?_)
        refine lv_if_eq (tgt := 61) hx hb dX1_lastPass_34 (by decide) (fun q5 => ?_) (fun q5 => ?_)
        · have h := (if_pos q5).mp h
          exact X1 x18_3 _ _ _ h hP hS (lv_sub hl [1] rfl)
        · have h := (if_neg q5).mp h
          refine lv_aload_n hx hb dX1_lastPass_37 rfl (lv_at hl 0 rfl) ?_
          refine va_get (D := G) (ci := 1) (v := .ref t_passes_a) (C := RX1) (T := TX1) (N := 8) hx hb hts inC1 hown hK.1 hP k_t e_t rfl 2 (by decide) (hts _ (List.mem_cons_of_mem _ u70)) (fun _ h9 => h9) rfl dX1_lastPass_38 ?_
          refine lv_iload hx hb dX1_lastPass_41 (lv_at hl 3 rfl) ?_
          obtain ⟨i3, h⟩ := h
          refine va_iald hx hb hK.1 hP k_t_passes 0 e_t_passes rfl i3 dX1_lastPass_43 ?_
          refine lv_if_eq (tgt := 55) hx hb dX1_lastPass_44 (by decide) (fun q4 => ?_) (fun q4 => ?_)
          · have h := (if_pos q4).mp h
            refine lv_iinc (v := (x18_5 + (1 : Int32))) (lv' := [(5, .int (x18_5 + (1 : Int32))), (0, .ref t_h), (3, .int x18_3), (4, .int r6)]) hx hb dX1_lastPass_55 hl (k := 3) rfl rfl (by decide) rfl (fun ls hl => ?_)
            refine lv_goto (tgt := 18) hx hb dX1_lastPass_58 (by decide) ?_
            exact ih x18_3 (x18_5 + (1 : Int32)) _ _ _ h hP hS (lv_sub hl [1, 2, 3, 0] rfl)
          · have h := (if_neg q4).mp h
            refine lv_aload_n hx hb dX1_lastPass_47 rfl (lv_at hl 0 rfl) ?_
            refine va_get (D := G) (ci := 1) (v := .ref t_passes_a) (C := RX1) (T := TX1) (N := 8) hx hb hts inC1 hown hK.1 hP k_t e_t rfl 2 (by decide) (hts _ (List.mem_cons_of_mem _ u70)) (fun _ h9 => h9) rfl dX1_lastPass_48 ?_
            refine lv_iload hx hb dX1_lastPass_51 (lv_at hl 3 rfl) ?_
            refine va_iald hx hb hK.1 hP k_t_passes 0 e_t_passes rfl i3 dX1_lastPass_53 ?_
            refine lv_istore_n (lv' := [(3, .int (t_passes x18_5.toNatClampNeg)), (0, .ref t_h), (4, .int r6), (5, .int x18_5)]) hx hb dX1_lastPass_54 rfl hl (by decide) rfl (fun ls hl => ?_)
            refine lv_iinc (v := (x18_5 + (1 : Int32))) (lv' := [(5, .int (x18_5 + (1 : Int32))), (3, .int (t_passes x18_5.toNatClampNeg)), (0, .ref t_h), (4, .int r6)]) hx hb dX1_lastPass_55 hl (k := 3) rfl rfl (by decide) rfl (fun ls hl => ?_)
            refine lv_goto (tgt := 18) hx hb dX1_lastPass_58 (by decide) ?_
            exact ih (t_passes x18_5.toNatClampNeg) (x18_5 + (1 : Int32)) _ _ _ h hP hS (lv_sub hl [2, 1, 3, 0] rfl)
  exact R2 FU (0 : Int32) r13 _ _ _ (by rw [hK18]; exact h) hP hS (lv_sub hl [3, 2, 1, 0] rfl)
