theorem ul108 : Cond.methodLink RL 72 yX5_which ∈ wU := wU_t3 (List.mem_of_getElem? (i := 7) rfl) rfl
theorem ul109 : Cond.instanceMethod yX5_which ∈ wU := wU_t3 (List.mem_of_getElem? (i := 8) rfl) rfl
theorem ul110 : Cond.selects RX5 yX5_which yX5_which ∈ wU := wU_t3 (List.mem_of_getElem? (i := 9) rfl) rfl
theorem ul111 : Cond.code yX5_which cX5_which 4 (some .int) ∈ wU := wU_t3 (List.mem_of_getElem? (i := 10) rfl) rfl
theorem ul112 : Cond.methodLink RL 76 yX6_which ∈ wU := wU_t4 (List.mem_of_getElem? (i := 177) rfl) rfl
theorem ul113 : Cond.instanceMethod yX6_which ∈ wU := wU_t4 (List.mem_of_getElem? (i := 178) rfl) rfl
theorem ul114 : Cond.selects RX6 yX6_which yX6_which ∈ wU := wU_t4 (List.mem_of_getElem? (i := 179) rfl) rfl
theorem ul115 : Cond.code yX6_which cX6_which 4 (some .int) ∈ wU := wU_t4 (List.mem_of_getElem? (i := 180) rfl) rfl
theorem ul116 : Cond.methodLink RL 77 yX5_sign ∈ wU := wU_t3 (List.mem_of_getElem? (i := 14) rfl) rfl
theorem ul117 : Cond.instanceMethod yX5_sign ∈ wU := wU_t3 (List.mem_of_getElem? (i := 15) rfl) rfl
theorem ul118 : Cond.selects RX5 yX5_sign yX5_sign ∈ wU := wU_t3 (List.mem_of_getElem? (i := 16) rfl) rfl
theorem ul119 : Cond.code yX5_sign cX5_sign 3 (some .int) ∈ wU := wU_t3 (List.mem_of_getElem? (i := 17) rfl) rfl
theorem ul120 : Cond.methodLink RL 80 yX6_sign ∈ wU := wU_t4 (List.mem_of_getElem? (i := 181) rfl) rfl
theorem ul121 : Cond.instanceMethod yX6_sign ∈ wU := wU_t4 (List.mem_of_getElem? (i := 182) rfl) rfl
theorem ul122 : Cond.selects RX6 yX6_sign yX6_sign ∈ wU := wU_t4 (List.mem_of_getElem? (i := 183) rfl) rfl
theorem ul123 : Cond.code yX6_sign cX6_sign 3 (some .int) ∈ wU := wU_t4 (List.mem_of_getElem? (i := 184) rfl) rfl
theorem ul124 : Cond.methodLink RL 81 yX5_writhe ∈ wU := wU_t3 (List.mem_of_getElem? (i := 22) rfl) rfl
theorem ul125 : Cond.instanceMethod yX5_writhe ∈ wU := wU_t3 (List.mem_of_getElem? (i := 23) rfl) rfl
theorem ul126 : Cond.selects RX5 yX5_writhe yX5_writhe ∈ wU := wU_t3 (List.mem_of_getElem? (i := 24) rfl) rfl
theorem ul127 : Cond.code yX5_writhe cX5_writhe 1 (some .int) ∈ wU := wU_t3 (List.mem_of_getElem? (i := 25) rfl) rfl
theorem ul128 : Cond.methodLink RL 84 yX6_writhe ∈ wU := wU_t4 (List.mem_of_getElem? (i := 185) rfl) rfl
theorem ul129 : Cond.instanceMethod yX6_writhe ∈ wU := wU_t4 (List.mem_of_getElem? (i := 186) rfl) rfl
theorem ul130 : Cond.selects RX6 yX6_writhe yX6_writhe ∈ wU := wU_t4 (List.mem_of_getElem? (i := 187) rfl) rfl
theorem ul131 : Cond.code yX6_writhe cX6_writhe 3 (some .int) ∈ wU := wU_t4 (List.mem_of_getElem? (i := 188) rfl) rfl
theorem ul132 : Cond.methodLink RL 85 yX5_linked ∈ wU := wU_t3 (List.mem_of_getElem? (i := 35) rfl) rfl
theorem ul133 : Cond.instanceMethod yX5_linked ∈ wU := wU_t3 (List.mem_of_getElem? (i := 36) rfl) rfl
theorem ul134 : Cond.selects RX5 yX5_linked yX5_linked ∈ wU := wU_t3 (List.mem_of_getElem? (i := 37) rfl) rfl
theorem ul135 : Cond.code yX5_linked cX5_linked 3 (some .int) ∈ wU := wU_t3 (List.mem_of_getElem? (i := 38) rfl) rfl
theorem ul136 : Cond.methodLink RL 88 yX6_linked ∈ wU := wU_t4 (List.mem_of_getElem? (i := 189) rfl) rfl
theorem ul137 : Cond.instanceMethod yX6_linked ∈ wU := wU_t4 (List.mem_of_getElem? (i := 190) rfl) rfl
theorem ul138 : Cond.selects RX6 yX6_linked yX6_linked ∈ wU := wU_t4 (List.mem_of_getElem? (i := 191) rfl) rfl
theorem ul139 : Cond.code yX6_linked cX6_linked 3 (some .int) ∈ wU := wU_t4 (List.mem_of_getElem? (i := 192) rfl) rfl
theorem ul140 : Cond.methodLink RL 89 yX5_colours ∈ wU := wU_t3 (List.mem_of_getElem? (i := 43) rfl) rfl
theorem ul141 : Cond.instanceMethod yX5_colours ∈ wU := wU_t3 (List.mem_of_getElem? (i := 44) rfl) rfl
theorem ul142 : Cond.selects RX5 yX5_colours yX5_colours ∈ wU := wU_t3 (List.mem_of_getElem? (i := 45) rfl) rfl
theorem ul143 : Cond.code yX5_colours cX5_colours 2 (some .int) ∈ wU := wU_t3 (List.mem_of_getElem? (i := 46) rfl) rfl
theorem ul144 : Cond.methodLink RL 92 yX6_colours ∈ wU := wU_t4 (List.mem_of_getElem? (i := 66) rfl) rfl
theorem ul145 : Cond.instanceMethod yX6_colours ∈ wU := wU_t4 (List.mem_of_getElem? (i := 67) rfl) rfl
theorem ul146 : Cond.selects RX6 yX6_colours yX6_colours ∈ wU := wU_t4 (List.mem_of_getElem? (i := 68) rfl) rfl
theorem ul147 : Cond.code yX6_colours cX6_colours 5 (some .int) ∈ wU := wU_t4 (List.mem_of_getElem? (i := 69) rfl) rfl
theorem ul148 : Cond.methodLink RL 93 yX5_by ∈ wU := wU_t3 (List.mem_of_getElem? (i := 87) rfl) rfl
theorem ul149 : Cond.instanceMethod yX5_by ∈ wU := wU_t3 (List.mem_of_getElem? (i := 88) rfl) rfl
theorem ul150 : Cond.selects RX5 yX5_by yX5_by ∈ wU := wU_t3 (List.mem_of_getElem? (i := 89) rfl) rfl
theorem ul151 : Cond.code yX5_by cX5_by 4 (some .int) ∈ wU := wU_t3 (List.mem_of_getElem? (i := 90) rfl) rfl
theorem ul152 : Cond.methodLink RL 96 yX6_by ∈ wU := wU_t4 (List.mem_of_getElem? (i := 193) rfl) rfl
theorem ul153 : Cond.instanceMethod yX6_by ∈ wU := wU_t4 (List.mem_of_getElem? (i := 194) rfl) rfl
theorem ul154 : Cond.selects RX6 yX6_by yX6_by ∈ wU := wU_t4 (List.mem_of_getElem? (i := 195) rfl) rfl
theorem ul155 : Cond.code yX6_by cX6_by 4 (some .int) ∈ wU := wU_t4 (List.mem_of_getElem? (i := 196) rfl) rfl
theorem ul156 : Cond.methodLink RL 97 yX5_most ∈ wU := wU_t3 (List.mem_of_getElem? (i := 95) rfl) rfl
theorem ul157 : Cond.instanceMethod yX5_most ∈ wU := wU_t3 (List.mem_of_getElem? (i := 96) rfl) rfl
theorem ul158 : Cond.selects RX5 yX5_most yX5_most ∈ wU := wU_t3 (List.mem_of_getElem? (i := 97) rfl) rfl
theorem ul159 : Cond.code yX5_most cX5_most 6 (some .int) ∈ wU := wU_t3 (List.mem_of_getElem? (i := 98) rfl) rfl
theorem ul160 : Cond.methodLink RL 100 yX6_most ∈ wU := wU_t4 (List.mem_of_getElem? (i := 202) rfl) rfl
theorem ul161 : Cond.instanceMethod yX6_most ∈ wU := wU_t4 (List.mem_of_getElem? (i := 203) rfl) rfl
theorem ul162 : Cond.selects RX6 yX6_most yX6_most ∈ wU := wU_t4 (List.mem_of_getElem? (i := 204) rfl) rfl
theorem ul163 : Cond.code yX6_most cX6_most 6 (some .int) ∈ wU := wU_t4 (List.mem_of_getElem? (i := 205) rfl) rfl
theorem ul164 : Cond.methodLink RL 101 yX5_one ∈ wU := wU_t3 (List.mem_of_getElem? (i := 103) rfl) rfl
theorem ul165 : Cond.instanceMethod yX5_one ∈ wU := wU_t3 (List.mem_of_getElem? (i := 104) rfl) rfl
theorem ul166 : Cond.selects RX5 yX5_one yX5_one ∈ wU := wU_t3 (List.mem_of_getElem? (i := 105) rfl) rfl
theorem ul167 : Cond.code yX5_one cX5_one 1 (some .int) ∈ wU := wU_t3 (List.mem_of_getElem? (i := 106) rfl) rfl
theorem ul168 : Cond.methodLink RL 104 yX6_one ∈ wU := wU_t4 (List.mem_of_getElem? (i := 206) rfl) rfl
theorem ul169 : Cond.instanceMethod yX6_one ∈ wU := wU_t4 (List.mem_of_getElem? (i := 207) rfl) rfl
theorem ul170 : Cond.selects RX6 yX6_one yX6_one ∈ wU := wU_t4 (List.mem_of_getElem? (i := 208) rfl) rfl
theorem ul171 : Cond.code yX6_one cX6_one 1 (some .int) ∈ wU := wU_t4 (List.mem_of_getElem? (i := 209) rfl) rfl
theorem ul172 : Cond.methodLink RL 105 yX5_oneAt ∈ wU := wU_t3 (List.mem_of_getElem? (i := 107) rfl) rfl
theorem ul173 : Cond.instanceMethod yX5_oneAt ∈ wU := wU_t3 (List.mem_of_getElem? (i := 108) rfl) rfl
theorem ul174 : Cond.selects RX5 yX5_oneAt yX5_oneAt ∈ wU := wU_t3 (List.mem_of_getElem? (i := 109) rfl) rfl
theorem ul175 : Cond.code yX5_oneAt cX5_oneAt 2 (some .int) ∈ wU := wU_t3 (List.mem_of_getElem? (i := 110) rfl) rfl
theorem ul176 : Cond.methodLink RL 108 yX6_oneAt ∈ wU := wU_t4 (List.mem_of_getElem? (i := 214) rfl) rfl
theorem ul177 : Cond.instanceMethod yX6_oneAt ∈ wU := wU_t4 (List.mem_of_getElem? (i := 215) rfl) rfl
theorem ul178 : Cond.selects RX6 yX6_oneAt yX6_oneAt ∈ wU := wU_t4 (List.mem_of_getElem? (i := 216) rfl) rfl
theorem ul179 : Cond.code yX6_oneAt cX6_oneAt 2 (some .int) ∈ wU := wU_t4 (List.mem_of_getElem? (i := 217) rfl) rfl
theorem ul180 : Cond.methodLink RL 109 yX5_same ∈ wU := wU_t3 (List.mem_of_getElem? (i := 115) rfl) rfl
theorem ul181 : Cond.instanceMethod yX5_same ∈ wU := wU_t3 (List.mem_of_getElem? (i := 116) rfl) rfl
theorem ul182 : Cond.selects RX5 yX5_same yX5_same ∈ wU := wU_t3 (List.mem_of_getElem? (i := 117) rfl) rfl
theorem ul183 : Cond.code yX5_same cX5_same 2 (some .int) ∈ wU := wU_t3 (List.mem_of_getElem? (i := 118) rfl) rfl
theorem ul184 : Cond.methodLink RL 112 yX6_same ∈ wU := wU_t4 (List.mem_of_getElem? (i := 218) rfl) rfl
theorem ul185 : Cond.instanceMethod yX6_same ∈ wU := wU_t4 (List.mem_of_getElem? (i := 219) rfl) rfl
theorem ul186 : Cond.selects RX6 yX6_same yX6_same ∈ wU := wU_t4 (List.mem_of_getElem? (i := 220) rfl) rfl
theorem ul187 : Cond.code yX6_same cX6_same 12 (some .int) ∈ wU := wU_t4 (List.mem_of_getElem? (i := 221) rfl) rfl
theorem ul188 : Cond.methodLink RL 113 yX5_keep ∈ wU := wU_t3 (List.mem_of_getElem? (i := 136) rfl) rfl
theorem ul189 : Cond.instanceMethod yX5_keep ∈ wU := wU_t3 (List.mem_of_getElem? (i := 137) rfl) rfl
theorem ul190 : Cond.selects RX5 yX5_keep yX5_keep ∈ wU := wU_t3 (List.mem_of_getElem? (i := 138) rfl) rfl
theorem ul191 : Cond.code yX5_keep cX5_keep 3 (some .int) ∈ wU := wU_t3 (List.mem_of_getElem? (i := 139) rfl) rfl
theorem ul192 : Cond.methodLink RL 116 yX6_keep ∈ wU := wU_t4 (List.mem_of_getElem? (i := 223) rfl) rfl
theorem ul193 : Cond.instanceMethod yX6_keep ∈ wU := wU_t4 (List.mem_of_getElem? (i := 224) rfl) rfl
theorem ul194 : Cond.selects RX6 yX6_keep yX6_keep ∈ wU := wU_t4 (List.mem_of_getElem? (i := 225) rfl) rfl
theorem ul195 : Cond.code yX6_keep cX6_keep 3 (some .int) ∈ wU := wU_t4 (List.mem_of_getElem? (i := 226) rfl) rfl
theorem ul196 : Cond.methodLink RL 117 yX5_again ∈ wU := wU_t3 (List.mem_of_getElem? (i := 140) rfl) rfl
theorem ul197 : Cond.instanceMethod yX5_again ∈ wU := wU_t3 (List.mem_of_getElem? (i := 141) rfl) rfl
theorem ul198 : Cond.selects RX5 yX5_again yX5_again ∈ wU := wU_t3 (List.mem_of_getElem? (i := 142) rfl) rfl
theorem ul199 : Cond.code yX5_again cX5_again 3 (some .int) ∈ wU := wU_t3 (List.mem_of_getElem? (i := 143) rfl) rfl
theorem ul200 : Cond.methodLink RL 120 yX6_again ∈ wU := wU_t4 (List.mem_of_getElem? (i := 227) rfl) rfl
theorem ul201 : Cond.instanceMethod yX6_again ∈ wU := wU_t4 (List.mem_of_getElem? (i := 228) rfl) rfl
theorem ul202 : Cond.selects RX6 yX6_again yX6_again ∈ wU := wU_t4 (List.mem_of_getElem? (i := 229) rfl) rfl
theorem ul203 : Cond.code yX6_again cX6_again 3 (some .int) ∈ wU := wU_t4 (List.mem_of_getElem? (i := 230) rfl) rfl
set_option maxHeartbeats 4000000 in
set_option maxRecDepth 100000 in
theorem law_13 {p : Program} {l : Launch} {e : Env} {s : State} {m : MethodId} {below : List Frame} {meth : Method} {c : Code} {b L : Nat} {xs : Nat → Int32} {G : va_G} {cI cZ cP cJ : ClassId} {t1 t2 : Nat} {i : Int32} {cells slots : Nat} (C0 : lw_At p s m meth c b L xs) (hK : KK G [(cI, .int), (cZ, .boolean), (cP, .object RX3), (cJ, .array .int)] s) (hi : vp_in (i + 1) L ∧ vp_in (i + 2) L ∧ vp_in (i + 3) L ∧ vp_in (i + 4) L ∧ vp_in (i + 5) L ∧ vp_in (i + 6) L) (hc : cells + 4 ≤ 600000) (hs : slots + 295 ≤ 7302250) (kk : LI p l e s m below meth c b G cI cZ cP cJ t1 t2 i (cells + 4) (slots + 295) 881) : LI p l e s m below meth c b G cI cZ cP cJ t1 t2 i cells slots 579 := by
  intro Y ws wm H locs ls hY hC hM hP hD hS hl
  obtain ⟨hx, hb, hr, hml, hown, hts, hX, hbl, hlocks, hgv⟩ := id C0
  have hown : s.vm.findClass RL = some m.cls := hown
  have hA : ∀ q : Nat, s.heap.size ≤ q → (fun q : Nat => s.heap.size ≤ q) q := fun _ h => h
  have hbA : ¬ (fun q : Nat => s.heap.size ≤ q) b := Nat.not_le.mpr hbl
  rcases Decidable.em (xs (i + (2 : Int32)).toNatClampNeg = 0) with q0 | q0
  · refine lv_aload_n hx hb dL_law_579 rfl (lv_at hl 2 rfl) ?_
    refine lv_aload_n hx hb dL_law_580 rfl (lv_at hl 3 rfl) ?_
    refine lv_iload_n hx hb dL_law_581 rfl (lv_at hl 0 rfl) ?_
    refine lv_iconst (v := (1 : Int32)) hx hb dL_law_582 (by decide) ?_
    refine lv_iadd hx hb dL_law_583 ?_
    refine va_sld hx hb hX hbl hbA hS hi.1 dL_law_584 ?_
    refine lv_aload_n hx hb dL_law_585 rfl (lv_at hl 3 rfl) ?_
    refine lv_iload_n hx hb dL_law_586 rfl (lv_at hl 0 rfl) ?_
    refine lv_iconst (v := (2 : Int32)) hx hb dL_law_587 (by decide) ?_
    refine lv_iadd hx hb dL_law_588 ?_
    refine va_sld hx hb hX hbl hbA hS hi.2.1 dL_law_589 ?_
    refine lv_if_eq (tgt := 597) hx hb dL_law_590 (by decide) (fun _ => ?_) (fun n => absurd q0 n)
    refine lv_iconst (v := (0 : Int32)) hx hb dL_law_597 (by decide) ?_
    obtain ⟨kkr1, ffr1, eer1⟩ := hC.recv
    refine lcall (va_runV (As := [.int (xs (i + (1 : Int32)).toNatClampNeg), .int (bI false)]) (rest := []) ⟨hx, hb, hml, hown, hts⟩ (zX5_which hC hY (xs (i + (1 : Int32)).toNatClampNeg) (bI false) H.size) (cwV 2 hts (gInL (aV ul108 ul109 ul110 ul5 ul111)) rfl rfl rfl (by decide +kernel) ⟨Nat.le_of_ble_eq_true rfl, Nat.le_of_ble_eq_true rfl⟩) (pV hK (pm_Pl hP) (pm_Dl hD) (ci := 5) (q0 := kkr1) rfl eer1) rfl rfl hl.1 rfl (lv_room (Nat.le_of_ble_eq_true rfl)) dL_law_598 ⟨by show _ ≤ 600000; omega, by show _ ≤ 7302250; omega⟩) hP hD hS hA (fun r1 wsr1 H locs hQ hP hD hS => ?_)
    obtain ⟨e1, hC⟩ := hQ
    have hP := pm_P List.perm_append_comm hP
    have hD := pm_D List.perm_append_comm hD
    refine lv_aload_n hx hb dL_law_601 rfl (lv_at hl 1 rfl) ?_
    refine lv_aload_n hx hb dL_law_602 rfl (lv_at hl 3 rfl) ?_
    refine lv_iload_n hx hb dL_law_603 rfl (lv_at hl 0 rfl) ?_
    refine lv_iconst (v := (1 : Int32)) hx hb dL_law_604 (by decide) ?_
    refine lv_iadd hx hb dL_law_605 ?_
    refine va_sld hx hb hX hbl hbA hS hi.1 dL_law_606 ?_
    refine lv_aload_n hx hb dL_law_607 rfl (lv_at hl 3 rfl) ?_
    refine lv_iload_n hx hb dL_law_608 rfl (lv_at hl 0 rfl) ?_
    refine lv_iconst (v := (2 : Int32)) hx hb dL_law_609 (by decide) ?_
    refine lv_iadd hx hb dL_law_610 ?_
    refine va_sld hx hb hX hbl hbA hS hi.2.1 dL_law_611 ?_
    refine lv_if_eq (tgt := 619) hx hb dL_law_612 (by decide) (fun _ => ?_) (fun n => absurd q0 n)
    refine lv_iconst (v := (0 : Int32)) hx hb dL_law_619 (by decide) ?_
    obtain ⟨kkr2, ffr2, eer2⟩ := hM.recv
    refine lcall (va_runV (As := [.int (xs (i + (1 : Int32)).toNatClampNeg), .int (bI false)]) (rest := [.int r1]) ⟨hx, hb, hml, hown, hts⟩ (zX6_which hM hY (xs (i + (1 : Int32)).toNatClampNeg) false H.size) (cwV 2 hts (gInL (aV ul112 ul113 ul114 ul10 ul115)) rfl rfl rfl (by decide +kernel) ⟨Nat.le_of_ble_eq_true rfl, Nat.le_of_ble_eq_true rfl⟩) (pV hK (pm_Pl hP) (pm_Dl hD) (ci := 6) (q0 := kkr2) rfl eer2) rfl rfl hl.1 rfl (lv_room (Nat.le_of_ble_eq_true rfl)) dL_law_620 ⟨by show _ ≤ 600000; omega, by show _ ≤ 7302250; omega⟩) hP hD hS hA (fun r2 wsr2 H locs hQ hP hD hS => ?_)
    obtain ⟨e2, hM⟩ := hQ
    have hP := pm_P List.perm_append_comm hP
    have hD := pm_D List.perm_append_comm hD
    refine lv_icmp_eq (tgt := 881) hx hb dL_law_623 (by decide) (fun _ => ?_) (fun n => absurd (e1.trans e2.symm) n)
    refine W.widen (k := cells + 4) (n := slots + 295) (by omega) (by omega) ?_
    exact kk _ wsr1 wsr2 H locs ls hY hC hM hP hD hS hl
  · refine lv_aload_n hx hb dL_law_579 rfl (lv_at hl 2 rfl) ?_
    refine lv_aload_n hx hb dL_law_580 rfl (lv_at hl 3 rfl) ?_
    refine lv_iload_n hx hb dL_law_581 rfl (lv_at hl 0 rfl) ?_
    refine lv_iconst (v := (1 : Int32)) hx hb dL_law_582 (by decide) ?_
    refine lv_iadd hx hb dL_law_583 ?_
    refine va_sld hx hb hX hbl hbA hS hi.1 dL_law_584 ?_
    refine lv_aload_n hx hb dL_law_585 rfl (lv_at hl 3 rfl) ?_
    refine lv_iload_n hx hb dL_law_586 rfl (lv_at hl 0 rfl) ?_
    refine lv_iconst (v := (2 : Int32)) hx hb dL_law_587 (by decide) ?_
    refine lv_iadd hx hb dL_law_588 ?_
    refine va_sld hx hb hX hbl hbA hS hi.2.1 dL_law_589 ?_
    refine lv_if_eq (tgt := 597) hx hb dL_law_590 (by decide) (fun n => absurd n q0) (fun _ => ?_)
    refine lv_iconst (v := (1 : Int32)) hx hb dL_law_593 (by decide) ?_
    refine lv_goto (tgt := 598) hx hb dL_law_594 (by decide) ?_
    obtain ⟨kkr1, ffr1, eer1⟩ := hC.recv
    refine lcall (va_runV (As := [.int (xs (i + (1 : Int32)).toNatClampNeg), .int (bI true)]) (rest := []) ⟨hx, hb, hml, hown, hts⟩ (zX5_which hC hY (xs (i + (1 : Int32)).toNatClampNeg) (bI true) H.size) (cwV 2 hts (gInL (aV ul108 ul109 ul110 ul5 ul111)) rfl rfl rfl (by decide +kernel) ⟨Nat.le_of_ble_eq_true rfl, Nat.le_of_ble_eq_true rfl⟩) (pV hK (pm_Pl hP) (pm_Dl hD) (ci := 5) (q0 := kkr1) rfl eer1) rfl rfl hl.1 rfl (lv_room (Nat.le_of_ble_eq_true rfl)) dL_law_598 ⟨by show _ ≤ 600000; omega, by show _ ≤ 7302250; omega⟩) hP hD hS hA (fun r1 wsr1 H locs hQ hP hD hS => ?_)
    obtain ⟨e1, hC⟩ := hQ
    have hP := pm_P List.perm_append_comm hP
    have hD := pm_D List.perm_append_comm hD
    refine lv_aload_n hx hb dL_law_601 rfl (lv_at hl 1 rfl) ?_
    refine lv_aload_n hx hb dL_law_602 rfl (lv_at hl 3 rfl) ?_
    refine lv_iload_n hx hb dL_law_603 rfl (lv_at hl 0 rfl) ?_
    refine lv_iconst (v := (1 : Int32)) hx hb dL_law_604 (by decide) ?_
    refine lv_iadd hx hb dL_law_605 ?_
    refine va_sld hx hb hX hbl hbA hS hi.1 dL_law_606 ?_
    refine lv_aload_n hx hb dL_law_607 rfl (lv_at hl 3 rfl) ?_
    refine lv_iload_n hx hb dL_law_608 rfl (lv_at hl 0 rfl) ?_
    refine lv_iconst (v := (2 : Int32)) hx hb dL_law_609 (by decide) ?_
    refine lv_iadd hx hb dL_law_610 ?_
    refine va_sld hx hb hX hbl hbA hS hi.2.1 dL_law_611 ?_
    refine lv_if_eq (tgt := 619) hx hb dL_law_612 (by decide) (fun n => absurd n q0) (fun _ => ?_)
    refine lv_iconst (v := (1 : Int32)) hx hb dL_law_615 (by decide) ?_
    refine lv_goto (tgt := 620) hx hb dL_law_616 (by decide) ?_
    obtain ⟨kkr2, ffr2, eer2⟩ := hM.recv
    refine lcall (va_runV (As := [.int (xs (i + (1 : Int32)).toNatClampNeg), .int (bI true)]) (rest := [.int r1]) ⟨hx, hb, hml, hown, hts⟩ (zX6_which hM hY (xs (i + (1 : Int32)).toNatClampNeg) true H.size) (cwV 2 hts (gInL (aV ul112 ul113 ul114 ul10 ul115)) rfl rfl rfl (by decide +kernel) ⟨Nat.le_of_ble_eq_true rfl, Nat.le_of_ble_eq_true rfl⟩) (pV hK (pm_Pl hP) (pm_Dl hD) (ci := 6) (q0 := kkr2) rfl eer2) rfl rfl hl.1 rfl (lv_room (Nat.le_of_ble_eq_true rfl)) dL_law_620 ⟨by show _ ≤ 600000; omega, by show _ ≤ 7302250; omega⟩) hP hD hS hA (fun r2 wsr2 H locs hQ hP hD hS => ?_)
    obtain ⟨e2, hM⟩ := hQ
    have hP := pm_P List.perm_append_comm hP
    have hD := pm_D List.perm_append_comm hD
    refine lv_icmp_eq (tgt := 881) hx hb dL_law_623 (by decide) (fun _ => ?_) (fun n => absurd (e1.trans e2.symm) n)
    refine W.widen (k := cells + 4) (n := slots + 295) (by omega) (by omega) ?_
    exact kk _ wsr1 wsr2 H locs ls hY hC hM hP hD hS hl
set_option maxHeartbeats 4000000 in
set_option maxRecDepth 100000 in
theorem law_14 {p : Program} {l : Launch} {e : Env} {s : State} {m : MethodId} {below : List Frame} {meth : Method} {c : Code} {b L : Nat} {xs : Nat → Int32} {G : va_G} {cI cZ cP cJ : ClassId} {t1 t2 : Nat} {i : Int32} {cells slots : Nat} (C0 : lw_At p s m meth c b L xs) (hK : KK G [(cI, .int), (cZ, .boolean), (cP, .object RX3), (cJ, .array .int)] s) (hi : vp_in (i + 1) L ∧ vp_in (i + 2) L ∧ vp_in (i + 3) L ∧ vp_in (i + 4) L ∧ vp_in (i + 5) L ∧ vp_in (i + 6) L) (hc : cells + 4 ≤ 600000) (hs : slots + 295 ≤ 7302250) (kk : LI p l e s m below meth c b G cI cZ cP cJ t1 t2 i (cells + 4) (slots + 295) 881) : LI p l e s m below meth c b G cI cZ cP cJ t1 t2 i cells slots 628 := by
  intro Y ws wm H locs ls hY hC hM hP hD hS hl
  obtain ⟨hx, hb, hr, hml, hown, hts, hX, hbl, hlocks, hgv⟩ := id C0
  have hown : s.vm.findClass RL = some m.cls := hown
  have hA : ∀ q : Nat, s.heap.size ≤ q → (fun q : Nat => s.heap.size ≤ q) q := fun _ h => h
  have hbA : ¬ (fun q : Nat => s.heap.size ≤ q) b := Nat.not_le.mpr hbl
  refine lv_aload_n hx hb dL_law_628 rfl (lv_at hl 2 rfl) ?_
  refine lv_aload_n hx hb dL_law_629 rfl (lv_at hl 3 rfl) ?_
  refine lv_iload_n hx hb dL_law_630 rfl (lv_at hl 0 rfl) ?_
  refine lv_iconst (v := (1 : Int32)) hx hb dL_law_631 (by decide) ?_
  refine lv_iadd hx hb dL_law_632 ?_
  refine va_sld hx hb hX hbl hbA hS hi.1 dL_law_633 ?_
  obtain ⟨kkr1, ffr1, eer1⟩ := hC.recv
  refine lcall (va_runV (As := [.int (xs (i + (1 : Int32)).toNatClampNeg)]) (rest := []) ⟨hx, hb, hml, hown, hts⟩ (zX5_sign hC hY (xs (i + (1 : Int32)).toNatClampNeg) H.size) (cwV 1 hts (gInL (aV ul116 ul117 ul118 ul5 ul119)) rfl rfl rfl (by decide +kernel) ⟨Nat.le_of_ble_eq_true rfl, Nat.le_of_ble_eq_true rfl⟩) (pV hK (pm_Pl hP) (pm_Dl hD) (ci := 5) (q0 := kkr1) rfl eer1) rfl rfl hl.1 rfl (lv_room (Nat.le_of_ble_eq_true rfl)) dL_law_634 ⟨by show _ ≤ 600000; omega, by show _ ≤ 7302250; omega⟩) hP hD hS hA (fun r1 wsr1 H locs hQ hP hD hS => ?_)
  obtain ⟨e1, hC⟩ := hQ
  have hP := pm_P List.perm_append_comm hP
  have hD := pm_D List.perm_append_comm hD
  refine lv_aload_n hx hb dL_law_637 rfl (lv_at hl 1 rfl) ?_
  refine lv_aload_n hx hb dL_law_638 rfl (lv_at hl 3 rfl) ?_
  refine lv_iload_n hx hb dL_law_639 rfl (lv_at hl 0 rfl) ?_
  refine lv_iconst (v := (1 : Int32)) hx hb dL_law_640 (by decide) ?_
  refine lv_iadd hx hb dL_law_641 ?_
  refine va_sld hx hb hX hbl hbA hS hi.1 dL_law_642 ?_
  obtain ⟨kkr2, ffr2, eer2⟩ := hM.recv
  refine lcall (va_runV (As := [.int (xs (i + (1 : Int32)).toNatClampNeg)]) (rest := [.int r1]) ⟨hx, hb, hml, hown, hts⟩ (zX6_sign hM hY (xs (i + (1 : Int32)).toNatClampNeg) H.size) (cwV 1 hts (gInL (aV ul120 ul121 ul122 ul10 ul123)) rfl rfl rfl (by decide +kernel) ⟨Nat.le_of_ble_eq_true rfl, Nat.le_of_ble_eq_true rfl⟩) (pV hK (pm_Pl hP) (pm_Dl hD) (ci := 6) (q0 := kkr2) rfl eer2) rfl rfl hl.1 rfl (lv_room (Nat.le_of_ble_eq_true rfl)) dL_law_643 ⟨by show _ ≤ 600000; omega, by show _ ≤ 7302250; omega⟩) hP hD hS hA (fun r2 wsr2 H locs hQ hP hD hS => ?_)
  obtain ⟨e2, hM⟩ := hQ
  have hP := pm_P List.perm_append_comm hP
  have hD := pm_D List.perm_append_comm hD
  refine lv_icmp_eq (tgt := 881) hx hb dL_law_646 (by decide) (fun _ => ?_) (fun n => absurd (e1.trans e2.symm) n)
  refine W.widen (k := cells + 4) (n := slots + 295) (by omega) (by omega) ?_
  exact kk _ wsr1 wsr2 H locs ls hY hC hM hP hD hS hl
set_option maxHeartbeats 4000000 in
set_option maxRecDepth 100000 in
theorem law_15 {p : Program} {l : Launch} {e : Env} {s : State} {m : MethodId} {below : List Frame} {meth : Method} {c : Code} {b L : Nat} {xs : Nat → Int32} {G : va_G} {cI cZ cP cJ : ClassId} {t1 t2 : Nat} {i : Int32} {cells slots : Nat} (C0 : lw_At p s m meth c b L xs) (hK : KK G [(cI, .int), (cZ, .boolean), (cP, .object RX3), (cJ, .array .int)] s) (hi : vp_in (i + 1) L ∧ vp_in (i + 2) L ∧ vp_in (i + 3) L ∧ vp_in (i + 4) L ∧ vp_in (i + 5) L ∧ vp_in (i + 6) L) (hc : cells + 4 ≤ 600000) (hs : slots + 295 ≤ 7302250) (kk : LI p l e s m below meth c b G cI cZ cP cJ t1 t2 i (cells + 4) (slots + 295) 881) : LI p l e s m below meth c b G cI cZ cP cJ t1 t2 i cells slots 651 := by
  intro Y ws wm H locs ls hY hC hM hP hD hS hl
  obtain ⟨hx, hb, hr, hml, hown, hts, hX, hbl, hlocks, hgv⟩ := id C0
  have hown : s.vm.findClass RL = some m.cls := hown
  have hA : ∀ q : Nat, s.heap.size ≤ q → (fun q : Nat => s.heap.size ≤ q) q := fun _ h => h
  have hbA : ¬ (fun q : Nat => s.heap.size ≤ q) b := Nat.not_le.mpr hbl
  refine lv_aload_n hx hb dL_law_651 rfl (lv_at hl 2 rfl) ?_
  obtain ⟨kkr1, ffr1, eer1⟩ := hC.recv
  refine lcall (va_runV (As := []) (rest := []) ⟨hx, hb, hml, hown, hts⟩ (zX5_writhe hC hY  H.size) (cwV 0 hts (gInL (aV ul124 ul125 ul126 ul5 ul127)) rfl rfl rfl (by decide +kernel) ⟨Nat.le_of_ble_eq_true rfl, Nat.le_of_ble_eq_true rfl⟩) (pV hK (pm_Pl hP) (pm_Dl hD) (ci := 5) (q0 := kkr1) rfl eer1) rfl rfl hl.1 rfl (lv_room (Nat.le_of_ble_eq_true rfl)) dL_law_652 ⟨by show _ ≤ 600000; omega, by show _ ≤ 7302250; omega⟩) hP hD hS hA (fun r1 wsr1 H locs hQ hP hD hS => ?_)
  obtain ⟨e1, hC⟩ := hQ
  have hP := pm_P List.perm_append_comm hP
  have hD := pm_D List.perm_append_comm hD
  refine lv_aload_n hx hb dL_law_655 rfl (lv_at hl 1 rfl) ?_
  obtain ⟨kkr2, ffr2, eer2⟩ := hM.recv
  refine lcall (va_runV (As := []) (rest := [.int r1]) ⟨hx, hb, hml, hown, hts⟩ (zX6_writhe hM hY  H.size) (cwV 0 hts (gInL (aV ul128 ul129 ul130 ul10 ul131)) rfl rfl rfl (by decide +kernel) ⟨Nat.le_of_ble_eq_true rfl, Nat.le_of_ble_eq_true rfl⟩) (pV hK (pm_Pl hP) (pm_Dl hD) (ci := 6) (q0 := kkr2) rfl eer2) rfl rfl hl.1 rfl (lv_room (Nat.le_of_ble_eq_true rfl)) dL_law_656 ⟨by show _ ≤ 600000; omega, by show _ ≤ 7302250; omega⟩) hP hD hS hA (fun r2 wsr2 H locs hQ hP hD hS => ?_)
  obtain ⟨e2, hM⟩ := hQ
  have hP := pm_P List.perm_append_comm hP
  have hD := pm_D List.perm_append_comm hD
  refine lv_icmp_eq (tgt := 881) hx hb dL_law_659 (by decide) (fun _ => ?_) (fun n => absurd (e1.trans e2.symm) n)
  refine W.widen (k := cells + 4) (n := slots + 295) (by omega) (by omega) ?_
  exact kk _ wsr1 wsr2 H locs ls hY hC hM hP hD hS hl
set_option maxHeartbeats 4000000 in
set_option maxRecDepth 100000 in
theorem law_16 {p : Program} {l : Launch} {e : Env} {s : State} {m : MethodId} {below : List Frame} {meth : Method} {c : Code} {b L : Nat} {xs : Nat → Int32} {G : va_G} {cI cZ cP cJ : ClassId} {t1 t2 : Nat} {i : Int32} {cells slots : Nat} (C0 : lw_At p s m meth c b L xs) (hK : KK G [(cI, .int), (cZ, .boolean), (cP, .object RX3), (cJ, .array .int)] s) (hi : vp_in (i + 1) L ∧ vp_in (i + 2) L ∧ vp_in (i + 3) L ∧ vp_in (i + 4) L ∧ vp_in (i + 5) L ∧ vp_in (i + 6) L) (hc : cells + 4 ≤ 600000) (hs : slots + 295 ≤ 7302250) (kk : LI p l e s m below meth c b G cI cZ cP cJ t1 t2 i (cells + 4) (slots + 295) 881) : LI p l e s m below meth c b G cI cZ cP cJ t1 t2 i cells slots 664 := by
  intro Y ws wm H locs ls hY hC hM hP hD hS hl
  obtain ⟨hx, hb, hr, hml, hown, hts, hX, hbl, hlocks, hgv⟩ := id C0
  have hown : s.vm.findClass RL = some m.cls := hown
  have hA : ∀ q : Nat, s.heap.size ≤ q → (fun q : Nat => s.heap.size ≤ q) q := fun _ h => h
  have hbA : ¬ (fun q : Nat => s.heap.size ≤ q) b := Nat.not_le.mpr hbl
  refine lv_aload_n hx hb dL_law_664 rfl (lv_at hl 2 rfl) ?_
  refine lv_aload_n hx hb dL_law_665 rfl (lv_at hl 3 rfl) ?_
  refine lv_iload_n hx hb dL_law_666 rfl (lv_at hl 0 rfl) ?_
  refine lv_iconst (v := (1 : Int32)) hx hb dL_law_667 (by decide) ?_
  refine lv_iadd hx hb dL_law_668 ?_
  refine va_sld hx hb hX hbl hbA hS hi.1 dL_law_669 ?_
  refine lv_aload_n hx hb dL_law_670 rfl (lv_at hl 3 rfl) ?_
  refine lv_iload_n hx hb dL_law_671 rfl (lv_at hl 0 rfl) ?_
  refine lv_iconst (v := (2 : Int32)) hx hb dL_law_672 (by decide) ?_
  refine lv_iadd hx hb dL_law_673 ?_
  refine va_sld hx hb hX hbl hbA hS hi.2.1 dL_law_674 ?_
  obtain ⟨kkr1, ffr1, eer1⟩ := hC.recv
  refine lcall (va_runV (As := [.int (xs (i + (1 : Int32)).toNatClampNeg), .int (xs (i + (2 : Int32)).toNatClampNeg)]) (rest := []) ⟨hx, hb, hml, hown, hts⟩ (zX5_linked hC hY (xs (i + (1 : Int32)).toNatClampNeg) (xs (i + (2 : Int32)).toNatClampNeg) H.size) (cwV 2 hts (gInL (aV ul132 ul133 ul134 ul5 ul135)) rfl rfl rfl (by decide +kernel) ⟨Nat.le_of_ble_eq_true rfl, Nat.le_of_ble_eq_true rfl⟩) (pV hK (pm_Pl hP) (pm_Dl hD) (ci := 5) (q0 := kkr1) rfl eer1) rfl rfl hl.1 rfl (lv_room (Nat.le_of_ble_eq_true rfl)) dL_law_675 ⟨by show _ ≤ 600000; omega, by show _ ≤ 7302250; omega⟩) hP hD hS hA (fun r1 wsr1 H locs hQ hP hD hS => ?_)
  obtain ⟨e1, hC⟩ := hQ
  have hP := pm_P List.perm_append_comm hP
  have hD := pm_D List.perm_append_comm hD
  refine lv_aload_n hx hb dL_law_678 rfl (lv_at hl 1 rfl) ?_
  refine lv_aload_n hx hb dL_law_679 rfl (lv_at hl 3 rfl) ?_
  refine lv_iload_n hx hb dL_law_680 rfl (lv_at hl 0 rfl) ?_
  refine lv_iconst (v := (1 : Int32)) hx hb dL_law_681 (by decide) ?_
  refine lv_iadd hx hb dL_law_682 ?_
  refine va_sld hx hb hX hbl hbA hS hi.1 dL_law_683 ?_
  refine lv_aload_n hx hb dL_law_684 rfl (lv_at hl 3 rfl) ?_
  refine lv_iload_n hx hb dL_law_685 rfl (lv_at hl 0 rfl) ?_
  refine lv_iconst (v := (2 : Int32)) hx hb dL_law_686 (by decide) ?_
  refine lv_iadd hx hb dL_law_687 ?_
  refine va_sld hx hb hX hbl hbA hS hi.2.1 dL_law_688 ?_
  obtain ⟨kkr2, ffr2, eer2⟩ := hM.recv
  refine lcall (va_runV (As := [.int (xs (i + (1 : Int32)).toNatClampNeg), .int (xs (i + (2 : Int32)).toNatClampNeg)]) (rest := [.int r1]) ⟨hx, hb, hml, hown, hts⟩ (zX6_linked hM hY (xs (i + (1 : Int32)).toNatClampNeg) (xs (i + (2 : Int32)).toNatClampNeg) H.size) (cwV 2 hts (gInL (aV ul136 ul137 ul138 ul10 ul139)) rfl rfl rfl (by decide +kernel) ⟨Nat.le_of_ble_eq_true rfl, Nat.le_of_ble_eq_true rfl⟩) (pV hK (pm_Pl hP) (pm_Dl hD) (ci := 6) (q0 := kkr2) rfl eer2) rfl rfl hl.1 rfl (lv_room (Nat.le_of_ble_eq_true rfl)) dL_law_689 ⟨by show _ ≤ 600000; omega, by show _ ≤ 7302250; omega⟩) hP hD hS hA (fun r2 wsr2 H locs hQ hP hD hS => ?_)
  obtain ⟨e2, hM⟩ := hQ
  have hP := pm_P List.perm_append_comm hP
  have hD := pm_D List.perm_append_comm hD
  refine lv_icmp_eq (tgt := 881) hx hb dL_law_692 (by decide) (fun _ => ?_) (fun n => absurd (e1.trans e2.symm) n)
  refine W.widen (k := cells + 4) (n := slots + 295) (by omega) (by omega) ?_
  exact kk _ wsr1 wsr2 H locs ls hY hC hM hP hD hS hl
set_option maxHeartbeats 4000000 in
set_option maxRecDepth 100000 in
theorem law_17 {p : Program} {l : Launch} {e : Env} {s : State} {m : MethodId} {below : List Frame} {meth : Method} {c : Code} {b L : Nat} {xs : Nat → Int32} {G : va_G} {cI cZ cP cJ : ClassId} {t1 t2 : Nat} {i : Int32} {cells slots : Nat} (C0 : lw_At p s m meth c b L xs) (hK : KK G [(cI, .int), (cZ, .boolean), (cP, .object RX3), (cJ, .array .int)] s) (hi : vp_in (i + 1) L ∧ vp_in (i + 2) L ∧ vp_in (i + 3) L ∧ vp_in (i + 4) L ∧ vp_in (i + 5) L ∧ vp_in (i + 6) L) (hc : cells + 4 ≤ 600000) (hs : slots + 295 ≤ 7302250) (kk : LI p l e s m below meth c b G cI cZ cP cJ t1 t2 i (cells + 4) (slots + 295) 881) : LI p l e s m below meth c b G cI cZ cP cJ t1 t2 i cells slots 697 := by
  intro Y ws wm H locs ls hY hC hM hP hD hS hl
  obtain ⟨hx, hb, hr, hml, hown, hts, hX, hbl, hlocks, hgv⟩ := id C0
  have hown : s.vm.findClass RL = some m.cls := hown
  have hA : ∀ q : Nat, s.heap.size ≤ q → (fun q : Nat => s.heap.size ≤ q) q := fun _ h => h
  have hbA : ¬ (fun q : Nat => s.heap.size ≤ q) b := Nat.not_le.mpr hbl
  refine lv_aload_n hx hb dL_law_697 rfl (lv_at hl 2 rfl) ?_
  refine lv_aload_n hx hb dL_law_698 rfl (lv_at hl 3 rfl) ?_
  refine lv_iload_n hx hb dL_law_699 rfl (lv_at hl 0 rfl) ?_
  refine lv_iconst (v := (1 : Int32)) hx hb dL_law_700 (by decide) ?_
  refine lv_iadd hx hb dL_law_701 ?_
  refine va_sld hx hb hX hbl hbA hS hi.1 dL_law_702 ?_
  obtain ⟨kkr1, ffr1, eer1⟩ := hC.recv
  refine lcall (va_runV (As := [.int (xs (i + (1 : Int32)).toNatClampNeg)]) (rest := []) ⟨hx, hb, hml, hown, hts⟩ (zX5_colours hC hY (xs (i + (1 : Int32)).toNatClampNeg) H.size) (cwV 1 hts (gInL (aV ul140 ul141 ul142 ul5 ul143)) rfl rfl rfl (by decide +kernel) ⟨Nat.le_of_ble_eq_true rfl, Nat.le_of_ble_eq_true rfl⟩) (pV hK (pm_Pl hP) (pm_Dl hD) (ci := 5) (q0 := kkr1) rfl eer1) rfl rfl hl.1 rfl (lv_room (Nat.le_of_ble_eq_true rfl)) dL_law_703 ⟨by show _ ≤ 600000; omega, by show _ ≤ 7302250; omega⟩) hP hD hS hA (fun r1 wsr1 H locs hQ hP hD hS => ?_)
  obtain ⟨e1, hC⟩ := hQ
  have hP := pm_P List.perm_append_comm hP
  have hD := pm_D List.perm_append_comm hD
  refine lv_aload_n hx hb dL_law_706 rfl (lv_at hl 1 rfl) ?_
  refine lv_aload_n hx hb dL_law_707 rfl (lv_at hl 3 rfl) ?_
  refine lv_iload_n hx hb dL_law_708 rfl (lv_at hl 0 rfl) ?_
  refine lv_iconst (v := (1 : Int32)) hx hb dL_law_709 (by decide) ?_
  refine lv_iadd hx hb dL_law_710 ?_
  refine va_sld hx hb hX hbl hbA hS hi.1 dL_law_711 ?_
  obtain ⟨kkr2, ffr2, eer2⟩ := hM.recv
  refine lcall (va_runV (As := [.int (xs (i + (1 : Int32)).toNatClampNeg)]) (rest := [.int r1]) ⟨hx, hb, hml, hown, hts⟩ (zX6_colours hM hY (xs (i + (1 : Int32)).toNatClampNeg) H.size) (cwV 1 hts (gInL (aV ul144 ul145 ul146 ul10 ul147)) rfl rfl rfl (by decide +kernel) ⟨Nat.le_of_ble_eq_true rfl, Nat.le_of_ble_eq_true rfl⟩) (pV hK (pm_Pl hP) (pm_Dl hD) (ci := 6) (q0 := kkr2) rfl eer2) rfl rfl hl.1 rfl (lv_room (Nat.le_of_ble_eq_true rfl)) dL_law_712 ⟨by show _ ≤ 600000; omega, by show _ ≤ 7302250; omega⟩) hP hD hS hA (fun r2 wsr2 H locs hQ hP hD hS => ?_)
  obtain ⟨e2, hM⟩ := hQ
  have hP := pm_P List.perm_append_comm hP
  have hD := pm_D List.perm_append_comm hD
  refine lv_icmp_eq (tgt := 881) hx hb dL_law_715 (by decide) (fun _ => ?_) (fun n => absurd (e1.trans e2.symm) n)
  refine W.widen (k := cells + 4) (n := slots + 295) (by omega) (by omega) ?_
  exact kk _ wsr1 wsr2 H locs ls hY hC hM hP hD hS hl
set_option maxHeartbeats 4000000 in
set_option maxRecDepth 100000 in
theorem law_18 {p : Program} {l : Launch} {e : Env} {s : State} {m : MethodId} {below : List Frame} {meth : Method} {c : Code} {b L : Nat} {xs : Nat → Int32} {G : va_G} {cI cZ cP cJ : ClassId} {t1 t2 : Nat} {i : Int32} {cells slots : Nat} (C0 : lw_At p s m meth c b L xs) (hK : KK G [(cI, .int), (cZ, .boolean), (cP, .object RX3), (cJ, .array .int)] s) (hi : vp_in (i + 1) L ∧ vp_in (i + 2) L ∧ vp_in (i + 3) L ∧ vp_in (i + 4) L ∧ vp_in (i + 5) L ∧ vp_in (i + 6) L) (hc : cells + 4 ≤ 600000) (hs : slots + 295 ≤ 7302250) (kk : LI p l e s m below meth c b G cI cZ cP cJ t1 t2 i (cells + 4) (slots + 295) 881) : LI p l e s m below meth c b G cI cZ cP cJ t1 t2 i cells slots 720 := by
  intro Y ws wm H locs ls hY hC hM hP hD hS hl
  obtain ⟨hx, hb, hr, hml, hown, hts, hX, hbl, hlocks, hgv⟩ := id C0
  have hown : s.vm.findClass RL = some m.cls := hown
  have hA : ∀ q : Nat, s.heap.size ≤ q → (fun q : Nat => s.heap.size ≤ q) q := fun _ h => h
  have hbA : ¬ (fun q : Nat => s.heap.size ≤ q) b := Nat.not_le.mpr hbl
  refine lv_aload_n hx hb dL_law_720 rfl (lv_at hl 2 rfl) ?_
  refine lv_aload_n hx hb dL_law_721 rfl (lv_at hl 3 rfl) ?_
  refine lv_iload_n hx hb dL_law_722 rfl (lv_at hl 0 rfl) ?_
  refine lv_iconst (v := (1 : Int32)) hx hb dL_law_723 (by decide) ?_
  refine lv_iadd hx hb dL_law_724 ?_
  refine va_sld hx hb hX hbl hbA hS hi.1 dL_law_725 ?_
  refine lv_aload_n hx hb dL_law_726 rfl (lv_at hl 3 rfl) ?_
  refine lv_iload_n hx hb dL_law_727 rfl (lv_at hl 0 rfl) ?_
  refine lv_iconst (v := (2 : Int32)) hx hb dL_law_728 (by decide) ?_
  refine lv_iadd hx hb dL_law_729 ?_
  refine va_sld hx hb hX hbl hbA hS hi.2.1 dL_law_730 ?_
  obtain ⟨kkr1, ffr1, eer1⟩ := hC.recv
  refine lcall (va_runV (As := [.int (xs (i + (1 : Int32)).toNatClampNeg), .int (xs (i + (2 : Int32)).toNatClampNeg)]) (rest := []) ⟨hx, hb, hml, hown, hts⟩ (zX5_by hC hY (xs (i + (1 : Int32)).toNatClampNeg) (xs (i + (2 : Int32)).toNatClampNeg) H.size) (cwV 2 hts (gInL (aV ul148 ul149 ul150 ul5 ul151)) rfl rfl rfl (by decide +kernel) ⟨Nat.le_of_ble_eq_true rfl, Nat.le_of_ble_eq_true rfl⟩) (pV hK (pm_Pl hP) (pm_Dl hD) (ci := 5) (q0 := kkr1) rfl eer1) rfl rfl hl.1 rfl (lv_room (Nat.le_of_ble_eq_true rfl)) dL_law_731 ⟨by show _ ≤ 600000; omega, by show _ ≤ 7302250; omega⟩) hP hD hS hA (fun r1 wsr1 H locs hQ hP hD hS => ?_)
  obtain ⟨e1, hC⟩ := hQ
  have hP := pm_P List.perm_append_comm hP
  have hD := pm_D List.perm_append_comm hD
  refine lv_aload_n hx hb dL_law_734 rfl (lv_at hl 1 rfl) ?_
  refine lv_aload_n hx hb dL_law_735 rfl (lv_at hl 3 rfl) ?_
  refine lv_iload_n hx hb dL_law_736 rfl (lv_at hl 0 rfl) ?_
  refine lv_iconst (v := (1 : Int32)) hx hb dL_law_737 (by decide) ?_
  refine lv_iadd hx hb dL_law_738 ?_
  refine va_sld hx hb hX hbl hbA hS hi.1 dL_law_739 ?_
  refine lv_aload_n hx hb dL_law_740 rfl (lv_at hl 3 rfl) ?_
  refine lv_iload_n hx hb dL_law_741 rfl (lv_at hl 0 rfl) ?_
  refine lv_iconst (v := (2 : Int32)) hx hb dL_law_742 (by decide) ?_
  refine lv_iadd hx hb dL_law_743 ?_
  refine va_sld hx hb hX hbl hbA hS hi.2.1 dL_law_744 ?_
  obtain ⟨kkr2, ffr2, eer2⟩ := hM.recv
  refine lcall (va_runV (As := [.int (xs (i + (1 : Int32)).toNatClampNeg), .int (xs (i + (2 : Int32)).toNatClampNeg)]) (rest := [.int r1]) ⟨hx, hb, hml, hown, hts⟩ (zX6_by hM hY (xs (i + (1 : Int32)).toNatClampNeg) (xs (i + (2 : Int32)).toNatClampNeg) H.size) (cwV 2 hts (gInL (aV ul152 ul153 ul154 ul10 ul155)) rfl rfl rfl (by decide +kernel) ⟨Nat.le_of_ble_eq_true rfl, Nat.le_of_ble_eq_true rfl⟩) (pV hK (pm_Pl hP) (pm_Dl hD) (ci := 6) (q0 := kkr2) rfl eer2) rfl rfl hl.1 rfl (lv_room (Nat.le_of_ble_eq_true rfl)) dL_law_745 ⟨by show _ ≤ 600000; omega, by show _ ≤ 7302250; omega⟩) hP hD hS hA (fun r2 wsr2 H locs hQ hP hD hS => ?_)
  obtain ⟨e2, hM⟩ := hQ
  have hP := pm_P List.perm_append_comm hP
  have hD := pm_D List.perm_append_comm hD
  refine lv_icmp_eq (tgt := 881) hx hb dL_law_748 (by decide) (fun _ => ?_) (fun n => absurd (e1.trans e2.symm) n)
  refine W.widen (k := cells + 4) (n := slots + 295) (by omega) (by omega) ?_
  exact kk _ wsr1 wsr2 H locs ls hY hC hM hP hD hS hl
set_option maxHeartbeats 4000000 in
set_option maxRecDepth 100000 in
theorem law_19 {p : Program} {l : Launch} {e : Env} {s : State} {m : MethodId} {below : List Frame} {meth : Method} {c : Code} {b L : Nat} {xs : Nat → Int32} {G : va_G} {cI cZ cP cJ : ClassId} {t1 t2 : Nat} {i : Int32} {cells slots : Nat} (C0 : lw_At p s m meth c b L xs) (hK : KK G [(cI, .int), (cZ, .boolean), (cP, .object RX3), (cJ, .array .int)] s) (hi : vp_in (i + 1) L ∧ vp_in (i + 2) L ∧ vp_in (i + 3) L ∧ vp_in (i + 4) L ∧ vp_in (i + 5) L ∧ vp_in (i + 6) L) (hc : cells + 4 ≤ 600000) (hs : slots + 295 ≤ 7302250) (kk : LI p l e s m below meth c b G cI cZ cP cJ t1 t2 i (cells + 4) (slots + 295) 881) : LI p l e s m below meth c b G cI cZ cP cJ t1 t2 i cells slots 753 := by
  intro Y ws wm H locs ls hY hC hM hP hD hS hl
  obtain ⟨hx, hb, hr, hml, hown, hts, hX, hbl, hlocks, hgv⟩ := id C0
  have hown : s.vm.findClass RL = some m.cls := hown
  have hA : ∀ q : Nat, s.heap.size ≤ q → (fun q : Nat => s.heap.size ≤ q) q := fun _ h => h
  have hbA : ¬ (fun q : Nat => s.heap.size ≤ q) b := Nat.not_le.mpr hbl
  refine lv_aload_n hx hb dL_law_753 rfl (lv_at hl 2 rfl) ?_
  refine lv_aload_n hx hb dL_law_754 rfl (lv_at hl 3 rfl) ?_
  refine lv_iload_n hx hb dL_law_755 rfl (lv_at hl 0 rfl) ?_
  refine lv_iconst (v := (1 : Int32)) hx hb dL_law_756 (by decide) ?_
  refine lv_iadd hx hb dL_law_757 ?_
  refine va_sld hx hb hX hbl hbA hS hi.1 dL_law_758 ?_
  obtain ⟨kkr1, ffr1, eer1⟩ := hC.recv
  refine lcall (va_runV (As := [.int (xs (i + (1 : Int32)).toNatClampNeg)]) (rest := []) ⟨hx, hb, hml, hown, hts⟩ (zX5_most hC hY (xs (i + (1 : Int32)).toNatClampNeg) H.size) (cwV 1 hts (gInL (aV ul156 ul157 ul158 ul5 ul159)) rfl rfl rfl (by decide +kernel) ⟨Nat.le_of_ble_eq_true rfl, Nat.le_of_ble_eq_true rfl⟩) (pV hK (pm_Pl hP) (pm_Dl hD) (ci := 5) (q0 := kkr1) rfl eer1) rfl rfl hl.1 rfl (lv_room (Nat.le_of_ble_eq_true rfl)) dL_law_759 ⟨by show _ ≤ 600000; omega, by show _ ≤ 7302250; omega⟩) hP hD hS hA (fun r1 wsr1 H locs hQ hP hD hS => ?_)
  obtain ⟨e1, hC⟩ := hQ
  have hP := pm_P List.perm_append_comm hP
  have hD := pm_D List.perm_append_comm hD
  refine lv_aload_n hx hb dL_law_762 rfl (lv_at hl 1 rfl) ?_
  refine lv_aload_n hx hb dL_law_763 rfl (lv_at hl 3 rfl) ?_
  refine lv_iload_n hx hb dL_law_764 rfl (lv_at hl 0 rfl) ?_
  refine lv_iconst (v := (1 : Int32)) hx hb dL_law_765 (by decide) ?_
  refine lv_iadd hx hb dL_law_766 ?_
  refine va_sld hx hb hX hbl hbA hS hi.1 dL_law_767 ?_
  obtain ⟨kkr2, ffr2, eer2⟩ := hM.recv
  refine lcall (va_runV (As := [.int (xs (i + (1 : Int32)).toNatClampNeg)]) (rest := [.int r1]) ⟨hx, hb, hml, hown, hts⟩ (zX6_most hM hY (xs (i + (1 : Int32)).toNatClampNeg) H.size) (cwV 1 hts (gInL (aV ul160 ul161 ul162 ul10 ul163)) rfl rfl rfl (by decide +kernel) ⟨Nat.le_of_ble_eq_true rfl, Nat.le_of_ble_eq_true rfl⟩) (pV hK (pm_Pl hP) (pm_Dl hD) (ci := 6) (q0 := kkr2) rfl eer2) rfl rfl hl.1 rfl (lv_room (Nat.le_of_ble_eq_true rfl)) dL_law_768 ⟨by show _ ≤ 600000; omega, by show _ ≤ 7302250; omega⟩) hP hD hS hA (fun r2 wsr2 H locs hQ hP hD hS => ?_)
  obtain ⟨e2, hM⟩ := hQ
  have hP := pm_P List.perm_append_comm hP
  have hD := pm_D List.perm_append_comm hD
  refine lv_icmp_eq (tgt := 881) hx hb dL_law_771 (by decide) (fun _ => ?_) (fun n => absurd (e1.trans e2.symm) n)
  refine W.widen (k := cells + 4) (n := slots + 295) (by omega) (by omega) ?_
  exact kk _ wsr1 wsr2 H locs ls hY hC hM hP hD hS hl
set_option maxHeartbeats 4000000 in
set_option maxRecDepth 100000 in
theorem law_20 {p : Program} {l : Launch} {e : Env} {s : State} {m : MethodId} {below : List Frame} {meth : Method} {c : Code} {b L : Nat} {xs : Nat → Int32} {G : va_G} {cI cZ cP cJ : ClassId} {t1 t2 : Nat} {i : Int32} {cells slots : Nat} (C0 : lw_At p s m meth c b L xs) (hK : KK G [(cI, .int), (cZ, .boolean), (cP, .object RX3), (cJ, .array .int)] s) (hi : vp_in (i + 1) L ∧ vp_in (i + 2) L ∧ vp_in (i + 3) L ∧ vp_in (i + 4) L ∧ vp_in (i + 5) L ∧ vp_in (i + 6) L) (hc : cells + 4 ≤ 600000) (hs : slots + 295 ≤ 7302250) (kk : LI p l e s m below meth c b G cI cZ cP cJ t1 t2 i (cells + 4) (slots + 295) 881) : LI p l e s m below meth c b G cI cZ cP cJ t1 t2 i cells slots 776 := by
  intro Y ws wm H locs ls hY hC hM hP hD hS hl
  obtain ⟨hx, hb, hr, hml, hown, hts, hX, hbl, hlocks, hgv⟩ := id C0
  have hown : s.vm.findClass RL = some m.cls := hown
  have hA : ∀ q : Nat, s.heap.size ≤ q → (fun q : Nat => s.heap.size ≤ q) q := fun _ h => h
  have hbA : ¬ (fun q : Nat => s.heap.size ≤ q) b := Nat.not_le.mpr hbl
  refine lv_aload_n hx hb dL_law_776 rfl (lv_at hl 2 rfl) ?_
  obtain ⟨kkr1, ffr1, eer1⟩ := hC.recv
  refine lcall (va_runV (As := []) (rest := []) ⟨hx, hb, hml, hown, hts⟩ (zX5_one hC hY  H.size) (cwV 0 hts (gInL (aV ul164 ul165 ul166 ul5 ul167)) rfl rfl rfl (by decide +kernel) ⟨Nat.le_of_ble_eq_true rfl, Nat.le_of_ble_eq_true rfl⟩) (pV hK (pm_Pl hP) (pm_Dl hD) (ci := 5) (q0 := kkr1) rfl eer1) rfl rfl hl.1 rfl (lv_room (Nat.le_of_ble_eq_true rfl)) dL_law_777 ⟨by show _ ≤ 600000; omega, by show _ ≤ 7302250; omega⟩) hP hD hS hA (fun r1 wsr1 H locs hQ hP hD hS => ?_)
  obtain ⟨e1, hC⟩ := hQ
  have hP := pm_P List.perm_append_comm hP
  have hD := pm_D List.perm_append_comm hD
  refine lv_aload_n hx hb dL_law_780 rfl (lv_at hl 1 rfl) ?_
  obtain ⟨kkr2, ffr2, eer2⟩ := hM.recv
  refine lcall (va_runV (As := []) (rest := [.int r1]) ⟨hx, hb, hml, hown, hts⟩ (zX6_one hM hY  H.size) (cwV 0 hts (gInL (aV ul168 ul169 ul170 ul10 ul171)) rfl rfl rfl (by decide +kernel) ⟨Nat.le_of_ble_eq_true rfl, Nat.le_of_ble_eq_true rfl⟩) (pV hK (pm_Pl hP) (pm_Dl hD) (ci := 6) (q0 := kkr2) rfl eer2) rfl rfl hl.1 rfl (lv_room (Nat.le_of_ble_eq_true rfl)) dL_law_781 ⟨by show _ ≤ 600000; omega, by show _ ≤ 7302250; omega⟩) hP hD hS hA (fun r2 wsr2 H locs hQ hP hD hS => ?_)
  obtain ⟨e2, hM⟩ := hQ
  have hP := pm_P List.perm_append_comm hP
  have hD := pm_D List.perm_append_comm hD
  refine lv_icmp_eq (tgt := 881) hx hb dL_law_784 (by decide) (fun _ => ?_) (fun n => absurd (e1.trans e2.symm) n)
  refine W.widen (k := cells + 4) (n := slots + 295) (by omega) (by omega) ?_
  exact kk _ wsr1 wsr2 H locs ls hY hC hM hP hD hS hl
set_option maxHeartbeats 4000000 in
set_option maxRecDepth 100000 in
theorem law_21 {p : Program} {l : Launch} {e : Env} {s : State} {m : MethodId} {below : List Frame} {meth : Method} {c : Code} {b L : Nat} {xs : Nat → Int32} {G : va_G} {cI cZ cP cJ : ClassId} {t1 t2 : Nat} {i : Int32} {cells slots : Nat} (C0 : lw_At p s m meth c b L xs) (hK : KK G [(cI, .int), (cZ, .boolean), (cP, .object RX3), (cJ, .array .int)] s) (hi : vp_in (i + 1) L ∧ vp_in (i + 2) L ∧ vp_in (i + 3) L ∧ vp_in (i + 4) L ∧ vp_in (i + 5) L ∧ vp_in (i + 6) L) (hc : cells + 4 ≤ 600000) (hs : slots + 295 ≤ 7302250) (kk : LI p l e s m below meth c b G cI cZ cP cJ t1 t2 i (cells + 4) (slots + 295) 881) : LI p l e s m below meth c b G cI cZ cP cJ t1 t2 i cells slots 789 := by
  intro Y ws wm H locs ls hY hC hM hP hD hS hl
  obtain ⟨hx, hb, hr, hml, hown, hts, hX, hbl, hlocks, hgv⟩ := id C0
  have hown : s.vm.findClass RL = some m.cls := hown
  have hA : ∀ q : Nat, s.heap.size ≤ q → (fun q : Nat => s.heap.size ≤ q) q := fun _ h => h
  have hbA : ¬ (fun q : Nat => s.heap.size ≤ q) b := Nat.not_le.mpr hbl
  refine lv_aload_n hx hb dL_law_789 rfl (lv_at hl 2 rfl) ?_
  refine lv_aload_n hx hb dL_law_790 rfl (lv_at hl 3 rfl) ?_
  refine lv_iload_n hx hb dL_law_791 rfl (lv_at hl 0 rfl) ?_
  refine lv_iconst (v := (1 : Int32)) hx hb dL_law_792 (by decide) ?_
  refine lv_iadd hx hb dL_law_793 ?_
  refine va_sld hx hb hX hbl hbA hS hi.1 dL_law_794 ?_
  obtain ⟨kkr1, ffr1, eer1⟩ := hC.recv
  refine lcall (va_runV (As := [.int (xs (i + (1 : Int32)).toNatClampNeg)]) (rest := []) ⟨hx, hb, hml, hown, hts⟩ (zX5_oneAt hC hY (xs (i + (1 : Int32)).toNatClampNeg) H.size) (cwV 1 hts (gInL (aV ul172 ul173 ul174 ul5 ul175)) rfl rfl rfl (by decide +kernel) ⟨Nat.le_of_ble_eq_true rfl, Nat.le_of_ble_eq_true rfl⟩) (pV hK (pm_Pl hP) (pm_Dl hD) (ci := 5) (q0 := kkr1) rfl eer1) rfl rfl hl.1 rfl (lv_room (Nat.le_of_ble_eq_true rfl)) dL_law_795 ⟨by show _ ≤ 600000; omega, by show _ ≤ 7302250; omega⟩) hP hD hS hA (fun r1 wsr1 H locs hQ hP hD hS => ?_)
  obtain ⟨e1, hC⟩ := hQ
  have hP := pm_P List.perm_append_comm hP
  have hD := pm_D List.perm_append_comm hD
  refine lv_aload_n hx hb dL_law_798 rfl (lv_at hl 1 rfl) ?_
  refine lv_aload_n hx hb dL_law_799 rfl (lv_at hl 3 rfl) ?_
  refine lv_iload_n hx hb dL_law_800 rfl (lv_at hl 0 rfl) ?_
  refine lv_iconst (v := (1 : Int32)) hx hb dL_law_801 (by decide) ?_
  refine lv_iadd hx hb dL_law_802 ?_
  refine va_sld hx hb hX hbl hbA hS hi.1 dL_law_803 ?_
  obtain ⟨kkr2, ffr2, eer2⟩ := hM.recv
  refine lcall (va_runV (As := [.int (xs (i + (1 : Int32)).toNatClampNeg)]) (rest := [.int r1]) ⟨hx, hb, hml, hown, hts⟩ (zX6_oneAt hM hY (xs (i + (1 : Int32)).toNatClampNeg) H.size) (cwV 1 hts (gInL (aV ul176 ul177 ul178 ul10 ul179)) rfl rfl rfl (by decide +kernel) ⟨Nat.le_of_ble_eq_true rfl, Nat.le_of_ble_eq_true rfl⟩) (pV hK (pm_Pl hP) (pm_Dl hD) (ci := 6) (q0 := kkr2) rfl eer2) rfl rfl hl.1 rfl (lv_room (Nat.le_of_ble_eq_true rfl)) dL_law_804 ⟨by show _ ≤ 600000; omega, by show _ ≤ 7302250; omega⟩) hP hD hS hA (fun r2 wsr2 H locs hQ hP hD hS => ?_)
  obtain ⟨e2, hM⟩ := hQ
  have hP := pm_P List.perm_append_comm hP
  have hD := pm_D List.perm_append_comm hD
  refine lv_icmp_eq (tgt := 881) hx hb dL_law_807 (by decide) (fun _ => ?_) (fun n => absurd (e1.trans e2.symm) n)
  refine W.widen (k := cells + 4) (n := slots + 295) (by omega) (by omega) ?_
  exact kk _ wsr1 wsr2 H locs ls hY hC hM hP hD hS hl
set_option maxHeartbeats 4000000 in
set_option maxRecDepth 100000 in
theorem law_22 {p : Program} {l : Launch} {e : Env} {s : State} {m : MethodId} {below : List Frame} {meth : Method} {c : Code} {b L : Nat} {xs : Nat → Int32} {G : va_G} {cI cZ cP cJ : ClassId} {t1 t2 : Nat} {i : Int32} {cells slots : Nat} (C0 : lw_At p s m meth c b L xs) (hK : KK G [(cI, .int), (cZ, .boolean), (cP, .object RX3), (cJ, .array .int)] s) (hi : vp_in (i + 1) L ∧ vp_in (i + 2) L ∧ vp_in (i + 3) L ∧ vp_in (i + 4) L ∧ vp_in (i + 5) L ∧ vp_in (i + 6) L) (hc : cells + 4 ≤ 600000) (hs : slots + 295 ≤ 7302250) (kk : LI p l e s m below meth c b G cI cZ cP cJ t1 t2 i (cells + 4) (slots + 295) 881) : LI p l e s m below meth c b G cI cZ cP cJ t1 t2 i cells slots 812 := by
  intro Y ws wm H locs ls hY hC hM hP hD hS hl
  obtain ⟨hx, hb, hr, hml, hown, hts, hX, hbl, hlocks, hgv⟩ := id C0
  have hown : s.vm.findClass RL = some m.cls := hown
  have hA : ∀ q : Nat, s.heap.size ≤ q → (fun q : Nat => s.heap.size ≤ q) q := fun _ h => h
  have hbA : ¬ (fun q : Nat => s.heap.size ≤ q) b := Nat.not_le.mpr hbl
  refine lv_aload_n hx hb dL_law_812 rfl (lv_at hl 2 rfl) ?_
  refine lv_aload_n hx hb dL_law_813 rfl (lv_at hl 3 rfl) ?_
  refine lv_iload_n hx hb dL_law_814 rfl (lv_at hl 0 rfl) ?_
  refine lv_iconst (v := (1 : Int32)) hx hb dL_law_815 (by decide) ?_
  refine lv_iadd hx hb dL_law_816 ?_
  refine va_sld hx hb hX hbl hbA hS hi.1 dL_law_817 ?_
  obtain ⟨kkr1, ffr1, eer1⟩ := hC.recv
  refine lcall (va_runV (As := [.int (xs (i + (1 : Int32)).toNatClampNeg)]) (rest := []) ⟨hx, hb, hml, hown, hts⟩ (zX5_same hC hY (xs (i + (1 : Int32)).toNatClampNeg) H.size) (cwV 1 hts (gInL (aV ul180 ul181 ul182 ul5 ul183)) rfl rfl rfl (by decide +kernel) ⟨Nat.le_of_ble_eq_true rfl, Nat.le_of_ble_eq_true rfl⟩) (pV hK (pm_Pl hP) (pm_Dl hD) (ci := 5) (q0 := kkr1) rfl eer1) rfl rfl hl.1 rfl (lv_room (Nat.le_of_ble_eq_true rfl)) dL_law_818 ⟨by show _ ≤ 600000; omega, by show _ ≤ 7302250; omega⟩) hP hD hS hA (fun r1 wsr1 H locs hQ hP hD hS => ?_)
  obtain ⟨e1, hC⟩ := hQ
  have hP := pm_P List.perm_append_comm hP
  have hD := pm_D List.perm_append_comm hD
  refine lv_aload_n hx hb dL_law_821 rfl (lv_at hl 1 rfl) ?_
  refine lv_aload_n hx hb dL_law_822 rfl (lv_at hl 3 rfl) ?_
  refine lv_iload_n hx hb dL_law_823 rfl (lv_at hl 0 rfl) ?_
  refine lv_iconst (v := (1 : Int32)) hx hb dL_law_824 (by decide) ?_
  refine lv_iadd hx hb dL_law_825 ?_
  refine va_sld hx hb hX hbl hbA hS hi.1 dL_law_826 ?_
  obtain ⟨kkr2, ffr2, eer2⟩ := hM.recv
  refine lcall (va_runV (As := [.int (xs (i + (1 : Int32)).toNatClampNeg)]) (rest := [.int r1]) ⟨hx, hb, hml, hown, hts⟩ (zX6_same hM hY (xs (i + (1 : Int32)).toNatClampNeg) H.size) (cwV 1 hts (gInL (aV ul184 ul185 ul186 ul10 ul187)) rfl rfl rfl (by decide +kernel) ⟨Nat.le_of_ble_eq_true rfl, Nat.le_of_ble_eq_true rfl⟩) (pV hK (pm_Pl hP) (pm_Dl hD) (ci := 6) (q0 := kkr2) rfl eer2) rfl rfl hl.1 rfl (lv_room (Nat.le_of_ble_eq_true rfl)) dL_law_827 ⟨by show _ ≤ 600000; omega, by show _ ≤ 7302250; omega⟩) hP hD hS hA (fun r2 wsr2 H locs hQ hP hD hS => ?_)
  obtain ⟨e2, hM⟩ := hQ
  have hP := pm_P List.perm_append_comm hP
  have hD := pm_D List.perm_append_comm hD
  refine lv_icmp_eq (tgt := 881) hx hb dL_law_830 (by decide) (fun _ => ?_) (fun n => absurd (e1.trans e2.symm) n)
  refine W.widen (k := cells + 4) (n := slots + 295) (by omega) (by omega) ?_
  exact kk _ wsr1 wsr2 H locs ls hY hC hM hP hD hS hl
set_option maxHeartbeats 4000000 in
set_option maxRecDepth 100000 in
theorem law_23 {p : Program} {l : Launch} {e : Env} {s : State} {m : MethodId} {below : List Frame} {meth : Method} {c : Code} {b L : Nat} {xs : Nat → Int32} {G : va_G} {cI cZ cP cJ : ClassId} {t1 t2 : Nat} {i : Int32} {cells slots : Nat} (C0 : lw_At p s m meth c b L xs) (hK : KK G [(cI, .int), (cZ, .boolean), (cP, .object RX3), (cJ, .array .int)] s) (hi : vp_in (i + 1) L ∧ vp_in (i + 2) L ∧ vp_in (i + 3) L ∧ vp_in (i + 4) L ∧ vp_in (i + 5) L ∧ vp_in (i + 6) L) (hc : cells + 4 ≤ 600000) (hs : slots + 295 ≤ 7302250) (kk : LI p l e s m below meth c b G cI cZ cP cJ t1 t2 i (cells + 4) (slots + 295) 881) : LI p l e s m below meth c b G cI cZ cP cJ t1 t2 i cells slots 835 := by
  intro Y ws wm H locs ls hY hC hM hP hD hS hl
  obtain ⟨hx, hb, hr, hml, hown, hts, hX, hbl, hlocks, hgv⟩ := id C0
  have hown : s.vm.findClass RL = some m.cls := hown
  have hA : ∀ q : Nat, s.heap.size ≤ q → (fun q : Nat => s.heap.size ≤ q) q := fun _ h => h
  have hbA : ¬ (fun q : Nat => s.heap.size ≤ q) b := Nat.not_le.mpr hbl
  refine lv_aload_n hx hb dL_law_835 rfl (lv_at hl 2 rfl) ?_
  refine lv_aload_n hx hb dL_law_836 rfl (lv_at hl 3 rfl) ?_
  refine lv_iload_n hx hb dL_law_837 rfl (lv_at hl 0 rfl) ?_
  refine lv_iconst (v := (1 : Int32)) hx hb dL_law_838 (by decide) ?_
  refine lv_iadd hx hb dL_law_839 ?_
  refine va_sld hx hb hX hbl hbA hS hi.1 dL_law_840 ?_
  obtain ⟨kkr1, ffr1, eer1⟩ := hC.recv
  refine lcall (va_runV (As := [.int (xs (i + (1 : Int32)).toNatClampNeg)]) (rest := []) ⟨hx, hb, hml, hown, hts⟩ (zX5_keep hC hY (xs (i + (1 : Int32)).toNatClampNeg) H.size) (cwV 1 hts (gInL (aV ul188 ul189 ul190 ul5 ul191)) rfl rfl rfl (by decide +kernel) ⟨Nat.le_of_ble_eq_true rfl, Nat.le_of_ble_eq_true rfl⟩) (pV hK (pm_Pl hP) (pm_Dl hD) (ci := 5) (q0 := kkr1) rfl eer1) rfl rfl hl.1 rfl (lv_room (Nat.le_of_ble_eq_true rfl)) dL_law_841 ⟨by show _ ≤ 600000; omega, by show _ ≤ 7302250; omega⟩) hP hD hS hA (fun r1 wsr1 H locs hQ hP hD hS => ?_)
  obtain ⟨e1, hC⟩ := hQ
  have hP := pm_P List.perm_append_comm hP
  have hD := pm_D List.perm_append_comm hD
  refine lv_aload_n hx hb dL_law_844 rfl (lv_at hl 1 rfl) ?_
  refine lv_aload_n hx hb dL_law_845 rfl (lv_at hl 3 rfl) ?_
  refine lv_iload_n hx hb dL_law_846 rfl (lv_at hl 0 rfl) ?_
  refine lv_iconst (v := (1 : Int32)) hx hb dL_law_847 (by decide) ?_
  refine lv_iadd hx hb dL_law_848 ?_
  refine va_sld hx hb hX hbl hbA hS hi.1 dL_law_849 ?_
  obtain ⟨kkr2, ffr2, eer2⟩ := hM.recv
  refine lcall (va_runV (As := [.int (xs (i + (1 : Int32)).toNatClampNeg)]) (rest := [.int r1]) ⟨hx, hb, hml, hown, hts⟩ (zX6_keep hM hY (xs (i + (1 : Int32)).toNatClampNeg) H.size) (cwV 1 hts (gInL (aV ul192 ul193 ul194 ul10 ul195)) rfl rfl rfl (by decide +kernel) ⟨Nat.le_of_ble_eq_true rfl, Nat.le_of_ble_eq_true rfl⟩) (pV hK (pm_Pl hP) (pm_Dl hD) (ci := 6) (q0 := kkr2) rfl eer2) rfl rfl hl.1 rfl (lv_room (Nat.le_of_ble_eq_true rfl)) dL_law_850 ⟨by show _ ≤ 600000; omega, by show _ ≤ 7302250; omega⟩) hP hD hS hA (fun r2 wsr2 H locs hQ hP hD hS => ?_)
  obtain ⟨e2, hM⟩ := hQ
  have hP := pm_P List.perm_append_comm hP
  have hD := pm_D List.perm_append_comm hD
  refine lv_icmp_eq (tgt := 881) hx hb dL_law_853 (by decide) (fun _ => ?_) (fun n => absurd (e1.trans e2.symm) n)
  refine W.widen (k := cells + 4) (n := slots + 295) (by omega) (by omega) ?_
  exact kk _ wsr1 wsr2 H locs ls (YOK_keep hY (xs (i + (1 : Int32)).toNatClampNeg)) hC hM hP hD hS hl
set_option maxHeartbeats 4000000 in
set_option maxRecDepth 100000 in
theorem law_24 {p : Program} {l : Launch} {e : Env} {s : State} {m : MethodId} {below : List Frame} {meth : Method} {c : Code} {b L : Nat} {xs : Nat → Int32} {G : va_G} {cI cZ cP cJ : ClassId} {t1 t2 : Nat} {i : Int32} {cells slots : Nat} (C0 : lw_At p s m meth c b L xs) (hK : KK G [(cI, .int), (cZ, .boolean), (cP, .object RX3), (cJ, .array .int)] s) (hi : vp_in (i + 1) L ∧ vp_in (i + 2) L ∧ vp_in (i + 3) L ∧ vp_in (i + 4) L ∧ vp_in (i + 5) L ∧ vp_in (i + 6) L) (hc : cells + 4 ≤ 600000) (hs : slots + 295 ≤ 7302250) (kk : LI p l e s m below meth c b G cI cZ cP cJ t1 t2 i (cells + 4) (slots + 295) 881) : LI p l e s m below meth c b G cI cZ cP cJ t1 t2 i cells slots 858 := by
  intro Y ws wm H locs ls hY hC hM hP hD hS hl
  obtain ⟨hx, hb, hr, hml, hown, hts, hX, hbl, hlocks, hgv⟩ := id C0
  have hown : s.vm.findClass RL = some m.cls := hown
  have hA : ∀ q : Nat, s.heap.size ≤ q → (fun q : Nat => s.heap.size ≤ q) q := fun _ h => h
  have hbA : ¬ (fun q : Nat => s.heap.size ≤ q) b := Nat.not_le.mpr hbl
  refine lv_aload_n hx hb dL_law_858 rfl (lv_at hl 2 rfl) ?_
  refine lv_aload_n hx hb dL_law_859 rfl (lv_at hl 3 rfl) ?_
  refine lv_iload_n hx hb dL_law_860 rfl (lv_at hl 0 rfl) ?_
  refine lv_iconst (v := (1 : Int32)) hx hb dL_law_861 (by decide) ?_
  refine lv_iadd hx hb dL_law_862 ?_
  refine va_sld hx hb hX hbl hbA hS hi.1 dL_law_863 ?_
  obtain ⟨kkr1, ffr1, eer1⟩ := hC.recv
  refine lcall (va_runV (As := [.int (xs (i + (1 : Int32)).toNatClampNeg)]) (rest := []) ⟨hx, hb, hml, hown, hts⟩ (zX5_again hC hY (xs (i + (1 : Int32)).toNatClampNeg) H.size) (cwV 1 hts (gInL (aV ul196 ul197 ul198 ul5 ul199)) rfl rfl rfl (by decide +kernel) ⟨Nat.le_of_ble_eq_true rfl, Nat.le_of_ble_eq_true rfl⟩) (pV hK (pm_Pl hP) (pm_Dl hD) (ci := 5) (q0 := kkr1) rfl eer1) rfl rfl hl.1 rfl (lv_room (Nat.le_of_ble_eq_true rfl)) dL_law_864 ⟨by show _ ≤ 600000; omega, by show _ ≤ 7302250; omega⟩) hP hD hS hA (fun r1 wsr1 H locs hQ hP hD hS => ?_)
  obtain ⟨e1, hC⟩ := hQ
  have hP := pm_P List.perm_append_comm hP
  have hD := pm_D List.perm_append_comm hD
  refine lv_aload_n hx hb dL_law_867 rfl (lv_at hl 1 rfl) ?_
  refine lv_aload_n hx hb dL_law_868 rfl (lv_at hl 3 rfl) ?_
  refine lv_iload_n hx hb dL_law_869 rfl (lv_at hl 0 rfl) ?_
  refine lv_iconst (v := (1 : Int32)) hx hb dL_law_870 (by decide) ?_
  refine lv_iadd hx hb dL_law_871 ?_
  refine va_sld hx hb hX hbl hbA hS hi.1 dL_law_872 ?_
  obtain ⟨kkr2, ffr2, eer2⟩ := hM.recv
  refine lcall (va_runV (As := [.int (xs (i + (1 : Int32)).toNatClampNeg)]) (rest := [.int r1]) ⟨hx, hb, hml, hown, hts⟩ (zX6_again hM hY (xs (i + (1 : Int32)).toNatClampNeg) H.size) (cwV 1 hts (gInL (aV ul200 ul201 ul202 ul10 ul203)) rfl rfl rfl (by decide +kernel) ⟨Nat.le_of_ble_eq_true rfl, Nat.le_of_ble_eq_true rfl⟩) (pV hK (pm_Pl hP) (pm_Dl hD) (ci := 6) (q0 := kkr2) rfl eer2) rfl rfl hl.1 rfl (lv_room (Nat.le_of_ble_eq_true rfl)) dL_law_873 ⟨by show _ ≤ 600000; omega, by show _ ≤ 7302250; omega⟩) hP hD hS hA (fun r2 wsr2 H locs hQ hP hD hS => ?_)
  obtain ⟨e2, hM⟩ := hQ
  have hP := pm_P List.perm_append_comm hP
  have hD := pm_D List.perm_append_comm hD
  refine lv_icmp_eq (tgt := 881) hx hb dL_law_876 (by decide) (fun _ => ?_) (fun n => absurd (e1.trans e2.symm) n)
  refine W.widen (k := cells + 4) (n := slots + 295) (by omega) (by omega) ?_
  exact kk _ wsr1 wsr2 H locs ls (YOK_again hY (xs (i + (1 : Int32)).toNatClampNeg)) hC hM hP hD hS hl
