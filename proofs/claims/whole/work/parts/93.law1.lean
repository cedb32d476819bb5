theorem ul1 : Cond.constantLong RL 13 (4294967295) ∈ wU := wU_t4 (List.mem_of_getElem? (i := 231) rfl) rfl
theorem ul2 : Cond.methodLink RL 15 yX5_write ∈ wU := wU_t2 (List.mem_of_getElem? (i := 64) rfl) rfl
theorem ul3 : Cond.instanceMethod yX5_write ∈ wU := wU_t2 (List.mem_of_getElem? (i := 65) rfl) rfl
theorem ul4 : Cond.selects RX5 yX5_write yX5_write ∈ wU := wU_t2 (List.mem_of_getElem? (i := 66) rfl) rfl
theorem ul5 : Cond.initialized RX5 ∈ wU := wU_t1 (List.mem_of_getElem? (i := 1) rfl) rfl
theorem ul6 : Cond.code yX5_write cX5_write 4 (some .int) ∈ wU := wU_t2 (List.mem_of_getElem? (i := 67) rfl) rfl
theorem ul7 : Cond.methodLink RL 19 yX6_write ∈ wU := wU_t3 (List.mem_of_getElem? (i := 239) rfl) rfl
theorem ul8 : Cond.instanceMethod yX6_write ∈ wU := wU_t4 (List.mem_of_getElem? (i := 0) rfl) rfl
theorem ul9 : Cond.selects RX6 yX6_write yX6_write ∈ wU := wU_t4 (List.mem_of_getElem? (i := 1) rfl) rfl
theorem ul10 : Cond.initialized RX6 ∈ wU := wU_t1 (List.mem_of_getElem? (i := 9) rfl) rfl
theorem ul11 : Cond.code yX6_write cX6_write 5 (some .int) ∈ wU := wU_t4 (List.mem_of_getElem? (i := 2) rfl) rfl
theorem ul12 : Cond.methodLink RL 20 yX5_wipe ∈ wU := wU_t2 (List.mem_of_getElem? (i := 76) rfl) rfl
theorem ul13 : Cond.instanceMethod yX5_wipe ∈ wU := wU_t2 (List.mem_of_getElem? (i := 77) rfl) rfl
theorem ul14 : Cond.selects RX5 yX5_wipe yX5_wipe ∈ wU := wU_t2 (List.mem_of_getElem? (i := 78) rfl) rfl
theorem ul15 : Cond.code yX5_wipe cX5_wipe 2 (some .int) ∈ wU := wU_t2 (List.mem_of_getElem? (i := 79) rfl) rfl
theorem ul16 : Cond.methodLink RL 24 yX6_wipe ∈ wU := wU_t4 (List.mem_of_getElem? (i := 8) rfl) rfl
theorem ul17 : Cond.instanceMethod yX6_wipe ∈ wU := wU_t4 (List.mem_of_getElem? (i := 9) rfl) rfl
theorem ul18 : Cond.selects RX6 yX6_wipe yX6_wipe ∈ wU := wU_t4 (List.mem_of_getElem? (i := 10) rfl) rfl
theorem ul19 : Cond.code yX6_wipe cX6_wipe 2 (some .int) ∈ wU := wU_t4 (List.mem_of_getElem? (i := 11) rfl) rfl
theorem ul20 : Cond.methodLink RL 25 yX5_fault ∈ wU := wU_t2 (List.mem_of_getElem? (i := 80) rfl) rfl
theorem ul21 : Cond.instanceMethod yX5_fault ∈ wU := wU_t2 (List.mem_of_getElem? (i := 81) rfl) rfl
theorem ul22 : Cond.selects RX5 yX5_fault yX5_fault ∈ wU := wU_t2 (List.mem_of_getElem? (i := 82) rfl) rfl
theorem ul23 : Cond.code yX5_fault cX5_fault 1 (some .int) ∈ wU := wU_t2 (List.mem_of_getElem? (i := 83) rfl) rfl
theorem ul24 : Cond.methodLink RL 28 yX6_fault ∈ wU := wU_t4 (List.mem_of_getElem? (i := 12) rfl) rfl
theorem ul25 : Cond.instanceMethod yX6_fault ∈ wU := wU_t4 (List.mem_of_getElem? (i := 13) rfl) rfl
theorem ul26 : Cond.selects RX6 yX6_fault yX6_fault ∈ wU := wU_t4 (List.mem_of_getElem? (i := 14) rfl) rfl
theorem ul27 : Cond.code yX6_fault cX6_fault 1 (some .int) ∈ wU := wU_t4 (List.mem_of_getElem? (i := 15) rfl) rfl
theorem ul28 : Cond.methodLink RL 29 yX5_plait ∈ wU := wU_t2 (List.mem_of_getElem? (i := 119) rfl) rfl
theorem ul29 : Cond.instanceMethod yX5_plait ∈ wU := wU_t2 (List.mem_of_getElem? (i := 120) rfl) rfl
theorem ul30 : Cond.selects RX5 yX5_plait yX5_plait ∈ wU := wU_t2 (List.mem_of_getElem? (i := 121) rfl) rfl
theorem ul31 : Cond.code yX5_plait cX5_plait 1 (some .int) ∈ wU := wU_t2 (List.mem_of_getElem? (i := 122) rfl) rfl
theorem ul32 : Cond.methodLink RL 32 yX6_plait ∈ wU := wU_t4 (List.mem_of_getElem? (i := 37) rfl) rfl
theorem ul33 : Cond.instanceMethod yX6_plait ∈ wU := wU_t4 (List.mem_of_getElem? (i := 38) rfl) rfl
theorem ul34 : Cond.selects RX6 yX6_plait yX6_plait ∈ wU := wU_t4 (List.mem_of_getElem? (i := 39) rfl) rfl
theorem ul35 : Cond.code yX6_plait cX6_plait 2 (some .int) ∈ wU := wU_t4 (List.mem_of_getElem? (i := 40) rfl) rfl
theorem ul36 : Cond.methodLink RL 33 yX5_make ∈ wU := wU_t2 (List.mem_of_getElem? (i := 130) rfl) rfl
theorem ul37 : Cond.instanceMethod yX5_make ∈ wU := wU_t2 (List.mem_of_getElem? (i := 131) rfl) rfl
theorem ul38 : Cond.selects RX5 yX5_make yX5_make ∈ wU := wU_t2 (List.mem_of_getElem? (i := 132) rfl) rfl
theorem ul39 : Cond.code yX5_make cX5_make 7 (some .int) ∈ wU := wU_t2 (List.mem_of_getElem? (i := 133) rfl) rfl
theorem ul40 : Cond.methodLink RL 37 yX6_make ∈ wU := wU_t4 (List.mem_of_getElem? (i := 45) rfl) rfl
theorem ul41 : Cond.instanceMethod yX6_make ∈ wU := wU_t4 (List.mem_of_getElem? (i := 46) rfl) rfl
theorem ul42 : Cond.selects RX6 yX6_make yX6_make ∈ wU := wU_t4 (List.mem_of_getElem? (i := 47) rfl) rfl
theorem ul43 : Cond.code yX6_make cX6_make 11 (some .int) ∈ wU := wU_t4 (List.mem_of_getElem? (i := 48) rfl) rfl
theorem ul44 : Cond.methodLink RL 38 yX5_point ∈ wU := wU_t2 (List.mem_of_getElem? (i := 142) rfl) rfl
theorem ul45 : Cond.instanceMethod yX5_point ∈ wU := wU_t2 (List.mem_of_getElem? (i := 143) rfl) rfl
theorem ul46 : Cond.selects RX5 yX5_point yX5_point ∈ wU := wU_t2 (List.mem_of_getElem? (i := 144) rfl) rfl
theorem ul47 : Cond.code yX5_point cX5_point 3 (some .int) ∈ wU := wU_t2 (List.mem_of_getElem? (i := 145) rfl) rfl
theorem ul48 : Cond.methodLink RL 42 yX6_point ∈ wU := wU_t4 (List.mem_of_getElem? (i := 53) rfl) rfl
theorem ul49 : Cond.instanceMethod yX6_point ∈ wU := wU_t4 (List.mem_of_getElem? (i := 54) rfl) rfl
theorem ul50 : Cond.selects RX6 yX6_point yX6_point ∈ wU := wU_t4 (List.mem_of_getElem? (i := 55) rfl) rfl
theorem ul51 : Cond.code yX6_point cX6_point 3 (some .int) ∈ wU := wU_t4 (List.mem_of_getElem? (i := 56) rfl) rfl
theorem ul52 : Cond.methodLink RL 43 yX5_set ∈ wU := wU_t2 (List.mem_of_getElem? (i := 148) rfl) rfl
theorem ul53 : Cond.instanceMethod yX5_set ∈ wU := wU_t2 (List.mem_of_getElem? (i := 149) rfl) rfl
theorem ul54 : Cond.selects RX5 yX5_set yX5_set ∈ wU := wU_t2 (List.mem_of_getElem? (i := 150) rfl) rfl
theorem ul55 : Cond.code yX5_set cX5_set 5 (some .int) ∈ wU := wU_t2 (List.mem_of_getElem? (i := 151) rfl) rfl
theorem ul56 : Cond.methodLink RL 47 yX6_set ∈ wU := wU_t4 (List.mem_of_getElem? (i := 61) rfl) rfl
theorem ul57 : Cond.instanceMethod yX6_set ∈ wU := wU_t4 (List.mem_of_getElem? (i := 62) rfl) rfl
theorem ul58 : Cond.selects RX6 yX6_set yX6_set ∈ wU := wU_t4 (List.mem_of_getElem? (i := 63) rfl) rfl
theorem ul59 : Cond.code yX6_set cX6_set 5 (some .int) ∈ wU := wU_t4 (List.mem_of_getElem? (i := 64) rfl) rfl
theorem ul60 : Cond.methodLink RL 48 yX5_about ∈ wU := wU_t2 (List.mem_of_getElem? (i := 153) rfl) rfl
theorem ul61 : Cond.instanceMethod yX5_about ∈ wU := wU_t2 (List.mem_of_getElem? (i := 154) rfl) rfl
theorem ul62 : Cond.selects RX5 yX5_about yX5_about ∈ wU := wU_t2 (List.mem_of_getElem? (i := 155) rfl) rfl
theorem ul63 : Cond.code yX5_about cX5_about 2 (some .int) ∈ wU := wU_t2 (List.mem_of_getElem? (i := 156) rfl) rfl
theorem ul64 : Cond.methodLink RL 51 yX6_about ∈ wU := wU_t4 (List.mem_of_getElem? (i := 115) rfl) rfl
theorem ul65 : Cond.instanceMethod yX6_about ∈ wU := wU_t4 (List.mem_of_getElem? (i := 116) rfl) rfl
theorem ul66 : Cond.selects RX6 yX6_about yX6_about ∈ wU := wU_t4 (List.mem_of_getElem? (i := 117) rfl) rfl
theorem ul67 : Cond.code yX6_about cX6_about 8 (some .int) ∈ wU := wU_t4 (List.mem_of_getElem? (i := 118) rfl) rfl
theorem ul68 : Cond.methodLink RL 52 yX5_loop ∈ wU := wU_t2 (List.mem_of_getElem? (i := 167) rfl) rfl
theorem ul69 : Cond.instanceMethod yX5_loop ∈ wU := wU_t2 (List.mem_of_getElem? (i := 168) rfl) rfl
theorem ul70 : Cond.selects RX5 yX5_loop yX5_loop ∈ wU := wU_t2 (List.mem_of_getElem? (i := 169) rfl) rfl
theorem ul71 : Cond.code yX5_loop cX5_loop 3 (some .int) ∈ wU := wU_t2 (List.mem_of_getElem? (i := 170) rfl) rfl
theorem ul72 : Cond.methodLink RL 55 yX6_loop ∈ wU := wU_t4 (List.mem_of_getElem? (i := 134) rfl) rfl
theorem ul73 : Cond.instanceMethod yX6_loop ∈ wU := wU_t4 (List.mem_of_getElem? (i := 135) rfl) rfl
theorem ul74 : Cond.selects RX6 yX6_loop yX6_loop ∈ wU := wU_t4 (List.mem_of_getElem? (i := 136) rfl) rfl
theorem ul75 : Cond.code yX6_loop cX6_loop 2 (some .int) ∈ wU := wU_t4 (List.mem_of_getElem? (i := 137) rfl) rfl
theorem ul76 : Cond.methodLink RL 56 yX5_along ∈ wU := wU_t2 (List.mem_of_getElem? (i := 175) rfl) rfl
theorem ul77 : Cond.instanceMethod yX5_along ∈ wU := wU_t2 (List.mem_of_getElem? (i := 176) rfl) rfl
theorem ul78 : Cond.selects RX5 yX5_along yX5_along ∈ wU := wU_t2 (List.mem_of_getElem? (i := 177) rfl) rfl
theorem ul79 : Cond.code yX5_along cX5_along 3 (some .int) ∈ wU := wU_t2 (List.mem_of_getElem? (i := 178) rfl) rfl
theorem ul80 : Cond.methodLink RL 59 yX6_along ∈ wU := wU_t4 (List.mem_of_getElem? (i := 138) rfl) rfl
theorem ul81 : Cond.instanceMethod yX6_along ∈ wU := wU_t4 (List.mem_of_getElem? (i := 139) rfl) rfl
theorem ul82 : Cond.selects RX6 yX6_along yX6_along ∈ wU := wU_t4 (List.mem_of_getElem? (i := 140) rfl) rfl
theorem ul83 : Cond.code yX6_along cX6_along 11 (some .int) ∈ wU := wU_t4 (List.mem_of_getElem? (i := 141) rfl) rfl
theorem ul84 : Cond.methodLink RL 60 yX5_step ∈ wU := wU_t2 (List.mem_of_getElem? (i := 229) rfl) rfl
theorem ul85 : Cond.instanceMethod yX5_step ∈ wU := wU_t2 (List.mem_of_getElem? (i := 230) rfl) rfl
theorem ul86 : Cond.selects RX5 yX5_step yX5_step ∈ wU := wU_t2 (List.mem_of_getElem? (i := 231) rfl) rfl
theorem ul87 : Cond.code yX5_step cX5_step 3 (some .int) ∈ wU := wU_t2 (List.mem_of_getElem? (i := 232) rfl) rfl
theorem ul88 : Cond.methodLink RL 63 yX6_step ∈ wU := wU_t4 (List.mem_of_getElem? (i := 157) rfl) rfl
theorem ul89 : Cond.instanceMethod yX6_step ∈ wU := wU_t4 (List.mem_of_getElem? (i := 158) rfl) rfl
theorem ul90 : Cond.selects RX6 yX6_step yX6_step ∈ wU := wU_t4 (List.mem_of_getElem? (i := 159) rfl) rfl
theorem ul91 : Cond.code yX6_step cX6_step 3 (some .int) ∈ wU := wU_t4 (List.mem_of_getElem? (i := 160) rfl) rfl
theorem ul92 : Cond.methodLink RL 64 yX5_end ∈ wU := wU_t2 (List.mem_of_getElem? (i := 238) rfl) rfl
theorem ul93 : Cond.instanceMethod yX5_end ∈ wU := wU_t2 (List.mem_of_getElem? (i := 239) rfl) rfl
theorem ul94 : Cond.selects RX5 yX5_end yX5_end ∈ wU := wU_t3 (List.mem_of_getElem? (i := 0) rfl) rfl
theorem ul95 : Cond.code yX5_end cX5_end 3 (some .int) ∈ wU := wU_t3 (List.mem_of_getElem? (i := 1) rfl) rfl
theorem ul96 : Cond.methodLink RL 67 yX6_end ∈ wU := wU_t4 (List.mem_of_getElem? (i := 166) rfl) rfl
theorem ul97 : Cond.instanceMethod yX6_end ∈ wU := wU_t4 (List.mem_of_getElem? (i := 167) rfl) rfl
theorem ul98 : Cond.selects RX6 yX6_end yX6_end ∈ wU := wU_t4 (List.mem_of_getElem? (i := 168) rfl) rfl
theorem ul99 : Cond.code yX6_end cX6_end 4 (some .int) ∈ wU := wU_t4 (List.mem_of_getElem? (i := 169) rfl) rfl
theorem ul100 : Cond.methodLink RL 68 yX5_between ∈ wU := wU_t3 (List.mem_of_getElem? (i := 3) rfl) rfl
theorem ul101 : Cond.instanceMethod yX5_between ∈ wU := wU_t3 (List.mem_of_getElem? (i := 4) rfl) rfl
theorem ul102 : Cond.selects RX5 yX5_between yX5_between ∈ wU := wU_t3 (List.mem_of_getElem? (i := 5) rfl) rfl
theorem ul103 : Cond.code yX5_between cX5_between 3 (some .int) ∈ wU := wU_t3 (List.mem_of_getElem? (i := 6) rfl) rfl
theorem ul104 : Cond.methodLink RL 71 yX6_between ∈ wU := wU_t4 (List.mem_of_getElem? (i := 173) rfl) rfl
theorem ul105 : Cond.instanceMethod yX6_between ∈ wU := wU_t4 (List.mem_of_getElem? (i := 174) rfl) rfl
theorem ul106 : Cond.selects RX6 yX6_between yX6_between ∈ wU := wU_t4 (List.mem_of_getElem? (i := 175) rfl) rfl
theorem ul107 : Cond.code yX6_between cX6_between 3 (some .int) ∈ wU := wU_t4 (List.mem_of_getElem? (i := 176) rfl) rfl
set_option maxHeartbeats 4000000 in
set_option maxRecDepth 100000 in
theorem law_0 {p : Program} {l : Launch} {e : Env} {s : State} {m : MethodId} {below : List Frame} {meth : Method} {c : Code} {b L : Nat} {xs : Nat → Int32} {G : va_G} {cI cZ cP cJ : ClassId} {t1 t2 : Nat} {i : Int32} {cells slots : Nat} (C0 : lw_At p s m meth c b L xs) (hK : KK G [(cI, .int), (cZ, .boolean), (cP, .object RX3), (cJ, .array .int)] s) (hi : vp_in (i + 1) L ∧ vp_in (i + 2) L ∧ vp_in (i + 3) L ∧ vp_in (i + 4) L ∧ vp_in (i + 5) L ∧ vp_in (i + 6) L) (hc : cells + 4 ≤ 600000) (hs : slots + 295 ≤ 7302250) (kk : LI p l e s m below meth c b G cI cZ cP cJ t1 t2 i (cells + 4) (slots + 295) 881) : LI p l e s m below meth c b G cI cZ cP cJ t1 t2 i cells slots 148 := by
  intro Y ws wm H locs ls hY hC hM hP hD hS hl
  obtain ⟨hx, hb, hr, hml, hown, hts, hX, hbl, hlocks, hgv⟩ := id C0
  have hown : s.vm.findClass RL = some m.cls := hown
  have hA : ∀ q : Nat, s.heap.size ≤ q → (fun q : Nat => s.heap.size ≤ q) q := fun _ h => h
  have hbA : ¬ (fun q : Nat => s.heap.size ≤ q) b := Nat.not_le.mpr hbl
  refine lv_aload_n hx hb dL_law_148 rfl (lv_at hl 2 rfl) ?_
  refine lv_aload_n hx hb dL_law_149 rfl (lv_at hl 3 rfl) ?_
  refine lv_iload_n hx hb dL_law_150 rfl (lv_at hl 0 rfl) ?_
  refine lv_iconst (v := (1 : Int32)) hx hb dL_law_151 (by decide) ?_
  refine lv_iadd hx hb dL_law_152 ?_
  refine va_sld hx hb hX hbl hbA hS hi.1 dL_law_153 ?_
  refine lv_aload_n hx hb dL_law_154 rfl (lv_at hl 3 rfl) ?_
  refine lv_iload_n hx hb dL_law_155 rfl (lv_at hl 0 rfl) ?_
  refine lv_iconst (v := (2 : Int32)) hx hb dL_law_156 (by decide) ?_
  refine lv_iadd hx hb dL_law_157 ?_
  refine va_sld hx hb hX hbl hbA hS hi.2.1 dL_law_158 ?_
  refine lv_i2l (v := (xs (i + (2 : Int32)).toNatClampNeg).toInt64) hx hb dL_law_159 rfl ?_
  refine lv_bipush (v := (32 : Int32)) hx hb dL_law_160 (by decide) ?_
  refine lv_lshl (v := (((xs (i + (2 : Int32)).toNatClampNeg).toInt64) <<< ((32 : Int32).toInt64 &&& 63))) hx hb dL_law_162 rfl ?_
  refine lv_aload_n hx hb dL_law_163 rfl (lv_at hl 3 rfl) ?_
  refine lv_iload_n hx hb dL_law_164 rfl (lv_at hl 0 rfl) ?_
  refine lv_iconst (v := (3 : Int32)) hx hb dL_law_165 (by decide) ?_
  refine lv_iadd hx hb dL_law_166 ?_
  refine va_sld hx hb hX hbl hbA hS hi.2.2.1 dL_law_167 ?_
  refine lv_i2l (v := (xs (i + (3 : Int32)).toNatClampNeg).toInt64) hx hb dL_law_168 rfl ?_
  refine lv_ldc2 (v := (4294967295 : Int64)) hx hb hown (hts _ (wU_tbl _ ul1)) dL_law_169 ?_
  refine lv_land hx hb dL_law_172 ?_
  refine lv_lor hx hb dL_law_173 ?_
  obtain ⟨kkr1, ffr1, eer1⟩ := hC.recv
  refine lcall (va_runV (As := [.int (xs (i + (1 : Int32)).toNatClampNeg), .long ((((xs (i + (2 : Int32)).toNatClampNeg).toInt64) <<< ((32 : Int32).toInt64 &&& 63)) ||| (((xs (i + (3 : Int32)).toNatClampNeg).toInt64) &&& (4294967295 : Int64)))]) (rest := []) ⟨hx, hb, hml, hown, hts⟩ (zX5_write hC hY (xs (i + (1 : Int32)).toNatClampNeg) ((((xs (i + (2 : Int32)).toNatClampNeg).toInt64) <<< ((32 : Int32).toInt64 &&& 63)) ||| (((xs (i + (3 : Int32)).toNatClampNeg).toInt64) &&& (4294967295 : Int64))) H.size) (cwV 2 hts (gInL (aV ul2 ul3 ul4 ul5 ul6)) rfl rfl rfl (by decide +kernel) ⟨Nat.le_of_ble_eq_true rfl, Nat.le_of_ble_eq_true rfl⟩) (pV hK (pm_Pl hP) (pm_Dl hD) (ci := 5) (q0 := kkr1) rfl eer1) rfl rfl hl.1 rfl (lv_room (Nat.le_of_ble_eq_true rfl)) dL_law_174 ⟨by show _ ≤ 600000; omega, by show _ ≤ 7302250; omega⟩) hP hD hS hA (fun r1 wsr1 H locs hQ hP hD hS => ?_)
  obtain ⟨e1, hC⟩ := hQ
  have hP := pm_P List.perm_append_comm hP
  have hD := pm_D List.perm_append_comm hD
  refine lv_aload_n hx hb dL_law_177 rfl (lv_at hl 1 rfl) ?_
  refine lv_aload_n hx hb dL_law_178 rfl (lv_at hl 3 rfl) ?_
  refine lv_iload_n hx hb dL_law_179 rfl (lv_at hl 0 rfl) ?_
  refine lv_iconst (v := (1 : Int32)) hx hb dL_law_180 (by decide) ?_
  refine lv_iadd hx hb dL_law_181 ?_
  refine va_sld hx hb hX hbl hbA hS hi.1 dL_law_182 ?_
  refine lv_aload_n hx hb dL_law_183 rfl (lv_at hl 3 rfl) ?_
  refine lv_iload_n hx hb dL_law_184 rfl (lv_at hl 0 rfl) ?_
  refine lv_iconst (v := (2 : Int32)) hx hb dL_law_185 (by decide) ?_
  refine lv_iadd hx hb dL_law_186 ?_
  refine va_sld hx hb hX hbl hbA hS hi.2.1 dL_law_187 ?_
  refine lv_i2l (v := (xs (i + (2 : Int32)).toNatClampNeg).toInt64) hx hb dL_law_188 rfl ?_
  refine lv_bipush (v := (32 : Int32)) hx hb dL_law_189 (by decide) ?_
  refine lv_lshl (v := (((xs (i + (2 : Int32)).toNatClampNeg).toInt64) <<< ((32 : Int32).toInt64 &&& 63))) hx hb dL_law_191 rfl ?_
  refine lv_aload_n hx hb dL_law_192 rfl (lv_at hl 3 rfl) ?_
  refine lv_iload_n hx hb dL_law_193 rfl (lv_at hl 0 rfl) ?_
  refine lv_iconst (v := (3 : Int32)) hx hb dL_law_194 (by decide) ?_
  refine lv_iadd hx hb dL_law_195 ?_
  refine va_sld hx hb hX hbl hbA hS hi.2.2.1 dL_law_196 ?_
  refine lv_i2l (v := (xs (i + (3 : Int32)).toNatClampNeg).toInt64) hx hb dL_law_197 rfl ?_
  refine lv_ldc2 (v := (4294967295 : Int64)) hx hb hown (hts _ (wU_tbl _ ul1)) dL_law_198 ?_
  refine lv_land hx hb dL_law_201 ?_
  refine lv_lor hx hb dL_law_202 ?_
  obtain ⟨kkr2, ffr2, eer2⟩ := hM.recv
  refine lcall (va_runV (As := [.int (xs (i + (1 : Int32)).toNatClampNeg), .long ((((xs (i + (2 : Int32)).toNatClampNeg).toInt64) <<< ((32 : Int32).toInt64 &&& 63)) ||| (((xs (i + (3 : Int32)).toNatClampNeg).toInt64) &&& (4294967295 : Int64)))]) (rest := [.int r1]) ⟨hx, hb, hml, hown, hts⟩ (zX6_write hM hY (xs (i + (1 : Int32)).toNatClampNeg) ((((xs (i + (2 : Int32)).toNatClampNeg).toInt64) <<< ((32 : Int32).toInt64 &&& 63)) ||| (((xs (i + (3 : Int32)).toNatClampNeg).toInt64) &&& (4294967295 : Int64))) H.size) (cwV 2 hts (gInL (aV ul7 ul8 ul9 ul10 ul11)) rfl rfl rfl (by decide +kernel) ⟨Nat.le_of_ble_eq_true rfl, Nat.le_of_ble_eq_true rfl⟩) (pV hK (pm_Pl hP) (pm_Dl hD) (ci := 6) (q0 := kkr2) rfl eer2) rfl rfl hl.1 rfl (lv_room (Nat.le_of_ble_eq_true rfl)) dL_law_203 ⟨by show _ ≤ 600000; omega, by show _ ≤ 7302250; omega⟩) hP hD hS hA (fun r2 wsr2 H locs hQ hP hD hS => ?_)
  obtain ⟨e2, hM⟩ := hQ
  have hP := pm_P List.perm_append_comm hP
  have hD := pm_D List.perm_append_comm hD
  refine lv_icmp_eq (tgt := 881) hx hb dL_law_206 (by decide) (fun _ => ?_) (fun n => absurd (e1.trans e2.symm) n)
  refine W.widen (k := cells + 4) (n := slots + 295) (by omega) (by omega) ?_
  exact kk _ wsr1 wsr2 H locs ls (YOK_write hY (xs (i + (1 : Int32)).toNatClampNeg) ((((xs (i + (2 : Int32)).toNatClampNeg).toInt64) <<< ((32 : Int32).toInt64 &&& 63)) ||| (((xs (i + (3 : Int32)).toNatClampNeg).toInt64) &&& (4294967295 : Int64)))) hC hM hP hD hS hl
set_option maxHeartbeats 4000000 in
set_option maxRecDepth 100000 in
theorem law_1 {p : Program} {l : Launch} {e : Env} {s : State} {m : MethodId} {below : List Frame} {meth : Method} {c : Code} {b L : Nat} {xs : Nat → Int32} {G : va_G} {cI cZ cP cJ : ClassId} {t1 t2 : Nat} {i : Int32} {cells slots : Nat} (C0 : lw_At p s m meth c b L xs) (hK : KK G [(cI, .int), (cZ, .boolean), (cP, .object RX3), (cJ, .array .int)] s) (hi : vp_in (i + 1) L ∧ vp_in (i + 2) L ∧ vp_in (i + 3) L ∧ vp_in (i + 4) L ∧ vp_in (i + 5) L ∧ vp_in (i + 6) L) (hc : cells + 4 ≤ 600000) (hs : slots + 295 ≤ 7302250) (kk : LI p l e s m below meth c b G cI cZ cP cJ t1 t2 i (cells + 4) (slots + 295) 881) : LI p l e s m below meth c b G cI cZ cP cJ t1 t2 i cells slots 211 := by
  intro Y ws wm H locs ls hY hC hM hP hD hS hl
  obtain ⟨hx, hb, hr, hml, hown, hts, hX, hbl, hlocks, hgv⟩ := id C0
  have hown : s.vm.findClass RL = some m.cls := hown
  have hA : ∀ q : Nat, s.heap.size ≤ q → (fun q : Nat => s.heap.size ≤ q) q := fun _ h => h
  have hbA : ¬ (fun q : Nat => s.heap.size ≤ q) b := Nat.not_le.mpr hbl
  refine lv_aload_n hx hb dL_law_211 rfl (lv_at hl 2 rfl) ?_
  obtain ⟨kkr1, ffr1, eer1⟩ := hC.recv
  refine lcall (va_runV (As := []) (rest := []) ⟨hx, hb, hml, hown, hts⟩ (zX5_wipe hC hY  H.size) (cwV 0 hts (gInL (aV ul12 ul13 ul14 ul5 ul15)) rfl rfl rfl (by decide +kernel) ⟨Nat.le_of_ble_eq_true rfl, Nat.le_of_ble_eq_true rfl⟩) (pV hK (pm_Pl hP) (pm_Dl hD) (ci := 5) (q0 := kkr1) rfl eer1) rfl rfl hl.1 rfl (lv_room (Nat.le_of_ble_eq_true rfl)) dL_law_212 ⟨by show _ ≤ 600000; omega, by show _ ≤ 7302250; omega⟩) hP hD hS hA (fun r1 wsr1 H locs hQ hP hD hS => ?_)
  obtain ⟨e1, hC⟩ := hQ
  have hP := pm_P List.perm_append_comm hP
  have hD := pm_D List.perm_append_comm hD
  refine lv_aload_n hx hb dL_law_215 rfl (lv_at hl 1 rfl) ?_
  obtain ⟨kkr2, ffr2, eer2⟩ := hM.recv
  refine lcall (va_runV (As := []) (rest := [.int r1]) ⟨hx, hb, hml, hown, hts⟩ (zX6_wipe hM hY  H.size) (cwV 0 hts (gInL (aV ul16 ul17 ul18 ul10 ul19)) rfl rfl rfl (by decide +kernel) ⟨Nat.le_of_ble_eq_true rfl, Nat.le_of_ble_eq_true rfl⟩) (pV hK (pm_Pl hP) (pm_Dl hD) (ci := 6) (q0 := kkr2) rfl eer2) rfl rfl hl.1 rfl (lv_room (Nat.le_of_ble_eq_true rfl)) dL_law_216 ⟨by show _ ≤ 600000; omega, by show _ ≤ 7302250; omega⟩) hP hD hS hA (fun r2 wsr2 H locs hQ hP hD hS => ?_)
  obtain ⟨e2, hM⟩ := hQ
  have hP := pm_P List.perm_append_comm hP
  have hD := pm_D List.perm_append_comm hD
  refine lv_icmp_eq (tgt := 881) hx hb dL_law_219 (by decide) (fun _ => ?_) (fun n => absurd (e1.trans e2.symm) n)
  refine W.widen (k := cells + 4) (n := slots + 295) (by omega) (by omega) ?_
  exact kk _ wsr1 wsr2 H locs ls (YOK_wipe hY) hC hM hP hD hS hl
set_option maxHeartbeats 4000000 in
set_option maxRecDepth 100000 in
theorem law_2 {p : Program} {l : Launch} {e : Env} {s : State} {m : MethodId} {below : List Frame} {meth : Method} {c : Code} {b L : Nat} {xs : Nat → Int32} {G : va_G} {cI cZ cP cJ : ClassId} {t1 t2 : Nat} {i : Int32} {cells slots : Nat} (C0 : lw_At p s m meth c b L xs) (hK : KK G [(cI, .int), (cZ, .boolean), (cP, .object RX3), (cJ, .array .int)] s) (hi : vp_in (i + 1) L ∧ vp_in (i + 2) L ∧ vp_in (i + 3) L ∧ vp_in (i + 4) L ∧ vp_in (i + 5) L ∧ vp_in (i + 6) L) (hc : cells + 4 ≤ 600000) (hs : slots + 295 ≤ 7302250) (kk : LI p l e s m below meth c b G cI cZ cP cJ t1 t2 i (cells + 4) (slots + 295) 881) : LI p l e s m below meth c b G cI cZ cP cJ t1 t2 i cells slots 224 := by
  intro Y ws wm H locs ls hY hC hM hP hD hS hl
  obtain ⟨hx, hb, hr, hml, hown, hts, hX, hbl, hlocks, hgv⟩ := id C0
  have hown : s.vm.findClass RL = some m.cls := hown
  have hA : ∀ q : Nat, s.heap.size ≤ q → (fun q : Nat => s.heap.size ≤ q) q := fun _ h => h
  have hbA : ¬ (fun q : Nat => s.heap.size ≤ q) b := Nat.not_le.mpr hbl
  refine lv_aload_n hx hb dL_law_224 rfl (lv_at hl 2 rfl) ?_
  obtain ⟨kkr1, ffr1, eer1⟩ := hC.recv
  refine lcall (va_runV (As := []) (rest := []) ⟨hx, hb, hml, hown, hts⟩ (zX5_fault hC hY  H.size) (cwV 0 hts (gInL (aV ul20 ul21 ul22 ul5 ul23)) rfl rfl rfl (by decide +kernel) ⟨Nat.le_of_ble_eq_true rfl, Nat.le_of_ble_eq_true rfl⟩) (pV hK (pm_Pl hP) (pm_Dl hD) (ci := 5) (q0 := kkr1) rfl eer1) rfl rfl hl.1 rfl (lv_room (Nat.le_of_ble_eq_true rfl)) dL_law_225 ⟨by show _ ≤ 600000; omega, by show _ ≤ 7302250; omega⟩) hP hD hS hA (fun r1 wsr1 H locs hQ hP hD hS => ?_)
  obtain ⟨e1, hC⟩ := hQ
  have hP := pm_P List.perm_append_comm hP
  have hD := pm_D List.perm_append_comm hD
  refine lv_aload_n hx hb dL_law_228 rfl (lv_at hl 1 rfl) ?_
  obtain ⟨kkr2, ffr2, eer2⟩ := hM.recv
  refine lcall (va_runV (As := []) (rest := [.int r1]) ⟨hx, hb, hml, hown, hts⟩ (zX6_fault hM hY  H.size) (cwV 0 hts (gInL (aV ul24 ul25 ul26 ul10 ul27)) rfl rfl rfl (by decide +kernel) ⟨Nat.le_of_ble_eq_true rfl, Nat.le_of_ble_eq_true rfl⟩) (pV hK (pm_Pl hP) (pm_Dl hD) (ci := 6) (q0 := kkr2) rfl eer2) rfl rfl hl.1 rfl (lv_room (Nat.le_of_ble_eq_true rfl)) dL_law_229 ⟨by show _ ≤ 600000; omega, by show _ ≤ 7302250; omega⟩) hP hD hS hA (fun r2 wsr2 H locs hQ hP hD hS => ?_)
  obtain ⟨e2, hM⟩ := hQ
  have hP := pm_P List.perm_append_comm hP
  have hD := pm_D List.perm_append_comm hD
  refine lv_icmp_eq (tgt := 881) hx hb dL_law_232 (by decide) (fun _ => ?_) (fun n => absurd (e1.trans e2.symm) n)
  refine W.widen (k := cells + 4) (n := slots + 295) (by omega) (by omega) ?_
  exact kk _ wsr1 wsr2 H locs ls hY hC hM hP hD hS hl
set_option maxHeartbeats 4000000 in
set_option maxRecDepth 100000 in
theorem law_3 {p : Program} {l : Launch} {e : Env} {s : State} {m : MethodId} {below : List Frame} {meth : Method} {c : Code} {b L : Nat} {xs : Nat → Int32} {G : va_G} {cI cZ cP cJ : ClassId} {t1 t2 : Nat} {i : Int32} {cells slots : Nat} (C0 : lw_At p s m meth c b L xs) (hK : KK G [(cI, .int), (cZ, .boolean), (cP, .object RX3), (cJ, .array .int)] s) (hi : vp_in (i + 1) L ∧ vp_in (i + 2) L ∧ vp_in (i + 3) L ∧ vp_in (i + 4) L ∧ vp_in (i + 5) L ∧ vp_in (i + 6) L) (hc : cells + 4 ≤ 600000) (hs : slots + 295 ≤ 7302250) (kk : LI p l e s m below meth c b G cI cZ cP cJ t1 t2 i (cells + 4) (slots + 295) 881) : LI p l e s m below meth c b G cI cZ cP cJ t1 t2 i cells slots 237 := by
  intro Y ws wm H locs ls hY hC hM hP hD hS hl
  obtain ⟨hx, hb, hr, hml, hown, hts, hX, hbl, hlocks, hgv⟩ := id C0
  have hown : s.vm.findClass RL = some m.cls := hown
  have hA : ∀ q : Nat, s.heap.size ≤ q → (fun q : Nat => s.heap.size ≤ q) q := fun _ h => h
  have hbA : ¬ (fun q : Nat => s.heap.size ≤ q) b := Nat.not_le.mpr hbl
  refine lv_aload_n hx hb dL_law_237 rfl (lv_at hl 2 rfl) ?_
  obtain ⟨kkr1, ffr1, eer1⟩ := hC.recv
  refine lcall (va_runV (As := []) (rest := []) ⟨hx, hb, hml, hown, hts⟩ (zX5_plait hC hY  H.size) (cwV 0 hts (gInL (aV ul28 ul29 ul30 ul5 ul31)) rfl rfl rfl (by decide +kernel) ⟨Nat.le_of_ble_eq_true rfl, Nat.le_of_ble_eq_true rfl⟩) (pV hK (pm_Pl hP) (pm_Dl hD) (ci := 5) (q0 := kkr1) rfl eer1) rfl rfl hl.1 rfl (lv_room (Nat.le_of_ble_eq_true rfl)) dL_law_238 ⟨by show _ ≤ 600000; omega, by show _ ≤ 7302250; omega⟩) hP hD hS hA (fun r1 wsr1 H locs hQ hP hD hS => ?_)
  obtain ⟨e1, hC, hY2⟩ := hQ
  have hP := pm_P List.perm_append_comm hP
  have hD := pm_D List.perm_append_comm hD
  refine lv_aload_n hx hb dL_law_241 rfl (lv_at hl 1 rfl) ?_
  obtain ⟨kkr2, ffr2, eer2⟩ := hM.recv
  refine lcall (va_runV (As := []) (rest := [.int r1]) ⟨hx, hb, hml, hown, hts⟩ (zX6_plait hM hY  H.size) (cwV 0 hts (gInL (aV ul32 ul33 ul34 ul10 ul35)) rfl rfl rfl (by decide +kernel) ⟨Nat.le_of_ble_eq_true rfl, Nat.le_of_ble_eq_true rfl⟩) (pV hK (pm_Pl hP) (pm_Dl hD) (ci := 6) (q0 := kkr2) rfl eer2) rfl rfl hl.1 rfl (lv_room (Nat.le_of_ble_eq_true rfl)) dL_law_242 ⟨by show _ ≤ 600000; omega, by show _ ≤ 7302250; omega⟩) hP hD hS hA (fun r2 wsr2 H locs hQ hP hD hS => ?_)
  obtain ⟨e2, hM⟩ := hQ
  have hP := pm_P List.perm_append_comm hP
  have hD := pm_D List.perm_append_comm hD
  refine lv_icmp_eq (tgt := 881) hx hb dL_law_245 (by decide) (fun _ => ?_) (fun n => absurd (e1.trans e2.symm) n)
  refine W.widen (k := cells + 4) (n := slots + 295) (by omega) (by omega) ?_
  exact kk _ wsr1 wsr2 H locs ls hY2 hC hM hP hD hS hl
set_option maxHeartbeats 4000000 in
set_option maxRecDepth 100000 in
theorem law_4 {p : Program} {l : Launch} {e : Env} {s : State} {m : MethodId} {below : List Frame} {meth : Method} {c : Code} {b L : Nat} {xs : Nat → Int32} {G : va_G} {cI cZ cP cJ : ClassId} {t1 t2 : Nat} {i : Int32} {cells slots : Nat} (C0 : lw_At p s m meth c b L xs) (hK : KK G [(cI, .int), (cZ, .boolean), (cP, .object RX3), (cJ, .array .int)] s) (hi : vp_in (i + 1) L ∧ vp_in (i + 2) L ∧ vp_in (i + 3) L ∧ vp_in (i + 4) L ∧ vp_in (i + 5) L ∧ vp_in (i + 6) L) (hc : cells + 4 ≤ 600000) (hs : slots + 295 ≤ 7302250) (kk : LI p l e s m below meth c b G cI cZ cP cJ t1 t2 i (cells + 4) (slots + 295) 881) : LI p l e s m below meth c b G cI cZ cP cJ t1 t2 i cells slots 250 := by
  intro Y ws wm H locs ls hY hC hM hP hD hS hl
  obtain ⟨hx, hb, hr, hml, hown, hts, hX, hbl, hlocks, hgv⟩ := id C0
  have hown : s.vm.findClass RL = some m.cls := hown
  have hA : ∀ q : Nat, s.heap.size ≤ q → (fun q : Nat => s.heap.size ≤ q) q := fun _ h => h
  have hbA : ¬ (fun q : Nat => s.heap.size ≤ q) b := Nat.not_le.mpr hbl
  refine lv_aload_n hx hb dL_law_250 rfl (lv_at hl 2 rfl) ?_
  refine lv_aload_n hx hb dL_law_251 rfl (lv_at hl 3 rfl) ?_
  refine lv_iload_n hx hb dL_law_252 rfl (lv_at hl 0 rfl) ?_
  refine lv_iconst (v := (1 : Int32)) hx hb dL_law_253 (by decide) ?_
  refine lv_iadd hx hb dL_law_254 ?_
  refine va_sld hx hb hX hbl hbA hS hi.1 dL_law_255 ?_
  refine lv_aload_n hx hb dL_law_256 rfl (lv_at hl 3 rfl) ?_
  refine lv_iload_n hx hb dL_law_257 rfl (lv_at hl 0 rfl) ?_
  refine lv_iconst (v := (2 : Int32)) hx hb dL_law_258 (by decide) ?_
  refine lv_iadd hx hb dL_law_259 ?_
  refine va_sld hx hb hX hbl hbA hS hi.2.1 dL_law_260 ?_
  refine lv_aload_n hx hb dL_law_261 rfl (lv_at hl 3 rfl) ?_
  refine lv_iload_n hx hb dL_law_262 rfl (lv_at hl 0 rfl) ?_
  refine lv_iconst (v := (3 : Int32)) hx hb dL_law_263 (by decide) ?_
  refine lv_iadd hx hb dL_law_264 ?_
  refine va_sld hx hb hX hbl hbA hS hi.2.2.1 dL_law_265 ?_
  refine lv_i2l (v := (xs (i + (3 : Int32)).toNatClampNeg).toInt64) hx hb dL_law_266 rfl ?_
  refine lv_bipush (v := (32 : Int32)) hx hb dL_law_267 (by decide) ?_
  refine lv_lshl (v := (((xs (i + (3 : Int32)).toNatClampNeg).toInt64) <<< ((32 : Int32).toInt64 &&& 63))) hx hb dL_law_269 rfl ?_
  refine lv_aload_n hx hb dL_law_270 rfl (lv_at hl 3 rfl) ?_
  refine lv_iload_n hx hb dL_law_271 rfl (lv_at hl 0 rfl) ?_
  refine lv_iconst (v := (4 : Int32)) hx hb dL_law_272 (by decide) ?_
  refine lv_iadd hx hb dL_law_273 ?_
  refine va_sld hx hb hX hbl hbA hS hi.2.2.2.1 dL_law_274 ?_
  refine lv_i2l (v := (xs (i + (4 : Int32)).toNatClampNeg).toInt64) hx hb dL_law_275 rfl ?_
  refine lv_ldc2 (v := (4294967295 : Int64)) hx hb hown (hts _ (wU_tbl _ ul1)) dL_law_276 ?_
  refine lv_land hx hb dL_law_279 ?_
  refine lv_lor hx hb dL_law_280 ?_
  refine lv_aload_n hx hb dL_law_281 rfl (lv_at hl 3 rfl) ?_
  refine lv_iload_n hx hb dL_law_282 rfl (lv_at hl 0 rfl) ?_
  refine lv_iconst (v := (5 : Int32)) hx hb dL_law_283 (by decide) ?_
  refine lv_iadd hx hb dL_law_284 ?_
  refine va_sld hx hb hX hbl hbA hS hi.2.2.2.2.1 dL_law_285 ?_
  refine lv_aload_n hx hb dL_law_286 rfl (lv_at hl 3 rfl) ?_
  refine lv_iload_n hx hb dL_law_287 rfl (lv_at hl 0 rfl) ?_
  refine lv_bipush (v := (6 : Int32)) hx hb dL_law_288 (by decide) ?_
  refine lv_iadd hx hb dL_law_290 ?_
  refine va_sld hx hb hX hbl hbA hS hi.2.2.2.2.2 dL_law_291 ?_
  obtain ⟨kkr1, ffr1, eer1⟩ := hC.recv
  refine lcall (va_runV (As := [.int (xs (i + (1 : Int32)).toNatClampNeg), .int (xs (i + (2 : Int32)).toNatClampNeg), .long ((((xs (i + (3 : Int32)).toNatClampNeg).toInt64) <<< ((32 : Int32).toInt64 &&& 63)) ||| (((xs (i + (4 : Int32)).toNatClampNeg).toInt64) &&& (4294967295 : Int64))), .int (xs (i + (5 : Int32)).toNatClampNeg), .int (xs (i + (6 : Int32)).toNatClampNeg)]) (rest := []) ⟨hx, hb, hml, hown, hts⟩ (zX5_make hC hY (xs (i + (1 : Int32)).toNatClampNeg) (xs (i + (2 : Int32)).toNatClampNeg) ((((xs (i + (3 : Int32)).toNatClampNeg).toInt64) <<< ((32 : Int32).toInt64 &&& 63)) ||| (((xs (i + (4 : Int32)).toNatClampNeg).toInt64) &&& (4294967295 : Int64))) (xs (i + (5 : Int32)).toNatClampNeg) (xs (i + (6 : Int32)).toNatClampNeg) H.size) (cwV 5 hts (gInL (aV ul36 ul37 ul38 ul5 ul39)) rfl rfl rfl (by decide +kernel) ⟨Nat.le_of_ble_eq_true rfl, Nat.le_of_ble_eq_true rfl⟩) (pV hK (pm_Pl hP) (pm_Dl hD) (ci := 5) (q0 := kkr1) rfl eer1) rfl rfl hl.1 rfl (lv_room (Nat.le_of_ble_eq_true rfl)) dL_law_292 ⟨by show _ ≤ 600000; omega, by show _ ≤ 7302250; omega⟩) hP hD hS hA (fun r1 wsr1 H locs hQ hP hD hS => ?_)
  obtain ⟨e1, hC, hY2⟩ := hQ
  have hP := pm_P List.perm_append_comm hP
  have hD := pm_D List.perm_append_comm hD
  refine lv_aload_n hx hb dL_law_295 rfl (lv_at hl 1 rfl) ?_
  refine lv_aload_n hx hb dL_law_296 rfl (lv_at hl 3 rfl) ?_
  refine lv_iload_n hx hb dL_law_297 rfl (lv_at hl 0 rfl) ?_
  refine lv_iconst (v := (1 : Int32)) hx hb dL_law_298 (by decide) ?_
  refine lv_iadd hx hb dL_law_299 ?_
  refine va_sld hx hb hX hbl hbA hS hi.1 dL_law_300 ?_
  refine lv_aload_n hx hb dL_law_301 rfl (lv_at hl 3 rfl) ?_
  refine lv_iload_n hx hb dL_law_302 rfl (lv_at hl 0 rfl) ?_
  refine lv_iconst (v := (2 : Int32)) hx hb dL_law_303 (by decide) ?_
  refine lv_iadd hx hb dL_law_304 ?_
  refine va_sld hx hb hX hbl hbA hS hi.2.1 dL_law_305 ?_
  refine lv_aload_n hx hb dL_law_306 rfl (lv_at hl 3 rfl) ?_
  refine lv_iload_n hx hb dL_law_307 rfl (lv_at hl 0 rfl) ?_
  refine lv_iconst (v := (3 : Int32)) hx hb dL_law_308 (by decide) ?_
  refine lv_iadd hx hb dL_law_309 ?_
  refine va_sld hx hb hX hbl hbA hS hi.2.2.1 dL_law_310 ?_
  refine lv_i2l (v := (xs (i + (3 : Int32)).toNatClampNeg).toInt64) hx hb dL_law_311 rfl ?_
  refine lv_bipush (v := (32 : Int32)) hx hb dL_law_312 (by decide) ?_
  refine lv_lshl (v := (((xs (i + (3 : Int32)).toNatClampNeg).toInt64) <<< ((32 : Int32).toInt64 &&& 63))) hx hb dL_law_314 rfl ?_
  refine lv_aload_n hx hb dL_law_315 rfl (lv_at hl 3 rfl) ?_
  refine lv_iload_n hx hb dL_law_316 rfl (lv_at hl 0 rfl) ?_
  refine lv_iconst (v := (4 : Int32)) hx hb dL_law_317 (by decide) ?_
  refine lv_iadd hx hb dL_law_318 ?_
  refine va_sld hx hb hX hbl hbA hS hi.2.2.2.1 dL_law_319 ?_
  refine lv_i2l (v := (xs (i + (4 : Int32)).toNatClampNeg).toInt64) hx hb dL_law_320 rfl ?_
  refine lv_ldc2 (v := (4294967295 : Int64)) hx hb hown (hts _ (wU_tbl _ ul1)) dL_law_321 ?_
  refine lv_land hx hb dL_law_324 ?_
  refine lv_lor hx hb dL_law_325 ?_
  refine lv_aload_n hx hb dL_law_326 rfl (lv_at hl 3 rfl) ?_
  refine lv_iload_n hx hb dL_law_327 rfl (lv_at hl 0 rfl) ?_
  refine lv_iconst (v := (5 : Int32)) hx hb dL_law_328 (by decide) ?_
  refine lv_iadd hx hb dL_law_329 ?_
  refine va_sld hx hb hX hbl hbA hS hi.2.2.2.2.1 dL_law_330 ?_
  refine lv_aload_n hx hb dL_law_331 rfl (lv_at hl 3 rfl) ?_
  refine lv_iload_n hx hb dL_law_332 rfl (lv_at hl 0 rfl) ?_
  refine lv_bipush (v := (6 : Int32)) hx hb dL_law_333 (by decide) ?_
  refine lv_iadd hx hb dL_law_335 ?_
  refine va_sld hx hb hX hbl hbA hS hi.2.2.2.2.2 dL_law_336 ?_
  obtain ⟨kkr2, ffr2, eer2⟩ := hM.recv
  refine lcall (va_runV (As := [.int (xs (i + (1 : Int32)).toNatClampNeg), .int (xs (i + (2 : Int32)).toNatClampNeg), .long ((((xs (i + (3 : Int32)).toNatClampNeg).toInt64) <<< ((32 : Int32).toInt64 &&& 63)) ||| (((xs (i + (4 : Int32)).toNatClampNeg).toInt64) &&& (4294967295 : Int64))), .int (xs (i + (5 : Int32)).toNatClampNeg), .int (xs (i + (6 : Int32)).toNatClampNeg)]) (rest := [.int r1]) ⟨hx, hb, hml, hown, hts⟩ (zX6_make hM hY (xs (i + (1 : Int32)).toNatClampNeg) (xs (i + (2 : Int32)).toNatClampNeg) ((((xs (i + (3 : Int32)).toNatClampNeg).toInt64) <<< ((32 : Int32).toInt64 &&& 63)) ||| (((xs (i + (4 : Int32)).toNatClampNeg).toInt64) &&& (4294967295 : Int64))) (xs (i + (5 : Int32)).toNatClampNeg) (xs (i + (6 : Int32)).toNatClampNeg) H.size) (cwV 5 hts (gInL (aV ul40 ul41 ul42 ul10 ul43)) rfl rfl rfl (by decide +kernel) ⟨Nat.le_of_ble_eq_true rfl, Nat.le_of_ble_eq_true rfl⟩) (pV hK (pm_Pl hP) (pm_Dl hD) (ci := 6) (q0 := kkr2) rfl eer2) rfl rfl hl.1 rfl (lv_room (Nat.le_of_ble_eq_true rfl)) dL_law_337 ⟨by show _ ≤ 600000; omega, by show _ ≤ 7302250; omega⟩) hP hD hS hA (fun r2 wsr2 H locs hQ hP hD hS => ?_)
  obtain ⟨e2, hM⟩ := hQ
  have hP := pm_P List.perm_append_comm hP
  have hD := pm_D List.perm_append_comm hD
  refine lv_icmp_eq (tgt := 881) hx hb dL_law_340 (by decide) (fun _ => ?_) (fun n => absurd (e1.trans e2.symm) n)
  refine W.widen (k := cells + 4) (n := slots + 295) (by omega) (by omega) ?_
  exact kk _ wsr1 wsr2 H locs ls hY2 hC hM hP hD hS hl
set_option maxHeartbeats 4000000 in
set_option maxRecDepth 100000 in
theorem law_5 {p : Program} {l : Launch} {e : Env} {s : State} {m : MethodId} {below : List Frame} {meth : Method} {c : Code} {b L : Nat} {xs : Nat → Int32} {G : va_G} {cI cZ cP cJ : ClassId} {t1 t2 : Nat} {i : Int32} {cells slots : Nat} (C0 : lw_At p s m meth c b L xs) (hK : KK G [(cI, .int), (cZ, .boolean), (cP, .object RX3), (cJ, .array .int)] s) (hi : vp_in (i + 1) L ∧ vp_in (i + 2) L ∧ vp_in (i + 3) L ∧ vp_in (i + 4) L ∧ vp_in (i + 5) L ∧ vp_in (i + 6) L) (hc : cells + 4 ≤ 600000) (hs : slots + 295 ≤ 7302250) (kk : LI p l e s m below meth c b G cI cZ cP cJ t1 t2 i (cells + 4) (slots + 295) 881) : LI p l e s m below meth c b G cI cZ cP cJ t1 t2 i cells slots 345 := by
  intro Y ws wm H locs ls hY hC hM hP hD hS hl
  obtain ⟨hx, hb, hr, hml, hown, hts, hX, hbl, hlocks, hgv⟩ := id C0
  have hown : s.vm.findClass RL = some m.cls := hown
  have hA : ∀ q : Nat, s.heap.size ≤ q → (fun q : Nat => s.heap.size ≤ q) q := fun _ h => h
  have hbA : ¬ (fun q : Nat => s.heap.size ≤ q) b := Nat.not_le.mpr hbl
  refine lv_aload_n hx hb dL_law_345 rfl (lv_at hl 2 rfl) ?_
  refine lv_aload_n hx hb dL_law_346 rfl (lv_at hl 3 rfl) ?_
  refine lv_iload_n hx hb dL_law_347 rfl (lv_at hl 0 rfl) ?_
  refine lv_iconst (v := (1 : Int32)) hx hb dL_law_348 (by decide) ?_
  refine lv_iadd hx hb dL_law_349 ?_
  refine va_sld hx hb hX hbl hbA hS hi.1 dL_law_350 ?_
  obtain ⟨kkr1, ffr1, eer1⟩ := hC.recv
  refine lcall (va_runV (As := [.int (xs (i + (1 : Int32)).toNatClampNeg)]) (rest := []) ⟨hx, hb, hml, hown, hts⟩ (zX5_point hC hY (xs (i + (1 : Int32)).toNatClampNeg) H.size) (cwV 1 hts (gInL (aV ul44 ul45 ul46 ul5 ul47)) rfl rfl rfl (by decide +kernel) ⟨Nat.le_of_ble_eq_true rfl, Nat.le_of_ble_eq_true rfl⟩) (pV hK (pm_Pl hP) (pm_Dl hD) (ci := 5) (q0 := kkr1) rfl eer1) rfl rfl hl.1 rfl (lv_room (Nat.le_of_ble_eq_true rfl)) dL_law_351 ⟨by show _ ≤ 600000; omega, by show _ ≤ 7302250; omega⟩) hP hD hS hA (fun r1 wsr1 H locs hQ hP hD hS => ?_)
  obtain ⟨e1, hC⟩ := hQ
  have hP := pm_P List.perm_append_comm hP
  have hD := pm_D List.perm_append_comm hD
  refine lv_aload_n hx hb dL_law_354 rfl (lv_at hl 1 rfl) ?_
  refine lv_aload_n hx hb dL_law_355 rfl (lv_at hl 3 rfl) ?_
  refine lv_iload_n hx hb dL_law_356 rfl (lv_at hl 0 rfl) ?_
  refine lv_iconst (v := (1 : Int32)) hx hb dL_law_357 (by decide) ?_
  refine lv_iadd hx hb dL_law_358 ?_
  refine va_sld hx hb hX hbl hbA hS hi.1 dL_law_359 ?_
  obtain ⟨kkr2, ffr2, eer2⟩ := hM.recv
  refine lcall (va_runV (As := [.int (xs (i + (1 : Int32)).toNatClampNeg)]) (rest := [.int r1]) ⟨hx, hb, hml, hown, hts⟩ (zX6_point hM hY (xs (i + (1 : Int32)).toNatClampNeg) H.size) (cwV 1 hts (gInL (aV ul48 ul49 ul50 ul10 ul51)) rfl rfl rfl (by decide +kernel) ⟨Nat.le_of_ble_eq_true rfl, Nat.le_of_ble_eq_true rfl⟩) (pV hK (pm_Pl hP) (pm_Dl hD) (ci := 6) (q0 := kkr2) rfl eer2) rfl rfl hl.1 rfl (lv_room (Nat.le_of_ble_eq_true rfl)) dL_law_360 ⟨by show _ ≤ 600000; omega, by show _ ≤ 7302250; omega⟩) hP hD hS hA (fun r2 wsr2 H locs hQ hP hD hS => ?_)
  obtain ⟨e2, hM⟩ := hQ
  have hP := pm_P List.perm_append_comm hP
  have hD := pm_D List.perm_append_comm hD
  refine lv_icmp_eq (tgt := 881) hx hb dL_law_363 (by decide) (fun _ => ?_) (fun n => absurd (e1.trans e2.symm) n)
  refine W.widen (k := cells + 4) (n := slots + 295) (by omega) (by omega) ?_
  exact kk _ wsr1 wsr2 H locs ls hY hC hM hP hD hS hl
set_option maxHeartbeats 4000000 in
set_option maxRecDepth 100000 in
theorem law_6 {p : Program} {l : Launch} {e : Env} {s : State} {m : MethodId} {below : List Frame} {meth : Method} {c : Code} {b L : Nat} {xs : Nat → Int32} {G : va_G} {cI cZ cP cJ : ClassId} {t1 t2 : Nat} {i : Int32} {cells slots : Nat} (C0 : lw_At p s m meth c b L xs) (hK : KK G [(cI, .int), (cZ, .boolean), (cP, .object RX3), (cJ, .array .int)] s) (hi : vp_in (i + 1) L ∧ vp_in (i + 2) L ∧ vp_in (i + 3) L ∧ vp_in (i + 4) L ∧ vp_in (i + 5) L ∧ vp_in (i + 6) L) (hc : cells + 4 ≤ 600000) (hs : slots + 295 ≤ 7302250) (kk : LI p l e s m below meth c b G cI cZ cP cJ t1 t2 i (cells + 4) (slots + 295) 881) : LI p l e s m below meth c b G cI cZ cP cJ t1 t2 i cells slots 368 := by
  intro Y ws wm H locs ls hY hC hM hP hD hS hl
  obtain ⟨hx, hb, hr, hml, hown, hts, hX, hbl, hlocks, hgv⟩ := id C0
  have hown : s.vm.findClass RL = some m.cls := hown
  have hA : ∀ q : Nat, s.heap.size ≤ q → (fun q : Nat => s.heap.size ≤ q) q := fun _ h => h
  have hbA : ¬ (fun q : Nat => s.heap.size ≤ q) b := Nat.not_le.mpr hbl
  refine lv_aload_n hx hb dL_law_368 rfl (lv_at hl 2 rfl) ?_
  refine lv_aload_n hx hb dL_law_369 rfl (lv_at hl 3 rfl) ?_
  refine lv_iload_n hx hb dL_law_370 rfl (lv_at hl 0 rfl) ?_
  refine lv_iconst (v := (1 : Int32)) hx hb dL_law_371 (by decide) ?_
  refine lv_iadd hx hb dL_law_372 ?_
  refine va_sld hx hb hX hbl hbA hS hi.1 dL_law_373 ?_
  refine lv_aload_n hx hb dL_law_374 rfl (lv_at hl 3 rfl) ?_
  refine lv_iload_n hx hb dL_law_375 rfl (lv_at hl 0 rfl) ?_
  refine lv_iconst (v := (2 : Int32)) hx hb dL_law_376 (by decide) ?_
  refine lv_iadd hx hb dL_law_377 ?_
  refine va_sld hx hb hX hbl hbA hS hi.2.1 dL_law_378 ?_
  obtain ⟨kkr1, ffr1, eer1⟩ := hC.recv
  refine lcall (va_runV (As := [.int (xs (i + (1 : Int32)).toNatClampNeg), .int (xs (i + (2 : Int32)).toNatClampNeg)]) (rest := []) ⟨hx, hb, hml, hown, hts⟩ (zX5_set hC hY (xs (i + (1 : Int32)).toNatClampNeg) (xs (i + (2 : Int32)).toNatClampNeg) H.size) (cwV 2 hts (gInL (aV ul52 ul53 ul54 ul5 ul55)) rfl rfl rfl (by decide +kernel) ⟨Nat.le_of_ble_eq_true rfl, Nat.le_of_ble_eq_true rfl⟩) (pV hK (pm_Pl hP) (pm_Dl hD) (ci := 5) (q0 := kkr1) rfl eer1) rfl rfl hl.1 rfl (lv_room (Nat.le_of_ble_eq_true rfl)) dL_law_379 ⟨by show _ ≤ 600000; omega, by show _ ≤ 7302250; omega⟩) hP hD hS hA (fun r1 wsr1 H locs hQ hP hD hS => ?_)
  obtain ⟨e1, hC⟩ := hQ
  have hP := pm_P List.perm_append_comm hP
  have hD := pm_D List.perm_append_comm hD
  refine lv_aload_n hx hb dL_law_382 rfl (lv_at hl 1 rfl) ?_
  refine lv_aload_n hx hb dL_law_383 rfl (lv_at hl 3 rfl) ?_
  refine lv_iload_n hx hb dL_law_384 rfl (lv_at hl 0 rfl) ?_
  refine lv_iconst (v := (1 : Int32)) hx hb dL_law_385 (by decide) ?_
  refine lv_iadd hx hb dL_law_386 ?_
  refine va_sld hx hb hX hbl hbA hS hi.1 dL_law_387 ?_
  refine lv_aload_n hx hb dL_law_388 rfl (lv_at hl 3 rfl) ?_
  refine lv_iload_n hx hb dL_law_389 rfl (lv_at hl 0 rfl) ?_
  refine lv_iconst (v := (2 : Int32)) hx hb dL_law_390 (by decide) ?_
  refine lv_iadd hx hb dL_law_391 ?_
  refine va_sld hx hb hX hbl hbA hS hi.2.1 dL_law_392 ?_
  obtain ⟨kkr2, ffr2, eer2⟩ := hM.recv
  refine lcall (va_runV (As := [.int (xs (i + (1 : Int32)).toNatClampNeg), .int (xs (i + (2 : Int32)).toNatClampNeg)]) (rest := [.int r1]) ⟨hx, hb, hml, hown, hts⟩ (zX6_set hM hY (xs (i + (1 : Int32)).toNatClampNeg) (xs (i + (2 : Int32)).toNatClampNeg) H.size) (cwV 2 hts (gInL (aV ul56 ul57 ul58 ul10 ul59)) rfl rfl rfl (by decide +kernel) ⟨Nat.le_of_ble_eq_true rfl, Nat.le_of_ble_eq_true rfl⟩) (pV hK (pm_Pl hP) (pm_Dl hD) (ci := 6) (q0 := kkr2) rfl eer2) rfl rfl hl.1 rfl (lv_room (Nat.le_of_ble_eq_true rfl)) dL_law_393 ⟨by show _ ≤ 600000; omega, by show _ ≤ 7302250; omega⟩) hP hD hS hA (fun r2 wsr2 H locs hQ hP hD hS => ?_)
  obtain ⟨e2, hM⟩ := hQ
  have hP := pm_P List.perm_append_comm hP
  have hD := pm_D List.perm_append_comm hD
  refine lv_icmp_eq (tgt := 881) hx hb dL_law_396 (by decide) (fun _ => ?_) (fun n => absurd (e1.trans e2.symm) n)
  refine W.widen (k := cells + 4) (n := slots + 295) (by omega) (by omega) ?_
  exact kk _ wsr1 wsr2 H locs ls (YOK_set hY (xs (i + (1 : Int32)).toNatClampNeg) (xs (i + (2 : Int32)).toNatClampNeg)) hC hM hP hD hS hl
set_option maxHeartbeats 4000000 in
set_option maxRecDepth 100000 in
theorem law_7 {p : Program} {l : Launch} {e : Env} {s : State} {m : MethodId} {below : List Frame} {meth : Method} {c : Code} {b L : Nat} {xs : Nat → Int32} {G : va_G} {cI cZ cP cJ : ClassId} {t1 t2 : Nat} {i : Int32} {cells slots : Nat} (C0 : lw_At p s m meth c b L xs) (hK : KK G [(cI, .int), (cZ, .boolean), (cP, .object RX3), (cJ, .array .int)] s) (hi : vp_in (i + 1) L ∧ vp_in (i + 2) L ∧ vp_in (i + 3) L ∧ vp_in (i + 4) L ∧ vp_in (i + 5) L ∧ vp_in (i + 6) L) (hc : cells + 4 ≤ 600000) (hs : slots + 295 ≤ 7302250) (kk : LI p l e s m below meth c b G cI cZ cP cJ t1 t2 i (cells + 4) (slots + 295) 881) : LI p l e s m below meth c b G cI cZ cP cJ t1 t2 i cells slots 401 := by
  intro Y ws wm H locs ls hY hC hM hP hD hS hl
  obtain ⟨hx, hb, hr, hml, hown, hts, hX, hbl, hlocks, hgv⟩ := id C0
  have hown : s.vm.findClass RL = some m.cls := hown
  have hA : ∀ q : Nat, s.heap.size ≤ q → (fun q : Nat => s.heap.size ≤ q) q := fun _ h => h
  have hbA : ¬ (fun q : Nat => s.heap.size ≤ q) b := Nat.not_le.mpr hbl
  refine lv_aload_n hx hb dL_law_401 rfl (lv_at hl 2 rfl) ?_
  refine lv_aload_n hx hb dL_law_402 rfl (lv_at hl 3 rfl) ?_
  refine lv_iload_n hx hb dL_law_403 rfl (lv_at hl 0 rfl) ?_
  refine lv_iconst (v := (1 : Int32)) hx hb dL_law_404 (by decide) ?_
  refine lv_iadd hx hb dL_law_405 ?_
  refine va_sld hx hb hX hbl hbA hS hi.1 dL_law_406 ?_
  obtain ⟨kkr1, ffr1, eer1⟩ := hC.recv
  refine lcall (va_runV (As := [.int (xs (i + (1 : Int32)).toNatClampNeg)]) (rest := []) ⟨hx, hb, hml, hown, hts⟩ (zX5_about hC hY (xs (i + (1 : Int32)).toNatClampNeg) H.size) (cwV 1 hts (gInL (aV ul60 ul61 ul62 ul5 ul63)) rfl rfl rfl (by decide +kernel) ⟨Nat.le_of_ble_eq_true rfl, Nat.le_of_ble_eq_true rfl⟩) (pV hK (pm_Pl hP) (pm_Dl hD) (ci := 5) (q0 := kkr1) rfl eer1) rfl rfl hl.1 rfl (lv_room (Nat.le_of_ble_eq_true rfl)) dL_law_407 ⟨by show _ ≤ 600000; omega, by show _ ≤ 7302250; omega⟩) hP hD hS hA (fun r1 wsr1 H locs hQ hP hD hS => ?_)
  obtain ⟨e1, hC⟩ := hQ
  have hP := pm_P List.perm_append_comm hP
  have hD := pm_D List.perm_append_comm hD
  refine lv_aload_n hx hb dL_law_410 rfl (lv_at hl 1 rfl) ?_
  refine lv_aload_n hx hb dL_law_411 rfl (lv_at hl 3 rfl) ?_
  refine lv_iload_n hx hb dL_law_412 rfl (lv_at hl 0 rfl) ?_
  refine lv_iconst (v := (1 : Int32)) hx hb dL_law_413 (by decide) ?_
  refine lv_iadd hx hb dL_law_414 ?_
  refine va_sld hx hb hX hbl hbA hS hi.1 dL_law_415 ?_
  obtain ⟨kkr2, ffr2, eer2⟩ := hM.recv
  refine lcall (va_runV (As := [.int (xs (i + (1 : Int32)).toNatClampNeg)]) (rest := [.int r1]) ⟨hx, hb, hml, hown, hts⟩ (zX6_about hM hY (xs (i + (1 : Int32)).toNatClampNeg) H.size) (cwV 1 hts (gInL (aV ul64 ul65 ul66 ul10 ul67)) rfl rfl rfl (by decide +kernel) ⟨Nat.le_of_ble_eq_true rfl, Nat.le_of_ble_eq_true rfl⟩) (pV hK (pm_Pl hP) (pm_Dl hD) (ci := 6) (q0 := kkr2) rfl eer2) rfl rfl hl.1 rfl (lv_room (Nat.le_of_ble_eq_true rfl)) dL_law_416 ⟨by show _ ≤ 600000; omega, by show _ ≤ 7302250; omega⟩) hP hD hS hA (fun r2 wsr2 H locs hQ hP hD hS => ?_)
  obtain ⟨e2, hM⟩ := hQ
  have hP := pm_P List.perm_append_comm hP
  have hD := pm_D List.perm_append_comm hD
  refine lv_icmp_eq (tgt := 881) hx hb dL_law_419 (by decide) (fun _ => ?_) (fun n => absurd (e1.trans e2.symm) n)
  refine W.widen (k := cells + 4) (n := slots + 295) (by omega) (by omega) ?_
  exact kk _ wsr1 wsr2 H locs ls hY hC hM hP hD hS hl
set_option maxHeartbeats 4000000 in
set_option maxRecDepth 100000 in
theorem law_8 {p : Program} {l : Launch} {e : Env} {s : State} {m : MethodId} {below : List Frame} {meth : Method} {c : Code} {b L : Nat} {xs : Nat → Int32} {G : va_G} {cI cZ cP cJ : ClassId} {t1 t2 : Nat} {i : Int32} {cells slots : Nat} (C0 : lw_At p s m meth c b L xs) (hK : KK G [(cI, .int), (cZ, .boolean), (cP, .object RX3), (cJ, .array .int)] s) (hi : vp_in (i + 1) L ∧ vp_in (i + 2) L ∧ vp_in (i + 3) L ∧ vp_in (i + 4) L ∧ vp_in (i + 5) L ∧ vp_in (i + 6) L) (hc : cells + 4 ≤ 600000) (hs : slots + 295 ≤ 7302250) (kk : LI p l e s m below meth c b G cI cZ cP cJ t1 t2 i (cells + 4) (slots + 295) 881) : LI p l e s m below meth c b G cI cZ cP cJ t1 t2 i cells slots 424 := by
  intro Y ws wm H locs ls hY hC hM hP hD hS hl
  obtain ⟨hx, hb, hr, hml, hown, hts, hX, hbl, hlocks, hgv⟩ := id C0
  have hown : s.vm.findClass RL = some m.cls := hown
  have hA : ∀ q : Nat, s.heap.size ≤ q → (fun q : Nat => s.heap.size ≤ q) q := fun _ h => h
  have hbA : ¬ (fun q : Nat => s.heap.size ≤ q) b := Nat.not_le.mpr hbl
  refine lv_aload_n hx hb dL_law_424 rfl (lv_at hl 2 rfl) ?_
  refine lv_aload_n hx hb dL_law_425 rfl (lv_at hl 3 rfl) ?_
  refine lv_iload_n hx hb dL_law_426 rfl (lv_at hl 0 rfl) ?_
  refine lv_iconst (v := (1 : Int32)) hx hb dL_law_427 (by decide) ?_
  refine lv_iadd hx hb dL_law_428 ?_
  refine va_sld hx hb hX hbl hbA hS hi.1 dL_law_429 ?_
  obtain ⟨kkr1, ffr1, eer1⟩ := hC.recv
  refine lcall (va_runV (As := [.int (xs (i + (1 : Int32)).toNatClampNeg)]) (rest := []) ⟨hx, hb, hml, hown, hts⟩ (zX5_loop hC hY (xs (i + (1 : Int32)).toNatClampNeg) H.size) (cwV 1 hts (gInL (aV ul68 ul69 ul70 ul5 ul71)) rfl rfl rfl (by decide +kernel) ⟨Nat.le_of_ble_eq_true rfl, Nat.le_of_ble_eq_true rfl⟩) (pV hK (pm_Pl hP) (pm_Dl hD) (ci := 5) (q0 := kkr1) rfl eer1) rfl rfl hl.1 rfl (lv_room (Nat.le_of_ble_eq_true rfl)) dL_law_430 ⟨by show _ ≤ 600000; omega, by show _ ≤ 7302250; omega⟩) hP hD hS hA (fun r1 wsr1 H locs hQ hP hD hS => ?_)
  obtain ⟨e1, hC⟩ := hQ
  have hP := pm_P List.perm_append_comm hP
  have hD := pm_D List.perm_append_comm hD
  refine lv_aload_n hx hb dL_law_433 rfl (lv_at hl 1 rfl) ?_
  refine lv_aload_n hx hb dL_law_434 rfl (lv_at hl 3 rfl) ?_
  refine lv_iload_n hx hb dL_law_435 rfl (lv_at hl 0 rfl) ?_
  refine lv_iconst (v := (1 : Int32)) hx hb dL_law_436 (by decide) ?_
  refine lv_iadd hx hb dL_law_437 ?_
  refine va_sld hx hb hX hbl hbA hS hi.1 dL_law_438 ?_
  obtain ⟨kkr2, ffr2, eer2⟩ := hM.recv
  refine lcall (va_runV (As := [.int (xs (i + (1 : Int32)).toNatClampNeg)]) (rest := [.int r1]) ⟨hx, hb, hml, hown, hts⟩ (zX6_loop hM hY (xs (i + (1 : Int32)).toNatClampNeg) H.size) (cwV 1 hts (gInL (aV ul72 ul73 ul74 ul10 ul75)) rfl rfl rfl (by decide +kernel) ⟨Nat.le_of_ble_eq_true rfl, Nat.le_of_ble_eq_true rfl⟩) (pV hK (pm_Pl hP) (pm_Dl hD) (ci := 6) (q0 := kkr2) rfl eer2) rfl rfl hl.1 rfl (lv_room (Nat.le_of_ble_eq_true rfl)) dL_law_439 ⟨by show _ ≤ 600000; omega, by show _ ≤ 7302250; omega⟩) hP hD hS hA (fun r2 wsr2 H locs hQ hP hD hS => ?_)
  obtain ⟨e2, hM⟩ := hQ
  have hP := pm_P List.perm_append_comm hP
  have hD := pm_D List.perm_append_comm hD
  refine lv_icmp_eq (tgt := 881) hx hb dL_law_442 (by decide) (fun _ => ?_) (fun n => absurd (e1.trans e2.symm) n)
  refine W.widen (k := cells + 4) (n := slots + 295) (by omega) (by omega) ?_
  exact kk _ wsr1 wsr2 H locs ls hY hC hM hP hD hS hl
set_option maxHeartbeats 4000000 in
set_option maxRecDepth 100000 in
theorem law_9 {p : Program} {l : Launch} {e : Env} {s : State} {m : MethodId} {below : List Frame} {meth : Method} {c : Code} {b L : Nat} {xs : Nat → Int32} {G : va_G} {cI cZ cP cJ : ClassId} {t1 t2 : Nat} {i : Int32} {cells slots : Nat} (C0 : lw_At p s m meth c b L xs) (hK : KK G [(cI, .int), (cZ, .boolean), (cP, .object RX3), (cJ, .array .int)] s) (hi : vp_in (i + 1) L ∧ vp_in (i + 2) L ∧ vp_in (i + 3) L ∧ vp_in (i + 4) L ∧ vp_in (i + 5) L ∧ vp_in (i + 6) L) (hc : cells + 4 ≤ 600000) (hs : slots + 295 ≤ 7302250) (kk : LI p l e s m below meth c b G cI cZ cP cJ t1 t2 i (cells + 4) (slots + 295) 881) : LI p l e s m below meth c b G cI cZ cP cJ t1 t2 i cells slots 447 := by
  intro Y ws wm H locs ls hY hC hM hP hD hS hl
  obtain ⟨hx, hb, hr, hml, hown, hts, hX, hbl, hlocks, hgv⟩ := id C0
  have hown : s.vm.findClass RL = some m.cls := hown
  have hA : ∀ q : Nat, s.heap.size ≤ q → (fun q : Nat => s.heap.size ≤ q) q := fun _ h => h
  have hbA : ¬ (fun q : Nat => s.heap.size ≤ q) b := Nat.not_le.mpr hbl
  refine lv_aload_n hx hb dL_law_447 rfl (lv_at hl 2 rfl) ?_
  refine lv_aload_n hx hb dL_law_448 rfl (lv_at hl 3 rfl) ?_
  refine lv_iload_n hx hb dL_law_449 rfl (lv_at hl 0 rfl) ?_
  refine lv_iconst (v := (1 : Int32)) hx hb dL_law_450 (by decide) ?_
  refine lv_iadd hx hb dL_law_451 ?_
  refine va_sld hx hb hX hbl hbA hS hi.1 dL_law_452 ?_
  refine lv_aload_n hx hb dL_law_453 rfl (lv_at hl 3 rfl) ?_
  refine lv_iload_n hx hb dL_law_454 rfl (lv_at hl 0 rfl) ?_
  refine lv_iconst (v := (2 : Int32)) hx hb dL_law_455 (by decide) ?_
  refine lv_iadd hx hb dL_law_456 ?_
  refine va_sld hx hb hX hbl hbA hS hi.2.1 dL_law_457 ?_
  obtain ⟨kkr1, ffr1, eer1⟩ := hC.recv
  refine lcall (va_runV (As := [.int (xs (i + (1 : Int32)).toNatClampNeg), .int (xs (i + (2 : Int32)).toNatClampNeg)]) (rest := []) ⟨hx, hb, hml, hown, hts⟩ (zX5_along hC hY (xs (i + (1 : Int32)).toNatClampNeg) (xs (i + (2 : Int32)).toNatClampNeg) H.size) (cwV 2 hts (gInL (aV ul76 ul77 ul78 ul5 ul79)) rfl rfl rfl (by decide +kernel) ⟨Nat.le_of_ble_eq_true rfl, Nat.le_of_ble_eq_true rfl⟩) (pV hK (pm_Pl hP) (pm_Dl hD) (ci := 5) (q0 := kkr1) rfl eer1) rfl rfl hl.1 rfl (lv_room (Nat.le_of_ble_eq_true rfl)) dL_law_458 ⟨by show _ ≤ 600000; omega, by show _ ≤ 7302250; omega⟩) hP hD hS hA (fun r1 wsr1 H locs hQ hP hD hS => ?_)
  obtain ⟨e1, hC⟩ := hQ
  have hP := pm_P List.perm_append_comm hP
  have hD := pm_D List.perm_append_comm hD
  refine lv_aload_n hx hb dL_law_461 rfl (lv_at hl 1 rfl) ?_
  refine lv_aload_n hx hb dL_law_462 rfl (lv_at hl 3 rfl) ?_
  refine lv_iload_n hx hb dL_law_463 rfl (lv_at hl 0 rfl) ?_
  refine lv_iconst (v := (1 : Int32)) hx hb dL_law_464 (by decide) ?_
  refine lv_iadd hx hb dL_law_465 ?_
  refine va_sld hx hb hX hbl hbA hS hi.1 dL_law_466 ?_
  refine lv_aload_n hx hb dL_law_467 rfl (lv_at hl 3 rfl) ?_
  refine lv_iload_n hx hb dL_law_468 rfl (lv_at hl 0 rfl) ?_
  refine lv_iconst (v := (2 : Int32)) hx hb dL_law_469 (by decide) ?_
  refine lv_iadd hx hb dL_law_470 ?_
  refine va_sld hx hb hX hbl hbA hS hi.2.1 dL_law_471 ?_
  obtain ⟨kkr2, ffr2, eer2⟩ := hM.recv
  refine lcall (va_runV (As := [.int (xs (i + (1 : Int32)).toNatClampNeg), .int (xs (i + (2 : Int32)).toNatClampNeg)]) (rest := [.int r1]) ⟨hx, hb, hml, hown, hts⟩ (zX6_along hM hY (xs (i + (1 : Int32)).toNatClampNeg) (xs (i + (2 : Int32)).toNatClampNeg) H.size) (cwV 2 hts (gInL (aV ul80 ul81 ul82 ul10 ul83)) rfl rfl rfl (by decide +kernel) ⟨Nat.le_of_ble_eq_true rfl, Nat.le_of_ble_eq_true rfl⟩) (pV hK (pm_Pl hP) (pm_Dl hD) (ci := 6) (q0 := kkr2) rfl eer2) rfl rfl hl.1 rfl (lv_room (Nat.le_of_ble_eq_true rfl)) dL_law_472 ⟨by show _ ≤ 600000; omega, by show _ ≤ 7302250; omega⟩) hP hD hS hA (fun r2 wsr2 H locs hQ hP hD hS => ?_)
  obtain ⟨e2, hM⟩ := hQ
  have hP := pm_P List.perm_append_comm hP
  have hD := pm_D List.perm_append_comm hD
  refine lv_icmp_eq (tgt := 881) hx hb dL_law_475 (by decide) (fun _ => ?_) (fun n => absurd (e1.trans e2.symm) n)
  refine W.widen (k := cells + 4) (n := slots + 295) (by omega) (by omega) ?_
  exact kk _ wsr1 wsr2 H locs ls hY hC hM hP hD hS hl
set_option maxHeartbeats 4000000 in
set_option maxRecDepth 100000 in
theorem law_10 {p : Program} {l : Launch} {e : Env} {s : State} {m : MethodId} {below : List Frame} {meth : Method} {c : Code} {b L : Nat} {xs : Nat → Int32} {G : va_G} {cI cZ cP cJ : ClassId} {t1 t2 : Nat} {i : Int32} {cells slots : Nat} (C0 : lw_At p s m meth c b L xs) (hK : KK G [(cI, .int), (cZ, .boolean), (cP, .object RX3), (cJ, .array .int)] s) (hi : vp_in (i + 1) L ∧ vp_in (i + 2) L ∧ vp_in (i + 3) L ∧ vp_in (i + 4) L ∧ vp_in (i + 5) L ∧ vp_in (i + 6) L) (hc : cells + 4 ≤ 600000) (hs : slots + 295 ≤ 7302250) (kk : LI p l e s m below meth c b G cI cZ cP cJ t1 t2 i (cells + 4) (slots + 295) 881) : LI p l e s m below meth c b G cI cZ cP cJ t1 t2 i cells slots 480 := by
  intro Y ws wm H locs ls hY hC hM hP hD hS hl
  obtain ⟨hx, hb, hr, hml, hown, hts, hX, hbl, hlocks, hgv⟩ := id C0
  have hown : s.vm.findClass RL = some m.cls := hown
  have hA : ∀ q : Nat, s.heap.size ≤ q → (fun q : Nat => s.heap.size ≤ q) q := fun _ h => h
  have hbA : ¬ (fun q : Nat => s.heap.size ≤ q) b := Nat.not_le.mpr hbl
  refine lv_aload_n hx hb dL_law_480 rfl (lv_at hl 2 rfl) ?_
  refine lv_aload_n hx hb dL_law_481 rfl (lv_at hl 3 rfl) ?_
  refine lv_iload_n hx hb dL_law_482 rfl (lv_at hl 0 rfl) ?_
  refine lv_iconst (v := (1 : Int32)) hx hb dL_law_483 (by decide) ?_
  refine lv_iadd hx hb dL_law_484 ?_
  refine va_sld hx hb hX hbl hbA hS hi.1 dL_law_485 ?_
  refine lv_aload_n hx hb dL_law_486 rfl (lv_at hl 3 rfl) ?_
  refine lv_iload_n hx hb dL_law_487 rfl (lv_at hl 0 rfl) ?_
  refine lv_iconst (v := (2 : Int32)) hx hb dL_law_488 (by decide) ?_
  refine lv_iadd hx hb dL_law_489 ?_
  refine va_sld hx hb hX hbl hbA hS hi.2.1 dL_law_490 ?_
  obtain ⟨kkr1, ffr1, eer1⟩ := hC.recv
  refine lcall (va_runV (As := [.int (xs (i + (1 : Int32)).toNatClampNeg), .int (xs (i + (2 : Int32)).toNatClampNeg)]) (rest := []) ⟨hx, hb, hml, hown, hts⟩ (zX5_step hC hY (xs (i + (1 : Int32)).toNatClampNeg) (xs (i + (2 : Int32)).toNatClampNeg) H.size) (cwV 2 hts (gInL (aV ul84 ul85 ul86 ul5 ul87)) rfl rfl rfl (by decide +kernel) ⟨Nat.le_of_ble_eq_true rfl, Nat.le_of_ble_eq_true rfl⟩) (pV hK (pm_Pl hP) (pm_Dl hD) (ci := 5) (q0 := kkr1) rfl eer1) rfl rfl hl.1 rfl (lv_room (Nat.le_of_ble_eq_true rfl)) dL_law_491 ⟨by show _ ≤ 600000; omega, by show _ ≤ 7302250; omega⟩) hP hD hS hA (fun r1 wsr1 H locs hQ hP hD hS => ?_)
  obtain ⟨e1, hC⟩ := hQ
  have hP := pm_P List.perm_append_comm hP
  have hD := pm_D List.perm_append_comm hD
  refine lv_aload_n hx hb dL_law_494 rfl (lv_at hl 1 rfl) ?_
  refine lv_aload_n hx hb dL_law_495 rfl (lv_at hl 3 rfl) ?_
  refine lv_iload_n hx hb dL_law_496 rfl (lv_at hl 0 rfl) ?_
  refine lv_iconst (v := (1 : Int32)) hx hb dL_law_497 (by decide) ?_
  refine lv_iadd hx hb dL_law_498 ?_
  refine va_sld hx hb hX hbl hbA hS hi.1 dL_law_499 ?_
  refine lv_aload_n hx hb dL_law_500 rfl (lv_at hl 3 rfl) ?_
  refine lv_iload_n hx hb dL_law_501 rfl (lv_at hl 0 rfl) ?_
  refine lv_iconst (v := (2 : Int32)) hx hb dL_law_502 (by decide) ?_
  refine lv_iadd hx hb dL_law_503 ?_
  refine va_sld hx hb hX hbl hbA hS hi.2.1 dL_law_504 ?_
  obtain ⟨kkr2, ffr2, eer2⟩ := hM.recv
  refine lcall (va_runV (As := [.int (xs (i + (1 : Int32)).toNatClampNeg), .int (xs (i + (2 : Int32)).toNatClampNeg)]) (rest := [.int r1]) ⟨hx, hb, hml, hown, hts⟩ (zX6_step hM hY (xs (i + (1 : Int32)).toNatClampNeg) (xs (i + (2 : Int32)).toNatClampNeg) H.size) (cwV 2 hts (gInL (aV ul88 ul89 ul90 ul10 ul91)) rfl rfl rfl (by decide +kernel) ⟨Nat.le_of_ble_eq_true rfl, Nat.le_of_ble_eq_true rfl⟩) (pV hK (pm_Pl hP) (pm_Dl hD) (ci := 6) (q0 := kkr2) rfl eer2) rfl rfl hl.1 rfl (lv_room (Nat.le_of_ble_eq_true rfl)) dL_law_505 ⟨by show _ ≤ 600000; omega, by show _ ≤ 7302250; omega⟩) hP hD hS hA (fun r2 wsr2 H locs hQ hP hD hS => ?_)
  obtain ⟨e2, hM⟩ := hQ
  have hP := pm_P List.perm_append_comm hP
  have hD := pm_D List.perm_append_comm hD
  refine lv_icmp_eq (tgt := 881) hx hb dL_law_508 (by decide) (fun _ => ?_) (fun n => absurd (e1.trans e2.symm) n)
  refine W.widen (k := cells + 4) (n := slots + 295) (by omega) (by omega) ?_
  exact kk _ wsr1 wsr2 H locs ls hY hC hM hP hD hS hl
set_option maxHeartbeats 4000000 in
set_option maxRecDepth 100000 in
theorem law_11 {p : Program} {l : Launch} {e : Env} {s : State} {m : MethodId} {below : List Frame} {meth : Method} {c : Code} {b L : Nat} {xs : Nat → Int32} {G : va_G} {cI cZ cP cJ : ClassId} {t1 t2 : Nat} {i : Int32} {cells slots : Nat} (C0 : lw_At p s m meth c b L xs) (hK : KK G [(cI, .int), (cZ, .boolean), (cP, .object RX3), (cJ, .array .int)] s) (hi : vp_in (i + 1) L ∧ vp_in (i + 2) L ∧ vp_in (i + 3) L ∧ vp_in (i + 4) L ∧ vp_in (i + 5) L ∧ vp_in (i + 6) L) (hc : cells + 4 ≤ 600000) (hs : slots + 295 ≤ 7302250) (kk : LI p l e s m below meth c b G cI cZ cP cJ t1 t2 i (cells + 4) (slots + 295) 881) : LI p l e s m below meth c b G cI cZ cP cJ t1 t2 i cells slots 513 := by
  intro Y ws wm H locs ls hY hC hM hP hD hS hl
  obtain ⟨hx, hb, hr, hml, hown, hts, hX, hbl, hlocks, hgv⟩ := id C0
  have hown : s.vm.findClass RL = some m.cls := hown
  have hA : ∀ q : Nat, s.heap.size ≤ q → (fun q : Nat => s.heap.size ≤ q) q := fun _ h => h
  have hbA : ¬ (fun q : Nat => s.heap.size ≤ q) b := Nat.not_le.mpr hbl
  refine lv_aload_n hx hb dL_law_513 rfl (lv_at hl 2 rfl) ?_
  refine lv_aload_n hx hb dL_law_514 rfl (lv_at hl 3 rfl) ?_
  refine lv_iload_n hx hb dL_law_515 rfl (lv_at hl 0 rfl) ?_
  refine lv_iconst (v := (1 : Int32)) hx hb dL_law_516 (by decide) ?_
  refine lv_iadd hx hb dL_law_517 ?_
  refine va_sld hx hb hX hbl hbA hS hi.1 dL_law_518 ?_
  refine lv_aload_n hx hb dL_law_519 rfl (lv_at hl 3 rfl) ?_
  refine lv_iload_n hx hb dL_law_520 rfl (lv_at hl 0 rfl) ?_
  refine lv_iconst (v := (2 : Int32)) hx hb dL_law_521 (by decide) ?_
  refine lv_iadd hx hb dL_law_522 ?_
  refine va_sld hx hb hX hbl hbA hS hi.2.1 dL_law_523 ?_
  obtain ⟨kkr1, ffr1, eer1⟩ := hC.recv
  refine lcall (va_runV (As := [.int (xs (i + (1 : Int32)).toNatClampNeg), .int (xs (i + (2 : Int32)).toNatClampNeg)]) (rest := []) ⟨hx, hb, hml, hown, hts⟩ (zX5_end hC hY (xs (i + (1 : Int32)).toNatClampNeg) (xs (i + (2 : Int32)).toNatClampNeg) H.size) (cwV 2 hts (gInL (aV ul92 ul93 ul94 ul5 ul95)) rfl rfl rfl (by decide +kernel) ⟨Nat.le_of_ble_eq_true rfl, Nat.le_of_ble_eq_true rfl⟩) (pV hK (pm_Pl hP) (pm_Dl hD) (ci := 5) (q0 := kkr1) rfl eer1) rfl rfl hl.1 rfl (lv_room (Nat.le_of_ble_eq_true rfl)) dL_law_524 ⟨by show _ ≤ 600000; omega, by show _ ≤ 7302250; omega⟩) hP hD hS hA (fun r1 wsr1 H locs hQ hP hD hS => ?_)
  obtain ⟨e1, hC⟩ := hQ
  have hP := pm_P List.perm_append_comm hP
  have hD := pm_D List.perm_append_comm hD
  refine lv_aload_n hx hb dL_law_527 rfl (lv_at hl 1 rfl) ?_
  refine lv_aload_n hx hb dL_law_528 rfl (lv_at hl 3 rfl) ?_
  refine lv_iload_n hx hb dL_law_529 rfl (lv_at hl 0 rfl) ?_
  refine lv_iconst (v := (1 : Int32)) hx hb dL_law_530 (by decide) ?_
  refine lv_iadd hx hb dL_law_531 ?_
  refine va_sld hx hb hX hbl hbA hS hi.1 dL_law_532 ?_
  refine lv_aload_n hx hb dL_law_533 rfl (lv_at hl 3 rfl) ?_
  refine lv_iload_n hx hb dL_law_534 rfl (lv_at hl 0 rfl) ?_
  refine lv_iconst (v := (2 : Int32)) hx hb dL_law_535 (by decide) ?_
  refine lv_iadd hx hb dL_law_536 ?_
  refine va_sld hx hb hX hbl hbA hS hi.2.1 dL_law_537 ?_
  obtain ⟨kkr2, ffr2, eer2⟩ := hM.recv
  refine lcall (va_runV (As := [.int (xs (i + (1 : Int32)).toNatClampNeg), .int (xs (i + (2 : Int32)).toNatClampNeg)]) (rest := [.int r1]) ⟨hx, hb, hml, hown, hts⟩ (zX6_end hM hY (xs (i + (1 : Int32)).toNatClampNeg) (xs (i + (2 : Int32)).toNatClampNeg) H.size) (cwV 2 hts (gInL (aV ul96 ul97 ul98 ul10 ul99)) rfl rfl rfl (by decide +kernel) ⟨Nat.le_of_ble_eq_true rfl, Nat.le_of_ble_eq_true rfl⟩) (pV hK (pm_Pl hP) (pm_Dl hD) (ci := 6) (q0 := kkr2) rfl eer2) rfl rfl hl.1 rfl (lv_room (Nat.le_of_ble_eq_true rfl)) dL_law_538 ⟨by show _ ≤ 600000; omega, by show _ ≤ 7302250; omega⟩) hP hD hS hA (fun r2 wsr2 H locs hQ hP hD hS => ?_)
  obtain ⟨e2, hM⟩ := hQ
  have hP := pm_P List.perm_append_comm hP
  have hD := pm_D List.perm_append_comm hD
  refine lv_icmp_eq (tgt := 881) hx hb dL_law_541 (by decide) (fun _ => ?_) (fun n => absurd (e1.trans e2.symm) n)
  refine W.widen (k := cells + 4) (n := slots + 295) (by omega) (by omega) ?_
  exact kk _ wsr1 wsr2 H locs ls hY hC hM hP hD hS hl
set_option maxHeartbeats 4000000 in
set_option maxRecDepth 100000 in
theorem law_12 {p : Program} {l : Launch} {e : Env} {s : State} {m : MethodId} {below : List Frame} {meth : Method} {c : Code} {b L : Nat} {xs : Nat → Int32} {G : va_G} {cI cZ cP cJ : ClassId} {t1 t2 : Nat} {i : Int32} {cells slots : Nat} (C0 : lw_At p s m meth c b L xs) (hK : KK G [(cI, .int), (cZ, .boolean), (cP, .object RX3), (cJ, .array .int)] s) (hi : vp_in (i + 1) L ∧ vp_in (i + 2) L ∧ vp_in (i + 3) L ∧ vp_in (i + 4) L ∧ vp_in (i + 5) L ∧ vp_in (i + 6) L) (hc : cells + 4 ≤ 600000) (hs : slots + 295 ≤ 7302250) (kk : LI p l e s m below meth c b G cI cZ cP cJ t1 t2 i (cells + 4) (slots + 295) 881) : LI p l e s m below meth c b G cI cZ cP cJ t1 t2 i cells slots 546 := by
  intro Y ws wm H locs ls hY hC hM hP hD hS hl
  obtain ⟨hx, hb, hr, hml, hown, hts, hX, hbl, hlocks, hgv⟩ := id C0
  have hown : s.vm.findClass RL = some m.cls := hown
  have hA : ∀ q : Nat, s.heap.size ≤ q → (fun q : Nat => s.heap.size ≤ q) q := fun _ h => h
  have hbA : ¬ (fun q : Nat => s.heap.size ≤ q) b := Nat.not_le.mpr hbl
  refine lv_aload_n hx hb dL_law_546 rfl (lv_at hl 2 rfl) ?_
  refine lv_aload_n hx hb dL_law_547 rfl (lv_at hl 3 rfl) ?_
  refine lv_iload_n hx hb dL_law_548 rfl (lv_at hl 0 rfl) ?_
  refine lv_iconst (v := (1 : Int32)) hx hb dL_law_549 (by decide) ?_
  refine lv_iadd hx hb dL_law_550 ?_
  refine va_sld hx hb hX hbl hbA hS hi.1 dL_law_551 ?_
  refine lv_aload_n hx hb dL_law_552 rfl (lv_at hl 3 rfl) ?_
  refine lv_iload_n hx hb dL_law_553 rfl (lv_at hl 0 rfl) ?_
  refine lv_iconst (v := (2 : Int32)) hx hb dL_law_554 (by decide) ?_
  refine lv_iadd hx hb dL_law_555 ?_
  refine va_sld hx hb hX hbl hbA hS hi.2.1 dL_law_556 ?_
  obtain ⟨kkr1, ffr1, eer1⟩ := hC.recv
  refine lcall (va_runV (As := [.int (xs (i + (1 : Int32)).toNatClampNeg), .int (xs (i + (2 : Int32)).toNatClampNeg)]) (rest := []) ⟨hx, hb, hml, hown, hts⟩ (zX5_between hC hY (xs (i + (1 : Int32)).toNatClampNeg) (xs (i + (2 : Int32)).toNatClampNeg) H.size) (cwV 2 hts (gInL (aV ul100 ul101 ul102 ul5 ul103)) rfl rfl rfl (by decide +kernel) ⟨Nat.le_of_ble_eq_true rfl, Nat.le_of_ble_eq_true rfl⟩) (pV hK (pm_Pl hP) (pm_Dl hD) (ci := 5) (q0 := kkr1) rfl eer1) rfl rfl hl.1 rfl (lv_room (Nat.le_of_ble_eq_true rfl)) dL_law_557 ⟨by show _ ≤ 600000; omega, by show _ ≤ 7302250; omega⟩) hP hD hS hA (fun r1 wsr1 H locs hQ hP hD hS => ?_)
  obtain ⟨e1, hC⟩ := hQ
  have hP := pm_P List.perm_append_comm hP
  have hD := pm_D List.perm_append_comm hD
  refine lv_aload_n hx hb dL_law_560 rfl (lv_at hl 1 rfl) ?_
  refine lv_aload_n hx hb dL_law_561 rfl (lv_at hl 3 rfl) ?_
  refine lv_iload_n hx hb dL_law_562 rfl (lv_at hl 0 rfl) ?_
  refine lv_iconst (v := (1 : Int32)) hx hb dL_law_563 (by decide) ?_
  refine lv_iadd hx hb dL_law_564 ?_
  refine va_sld hx hb hX hbl hbA hS hi.1 dL_law_565 ?_
  refine lv_aload_n hx hb dL_law_566 rfl (lv_at hl 3 rfl) ?_
  refine lv_iload_n hx hb dL_law_567 rfl (lv_at hl 0 rfl) ?_
  refine lv_iconst (v := (2 : Int32)) hx hb dL_law_568 (by decide) ?_
  refine lv_iadd hx hb dL_law_569 ?_
  refine va_sld hx hb hX hbl hbA hS hi.2.1 dL_law_570 ?_
  obtain ⟨kkr2, ffr2, eer2⟩ := hM.recv
  refine lcall (va_runV (As := [.int (xs (i + (1 : Int32)).toNatClampNeg), .int (xs (i + (2 : Int32)).toNatClampNeg)]) (rest := [.int r1]) ⟨hx, hb, hml, hown, hts⟩ (zX6_between hM hY (xs (i + (1 : Int32)).toNatClampNeg) (xs (i + (2 : Int32)).toNatClampNeg) H.size) (cwV 2 hts (gInL (aV ul104 ul105 ul106 ul10 ul107)) rfl rfl rfl (by decide +kernel) ⟨Nat.le_of_ble_eq_true rfl, Nat.le_of_ble_eq_true rfl⟩) (pV hK (pm_Pl hP) (pm_Dl hD) (ci := 6) (q0 := kkr2) rfl eer2) rfl rfl hl.1 rfl (lv_room (Nat.le_of_ble_eq_true rfl)) dL_law_571 ⟨by show _ ≤ 600000; omega, by show _ ≤ 7302250; omega⟩) hP hD hS hA (fun r2 wsr2 H locs hQ hP hD hS => ?_)
  obtain ⟨e2, hM⟩ := hQ
  have hP := pm_P List.perm_append_comm hP
  have hD := pm_D List.perm_append_comm hD
  refine lv_icmp_eq (tgt := 881) hx hb dL_law_574 (by decide) (fun _ => ?_) (fun n => absurd (e1.trans e2.symm) n)
  refine W.widen (k := cells + 4) (n := slots + 295) (by omega) (by omega) ?_
  exact kk _ wsr1 wsr2 H locs ls hY hC hM hP hD hS hl
