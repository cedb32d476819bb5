theorem lw_more {L j : Nat} (hL : L ≤ 3584) (hj : 7 * j ≤ L) (h : ¬ nI L - 7 < nI (7 * j)) : 7 * j + 7 ≤ L := by
  have e : (nI L - 7).toInt = (L : Int) - 7 := by
    rw [Int32.toInt_sub, nI_toInt' (by omega), show (7 : Int32).toInt = 7 from rfl]
    apply Int.bmod_eq_of_le <;> omega
  rw [Int32.lt_iff_toInt_lt, e, nI_toInt' (by omega)] at h
  omega
theorem lw_add {a k : Nat} : nI a + nI k = nI (a + k) := by simp [nI]
theorem l7' : (7 : Int32) = nI 7 := rfl
set_option maxHeartbeats 4000000 in
set_option maxRecDepth 100000 in
theorem law_body {p : Program} {l : Launch} {e : Env} {s : State} {m : MethodId} {below : List Frame} {meth : Method} {c : Code} {b L : Nat} {xs : Nat → Int32} {G : va_G} {cI cZ cP cJ : ClassId} {t1 t2 : Nat} {i : Int32} {cells slots : Nat} (C0 : lw_At p s m meth c b L xs) (hK : KK G [(cI, .int), (cZ, .boolean), (cP, .object RX3), (cJ, .array .int)] s) (h0 : vp_in i L) (hi : vp_in (i + 1) L ∧ vp_in (i + 2) L ∧ vp_in (i + 3) L ∧ vp_in (i + 4) L ∧ vp_in (i + 5) L ∧ vp_in (i + 6) L) (hc : cells + 4 ≤ 600000) (hs : slots + 295 ≤ 7302250) (kk : LI p l e s m below meth c b G cI cZ cP cJ t1 t2 i (cells + 4) (slots + 295) 881) : LI p l e s m below meth c b G cI cZ cP cJ t1 t2 i cells slots 27 := by
  intro Y ws wm H locs ls hY hC hM hP hD hS hl
  obtain ⟨hx, hb, hr, hml, hown, hts, hX, hbl, hlocks, hgv⟩ := id C0
  have hbA : ¬ (fun q : Nat => s.heap.size ≤ q) b := Nat.not_le.mpr hbl
  refine lv_aload_n hx hb dL_law_27 rfl (lv_at hl 3 rfl) ?_
  refine lv_iload_n hx hb dL_law_28 rfl (lv_at hl 0 rfl) ?_
  refine va_sld hx hb hX hbl hbA hS h0 dL_law_29 ?_
  refine lv_bipush (v := (31 : Int32)) hx hb dL_law_30 (by decide) ?_
  refine lv_iand hx hb dL_law_32 ?_
  refine lv_topi (fun x ex => ?_)
  by_cases q0 : x = 0
  · refine lv_tableIn (off := 115) (tgt := 148) hx hb dL_law_33 (by rw [q0]; decide) (by rw [q0]; decide) (by rw [q0]; rfl) (by decide) ?_
    exact law_0 C0 hK hi hc hs kk Y ws wm H locs ls hY hC hM hP hD hS hl
  by_cases q1 : x = 1
  · refine lv_tableIn (off := 178) (tgt := 211) hx hb dL_law_33 (by rw [q1]; decide) (by rw [q1]; decide) (by rw [q1]; rfl) (by decide) ?_
    exact law_1 C0 hK hi hc hs kk Y ws wm H locs ls hY hC hM hP hD hS hl
  by_cases q2 : x = 2
  · refine lv_tableIn (off := 191) (tgt := 224) hx hb dL_law_33 (by rw [q2]; decide) (by rw [q2]; decide) (by rw [q2]; rfl) (by decide) ?_
    exact law_2 C0 hK hi hc hs kk Y ws wm H locs ls hY hC hM hP hD hS hl
  by_cases q3 : x = 3
  · refine lv_tableIn (off := 204) (tgt := 237) hx hb dL_law_33 (by rw [q3]; decide) (by rw [q3]; decide) (by rw [q3]; rfl) (by decide) ?_
    exact law_3 C0 hK hi hc hs kk Y ws wm H locs ls hY hC hM hP hD hS hl
  by_cases q4 : x = 4
  · refine lv_tableIn (off := 217) (tgt := 250) hx hb dL_law_33 (by rw [q4]; decide) (by rw [q4]; decide) (by rw [q4]; rfl) (by decide) ?_
    exact law_4 C0 hK hi hc hs kk Y ws wm H locs ls hY hC hM hP hD hS hl
  by_cases q5 : x = 5
  · refine lv_tableIn (off := 312) (tgt := 345) hx hb dL_law_33 (by rw [q5]; decide) (by rw [q5]; decide) (by rw [q5]; rfl) (by decide) ?_
    exact law_5 C0 hK hi hc hs kk Y ws wm H locs ls hY hC hM hP hD hS hl
  by_cases q6 : x = 6
  · refine lv_tableIn (off := 335) (tgt := 368) hx hb dL_law_33 (by rw [q6]; decide) (by rw [q6]; decide) (by rw [q6]; rfl) (by decide) ?_
    exact law_6 C0 hK hi hc hs kk Y ws wm H locs ls hY hC hM hP hD hS hl
  by_cases q7 : x = 7
  · refine lv_tableIn (off := 368) (tgt := 401) hx hb dL_law_33 (by rw [q7]; decide) (by rw [q7]; decide) (by rw [q7]; rfl) (by decide) ?_
    exact law_7 C0 hK hi hc hs kk Y ws wm H locs ls hY hC hM hP hD hS hl
  by_cases q8 : x = 8
  · refine lv_tableIn (off := 391) (tgt := 424) hx hb dL_law_33 (by rw [q8]; decide) (by rw [q8]; decide) (by rw [q8]; rfl) (by decide) ?_
    exact law_8 C0 hK hi hc hs kk Y ws wm H locs ls hY hC hM hP hD hS hl
  by_cases q9 : x = 9
  · refine lv_tableIn (off := 414) (tgt := 447) hx hb dL_law_33 (by rw [q9]; decide) (by rw [q9]; decide) (by rw [q9]; rfl) (by decide) ?_
    exact law_9 C0 hK hi hc hs kk Y ws wm H locs ls hY hC hM hP hD hS hl
  by_cases q10 : x = 10
  · refine lv_tableIn (off := 447) (tgt := 480) hx hb dL_law_33 (by rw [q10]; decide) (by rw [q10]; decide) (by rw [q10]; rfl) (by decide) ?_
    exact law_10 C0 hK hi hc hs kk Y ws wm H locs ls hY hC hM hP hD hS hl
  by_cases q11 : x = 11
  · refine lv_tableIn (off := 480) (tgt := 513) hx hb dL_law_33 (by rw [q11]; decide) (by rw [q11]; decide) (by rw [q11]; rfl) (by decide) ?_
    exact law_11 C0 hK hi hc hs kk Y ws wm H locs ls hY hC hM hP hD hS hl
  by_cases q12 : x = 12
  · refine lv_tableIn (off := 513) (tgt := 546) hx hb dL_law_33 (by rw [q12]; decide) (by rw [q12]; decide) (by rw [q12]; rfl) (by decide) ?_
    exact law_12 C0 hK hi hc hs kk Y ws wm H locs ls hY hC hM hP hD hS hl
  by_cases q13 : x = 13
  · refine lv_tableIn (off := 546) (tgt := 579) hx hb dL_law_33 (by rw [q13]; decide) (by rw [q13]; decide) (by rw [q13]; rfl) (by decide) ?_
    exact law_13 C0 hK hi hc hs kk Y ws wm H locs ls hY hC hM hP hD hS hl
  by_cases q14 : x = 14
  · refine lv_tableIn (off := 595) (tgt := 628) hx hb dL_law_33 (by rw [q14]; decide) (by rw [q14]; decide) (by rw [q14]; rfl) (by decide) ?_
    exact law_14 C0 hK hi hc hs kk Y ws wm H locs ls hY hC hM hP hD hS hl
  by_cases q15 : x = 15
  · refine lv_tableIn (off := 618) (tgt := 651) hx hb dL_law_33 (by rw [q15]; decide) (by rw [q15]; decide) (by rw [q15]; rfl) (by decide) ?_
    exact law_15 C0 hK hi hc hs kk Y ws wm H locs ls hY hC hM hP hD hS hl
  by_cases q16 : x = 16
  · refine lv_tableIn (off := 631) (tgt := 664) hx hb dL_law_33 (by rw [q16]; decide) (by rw [q16]; decide) (by rw [q16]; rfl) (by decide) ?_
    exact law_16 C0 hK hi hc hs kk Y ws wm H locs ls hY hC hM hP hD hS hl
  by_cases q17 : x = 17
  · refine lv_tableIn (off := 664) (tgt := 697) hx hb dL_law_33 (by rw [q17]; decide) (by rw [q17]; decide) (by rw [q17]; rfl) (by decide) ?_
    exact law_17 C0 hK hi hc hs kk Y ws wm H locs ls hY hC hM hP hD hS hl
  by_cases q18 : x = 18
  · refine lv_tableIn (off := 687) (tgt := 720) hx hb dL_law_33 (by rw [q18]; decide) (by rw [q18]; decide) (by rw [q18]; rfl) (by decide) ?_
    exact law_18 C0 hK hi hc hs kk Y ws wm H locs ls hY hC hM hP hD hS hl
  by_cases q19 : x = 19
  · refine lv_tableIn (off := 720) (tgt := 753) hx hb dL_law_33 (by rw [q19]; decide) (by rw [q19]; decide) (by rw [q19]; rfl) (by decide) ?_
    exact law_19 C0 hK hi hc hs kk Y ws wm H locs ls hY hC hM hP hD hS hl
  by_cases q20 : x = 20
  · refine lv_tableIn (off := 743) (tgt := 776) hx hb dL_law_33 (by rw [q20]; decide) (by rw [q20]; decide) (by rw [q20]; rfl) (by decide) ?_
    exact law_20 C0 hK hi hc hs kk Y ws wm H locs ls hY hC hM hP hD hS hl
  by_cases q21 : x = 21
  · refine lv_tableIn (off := 756) (tgt := 789) hx hb dL_law_33 (by rw [q21]; decide) (by rw [q21]; decide) (by rw [q21]; rfl) (by decide) ?_
    exact law_21 C0 hK hi hc hs kk Y ws wm H locs ls hY hC hM hP hD hS hl
  by_cases q22 : x = 22
  · refine lv_tableIn (off := 779) (tgt := 812) hx hb dL_law_33 (by rw [q22]; decide) (by rw [q22]; decide) (by rw [q22]; rfl) (by decide) ?_
    exact law_22 C0 hK hi hc hs kk Y ws wm H locs ls hY hC hM hP hD hS hl
  by_cases q23 : x = 23
  · refine lv_tableIn (off := 802) (tgt := 835) hx hb dL_law_33 (by rw [q23]; decide) (by rw [q23]; decide) (by rw [q23]; rfl) (by decide) ?_
    exact law_23 C0 hK hi hc hs kk Y ws wm H locs ls hY hC hM hP hD hS hl
  by_cases q24 : x = 24
  · refine lv_tableIn (off := 825) (tgt := 858) hx hb dL_law_33 (by rw [q24]; decide) (by rw [q24]; decide) (by rw [q24]; rfl) (by decide) ?_
    exact law_24 C0 hK hi hc hs kk Y ws wm H locs ls hY hC hM hP hD hS hl
  have t0 := lv_neT (a := 0) q0 rfl
  have t1 := lv_neT (a := 1) q1 rfl
  have t2 := lv_neT (a := 2) q2 rfl
  have t3 := lv_neT (a := 3) q3 rfl
  have t4 := lv_neT (a := 4) q4 rfl
  have t5 := lv_neT (a := 5) q5 rfl
  have t6 := lv_neT (a := 6) q6 rfl
  have t7 := lv_neT (a := 7) q7 rfl
  have t8 := lv_neT (a := 8) q8 rfl
  have t9 := lv_neT (a := 9) q9 rfl
  have t10 := lv_neT (a := 10) q10 rfl
  have t11 := lv_neT (a := 11) q11 rfl
  have t12 := lv_neT (a := 12) q12 rfl
  have t13 := lv_neT (a := 13) q13 rfl
  have t14 := lv_neT (a := 14) q14 rfl
  have t15 := lv_neT (a := 15) q15 rfl
  have t16 := lv_neT (a := 16) q16 rfl
  have t17 := lv_neT (a := 17) q17 rfl
  have t18 := lv_neT (a := 18) q18 rfl
  have t19 := lv_neT (a := 19) q19 rfl
  have t20 := lv_neT (a := 20) q20 rfl
  have t21 := lv_neT (a := 21) q21 rfl
  have t22 := lv_neT (a := 22) q22 rfl
  have t23 := lv_neT (a := 23) q23 rfl
  have t24 := lv_neT (a := 24) q24 rfl
  refine lv_tableOut (tgt := 881) hx hb dL_law_33 (by omega) (by decide) ?_
  refine W.widen (k := cells + 4) (n := slots + 295) (by omega) (by omega) ?_
  exact kk Y ws wm H locs ls hY hC hM hP hD hS hl
set_option maxHeartbeats 4000000 in
set_option maxRecDepth 100000 in
theorem law_loop {p : Program} {l : Launch} {e : Env} {s : State} {m : MethodId} {below : List Frame} {meth : Method} {c : Code} {b L : Nat} {xs : Nat → Int32} {G : va_G} {cI cZ cP cJ : ClassId} {t1 t2 : Nat} (hL : L ≤ 3584) (C0 : lw_At p s m meth c b L xs) (hK : KK G [(cI, .int), (cZ, .boolean), (cP, .object RX3), (cJ, .array .int)] s) : ∀ (n j : Nat), 7 * j ≤ L → L < 7 * (j + n) → LI p l e s m below meth c b G cI cZ cP cJ t1 t2 (nI (7 * j)) (119 + 4 * j) (22037 + 295 * j) 18 := by
  intro n
  induction n with
  | zero => intro j h1 h2; omega
  | succ n ih =>
    intro j h1 h2 Y ws wm H locs ls hY hC hM hP hD hS hl
    obtain ⟨hx, hb, hr, hml, hown, hts, hX, hbl, hlocks, hgv⟩ := id C0
    have hbA : ¬ (fun q : Nat => s.heap.size ≤ q) b := Nat.not_le.mpr hbl
    refine lv_iload_n hx hb dL_law_18 rfl (lv_at hl 0 rfl) ?_
    refine lv_aload_n hx hb dL_law_19 rfl (lv_at hl 3 rfl) ?_
    refine va_slen hx hb hX hbl hbA hS dL_law_20 ?_
    refine lv_bipush (v := (7 : Int32)) hx hb dL_law_21 (by decide) ?_
    refine lv_isub hx hb dL_law_23 ?_
    refine lv_icmp_gt (tgt := 887) hx hb dL_law_24 (by decide) (fun _ => ?_) (fun q => ?_)
    · refine lv_iconst (v := 1) hx hb dL_law_887 (by decide) ?_
      refine va_forget (fun q h => hS.2.2 q h) ?_
      refine W.widen (k := 600000) (n := 7302250) (by omega) (by omega) ?_
      exact lw_ret hx hb hr hlocks dL_law_888
    · have h7 := lw_more hL h1 q
      have hin : ∀ k : Nat, k < 7 → vp_in (nI (7 * j) + nI k) L := fun k hk => by rw [lw_add]; exact vp_nI (by omega)
      have h0 : vp_in (nI (7 * j)) L := vp_nI (by omega)
      refine law_body C0 hK h0 ⟨hin 1 (by omega), hin 2 (by omega), hin 3 (by omega), hin 4 (by omega), hin 5 (by omega), hin 6 (by omega)⟩ (by omega) (by omega) ?_ Y ws wm H locs ls hY hC hM hP hD hS hl
      intro Y ws wm H locs ls hY hC hM hP hD hS hl
      have e7 : nI (7 * j) + 7 = nI (7 * (j + 1)) := by rw [l7', lw_add]; congr 1
      refine lv_iinc (v := nI (7 * (j + 1))) (lv' := [(3, .int (nI (7 * (j + 1)))), (2, .ref t2), (1, .ref t1), (0, .ref b)]) hx hb dL_law_881 hl (k := 0) rfl (by rw [← e7]; rfl) (by decide) rfl (fun ls hl => ?_)
      refine lv_goto (tgt := 18) hx hb dL_law_884 (by decide) ?_
      refine W.widen (k := 119 + 4 * (j + 1)) (n := 22037 + 295 * (j + 1)) (by omega) (by omega) ?_
      exact ih (j + 1) (by omega) (by omega) Y ws wm H locs ls hY hC hM hP hD hS hl
