
noncomputable def Ywrite (Y : YS) (n : Int32) (v : Int64) : Int32 × YS := (rgI 1 8 n).elim (-2, Y) (fun m => if 72 < Y.2.2.2.2.1 + m then (-4, Y) else (nI (Y.2.2.2.2.1 + m), (Y.1, Y.2.1, Y.2.2.1, wrT m v Y.2.2.2.1 Y.2.2.2.2.1, Y.2.2.2.2.1 + m, Y.2.2.2.2.2)))
noncomputable def Ywipe (Y : YS) : Int32 × YS := (nI Y.2.2.2.2.1, (Y.1, Y.2.1, Y.2.2.1, Y.2.2.2.1, 0, Y.2.2.2.2.2))
noncomputable def Yfault (Y : YS) : Int32 × YS := ((rdT Y.2.2.2.1 Y.2.2.2.2.1).1, Y)
noncomputable def Yplait (Y : YS) : Int32 × YS := if (rdT Y.2.2.2.1 Y.2.2.2.2.1).1 = -9 then (nI (inN (rdT Y.2.2.2.1 Y.2.2.2.2.1).2.1 (rdT Y.2.2.2.1 Y.2.2.2.2.1).2.2.1), ((rdT Y.2.2.2.1 Y.2.2.2.2.1).2.1, (rdT Y.2.2.2.1 Y.2.2.2.2.1).2.2.1, (rdT Y.2.2.2.1 Y.2.2.2.2.1).2.2.2, Y.2.2.2.1, Y.2.2.2.2.1, Y.2.2.2.2.2)) else (-3, Y)
noncomputable def Ymake (Y : YS) (p1 p2 : Int32) (p3 : Int64) (p4 p5 : Int32) : Int32 × YS := (mkI p1 p2 p4 p5).elim (-2, Y) (fun z => (nI (inN z.1 z.2.1), (z.1, z.2.1, soE z.1 z.2.1 z.2.2.1 z.2.2.2 p3, Y.2.2.2.1, Y.2.2.2.2.1, Y.2.2.2.2.2)))
noncomputable def Ypoint (Y : YS) (x : Int32) : Int32 × YS := (aPoint Y.1 Y.2.1 Y.2.2.1 x, Y)
noncomputable def Yset (Y : YS) (x w : Int32) : Int32 × YS := (aSet Y.1 Y.2.1 Y.2.2.1 x w, (Y.1, Y.2.1, kSet Y.1 Y.2.1 Y.2.2.1 x w, Y.2.2.2.1, Y.2.2.2.2.1, Y.2.2.2.2.2))
noncomputable def Yabout (Y : YS) (x : Int32) : Int32 × YS := (aAbout Y.1 Y.2.1 Y.2.2.1 Y.2.2.2.2.1 x, Y)
noncomputable def Yloop (Y : YS) (x : Int32) : Int32 × YS := (aLoop Y.1 Y.2.1 Y.2.2.1 x, Y)
noncomputable def Yalong (Y : YS) (x w : Int32) : Int32 × YS := (aAlong Y.1 Y.2.1 Y.2.2.1 x w, Y)
noncomputable def Ystep (Y : YS) (x w : Int32) : Int32 × YS := (aStep Y.1 Y.2.1 Y.2.2.1 x w, Y)
noncomputable def Yend (Y : YS) (x w : Int32) : Int32 × YS := (aEnd Y.1 Y.2.1 Y.2.2.1 x w, Y)
noncomputable def Ybetween (Y : YS) (x w : Int32) : Int32 × YS := (aBetween Y.1 Y.2.1 Y.2.2.1 x w, Y)
noncomputable def Ywhich (Y : YS) (x w : Int32) : Int32 × YS := (aWhich Y.1 Y.2.1 Y.2.2.1 x w, Y)
noncomputable def Ysign (Y : YS) (x : Int32) : Int32 × YS := (aSign Y.1 Y.2.1 Y.2.2.1 x, Y)
noncomputable def Ywrithe (Y : YS) : Int32 × YS := (1000 + swE Y.1 Y.2.1 Y.2.2.1, Y)
noncomputable def Ylinked (Y : YS) (x w : Int32) : Int32 × YS := (aLinked Y.1 Y.2.1 Y.2.2.1 x w, Y)
noncomputable def Ycolours (Y : YS) (x : Int32) : Int32 × YS := (aColours Y.1 Y.2.1 Y.2.2.1 x, Y)
noncomputable def Yby (Y : YS) (x w : Int32) : Int32 × YS := (aBy Y.1 Y.2.1 Y.2.2.1 x w, Y)
noncomputable def Ymost (Y : YS) (x : Int32) : Int32 × YS := (aMost Y.1 Y.2.1 Y.2.2.1 x, Y)
noncomputable def Yone (Y : YS) : Int32 × YS := (aOne Y.1 Y.2.1 Y.2.2.1, Y)
noncomputable def YoneAt (Y : YS) (x : Int32) : Int32 × YS := (aOneAt Y.1 Y.2.1 Y.2.2.1 x, Y)
noncomputable def Ysame (Y : YS) (x : Int32) : Int32 × YS := (aSame Y.1 Y.2.1 Y.2.2.1 x, Y)
noncomputable def Ykeep (Y : YS) (x : Int32) : Int32 × YS := (rgI 0 1 x).elim (-1, Y) (fun s => (nI (inN Y.1 Y.2.1), (Y.1, Y.2.1, Y.2.2.1, Y.2.2.2.1, Y.2.2.2.2.1, kpU Y.2.2.2.2.2 s (Y.1, Y.2.1, Y.2.2.1))))
noncomputable def Yagain (Y : YS) (x : Int32) : Int32 × YS := (rgI 0 1 x).elim (-1, Y) (fun s => (Y.2.2.2.2.2 s).elim (-3, Y) (fun v => (nI (inN v.1 v.2.1), (v.1, v.2.1, v.2.2, Y.2.2.2.1, Y.2.2.2.2.1, Y.2.2.2.2.2))))
theorem pm_col {wc wr k0 k1 pl x : va_W} (h : x = (wc ++ (wr ++ (k0 ++ k1))) ++ pl) : (wc ++ (wr ++ (k0 ++ (k1 ++ pl)))).Perm (x ++ []) := by
  rw [h, List.append_nil]
  simp only [List.append_assoc]
  exact List.Perm.refl _
set_option maxHeartbeats 4000000 in
set_option maxRecDepth 100000 in
theorem zX5_point {l : Launch} {G : va_G} {cI cZ cP cJ : ClassId} {t : Nat} {Y : YS} {ws : va_W} (hC : CW cI cP cJ t Y ws) (hY : YOK Y) (p1 : Int32) : MC l G cI cZ cP cJ yX5_point wsX5_point rmX5_point [.ref t, .int p1] 0 0 ws (fun r ws' => r = (Ypoint Y p1).1 ∧ CW cI cP cJ t (Ypoint Y p1).2 ws') := by
  obtain ⟨r, c, k, tx, ln, kp⟩ := Y
  obtain ⟨hR, hk, hln, htx, hkp⟩ := hY
  obtain ⟨a, L, s_length, s_signs, s_r, s_kind, s_y, d_down, d_across, d_inner, d_points, d_kinds, d_numbers, l_count, l_steps, l_owners, l_firsts, l_ownersBySteps, l_cells, l_ends, l_rightward, l_downward, c_arcs, c_ties, c_passes, c_arcsBySteps, c_overs, c_unders, c_tied, c_groups, g_width, g_height, g_rules, f_down, f_across, f_inner, f_points, f_kinds, f_numbers, r_down, r_across, r_inner, r_points, r_kinds, r_numbers, m_count, m_steps, m_owners, m_firsts, m_ownersBySteps, m_cells, m_ends, m_rightward, m_downward, fk, zs, g_rows, hW, e1, hT, hPl, hLo, hCr, hRl, hm, hKp⟩ := hC
  dsimp only at hR hk hln htx hkp e1 hT hPl hLo hCr hKp
  subst e1
  obtain ⟨k_t, e_t⟩ := pm_get (q := (t, .inr (5, [.ref (a 1), .ref (a 3), .ref (a 7), .ref (a 15), .ref (a 22), .ref (a 24), .ref (a 28), .ref (a 32), .ref (a 40)]))) hW 0 rfl
  obtain ⟨k_d, e_d⟩ := pm_get (q := ((a 3), .inr (3, [.int d_down, .int d_across, .int d_inner, .ref (a 4), .ref (a 5), .ref (a 6)]))) hW 3 rfl
  obtain ⟨k_d_kinds, e_d_kinds⟩ := pm_get (q := ((a 5), .inl (cI, 60, .inl d_kinds))) hW 5 rfl
  obtain ⟨k_d_numbers, e_d_numbers⟩ := pm_get (q := ((a 6), .inl (cI, 169, .inl d_numbers))) hW 6 rfl
  exact fr_r (post := fun x _ => x = (Ypoint (r, c, k, tx, ln, kp) p1).1) (fun sz => kX5_point (ws := ws) k_t k_d k_d_kinds k_d_numbers t (a 1) (a 3) (a 7) (a 15) (a 22) (a 24) (a 28) (a 32) (a 40) (a 4) (a 5) (a 6) d_down d_across d_inner d_kinds d_numbers e_t e_d e_d_kinds e_d_numbers p1 (c_point hR hPl (Q := fun x => x = (Ypoint (r, c, k, tx, ln, kp) p1).1) rfl) sz) (fun x h => ⟨h, CW.mk (a := a) (L := L) (zs := zs) hW rfl hT hPl hLo hCr hRl hm hKp⟩)
set_option maxHeartbeats 4000000 in
set_option maxRecDepth 100000 in
theorem zX5_about {l : Launch} {G : va_G} {cI cZ cP cJ : ClassId} {t : Nat} {Y : YS} {ws : va_W} (hC : CW cI cP cJ t Y ws) (hY : YOK Y) (p1 : Int32) : MC l G cI cZ cP cJ yX5_about wsX5_about rmX5_about [.ref t, .int p1] 0 0 ws (fun r ws' => r = (Yabout Y p1).1 ∧ CW cI cP cJ t (Yabout Y p1).2 ws') := by
  obtain ⟨r, c, k, tx, ln, kp⟩ := Y
  obtain ⟨hR, hk, hln, htx, hkp⟩ := hY
  obtain ⟨a, L, s_length, s_signs, s_r, s_kind, s_y, d_down, d_across, d_inner, d_points, d_kinds, d_numbers, l_count, l_steps, l_owners, l_firsts, l_ownersBySteps, l_cells, l_ends, l_rightward, l_downward, c_arcs, c_ties, c_passes, c_arcsBySteps, c_overs, c_unders, c_tied, c_groups, g_width, g_height, g_rules, f_down, f_across, f_inner, f_points, f_kinds, f_numbers, r_down, r_across, r_inner, r_points, r_kinds, r_numbers, m_count, m_steps, m_owners, m_firsts, m_ownersBySteps, m_cells, m_ends, m_rightward, m_downward, fk, zs, g_rows, hW, e1, hT, hPl, hLo, hCr, hRl, hm, hKp⟩ := hC
  dsimp only at hR hk hln htx hkp e1 hT hPl hLo hCr hKp
  subst e1
  obtain ⟨k_t, e_t⟩ := pm_get (q := (t, .inr (5, [.ref (a 1), .ref (a 3), .ref (a 7), .ref (a 15), .ref (a 22), .ref (a 24), .ref (a 28), .ref (a 32), .ref (a 40)]))) hW 0 rfl
  obtain ⟨k_s, e_s⟩ := pm_get (q := ((a 1), .inr (4, [.int (nI ln), .ref (a 2), .int s_r, .int s_kind, .int s_y]))) hW 1 rfl
  obtain ⟨k_d, e_d⟩ := pm_get (q := ((a 3), .inr (3, [.int d_down, .int d_across, .int d_inner, .ref (a 4), .ref (a 5), .ref (a 6)]))) hW 3 rfl
  obtain ⟨k_d_kinds, e_d_kinds⟩ := pm_get (q := ((a 5), .inl (cI, 60, .inl d_kinds))) hW 5 rfl
  obtain ⟨k_l, e_l⟩ := pm_get (q := ((a 7), .inr (2, [.int l_count, .int l_steps, .ref (a 8), .ref (a 9), .ref (a 10), .ref (a 11), .ref (a 12), .ref (a 13), .ref (a 14)]))) hW 7 rfl
  obtain ⟨k_c, e_c⟩ := pm_get (q := ((a 15), .inr (1, [.int c_arcs, .int c_ties, .ref (a 16), .ref (a 17), .ref (a 18), .ref (a 19), .ref (a 20), .ref (a 21)]))) hW 15 rfl
  exact fr_r (post := fun x _ => x = (Yabout (r, c, k, tx, ln, kp) p1).1) (fun sz => kX5_about (ws := ws) k_t k_s k_d k_d_kinds k_l k_c t (a 1) (a 3) (a 7) (a 15) (a 22) (a 24) (a 28) (a 32) (a 40) (a 2) (a 4) (a 5) (a 6) (a 8) (a 9) (a 10) (a 11) (a 12) (a 13) (a 14) (a 16) (a 17) (a 18) (a 19) (a 20) (a 21) (nI ln) s_r s_kind s_y d_down d_across d_inner d_kinds l_count l_steps c_arcs c_ties e_t e_s e_d e_d_kinds e_l e_c p1 (c_about hR hk hPl hLo hCr (Q := fun x => x = (Yabout (r, c, k, tx, ln, kp) p1).1) rfl) sz) (fun x h => ⟨h, CW.mk (a := a) (L := L) (zs := zs) hW rfl hT hPl hLo hCr hRl hm hKp⟩)
set_option maxHeartbeats 4000000 in
set_option maxRecDepth 100000 in
theorem zX5_loop {l : Launch} {G : va_G} {cI cZ cP cJ : ClassId} {t : Nat} {Y : YS} {ws : va_W} (hC : CW cI cP cJ t Y ws) (hY : YOK Y) (p1 : Int32) : MC l G cI cZ cP cJ yX5_loop wsX5_loop rmX5_loop [.ref t, .int p1] 0 0 ws (fun r ws' => r = (Yloop Y p1).1 ∧ CW cI cP cJ t (Yloop Y p1).2 ws') := by
  obtain ⟨r, c, k, tx, ln, kp⟩ := Y
  obtain ⟨hR, hk, hln, htx, hkp⟩ := hY
  obtain ⟨a, L, s_length, s_signs, s_r, s_kind, s_y, d_down, d_across, d_inner, d_points, d_kinds, d_numbers, l_count, l_steps, l_owners, l_firsts, l_ownersBySteps, l_cells, l_ends, l_rightward, l_downward, c_arcs, c_ties, c_passes, c_arcsBySteps, c_overs, c_unders, c_tied, c_groups, g_width, g_height, g_rules, f_down, f_across, f_inner, f_points, f_kinds, f_numbers, r_down, r_across, r_inner, r_points, r_kinds, r_numbers, m_count, m_steps, m_owners, m_firsts, m_ownersBySteps, m_cells, m_ends, m_rightward, m_downward, fk, zs, g_rows, hW, e1, hT, hPl, hLo, hCr, hRl, hm, hKp⟩ := hC
  dsimp only at hR hk hln htx hkp e1 hT hPl hLo hCr hKp
  subst e1
  obtain ⟨k_t, e_t⟩ := pm_get (q := (t, .inr (5, [.ref (a 1), .ref (a 3), .ref (a 7), .ref (a 15), .ref (a 22), .ref (a 24), .ref (a 28), .ref (a 32), .ref (a 40)]))) hW 0 rfl
  obtain ⟨k_l, e_l⟩ := pm_get (q := ((a 7), .inr (2, [.int l_count, .int l_steps, .ref (a 8), .ref (a 9), .ref (a 10), .ref (a 11), .ref (a 12), .ref (a 13), .ref (a 14)]))) hW 7 rfl
  obtain ⟨k_l_owners, e_l_owners⟩ := pm_get (q := ((a 8), .inl (cI, 144, .inl l_owners))) hW 8 rfl
  exact fr_r (post := fun x _ => x = (Yloop (r, c, k, tx, ln, kp) p1).1) (fun sz => kX5_loop (ws := ws) k_t k_l k_l_owners t (a 1) (a 3) (a 7) (a 15) (a 22) (a 24) (a 28) (a 32) (a 40) (a 8) (a 9) (a 10) (a 11) (a 12) (a 13) (a 14) l_count l_steps l_owners e_t e_l e_l_owners p1 (c_loop hR hLo.2.2.1 (Q := fun x => x = (Yloop (r, c, k, tx, ln, kp) p1).1) rfl) sz) (fun x h => ⟨h, CW.mk (a := a) (L := L) (zs := zs) hW rfl hT hPl hLo hCr hRl hm hKp⟩)
set_option maxHeartbeats 4000000 in
set_option maxRecDepth 100000 in
theorem zX5_along {l : Launch} {G : va_G} {cI cZ cP cJ : ClassId} {t : Nat} {Y : YS} {ws : va_W} (hC : CW cI cP cJ t Y ws) (hY : YOK Y) (p1 : Int32) (p2 : Int32) : MC l G cI cZ cP cJ yX5_along wsX5_along rmX5_along [.ref t, .int p1, .int p2] 0 0 ws (fun r ws' => r = (Yalong Y p1 p2).1 ∧ CW cI cP cJ t (Yalong Y p1 p2).2 ws') := by
  obtain ⟨r, c, k, tx, ln, kp⟩ := Y
  obtain ⟨hR, hk, hln, htx, hkp⟩ := hY
  obtain ⟨a, L, s_length, s_signs, s_r, s_kind, s_y, d_down, d_across, d_inner, d_points, d_kinds, d_numbers, l_count, l_steps, l_owners, l_firsts, l_ownersBySteps, l_cells, l_ends, l_rightward, l_downward, c_arcs, c_ties, c_passes, c_arcsBySteps, c_overs, c_unders, c_tied, c_groups, g_width, g_height, g_rules, f_down, f_across, f_inner, f_points, f_kinds, f_numbers, r_down, r_across, r_inner, r_points, r_kinds, r_numbers, m_count, m_steps, m_owners, m_firsts, m_ownersBySteps, m_cells, m_ends, m_rightward, m_downward, fk, zs, g_rows, hW, e1, hT, hPl, hLo, hCr, hRl, hm, hKp⟩ := hC
  dsimp only at hR hk hln htx hkp e1 hT hPl hLo hCr hKp
  subst e1
  obtain ⟨k_t, e_t⟩ := pm_get (q := (t, .inr (5, [.ref (a 1), .ref (a 3), .ref (a 7), .ref (a 15), .ref (a 22), .ref (a 24), .ref (a 28), .ref (a 32), .ref (a 40)]))) hW 0 rfl
  obtain ⟨k_l, e_l⟩ := pm_get (q := ((a 7), .inr (2, [.int l_count, .int l_steps, .ref (a 8), .ref (a 9), .ref (a 10), .ref (a 11), .ref (a 12), .ref (a 13), .ref (a 14)]))) hW 7 rfl
  obtain ⟨k_l_firsts, e_l_firsts⟩ := pm_get (q := ((a 9), .inl (cI, 37, .inl l_firsts))) hW 9 rfl
  obtain ⟨k_l_ownersBySteps, e_l_ownersBySteps⟩ := pm_get (q := ((a 10), .inl (cI, 144, .inl l_ownersBySteps))) hW 10 rfl
  obtain ⟨k_l_cells, e_l_cells⟩ := pm_get (q := ((a 11), .inl (cI, 144, .inl l_cells))) hW 11 rfl
  obtain ⟨k_c, e_c⟩ := pm_get (q := ((a 15), .inr (1, [.int c_arcs, .int c_ties, .ref (a 16), .ref (a 17), .ref (a 18), .ref (a 19), .ref (a 20), .ref (a 21)]))) hW 15 rfl
  obtain ⟨k_c_passes, e_c_passes⟩ := pm_get (q := ((a 16), .inl (cI, 144, .inl c_passes))) hW 16 rfl
  obtain ⟨k_c_overs, e_c_overs⟩ := pm_get (q := ((a 18), .inl (cI, 60, .inl c_overs))) hW 18 rfl
  obtain ⟨k_c_unders, e_c_unders⟩ := pm_get (q := ((a 19), .inl (cI, 60, .inl c_unders))) hW 19 rfl
  exact fr_r (post := fun x _ => x = (Yalong (r, c, k, tx, ln, kp) p1 p2).1) (fun sz => kX5_along (ws := ws) k_t k_l k_l_firsts k_l_ownersBySteps k_l_cells k_c k_c_passes k_c_overs k_c_unders t (a 1) (a 3) (a 7) (a 15) (a 22) (a 24) (a 28) (a 32) (a 40) (a 8) (a 9) (a 10) (a 11) (a 12) (a 13) (a 14) (a 16) (a 17) (a 18) (a 19) (a 20) (a 21) l_count l_steps l_firsts l_ownersBySteps l_cells c_arcs c_ties c_passes c_overs c_unders e_t e_l e_l_firsts e_l_ownersBySteps e_l_cells e_c e_c_passes e_c_overs e_c_unders p1 p2 (c_along hR hLo hCr (Q := fun x => x = (Yalong (r, c, k, tx, ln, kp) p1 p2).1) rfl) sz) (fun x h => ⟨h, CW.mk (a := a) (L := L) (zs := zs) hW rfl hT hPl hLo hCr hRl hm hKp⟩)
set_option maxHeartbeats 4000000 in
set_option maxRecDepth 100000 in
theorem zX5_step {l : Launch} {G : va_G} {cI cZ cP cJ : ClassId} {t : Nat} {Y : YS} {ws : va_W} (hC : CW cI cP cJ t Y ws) (hY : YOK Y) (p1 : Int32) (p2 : Int32) : MC l G cI cZ cP cJ yX5_step wsX5_step rmX5_step [.ref t, .int p1, .int p2] 0 0 ws (fun r ws' => r = (Ystep Y p1 p2).1 ∧ CW cI cP cJ t (Ystep Y p1 p2).2 ws') := by
  obtain ⟨r, c, k, tx, ln, kp⟩ := Y
  obtain ⟨hR, hk, hln, htx, hkp⟩ := hY
  obtain ⟨a, L, s_length, s_signs, s_r, s_kind, s_y, d_down, d_across, d_inner, d_points, d_kinds, d_numbers, l_count, l_steps, l_owners, l_firsts, l_ownersBySteps, l_cells, l_ends, l_rightward, l_downward, c_arcs, c_ties, c_passes, c_arcsBySteps, c_overs, c_unders, c_tied, c_groups, g_width, g_height, g_rules, f_down, f_across, f_inner, f_points, f_kinds, f_numbers, r_down, r_across, r_inner, r_points, r_kinds, r_numbers, m_count, m_steps, m_owners, m_firsts, m_ownersBySteps, m_cells, m_ends, m_rightward, m_downward, fk, zs, g_rows, hW, e1, hT, hPl, hLo, hCr, hRl, hm, hKp⟩ := hC
  dsimp only at hR hk hln htx hkp e1 hT hPl hLo hCr hKp
  subst e1
  obtain ⟨k_t, e_t⟩ := pm_get (q := (t, .inr (5, [.ref (a 1), .ref (a 3), .ref (a 7), .ref (a 15), .ref (a 22), .ref (a 24), .ref (a 28), .ref (a 32), .ref (a 40)]))) hW 0 rfl
  obtain ⟨k_l, e_l⟩ := pm_get (q := ((a 7), .inr (2, [.int l_count, .int l_steps, .ref (a 8), .ref (a 9), .ref (a 10), .ref (a 11), .ref (a 12), .ref (a 13), .ref (a 14)]))) hW 7 rfl
  obtain ⟨k_l_firsts, e_l_firsts⟩ := pm_get (q := ((a 9), .inl (cI, 37, .inl l_firsts))) hW 9 rfl
  obtain ⟨k_l_cells, e_l_cells⟩ := pm_get (q := ((a 11), .inl (cI, 144, .inl l_cells))) hW 11 rfl
  exact fr_r (post := fun x _ => x = (Ystep (r, c, k, tx, ln, kp) p1 p2).1) (fun sz => kX5_step (ws := ws) k_t k_l k_l_firsts k_l_cells t (a 1) (a 3) (a 7) (a 15) (a 22) (a 24) (a 28) (a 32) (a 40) (a 8) (a 9) (a 10) (a 11) (a 12) (a 13) (a 14) l_count l_steps l_firsts l_cells e_t e_l e_l_firsts e_l_cells p1 p2 (c_step hR hLo (Q := fun x => x = (Ystep (r, c, k, tx, ln, kp) p1 p2).1) rfl) sz) (fun x h => ⟨h, CW.mk (a := a) (L := L) (zs := zs) hW rfl hT hPl hLo hCr hRl hm hKp⟩)
set_option maxHeartbeats 4000000 in
set_option maxRecDepth 100000 in
theorem zX5_end {l : Launch} {G : va_G} {cI cZ cP cJ : ClassId} {t : Nat} {Y : YS} {ws : va_W} (hC : CW cI cP cJ t Y ws) (hY : YOK Y) (p1 : Int32) (p2 : Int32) : MC l G cI cZ cP cJ yX5_end wsX5_end rmX5_end [.ref t, .int p1, .int p2] 0 0 ws (fun r ws' => r = (Yend Y p1 p2).1 ∧ CW cI cP cJ t (Yend Y p1 p2).2 ws') := by
  obtain ⟨r, c, k, tx, ln, kp⟩ := Y
  obtain ⟨hR, hk, hln, htx, hkp⟩ := hY
  obtain ⟨a, L, s_length, s_signs, s_r, s_kind, s_y, d_down, d_across, d_inner, d_points, d_kinds, d_numbers, l_count, l_steps, l_owners, l_firsts, l_ownersBySteps, l_cells, l_ends, l_rightward, l_downward, c_arcs, c_ties, c_passes, c_arcsBySteps, c_overs, c_unders, c_tied, c_groups, g_width, g_height, g_rules, f_down, f_across, f_inner, f_points, f_kinds, f_numbers, r_down, r_across, r_inner, r_points, r_kinds, r_numbers, m_count, m_steps, m_owners, m_firsts, m_ownersBySteps, m_cells, m_ends, m_rightward, m_downward, fk, zs, g_rows, hW, e1, hT, hPl, hLo, hCr, hRl, hm, hKp⟩ := hC
  dsimp only at hR hk hln htx hkp e1 hT hPl hLo hCr hKp
  subst e1
  obtain ⟨k_t, e_t⟩ := pm_get (q := (t, .inr (5, [.ref (a 1), .ref (a 3), .ref (a 7), .ref (a 15), .ref (a 22), .ref (a 24), .ref (a 28), .ref (a 32), .ref (a 40)]))) hW 0 rfl
  obtain ⟨k_l, e_l⟩ := pm_get (q := ((a 7), .inr (2, [.int l_count, .int l_steps, .ref (a 8), .ref (a 9), .ref (a 10), .ref (a 11), .ref (a 12), .ref (a 13), .ref (a 14)]))) hW 7 rfl
  obtain ⟨k_l_firsts, e_l_firsts⟩ := pm_get (q := ((a 9), .inl (cI, 37, .inl l_firsts))) hW 9 rfl
  obtain ⟨k_l_ends, e_l_ends⟩ := pm_get (q := ((a 12), .inl (cI, 144, .inl l_ends))) hW 12 rfl
  exact fr_r (post := fun x _ => x = (Yend (r, c, k, tx, ln, kp) p1 p2).1) (fun sz => kX5_end (ws := ws) k_t k_l k_l_firsts k_l_ends t (a 1) (a 3) (a 7) (a 15) (a 22) (a 24) (a 28) (a 32) (a 40) (a 8) (a 9) (a 10) (a 11) (a 12) (a 13) (a 14) l_count l_steps l_firsts l_ends e_t e_l e_l_firsts e_l_ends p1 p2 (c_end hR hLo (Q := fun x => x = (Yend (r, c, k, tx, ln, kp) p1 p2).1) rfl) sz) (fun x h => ⟨h, CW.mk (a := a) (L := L) (zs := zs) hW rfl hT hPl hLo hCr hRl hm hKp⟩)
set_option maxHeartbeats 4000000 in
set_option maxRecDepth 100000 in
theorem zX5_between {l : Launch} {G : va_G} {cI cZ cP cJ : ClassId} {t : Nat} {Y : YS} {ws : va_W} (hC : CW cI cP cJ t Y ws) (hY : YOK Y) (p1 : Int32) (p2 : Int32) : MC l G cI cZ cP cJ yX5_between wsX5_between rmX5_between [.ref t, .int p1, .int p2] 0 0 ws (fun r ws' => r = (Ybetween Y p1 p2).1 ∧ CW cI cP cJ t (Ybetween Y p1 p2).2 ws') := by
  obtain ⟨r, c, k, tx, ln, kp⟩ := Y
  obtain ⟨hR, hk, hln, htx, hkp⟩ := hY
  obtain ⟨a, L, s_length, s_signs, s_r, s_kind, s_y, d_down, d_across, d_inner, d_points, d_kinds, d_numbers, l_count, l_steps, l_owners, l_firsts, l_ownersBySteps, l_cells, l_ends, l_rightward, l_downward, c_arcs, c_ties, c_passes, c_arcsBySteps, c_overs, c_unders, c_tied, c_groups, g_width, g_height, g_rules, f_down, f_across, f_inner, f_points, f_kinds, f_numbers, r_down, r_across, r_inner, r_points, r_kinds, r_numbers, m_count, m_steps, m_owners, m_firsts, m_ownersBySteps, m_cells, m_ends, m_rightward, m_downward, fk, zs, g_rows, hW, e1, hT, hPl, hLo, hCr, hRl, hm, hKp⟩ := hC
  dsimp only at hR hk hln htx hkp e1 hT hPl hLo hCr hKp
  subst e1
  obtain ⟨k_t, e_t⟩ := pm_get (q := (t, .inr (5, [.ref (a 1), .ref (a 3), .ref (a 7), .ref (a 15), .ref (a 22), .ref (a 24), .ref (a 28), .ref (a 32), .ref (a 40)]))) hW 0 rfl
  obtain ⟨k_l, e_l⟩ := pm_get (q := ((a 7), .inr (2, [.int l_count, .int l_steps, .ref (a 8), .ref (a 9), .ref (a 10), .ref (a 11), .ref (a 12), .ref (a 13), .ref (a 14)]))) hW 7 rfl
  obtain ⟨k_l_ownersBySteps, e_l_ownersBySteps⟩ := pm_get (q := ((a 10), .inl (cI, 144, .inl l_ownersBySteps))) hW 10 rfl
  obtain ⟨k_c, e_c⟩ := pm_get (q := ((a 15), .inr (1, [.int c_arcs, .int c_ties, .ref (a 16), .ref (a 17), .ref (a 18), .ref (a 19), .ref (a 20), .ref (a 21)]))) hW 15 rfl
  obtain ⟨k_c_overs, e_c_overs⟩ := pm_get (q := ((a 18), .inl (cI, 60, .inl c_overs))) hW 18 rfl
  obtain ⟨k_c_unders, e_c_unders⟩ := pm_get (q := ((a 19), .inl (cI, 60, .inl c_unders))) hW 19 rfl
  exact fr_r (post := fun x _ => x = (Ybetween (r, c, k, tx, ln, kp) p1 p2).1) (fun sz => kX5_between (ws := ws) k_t k_l k_l_ownersBySteps k_c k_c_overs k_c_unders t (a 1) (a 3) (a 7) (a 15) (a 22) (a 24) (a 28) (a 32) (a 40) (a 8) (a 9) (a 10) (a 11) (a 12) (a 13) (a 14) (a 16) (a 17) (a 18) (a 19) (a 20) (a 21) l_count l_steps l_ownersBySteps c_arcs c_ties c_overs c_unders e_t e_l e_l_ownersBySteps e_c e_c_overs e_c_unders p1 p2 (c_between hR hLo hCr (Q := fun x => x = (Ybetween (r, c, k, tx, ln, kp) p1 p2).1) rfl) sz) (fun x h => ⟨h, CW.mk (a := a) (L := L) (zs := zs) hW rfl hT hPl hLo hCr hRl hm hKp⟩)
set_option maxHeartbeats 4000000 in
set_option maxRecDepth 100000 in
theorem zX5_which {l : Launch} {G : va_G} {cI cZ cP cJ : ClassId} {t : Nat} {Y : YS} {ws : va_W} (hC : CW cI cP cJ t Y ws) (hY : YOK Y) (p1 : Int32) (p2 : Int32) : MC l G cI cZ cP cJ yX5_which wsX5_which rmX5_which [.ref t, .int p1, .int p2] 0 0 ws (fun r ws' => r = (Ywhich Y p1 p2).1 ∧ CW cI cP cJ t (Ywhich Y p1 p2).2 ws') := by
  obtain ⟨r, c, k, tx, ln, kp⟩ := Y
  obtain ⟨hR, hk, hln, htx, hkp⟩ := hY
  obtain ⟨a, L, s_length, s_signs, s_r, s_kind, s_y, d_down, d_across, d_inner, d_points, d_kinds, d_numbers, l_count, l_steps, l_owners, l_firsts, l_ownersBySteps, l_cells, l_ends, l_rightward, l_downward, c_arcs, c_ties, c_passes, c_arcsBySteps, c_overs, c_unders, c_tied, c_groups, g_width, g_height, g_rules, f_down, f_across, f_inner, f_points, f_kinds, f_numbers, r_down, r_across, r_inner, r_points, r_kinds, r_numbers, m_count, m_steps, m_owners, m_firsts, m_ownersBySteps, m_cells, m_ends, m_rightward, m_downward, fk, zs, g_rows, hW, e1, hT, hPl, hLo, hCr, hRl, hm, hKp⟩ := hC
  dsimp only at hR hk hln htx hkp e1 hT hPl hLo hCr hKp
  subst e1
  obtain ⟨k_t, e_t⟩ := pm_get (q := (t, .inr (5, [.ref (a 1), .ref (a 3), .ref (a 7), .ref (a 15), .ref (a 22), .ref (a 24), .ref (a 28), .ref (a 32), .ref (a 40)]))) hW 0 rfl
  obtain ⟨k_d, e_d⟩ := pm_get (q := ((a 3), .inr (3, [.int d_down, .int d_across, .int d_inner, .ref (a 4), .ref (a 5), .ref (a 6)]))) hW 3 rfl
  obtain ⟨k_d_kinds, e_d_kinds⟩ := pm_get (q := ((a 5), .inl (cI, 60, .inl d_kinds))) hW 5 rfl
  obtain ⟨k_d_numbers, e_d_numbers⟩ := pm_get (q := ((a 6), .inl (cI, 169, .inl d_numbers))) hW 6 rfl
  obtain ⟨k_l, e_l⟩ := pm_get (q := ((a 7), .inr (2, [.int l_count, .int l_steps, .ref (a 8), .ref (a 9), .ref (a 10), .ref (a 11), .ref (a 12), .ref (a 13), .ref (a 14)]))) hW 7 rfl
  obtain ⟨k_l_ownersBySteps, e_l_ownersBySteps⟩ := pm_get (q := ((a 10), .inl (cI, 144, .inl l_ownersBySteps))) hW 10 rfl
  obtain ⟨k_c, e_c⟩ := pm_get (q := ((a 15), .inr (1, [.int c_arcs, .int c_ties, .ref (a 16), .ref (a 17), .ref (a 18), .ref (a 19), .ref (a 20), .ref (a 21)]))) hW 15 rfl
  obtain ⟨k_c_overs, e_c_overs⟩ := pm_get (q := ((a 18), .inl (cI, 60, .inl c_overs))) hW 18 rfl
  obtain ⟨k_c_unders, e_c_unders⟩ := pm_get (q := ((a 19), .inl (cI, 60, .inl c_unders))) hW 19 rfl
  exact fr_r (post := fun x _ => x = (Ywhich (r, c, k, tx, ln, kp) p1 p2).1) (fun sz => kX5_which (ws := ws) k_t k_d k_d_kinds k_d_numbers k_l k_l_ownersBySteps k_c k_c_overs k_c_unders t (a 1) (a 3) (a 7) (a 15) (a 22) (a 24) (a 28) (a 32) (a 40) (a 4) (a 5) (a 6) (a 8) (a 9) (a 10) (a 11) (a 12) (a 13) (a 14) (a 16) (a 17) (a 18) (a 19) (a 20) (a 21) d_down d_across d_inner d_kinds d_numbers l_count l_steps l_ownersBySteps c_arcs c_ties c_overs c_unders e_t e_d e_d_kinds e_d_numbers e_l e_l_ownersBySteps e_c e_c_overs e_c_unders p1 p2 (c_which hR hk hPl hLo hCr (Q := fun x => x = (Ywhich (r, c, k, tx, ln, kp) p1 p2).1) rfl) sz) (fun x h => ⟨h, CW.mk (a := a) (L := L) (zs := zs) hW rfl hT hPl hLo hCr hRl hm hKp⟩)
set_option maxHeartbeats 4000000 in
set_option maxRecDepth 100000 in
theorem zX5_sign {l : Launch} {G : va_G} {cI cZ cP cJ : ClassId} {t : Nat} {Y : YS} {ws : va_W} (hC : CW cI cP cJ t Y ws) (hY : YOK Y) (p1 : Int32) : MC l G cI cZ cP cJ yX5_sign wsX5_sign rmX5_sign [.ref t, .int p1] 0 0 ws (fun r ws' => r = (Ysign Y p1).1 ∧ CW cI cP cJ t (Ysign Y p1).2 ws') := by
  obtain ⟨r, c, k, tx, ln, kp⟩ := Y
  obtain ⟨hR, hk, hln, htx, hkp⟩ := hY
  obtain ⟨a, L, s_length, s_signs, s_r, s_kind, s_y, d_down, d_across, d_inner, d_points, d_kinds, d_numbers, l_count, l_steps, l_owners, l_firsts, l_ownersBySteps, l_cells, l_ends, l_rightward, l_downward, c_arcs, c_ties, c_passes, c_arcsBySteps, c_overs, c_unders, c_tied, c_groups, g_width, g_height, g_rules, f_down, f_across, f_inner, f_points, f_kinds, f_numbers, r_down, r_across, r_inner, r_points, r_kinds, r_numbers, m_count, m_steps, m_owners, m_firsts, m_ownersBySteps, m_cells, m_ends, m_rightward, m_downward, fk, zs, g_rows, hW, e1, hT, hPl, hLo, hCr, hRl, hm, hKp⟩ := hC
  dsimp only at hR hk hln htx hkp e1 hT hPl hLo hCr hKp
  subst e1
  obtain ⟨k_t, e_t⟩ := pm_get (q := (t, .inr (5, [.ref (a 1), .ref (a 3), .ref (a 7), .ref (a 15), .ref (a 22), .ref (a 24), .ref (a 28), .ref (a 32), .ref (a 40)]))) hW 0 rfl
  obtain ⟨k_d, e_d⟩ := pm_get (q := ((a 3), .inr (3, [.int d_down, .int d_across, .int d_inner, .ref (a 4), .ref (a 5), .ref (a 6)]))) hW 3 rfl
  obtain ⟨k_d_kinds, e_d_kinds⟩ := pm_get (q := ((a 5), .inl (cI, 60, .inl d_kinds))) hW 5 rfl
  obtain ⟨k_d_numbers, e_d_numbers⟩ := pm_get (q := ((a 6), .inl (cI, 169, .inl d_numbers))) hW 6 rfl
  obtain ⟨k_l, e_l⟩ := pm_get (q := ((a 7), .inr (2, [.int l_count, .int l_steps, .ref (a 8), .ref (a 9), .ref (a 10), .ref (a 11), .ref (a 12), .ref (a 13), .ref (a 14)]))) hW 7 rfl
  obtain ⟨k_l_rightward, e_l_rightward⟩ := pm_get (q := ((a 13), .inl (cI, 144, .inl l_rightward))) hW 13 rfl
  obtain ⟨k_l_downward, e_l_downward⟩ := pm_get (q := ((a 14), .inl (cI, 144, .inl l_downward))) hW 14 rfl
  obtain ⟨k_c, e_c⟩ := pm_get (q := ((a 15), .inr (1, [.int c_arcs, .int c_ties, .ref (a 16), .ref (a 17), .ref (a 18), .ref (a 19), .ref (a 20), .ref (a 21)]))) hW 15 rfl
  obtain ⟨k_c_overs, e_c_overs⟩ := pm_get (q := ((a 18), .inl (cI, 60, .inl c_overs))) hW 18 rfl
  obtain ⟨k_c_unders, e_c_unders⟩ := pm_get (q := ((a 19), .inl (cI, 60, .inl c_unders))) hW 19 rfl
  exact fr_r (post := fun x _ => x = (Ysign (r, c, k, tx, ln, kp) p1).1) (fun sz => kX5_sign (ws := ws) k_t k_d k_d_kinds k_d_numbers k_l k_l_rightward k_l_downward k_c k_c_overs k_c_unders t (a 1) (a 3) (a 7) (a 15) (a 22) (a 24) (a 28) (a 32) (a 40) (a 4) (a 5) (a 6) (a 8) (a 9) (a 10) (a 11) (a 12) (a 13) (a 14) (a 16) (a 17) (a 18) (a 19) (a 20) (a 21) d_down d_across d_inner d_kinds d_numbers l_count l_steps l_rightward l_downward c_arcs c_ties c_overs c_unders e_t e_d e_d_kinds e_d_numbers e_l e_l_rightward e_l_downward e_c e_c_overs e_c_unders p1 (c_sign hR hk hPl hLo hCr (Q := fun x => x = (Ysign (r, c, k, tx, ln, kp) p1).1) rfl) sz) (fun x h => ⟨h, CW.mk (a := a) (L := L) (zs := zs) hW rfl hT hPl hLo hCr hRl hm hKp⟩)
set_option maxHeartbeats 4000000 in
set_option maxRecDepth 100000 in
theorem zX5_writhe {l : Launch} {G : va_G} {cI cZ cP cJ : ClassId} {t : Nat} {Y : YS} {ws : va_W} (hC : CW cI cP cJ t Y ws) (hY : YOK Y) : MC l G cI cZ cP cJ yX5_writhe wsX5_writhe rmX5_writhe [.ref t] 0 0 ws (fun r ws' => r = (Ywrithe Y).1 ∧ CW cI cP cJ t (Ywrithe Y).2 ws') := by
  obtain ⟨r, c, k, tx, ln, kp⟩ := Y
  obtain ⟨hR, hk, hln, htx, hkp⟩ := hY
  obtain ⟨a, L, s_length, s_signs, s_r, s_kind, s_y, d_down, d_across, d_inner, d_points, d_kinds, d_numbers, l_count, l_steps, l_owners, l_firsts, l_ownersBySteps, l_cells, l_ends, l_rightward, l_downward, c_arcs, c_ties, c_passes, c_arcsBySteps, c_overs, c_unders, c_tied, c_groups, g_width, g_height, g_rules, f_down, f_across, f_inner, f_points, f_kinds, f_numbers, r_down, r_across, r_inner, r_points, r_kinds, r_numbers, m_count, m_steps, m_owners, m_firsts, m_ownersBySteps, m_cells, m_ends, m_rightward, m_downward, fk, zs, g_rows, hW, e1, hT, hPl, hLo, hCr, hRl, hm, hKp⟩ := hC
  dsimp only at hR hk hln htx hkp e1 hT hPl hLo hCr hKp
  subst e1
  obtain ⟨k_t, e_t⟩ := pm_get (q := (t, .inr (5, [.ref (a 1), .ref (a 3), .ref (a 7), .ref (a 15), .ref (a 22), .ref (a 24), .ref (a 28), .ref (a 32), .ref (a 40)]))) hW 0 rfl
  obtain ⟨k_l, e_l⟩ := pm_get (q := ((a 7), .inr (2, [.int l_count, .int l_steps, .ref (a 8), .ref (a 9), .ref (a 10), .ref (a 11), .ref (a 12), .ref (a 13), .ref (a 14)]))) hW 7 rfl
  obtain ⟨k_l_rightward, e_l_rightward⟩ := pm_get (q := ((a 13), .inl (cI, 144, .inl l_rightward))) hW 13 rfl
  obtain ⟨k_l_downward, e_l_downward⟩ := pm_get (q := ((a 14), .inl (cI, 144, .inl l_downward))) hW 14 rfl
  obtain ⟨k_c, e_c⟩ := pm_get (q := ((a 15), .inr (1, [.int c_arcs, .int c_ties, .ref (a 16), .ref (a 17), .ref (a 18), .ref (a 19), .ref (a 20), .ref (a 21)]))) hW 15 rfl
  obtain ⟨k_c_overs, e_c_overs⟩ := pm_get (q := ((a 18), .inl (cI, 60, .inl c_overs))) hW 18 rfl
  obtain ⟨k_c_unders, e_c_unders⟩ := pm_get (q := ((a 19), .inl (cI, 60, .inl c_unders))) hW 19 rfl
  exact fr_r (post := fun x _ => x = (Ywrithe (r, c, k, tx, ln, kp)).1) (fun sz => kX5_writhe (ws := ws) k_t k_l k_l_rightward k_l_downward k_c k_c_overs k_c_unders t (a 1) (a 3) (a 7) (a 15) (a 22) (a 24) (a 28) (a 32) (a 40) (a 8) (a 9) (a 10) (a 11) (a 12) (a 13) (a 14) (a 16) (a 17) (a 18) (a 19) (a 20) (a 21) l_count l_steps l_rightward l_downward c_arcs c_ties c_overs c_unders e_t e_l e_l_rightward e_l_downward e_c e_c_overs e_c_unders (c_writhe hR hLo hCr (Q := fun x => x = (Ywrithe (r, c, k, tx, ln, kp)).1) rfl) sz) (fun x h => ⟨h, CW.mk (a := a) (L := L) (zs := zs) hW rfl hT hPl hLo hCr hRl hm hKp⟩)
set_option maxHeartbeats 4000000 in
set_option maxRecDepth 100000 in
theorem zX5_linked {l : Launch} {G : va_G} {cI cZ cP cJ : ClassId} {t : Nat} {Y : YS} {ws : va_W} (hC : CW cI cP cJ t Y ws) (hY : YOK Y) (p1 : Int32) (p2 : Int32) : MC l G cI cZ cP cJ yX5_linked wsX5_linked rmX5_linked [.ref t, .int p1, .int p2] 0 0 ws (fun r ws' => r = (Ylinked Y p1 p2).1 ∧ CW cI cP cJ t (Ylinked Y p1 p2).2 ws') := by
  obtain ⟨r, c, k, tx, ln, kp⟩ := Y
  obtain ⟨hR, hk, hln, htx, hkp⟩ := hY
  obtain ⟨a, L, s_length, s_signs, s_r, s_kind, s_y, d_down, d_across, d_inner, d_points, d_kinds, d_numbers, l_count, l_steps, l_owners, l_firsts, l_ownersBySteps, l_cells, l_ends, l_rightward, l_downward, c_arcs, c_ties, c_passes, c_arcsBySteps, c_overs, c_unders, c_tied, c_groups, g_width, g_height, g_rules, f_down, f_across, f_inner, f_points, f_kinds, f_numbers, r_down, r_across, r_inner, r_points, r_kinds, r_numbers, m_count, m_steps, m_owners, m_firsts, m_ownersBySteps, m_cells, m_ends, m_rightward, m_downward, fk, zs, g_rows, hW, e1, hT, hPl, hLo, hCr, hRl, hm, hKp⟩ := hC
  dsimp only at hR hk hln htx hkp e1 hT hPl hLo hCr hKp
  subst e1
  obtain ⟨k_t, e_t⟩ := pm_get (q := (t, .inr (5, [.ref (a 1), .ref (a 3), .ref (a 7), .ref (a 15), .ref (a 22), .ref (a 24), .ref (a 28), .ref (a 32), .ref (a 40)]))) hW 0 rfl
  obtain ⟨k_l, e_l⟩ := pm_get (q := ((a 7), .inr (2, [.int l_count, .int l_steps, .ref (a 8), .ref (a 9), .ref (a 10), .ref (a 11), .ref (a 12), .ref (a 13), .ref (a 14)]))) hW 7 rfl
  obtain ⟨k_l_ownersBySteps, e_l_ownersBySteps⟩ := pm_get (q := ((a 10), .inl (cI, 144, .inl l_ownersBySteps))) hW 10 rfl
  obtain ⟨k_l_rightward, e_l_rightward⟩ := pm_get (q := ((a 13), .inl (cI, 144, .inl l_rightward))) hW 13 rfl
  obtain ⟨k_l_downward, e_l_downward⟩ := pm_get (q := ((a 14), .inl (cI, 144, .inl l_downward))) hW 14 rfl
  obtain ⟨k_c, e_c⟩ := pm_get (q := ((a 15), .inr (1, [.int c_arcs, .int c_ties, .ref (a 16), .ref (a 17), .ref (a 18), .ref (a 19), .ref (a 20), .ref (a 21)]))) hW 15 rfl
  obtain ⟨k_c_overs, e_c_overs⟩ := pm_get (q := ((a 18), .inl (cI, 60, .inl c_overs))) hW 18 rfl
  obtain ⟨k_c_unders, e_c_unders⟩ := pm_get (q := ((a 19), .inl (cI, 60, .inl c_unders))) hW 19 rfl
  exact fr_r (post := fun x _ => x = (Ylinked (r, c, k, tx, ln, kp) p1 p2).1) (fun sz => kX5_linked (ws := ws) k_t k_l k_l_ownersBySteps k_l_rightward k_l_downward k_c k_c_overs k_c_unders t (a 1) (a 3) (a 7) (a 15) (a 22) (a 24) (a 28) (a 32) (a 40) (a 8) (a 9) (a 10) (a 11) (a 12) (a 13) (a 14) (a 16) (a 17) (a 18) (a 19) (a 20) (a 21) l_count l_steps l_ownersBySteps l_rightward l_downward c_arcs c_ties c_overs c_unders e_t e_l e_l_ownersBySteps e_l_rightward e_l_downward e_c e_c_overs e_c_unders p1 p2 (c_linked hR hLo hCr (Q := fun x => x = (Ylinked (r, c, k, tx, ln, kp) p1 p2).1) rfl) sz) (fun x h => ⟨h, CW.mk (a := a) (L := L) (zs := zs) hW rfl hT hPl hLo hCr hRl hm hKp⟩)
set_option maxHeartbeats 4000000 in
set_option maxRecDepth 100000 in
theorem zX5_one {l : Launch} {G : va_G} {cI cZ cP cJ : ClassId} {t : Nat} {Y : YS} {ws : va_W} (hC : CW cI cP cJ t Y ws) (hY : YOK Y) : MC l G cI cZ cP cJ yX5_one wsX5_one rmX5_one [.ref t] 0 0 ws (fun r ws' => r = (Yone Y).1 ∧ CW cI cP cJ t (Yone Y).2 ws') := by
  obtain ⟨r, c, k, tx, ln, kp⟩ := Y
  obtain ⟨hR, hk, hln, htx, hkp⟩ := hY
  obtain ⟨a, L, s_length, s_signs, s_r, s_kind, s_y, d_down, d_across, d_inner, d_points, d_kinds, d_numbers, l_count, l_steps, l_owners, l_firsts, l_ownersBySteps, l_cells, l_ends, l_rightward, l_downward, c_arcs, c_ties, c_passes, c_arcsBySteps, c_overs, c_unders, c_tied, c_groups, g_width, g_height, g_rules, f_down, f_across, f_inner, f_points, f_kinds, f_numbers, r_down, r_across, r_inner, r_points, r_kinds, r_numbers, m_count, m_steps, m_owners, m_firsts, m_ownersBySteps, m_cells, m_ends, m_rightward, m_downward, fk, zs, g_rows, hW, e1, hT, hPl, hLo, hCr, hRl, hm, hKp⟩ := hC
  dsimp only at hR hk hln htx hkp e1 hT hPl hLo hCr hKp
  subst e1
  obtain ⟨k_t, e_t⟩ := pm_get (q := (t, .inr (5, [.ref (a 1), .ref (a 3), .ref (a 7), .ref (a 15), .ref (a 22), .ref (a 24), .ref (a 28), .ref (a 32), .ref (a 40)]))) hW 0 rfl
  obtain ⟨k_l, e_l⟩ := pm_get (q := ((a 7), .inr (2, [.int l_count, .int l_steps, .ref (a 8), .ref (a 9), .ref (a 10), .ref (a 11), .ref (a 12), .ref (a 13), .ref (a 14)]))) hW 7 rfl
  obtain ⟨k_c, e_c⟩ := pm_get (q := ((a 15), .inr (1, [.int c_arcs, .int c_ties, .ref (a 16), .ref (a 17), .ref (a 18), .ref (a 19), .ref (a 20), .ref (a 21)]))) hW 15 rfl
  exact fr_r (post := fun x _ => x = (Yone (r, c, k, tx, ln, kp)).1) (fun sz => kX5_one (ws := ws) k_t k_l k_c t (a 1) (a 3) (a 7) (a 15) (a 22) (a 24) (a 28) (a 32) (a 40) (a 8) (a 9) (a 10) (a 11) (a 12) (a 13) (a 14) (a 16) (a 17) (a 18) (a 19) (a 20) (a 21) l_count l_steps c_arcs c_ties e_t e_l e_c (c_one hLo hCr (Q := fun x => x = (Yone (r, c, k, tx, ln, kp)).1) rfl) sz) (fun x h => ⟨h, CW.mk (a := a) (L := L) (zs := zs) hW rfl hT hPl hLo hCr hRl hm hKp⟩)
set_option maxHeartbeats 4000000 in
set_option maxRecDepth 100000 in
theorem zX5_oneAt {l : Launch} {G : va_G} {cI cZ cP cJ : ClassId} {t : Nat} {Y : YS} {ws : va_W} (hC : CW cI cP cJ t Y ws) (hY : YOK Y) (p1 : Int32) : MC l G cI cZ cP cJ yX5_oneAt wsX5_oneAt rmX5_oneAt [.ref t, .int p1] 0 0 ws (fun r ws' => r = (YoneAt Y p1).1 ∧ CW cI cP cJ t (YoneAt Y p1).2 ws') := by
  obtain ⟨r, c, k, tx, ln, kp⟩ := Y
  obtain ⟨hR, hk, hln, htx, hkp⟩ := hY
  obtain ⟨a, L, s_length, s_signs, s_r, s_kind, s_y, d_down, d_across, d_inner, d_points, d_kinds, d_numbers, l_count, l_steps, l_owners, l_firsts, l_ownersBySteps, l_cells, l_ends, l_rightward, l_downward, c_arcs, c_ties, c_passes, c_arcsBySteps, c_overs, c_unders, c_tied, c_groups, g_width, g_height, g_rules, f_down, f_across, f_inner, f_points, f_kinds, f_numbers, r_down, r_across, r_inner, r_points, r_kinds, r_numbers, m_count, m_steps, m_owners, m_firsts, m_ownersBySteps, m_cells, m_ends, m_rightward, m_downward, fk, zs, g_rows, hW, e1, hT, hPl, hLo, hCr, hRl, hm, hKp⟩ := hC
  dsimp only at hR hk hln htx hkp e1 hT hPl hLo hCr hKp
  subst e1
  obtain ⟨k_t, e_t⟩ := pm_get (q := (t, .inr (5, [.ref (a 1), .ref (a 3), .ref (a 7), .ref (a 15), .ref (a 22), .ref (a 24), .ref (a 28), .ref (a 32), .ref (a 40)]))) hW 0 rfl
  obtain ⟨k_d, e_d⟩ := pm_get (q := ((a 3), .inr (3, [.int d_down, .int d_across, .int d_inner, .ref (a 4), .ref (a 5), .ref (a 6)]))) hW 3 rfl
  obtain ⟨k_d_points, e_d_points⟩ := pm_get (q := ((a 4), .inl (cI, 60, .inl d_points))) hW 4 rfl
  obtain ⟨k_l, e_l⟩ := pm_get (q := ((a 7), .inr (2, [.int l_count, .int l_steps, .ref (a 8), .ref (a 9), .ref (a 10), .ref (a 11), .ref (a 12), .ref (a 13), .ref (a 14)]))) hW 7 rfl
  obtain ⟨k_c, e_c⟩ := pm_get (q := ((a 15), .inr (1, [.int c_arcs, .int c_ties, .ref (a 16), .ref (a 17), .ref (a 18), .ref (a 19), .ref (a 20), .ref (a 21)]))) hW 15 rfl
  obtain ⟨k_c_tied, e_c_tied⟩ := pm_get (q := ((a 20), .inl (cI, 36, .inl c_tied))) hW 20 rfl
  exact fr_r (post := fun x _ => x = (YoneAt (r, c, k, tx, ln, kp) p1).1) (fun sz => kX5_oneAt (ws := ws) k_t k_d k_d_points k_l k_c k_c_tied t (a 1) (a 3) (a 7) (a 15) (a 22) (a 24) (a 28) (a 32) (a 40) (a 4) (a 5) (a 6) (a 8) (a 9) (a 10) (a 11) (a 12) (a 13) (a 14) (a 16) (a 17) (a 18) (a 19) (a 20) (a 21) d_down d_across d_inner d_points l_count l_steps c_arcs c_ties c_tied e_t e_d e_d_points e_l e_c e_c_tied p1 (c_oneAt hR hPl hLo hCr (Q := fun x => x = (YoneAt (r, c, k, tx, ln, kp) p1).1) rfl) sz) (fun x h => ⟨h, CW.mk (a := a) (L := L) (zs := zs) hW rfl hT hPl hLo hCr hRl hm hKp⟩)
set_option maxHeartbeats 4000000 in
set_option maxRecDepth 100000 in
theorem zX5_same {l : Launch} {G : va_G} {cI cZ cP cJ : ClassId} {t : Nat} {Y : YS} {ws : va_W} (hC : CW cI cP cJ t Y ws) (hY : YOK Y) (p1 : Int32) : MC l G cI cZ cP cJ yX5_same wsX5_same rmX5_same [.ref t, .int p1] 0 0 ws (fun r ws' => r = (Ysame Y p1).1 ∧ CW cI cP cJ t (Ysame Y p1).2 ws') := by
  obtain ⟨r, c, k, tx, ln, kp⟩ := Y
  obtain ⟨hR, hk, hln, htx, hkp⟩ := hY
  obtain ⟨a, L, s_length, s_signs, s_r, s_kind, s_y, d_down, d_across, d_inner, d_points, d_kinds, d_numbers, l_count, l_steps, l_owners, l_firsts, l_ownersBySteps, l_cells, l_ends, l_rightward, l_downward, c_arcs, c_ties, c_passes, c_arcsBySteps, c_overs, c_unders, c_tied, c_groups, g_width, g_height, g_rules, f_down, f_across, f_inner, f_points, f_kinds, f_numbers, r_down, r_across, r_inner, r_points, r_kinds, r_numbers, m_count, m_steps, m_owners, m_firsts, m_ownersBySteps, m_cells, m_ends, m_rightward, m_downward, fk, zs, g_rows, hW, e1, hT, hPl, hLo, hCr, hRl, hm, hKp⟩ := hC
  dsimp only at hR hk hln htx hkp e1 hT hPl hLo hCr hKp
  subst e1
  obtain ⟨k_t, e_t⟩ := pm_get (q := (t, .inr (5, [.ref (a 1), .ref (a 3), .ref (a 7), .ref (a 15), .ref (a 22), .ref (a 24), .ref (a 28), .ref (a 32), .ref (a 40)]))) hW 0 rfl
  obtain ⟨k_d, e_d⟩ := pm_get (q := ((a 3), .inr (3, [.int d_down, .int d_across, .int d_inner, .ref (a 4), .ref (a 5), .ref (a 6)]))) hW 3 rfl
  obtain ⟨k_d_points, e_d_points⟩ := pm_get (q := ((a 4), .inl (cI, 60, .inl d_points))) hW 4 rfl
  obtain ⟨k_d_kinds, e_d_kinds⟩ := pm_get (q := ((a 5), .inl (cI, 60, .inl d_kinds))) hW 5 rfl
  obtain ⟨k_d_numbers, e_d_numbers⟩ := pm_get (q := ((a 6), .inl (cI, 169, .inl d_numbers))) hW 6 rfl
  exact fr_r (post := fun x _ => x = (Ysame (r, c, k, tx, ln, kp) p1).1) (fun sz => kX5_same (ws := ws) k_t k_d k_d_points k_d_kinds k_d_numbers t (a 1) (a 3) (a 7) (a 15) (a 22) (a 24) (a 28) (a 32) (a 40) (a 4) (a 5) (a 6) d_down d_across d_inner d_points d_kinds d_numbers e_t e_d e_d_points e_d_kinds e_d_numbers p1 (c_same hR hk hPl (Q := fun x => x = (Ysame (r, c, k, tx, ln, kp) p1).1) rfl) sz) (fun x h => ⟨h, CW.mk (a := a) (L := L) (zs := zs) hW rfl hT hPl hLo hCr hRl hm hKp⟩)
