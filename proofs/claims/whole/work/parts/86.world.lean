/-! a world in another order; a call that has a part of a world; the two sides' worlds -/
section FR
variable {G : va_G} {cl : List vw_C} {H H1 : Heap} {ws ws' wc wr w1 X Z : va_W} {A : Nat → Prop}
theorem pm_P (h : ws.Perm ws') (hP : va_P G cl ws H) : va_P G cl ws' H := fun k q hk => by
  obtain ⟨i, hi⟩ := List.getElem?_of_mem (h.mem_iff.mpr (List.mem_of_getElem? hk))
  exact hP i q hi
theorem pm_pw : (∀ (i j : Nat) (x y : Nat × va_E), ws[i]? = some x → ws[j]? = some y → x.1 = y.1 → i = j) ↔ ws.Pairwise (fun x y => x.1 ≠ y.1) := by
  rw [List.pairwise_iff_getElem]
  constructor
  · intro h i j hi hj hij e
    have := h i j _ _ (List.getElem?_eq_getElem hi) (List.getElem?_eq_getElem hj) e
    omega
  · intro h i j x y hx hy e
    obtain ⟨hi, ex⟩ := List.getElem?_eq_some_iff.mp hx
    obtain ⟨hj, ey⟩ := List.getElem?_eq_some_iff.mp hy
    subst ex; subst ey
    rcases Nat.lt_trichotomy i j with hlt | he | hlt
    · exact absurd e (h i j hi hj hlt)
    · exact he
    · exact absurd e.symm (h j i hj hi hlt)
theorem pm_D (h : ws.Perm ws') (hD : va_D A ws) : va_D A ws' := by
  refine ⟨pm_pw.mpr ((h.pairwise_iff (fun q e => q e.symm)).mp (pm_pw.mp hD.1)), fun k q hk => ?_⟩
  obtain ⟨i, hi⟩ := List.getElem?_of_mem (h.mem_iff.mpr (List.mem_of_getElem? hk))
  exact hD.2 i q hi
theorem pm_A (h : ws.Perm ws') {sz q : Nat} (hA : va_A ws sz q) : va_A ws' sz q := by
  rcases hA with ⟨k, e, hk⟩ | hA
  · obtain ⟨i, hi⟩ := List.getElem?_of_mem (h.mem_iff.mp (List.mem_of_getElem? hk))
    exact Or.inl ⟨i, e, hi⟩
  · exact Or.inr hA
theorem pm_Al {sz q : Nat} (hA : va_A wc sz q) : va_A (wc ++ wr) sz q := by
  rcases hA with ⟨k, e, hk⟩ | hA
  · exact Or.inl ⟨k, e, by rw [List.getElem?_append_left (List.getElem?_eq_some_iff.mp hk).1]; exact hk⟩
  · exact Or.inr hA
theorem pm_Pl (hP : va_P G cl (wc ++ wr) H) : va_P G cl wc H := fun k q hk => hP k q (by rw [List.getElem?_append_left (List.getElem?_eq_some_iff.mp hk).1]; exact hk)
theorem pm_Pr (hP : va_P G cl (wc ++ wr) H) : va_P G cl wr H := fun k q hk => hP (wc.length + k) q (by rw [List.getElem?_append_right (by omega), Nat.add_sub_cancel_left]; exact hk)
theorem pm_Dl (hD : va_D A (wc ++ wr)) : va_D A wc := ⟨fun i j x y hx hy e => hD.1 i j x y (by rw [List.getElem?_append_left (List.getElem?_eq_some_iff.mp hx).1]; exact hx) (by rw [List.getElem?_append_left (List.getElem?_eq_some_iff.mp hy).1]; exact hy) e, fun k q hk => hD.2 k q (by rw [List.getElem?_append_left (List.getElem?_eq_some_iff.mp hk).1]; exact hk)⟩
theorem pm_Dr (hD : va_D A (wc ++ wr)) : va_D A wr := ⟨fun i j x y hx hy e => by
    have := hD.1 (wc.length + i) (wc.length + j) x y (by rw [List.getElem?_append_right (by omega), Nat.add_sub_cancel_left]; exact hx) (by rw [List.getElem?_append_right (by omega), Nat.add_sub_cancel_left]; exact hy) e
    omega, fun k q hk => hD.2 (wc.length + k) q (by rw [List.getElem?_append_right (by omega), Nat.add_sub_cancel_left]; exact hk)⟩
/-- behind a call that had wc -/
theorem fr_join {sz : Nat} (hz : H.size = sz) (hP : va_P G cl (wc ++ wr) H) (hD : va_D A (wc ++ wr)) (hF : ∀ q, va_A wc sz q → A q) (hk : ∀ q : Nat, q < sz → ¬ va_A wc sz q → H1[q]? = H[q]?) (hP1 : va_P G cl w1 H1) (hD1 : va_D (va_A wc sz) w1) : va_P G cl (w1 ++ wr) H1 ∧ va_D A (w1 ++ wr) := by
  have apart : ∀ (k : Nat) (q : Nat × va_E), wr[k]? = some q → q.1 < sz ∧ ¬ va_A wc sz q.1 := by
    intro k q hq
    have h0 : (wc ++ wr)[wc.length + k]? = some q := by rw [List.getElem?_append_right (by omega), Nat.add_sub_cancel_left]; exact hq
    have hl := (hP _ q h0).lt
    rw [hz] at hl
    refine ⟨hl, fun h => ?_⟩
    rcases h with ⟨j, e, hj⟩ | h
    · have hjl := (List.getElem?_eq_some_iff.mp hj).1
      have := hD.1 _ j q (q.1, e) h0 (by rw [List.getElem?_append_left hjl]; exact hj) rfl
      omega
    · omega
  refine ⟨va_P.app hP1 (fun k q hq => ?_), va_D.app (hD1.weaken (fun _ q _ h => hF q.1 h)) (pm_Dr hD) (fun i j x y hx hy hxy => ?_)⟩
  · obtain ⟨g1, g2⟩ := apart k q hq
    exact (pm_Pr hP k q hq).kept (hk q.1 g1 g2)
  · exact (apart j y hy).2 (by rw [← hxy]; exact hD1.2 i x hx)
theorem pm_get {q : Nat × va_E} (h : ws.Perm (X ++ Z)) (i : Nat) (hi : X[i]? = some q) : ∃ k : Nat, ws[k]? = some q := List.getElem?_of_mem (h.mem_iff.mpr (List.mem_append_left _ (List.mem_of_getElem? hi)))
theorem pm_get0 {q : Nat × va_E} (h : ws.Perm X) (i : Nat) (hi : X[i]? = some q) : ∃ k : Nat, ws[k]? = some q := List.getElem?_of_mem (h.mem_iff.mpr (List.mem_of_getElem? hi))
theorem pm_map (X : va_W) : (List.range X.length).map (fun i => X[i]?) = X.map some := by
  apply List.ext_getElem
  · simp
  · intro i h1 h2
    have h3 : i < X.length := by simpa using h2
    simp [h3]
/-- X by places, cut in two -/
theorem pm_cut (X : va_W) {wc wr : va_W} (R : va_W) (is isR : List Nat) (n : Nat) (hn : X.length = n) (hp : (is ++ isR).isPerm (List.range n) = true) (hC : is.map (fun i => X[i]?) = wc.map some) (hR : isR.map (fun i => X[i]?) = wr.map some) : (X ++ R).Perm (wc ++ (wr ++ R)) := by
  subst hn
  have h1 : ((is ++ isR).map (fun i => X[i]?)).Perm ((List.range X.length).map (fun i => X[i]?)) := (List.isPerm_iff.mp hp).map _
  rw [List.map_append, hC, hR, ← List.map_append, pm_map] at h1
  have h2 := h1.filterMap id
  have e : ∀ l : va_W, (l.map some).filterMap id = l := fun l => by
    induction l with
    | nil => rfl
    | cons x l ih => simp
  rw [e, e] at h2
  rw [← List.append_assoc]
  exact (h2.symm.append_right R)
theorem pm_nil (h : ws.Perm X) (e : X = wc) : ws.Perm (wc ++ []) := by
  subst e
  rw [List.append_nil]
  exact h
theorem pm_nilS (e : X = wc) : (wc ++ []).Perm X := by
  subst e
  rw [List.append_nil]
theorem pm_k0 (a b k0 k1 pl : va_W) : ((a ++ (b ++ (k0 ++ (k1 ++ pl)))).Perm ((a ++ k0) ++ (b ++ (k1 ++ pl)))) := by
  rw [List.append_assoc]
  exact List.Perm.append_left a (List.perm_append_comm_assoc b k0 (k1 ++ pl))
theorem pm_k1 (a b k0 k1 pl : va_W) : ((a ++ (b ++ (k0 ++ (k1 ++ pl)))).Perm ((a ++ k1) ++ (b ++ (k0 ++ pl)))) := by
  rw [List.append_assoc]
  refine List.Perm.append_left a ?_
  exact (List.Perm.append_left b (List.perm_append_comm_assoc k0 k1 pl)).trans (List.perm_append_comm_assoc b k1 (k0 ++ pl))
end FR
/-- a contract over a whole side's world: the new world is the witness -/
def MC (l : Launch) (G : va_G) (cI cZ cP cJ : ClassId) (y : MethodName) (wds : List Cond) (rm : Room) (As : List Value) (mc ms : Nat) (ws : va_W) (P : Int32 → va_W → Prop) : Prop :=
  ∀ sz : Nat, Met l y wds rm (va_Pc As (pB G [(cI, .int), (cZ, .boolean), (cP, .object RX3), (cJ, .array .int)] ws sz)) (va_Qi P (fun ws' t => va_P G vwCl ws' t.heap ∧ va_D (va_A ws sz) ws') (va_A ws sz)) mc ms (va_A ws sz)
section FRM
variable {l : Launch} {G : va_G} {cI cZ cP cJ : ClassId} {y : MethodName} {wds : List Cond} {rm : Room} {As : List Value} {mc ms : Nat} {ws wc wr : va_W}
theorem fr_i {U : Type} {w1 : U → va_W} {post : Int32 → U → Prop} {P : Int32 → va_W → Prop} (hw : ws.Perm (wc ++ wr)) (hM : ∀ sz : Nat, Met l y wds rm (va_Pc As (pB G [(cI, .int), (cZ, .boolean), (cP, .object RX3), (cJ, .array .int)] wc sz)) (va_Qi post (fun u t => va_P G vwCl (w1 u) t.heap ∧ va_D (va_A wc sz) (w1 u)) (va_A wc sz)) mc ms (va_A wc sz)) (hpost : ∀ r u, post r u → P r (w1 u ++ wr)) : MC l G cI cZ cP cJ y wds rm As mc ms ws P := by
  intro sz p e ha hc hk s m args below hf happ hpre _
  obtain ⟨hargs, hsz, hP, hKK, hD⟩ := hpre
  have hP2 := pm_P hw hP
  have hD2 := pm_D hw hD
  have mono : ∀ q, va_A wc sz q → va_A ws sz q := fun q h => pm_A hw.symm (pm_Al h)
  obtain ⟨n, o, h1, h2, h3, ⟨⟨⟨r, u, ho, hp, hb1, hb2⟩, hz, hkp⟩, Lx, hF, hfree⟩⟩ := hM sz p e ha hc hk s m args below hf happ ⟨hargs, hsz, pm_Pl hP2, hKK, pm_Dl hD2⟩ trivial
  have hDA : va_D (va_A ws sz) (wc ++ wr) := pm_D hw hD.self
  obtain ⟨j1, j2⟩ := fr_join (H := s.heap) hsz hP2 hDA mono (fun q g1 g2 => hkp q (by rw [hsz]; exact g1) g2) hb1 hb2
  exact ⟨n, o, h1, h2, h3, ⟨⟨⟨r, w1 u ++ wr, ho, hpost r u hp, j1, j2⟩, hz, fun q g1 g2 => hkp q g1 (fun g => g2 (mono q g))⟩, Lx, hF, fun q g => mono _ (hfree q g)⟩⟩
theorem fr_r {post : Int32 → Unit → Prop} {P : Int32 → va_W → Prop} (hM : ∀ sz : Nat, Met l y wds rm (va_Pc As (pB G [(cI, .int), (cZ, .boolean), (cP, .object RX3), (cJ, .array .int)] ws sz)) (va_Qi post (fun (_ : Unit) t => va_P G vwCl ws t.heap) (va_A ws sz)) mc ms (va_A ws sz)) (hpost : ∀ r, post r () → P r ws) : MC l G cI cZ cP cJ y wds rm As mc ms ws P := by
  intro sz p e ha hc hk s m args below hf happ hpre _
  have hD : va_D (fun _ => True) ws := hpre.2.2.2.2
  obtain ⟨n, o, h1, h2, h3, ⟨⟨⟨r, u, ho, hp, hb⟩, hz⟩, hF⟩⟩ := hM sz p e ha hc hk s m args below hf happ hpre trivial
  exact ⟨n, o, h1, h2, h3, ⟨⟨⟨r, ws, ho, hpost r hp, hb, hD.self⟩, hz⟩, hF⟩⟩
end FRM
section LCALL
variable {p : Program} {l : Launch} {e : Env} {R : Room} {s : State} {m : MethodId} {args : Array Value} {below : List Frame} {meth : Method} {c : Code} {H : Heap} {locs : List Loc} {cells slots mc ms : Nat} {Q : State → Prop} {G : va_G} {A : Nat → Prop} {H0 : Heap} {pc : Nat} {ls : Array Slot} {st0 rest : List Value} {a : Array Value} {wc wr : va_W} {P : Int32 → va_W → Prop}
theorem lcall (hr : va_Run p l e R s m args below meth c H locs cells slots mc ms (F0 m pc ls st0) rest (va_Qi P (fun ws' t => va_P G vwCl ws' t.heap ∧ va_D (va_A wc H.size) ws') (va_A wc H.size) a) (va_A wc H.size)) (hP : va_P G vwCl (wc ++ wr) H) (hD : va_D A (wc ++ wr)) (hS : va_S A H0 H locs) (hA : ∀ q, H0.size ≤ q → A q)
    (kk : ∀ (r : Int32) (ws' : va_W) (H1 : Heap) (locs1 : List Loc), P r ws' → va_P G vwCl (ws' ++ wr) H1 → va_D A (ws' ++ wr) → va_S A H0 H1 locs1 → W p l e R s m args below meth c H1 locs1 (cells + mc) (slots + ms) Q (F0 m (pc + 3) ls (.int r :: rest))) : W p l e R s m args below meth c H locs cells slots Q (F0 m pc ls st0) := by
  have hF : ∀ q, va_A wc H.size q → A q := zw_free (pm_Dl hD) hS hA
  refine va_calli hr hS (fun q _ h => hF q h) hF (fun r u t H1 locs1 ht _ hp hb _ hk1 hS1 => ?_)
  obtain ⟨j1, j2⟩ := fr_join (H := H) rfl hP hD hF hk1 (by rw [← ht]; exact hb.1) hb.2
  exact kk r u H1 locs1 hp j1 j2 hS1
end LCALL

abbrev YS : Type := Nat × Nat × (Nat → Nat) × (Nat → Nat) × Nat × KP
def YOK (Y : YS) : Prop := RC Y.1 Y.2.1 ∧ (∀ p, Y.2.2.1 p ≤ 3) ∧ Y.2.2.2.2.1 ≤ 72 ∧ (∀ j, j < Y.2.2.2.2.1 → Y.2.2.2.1 j < 256) ∧ ∀ s r c k, Y.2.2.2.2.2 s = some (r, c, k) → RC r c ∧ ∀ p, k p ≤ 3
abbrev KZ : Type := (Nat × Nat × Nat × Nat) × Int32 × Int32 × Int32 × (Nat → Int32) × (Nat → Int32) × (Nat → Int32)
def kzL (cI : ClassId) (z : KZ) : va_W := [(z.1.1, .inr (3, [.int z.2.1, .int z.2.2.1, .int z.2.2.2.1, .ref z.1.2.1, .ref z.1.2.2.1, .ref z.1.2.2.2])), (z.1.2.1, .inl (cI, 60, .inl z.2.2.2.2.1)), (z.1.2.2.1, .inl (cI, 60, .inl z.2.2.2.2.2.1)), (z.1.2.2.2, .inl (cI, 169, .inl z.2.2.2.2.2.2))]
def kzW (cI : ClassId) (z : Option KZ) : va_W := z.elim [] (kzL cI)
def KpR (kp : KP) (fk : Nat → Option Nat) (zs : Nat → Option KZ) : Prop := ∀ s, s < 2 → fk s = (zs s).map (fun z => z.1.1) ∧ (kp s = none → zs s = none) ∧ ∀ r c k, kp s = some (r, c, k) → ∃ z, zs s = some z ∧ PlR r c k z.2.1 z.2.2.1 z.2.2.2.1 z.2.2.2.2.1 z.2.2.2.2.2.1 z.2.2.2.2.2.2
/-- the component's own cells -/
def cxW (cI cP cJ : ClassId) (t : Nat) (a : Nat → Nat) (s_length : Int32) (s_signs : Nat → Int32) (s_r : Int32) (s_kind : Int32) (s_y : Int32) (d_down : Int32) (d_across : Int32) (d_inner : Int32) (d_points : Nat → Int32) (d_kinds : Nat → Int32) (d_numbers : Nat → Int32) (l_count : Int32) (l_steps : Int32) (l_owners : Nat → Int32) (l_firsts : Nat → Int32) (l_ownersBySteps : Nat → Int32) (l_cells : Nat → Int32) (l_ends : Nat → Int32) (l_rightward : Nat → Int32) (l_downward : Nat → Int32) (c_arcs : Int32) (c_ties : Int32) (c_passes : Nat → Int32) (c_arcsBySteps : Nat → Int32) (c_overs : Nat → Int32) (c_unders : Nat → Int32) (c_tied : Nat → Int32) (c_groups : Nat → Int32) (g_width : Int32) (g_height : Int32) (g_rules : Nat → Option Nat) (f_down : Int32) (f_across : Int32) (f_inner : Int32) (f_points : Nat → Int32) (f_kinds : Nat → Int32) (f_numbers : Nat → Int32) (r_down : Int32) (r_across : Int32) (r_inner : Int32) (r_points : Nat → Int32) (r_kinds : Nat → Int32) (r_numbers : Nat → Int32) (m_count : Int32) (m_steps : Int32) (m_owners : Nat → Int32) (m_firsts : Nat → Int32) (m_ownersBySteps : Nat → Int32) (m_cells : Nat → Int32) (m_ends : Nat → Int32) (m_rightward : Nat → Int32) (m_downward : Nat → Int32) (fk : Nat → Option Nat) : va_W := [(t, .inr (5, [.ref (a 1), .ref (a 3), .ref (a 7), .ref (a 15), .ref (a 22), .ref (a 24), .ref (a 28), .ref (a 32), .ref (a 40)])), ((a 1), .inr (4, [.int s_length, .ref (a 2), .int s_r, .int s_kind, .int s_y])), ((a 2), .inl (cI, 72, .inl s_signs)), ((a 3), .inr (3, [.int d_down, .int d_across, .int d_inner, .ref (a 4), .ref (a 5), .ref (a 6)])), ((a 4), .inl (cI, 60, .inl d_points)), ((a 5), .inl (cI, 60, .inl d_kinds)), ((a 6), .inl (cI, 169, .inl d_numbers)), ((a 7), .inr (2, [.int l_count, .int l_steps, .ref (a 8), .ref (a 9), .ref (a 10), .ref (a 11), .ref (a 12), .ref (a 13), .ref (a 14)])), ((a 8), .inl (cI, 144, .inl l_owners)), ((a 9), .inl (cI, 37, .inl l_firsts)), ((a 10), .inl (cI, 144, .inl l_ownersBySteps)), ((a 11), .inl (cI, 144, .inl l_cells)), ((a 12), .inl (cI, 144, .inl l_ends)), ((a 13), .inl (cI, 144, .inl l_rightward)), ((a 14), .inl (cI, 144, .inl l_downward)), ((a 15), .inr (1, [.int c_arcs, .int c_ties, .ref (a 16), .ref (a 17), .ref (a 18), .ref (a 19), .ref (a 20), .ref (a 21)])), ((a 16), .inl (cI, 144, .inl c_passes)), ((a 17), .inl (cI, 144, .inl c_arcsBySteps)), ((a 18), .inl (cI, 60, .inl c_overs)), ((a 19), .inl (cI, 60, .inl c_unders)), ((a 20), .inl (cI, 36, .inl c_tied)), ((a 21), .inl (cI, 36, .inl c_groups)), ((a 22), .inr (0, [.int g_width, .int g_height, .ref (a 23)])), ((a 23), .inl (cJ, 60, .inr (.inr (.inr (.inr g_rules))))), ((a 24), .inr (3, [.int f_down, .int f_across, .int f_inner, .ref (a 25), .ref (a 26), .ref (a 27)])), ((a 25), .inl (cI, 60, .inl f_points)), ((a 26), .inl (cI, 60, .inl f_kinds)), ((a 27), .inl (cI, 169, .inl f_numbers)), ((a 28), .inr (3, [.int r_down, .int r_across, .int r_inner, .ref (a 29), .ref (a 30), .ref (a 31)])), ((a 29), .inl (cI, 60, .inl r_points)), ((a 30), .inl (cI, 60, .inl r_kinds)), ((a 31), .inl (cI, 169, .inl r_numbers)), ((a 32), .inr (2, [.int m_count, .int m_steps, .ref (a 33), .ref (a 34), .ref (a 35), .ref (a 36), .ref (a 37), .ref (a 38), .ref (a 39)])), ((a 33), .inl (cI, 144, .inl m_owners)), ((a 34), .inl (cI, 37, .inl m_firsts)), ((a 35), .inl (cI, 144, .inl m_ownersBySteps)), ((a 36), .inl (cI, 144, .inl m_cells)), ((a 37), .inl (cI, 144, .inl m_ends)), ((a 38), .inl (cI, 144, .inl m_rightward)), ((a 39), .inl (cI, 144, .inl m_downward)), ((a 40), .inl (cP, 2, .inr (.inr (.inr (.inr fk)))))]
/-- the component stands for Y -/
def CW (cI cP cJ : ClassId) (t : Nat) (Y : YS) (ws : va_W) : Prop := ∃ (a : Nat → Nat) (L : List Nat) (s_length : Int32) (s_signs : Nat → Int32) (s_r : Int32) (s_kind : Int32) (s_y : Int32) (d_down : Int32) (d_across : Int32) (d_inner : Int32) (d_points : Nat → Int32) (d_kinds : Nat → Int32) (d_numbers : Nat → Int32) (l_count : Int32) (l_steps : Int32) (l_owners : Nat → Int32) (l_firsts : Nat → Int32) (l_ownersBySteps : Nat → Int32) (l_cells : Nat → Int32) (l_ends : Nat → Int32) (l_rightward : Nat → Int32) (l_downward : Nat → Int32) (c_arcs : Int32) (c_ties : Int32) (c_passes : Nat → Int32) (c_arcsBySteps : Nat → Int32) (c_overs : Nat → Int32) (c_unders : Nat → Int32) (c_tied : Nat → Int32) (c_groups : Nat → Int32) (g_width : Int32) (g_height : Int32) (g_rules : Nat → Option Nat) (f_down : Int32) (f_across : Int32) (f_inner : Int32) (f_points : Nat → Int32) (f_kinds : Nat → Int32) (f_numbers : Nat → Int32) (r_down : Int32) (r_across : Int32) (r_inner : Int32) (r_points : Nat → Int32) (r_kinds : Nat → Int32) (r_numbers : Nat → Int32) (m_count : Int32) (m_steps : Int32) (m_owners : Nat → Int32) (m_firsts : Nat → Int32) (m_ownersBySteps : Nat → Int32) (m_cells : Nat → Int32) (m_ends : Nat → Int32) (m_rightward : Nat → Int32) (m_downward : Nat → Int32) (fk : Nat → Option Nat) (zs : Nat → Option KZ) (g_rows : Nat → Nat → Int32), ws.Perm ((cxW cI cP cJ t a s_length s_signs s_r s_kind s_y d_down d_across d_inner d_points d_kinds d_numbers l_count l_steps l_owners l_firsts l_ownersBySteps l_cells l_ends l_rightward l_downward c_arcs c_ties c_passes c_arcsBySteps c_overs c_unders c_tied c_groups g_width g_height g_rules f_down f_across f_inner f_points f_kinds f_numbers r_down r_across r_inner r_points r_kinds r_numbers m_count m_steps m_owners m_firsts m_ownersBySteps m_cells m_ends m_rightward m_downward fk) ++ (kzW cI (zs 0) ++ (kzW cI (zs 1) ++ va_pl L (fun q => .inl (cI, 96, .inl (g_rows q)))))) ∧ s_length = nI Y.2.2.2.2.1 ∧ TxR Y.2.2.2.1 Y.2.2.2.2.1 s_signs ∧ PlR Y.1 Y.2.1 Y.2.2.1 d_down d_across d_inner d_points d_kinds d_numbers ∧ LoR (LY Y.1 Y.2.1 Y.2.2.1) l_count l_steps l_owners l_firsts l_ownersBySteps l_cells l_ends l_rightward l_downward ∧ CrR Y.1 Y.2.1 Y.2.2.1 c_arcs c_ties c_passes c_arcsBySteps c_overs c_unders c_tied ∧ RlM L g_rules ∧ m_firsts 0 = 0 ∧ KpR Y.2.2.2.2.2 fk zs
theorem CW.mk {cI cP cJ : ClassId} {t : Nat} {ws : va_W} {r c : Nat} {k tx : Nat → Nat} {ln : Nat} {kp : KP} {a : Nat → Nat} {L : List Nat} {s_length : Int32} {s_signs : Nat → Int32} {s_r : Int32} {s_kind : Int32} {s_y : Int32} {d_down : Int32} {d_across : Int32} {d_inner : Int32} {d_points : Nat → Int32} {d_kinds : Nat → Int32} {d_numbers : Nat → Int32} {l_count : Int32} {l_steps : Int32} {l_owners : Nat → Int32} {l_firsts : Nat → Int32} {l_ownersBySteps : Nat → Int32} {l_cells : Nat → Int32} {l_ends : Nat → Int32} {l_rightward : Nat → Int32} {l_downward : Nat → Int32} {c_arcs : Int32} {c_ties : Int32} {c_passes : Nat → Int32} {c_arcsBySteps : Nat → Int32} {c_overs : Nat → Int32} {c_unders : Nat → Int32} {c_tied : Nat → Int32} {c_groups : Nat → Int32} {g_width : Int32} {g_height : Int32} {g_rules : Nat → Option Nat} {f_down : Int32} {f_across : Int32} {f_inner : Int32} {f_points : Nat → Int32} {f_kinds : Nat → Int32} {f_numbers : Nat → Int32} {r_down : Int32} {r_across : Int32} {r_inner : Int32} {r_points : Nat → Int32} {r_kinds : Nat → Int32} {r_numbers : Nat → Int32} {m_count : Int32} {m_steps : Int32} {m_owners : Nat → Int32} {m_firsts : Nat → Int32} {m_ownersBySteps : Nat → Int32} {m_cells : Nat → Int32} {m_ends : Nat → Int32} {m_rightward : Nat → Int32} {m_downward : Nat → Int32} {fk : Nat → Option Nat} {zs : Nat → Option KZ} {g_rows : Nat → Nat → Int32} (hW : ws.Perm ((cxW cI cP cJ t a s_length s_signs s_r s_kind s_y d_down d_across d_inner d_points d_kinds d_numbers l_count l_steps l_owners l_firsts l_ownersBySteps l_cells l_ends l_rightward l_downward c_arcs c_ties c_passes c_arcsBySteps c_overs c_unders c_tied c_groups g_width g_height g_rules f_down f_across f_inner f_points f_kinds f_numbers r_down r_across r_inner r_points r_kinds r_numbers m_count m_steps m_owners m_firsts m_ownersBySteps m_cells m_ends m_rightward m_downward fk) ++ (kzW cI (zs 0) ++ (kzW cI (zs 1) ++ va_pl L (fun q => .inl (cI, 96, .inl (g_rows q))))))) (e1 : s_length = nI ln) (hT : TxR tx ln s_signs) (hPl : PlR r c k d_down d_across d_inner d_points d_kinds d_numbers) (hLo : LoR (LY r c k) l_count l_steps l_owners l_firsts l_ownersBySteps l_cells l_ends l_rightward l_downward) (hCr : CrR r c k c_arcs c_ties c_passes c_arcsBySteps c_overs c_unders c_tied) (hRl : RlM L g_rules) (hm : m_firsts 0 = 0) (hKp : KpR kp fk zs) : CW cI cP cJ t (r, c, k, tx, ln, kp) ws := ⟨a, L, s_length, s_signs, s_r, s_kind, s_y, d_down, d_across, d_inner, d_points, d_kinds, d_numbers, l_count, l_steps, l_owners, l_firsts, l_ownersBySteps, l_cells, l_ends, l_rightward, l_downward, c_arcs, c_ties, c_passes, c_arcsBySteps, c_overs, c_unders, c_tied, c_groups, g_width, g_height, g_rules, f_down, f_across, f_inner, f_points, f_kinds, f_numbers, r_down, r_across, r_inner, r_points, r_kinds, r_numbers, m_count, m_steps, m_owners, m_firsts, m_ownersBySteps, m_cells, m_ends, m_rightward, m_downward, fk, zs, g_rows, hW, e1, hT, hPl, hLo, hCr, hRl, hm, hKp⟩
theorem CW.recv {cI cP cJ : ClassId} {t : Nat} {Y : YS} {ws : va_W} (h : CW cI cP cJ t Y ws) : ∃ (k : Nat) (fs : List Value), ws[k]? = some (t, .inr (5, fs)) := by
  obtain ⟨a, L, s_length, s_signs, s_r, s_kind, s_y, d_down, d_across, d_inner, d_points, d_kinds, d_numbers, l_count, l_steps, l_owners, l_firsts, l_ownersBySteps, l_cells, l_ends, l_rightward, l_downward, c_arcs, c_ties, c_passes, c_arcsBySteps, c_overs, c_unders, c_tied, c_groups, g_width, g_height, g_rules, f_down, f_across, f_inner, f_points, f_kinds, f_numbers, r_down, r_across, r_inner, r_points, r_kinds, r_numbers, m_count, m_steps, m_owners, m_firsts, m_ownersBySteps, m_cells, m_ends, m_rightward, m_downward, fk, zs, g_rows, hW, -⟩ := h
  obtain ⟨k, hk⟩ := pm_get (q := (t, .inr (5, [.ref (a 1), .ref (a 3), .ref (a 7), .ref (a 15), .ref (a 22), .ref (a 24), .ref (a 28), .ref (a 32), .ref (a 40)]))) hW 0 rfl
  exact ⟨k, _, hk⟩
/-- the model's cells -/
def mxW (cI cZ : ClassId) (t : Nat) (a : Nat → Nat) (t_r : Int32) (t_c : Int32) (t_points : Nat → Int32) (t_readR : Int32) (t_readC : Int32) (t_read : Nat → Int32) (t_told : Nat → Int32) (t_text : Nat → Int32) (t_length : Int32) (t_at : Int32) (t_faultAt : Int32) (t_loopOf : Nat → Int32) (t_isDown : Nat → Int32) (t_row : Nat → Int32) (t_begins : Nat → Int32) (t_loops : Int32) (t_nowCell : Int32) (t_nowDown : Int32) (t_signs : Int32) (t_part : Nat → Int32) (t_arcIn : Nat → Int32) (t_arcOut : Nat → Int32) (t_arcOver : Nat → Int32) (t_arcs : Int32) (t_matrix : Nat → Int32) (t_breaks : Nat → Int32) (t_isKept : Nat → Int32) (t_keptPoints : Nat → Int32) (t_keptSize : Nat → Int32) : va_W := [(t, .inr (6, [.int t_r, .int t_c, .ref (a 1), .int t_readR, .int t_readC, .ref (a 2), .ref (a 3), .ref (a 4), .int t_length, .int t_at, .int t_faultAt, .ref (a 5), .ref (a 6), .ref (a 7), .ref (a 8), .int t_loops, .int t_nowCell, .int t_nowDown, .int t_signs, .ref (a 9), .ref (a 10), .ref (a 11), .ref (a 12), .int t_arcs, .ref (a 13), .ref (a 14), .ref (a 15), .ref (a 16), .ref (a 17)])), ((a 1), .inl (cI, 169, .inl t_points)), ((a 2), .inl (cI, 169, .inl t_read)), ((a 3), .inl (cZ, 169, .inl t_told)), ((a 4), .inl (cI, 72, .inl t_text)), ((a 5), .inl (cI, 144, .inl t_loopOf)), ((a 6), .inl (cZ, 144, .inl t_isDown)), ((a 7), .inl (cI, 144, .inl t_row)), ((a 8), .inl (cI, 145, .inl t_begins)), ((a 9), .inl (cI, 144, .inl t_part)), ((a 10), .inl (cI, 169, .inl t_arcIn)), ((a 11), .inl (cI, 169, .inl t_arcOut)), ((a 12), .inl (cI, 169, .inl t_arcOver)), ((a 13), .inl (cI, 10609, .inl t_matrix)), ((a 14), .inl (cI, 144, .inl t_breaks)), ((a 15), .inl (cZ, 2, .inl t_isKept)), ((a 16), .inl (cI, 338, .inl t_keptPoints)), ((a 17), .inl (cI, 4, .inl t_keptSize))]
/-- the model stands for Y -/
def MW (cI cZ : ClassId) (t : Nat) (Y : YS) (ws : va_W) : Prop := ∃ (a : Nat → Nat) (t_r : Int32) (t_c : Int32) (t_points : Nat → Int32) (t_readR : Int32) (t_readC : Int32) (t_read : Nat → Int32) (t_told : Nat → Int32) (t_text : Nat → Int32) (t_length : Int32) (t_at : Int32) (t_faultAt : Int32) (t_loopOf : Nat → Int32) (t_isDown : Nat → Int32) (t_row : Nat → Int32) (t_begins : Nat → Int32) (t_loops : Int32) (t_nowCell : Int32) (t_nowDown : Int32) (t_signs : Int32) (t_part : Nat → Int32) (t_arcIn : Nat → Int32) (t_arcOut : Nat → Int32) (t_arcOver : Nat → Int32) (t_arcs : Int32) (t_matrix : Nat → Int32) (t_breaks : Nat → Int32) (t_isKept : Nat → Int32) (t_keptPoints : Nat → Int32) (t_keptSize : Nat → Int32), ws.Perm (mxW cI cZ t a t_r t_c t_points t_readR t_readC t_read t_told t_text t_length t_at t_faultAt t_loopOf t_isDown t_row t_begins t_loops t_nowCell t_nowDown t_signs t_part t_arcIn t_arcOut t_arcOver t_arcs t_matrix t_breaks t_isKept t_keptPoints t_keptSize) ∧ t_r = nI Y.1 ∧ t_c = nI Y.2.1 ∧ MpR Y.2.2.1 t_points ∧ TxR Y.2.2.2.1 Y.2.2.2.2.1 t_text ∧ t_length = nI Y.2.2.2.2.1 ∧ KmR Y.2.2.2.2.2 t_isKept t_keptPoints t_keptSize
theorem MW.mk {cI cZ : ClassId} {t : Nat} {ws : va_W} {r c : Nat} {k tx : Nat → Nat} {ln : Nat} {kp : KP} {a : Nat → Nat} {t_r : Int32} {t_c : Int32} {t_points : Nat → Int32} {t_readR : Int32} {t_readC : Int32} {t_read : Nat → Int32} {t_told : Nat → Int32} {t_text : Nat → Int32} {t_length : Int32} {t_at : Int32} {t_faultAt : Int32} {t_loopOf : Nat → Int32} {t_isDown : Nat → Int32} {t_row : Nat → Int32} {t_begins : Nat → Int32} {t_loops : Int32} {t_nowCell : Int32} {t_nowDown : Int32} {t_signs : Int32} {t_part : Nat → Int32} {t_arcIn : Nat → Int32} {t_arcOut : Nat → Int32} {t_arcOver : Nat → Int32} {t_arcs : Int32} {t_matrix : Nat → Int32} {t_breaks : Nat → Int32} {t_isKept : Nat → Int32} {t_keptPoints : Nat → Int32} {t_keptSize : Nat → Int32} (hW : ws.Perm (mxW cI cZ t a t_r t_c t_points t_readR t_readC t_read t_told t_text t_length t_at t_faultAt t_loopOf t_isDown t_row t_begins t_loops t_nowCell t_nowDown t_signs t_part t_arcIn t_arcOut t_arcOver t_arcs t_matrix t_breaks t_isKept t_keptPoints t_keptSize)) (e1 : t_r = nI r) (e2 : t_c = nI c) (hp : MpR k t_points) (hT : TxR tx ln t_text) (e3 : t_length = nI ln) (hK : KmR kp t_isKept t_keptPoints t_keptSize) : MW cI cZ t (r, c, k, tx, ln, kp) ws := ⟨a, t_r, t_c, t_points, t_readR, t_readC, t_read, t_told, t_text, t_length, t_at, t_faultAt, t_loopOf, t_isDown, t_row, t_begins, t_loops, t_nowCell, t_nowDown, t_signs, t_part, t_arcIn, t_arcOut, t_arcOver, t_arcs, t_matrix, t_breaks, t_isKept, t_keptPoints, t_keptSize, hW, e1, e2, hp, hT, e3, hK⟩
theorem MW.recv {cI cZ : ClassId} {t : Nat} {Y : YS} {ws : va_W} (h : MW cI cZ t Y ws) : ∃ (k : Nat) (fs : List Value), ws[k]? = some (t, .inr (6, fs)) := by
  obtain ⟨a, t_r, t_c, t_points, t_readR, t_readC, t_read, t_told, t_text, t_length, t_at, t_faultAt, t_loopOf, t_isDown, t_row, t_begins, t_loops, t_nowCell, t_nowDown, t_signs, t_part, t_arcIn, t_arcOut, t_arcOver, t_arcs, t_matrix, t_breaks, t_isKept, t_keptPoints, t_keptSize, hW, -⟩ := h
  obtain ⟨k, hk⟩ := pm_get0 (q := (t, .inr (6, [.int t_r, .int t_c, .ref (a 1), .int t_readR, .int t_readC, .ref (a 2), .ref (a 3), .ref (a 4), .int t_length, .int t_at, .int t_faultAt, .ref (a 5), .ref (a 6), .ref (a 7), .ref (a 8), .int t_loops, .int t_nowCell, .int t_nowDown, .int t_signs, .ref (a 9), .ref (a 10), .ref (a 11), .ref (a 12), .int t_arcs, .ref (a 13), .ref (a 14), .ref (a 15), .ref (a 16), .ref (a 17)]))) hW 0 rfl
  exact ⟨k, _, hk⟩
