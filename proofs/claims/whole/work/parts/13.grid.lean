/-! rows of an array of int arrays, among pooled cells -/
section GRID
variable {p : Program} {l : Launch} {e : Env} {R : Room} {s : State} {m : MethodId} {args : Array Value} {below : List Frame} {meth : Method} {c : Code} {H : Heap} {locs : List Loc} {cells slots : Nat} {Q : State → Prop}
variable {cc : ByteArray} {pc : Nat} {ls : Array Slot} {rest : List Value} {D : va_G} {cl : List vw_C} {A : Nat → Prop} {a : Nat} {tys : List (ClassId × FieldType)} {ws : va_W} {H0 : Heap}
theorem zw_ald (hexec : p.tables.exec = Jvm.exec) (hb : c.code = cc) (hK : va_K D cl tys s) (hP : va_P D cl ws H) (q0 t0 : Nat) {cA : ClassId} {t : FieldType} {n : Nat} {f : Nat → Option Nat} (ha : ws[q0]? = some (a, .inl (cA, n, .inr (.inr (.inr (.inr f)))))) (ht : tys[t0]? = some (cA, .array t)) {i : Int32} (hin : vp_in i n) {y : Nat} (hy : f i.toNatClampNeg = some y) (hdg : decode cc pc = .ok (.aaload, 1))
    (kk : W p l e R s m args below meth c H locs cells slots Q (F0 m (pc + 1) ls (.ref y :: rest))) : W p l e R s m args below meth c H locs cells slots Q (F0 m pc ls (.int i :: .ref a :: rest)) := by
  have hlt : i.toNatClampNeg < n := Nat.not_le.mp fun q => hin (Or.inr q)
  refine W.aald (v := va_rf (f i.toNatClampNeg)) (ty := .array t) hexec hb (hP q0 _ ha) ((hK.2 t0 _ ht).1 n (fun j => va_rf (f j))) rfl (fun q => by cases q) (by show ¬ (i < 0 ∨ (arrV _ _ _).slots.size ≤ _); rw [arrV_size]; exact hin) (by show (arrV _ _ _).slots[_]? = _; rw [arrV_read _ _ hlt]) rfl rfl hdg ?_
  rw [hy]
  exact kk
/-- what is wanted of the tables so that a row may be put -/
theorem zw_comp {T : List (ClassId × FieldType)} {G : va_G} {cI cJ : ClassId} (hK : KK G T s) {t0 t1 : Nat} (h0 : T[t0]? = some (cJ, .array .int)) (h1 : T[t1]? = some (cI, .int)) : ∃ kA kI : Class, s.vm.classes[cJ]? = some kA ∧ kA.kind = .array cI (.array .int) ∧ s.vm.classes[cI]? = some kI := by
  obtain ⟨comp, c0, k, f1, -, f3, f4, f5⟩ := hK.2.2.2.1.spec
  have e1 : s.vm.findClass ("[" ++ (FieldType.array .int).toString) = some cJ := (hK.1.2 t0 _ h0).2
  have e2 : s.vm.findClass ("[" ++ FieldType.int.toString) = some cI := (hK.1.2 t1 _ h1).2
  cases e1.symm.trans f5
  have e3 : some cI = some comp := e2.symm.trans f1
  cases e3
  obtain ⟨kI, hkI, -⟩ := Vm.findClass_spec e2
  exact ⟨k, kI, f3, f4, hkI⟩
theorem zw_ast {T : List (ClassId × FieldType)} {G : va_G} (hexec : p.tables.exec = Jvm.exec) (hb : c.code = cc) (hK : KK G T s) {X : va_W} {L : List Nat} {rw_ : Nat → Nat → Int32} {cI : ClassId} (hP : va_P G vwCl (X ++ va_pl L (fun q => .inl (cI, 96, .inl (rw_ q)))) H) (hD : va_D A (X ++ va_pl L (fun q => .inl (cI, 96, .inl (rw_ q))))) (hS : va_S A H0 H locs) (q0 t0 t1 : Nat) {cA : ClassId} {n : Nat} {f : Nat → Option Nat} (ha : (X ++ va_pl L (fun q => .inl (cI, 96, .inl (rw_ q))))[q0]? = some (a, .inl (cA, n, .inr (.inr (.inr (.inr f)))))) (ht : T[t0]? = some (cA, .array .int)) (ht1 : T[t1]? = some (cI, .int)) {y : Nat} (hy : y ∈ L) {i : Int32} (hin : vp_in i n) (hdg : decode cc pc = .ok (.aastore, 1))
    (kk : ∀ (H1 : Heap) (locs1 : List Loc), va_P G vwCl ((X ++ va_pl L (fun q => .inl (cI, 96, .inl (rw_ q)))).set q0 (a, .inl (cA, n, .inr (.inr (.inr (.inr (va_up f i.toNatClampNeg (some y)))))))) H1 → va_D A ((X ++ va_pl L (fun q => .inl (cI, 96, .inl (rw_ q)))).set q0 (a, .inl (cA, n, .inr (.inr (.inr (.inr (va_up f i.toNatClampNeg (some y)))))))) → va_S A H0 H1 locs1 → W p l e R s m args below meth c H1 locs1 cells slots Q (F0 m (pc + 1) ls rest)) : W p l e R s m args below meth c H locs cells slots Q (F0 m pc ls (.ref y :: .int i :: .ref a :: rest)) := by
  have hlt : i.toNatClampNeg < n := Nat.not_le.mp fun q => hin (Or.inr q)
  have h0 : ¬ i < 0 := fun q => hin (Or.inl q)
  obtain ⟨kA, kI, g1, g2, g3⟩ := zw_comp hK ht ht1
  obtain ⟨k, hk⟩ := va_pl_get (X := X) (f := fun q => .inl (cI, 96, .inl (rw_ q))) hy
  have hy2 : H[y]? = some (vp_cell cI (96, .inl (rw_ y))) := hP k _ hk
  have e1 : (vp_cell cI (96, .inl (rw_ y))).cls = cI := rfl
  refine W.aast hexec hb (hP q0 _ ha) (fun q h => by cases h) (fun h => by cases h) g1 g2 rfl g3 ⟨h0, by show _ < (arrV _ _ _).slots.size; rw [arrV_size]; exact hlt⟩ hy2 (fun q h => by cases h) (by rw [e1]; exact g3) (by rw [e1]; exact va_asg _ _) rfl rfl hdg fun H1 e z oq => ?_
  refine kk H1 _ (hP.set hD ha ?_ oq) (hD.set ha) (hS.put z oq (hD.2 q0 _ ha))
  show H1[a]? = some (vp_cell _ _)
  rw [e]
  rw [vp_cell_q, vp_cell_q, arrV_store]
  congr 2
  funext q
  by_cases hq : q = i.toNatClampNeg
  · subst hq
    simp [updV, va_up, va_rf]
  · simp [updV, va_up, hq]
theorem zw_up {rw_ : Nat → Nat → Int32} {cI : ClassId} {y : Nat} {g : Nat → Int32} : va_up (fun q : Nat => (.inl (cI, 96, .inl (rw_ q)) : va_E)) y (.inl (cI, 96, .inl g)) = fun q => .inl (cI, 96, .inl (va_up rw_ y g q)) := by
  funext q
  unfold va_up
  by_cases h : q = y
  · simp [h]
  · simp [h]
theorem zw_rld (hexec : p.tables.exec = Jvm.exec) (hb : c.code = cc) (hK : va_K D cl tys s) {X : va_W} {L : List Nat} {rw_ : Nat → Nat → Int32} {cI : ClassId} (hP : va_P D cl (X ++ va_pl L (fun q => .inl (cI, 96, .inl (rw_ q)))) H) (t0 : Nat) (ht : tys[t0]? = some (cI, .int)) {y : Nat} (hy : y ∈ L) {i : Int32} (hin : vp_in i 96) (hdg : decode cc pc = .ok (.iaload, 1))
    (kk : W p l e R s m args below meth c H locs cells slots Q (F0 m (pc + 1) ls (.int (rw_ y i.toNatClampNeg) :: rest))) : W p l e R s m args below meth c H locs cells slots Q (F0 m pc ls (.int i :: .ref y :: rest)) := by
  obtain ⟨k, hk⟩ := va_pl_get (X := X) (f := fun q => .inl (cI, 96, .inl (rw_ q))) hy
  exact va_iald hexec hb hK hP k t0 hk ht hin hdg kk
theorem zw_rst (hexec : p.tables.exec = Jvm.exec) (hb : c.code = cc) (hK : va_K D cl tys s) {X : va_W} {L : List Nat} {rw_ : Nat → Nat → Int32} {cI : ClassId} (hP : va_P D cl (X ++ va_pl L (fun q => .inl (cI, 96, .inl (rw_ q)))) H) (hD : va_D A (X ++ va_pl L (fun q => .inl (cI, 96, .inl (rw_ q))))) (hS : va_S A H0 H locs) (t0 : Nat) (ht : tys[t0]? = some (cI, .int)) {y : Nat} (hy : y ∈ L) {i x : Int32} (hin : vp_in i 96) (hdg : decode cc pc = .ok (.iastore, 1))
    (kk : ∀ (H1 : Heap) (locs1 : List Loc), va_P D cl (X ++ va_pl L (fun q => .inl (cI, 96, .inl (va_up rw_ y (upd (rw_ y) i.toNatClampNeg x) q)))) H1 → va_D A (X ++ va_pl L (fun q => .inl (cI, 96, .inl (va_up rw_ y (upd (rw_ y) i.toNatClampNeg x) q)))) → va_S A H0 H1 locs1 → W p l e R s m args below meth c H1 locs1 cells slots Q (F0 m (pc + 1) ls rest)) : W p l e R s m args below meth c H locs cells slots Q (F0 m pc ls (.int x :: .int i :: .ref y :: rest)) := by
  obtain ⟨k, hk⟩ := va_pl_get (X := X) (f := fun q => .inl (cI, 96, .inl (rw_ q))) hy
  refine va_iast hexec hb hK hP hD hS k t0 hk ht hin hdg (fun H1 locs1 h1 h2 h3 => ?_)
  rw [va_pl_set hD hy hk, zw_up] at h1 h2
  exact kk H1 locs1 h1 h2 h3
/-- one cell of a world, changed by a call that had it alone -/
theorem zw_set1 {G : va_G} {H1 : Heap} {k y : Nat} {e0 e1 : va_E} (hP : va_P G vwCl ws H) (hD : va_D A ws) (hk : ws[k]? = some (y, e0)) (hfr : ∀ q : Nat, q < H.size → ¬ va_A [(y, e0)] H.size q → H1[q]? = H[q]?) (hP1 : va_P G vwCl [(y, e1)] H1) : va_P G vwCl (ws.set k (y, e1)) H1 ∧ va_D A (ws.set k (y, e1)) := by
  have hlt := (List.getElem?_eq_some_iff.mp hk).1
  refine ⟨fun j q hq => ?_, hD.set hk⟩
  by_cases hj : j = k
  · subst hj
    rw [List.getElem?_set_self hlt] at hq
    cases hq
    exact hP1 0 _ rfl
  · rw [List.getElem?_set_ne (Ne.symm hj)] at hq
    refine (hP j q hq).kept (hfr q.1 ((hP j q hq).lt) (fun hA => ?_))
    rcases hA with ⟨k2, e2, h2⟩ | h2
    · have hk2 : k2 < 1 := (List.getElem?_eq_some_iff.mp h2).1
      rw [show k2 = 0 by omega] at h2
      have h3 : y = q.1 := congrArg Prod.fst (Option.some.inj h2)
      exact hj (hD.1 j k q (y, e0) hq hk h3.symm)
    · have := (hP j q hq).lt
      omega
theorem zw_row {G : va_G} {X : va_W} {L : List Nat} {rw_ : Nat → Nat → Int32} {cI : ClassId} (hP : va_P G vwCl (X ++ va_pl L (fun q => .inl (cI, 96, .inl (rw_ q)))) H) (hD : va_D A (X ++ va_pl L (fun q => .inl (cI, 96, .inl (rw_ q))))) (hS : va_S A H0 H locs) (hA : ∀ q, H0.size ≤ q → A q) {y : Nat} (hy : y ∈ L) : va_P G vwCl [(y, .inl (cI, 96, .inl (rw_ y)))] H ∧ va_D A [(y, .inl (cI, 96, .inl (rw_ y)))] ∧ ∀ q, va_A [(y, .inl (cI, 96, .inl (rw_ y)))] H.size q → A q := by
  obtain ⟨k, hk⟩ := va_pl_get (X := X) (f := fun q => .inl (cI, 96, .inl (rw_ q))) hy
  have hz : ∀ (j : Nat) (q : Nat × va_E), [((y, .inl (cI, 96, .inl (rw_ y))) : Nat × va_E)][j]? = some q → j = 0 ∧ q = (y, .inl (cI, 96, .inl (rw_ y))) := by
    intro j q h
    have h2 : j < 1 := (List.getElem?_eq_some_iff.mp h).1
    have h3 : j = 0 := by omega
    subst h3
    exact ⟨rfl, (Option.some.inj h).symm⟩
  refine ⟨fun j q h => ?_, ⟨fun i j x z h1 h2 _ => by rw [(hz i x h1).1, (hz j z h2).1], fun j q h => ?_⟩, fun q h => ?_⟩
  · rw [(hz j q h).2]; exact hP k _ hk
  · rw [(hz j q h).2]; exact hD.2 k _ hk
  · rcases h with ⟨j, e0, h⟩ | h
    · have h3 : q = y := congrArg Prod.fst (hz j (q, e0) h).2
      rw [h3]; exact hD.2 k _ hk
    · exact hA q (Nat.le_trans hS.1 h)
theorem zw_back {G : va_G} {X : va_W} {L : List Nat} {rw_ : Nat → Nat → Int32} {cI : ClassId} {H1 : Heap} {y : Nat} {g : Nat → Int32} (hP : va_P G vwCl (X ++ va_pl L (fun q => .inl (cI, 96, .inl (rw_ q)))) H) (hD : va_D A (X ++ va_pl L (fun q => .inl (cI, 96, .inl (rw_ q))))) (hy : y ∈ L) (hfr : ∀ q : Nat, q < H.size → ¬ va_A [(y, .inl (cI, 96, .inl (rw_ y)))] H.size q → H1[q]? = H[q]?) (hP1 : va_P G vwCl [(y, .inl (cI, 96, .inl g))] H1) : va_P G vwCl (X ++ va_pl L (fun q => .inl (cI, 96, .inl (va_up rw_ y g q)))) H1 ∧ va_D A (X ++ va_pl L (fun q => .inl (cI, 96, .inl (va_up rw_ y g q)))) := by
  obtain ⟨k, hk⟩ := va_pl_get (X := X) (f := fun q => .inl (cI, 96, .inl (rw_ q))) hy
  have h := zw_set1 hP hD hk hfr hP1
  rw [va_pl_set hD hy hk, zw_up] at h
  exact h
theorem zw_free (hD : va_D A ws) (hS : va_S A H0 H locs) (hA : ∀ q, H0.size ≤ q → A q) : ∀ q, va_A ws H.size q → A q := by
  intro q h
  rcases h with ⟨k, e, h⟩ | h
  · exact hD.2 k (q, e) h
  · exact hA q (Nat.le_trans hS.1 h)
end GRID
