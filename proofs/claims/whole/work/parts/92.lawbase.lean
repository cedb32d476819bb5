theorem YOK_write {Y : YS} (h : YOK Y) (n : Int32) (v : Int64) : YOK (Ywrite Y n v).2 := by
  obtain ⟨r, c, k, tx, ln, kp⟩ := Y
  obtain ⟨hR, hk, hln, htx, hkp⟩ := h
  dsimp only at hR hk hln htx hkp
  cases hm : rgI 1 8 n with
  | none =>
    have e : Ywrite (r, c, k, tx, ln, kp) n v = (-2, (r, c, k, tx, ln, kp)) := by unfold Ywrite; rw [hm]; rfl
    rw [e]
    exact ⟨hR, hk, hln, htx, hkp⟩
  | some m =>
    have e : Ywrite (r, c, k, tx, ln, kp) n v = if 72 < ln + m then (-4, (r, c, k, tx, ln, kp)) else (nI (ln + m), (r, c, k, wrT m v tx ln, ln + m, kp)) := by unfold Ywrite; rw [hm]; rfl
    rw [e]
    by_cases q : 72 < ln + m
    · rw [if_pos q]
      exact ⟨hR, hk, hln, htx, hkp⟩
    · rw [if_neg q]
      refine ⟨hR, hk, Nat.not_lt.mp q, fun j hj => ?_, hkp⟩
      have hj2 : j < ln + m := hj
      show wrT m v tx ln j < 256
      unfold wrT
      split
      · exact byt_lt _ _
      · exact htx j (by omega)
theorem YOK_wipe {Y : YS} (h : YOK Y) : YOK (Ywipe Y).2 := ⟨h.1, h.2.1, Nat.zero_le _, fun j hj => absurd hj (Nat.not_lt_zero j), h.2.2.2.2⟩
theorem YOK_set {Y : YS} (h : YOK Y) (x w : Int32) : YOK (Yset Y x w).2 := ⟨h.1, kSet_3 h.2.1 x w, h.2.2.1, h.2.2.2.1, h.2.2.2.2⟩
theorem YOK_keep {Y : YS} (h : YOK Y) (x : Int32) : YOK (Ykeep Y x).2 := by
  obtain ⟨r, c, k, tx, ln, kp⟩ := Y
  obtain ⟨hR, hk, hln, htx, hkp⟩ := h
  dsimp only at hR hk hln htx hkp
  cases hm : rgI 0 1 x with
  | none =>
    have e : Ykeep (r, c, k, tx, ln, kp) x = (-1, (r, c, k, tx, ln, kp)) := by unfold Ykeep; rw [hm]; rfl
    rw [e]
    exact ⟨hR, hk, hln, htx, hkp⟩
  | some s =>
    have e : Ykeep (r, c, k, tx, ln, kp) x = (nI (inN r c), (r, c, k, tx, ln, kpU kp s (r, c, k))) := by unfold Ykeep; rw [hm]; rfl
    rw [e]
    refine ⟨hR, hk, hln, htx, fun j r2 c2 k2 q => ?_⟩
    by_cases ej : j = s
    · have q2 : (r, c, k) = (r2, c2, k2) := by simpa [kpU, ej] using q
      cases q2
      exact ⟨hR, hk⟩
    · have q2 : kp j = some (r2, c2, k2) := by simpa [kpU, ej] using q
      exact hkp j r2 c2 k2 q2
theorem YOK_again {Y : YS} (h : YOK Y) (x : Int32) : YOK (Yagain Y x).2 := by
  obtain ⟨r, c, k, tx, ln, kp⟩ := Y
  obtain ⟨hR, hk, hln, htx, hkp⟩ := h
  dsimp only at hR hk hln htx hkp
  cases hm : rgI 0 1 x with
  | none =>
    have e : Yagain (r, c, k, tx, ln, kp) x = (-1, (r, c, k, tx, ln, kp)) := by unfold Yagain; rw [hm]; rfl
    rw [e]
    exact ⟨hR, hk, hln, htx, hkp⟩
  | some s =>
    cases hv : kp s with
    | none =>
      have e : Yagain (r, c, k, tx, ln, kp) x = (-3, (r, c, k, tx, ln, kp)) := by unfold Yagain; rw [hm]; show Option.elim (kp s) _ _ = _; rw [hv]; rfl
      rw [e]
      exact ⟨hR, hk, hln, htx, hkp⟩
    | some v =>
      obtain ⟨r2, c2, k2⟩ := v
      have e : Yagain (r, c, k, tx, ln, kp) x = (nI (inN r2 c2), (r2, c2, k2, tx, ln, kp)) := by unfold Yagain; rw [hm]; show Option.elim (kp s) _ _ = _; rw [hv]; rfl
      rw [e]
      obtain ⟨h1, h2⟩ := hkp s r2 c2 k2 hv
      exact ⟨h1, h2, hln, htx, hkp⟩
def R_law : String := "PlaitAndBreakLaw"
def lw_P (b : Addr) (xs : List Int32) (args : Array Value) (s : State) : Prop := args = #[.ref b] ∧ s.IntsAt b xs ∧ xs.length ≤ 3584 ∧ (Jvm.Cond.and given_1 narrow_1).before args s = true
def lw_Q (_ : Array Value) (s : State) (o : Outcome) (t : State) : Prop := o = .returned (some (.int 1)) ∧ Framed s o t [] 600000 7302250
def lw_Z (below : List Frame) (a : Array Value) (s : State) : State → Prop := fun t => ∃ o, t.status = .running ∧ Ended t below o ∧ lw_Q a s o t
/-- the law's own end, with 1 on the stack, nothing written that was there before, its room as the claim has it -/
theorem lw_ret {p : Program} {l : Launch} {e : Env} {s : State} {m : MethodId} {below : List Frame} {meth : Method} {c : Code} {b : Nat} (hx : p.tables.exec = Jvm.exec) (hb : c.code = code) (hr : meth.sig.returnType = ret) (hlocks : meth.locks = false) {pc : Nat} {H : Heap} {ls : Array Slot} (hdg : decode code pc = .ok (.ireturn, 1)) : W p l e room_1 s m #[Value.ref b] below meth c H [] 600000 7302250 (lw_Z below #[Value.ref b] s) (F0 m pc ls [.int 1]) := by
  intro T hT X
  obtain ⟨fs, hret, hrun, hended, hW, hframe⟩ := X.leave (v := some (.int 1)) (hlocks := hlocks) (fun h => by rw [hr] at h; cases h)
  have hmeth' : T.vm.method? m = some meth := X.method'
  refine ⟨T.setFrames fs, ?_, .returned (some (.int 1)), hrun, hended, rfl, ⟨_, rfl⟩, hW, hframe⟩
  jvm_step X.here [X.here.top, hx, hb, hdg, hmeth', hr, ret, narrow_b1]
  (try refine ⟨rfl, ?_⟩); (try refine ⟨rfl, ?_⟩)
  first | (intro acts; rw [hret _ acts rfl rfl rfl]) | rw [hret _ _ rfl rfl rfl]
  exact Steps.refl _
/-- what holds at the law's entry: the machine, the code, the tables' words (any of lw_tbl by 'hts w (by decide +kernel)'), the script of L ints xs at the cell b, what the Statement gives of the start (any of its parts by flat_of_before) -/
def lw_At (p : Program) (s : State) (m : MethodId) (meth : Method) (c : Code) (b L : Nat) (xs : Nat → Int32) : Prop :=
  p.tables.exec = Jvm.exec ∧ c.code = code ∧ meth.sig.returnType = ret ∧ c.maxLocals = 4 ∧ s.vm.findClass R_law = some m.cls ∧ (∀ w ∈ lw_tbl, w.before #[Value.ref b] s = true) ∧ va_X b L xs s s.heap ∧ b < s.heap.size ∧ meth.locks = false ∧ (Jvm.Cond.and given_1 narrow_1).before #[Value.ref b] s = true
/-- from here with any world of both sides that stand for one Y the law comes to its end -/
def LI (p : Program) (l : Launch) (e : Env) (s : State) (m : MethodId) (below : List Frame) (meth : Method) (c : Code) (b : Nat) (G : va_G) (cI cZ cP cJ : ClassId) (t1 t2 : Nat) (i : Int32) (cells slots pc : Nat) : Prop :=
  ∀ (Y : YS) (ws wm : va_W) (H : Heap) (locs : List Loc) (ls : Array Slot), YOK Y → CW cI cP cJ t1 Y ws → MW cI cZ t2 Y wm → va_P G vwCl (ws ++ wm) H → va_D (fun q => s.heap.size ≤ q) (ws ++ wm) → va_S (fun q => s.heap.size ≤ q) s.heap H locs → lv_has ls 4 [(3, .int i), (2, .ref t2), (1, .ref t1), (0, .ref b)] → W p l e room_1 s m #[Value.ref b] below meth c H locs cells slots (lw_Z below #[Value.ref b] s) (F0 m pc ls [])
