/-! what all walks share: the nest links, the tables, small rows -/
def nwF : List Cond := [.fieldLinkNest RX5 72 "PlaitAndBreak$Script" "length" "I" "PlaitAndBreak", .fieldLinkNest RX2 46 "PlaitAndBreak$Plait" "down" "I" "PlaitAndBreak", .fieldLinkNest RX5 104 "PlaitAndBreak$Plait" "down" "I" "PlaitAndBreak", .fieldLinkNest RX2 51 "PlaitAndBreak$Plait" "across" "I" "PlaitAndBreak", .fieldLinkNest RX5 107 "PlaitAndBreak$Plait" "across" "I" "PlaitAndBreak", .fieldLinkNest RX5 84 "PlaitAndBreak$Plait" "inner" "I" "PlaitAndBreak", .fieldLinkNest RX1 49 "PlaitAndBreak$Loops" "count" "I" "PlaitAndBreak", .fieldLinkNest RX5 117 "PlaitAndBreak$Loops" "count" "I" "PlaitAndBreak", .fieldLinkNest RX1 36 "PlaitAndBreak$Loops" "steps" "I" "PlaitAndBreak", .fieldLinkNest RX0 39 "PlaitAndBreak$Crossings" "arcs" "I" "PlaitAndBreak", .fieldLinkNest RX5 123 "PlaitAndBreak$Crossings" "arcs" "I" "PlaitAndBreak", .fieldLinkNest RX5 188 "PlaitAndBreak$Crossings" "ties" "I" "PlaitAndBreak"]
def nwM : List Cond := [.methodLinkNest RX5 11 yX4_init "PlaitAndBreak", .methodLinkNest RX5 18 yX3_init "PlaitAndBreak", .methodLinkNest RX5 25 yX2_init "PlaitAndBreak", .methodLinkNest RX5 32 yX1_init "PlaitAndBreak", .methodLinkNest RX5 39 yX0_init "PlaitAndBreak", .methodLinkNest RX5 57 yX3_spread "PlaitAndBreak", .methodLinkNest RX3 21 yX5_isSquares "PlaitAndBreak", .methodLinkNest RX5 198 yX2_follow "PlaitAndBreak", .methodLinkNest RX2 62 yX3_hasCell "PlaitAndBreak", .methodLinkNest RX2 66 yX3_kindAt "PlaitAndBreak", .methodLinkNest RX3 57 yX5_at "PlaitAndBreak", .methodLinkNest RX5 201 yX1_survey "PlaitAndBreak", .methodLinkNest RX1 60 yX2_endAt "PlaitAndBreak", .methodLinkNest RX2 70 yX5_at "PlaitAndBreak", .methodLinkNest RX1 64 yX3_numberOf "PlaitAndBreak", .methodLinkNest RX1 69 yX3_isCrossing "PlaitAndBreak", .methodLinkNest RX1 73 yX2_rightAt "PlaitAndBreak", .methodLinkNest RX1 76 yX2_downAt "PlaitAndBreak", .methodLinkNest RX1 79 yX3_kindOf "PlaitAndBreak", .methodLinkNest RX1 82 yX2_firstStep "PlaitAndBreak", .methodLinkNest RX2 74 yX5_isIn "PlaitAndBreak", .methodLinkNest RX1 89 yX5_isIn "PlaitAndBreak", .methodLinkNest RX1 102 yX2_ownerAt "PlaitAndBreak", .methodLinkNest RX1 112 yX5_at "PlaitAndBreak", .methodLinkNest RX5 64 yX4_hasRoomFor "PlaitAndBreak", .methodLinkNest RX5 68 yX4_append "PlaitAndBreak", .methodLinkNest RX5 76 yX4_readInto "PlaitAndBreak", .methodLinkNest RX4 30 yX5_isSquares "PlaitAndBreak", .methodLinkNest RX4 37 yX3_spread "PlaitAndBreak", .methodLinkNest RX4 49 yX3_countKind "PlaitAndBreak", .methodLinkNest RX4 55 yX3_hasPlainInRow "PlaitAndBreak", .methodLinkNest RX4 58 yX3_numberAt "PlaitAndBreak", .methodLinkNest RX4 62 yX3_kindOf "PlaitAndBreak", .methodLinkNest RX4 65 yX3_put "PlaitAndBreak", .methodLinkNest RX3 65 yX5_isIn "PlaitAndBreak", .methodLinkNest RX5 80 yX3_become "PlaitAndBreak", .methodLinkNest RX5 90 yX3_sow "PlaitAndBreak", .methodLinkNest RX5 94 yX3_numberOf "PlaitAndBreak", .methodLinkNest RX5 98 yX3_kindOf "PlaitAndBreak", .methodLinkNest RX5 101 yX3_put "PlaitAndBreak", .methodLinkNest RX5 110 yX3_countCrossings "PlaitAndBreak", .methodLinkNest RX5 114 yX3_countKind "PlaitAndBreak", .methodLinkNest RX5 126 yX2_ownerOf "PlaitAndBreak", .methodLinkNest RX5 129 yX2_has "PlaitAndBreak", .methodLinkNest RX5 132 yX2_firstStep "PlaitAndBreak", .methodLinkNest RX5 135 yX2_cellAt "PlaitAndBreak", .methodLinkNest RX5 138 yX2_lengthOf "PlaitAndBreak", .methodLinkNest RX5 141 yX1_countBends "PlaitAndBreak", .methodLinkNest RX5 145 yX1_countShared "PlaitAndBreak", .methodLinkNest RX5 149 yX1_countUneven "PlaitAndBreak", .methodLinkNest RX5 152 yX2_stepBehind "PlaitAndBreak", .methodLinkNest RX5 156 yX2_endAt "PlaitAndBreak", .methodLinkNest RX5 159 yX3_isCrossing "PlaitAndBreak", .methodLinkNest RX5 162 yX1_loopOver "PlaitAndBreak", .methodLinkNest RX5 165 yX1_loopUnder "PlaitAndBreak", .methodLinkNest RX5 168 yX1_signAt "PlaitAndBreak", .methodLinkNest RX5 171 yX1_sumSigns "PlaitAndBreak", .methodLinkNest RX5 175 yX1_sumSharedSigns "PlaitAndBreak", .methodLinkNest RX5 178 yX0_countFree "PlaitAndBreak", .methodLinkNest RX0 50 yX1_isHere "PlaitAndBreak", .methodLinkNest RX0 54 yX1_underAt "PlaitAndBreak", .methodLinkNest RX0 64 yX1_overAt "PlaitAndBreak", .methodLinkNest RX0 67 yX1_arcAt "PlaitAndBreak", .methodLinkNest RX0 79 yX5_isIn "PlaitAndBreak", .methodLinkNest RX0 74 yX2_stepAfter "PlaitAndBreak", .methodLinkNest RX5 185 yX3_pointOf "PlaitAndBreak", .methodLinkNest RX5 191 yX1_tieAt "PlaitAndBreak", .methodLinkNest RX5 194 yX3_isSameTurned "PlaitAndBreak"]
def nwFq (w : Cond) : Bool := match w with
  | .fieldLinkNest _ _ _ _ _ _ => true
  | _ => false
def nwMq (w : Cond) : Bool := match w with
  | .methodLinkNest _ _ _ _ => true
  | _ => false
theorem nwF_all : ∀ w ∈ nwF, nwFq w = true := List.all_eq_true.mp (by decide +kernel)
theorem nwM_all : ∀ w ∈ nwM, nwMq w = true := List.all_eq_true.mp (by decide +kernel)
/-- arrays of int arrays: their class stands over the int arrays' -/
def zwA (U : State) : Prop := (Cond.arrayOver (.array .int)).before #[] U = true
theorem zwA.spec {U : State} (h : zwA U) : ∃ comp c k, U.vm.findClass (FieldType.array .int).toString = some comp ∧ (U.vm.classes.findIdx? fun (x : Class) => match x.kind with | .array component _ => component == comp | _ => false) = some c ∧ U.vm.classes[c]? = some k ∧ k.kind = .array comp (.array .int) ∧ U.vm.findClass ("[" ++ (FieldType.array .int).toString) = some c := by
  unfold zwA Cond.before at h
  simp only [Cond.holds, Cond.value, beq_iff_eq] at h
  cases hc : U.vm.findClass (FieldType.array .int).toString with
  | none => simp [hc] at h
  | some comp =>
    simp only [hc, Option.bind_some, Option.bind_eq_some_iff, Option.map_eq_some_iff] at h
    obtain ⟨c, hi, k, hk, hb⟩ := h
    obtain ⟨hlt, hp, -⟩ := Array.findIdx?_eq_some_iff_getElem.mp hi
    have hkk : U.vm.classes[c] = k := (Array.getElem?_eq_some_iff.mp hk).2
    rw [hkk] at hp
    cases hkind : k.kind with
    | array component ty =>
      rw [hkind] at hb hp
      simp at hb hp
      exact ⟨comp, c, k, rfl, hi, hk, by rw [hkind, hp, hb.1], hb.2⟩
    | _ => rw [hkind] at hb; simp at hb
theorem zwA.moved {u U : State} (hvm : u.vm.Alike U.vm) (h : zwA u) : zwA U := by
  obtain ⟨comp, c, k, h1, h2, h3, h4, h5⟩ := zwA.spec h
  obtain ⟨k', hk', he⟩ := hvm.2.2 _ _ h3
  have hi : (U.vm.classes.findIdx? fun (x : Class) => match x.kind with | .array component _ => component == comp | _ => false) = some c := by
    refine (va_idx_bare U.vm comp).symm.trans ?_
    first | rw [hvm.bare_eq] | rw [← hvm.bare_eq]
    exact (va_idx_bare u.vm comp).trans h2
  have hkind : k'.kind = .array comp (.array .int) := by rw [he]; exact h4
  have f1 : U.vm.findClass (FieldType.array .int).toString = some comp := by rw [hvm.findClass]; exact h1
  have f2 : U.vm.findClass ("[" ++ (FieldType.array .int).toString) = some c := by rw [hvm.findClass]; exact h5
  unfold zwA Cond.before Cond.holds
  simp only [Cond.value]
  rw [f1, Option.bind_some]
  refine (congrArg (fun o : Option Nat => (o.bind (fun c => (U.vm.classes[c]?).map fun (k : Class) => match k.kind with | .array _ ty => decide (ty = FieldType.array .int) && decide (U.vm.findClass ("[" ++ (FieldType.array .int).toString) = some c) | _ => false) == some true)) hi).trans ?_
  simp [hk', hkind, f2]
def zwO (U : State) : Prop := zwA U ∧ va_AO RX3 U
theorem zwO.moved {u U : State} (hvm : u.vm.Alike U.vm) (h : zwO u) : zwO U := ⟨h.1.moved hvm, va_AO.moved hvm h.2⟩
/-- what is known of the tables everywhere -/
def KK (G : va_G) (T : List (ClassId × FieldType)) (U : State) : Prop := va_K G vwCl T U ∧ (∀ w ∈ nwF, va_Nw w U) ∧ (∀ w ∈ nwM, va_Nw w U) ∧ zwO U
theorem nwF_warm {s U : State} (hW : s.WarmedH U.vm) (h : ∀ w ∈ nwF, va_Nw w s) : ∀ w ∈ nwF, va_Nw w U := by
  intro w hw
  have h1 := nwF_all w hw
  have h2 := h w hw
  cases w <;> first | exact absurd h1 (by decide) | exact va_Nw.warmF hW h2 | (simp [nwFq] at h1; done)
theorem nwM_warm {s U : State} (hW : s.WarmedH U.vm) (h : ∀ w ∈ nwM, va_Nw w s) : ∀ w ∈ nwM, va_Nw w U := by
  intro w hw
  have h1 := nwM_all w hw
  have h2 := h w hw
  cases w <;> first | exact absurd h1 (by decide) | exact va_Nw.warmM hW h2 | (simp [nwMq] at h1; done)
theorem KK.warm {G : va_G} {T : List (ClassId × FieldType)} {s U : State} (hW : s.WarmedH U.vm) (h : KK G T s) : KK G T U := ⟨va_K.moved hW.alike h.1, nwF_warm hW h.2.1, nwM_warm hW h.2.2.1, h.2.2.2.moved hW.alike⟩
theorem KK.same {G : va_G} {T : List (ClassId × FieldType)} {u U : State} (hv : u.vm = U.vm) (h : KK G T u) : KK G T U := by
  refine ⟨va_K.moved (u := u) (U := U) (by rw [hv]; exact Vm.Alike.refl U.vm) h.1, fun w hw => ?_, fun w hw => ?_, h.2.2.2.moved (by rw [hv]; exact Vm.Alike.refl U.vm)⟩
  · have h1 := nwF_all w hw
    have h2 := h.2.1 w hw
    cases w <;> first | exact absurd h1 (by decide) | exact va_Nw.same rfl hv h2 | (simp [nwFq] at h1; done)
  · have h1 := nwM_all w hw
    have h2 := h.2.2.1 w hw
    cases w <;> first | exact absurd h1 (by decide) | exact va_Nw.same rfl hv h2 | (simp [nwMq] at h1; done)
/-- a method's start -/
def pB (G : va_G) (T : List (ClassId × FieldType)) (ws : va_W) (sz : Nat) : State → Prop := fun U => U.heap.size = sz ∧ va_P G vwCl ws U.heap ∧ KK G T U ∧ va_D (fun _ => True) ws
theorem pB.call {G : va_G} {T : List (ClassId × FieldType)} {ws : va_W} {sz : Nat} {a : Array Value} {U : State} {g : JFrame} {mk : MethodId} (h : pB G T ws sz U) : pB G T ws sz (U.calling g mk a) := ⟨h.1, h.2.1, KK.same (u := U) (U := U.calling g mk a) rfl h.2.2.1, h.2.2.2⟩
section BASE
variable {p : Program} {l : Launch} {e : Env} {R : Room} {s : State} {m : MethodId} {args : Array Value} {below : List Frame} {meth : Method} {c : Code} {H : Heap} {locs : List Loc} {cells slots : Nat} {Q : State → Prop} {G : va_G} {T : List (ClassId × FieldType)} {ws : va_W} {A : Nat → Prop} {H0 : Heap}
theorem pB.at_ (hK : KK G T s) (hP : va_P G vwCl ws H) (hD : va_D A ws) {U : State} (hU : U.heap = H) (hW : s.WarmedH U.vm) : pB G T ws H.size U := ⟨by rw [hU], by rw [hU]; exact hP, hK.warm hW, hD.weaken (fun _ _ _ _ => trivial)⟩
theorem pS {As : List Value} (hK : KK G T s) (hP : va_P G vwCl ws H) (hD : va_D A ws) : PreS s H (va_Pc As (pB G T ws H.size)) As :=
  ⟨fun _ _ _ _ q => ⟨q.1, pB.call q.2⟩, fun _ hU hW => ⟨rfl, pB.at_ hK hP hD hU hW⟩⟩
theorem pV {As : List Value} {b ci q0 : Nat} {q : vw_C} {fs : List Value} (hK : KK G T s) (hP : va_P G vwCl ws H) (hD : va_D A ws) (hc : vwCl[ci]? = some q) (he : ws[q0]? = some (b, .inr (ci, fs))) : PreV s H q.1 b (va_Pc (.ref b :: As) (pB G T ws H.size)) As :=
  ⟨fun _ _ _ _ q => ⟨q.1, pB.call q.2⟩, va_recv hK.1 hP hc he, fun _ hU hW => ⟨rfl, pB.at_ hK hP hD hU hW⟩⟩
/-- a call of a method that only reads -/
theorem rdi {pc : Nat} {ls : Array Slot} {st0 rest : List Value} {a : Array Value} {Post : Int32 → Unit → Prop} (hr : va_Run p l e R s m args below meth c H locs cells slots 0 0 (F0 m pc ls st0) rest (va_Qi Post (fun _ t => va_P G vwCl ws t.heap) (va_A ws H.size) a) (va_A ws H.size)) (hP : va_P G vwCl ws H) (hS : va_S A H0 H locs) (hA : ∀ q, H0.size ≤ q → A q) (hD : va_D A ws)
    (kk : ∀ (r : Int32) (H1 : Heap) (locs1 : List Loc), Post r () → va_P G vwCl ws H1 → va_S A H0 H1 locs1 → W p l e R s m args below meth c H1 locs1 cells slots Q (F0 m (pc + 3) ls (.int r :: rest))) : W p l e R s m args below meth c H locs cells slots Q (F0 m pc ls st0) := by
  have hF : ∀ q, va_A ws H.size q → A q := fun q h => by
    rcases h with ⟨k, e, h⟩ | h
    · exact hD.2 k (q, e) h
    · exact hA q (Nat.le_trans hS.1 h)
  exact va_calli hr hS (fun q _ h => hF q h) hF (fun r u t H1 locs1 ht _ hp hb _ _ hS1 => kk r H1 locs1 hp (by rw [← ht]; exact hb) hS1)
end BASE
def isB (x : Int32) : Prop := x = 0 ∨ x = 1
theorem isB_0 : isB 0 := Or.inl rfl
theorem isB_1 : isB 1 := Or.inr rfl
theorem isB_if {c : Prop} [Decidable c] {a b : Int32} (ha : isB a) (hb : isB b) : isB (if c then a else b) := by
  by_cases h : c
  · rw [if_pos h]; exact ha
  · rw [if_neg h]; exact hb
theorem nB {x : Int32} (h : isB x) : narrow .boolean (.int x) = .int x := by
  rcases h with rfl | rfl <;> rfl
theorem fB {x : Int32} (h : isB x) : fits .boolean (.int x) = true := by
  rcases h with rfl | rfl <;> rfl
theorem vB {x : Int32} (h : isB x) : vp_nar .boolean x = x := by
  rcases h with rfl | rfl <;> rfl
/-- Java's remainder -/
def jr (x y : Int32) : Int32 := x - x / y * y
def jrL (x y : Int64) : Int64 := x - x / y * y
section JREM
variable {p : Program} {l : Launch} {e : Env} {R : Room} {s : State} {m : MethodId} {args : Array Value} {below : List Frame} {meth : Method} {c : Code} {H : Heap} {locs : List Loc} {cells slots : Nat} {Q : State → Prop}
variable {cc : ByteArray} {pc : Nat} {ls : Array Slot} {rest : List Value}
theorem lv_iremJ (hexec : p.tables.exec = Jvm.exec) (hb : c.code = cc) {x y : Int32} (hdg : decode cc pc = .ok (.irem, 1)) (hne : ¬ y = 0)
    (k : W p l e R s m args below meth c H locs cells slots Q (F0 m (pc + 1) ls (.int (jr x y) :: rest))) : W p l e R s m args below meth c H locs cells slots Q (F0 m pc ls (.int y :: .int x :: rest)) := lv_irem hexec hb hdg hne k
theorem lv_lremJ (hexec : p.tables.exec = Jvm.exec) (hb : c.code = cc) {x y : Int64} (hdg : decode cc pc = .ok (.lrem, 1)) (hne : ¬ y = 0)
    (k : W p l e R s m args below meth c H locs cells slots Q (F0 m (pc + 1) ls (.long (jrL x y) :: rest))) : W p l e R s m args below meth c H locs cells slots Q (F0 m pc ls (.long y :: .long x :: rest)) := lv_lrem hexec hb hdg hne k
end JREM
/-- a loop: its body, at most n times -/
def lpN {α : Type} (B : (α → Prop) → α → Prop) (n : Nat) : α → Prop := Nat.rec (fun _ => False) (fun _ ih a => B ih a) n
theorem lpN_inv {α : Type} {B : (α → Prop) → α → Prop} (I : α → Prop) (μ : α → Nat) (hs : ∀ (R : α → Prop) (a : α), I a → (∀ b, I b → μ b < μ a → R b) → B R a) : ∀ (n : Nat) (a : α), I a → μ a < n → lpN B n a := by
  intro n
  induction n with
  | zero => intro a _ h; exact absurd h (Nat.not_lt_zero _)
  | succ n ih => intro a h h2; exact hs _ a h (fun b hb hlt => ih b hb (by omega))
/-- more often than any loop goes round -/
def FU : Nat := 100000
theorem FU_ge {n : Nat} (h : n < 100000) : n < FU := h
