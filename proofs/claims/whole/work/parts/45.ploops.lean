/-! the program's loops are the loops laid -/
def sg (b : Bool) : Int32 := if b = true then 1 else -1
theorem sg_neg (b : Bool) : -(sg b) = sg (!b) := by cases b <;> decide
theorem sg_le (b : Bool) : (sg b ≤ 0) ↔ b = false := by cases b <;> decide
theorem kdr_le {r c : Nat} {k : Nat → Nat} (hk : ∀ p, k p ≤ 3) (y x : Nat) : kdr r c k y x ≤ 3 := by
  unfold kdr
  have := hk (13 * y + x)
  split
  · omega
  · split <;> omega
theorem s_kindAt {r c : Nat} {k : Nat → Nat} {down across inner : Int32} {pts kinds nums : Nat → Int32} (hR : RC r c) (R : PlR r c k down across inner pts kinds nums) {y x : Nat} (hy : y ≤ 2 * r) (hx : x ≤ 2 * c) (ho : (y + x) % 2 = 1) {Q : Int32 → Prop} (h : Q (nI (kdr r c k y x))) : wX3_kindAt down kinds nums (nI y) (nI x) Q := by
  obtain ⟨r1, r2, r3, r4⟩ := id hR
  unfold wX3_kindAt
  refine s_numberAt hR R (by omega) (by omega) ?_
  by_cases hin : inYX r c y x
  · have hl := inYX_lt hR hin
    have hi := (inn_yx hl.2.1).mpr hin
    have hc := cnt_lt hl.2.2 hi
    have h60 := inN_le hR
    rw [numv_in hin, if_neg (nI_pos (by omega))]
    refine s_kindOf (by omega) ?_
    rw [(R.2.2.2.1 _ hl.2.2 hi).2.2]
    have e : kdr r c k y x = k (13 * y + x) := by
      unfold kdr
      rw [if_neg (by omega), if_neg (by omega)]
    rw [e] at h
    exact h
  · rw [numv_out hin, if_pos (by decide)]
    have e : (if nI y = 0 then (1 : Int32) else if nI y = (2 : Int32) * down then 1 else 2) = nI (kdr r c k y x) := by
      rw [R.1, l2, pk_mul, ← nI_0]
      unfold kdr
      by_cases h0 : y = 0
      · rw [if_pos (by rw [h0]), if_pos (Or.inl h0)]; rfl
      · rw [if_neg (fun q => h0 (nI_inj (by omega) (by omega) q))]
        by_cases h1 : y = 2 * r
        · rw [if_pos (by rw [h1]), if_pos (Or.inr h1)]; rfl
        · rw [if_neg (fun q => h1 (nI_inj (by omega) (by omega) q)), if_neg (by omega), if_pos (by omega)]
    rw [e]
    exact h
theorem s_hasCell {r c row col : Nat} (hr : r ≤ 6) (hc : c ≤ 6) (h1 : row < 2 ^ 31) (h2 : col < 2 ^ 31) {Q : Int32 → Prop} (h : Q (bI (decide (row < 2 * r ∧ col < 2 * c)))) : wX3_hasCell (nI r) (nI c) (nI row) (nI col) Q := by
  unfold wX3_hasCell
  rw [if_neg (nI_pos h1), l2, pk_mul, pk_mul, if_neg (nI_pos h2)]
  by_cases a : row < 2 * r
  · rw [if_neg (nI_ge a (by omega))]
    by_cases b : col < 2 * c
    · rw [if_neg (nI_ge b (by omega))]
      rw [decide_eq_true (show row < 2 * r ∧ col < 2 * c from ⟨a, b⟩)] at h
      exact h
    · rw [if_pos (nI_le (by omega) h2)]
      rw [decide_eq_false (show ¬ (row < 2 * r ∧ col < 2 * c) by omega)] at h
      exact h
  · rw [if_pos (nI_le (by omega) h1)]
    rw [decide_eq_false (show ¬ (row < 2 * r ∧ col < 2 * c) by omega)] at h
    exact h
/-- what the arrays of loops hold of a state of the laying -/
def OwR (m : MS) (owners : Nat → Int32) : Prop := ∀ i, i < 144 → owners i = if m.2.2.1 i = 0 then -9 else nI (m.2.2.1 i - 1)
def StR (m : MS) (obs cells ends rw_ dw : Nat → Int32) : Prop := ∀ t, t < m.1 → obs t = nI (m.2.2.1 (ceN (m.2.2.2.1 t)) - 1) ∧ cells t = nI (100 * (m.2.2.2.1 t).1 + (m.2.2.2.1 t).2.1) ∧ ends t = nI (100 * eY (m.2.2.2.1 t) + eX (m.2.2.2.1 t)) ∧ rw_ t = sg (rtB (m.2.2.2.1 t)) ∧ dw t = sg (m.2.2.2.1 t).2.2
theorem OwR.le {m : MS} (hm : ∀ i, m.2.2.1 i ≤ 144) {owners : Nat → Int32} (h : OwR m owners) {i : Nat} (hi : i < 144) : (owners i < 0 ↔ m.2.2.1 i = 0) := by
  rw [h i hi]
  by_cases q : m.2.2.1 i = 0
  · rw [if_pos q]; exact ⟨fun _ => q, fun _ => by decide⟩
  · rw [if_neg q]
    have := hm i
    exact ⟨fun z => absurd z (nI_pos (by omega)), fun z => absurd z q⟩
/-- an owner is a loop -/
theorem PM_own {r c : Nat} {k : Nat → Nat} {n0 : Nat} {m : MS} (P : PM r c k n0 m) : (∀ i, m.2.2.1 i ≤ m.2.1 + 1) ∧ ∀ t, t < m.1 → m.2.2.1 (ceN (m.2.2.2.1 t)) ≠ 0 := by
  obtain ⟨p0, p1, p2, p3, p4, p5, -⟩ := P
  have key : ∀ t, t < m.1 → m.2.2.1 (ceN (m.2.2.2.1 t)) ≠ 0 ∧ m.2.2.1 (ceN (m.2.2.2.1 t)) ≤ m.2.1 + 1 := by
    intro t ht
    rcases Nat.lt_or_ge t n0 with h | h
    · obtain ⟨l, h1, h2, -⟩ := p4 t h
      rw [h2]
      omega
    · have h2 := p5 t h ht
      rw [h2]
      omega
  refine ⟨fun i => ?_, fun t ht => (key t ht).1⟩
  by_cases q : m.2.2.1 i = 0
  · omega
  · obtain ⟨t, h1, h2⟩ := p3 i q
    rw [← h2]
    exact (key t h1).2
theorem WkAt.lp {r c : Nat} {k : Nat → Nat} {n0 : Nat} {s0 s : S3} {m : MS} (hr : r ≤ 6) (hc : c ≤ 6) (h : WkAt r c k n0 s0 s m) : m.2.1 ≤ 36 ∧ m.1 ≤ 144 := by
  have h1 := P_room hr hc h.1
  obtain ⟨p0, -, -, -, -, -, p6, p7, p8, -⟩ := h.1
  have := bg_4 p6 p8 m.2.1 (Nat.le_refl _)
  omega
theorem s_isFree {r c : Nat} {m : MS} {owners : Nat → Int32} (hr : r ≤ 6) (hc : c ≤ 6) (hm : ∀ i, m.2.2.1 i ≤ 144) (hO : OwR m owners) {s : S3} (hs : inG r c s) {Q : Int32 → Prop} (h : Q (bI (decide (m.2.2.1 (ceN s) = 0)))) : wX2_isFree owners (nI r) (nI c) (nI s.1) (nI s.2.1) Q := by
  obtain ⟨g1, g2⟩ := hs
  unfold wX2_isFree
  refine s_hasCell hr hc (by omega) (by omega) ?_
  rw [decide_eq_true (show s.1 < 2 * r ∧ s.2.1 < 2 * c from ⟨g1, g2⟩), bI_t, if_neg (by decide), l12, pk_mul, nI_add]
  refine ⟨vp_in_nI (by omega) (by omega), ?_⟩
  rw [nI_clamp (by omega)]
  have e : s.1 * 12 + s.2.1 = ceN s := by unfold ceN; omega
  rw [e]
  have hlt : ceN s < 144 := by unfold ceN; omega
  have h1 := hO.le hm hlt
  by_cases q : m.2.2.1 (ceN s) = 0
  · rw [decide_eq_true q] at h
    have h2 := h1.mpr q
    rw [if_neg (fun z => absurd z (by rw [Int32.not_le]; exact h2))]
    exact h
  · rw [decide_eq_false q] at h
    have h2 : ¬ owners (ceN s) < 0 := fun z => q (h1.mp z)
    rw [if_pos (Int32.not_lt.mp h2)]
    exact h
theorem ey_I (s : S3) : (if sg s.2.2 ≤ 0 then nI s.1 else nI s.1 + 1) = nI (eY s) := by
  unfold eY
  cases h : s.2.2
  · rw [if_pos (by decide), if_neg (by decide)]
  · rw [if_neg (by decide), if_pos rfl, nI_1]
theorem ex_I (s : S3) : (if sg (rtB s) ≤ 0 then nI s.2.1 else nI s.2.1 + 1) = nI (eX s) := by
  unfold eX
  cases h : rtB s
  · rw [if_pos (by decide), if_neg (by decide)]
  · rw [if_neg (by decide), if_pos rfl, nI_1]
/-- the next step in Java's numbers -/
theorem nx_I {r c : Nat} {k : Nat → Nat} (hk : ∀ p, k p ≤ 3) {s : S3} (h : inG r c s) : (if nI (kdr r c k (eY s) (eX s)) = 1 then nI s.1 else nI s.1 + sg s.2.2) = nI (nx r c k s).1 ∧ (if nI (kdr r c k (eY s) (eX s)) = 2 then nI s.2.1 else nI s.2.1 + sg (rtB s)) = nI (nx r c k s).2.1 ∧ (if nI (kdr r c k (eY s) (eX s)) = 1 then -(sg s.2.2) else sg s.2.2) = sg (nx r c k s).2.2 ∧ (if nI (kdr r c k (eY s) (eX s)) = 2 then -(sg (rtB s)) else sg (rtB s)) = sg (rtB (nx r c k s)) := by
  have hle := kdr_le (r := r) (c := c) hk (eY s) (eX s)
  have ho := e_odd s
  have hd := nx_disp (k := k) h
  have e1 : (nI (kdr r c k (eY s) (eX s)) = 1) ↔ kdr r c k (eY s) (eX s) = 1 := by rw [l1]; exact nI_eq (by omega) (by omega)
  have e2 : (nI (kdr r c k (eY s) (eX s)) = 2) ↔ kdr r c k (eY s) (eX s) = 2 := by rw [l2]; exact nI_eq (by omega) (by omega)
  have hy1 : eY s = 0 → kdr r c k (eY s) (eX s) = 1 := fun q => by rw [q, kdr_y0]
  have hx1 : eX s = 0 → kdr r c k (eY s) (eX s) = 2 := by
    intro q
    have hn : ¬ (eY s = 0 ∨ eY s = 2 * r) := by
      have h1 := h.1
      unfold eY
      unfold eY at ho
      intro z
      rw [q] at ho
      rcases z with z | z
      · rw [z] at ho; omega
      · rw [z] at ho; omega
    unfold kdr
    rw [if_neg hn, if_pos (Or.inl q)]
  generalize hkk : kdr r c k (eY s) (eX s) = kk at *
  have en : nx r c k s = nxK kk s := by unfold nx; rw [hkk]
  have hrt : rtB (nx r c k s) = if kk = 2 then !rtB s else rtB s := by
    rw [en]
    obtain ⟨a, b, d⟩ := s
    unfold nxK rtB flB
    unfold eY at hy1
    unfold eX rtB flB at hx1
    dsimp only at *
    by_cases q1 : kk = 1 <;> by_cases q2 : kk = 2 <;> by_cases hp : (a + b) % 2 = 1 <;> cases d <;> simp [q1, q2, hp] at hy1 hx1 ⊢ <;> omega
  refine ⟨?_, ?_, ?_, ?_⟩
  · rw [en]
    unfold nxK
    dsimp only
    by_cases q : kk = 1
    · rw [if_pos (e1.mpr q), if_pos q]
    · rw [if_neg (fun z => q (e1.mp z)), if_neg q]
      cases hd2 : s.2.2
      · rw [if_neg (by decide)]
        unfold eY at hy1
        rw [hd2] at hy1
        simp only [Bool.false_eq_true, if_false] at hy1
        have : 1 ≤ s.1 := by
          rcases Nat.eq_zero_or_pos s.1 with z | z
          · exact absurd (hy1 z) q
          · exact z
        exact nI_m1 this
      · rw [if_pos rfl]; exact nI_1 _
  · rw [en]
    unfold nxK
    dsimp only
    by_cases q : kk = 2
    · rw [if_pos (e2.mpr q), if_pos q]
    · rw [if_neg (fun z => q (e2.mp z)), if_neg q]
      cases hd2 : rtB s
      · rw [if_neg (by decide)]
        unfold eX at hx1
        rw [hd2] at hx1
        simp only [Bool.false_eq_true, if_false] at hx1
        have : 1 ≤ s.2.1 := by
          rcases Nat.eq_zero_or_pos s.2.1 with z | z
          · exact absurd (hx1 z) q
          · exact z
        exact nI_m1 this
      · rw [if_pos rfl]; exact nI_1 _
  · rw [en]
    unfold nxK
    dsimp only
    by_cases q : kk = 1
    · rw [if_pos (e1.mpr q), if_pos q, sg_neg]
    · rw [if_neg (fun z => q (e1.mp z)), if_neg q]
  · rw [hrt]
    by_cases q : kk = 2
    · rw [if_pos (e2.mpr q), if_pos q, sg_neg]
    · rw [if_neg (fun z => q (e2.mp z)), if_neg q]
theorem OwR_step {m : MS} {s : S3} {owners : Nat → Int32} (hO : OwR m owners) (hs : ceN s < 144) : OwR (stM m s) (upd owners (ceN s) (nI m.2.1)) := by
  intro i hi
  show upd owners (ceN s) (nI m.2.1) i = if ownU m.2.2.1 s (m.2.1 + 1) i = 0 then -9 else nI (ownU m.2.2.1 s (m.2.1 + 1) i - 1)
  unfold ownU
  rw [upd_e]
  by_cases q : i = ceN s
  · rw [if_pos q, if_pos q, if_neg (by omega), show m.2.1 + 1 - 1 = m.2.1 by omega]
  · rw [if_neg q, if_neg q]
    exact hO i hi
theorem StR_step {r c : Nat} {k : Nat → Nat} {n0 : Nat} {m : MS} (P : PM r c k n0 m) {s : S3} {obs cells ends rw_ dw : Nat → Int32} (h : StR m obs cells ends rw_ dw) (hf : m.2.2.1 (ceN s) = 0) : StR (stM m s) (upd obs m.1 (nI m.2.1)) (upd cells m.1 (nI (100 * s.1 + s.2.1))) (upd ends m.1 (nI (100 * eY s + eX s))) (upd rw_ m.1 (sg (rtB s))) (upd dw m.1 (sg s.2.2)) := by
  intro t ht
  have ht2 : t < m.1 + 1 := ht
  show _ = nI (ownU m.2.2.1 s (m.2.1 + 1) (ceN (sqU m.2.2.2.1 m.1 s t)) - 1) ∧ _ = nI (100 * (sqU m.2.2.2.1 m.1 s t).1 + (sqU m.2.2.2.1 m.1 s t).2.1) ∧ _ = nI (100 * eY (sqU m.2.2.2.1 m.1 s t) + eX (sqU m.2.2.2.1 m.1 s t)) ∧ _ = sg (rtB (sqU m.2.2.2.1 m.1 s t)) ∧ _ = sg (sqU m.2.2.2.1 m.1 s t).2.2
  rw [upd_e, upd_e, upd_e, upd_e, upd_e]
  unfold sqU ownU
  by_cases q : t = m.1
  · simp only [if_pos q]
    rw [if_pos trivial, show m.2.1 + 1 - 1 = m.2.1 by omega]
    exact ⟨rfl, trivial, trivial, trivial, trivial⟩
  · simp only [if_neg q]
    have h1 := h t (by omega)
    have h2 := (PM_own P).2 t (by omega)
    rw [if_neg (fun e => h2 (by rw [e]; exact hf))]
    exact h1
theorem s_goRound {r c : Nat} {k : Nat → Nat} {down across inner : Int32} {pts kinds nums : Nat → Int32} (hR : RC r c) (hk : ∀ p, k p ≤ 3) (R : PlR r c k down across inner pts kinds nums) {n0 : Nat} {s0 : S3} {m0 : MS} {owners obs cells ends rw_ dw : Nat → Int32} (hW : WkAt r c k n0 s0 s0 m0) (hd0 : s0.2.2 = true) (hO : OwR m0 owners) (hS : StR m0 obs cells ends rw_ dw) {Q : Int32 → (Nat → Int32) → (Nat → Int32) → (Nat → Int32) → (Nat → Int32) → (Nat → Int32) → (Nat → Int32) → Prop}
    (h : ∀ owners' obs' cells' ends' rw' dw', OwR (wkM r c k 145 s0 m0) owners' → StR (wkM r c k 145 s0 m0) obs' cells' ends' rw' dw' → Q (nI (wkM r c k 145 s0 m0).1) owners' obs' cells' ends' rw' dw') : wX2_goRound (nI m0.2.1) (nI m0.1) owners obs cells ends rw_ dw down across kinds nums (nI s0.1) (nI s0.2.1) Q := by
  obtain ⟨r1, r2, r3, r4⟩ := id hR
  unfold wX2_goRound lX2_goRound_18
  have hG0 := hW.2.1
  have hb0 : s0.1 < 2 * r ∧ s0.2.1 < 2 * c := hG0
  have e0 : (if jr (nI s0.1 + nI s0.2.1) (2 : Int32) = 0 then (-1 : Int32) else 1) = sg (rtB s0) := by
    rw [nI_add, l2, jr_nI (by omega) (by omega) (by omega), ← nI_0]
    unfold rtB flB
    rw [hd0]
    by_cases q : (s0.1 + s0.2.1) % 2 = 1
    · rw [if_neg (fun z => by have := nI_inj (by omega) (by omega) z; omega)]
      simp [q, sg]
    · rw [if_pos (by rw [show (s0.1 + s0.2.1) % 2 = 0 by omega])]
      simp [q, sg]
  rw [e0]
  refine lp_up (fun i a => ∃ (s : S3) (m : MS) (f : Nat), m.1 = i ∧ WkAt r c k n0 s0 s m ∧ m.2.1 = m0.2.1 ∧ 145 ≤ m.1 + f ∧ wkM r c k f s m = wkM r c k 145 s0 m0 ∧ a.1 = nI s.1 ∧ a.2.1 = nI s.2.1 ∧ a.2.2.1 = sg s.2.2 ∧ a.2.2.2.1 = sg (rtB s) ∧ a.2.2.2.2.1 = nI m.1 ∧ OwR m a.2.2.2.2.2.1 ∧ StR m a.2.2.2.2.2.2.1 a.2.2.2.2.2.2.2.1 a.2.2.2.2.2.2.2.2.1 a.2.2.2.2.2.2.2.2.2.1 a.2.2.2.2.2.2.2.2.2.2) 145 ?_ FU m0.1 _ ⟨s0, m0, 145, rfl, hW, rfl, by omega, rfl, rfl, rfl, by rw [hd0]; rfl, rfl, rfl, hO, hS⟩ (by have := (hW.lp r2 r4).2; omega) (FU_of (by omega))
  rintro RR i ⟨x1, x2, x3, x4, x5, ow, ob, ce, en, rg, dn⟩ ⟨s, m, f, hi, hA, hlp, hf, hF, g1, g2, g3, g4, g5, gO, gS⟩ hile hRR
  dsimp only at g1 g2 g3 g4 g5 gO gS
  subst g1; subst g2; subst g3; subst g4; subst g5
  unfold bX2_goRound_18
  have hl := hA.lp r2 r4
  have hown := PM_own hA.1
  have hG := hA.2.1
  have hb : s.1 < 2 * r ∧ s.2.1 < 2 * c := hG
  have hlt : ceN s < 144 := by unfold ceN; omega
  have fin : m.2.2.1 (ceN s) ≠ 0 → wX2_goRound_X233 Q (nI m.1) ow ob ce en rg dn := by
    intro hne
    have e : wkM r c k f s m = m := by
      cases f with
      | zero => rfl
      | succ f => exact if_neg hne
    rw [e] at hF
    unfold wX2_goRound_X233
    rw [hF] at gO gS ⊢
    exact h _ _ _ _ _ _ gO gS
  by_cases h144 : m.1 = 144
  · rw [l144, if_pos (nI_le (by omega) (by omega))]
    refine fin (fun hz => ?_)
    have := hA.room r2 r4 hz
    omega
  · rw [l144, if_neg (nI_ge (by omega) (by omega))]
    have hRd : down = nI r := R.1
    have hRa : across = nI c := R.2.1
    rw [hRd, hRa]
    refine s_isFree r2 r4 (fun i => by have := hown.1 i; omega) gO hG ?_
    by_cases hz : m.2.2.1 (ceN s) = 0
    · rw [decide_eq_true hz, bI_t, if_neg (by decide)]
      have e12 : nI s.1 * 12 + nI s.2.1 = nI (ceN s) := by
        rw [l12, pk_mul, nI_add]
        unfold ceN
        rw [show s.1 * 12 + s.2.1 = 12 * s.1 + s.2.1 by omega]
      rw [e12]
      refine ⟨vp_in_nI hlt (by omega), vp_in_nI (by omega) (by omega), ?_⟩
      rw [ey_I, ex_I]
      have hy : eY s ≤ 2 * r := by unfold eY; split <;> omega
      have hx : eX s ≤ 2 * c := by unfold eX; split <;> omega
      rw [← hRd]
      refine s_kindAt hR R hy hx (e_odd s) ?_
      obtain ⟨n1, n2, n3, n4⟩ := nx_I hk hG
      rw [n1, n2, n3, n4, nI_clamp (by omega), nI_clamp (by omega), l100, pk_mul, nI_add, pk_mul, nI_add, nI_1]
      have hf2 : f ≠ 0 := by omega
      obtain ⟨f', rfl⟩ : ∃ f', f = f' + 1 := ⟨f - 1, by omega⟩
      have e : wkM r c k (f' + 1) s m = wkM r c k f' (nx r c k s) (stM m s) := if_pos hz
      rw [e] at hF
      refine hRR (by omega) _ ⟨nx r c k s, stM m s, f', by show m.1 + 1 = i + 1; omega, hA.step hz, hlp, by show 145 ≤ m.1 + 1 + f'; omega, hF, rfl, rfl, rfl, rfl, rfl, ?_, ?_⟩
      · have := OwR_step gO hlt
        rw [hlp] at this
        exact this
      · have := StR_step hA.1 gS hz
        rw [hlp] at this
        exact this
    · rw [decide_eq_false hz, bI_f, if_pos rfl]
      exact fin hz
