/-! what the component answers of loops and crossings -/
/-- the place of a point as told -/
def plc (r c : Nat) (x : Int32) : Option Nat := if x < 0 then none else if inYX r c (x.toNatClampNeg / 100) (x.toNatClampNeg % 100) then some (13 * (x.toNatClampNeg / 100) + x.toNatClampNeg % 100) else none
theorem plc_some {r c p : Nat} (hR : RC r c) {x : Int32} (h : plc r c x = some p) : inn r c p = true ∧ ∃ n, n < 2 ^ 31 ∧ x = nI n ∧ n / 100 = p / 13 ∧ n % 100 = p % 13 := by
  unfold plc at h
  by_cases h1 : x < 0
  · rw [if_pos h1] at h; cases h
  · rw [if_neg h1] at h
    obtain ⟨n, hn, rfl⟩ := nI_of h1
    rw [nI_clamp hn] at h
    by_cases h2 : inYX r c (n / 100) (n % 100)
    · rw [if_pos h2] at h
      cases h
      have h3 := inYX_lt hR h2
      exact ⟨(inn_yx h3.2.1).mpr h2, n, hn, rfl, by omega, by omega⟩
    · rw [if_neg h2] at h; cases h
theorem s_numOf {r c : Nat} {k : Nat → Nat} {down across inner : Int32} {pts kinds nums : Nat → Int32} (hR : RC r c) (R : PlR r c k down across inner pts kinds nums) {x : Int32} {Q : Int32 → Prop} (h1 : plc r c x = none → Q (-9)) (h2 : ∀ p, plc r c x = some p → inn r c p = true → Q (nI (cnt r c p))) : wX3_numberOf nums x Q := by
  refine s_numberOf hR R ?_
  unfold plc at h1 h2
  unfold numP
  by_cases q : x < 0
  · rw [if_pos q] at h1 ⊢; exact h1 rfl
  · rw [if_neg q] at h1 h2 ⊢
    by_cases q2 : inYX r c (x.toNatClampNeg / 100) (x.toNatClampNeg % 100)
    · rw [if_pos q2] at h2
      rw [numv_in q2]
      exact h2 _ rfl ((inn_yx (inYX_lt hR q2).2.1).mpr q2)
    · rw [if_neg q2] at h1
      rw [numv_out q2]
      exact h1 rfl
/-- the sign at a crossing -/
noncomputable def sgB (r c : Nat) (k : Nat → Nat) (p : Nat) : Bool := (dnD (LY r c k) p (ovD k p) == dnD (LY r c k) p (!ovD k p)) == ovD k p
noncomputable def shB (r c : Nat) (k : Nat → Nat) (a b : Nat) (p : Nat) : Bool := crB r c k p && ((decide (lpD (LY r c k) p (ovD k p) = a) && decide (lpD (LY r c k) p (!ovD k p) = b)) || (decide (lpD (LY r c k) p (ovD k p) = b) && decide (lpD (LY r c k) p (!ovD k p) = a)))
theorem s_arr60 {f : Nat → Int32} {i : Nat} {Q : Int32 → Prop} (hi : i < 60) (h : Q (f i)) : wX5_at 60 f (nI i) Q := by
  refine s_at (by omega) ?_
  rw [atv_in hi (by omega)]; exact h
theorem s_loopOver {r c : Nat} {k : Nat → Nat} (hR : RC r c) {ob ce en rg dn : Nat → Int32} (hS : StR (LY r c k) ob ce en rg dn) {ov : Nat → Int32} (hO : OvF r c k (ovD k) ov) {p : Nat} (hc : crB r c k p = true) {Q : Int32 → Prop} (h : Q (nI (lpD (LY r c k) p (ovD k p)))) : wX1_loopOver ov ob (nI (cnt r c p)) Q := by
  obtain ⟨P, hn, h36⟩ := LY_fact k hR
  have a1 := (stD_ps hR hc (ovD k p)).1
  have b1 := lpD_lt hR hc (ovD k p)
  have c1 := (hS _ a1).1
  rw [b1.2] at c1
  unfold wX1_loopOver wX1_overAt
  refine s_arr60 (cnt_60 hR (crB_inn hc)) ?_
  rw [hO.1 p hc]
  refine s_ownerAt (by omega) ?_
  rw [c1]; exact h
theorem s_loopUnder {r c : Nat} {k : Nat → Nat} (hR : RC r c) {ob ce en rg dn : Nat → Int32} (hS : StR (LY r c k) ob ce en rg dn) {un : Nat → Int32} (hU : OvF r c k (fun p => !ovD k p) un) {p : Nat} (hc : crB r c k p = true) {Q : Int32 → Prop} (h : Q (nI (lpD (LY r c k) p (!ovD k p)))) : wX1_loopUnder un ob (nI (cnt r c p)) Q := by
  obtain ⟨P, hn, h36⟩ := LY_fact k hR
  have a1 := (stD_ps hR hc (!ovD k p)).1
  have b1 := lpD_lt hR hc (!ovD k p)
  have c1 := (hS _ a1).1
  rw [b1.2] at c1
  have hU1 : un (cnt r c p) = nI (stD (LY r c k) p (!ovD k p)) := hU.1 p hc
  unfold wX1_loopUnder wX1_underAt
  refine s_arr60 (cnt_60 hR (crB_inn hc)) ?_
  rw [hU1]
  refine s_ownerAt (by omega) ?_
  rw [c1]; exact h
theorem s_loopOver9 {ov ob : Nat → Int32} {i : Nat} (hi : i < 60) (h9 : ov i = -9) {Q : Int32 → Prop} (h : Q (-9)) : wX1_loopOver ov ob (nI i) Q := by
  unfold wX1_loopOver wX1_overAt
  refine s_arr60 hi ?_
  rw [h9]
  exact s_ownerAt9 h
theorem s_loopUnder9 {ov ob : Nat → Int32} {i : Nat} (hi : i < 60) (h9 : ov i = -9) {Q : Int32 → Prop} (h : Q (-9)) : wX1_loopUnder ov ob (nI i) Q := by
  unfold wX1_loopUnder wX1_underAt
  refine s_arr60 hi ?_
  rw [h9]
  exact s_ownerAt9 h
theorem sh_I {x y a b : Nat} (hx : x < 2 ^ 31) (hy : y < 2 ^ 31) (ha : a < 2 ^ 31) (hb : b < 2 ^ 31) : (if nI x = nI a then (if nI y = nI b then (1 : Int32) else (if nI x = nI b then (if nI y = nI a then (1 : Int32) else 0) else 0)) else (if nI x = nI b then (if nI y = nI a then (1 : Int32) else 0) else 0)) = bI ((decide (x = a) && decide (y = b)) || (decide (x = b) && decide (y = a))) := by
  have e1 := nI_eq hx ha
  have e2 := nI_eq hx hb
  have e3 := nI_eq hy ha
  have e4 := nI_eq hy hb
  have key : ∀ (A B C D : Prop) [Decidable A] [Decidable B] [Decidable C] [Decidable D], (if A then (if B then (1 : Int32) else (if C then (if D then (1 : Int32) else 0) else 0)) else (if C then (if D then (1 : Int32) else 0) else 0)) = bI ((decide A && decide B) || (decide C && decide D)) := by
    intro A B C D _ _ _ _
    by_cases qa : A <;> by_cases qb : B <;> by_cases qc : C <;> by_cases qd : D <;> simp [qa, qb, qc, qd, bI]
  rw [key, decide_eq_decide.mpr e1, decide_eq_decide.mpr e2, decide_eq_decide.mpr e3, decide_eq_decide.mpr e4]
theorem s_isShared {r c : Nat} {k : Nat → Nat} (hR : RC r c) {ob ce en rg dn : Nat → Int32} (hS : StR (LY r c k) ob ce en rg dn) {ov un : Nat → Int32} (hO : OvF r c k (ovD k) ov) (hU : OvF r c k (fun p => !ovD k p) un) {a b : Nat} (ha : a < 36) (hb : b < 36) {p : Nat} (hp : inn r c p = true) {Q : Int32 → Prop} (h : Q (bI (shB r c k a b p))) : wX1_isShared ov un ob (nI (cnt r c p)) (nI a) (nI b) Q := by
  obtain ⟨P, hn, h36⟩ := LY_fact k hR
  have h60 := cnt_60 hR hp
  unfold wX1_isShared
  cases hc : crB r c k p with
  | true =>
    have b1 := (lpD_lt hR hc (ovD k p)).1
    have b2 := (lpD_lt hR hc (!ovD k p)).1
    refine s_loopOver hR hS hO hc (s_loopUnder hR hS hU hc ?_)
    rw [sh_I (by omega) (by omega) (by omega) (by omega)]
    unfold shB at h
    rw [hc, Bool.true_and] at h
    exact h
  | false =>
    refine s_loopOver9 h60 (hO.2.1 p hp hc) (s_loopUnder9 h60 (hU.2.1 p hp hc) ?_)
    unfold shB at h
    rw [hc, Bool.false_and, bI_f] at h
    rw [if_neg (fun e => neg_ne (n := a) (z := -9) (by omega) (by decide) e.symm), if_neg (fun e => neg_ne (n := b) (z := -9) (by omega) (by decide) e.symm)]
    exact h
theorem s_isShared9 {ob : Nat → Int32} {ov un : Nat → Int32} {a b : Nat} (ha : a < 36) (hb : b < 36) {i : Nat} (hi : i < 60) (h1 : ov i = -9) (h2 : un i = -9) {Q : Int32 → Prop} (h : Q 0) : wX1_isShared ov un ob (nI i) (nI a) (nI b) Q := by
  unfold wX1_isShared
  refine s_loopOver9 hi h1 (s_loopUnder9 hi h2 ?_)
  rw [if_neg (fun e => neg_ne (n := a) (z := -9) (by omega) (by decide) e.symm), if_neg (fun e => neg_ne (n := b) (z := -9) (by omega) (by decide) e.symm)]
  exact h
theorem sgn_I (o d1 d2 : Bool) : (if (sg (o == d1)) * (sg d2) - (sg d1) * (sg ((!o) == d2)) ≤ 0 then (-1 : Int32) else 1) = sg ((d1 == d2) == o) := by cases o <;> cases d1 <;> cases d2 <;> decide
theorem s_signAt {r c : Nat} {k : Nat → Nat} (hR : RC r c) {ob ce en rg dn : Nat → Int32} (hS : StR (LY r c k) ob ce en rg dn) {ov un : Nat → Int32} (hO : OvF r c k (ovD k) ov) (hU : OvF r c k (fun p => !ovD k p) un) {p : Nat} (hc : crB r c k p = true) {Q : Int32 → Prop} (h : Q (sg (sgB r c k p))) : wX1_signAt ov un rg dn (nI (cnt r c p)) Q := by
  obtain ⟨P, hn, h36⟩ := LY_fact k hR
  obtain ⟨a1, -, -⟩ := stD_ps hR hc (ovD k p)
  obtain ⟨a2, -, -⟩ := stD_ps hR hc (!ovD k p)
  have d1 := (stD_ok hR hc (ovD k p)).1.2.2.2
  have d2 := (stD_ok hR hc (!ovD k p)).1.2.2.2
  obtain ⟨-, -, -, s4, s5⟩ := hS _ a1
  obtain ⟨-, -, -, t4, t5⟩ := hS _ a2
  have hU1 : un (cnt r c p) = nI (stD (LY r c k) p (!ovD k p)) := hU.1 p hc
  have h60 := cnt_60 hR (crB_inn hc)
  unfold wX1_signAt wX1_overAt wX1_underAt
  refine s_arr60 h60 ?_
  refine s_arr60 h60 ?_
  rw [hO.1 p hc, hU1]
  refine s_rightAt (by omega) (s_downAt (by omega) (s_downAt (by omega) (s_rightAt (by omega) ?_)))
  rw [s4, s5, t4, t5]
  unfold rtB
  rw [d1, d2, sgn_I]
  exact h
/-- sums over crossings -/
noncomputable def ctE (r c : Nat) (k : Nat → Nat) (a b : Nat) : Int32 := FP r c (fun p s => if shB r c k a b p = true then s + 1 else s) (0 : Int32) 169
noncomputable def ssE (r c : Nat) (k : Nat → Nat) (a b : Nat) : Int32 := FP r c (fun p s => if shB r c k a b p = true then s + sg (sgB r c k p) else s) (0 : Int32) 169
noncomputable def swE (r c : Nat) (k : Nat → Nat) : Int32 := FP r c (fun p s => if crB r c k p = true then s + sg (sgB r c k p) else s) (0 : Int32) 169
theorem bI_z (b : Bool) : (bI b = 0) = (b = false) := propext bI_0
theorem s_countShared {r c : Nat} {k : Nat → Nat} (hR : RC r c) {ob ce en rg dn : Nat → Int32} (hS : StR (LY r c k) ob ce en rg dn) {ov un : Nat → Int32} (hO : OvF r c k (ovD k) ov) (hU : OvF r c k (fun p => !ovD k p) un) {a b : Nat} (ha : a < 36) (hb : b < 36) {Q : Int32 → Prop} (h : Q (ctE r c k a b)) : wX1_countShared ov un ob (nI a) (nI b) Q := by
  have h60 := inN_le hR
  unfold wX1_countShared lX1_countShared_6
  refine lp_num (r := r) (c := c) (fun p s => if shB r c k a b p = true then s + 1 else s) (0 : Int32) (fun i s x => x.1 = s ∧ x.2 = nI i) 60 h60 ?_ ?_ ?_ FU _ ⟨rfl, rfl⟩ (FU_of (by omega))
  · rintro RR p s ⟨x1, x2⟩ h60p hp hip hb2 ⟨e1, e2⟩ hRR
    dsimp only at e1 e2 ⊢
    subst e1; subst e2
    unfold bX1_countShared_6
    rw [l60, if_neg (nI_ge h60p (by omega)), nI_1]
    refine s_isShared hR hS hO hU ha hb hip (hRR _ ⟨?_, rfl⟩)
    cases hs : shB r c k a b p <;> simp [bI_t, bI_f]
  · rintro RR i s ⟨x1, x2⟩ hi1 hi2 hb2 ⟨e1, e2⟩ hRR
    dsimp only at e1 e2 ⊢
    subst e1; subst e2
    unfold bX1_countShared_6
    rw [l60, if_neg (nI_ge hi1 (by omega)), nI_1]
    exact s_isShared9 ha hb hi1 (hO.2.2 i hi2 hi1) (hU.2.2 i hi2 hi1) (hRR _ ⟨rfl, rfl⟩)
  · rintro RR ⟨x1, x2⟩ ⟨e1, e2⟩
    dsimp only at e1 e2 ⊢
    subst e1; subst e2
    unfold bX1_countShared_6
    rw [l60, if_pos (nI_le (by omega) (by omega))]
    exact h
theorem s_sumShared {r c : Nat} {k : Nat → Nat} (hR : RC r c) {ob ce en rg dn : Nat → Int32} (hS : StR (LY r c k) ob ce en rg dn) {ov un : Nat → Int32} (hO : OvF r c k (ovD k) ov) (hU : OvF r c k (fun p => !ovD k p) un) {a b : Nat} (ha : a < 36) (hb : b < 36) {Q : Int32 → Prop} (h : Q (ssE r c k a b)) : wX1_sumSharedSigns ov un ob rg dn (nI a) (nI b) Q := by
  have h60 := inN_le hR
  unfold wX1_sumSharedSigns lX1_sumSharedSigns_6
  refine lp_num (r := r) (c := c) (fun p s => if shB r c k a b p = true then s + sg (sgB r c k p) else s) (0 : Int32) (fun i s x => x.1 = s ∧ x.2 = nI i) 60 h60 ?_ ?_ ?_ FU _ ⟨rfl, rfl⟩ (FU_of (by omega))
  · rintro RR p s ⟨x1, x2⟩ h60p hp hip hb2 ⟨e1, e2⟩ hRR
    dsimp only at e1 e2 ⊢
    subst e1; subst e2
    unfold bX1_sumSharedSigns_6
    rw [l60, if_neg (nI_ge h60p (by omega)), nI_1]
    refine s_isShared hR hS hO hU ha hb hip ?_
    cases hs : shB r c k a b p with
    | false =>
      rw [hs] at hRR
      rw [bI_f, if_pos rfl]
      exact hRR _ ⟨rfl, rfl⟩
    | true =>
      rw [hs] at hRR
      have hc : crB r c k p = true := by
        unfold shB at hs
        exact (Bool.and_eq_true_iff.mp hs).1
      rw [bI_t, if_neg (by decide)]
      exact s_signAt hR hS hO hU hc (hRR _ ⟨rfl, rfl⟩)
  · rintro RR i s ⟨x1, x2⟩ hi1 hi2 hb2 ⟨e1, e2⟩ hRR
    dsimp only at e1 e2 ⊢
    subst e1; subst e2
    unfold bX1_sumSharedSigns_6
    rw [l60, if_neg (nI_ge hi1 (by omega)), nI_1]
    refine s_isShared9 ha hb hi1 (hO.2.2 i hi2 hi1) (hU.2.2 i hi2 hi1) ?_
    rw [if_pos rfl]
    exact hRR _ ⟨rfl, rfl⟩
  · rintro RR ⟨x1, x2⟩ ⟨e1, e2⟩
    dsimp only at e1 e2 ⊢
    subst e1; subst e2
    unfold bX1_sumSharedSigns_6
    rw [l60, if_pos (nI_le (by omega) (by omega))]
    exact h
theorem s_isHere {r c : Nat} {k : Nat → Nat} (hR : RC r c) {ov un : Nat → Int32} (hO : OvF r c k (ovD k) ov) (hU : OvF r c k (fun p => !ovD k p) un) {p : Nat} (hp : inn r c p = true) {Q : Int32 → Prop} (h : Q (bI (crB r c k p))) : wX1_isHere ov un (nI (cnt r c p)) Q := by
  obtain ⟨P, hn, h36⟩ := LY_fact k hR
  have h60 := cnt_60 hR hp
  unfold wX1_isHere wX1_overAt wX1_underAt
  refine s_arr60 h60 ?_
  cases hc : crB r c k p with
  | true =>
    rw [hc] at h
    have hU1 : un (cnt r c p) = nI (stD (LY r c k) p (!ovD k p)) := hU.1 p hc
    have a1 := (stD_ps hR hc (ovD k p)).1
    have a2 := (stD_ps hR hc (!ovD k p)).1
    rw [hO.1 p hc, if_neg (nI_pos (by omega))]
    refine s_arr60 h60 ?_
    rw [hU1]
    dsimp only
    rw [if_neg (nI_pos (by omega))]
    exact h
  | false =>
    rw [hc] at h
    rw [hO.2.1 p hp hc, if_pos (by decide)]
    exact h
theorem s_isHere9 {ov un : Nat → Int32} {i : Nat} (hi : i < 60) (h1 : ov i = -9) {Q : Int32 → Prop} (h : Q 0) : wX1_isHere ov un (nI i) Q := by
  unfold wX1_isHere wX1_overAt wX1_underAt
  refine s_arr60 hi ?_
  rw [h1]
  dsimp only
  rw [if_pos (by decide)]
  exact h
theorem s_sumSigns {r c : Nat} {k : Nat → Nat} (hR : RC r c) {ob ce en rg dn : Nat → Int32} (hS : StR (LY r c k) ob ce en rg dn) {ov un : Nat → Int32} (hO : OvF r c k (ovD k) ov) (hU : OvF r c k (fun p => !ovD k p) un) {Q : Int32 → Prop} (h : Q (swE r c k)) : wX1_sumSigns ov un rg dn Q := by
  have h60 := inN_le hR
  unfold wX1_sumSigns lX1_sumSigns_4
  refine lp_num (r := r) (c := c) (fun p s => if crB r c k p = true then s + sg (sgB r c k p) else s) (0 : Int32) (fun i s x => x.1 = s ∧ x.2 = nI i) 60 h60 ?_ ?_ ?_ FU _ ⟨rfl, rfl⟩ (FU_of (by omega))
  · rintro RR p s ⟨x1, x2⟩ h60p hp hip hb2 ⟨e1, e2⟩ hRR
    dsimp only at e1 e2 ⊢
    subst e1; subst e2
    unfold bX1_sumSigns_4
    rw [l60, if_neg (nI_ge h60p (by omega)), nI_1]
    refine s_isHere hR hO hU hip ?_
    cases hs : crB r c k p with
    | false =>
      rw [hs] at hRR
      rw [bI_f, if_pos rfl]
      exact hRR _ ⟨rfl, rfl⟩
    | true =>
      rw [hs] at hRR
      rw [bI_t, if_neg (by decide)]
      exact s_signAt hR hS hO hU hs (hRR _ ⟨rfl, rfl⟩)
  · rintro RR i s ⟨x1, x2⟩ hi1 hi2 hb2 ⟨e1, e2⟩ hRR
    dsimp only at e1 e2 ⊢
    subst e1; subst e2
    unfold bX1_sumSigns_4
    rw [l60, if_neg (nI_ge hi1 (by omega)), nI_1]
    refine s_isHere9 hi1 (hO.2.2 i hi2 hi1) ?_
    rw [if_pos rfl]
    exact hRR _ ⟨rfl, rfl⟩
  · rintro RR ⟨x1, x2⟩ ⟨e1, e2⟩
    dsimp only at e1 e2 ⊢
    subst e1; subst e2
    unfold bX1_sumSigns_4
    rw [l60, if_pos (nI_le (by omega) (by omega))]
    exact h
