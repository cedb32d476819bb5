/-! the same when turned; the plait of THE TEXT -/
abbrev TN : Type := Nat × Nat × Nat × Nat
def tn : Nat → TN → TN
  | 0, s => s
  | q + 1, s => tn q (s.2.1, s.2.2.1 - s.1, s.2.2.2, s.2.2.1)
def tnS (r c t p : Nat) : TN := (p / 13, (if t < 4 then p % 13 else 2 * c - p % 13), 2 * r, 2 * c)
def tnP (r c t p : Nat) : Nat := 13 * (tn (t % 4) (tnS r c t p)).1 + (tn (t % 4) (tnS r c t p)).2.1
def smB (r c : Nat) (k : Nat → Nat) (t p : Nat) : Bool := decide (k (tnP r c t p) % 3 = (if t % 2 = 1 ∧ 0 < k p % 3 then 3 - k p % 3 else k p % 3))
def smE (r c : Nat) (k : Nat → Nat) (t : Nat) : Bool := (decide (t % 2 = 0) || decide (r = c)) && FP r c (fun p b => b && smB r c k t p) true 169
theorem FP_all {r c : Nat} {f : Nat → Bool} : ∀ q, FP r c (fun p b => b && f p) true q = true ↔ ∀ p, p < q → inn r c p = true → f p = true := by
  intro q
  induction q with
  | zero => exact ⟨fun _ p h => absurd h (Nat.not_lt_zero _), fun _ => rfl⟩
  | succ q ih =>
    cases hq : inn r c q with
    | false =>
      rw [FP_out hq, ih]
      constructor
      · intro h p hp hi
        rcases Nat.lt_or_ge p q with z | z
        · exact h p z hi
        · rw [show p = q by omega, hq] at hi; cases hi
      · intro h p hp hi
        exact h p (by omega) hi
    | true =>
      rw [FP_in hq, Bool.and_eq_true_iff, ih]
      constructor
      · intro h p hp hi
        rcases Nat.lt_or_ge p q with z | z
        · exact h.1 p z hi
        · rw [show p = q by omega]; exact h.2
      · intro h
        exact ⟨fun p hp hi => h p (by omega) hi, h q (by omega) hq⟩
/-- a point turned stays within -/
def tnI (s : TN) : Prop := 1 ≤ s.1 ∧ s.1 < s.2.2.1 ∧ 1 ≤ s.2.1 ∧ s.2.1 < s.2.2.2 ∧ (s.1 + s.2.1) % 2 = 1 ∧ s.2.2.1 % 2 = 0 ∧ s.2.2.2 % 2 = 0 ∧ s.2.2.1 ≤ 12 ∧ s.2.2.2 ≤ 12
theorem tnI_step {s : TN} (h : tnI s) : tnI (s.2.1, s.2.2.1 - s.1, s.2.2.2, s.2.2.1) := by
  obtain ⟨h1, h2, h3, h4, h5, h6, h7, h8, h9⟩ := h
  refine ⟨h3, h4, ?_, ?_, ?_, h7, h6, h9, h8⟩
  · show 1 ≤ s.2.2.1 - s.1; omega
  · show s.2.2.1 - s.1 < s.2.2.1; omega
  · show (s.2.1 + (s.2.2.1 - s.1)) % 2 = 1; omega
theorem tn_I : ∀ (q : Nat) (s : TN), tnI s → tnI (tn q s) ∧ ((tn q s).2.2 = if q % 2 = 0 then s.2.2 else (s.2.2.2, s.2.2.1)) := by
  intro q
  induction q with
  | zero => intro s h; exact ⟨h, rfl⟩
  | succ q ih =>
    intro s h
    obtain ⟨h1, h2⟩ := ih _ (tnI_step h)
    refine ⟨h1, ?_⟩
    show (tn q (s.2.1, s.2.2.1 - s.1, s.2.2.2, s.2.2.1)).2.2 = _
    rw [h2]
    by_cases z : q % 2 = 0
    · rw [if_pos z, if_neg (by omega)]
    · rw [if_neg z, if_pos (by omega)]
theorem tnS_I {r c t p : Nat} (hR : RC r c) (hp : inn r c p = true) : tnI (tnS r c t p) := by
  obtain ⟨r1, r2, r3, r4⟩ := hR
  obtain ⟨g1, g2, g3, g4, g5⟩ := inn_iff.mp hp
  unfold tnI tnS
  dsimp only
  by_cases z : t < 4
  · rw [if_pos z]; omega
  · rw [if_neg z]; omega
theorem tnP_in {r c t p : Nat} (hR : RC r c) (hp : inn r c p = true) (h : t % 2 = 0 ∨ r = c) : inYX r c (tn (t % 4) (tnS r c t p)).1 (tn (t % 4) (tnS r c t p)).2.1 := by
  obtain ⟨⟨h1, h2, h3, h4, h5, -⟩, e⟩ := tn_I (t % 4) _ (tnS_I (t := t) hR hp)
  have e2 : (tn (t % 4) (tnS r c t p)).2.2 = (2 * r, 2 * c) := by
    rw [e]
    by_cases z : t % 4 % 2 = 0
    · rw [if_pos z]; rfl
    · rw [if_neg z]
      have : r = c := by
        rcases h with q | q
        · omega
        · exact q
      subst this
      rfl
  rw [e2] at h2 h4
  exact ⟨h1, h2, h3, h4, h5⟩
theorem s_turn {nums : Nat → Int32} {q : Nat} (hq : q < 4) {s : TN} (hs : tnI s) {K : Int32 → Int32 → Prop} (h : K (nI (tn q s).1) (nI (tn q s).2.1)) : lX3_numberTurned_50 (nI q) K FU (nI s.2.2.1) (nI s.2.2.2) (nI s.1) (nI s.2.1) 0 := by
  unfold lX3_numberTurned_50
  refine lp_up (fun i a => ∃ u : TN, tnI u ∧ tn (q - i) u = tn q s ∧ a.1 = nI u.2.2.1 ∧ a.2.1 = nI u.2.2.2 ∧ a.2.2.1 = nI u.1 ∧ a.2.2.2.1 = nI u.2.1 ∧ a.2.2.2.2 = nI i) q ?_ FU 0 _ ⟨s, hs, rfl, rfl, rfl, rfl, rfl, rfl⟩ (Nat.zero_le _) (FU_of (by omega))
  rintro RR i ⟨x4, x5, x6, x7, x8⟩ ⟨u, hu, hT, e1, e2, e3, e4, e5⟩ hi hRR
  dsimp only at e1 e2 e3 e4 e5 ⊢
  subst e1; subst e2; subst e3; subst e4; subst e5
  unfold bX3_numberTurned_50
  by_cases z : i < q
  · obtain ⟨h1, h2, h3, h4, h5, h6, h7, h8, h9⟩ := id hu
    rw [if_neg (nI_ge z (by omega)), pk_sub (by omega), nI_1]
    refine hRR z _ ⟨(u.2.1, u.2.2.1 - u.1, u.2.2.2, u.2.2.1), tnI_step hu, ?_, rfl, rfl, rfl, rfl, rfl⟩
    rw [← hT, show q - i = (q - (i + 1)) + 1 by omega]
    rfl
  · rw [if_pos (nI_le (by omega) (by omega))]
    have : i = q := by omega
    subst this
    rw [Nat.sub_self] at hT
    have hT2 : u = tn i s := hT
    rw [← hT2] at h
    exact h
theorem s_breakOf {r c : Nat} {k : Nat → Nat} (hR : RC r c) (hk : ∀ p, k p ≤ 3) {d1 d2 d3 : Int32} {d4 d5 d6 : Nat → Int32} (R : PlR r c k d1 d2 d3 d4 d5 d6) {p : Nat} (hi : inn r c p = true) {Q : Int32 → Prop} (h : Q (nI (k p % 3))) : wX3_breakOf d5 (nI (cnt r c p)) Q := by
  have h3 := hk p
  unfold wX3_breakOf
  refine s_isCrP hR hk R hi ?_
  by_cases hc : k p % 3 = 0
  · have : crB r c k p = true := crB_iff.mpr ⟨hi, hc⟩
    rw [this, bI_t, if_neg (by decide)]
    rw [hc] at h; exact h
  · have : crB r c k p = false := by
      cases z : crB r c k p with
      | false => rfl
      | true => exact absurd (crB_iff.mp z).2 hc
    rw [this, bI_f, if_pos rfl]
    refine s_kindP hR R hi ?_
    rw [show k p % 3 = k p by omega] at h; exact h
theorem s_breakT {b q : Nat} (hb : b < 3) (hq : q < 4) {Q : Int32 → Prop} (h : Q (nI (if q % 2 = 1 ∧ 0 < b then 3 - b else b))) : wX3_breakTurned (nI b) (nI q) Q := by
  unfold wX3_breakTurned
  rw [l2, jr_nI (by omega) (by omega) (by omega)]
  by_cases z : q % 2 = 1
  · rw [if_neg (nI_ne0 (by omega) (by omega))]
    by_cases y : b = 0
    · subst y
      rw [if_pos (by rfl)]
      rw [if_neg (by omega)] at h; exact h
    · rw [if_neg (nI_ne0 (by omega) (by omega))]
      rw [if_pos ⟨z, by omega⟩] at h
      rcases (show b = 1 ∨ b = 2 by omega) with w | w
      · subst w; exact h
      · subst w; exact h
  · rw [show q % 2 = 0 by omega, if_pos (by rfl)]
    rw [if_neg (fun w => z w.1)] at h; exact h
theorem s_isSame {r c : Nat} {k : Nat → Nat} (hR : RC r c) (hk : ∀ p, k p ≤ 3) {d1 d2 d3 : Int32} {d4 d5 d6 : Nat → Int32} (R : PlR r c k d1 d2 d3 d4 d5 d6) {t : Nat} (ht : t ≤ 7) (hrc : t % 2 = 0 ∨ r = c) {Q : Int32 → Prop} (h : Q (bI (FP r c (fun p b => b && smB r c k t p) true 169))) : wX3_isSameTurned_J20 d1 d2 d3 d4 d5 d6 (nI (t % 4)) (if t < 4 then 0 else 1) Q := by
  obtain ⟨r1, r2, r3, r4⟩ := id hR
  have h60 := inN_le hR
  have hd1 : d1 = nI r := R.1
  have hd2 : d2 = nI c := R.2.1
  have hd3 : d3 = nI (inN r c) := R.2.2.1
  unfold wX3_isSameTurned_J20 lX3_isSameTurned_22
  refine lp_num (r := r) (c := c) (fun p b => b && smB r c k t p) true (fun i b a => b = true ∧ a = nI i) (inN r c) (Nat.le_refl _) ?_ ?_ ?_ FU _ ⟨rfl, rfl⟩ (FU_of (by omega))
  · rintro RR p b a hlt hp hip hb ⟨rfl, rfl⟩ hRR
    unfold bX3_isSameTurned_22
    rw [hd3, if_neg (nI_ge hlt (by omega)), nI_1]
    unfold wX3_numberTurned
    refine s_pointP hR R hip (s_pointP hR R hip ?_)
    obtain ⟨g1, g2, g3, g4, g5⟩ := inn_iff.mp hip
    rw [l100, pk_div (by omega) (by omega) (by omega), jr_nI (by omega) (by omega) (by omega), hd1, hd2, l2, pk_mul, pk_mul, show (100 * (p / 13) + p % 13) / 100 = p / 13 by omega, show (100 * (p / 13) + p % 13) % 100 = p % 13 by omega]
    have hx : (if (if t < 4 then (0 : Int32) else 1) = 0 then nI (p % 13) else nI (2 * c) - nI (p % 13)) = nI (if t < 4 then p % 13 else 2 * c - p % 13) := by
      by_cases z : t < 4
      · rw [if_pos z, if_pos z, if_pos rfl]
      · rw [if_neg z, if_neg z, if_neg (by decide), pk_sub (by omega)]
    rw [hx]
    refine s_turn (q := t % 4) (s := tnS r c t p) (nums := d6) (by omega) (tnS_I hR hip) ?_
    have hin := tnP_in (t := t) hR hip hrc
    have hlim := inYX_lt hR hin
    unfold wX3_numberTurned_X89
    refine s_numberAt hR R (by omega) (by omega) ?_
    rw [numv_in hin]
    have hii : inn r c (tnP r c t p) = true := (inn_yx hlim.2.1).mpr hin
    show wX3_breakOf d5 (nI (cnt r c (tnP r c t p))) _
    refine s_breakOf hR hk R hii (s_breakOf hR hk R hip (s_breakT (by omega) (by omega) ?_))
    rw [show t % 4 % 2 = t % 2 by omega]
    by_cases z : smB r c k t p = true
    · have z2 := of_decide_eq_true z
      rw [if_pos (by rw [z2])]
      refine hRR _ ⟨?_, rfl⟩
      rw [z]; rfl
    · have z2 : ¬ k (tnP r c t p) % 3 = (if t % 2 = 1 ∧ 0 < k p % 3 then 3 - k p % 3 else k p % 3) := fun w => z (decide_eq_true w)
      have hb3 : (if t % 2 = 1 ∧ 0 < k p % 3 then 3 - k p % 3 else k p % 3) < 2 ^ 31 := by split <;> omega
      rw [if_neg (fun w => z2 (nI_inj (by omega) hb3 w))]
      have e : FP r c (fun p b => b && smB r c k t p) true 169 = false := by
        cases w : FP r c (fun p b => b && smB r c k t p) true 169 with
        | false => rfl
        | true => exact absurd ((FP_all 169).mp w p hp hip) z
      rw [e] at h
      exact h
  · intro RR i b a h1 h2
    omega
  · rintro RR a ⟨e1, rfl⟩
    unfold bX3_isSameTurned_22
    rw [hd3, if_pos (nI_le (by omega) (by omega))]
    unfold wX3_isSameTurned_X65
    rw [e1] at h
    exact h
def aSame (r c : Nat) (k : Nat → Nat) (x : Int32) : Int32 := (rgI 0 7 x).elim (-2) (fun t => bI (smE r c k t))
theorem c_same {r c : Nat} {k : Nat → Nat} (hR : RC r c) (hk : ∀ p, k p ≤ 3) {d1 d2 d3 : Int32} {d4 d5 d6 : Nat → Int32} (R : PlR r c k d1 d2 d3 d4 d5 d6) {x : Int32} {Q : Int32 → Prop} (h : Q (aSame r c k x)) : wX5_same d1 d2 d3 d4 d5 d6 x Q := by
  obtain ⟨r1, r2, r3, r4⟩ := id hR
  have hd1 : d1 = nI r := R.1
  have hd2 : d2 = nI c := R.2.1
  unfold wX5_same
  unfold aSame at h
  rcases I_cases x with q | ⟨t, ht, rfl⟩
  · rw [if_pos q]
    rw [rgI_neg q] at h; exact h
  · rw [if_neg (nI_pos ht), l7]
    rw [rgI_nI ht] at h
    by_cases z : t ≤ 7
    · rw [if_pos (nI_le z (by omega))]
      rw [if_pos ⟨by omega, z⟩] at h
      simp only [Option.elim_some] at h
      have e4 : (if nI t < 4 then (0 : Int32) else 1) = if t < 4 then 0 else 1 := by
        rw [l4]
        by_cases y : t < 4
        · rw [if_pos (nI_lt y (by omega)), if_pos y]
        · rw [if_neg (nI_nlt (by omega) (by omega)), if_neg y]
      rw [e4, l4, jr_nI ht (by omega) (by omega)]
      have fin : ∀ b : Bool, Q (bI b) → Q (if bI b = 0 then 0 else 1) := by
        intro b hb
        cases b <;> exact hb
      unfold wX3_isSameTurned
      rw [l2, jr_nI (by omega) (by omega) (by omega), show t % 4 % 2 = t % 2 by omega]
      unfold smE at h
      by_cases y : t % 2 = 1
      · rw [y, if_pos (by rfl)]
        rw [decide_eq_false (show ¬ t % 2 = 0 by omega), Bool.false_or] at h
        by_cases w : r = c
        · rw [if_pos (by rw [hd1, hd2, w])]
          rw [decide_eq_true w, Bool.true_and] at h
          exact s_isSame hR hk R z (Or.inr w) (fin _ h)
        · rw [if_neg (fun e => w (nI_inj (by omega) (by omega) (by rw [hd1, hd2] at e; exact e)))]
          rw [decide_eq_false w, Bool.false_and] at h
          exact h
      · have y0 : t % 2 = 0 := by omega
        rw [y0, if_neg (by decide)]
        rw [decide_eq_true y0, Bool.true_or, Bool.true_and] at h
        exact s_isSame hR hk R z (Or.inl y0) (fin _ h)
    · rw [if_neg (nI_ge (by omega) ht)]
      rw [if_neg (by omega)] at h; exact h
theorem c_fault {tx : Nat → Nat} {ln : Nat} (hln : ln ≤ 72) (htx : ∀ j, j < ln → tx j < 256) {sg_ : Nat → Int32} (hf : TxR tx ln sg_) {sr sk sy f1 f2 f3 : Int32} {f4 f5 f6 : Nat → Int32} {Q : Int32 → Int32 → Int32 → Int32 → Int32 → Int32 → Int32 → (Nat → Int32) → (Nat → Int32) → (Nat → Int32) → Prop}
    (h : ∀ sr' sk' sy' f1' f2' f3' f4' f5' f6', Q (rdT tx ln).1 sr' sk' sy' f1' f2' f3' f4' f5' f6') : wX5_fault (nI ln) sg_ sr sk sy f1 f2 f3 f4 f5 f6 Q := by
  unfold wX5_fault
  exact s_readInto hln htx hf (fun _ _ _ _ _ _ _ _ _ _ => h _ _ _ _ _ _ _ _ _)
theorem c_plait {tx : Nat → Nat} {ln : Nat} (hln : ln ≤ 72) (htx : ∀ j, j < ln → tx j < 256) {sg_ : Nat → Int32} (hf : TxR tx ln sg_) {sr sk sy f1 f2 f3 : Int32} {f4 f5 f6 : Nat → Int32} {d1 d2 d3 : Int32} {d4 d5 d6 : Nat → Int32} {count steps : Int32} {owners firsts ob ce en rg dn : Nat → Int32} (h0 : firsts 0 = 0) {arcs ties : Int32} {passes abs overs unders tied groups : Nat → Int32}
    {Q : Int32 → Int32 → Int32 → Int32 → Int32 → Int32 → Int32 → (Nat → Int32) → (Nat → Int32) → (Nat → Int32) → Int32 → Int32 → (Nat → Int32) → (Nat → Int32) → (Nat → Int32) → (Nat → Int32) → (Nat → Int32) → (Nat → Int32) → (Nat → Int32) → Int32 → Int32 → (Nat → Int32) → (Nat → Int32) → (Nat → Int32) → (Nat → Int32) → (Nat → Int32) → (Nat → Int32) → Int32 → Int32 → Int32 → (Nat → Int32) → (Nat → Int32) → (Nat → Int32) → Prop}
    (hno : (rdT tx ln).1 ≠ -9 → ∀ sr' sk' sy' f1' f2' f3' f4' f5' f6', Q (-3) sr' sk' sy' d1 d2 d3 d4 d5 d6 count steps owners firsts ob ce en rg dn arcs ties passes abs overs unders tied groups f1' f2' f3' f4' f5' f6')
    (hyes : (rdT tx ln).1 = -9 → RC (rdT tx ln).2.1 (rdT tx ln).2.2.1 → (∀ p, (rdT tx ln).2.2.2 p ≤ 3) → ∀ sr' sk' sy' d1' d2' d3' d4' d5' d6' count' steps' owners' firsts' ob' ce' en' rg' dn' arcs' ties' passes' abs' overs' unders' tied' groups' f1' f2' f3' f4' f5' f6', PlR (rdT tx ln).2.1 (rdT tx ln).2.2.1 (rdT tx ln).2.2.2 d1' d2' d3' d4' d5' d6' → LoR (LY (rdT tx ln).2.1 (rdT tx ln).2.2.1 (rdT tx ln).2.2.2) count' steps' owners' firsts' ob' ce' en' rg' dn' → CrR (rdT tx ln).2.1 (rdT tx ln).2.2.1 (rdT tx ln).2.2.2 arcs' ties' passes' abs' overs' unders' tied' → Q (nI (inN (rdT tx ln).2.1 (rdT tx ln).2.2.1)) sr' sk' sy' d1' d2' d3' d4' d5' d6' count' steps' owners' firsts' ob' ce' en' rg' dn' arcs' ties' passes' abs' overs' unders' tied' groups' f1' f2' f3' f4' f5' f6') :
    wX5_plait (nI ln) sg_ sr sk sy d1 d2 d3 d4 d5 d6 count steps owners firsts ob ce en rg dn arcs ties passes abs overs unders tied groups f1 f2 f3 f4 f5 f6 Q := by
  unfold wX5_plait
  refine s_readInto hln htx hf (fun sr' sk' sy' f1' f2' f3' f4' f5' f6' hg => ?_)
  by_cases z : (rdT tx ln).1 = -9
  · obtain ⟨hR, hk, hP⟩ := hg z
    rw [if_pos z]
    unfold wX3_become
    have hP2 := hP.cpy hR d4 d5 d6
    have h3 : f3' = nI (inN (rdT tx ln).2.1 (rdT tx ln).2.2.1) := hP.2.2.1
    subst h3
    exact s_redraw hR hk hP2 h0 (fun _ _ _ _ _ _ _ _ _ _ _ _ _ _ _ _ _ hL hC => hyes z hR hk _ _ _ _ _ _ _ _ _ _ _ _ _ _ _ _ _ _ _ _ _ _ _ _ _ _ _ _ _ _ _ _ hP2 hL hC)
  · rw [if_neg z]
    exact hno z _ _ _ _ _ _ _ _ _
