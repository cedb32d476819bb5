/-! THE TEXT read -/
def dgN (s : Nat) : Nat := if 48 ≤ s ∧ s ≤ 57 then s - 48 else if s = 97 then 10 else if s = 98 then 11 else 31
def ltN (s : Nat) : Nat := if s = 72 then 1 else if s = 86 then 2 else if s = 79 then 3 else 0
def freP (r c : Nat) (kk : Nat → Nat) (p : Nat) : Bool := inn r c p && decide (kk p = 0)
def rowF (r c : Nat) (kk : Nat → Nat) (y : Nat) : Bool := decide (0 < fb_ct (fun x => freP r c kk (13 * y + x)) 13)
def anyF (r c : Nat) (kk : Nat → Nat) : Bool := decide (0 < fb_ct (freP r c kk) 169)
def rdP (tx : Nat → Nat) (ln r c : Nat) : Nat → Nat → (Nat → Nat) → Int32 × (Nat → Nat)
  | 0, _, kk => (-9, kk)
  | f + 1, a, kk => if ln ≤ a then (-9, kk) else if ltN (tx a) = 0 ∨ anyF r c kk = false then (nI a, kk) else if ln ≤ a + 1 ∨ rowF r c kk (dgN (tx (a + 1))) = false then (nI (a + 1), kk) else if ln ≤ a + 2 ∨ ¬ (dgN (tx (a + 2)) < 13 ∧ freP r c kk (13 * dgN (tx (a + 1)) + dgN (tx (a + 2))) = true) then (nI (a + 2), kk) else rdP tx ln r c f (a + 3) (kU kk (13 * dgN (tx (a + 1)) + dgN (tx (a + 2))) (ltN (tx a)))
abbrev RT : Type := Int32 × Nat × Nat × (Nat → Nat)
def rdT (tx : Nat → Nat) (ln : Nat) : RT := if ln = 0 ∨ tx 0 ≠ 78 then (0, 1, 1, fun _ => 0) else if ln ≤ 1 ∨ ¬ (1 ≤ dgN (tx 1) ∧ dgN (tx 1) ≤ 6) then (1, 1, 1, fun _ => 0) else if ln ≤ 2 ∨ ¬ (1 ≤ dgN (tx 2) ∧ dgN (tx 2) ≤ 6) then (2, 1, 1, fun _ => 0) else ((rdP tx ln (dgN (tx 1)) (dgN (tx 2)) 30 3 (fun _ => 0)).1, dgN (tx 1), dgN (tx 2), (rdP tx ln (dgN (tx 1)) (dgN (tx 2)) 30 3 (fun _ => 0)).2)
def dgI (s : Nat) : Int32 := if dgN s = 31 then -9 else nI (dgN s)
theorem dgN_lim (s : Nat) : dgN s = 31 ∨ dgN s < 12 := by
  unfold dgN
  split
  · omega
  · split
    · omega
    · split <;> omega
theorem dgI_lt {s : Nat} (h : dgN s < 13) : dgI s = nI (dgN s) := if_neg (by omega)
theorem s_digit {s : Nat} (hs : s < 256) {Q : Int32 → Prop} (h : Q (dgI s)) : wX4_digit (nI s) Q := by
  have hJ : ¬ (48 ≤ s ∧ s ≤ 57) → wX4_digit_J17 (nI s) Q := by
    intro hn
    unfold wX4_digit_J17
    have e : (if nI s = 97 then (10 : Int32) else if nI s = 98 then 11 else -9) = dgI s := by
      unfold dgI dgN
      rw [if_neg hn, l97, l98]
      by_cases q1 : s = 97
      · rw [if_pos (by rw [q1]), if_pos q1, if_neg (by decide)]; rfl
      · rw [if_neg (fun z => q1 (nI_inj (by omega) (by omega) z)), if_neg q1]
        by_cases q2 : s = 98
        · rw [if_pos (by rw [q2]), if_pos q2, if_neg (by decide)]; rfl
        · rw [if_neg (fun z => q2 (nI_inj (by omega) (by omega) z)), if_neg q2, if_pos rfl]
    rw [e]; exact h
  unfold wX4_digit
  rw [l48, l57]
  by_cases q1 : s < 48
  · rw [if_pos (nI_lt q1 (by omega))]
    exact hJ (by omega)
  · rw [if_neg (nI_nlt (by omega) (by omega))]
    by_cases q2 : 57 < s
    · rw [if_pos (nI_lt q2 (by omega))]
      exact hJ (by omega)
    · rw [if_neg (nI_nlt (by omega) (by omega)), pk_sub (by omega)]
      have e1 : dgN s = s - 48 := if_pos ⟨by omega, by omega⟩
      have e2 : dgI s = nI (s - 48) := by unfold dgI; rw [e1, if_neg (by omega)]
      rw [e2] at h
      exact h
theorem s_kindBy {s : Nat} (hs : s < 256) {Q : Int32 → Prop} (h : Q (if ltN s = 0 then -9 else nI (ltN s))) : wX4_kindBy (nI s) Q := by
  unfold wX4_kindBy
  have l72' : (72 : Int32) = nI 72 := rfl
  have l79' : (79 : Int32) = nI 79 := rfl
  have l86' : (86 : Int32) = nI 86 := rfl
  rw [l72', l79', l86']
  by_cases q1 : s = 72
  · rw [if_pos (by rw [q1])]
    subst q1; exact h
  · rw [if_neg (fun z => q1 (nI_inj (by omega) (by omega) z))]
    by_cases q3 : s = 79
    · rw [if_pos (by rw [q3])]
      subst q3; exact h
    · rw [if_neg (fun z => q3 (nI_inj (by omega) (by omega) z))]
      by_cases q2 : s = 86
      · rw [if_pos (by rw [q2])]
        subst q2; exact h
      · rw [if_neg (fun z => q2 (nI_inj (by omega) (by omega) z))]
        have e : ltN s = 0 := by unfold ltN; rw [if_neg q1, if_neg q2, if_neg q3]
        rw [e, if_pos rfl] at h; exact h
theorem ltN_3 (s : Nat) : ltN s ≤ 3 := by
  unfold ltN
  split
  · omega
  · split
    · omega
    · split <;> omega
theorem kc_ct (r c : Nat) (k : Nat → Nat) (v : Nat) : ∀ p, FP r c (fun p s => if k p = v then s + 1 else s) (0 : Int32) p = nI (fb_ct (fun p => inn r c p && decide (k p = v)) p) := by
  intro p
  induction p with
  | zero => rfl
  | succ p ih =>
    rw [fb_ct_succ]
    cases hq : inn r c p with
    | false => rw [FP_out hq, ih]; simp
    | true =>
      rw [FP_in hq, ih]
      by_cases z : k p = v
      · simp [z, nI_1]
      · simp [z]
theorem kcE_ct (r c : Nat) (k : Nat → Nat) (v : Nat) : kcE r c k v = nI (fb_ct (fun p => inn r c p && decide (k p = v)) 169) := kc_ct r c k v 169
theorem s_hasPlain {r c : Nat} {k : Nat → Nat} (hR : RC r c) (hk : ∀ p, k p ≤ 3) {d1 d2 d3 : Int32} {d4 d5 d6 : Nat → Int32} (R : PlR r c k d1 d2 d3 d4 d5 d6) {s : Nat} {Q : Int32 → Prop} (h : Q (bI (rowF r c k (dgN s)))) : wX3_hasPlainInRow d5 d6 (dgI s) Q := by
  unfold wX3_hasPlainInRow lX3_hasPlainInRow_2
  refine lp_up (fun i a => a = nI i ∧ fb_ct (fun x => freP r c k (13 * dgN s + x)) i = 0) 13 ?_ FU 0 _ ⟨rfl, rfl⟩ (Nat.zero_le _) (FU_of (by omega))
  rintro RR i a ⟨rfl, hz⟩ hi hRR
  unfold bX3_hasPlainInRow_2
  rw [l13]
  by_cases q : i < 13
  · rw [if_neg (nI_ge q (by omega)), nI_1]
    have hsucc := fb_ct_succ (fun x => freP r c k (13 * dgN s + x)) i
    by_cases hy : inYX r c (dgN s) i
    · have hlt := inYX_lt hR hy
      have hin : inn r c (13 * dgN s + i) = true := (inn_yx q).mpr hy
      rw [dgI_lt hlt.1]
      refine s_numberAt hR R (by omega) (by omega) ?_
      rw [numv_in hy, if_neg (nI_pos (by have := cnt_60 hR hin; omega))]
      refine s_kindP hR R hin ?_
      have h3 := hk (13 * dgN s + i)
      by_cases hk0 : k (13 * dgN s + i) = 0
      · rw [if_pos (by rw [hk0]; rfl)]
        have hp : 0 < fb_ct (fun x => freP r c k (13 * dgN s + x)) 13 := fb_ct_pos.mpr ⟨i, q, by show freP r c k (13 * dgN s + i) = true; unfold freP; rw [hin, hk0]; rfl⟩
        unfold rowF at h
        rw [decide_eq_true hp] at h
        exact h
      · rw [if_neg (nI_ne0 (by omega) (by omega))]
        refine hRR q _ ⟨rfl, ?_⟩
        rw [hsucc, hz]
        have : freP r c k (13 * dgN s + i) = false := by unfold freP; rw [decide_eq_false hk0, Bool.and_false]
        rw [this]; rfl
    · have hno : ∀ {P : Int32 → Prop}, P (-9) → wX3_numberAt d6 (dgI s) (nI i) P := by
        intro P hP
        unfold dgI
        by_cases q31 : dgN s = 31
        · rw [if_pos q31]
          exact s_numberAt_neg (Or.inl (by decide)) hP
        · rw [if_neg q31]
          have := dgN_lim s
          refine s_numberAt hR R (by omega) (by omega) ?_
          rw [numv_out hy]; exact hP
      refine hno ?_
      rw [if_pos (by decide)]
      refine hRR q _ ⟨rfl, ?_⟩
      rw [hsucc, hz]
      have : freP r c k (13 * dgN s + i) = false := by unfold freP; rw [inn_no q hy, Bool.false_and]
      rw [this]; rfl
  · rw [if_pos (nI_le (by omega) (by omega))]
    have : i = 13 := by omega
    subst this
    unfold wX3_hasPlainInRow_X35
    unfold rowF at h
    rw [hz] at h
    exact h
/-- where the reading stands at a place -/
def RdI (tx : Nat → Nat) (ln i : Nat) (sr sk sy f1 f2 f3 : Int32) (f4 f5 f6 : Nat → Int32) : Prop :=
  (i = 0) ∨ (i = 1 ∧ 0 < ln ∧ tx 0 = 78) ∨ (i = 2 ∧ 1 < ln ∧ tx 0 = 78 ∧ 1 ≤ dgN (tx 1) ∧ dgN (tx 1) ≤ 6 ∧ sr = nI (dgN (tx 1))) ∨
  (2 < ln ∧ tx 0 = 78 ∧ 1 ≤ dgN (tx 1) ∧ dgN (tx 1) ≤ 6 ∧ 1 ≤ dgN (tx 2) ∧ dgN (tx 2) ≤ 6 ∧ ∃ f a kk, (∀ p, kk p ≤ 3) ∧ PlR (dgN (tx 1)) (dgN (tx 2)) kk f1 f2 f3 f4 f5 f6 ∧ ln < a + 3 * f ∧ a % 3 = 0 ∧ 3 ≤ a ∧ rdP tx ln (dgN (tx 1)) (dgN (tx 2)) f a kk = rdP tx ln (dgN (tx 1)) (dgN (tx 2)) 30 3 (fun _ => 0) ∧
    ((i = a) ∨ (i = a + 1 ∧ a < ln ∧ ltN (tx a) ≠ 0 ∧ anyF (dgN (tx 1)) (dgN (tx 2)) kk = true ∧ sk = nI (ltN (tx a))) ∨ (i = a + 2 ∧ a + 1 < ln ∧ ltN (tx a) ≠ 0 ∧ anyF (dgN (tx 1)) (dgN (tx 2)) kk = true ∧ sk = nI (ltN (tx a)) ∧ rowF (dgN (tx 1)) (dgN (tx 2)) kk (dgN (tx (a + 1))) = true ∧ sy = dgI (tx (a + 1)))))
theorem rdT_3 {tx : Nat → Nat} {ln : Nat} (h1 : 2 < ln) (h2 : tx 0 = 78) (h3 : 1 ≤ dgN (tx 1)) (h4 : dgN (tx 1) ≤ 6) (h5 : 1 ≤ dgN (tx 2)) (h6 : dgN (tx 2) ≤ 6) : rdT tx ln = ((rdP tx ln (dgN (tx 1)) (dgN (tx 2)) 30 3 (fun _ => 0)).1, dgN (tx 1), dgN (tx 2), (rdP tx ln (dgN (tx 1)) (dgN (tx 2)) 30 3 (fun _ => 0)).2) := by
  unfold rdT
  rw [if_neg (by omega), if_neg (by omega), if_neg (by omega)]
theorem rdP_0 {tx : Nat → Nat} {ln r c f a : Nat} {kk : Nat → Nat} (h : ln ≤ a) : rdP tx ln r c f a kk = (-9, kk) := by
  cases f with
  | zero => rfl
  | succ f => exact if_pos h
theorem rdP_1 {tx : Nat → Nat} {ln r c f a : Nat} {kk : Nat → Nat} (h : a < ln) (hf : ln < a + 3 * f) (h2 : ltN (tx a) = 0 ∨ anyF r c kk = false) : (rdP tx ln r c f a kk).1 = nI a := by
  obtain ⟨g, rfl⟩ : ∃ g, f = g + 1 := ⟨f - 1, by omega⟩
  unfold rdP
  rw [if_neg (by omega), if_pos h2]
theorem rdP_2 {tx : Nat → Nat} {ln r c f a : Nat} {kk : Nat → Nat} (h : a < ln) (hf : ln < a + 3 * f) (h2 : ltN (tx a) ≠ 0) (h3 : anyF r c kk = true) (h4 : ln ≤ a + 1 ∨ rowF r c kk (dgN (tx (a + 1))) = false) : (rdP tx ln r c f a kk).1 = nI (a + 1) := by
  obtain ⟨g, rfl⟩ : ∃ g, f = g + 1 := ⟨f - 1, by omega⟩
  unfold rdP
  rw [if_neg (by omega), if_neg (fun z => by rcases z with z | z; exact h2 z; rw [h3] at z; cases z), if_pos h4]
theorem rdP_3 {tx : Nat → Nat} {ln r c f a : Nat} {kk : Nat → Nat} (h : a + 1 < ln) (hf : ln < a + 3 * f) (h2 : ltN (tx a) ≠ 0) (h3 : anyF r c kk = true) (h4 : rowF r c kk (dgN (tx (a + 1))) = true) (h5 : ln ≤ a + 2 ∨ ¬ (dgN (tx (a + 2)) < 13 ∧ freP r c kk (13 * dgN (tx (a + 1)) + dgN (tx (a + 2))) = true)) : (rdP tx ln r c f a kk).1 = nI (a + 2) := by
  obtain ⟨g, rfl⟩ : ∃ g, f = g + 1 := ⟨f - 1, by omega⟩
  unfold rdP
  rw [if_neg (by omega), if_neg (fun z => by rcases z with z | z; exact h2 z; rw [h3] at z; cases z), if_neg (fun z => by rcases z with z | z; omega; rw [h4] at z; cases z), if_pos h5]
theorem rdP_4 {tx : Nat → Nat} {ln r c f a : Nat} {kk : Nat → Nat} (h : a + 2 < ln) (hf : ln < a + 3 * f) (h2 : ltN (tx a) ≠ 0) (h3 : anyF r c kk = true) (h4 : rowF r c kk (dgN (tx (a + 1))) = true) (h5 : dgN (tx (a + 2)) < 13 ∧ freP r c kk (13 * dgN (tx (a + 1)) + dgN (tx (a + 2))) = true) : rdP tx ln r c f a kk = rdP tx ln r c (f - 1) (a + 3) (kU kk (13 * dgN (tx (a + 1)) + dgN (tx (a + 2))) (ltN (tx a))) := by
  obtain ⟨g, rfl⟩ : ∃ g, f = g + 1 := ⟨f - 1, by omega⟩
  conv => lhs; unfold rdP
  rw [if_neg (by omega), if_neg (fun z => by rcases z with z | z; exact h2 z; rw [h3] at z; cases z), if_neg (fun z => by rcases z with z | z; omega; rw [h4] at z; cases z), if_neg (fun z => by rcases z with z | z; omega; exact z h5)]
  rfl
theorem rowF_lt {r c : Nat} (hR : RC r c) {kk : Nat → Nat} {y : Nat} (h : rowF r c kk y = true) : y < 13 := by
  unfold rowF at h
  obtain ⟨x, hx, hf⟩ := fb_ct_pos.mp (of_decide_eq_true h)
  have hf2 : freP r c kk (13 * y + x) = true := hf
  unfold freP at hf2
  have := inn_lt hR (Bool.and_eq_true_iff.mp hf2).1
  omega
set_option maxHeartbeats 2000000 in
theorem s_readInto {tx : Nat → Nat} {ln : Nat} (hln : ln ≤ 72) (htx : ∀ j, j < ln → tx j < 256) {sg_ : Nat → Int32} (hf : TxR tx ln sg_) {sr sk sy f1 f2 f3 : Int32} {f4 f5 f6 : Nat → Int32} {Q : Int32 → Int32 → Int32 → Int32 → Int32 → Int32 → Int32 → (Nat → Int32) → (Nat → Int32) → (Nat → Int32) → Prop}
    (h : ∀ sr' sk' sy' f1' f2' f3' f4' f5' f6', ((rdT tx ln).1 = -9 → RC (rdT tx ln).2.1 (rdT tx ln).2.2.1 ∧ (∀ p, (rdT tx ln).2.2.2 p ≤ 3) ∧ PlR (rdT tx ln).2.1 (rdT tx ln).2.2.1 (rdT tx ln).2.2.2 f1' f2' f3' f4' f5' f6') → Q (rdT tx ln).1 sr' sk' sy' f1' f2' f3' f4' f5' f6') : wX4_readInto (nI ln) sg_ sr sk sy f1 f2 f3 f4 f5 f6 Q := by
  unfold wX4_readInto lX4_readInto_2
  refine lp_up (fun i a => a.1 = nI i ∧ RdI tx ln i a.2.1 a.2.2.1 a.2.2.2.1 a.2.2.2.2.1 a.2.2.2.2.2.1 a.2.2.2.2.2.2.1 a.2.2.2.2.2.2.2.1 a.2.2.2.2.2.2.2.2.1 a.2.2.2.2.2.2.2.2.2) ln ?_ FU 0 _ ⟨rfl, Or.inl rfl⟩ (Nat.zero_le _) (FU_of (by omega))
  rintro RR i ⟨x1, sr, sk, sy, f1, f2, f3, f4, f5, f6⟩ ⟨e1, hI⟩ hi hRR
  dsimp only at e1 hI ⊢
  subst e1
  -- a fault at i: what is told
  have flt : ∀ {sr' sk' sy' f1' f2' f3' : Int32} {f4' f5' f6' : Nat → Int32}, i < 2 ^ 31 → (rdT tx ln).1 = nI i → Q (nI i) sr' sk' sy' f1' f2' f3' f4' f5' f6' := by
    intro sr' sk' sy' f1' f2' f3' f4' f5' f6' h31 e
    have := h sr' sk' sy' f1' f2' f3' f4' f5' f6' (fun z => absurd (e.symm.trans z) (neg_ne h31 (by decide)))
    rw [e] at this
    exact this
  unfold bX4_readInto_2
  by_cases q : i < ln
  · rw [if_neg (nI_ge q (by omega)), l72, if_neg (nI_ge (by omega) (by omega)), l3]
    have hs : sg_ i = nI (tx i) := hf i q
    have h256 := htx i q
    have hstop : ∀ {sr' sk' sy' f1' f2' f3' : Int32} {f4' f5' f6' : Nat → Int32}, (rdT tx ln).1 = nI i → wX4_readInto_J48 Q (fun x2_2 t_r__2 t_kind__2 t_y__2 p_down__2 p_across__2 p_inner__2 p_points__2 p_kinds__2 p_numbers__2 => RR (x2_2, t_r__2, t_kind__2, t_y__2, p_down__2, p_across__2, p_inner__2, p_points__2, p_kinds__2, p_numbers__2)) (nI i) 0 sr' sk' sy' f1' f2' f3' f4' f5' f6' := by
      intro sr' sk' sy' f1' f2' f3' f4' f5' f6' e
      unfold wX4_readInto_J48
      rw [if_pos rfl]
      exact flt (by omega) e
    have hgo : ∀ {sr' sk' sy' f1' f2' f3' : Int32} {f4' f5' f6' : Nat → Int32}, RdI tx ln (i + 1) sr' sk' sy' f1' f2' f3' f4' f5' f6' → wX4_readInto_J48 Q (fun x2_2 t_r__2 t_kind__2 t_y__2 p_down__2 p_across__2 p_inner__2 p_points__2 p_kinds__2 p_numbers__2 => RR (x2_2, t_r__2, t_kind__2, t_y__2, p_down__2, p_across__2, p_inner__2, p_points__2, p_kinds__2, p_numbers__2)) (nI i) 1 sr' sk' sy' f1' f2' f3' f4' f5' f6' := by
      intro sr' sk' sy' f1' f2' f3' f4' f5' f6' hI'
      unfold wX4_readInto_J48
      rw [if_neg (by decide), nI_1]
      exact hRR q _ ⟨rfl, hI'⟩
    rcases hI with rfl | ⟨rfl, g1, g2⟩ | ⟨rfl, g1, g2, g3, g4, g5⟩ | ⟨g1, g2, g3, g4, g5, g6, f, a, kk, hk3, hPl, hfu, ha3, ha33, hrd, hph⟩
    · -- the first sign
      rw [if_neg (nI_ge (by omega) (by omega))]
      refine ⟨vp_in_nI (by omega) (by omega), ?_⟩
      rw [nI_clamp (by omega), hs]
      unfold wX4_readHead
      rw [if_pos (by rfl), l78]
      by_cases z : tx 0 = 78
      · rw [if_pos (by rw [z])]
        exact hgo (Or.inr (Or.inl ⟨rfl, q, z⟩))
      · rw [if_neg (fun e => z (nI_inj (by omega) (by omega) e))]
        refine hstop ?_
        unfold rdT
        rw [if_pos (Or.inr z)]; rfl
    · -- R
      rw [if_neg (nI_ge (by omega) (by omega))]
      refine ⟨vp_in_nI (by omega) (by omega), ?_⟩
      rw [nI_clamp (by omega), hs]
      unfold wX4_readHead
      rw [if_neg (by decide)]
      refine s_digit h256 ?_
      have hno : ¬ (1 ≤ dgN (tx 1) ∧ dgN (tx 1) ≤ 6) → (rdT tx ln).1 = nI 1 := by
        intro z
        unfold rdT
        rw [if_neg (by omega), if_pos (Or.inr z)]; rfl
      refine s_isSq (fun z => ?_) (fun n z => ?_)
      · rw [if_pos rfl]
        refine hstop (hno (fun w => ?_))
        rw [dgI_lt (by omega), sqI_nI w.1 w.2] at z
        cases z
      · rw [if_neg (by decide), if_pos (by rfl)]
        obtain ⟨z1, z2, z3⟩ := sqI_some z
        have h31 : ¬ dgN (tx 1) = 31 := by
          intro w
          unfold dgI at z1
          rw [if_pos w] at z1
          exact neg_ne' (by omega) (by decide) z1
        have e : dgN (tx 1) = n := by
          have := dgN_lim (tx 1)
          unfold dgI at z1
          rw [if_neg h31] at z1
          exact nI_inj (by omega) (by omega) z1
        refine hgo (Or.inr (Or.inr (Or.inl ⟨rfl, q, g2, by omega, by omega, ?_⟩)))
        exact dgI_lt (by omega)
    · -- C
      rw [if_neg (nI_ge (by omega) (by omega))]
      refine ⟨vp_in_nI (by omega) (by omega), ?_⟩
      rw [nI_clamp (by omega), hs]
      unfold wX4_readHead
      rw [if_neg (by decide)]
      refine s_digit h256 ?_
      have hno : ¬ (1 ≤ dgN (tx 2) ∧ dgN (tx 2) ≤ 6) → (rdT tx ln).1 = nI 2 := by
        intro z
        unfold rdT
        rw [if_neg (by omega), if_neg (by omega), if_pos (Or.inr z)]; rfl
      refine s_isSq (fun z => ?_) (fun n z => ?_)
      · rw [if_pos rfl]
        refine hstop (hno (fun w => ?_))
        rw [dgI_lt (by omega), sqI_nI w.1 w.2] at z
        cases z
      · rw [if_neg (by decide), if_neg (by decide)]
        obtain ⟨z1, z2, z3⟩ := sqI_some z
        have h31 : ¬ dgN (tx 2) = 31 := by
          intro w
          unfold dgI at z1
          rw [if_pos w] at z1
          exact neg_ne' (by omega) (by decide) z1
        have e : dgN (tx 2) = n := by
          have := dgN_lim (tx 2)
          unfold dgI at z1
          rw [if_neg h31] at z1
          exact nI_inj (by omega) (by omega) z1
        rw [g5, dgI_lt (by omega)]
        refine s_spread ⟨g3, g4, by omega, by omega⟩ (fun pts' kinds' nums' hP => ?_)
        refine hgo (Or.inr (Or.inr (Or.inr ⟨q, g2, g3, g4, by omega, by omega, 30, 3, fun _ => 0, fun _ => Nat.zero_le _, hP, by omega, rfl, Nat.le_refl _, rfl, Or.inl rfl⟩)))
    · -- the parts
      have hR : RC (dgN (tx 1)) (dgN (tx 2)) := ⟨g3, g4, g5, g6⟩
      have hT := rdT_3 g1 g2 g3 g4 g5 g6
      have hT1 : (rdT tx ln).1 = (rdP tx ln (dgN (tx 1)) (dgN (tx 2)) f a kk).1 := by rw [hT, hrd]
      have hi3 : 3 ≤ i := by omega
      rw [if_pos (nI_le hi3 (by omega))]
      refine ⟨vp_in_nI (by omega) (by omega), ?_⟩
      rw [nI_clamp (by omega), hs]
      unfold wX4_readPart
      rw [l3, jr_nI (by omega) (by omega) (by omega)]
      rcases hph with rfl | ⟨rfl, w1, w2, w3, w4⟩ | ⟨rfl, w1, w2, w3, w4, w5, w6⟩
      · -- the letter
        rw [ha3, if_pos (by rfl)]
        refine s_kindBy h256 ?_
        by_cases z : ltN (tx i) = 0
        · rw [if_pos z, if_pos rfl]
          exact hstop (hT1.trans (rdP_1 q hfu (Or.inl z)))
        · have h3 := ltN_3 (tx i)
          rw [if_neg z, if_neg (neg_ne (by omega) (by decide))]
          refine s_countKind (v := 0) hR hk3 hPl (by omega) ?_
          have hct : kcE (dgN (tx 1)) (dgN (tx 2)) kk 0 = nI (fb_ct (freP (dgN (tx 1)) (dgN (tx 2)) kk) 169) := kcE_ct _ _ _ _
          have hle := fb_ct_le (freP (dgN (tx 1)) (dgN (tx 2)) kk) 169
          rw [hct]
          cases hany : anyF (dgN (tx 1)) (dgN (tx 2)) kk with
          | true =>
            have hpos : 0 < fb_ct (freP (dgN (tx 1)) (dgN (tx 2)) kk) 169 := of_decide_eq_true hany
            rw [if_neg (nI_nle hpos (by omega))]
            exact hgo (Or.inr (Or.inr (Or.inr ⟨g1, g2, g3, g4, g5, g6, f, i, kk, hk3, hPl, hfu, ha3, hi3, hrd, Or.inr (Or.inl ⟨rfl, q, z, hany, rfl⟩)⟩)))
          | false =>
            have hpos : ¬ 0 < fb_ct (freP (dgN (tx 1)) (dgN (tx 2)) kk) 169 := of_decide_eq_false hany
            rw [show fb_ct (freP (dgN (tx 1)) (dgN (tx 2)) kk) 169 = 0 by omega, if_pos (by decide)]
            exact hstop (hT1.trans (rdP_1 q hfu (Or.inr hany)))
      · -- the row
        rw [show (a + 1) % 3 = 1 by omega, if_neg (by decide), if_pos (by rfl)]
        refine s_digit h256 (s_hasPlain hR hk3 hPl ⟨isB_b _, ?_⟩)
        cases hrow : rowF (dgN (tx 1)) (dgN (tx 2)) kk (dgN (tx (a + 1))) with
        | true =>
          exact hgo (Or.inr (Or.inr (Or.inr ⟨g1, g2, g3, g4, g5, g6, f, a, kk, hk3, hPl, hfu, ha3, by omega, hrd, Or.inr (Or.inr ⟨rfl, q, w2, w3, w4, hrow, rfl⟩)⟩)))
        | false =>
          exact hstop (hT1.trans (rdP_2 w1 hfu w2 w3 (Or.inr hrow)))
      · -- the column
        rw [show (a + 2) % 3 = 2 by omega, if_neg (by decide), if_neg (by decide)]
        refine s_digit h256 ?_
        have hy := rowF_lt hR w5
        have hlt3 := ltN_3 (tx a)
        rw [w6, dgI_lt hy]
        by_cases hx : dgN (tx (a + 2)) < 13
        · rw [dgI_lt hx]
          refine s_numberAt hR hPl (by omega) (by omega) ?_
          by_cases hin : inYX (dgN (tx 1)) (dgN (tx 2)) (dgN (tx (a + 1))) (dgN (tx (a + 2)))
          · have hii : inn (dgN (tx 1)) (dgN (tx 2)) (13 * dgN (tx (a + 1)) + dgN (tx (a + 2))) = true := (inn_yx hx).mpr hin
            have h60 := cnt_60 hR hii
            rw [numv_in hin, if_neg (nI_pos (by omega))]
            refine s_kindP hR hPl hii ?_
            have hkp := hk3 (13 * dgN (tx (a + 1)) + dgN (tx (a + 2)))
            by_cases hk0 : kk (13 * dgN (tx (a + 1)) + dgN (tx (a + 2))) = 0
            · rw [if_pos (by rw [hk0]; rfl), w4]
              refine s_put hR hPl hii (fun kinds' hP' => ?_)
              have hfre : freP (dgN (tx 1)) (dgN (tx 2)) kk (13 * dgN (tx (a + 1)) + dgN (tx (a + 2))) = true := by unfold freP; rw [hii, hk0]; rfl
              refine hgo (Or.inr (Or.inr (Or.inr ⟨g1, g2, g3, g4, g5, g6, f - 1, a + 3, _, kU_3 hk3 hlt3, hP', by omega, by omega, by omega, ?_, Or.inl rfl⟩)))
              rw [← hrd]
              exact (rdP_4 q hfu w2 w3 w5 ⟨hx, hfre⟩).symm
            · rw [if_neg (nI_ne0 (by omega) (by omega))]
              refine hstop (hT1.trans (rdP_3 w1 hfu w2 w3 w5 (Or.inr (fun z => ?_))))
              have := z.2
              unfold freP at this
              rw [decide_eq_false hk0, Bool.and_false] at this
              cases this
          · rw [numv_out hin, if_pos (by decide)]
            refine hstop (hT1.trans (rdP_3 w1 hfu w2 w3 w5 (Or.inr (fun z => ?_))))
            have := z.2
            unfold freP at this
            rw [inn_no hx hin, Bool.false_and] at this
            cases this
        · have h31 : dgN (tx (a + 2)) = 31 := by
            have := dgN_lim (tx (a + 2))
            omega
          have e9 : dgI (tx (a + 2)) = -9 := by unfold dgI; rw [if_pos h31]
          rw [e9]
          refine s_numberAt_neg (Or.inr (by decide)) ?_
          rw [if_pos (by decide)]
          exact hstop (hT1.trans (rdP_3 w1 hfu w2 w3 w5 (Or.inr (fun z => hx z.1))))
  · -- the end
    rw [if_pos (nI_le (by omega) (by omega))]
    have : i = ln := by omega
    subst this
    unfold wX4_readInto_X61
    have hq : ∀ {P : Int32 → Prop}, (i = 0 → P (nI i)) → (0 < i → i % 3 ≠ 0 → P (nI i)) → (0 < i → i % 3 = 0 → P (-9)) → P (if (if nI i ≤ 0 then (0 : Int32) else if jr (nI i) 3 = 0 then 1 else 0) = 0 then nI i else -9) := by
      intro P p1 p2 p3
      by_cases z : i = 0
      · subst z
        rw [if_pos (by decide)]
        exact p1 rfl
      · rw [if_neg (nI_nle (by omega) (by omega)), l3, jr_nI (by omega) (by omega) (by omega)]
        by_cases y : i % 3 = 0
        · have e : (if nI 0 = 0 then (1 : Int32) else 0) = 1 := rfl
          rw [y, e, if_neg (by decide)]
          exact p3 (by omega) y
        · rw [if_neg (nI_ne0 (by omega) (by omega)), if_pos rfl]
          exact p2 (by omega) y
    rcases hI with rfl | ⟨rfl, g1, g2⟩ | ⟨rfl, g1, g2, g3, g4, g5⟩ | ⟨g1, g2, g3, g4, g5, g6, f, a, kk, hk3, hPl, hfu, ha3, ha33, hrd, hph⟩
    · exact hq (P := fun v => Q v sr sk sy f1 f2 f3 f4 f5 f6) (fun _ => flt (by omega) (by unfold rdT; rw [if_pos (Or.inl rfl)]; rfl)) (fun w _ => by omega) (fun w _ => by omega)
    · refine hq (P := fun v => Q v sr sk sy f1 f2 f3 f4 f5 f6) (fun w => by omega) (fun _ _ => flt (by omega) ?_) (fun _ w => by omega)
      unfold rdT
      rw [if_neg (by omega), if_pos (Or.inl (Nat.le_refl _))]; rfl
    · refine hq (P := fun v => Q v sr sk sy f1 f2 f3 f4 f5 f6) (fun w => by omega) (fun _ _ => flt (by omega) ?_) (fun _ w => by omega)
      unfold rdT
      rw [if_neg (by omega), if_neg (by omega), if_pos (Or.inl (Nat.le_refl _))]; rfl
    · have hR : RC (dgN (tx 1)) (dgN (tx 2)) := ⟨g3, g4, g5, g6⟩
      have hT := rdT_3 g1 g2 g3 g4 g5 g6
      have hT1 : (rdT tx i).1 = (rdP tx i (dgN (tx 1)) (dgN (tx 2)) f a kk).1 := by rw [hT, hrd]
      refine hq (P := fun v => Q v sr sk sy f1 f2 f3 f4 f5 f6) (fun w => by omega) (fun w1 w2 => flt (by omega) (hT1.trans ?_)) (fun w1 w2 => ?_)
      · rcases hph with y | ⟨y, v1, v2, v3, v4⟩ | ⟨y, v1, v2, v3, v4, v5, v6⟩
        · omega
        · rw [y]
          exact rdP_2 (by omega) (by omega) v2 v3 (Or.inl (Nat.le_refl _))
        · rw [y]
          exact rdP_3 (by omega) (by omega) v2 v3 v5 (Or.inl (Nat.le_refl _))
      · have y : i = a := by
          rcases hph with y | ⟨y, -⟩ | ⟨y, -⟩ <;> omega
        subst y
        have e := rdP_0 (tx := tx) (ln := i) (r := dgN (tx 1)) (c := dgN (tx 2)) (f := f) (a := i) (kk := kk) (Nat.le_refl _)
        rw [e] at hrd
        have hT2 : rdT tx i = (-9, dgN (tx 1), dgN (tx 2), kk) := by rw [hT, ← hrd]
        rw [hT2] at h
        exact h sr sk sy f1 f2 f3 f4 f5 f6 (fun _ => ⟨hR, hk3, hPl⟩)
