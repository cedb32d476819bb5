/-! the model reads THE TEXT -/
def bmF (f : Nat → Bool) : Nat → Nat
  | 0 => 0
  | n + 1 => bmF f n ||| (if f n = true then 2 ^ n else 0)
theorem bmF_bit (f : Nat → Bool) : ∀ n i, (bmF f n).testBit i = (decide (i < n) && f i) := by
  intro n
  induction n with
  | zero => intro i; simp [bmF]
  | succ n ih =>
    intro i
    show (bmF f n ||| (if f n = true then 2 ^ n else 0)).testBit i = _
    rw [Nat.testBit_or, ih]
    have h0 : (if f n = true then 2 ^ n else 0).testBit i = (f n && decide (n = i)) := by
      cases f n
      · simp
      · simp [Nat.testBit_two_pow]
    rw [h0]
    by_cases z : i = n
    · subst z; simp
    · by_cases y : i < n
      · simp [y, show i < n + 1 by omega, show ¬ n = i by omega]
      · simp [y, show ¬ i < n + 1 by omega, show ¬ n = i by omega]
theorem bmF_lt (f : Nat → Bool) : ∀ n, bmF f n < 2 ^ n := by
  intro n
  induction n with
  | zero => exact Nat.one_pos
  | succ n ih =>
    have h1 : (if f n = true then 2 ^ n else 0) < 2 ^ (n + 1) := by
      split
      · rw [Nat.pow_succ]; have := Nat.two_pow_pos n; omega
      · exact Nat.two_pow_pos _
    exact Nat.or_lt_two_pow (by rw [Nat.pow_succ]; omega) h1
theorem bmF_z (f : Nat → Bool) (n : Nat) : bmF f n = 0 ↔ ∀ i, i < n → f i = false := by
  constructor
  · intro h i hi
    have := bmF_bit f n i
    rw [h] at this
    simp [hi] at this
    exact this
  · intro h
    apply Nat.eq_of_testBit_eq
    intro i
    rw [bmF_bit]
    by_cases z : i < n
    · simp [h i z]
    · simp [z]
theorem orNI (a b : Nat) : nI a ||| nI b = nI (a ||| b) := by
  apply Int32.toBitVec_inj.mp
  show BitVec.ofNat 32 a ||| BitVec.ofNat 32 b = BitVec.ofNat 32 (a ||| b)
  apply BitVec.eq_of_getLsbD_eq
  intro i hi
  rw [BitVec.getLsbD_or, BitVec.getLsbD_ofNat, BitVec.getLsbD_ofNat, BitVec.getLsbD_ofNat, Nat.testBit_or]
  simp [hi]
theorem shl_tab : ∀ x, x < 13 → (1 : Int32) <<< (nI x &&& 31) = nI (2 ^ x) := by decide
theorem smod_tab : ∀ d, d < 32 → ((nI d &&& 31).toBitVec.smod 32).toNat = d := by decide
theorem bit_I {A d : Nat} (hA : A < 2 ^ 13) (hd : d < 32) : ((nI A >>> (nI d &&& 31)) &&& 1 = 0) ↔ A.testBit d = false := by
  rw [pk_shrN (by omega) _ d (smod_tab d hd)]
  have h1 : A / 2 ^ d ≤ A := Nat.div_le_self _ _
  rw [pk_andN (m := 1) (by omega) 1 (by decide), Nat.testBit_eq_decide_div_mod_eq]
  have h2 : A / 2 ^ d % 2 ^ 1 < 2 := Nat.mod_lt _ (by decide)
  have h3 : A / 2 ^ d % 2 ^ 1 = A / 2 ^ d % 2 := by rfl
  rw [h3] at h2 ⊢
  have h4 : nI (A / 2 ^ d % 2) = 0 ↔ A / 2 ^ d % 2 = 0 := nI_eq (b := 0) (by omega) (by omega)
  rw [h4]
  constructor
  · intro z; rw [z]; rfl
  · intro z
    have := of_decide_eq_false z
    omega
def RdR (kk : Nat → Nat) (read told : Nat → Int32) : Prop := ∀ p, p < 169 → read p = nI (kk p) ∧ told p = bI (!decide (kk p = 0))
theorem m_freeOf {r c : Nat} (hR : RC r c) {kk : Nat → Nat} {read told : Nat → Int32} (hr : RdR kk read told) {y : Nat} (hy : y < 32) {Q : Int32 → Prop} (h : Q (nI (bmF (fun x => freP r c kk (13 * y + x)) 13))) : wX6_freeOf (nI r) (nI c) told (nI y) Q := by
  unfold wX6_freeOf lX6_freeOf_4
  refine lp_up (fun i a => a.1 = nI (bmF (fun x => freP r c kk (13 * y + x)) i) ∧ a.2 = nI i) 13 ?_ FU 0 _ ⟨rfl, rfl⟩ (Nat.zero_le _) (FU_of (by omega))
  rintro RR i ⟨x1, x2⟩ ⟨e1, e2⟩ hi hRR
  dsimp only at e1 e2 ⊢
  subst e1; subst e2
  unfold bX6_freeOf_4
  rw [l13]
  by_cases q : i < 13
  · rw [if_neg (nI_ge q (by omega)), nI_1]
    refine m_isInner hR (by omega) (by omega) ?_
    have hb : bmF (fun x => freP r c kk (13 * y + x)) (i + 1) = bmF (fun x => freP r c kk (13 * y + x)) i ||| (if freP r c kk (13 * y + i) = true then 2 ^ i else 0) := rfl
    by_cases z : inYX r c y i
    · have hl := inYX_lt hR z
      have hin : inn r c (13 * y + i) = true := (inn_yx q).mpr z
      rw [decide_eq_true z, bI_t, if_neg (by decide), pk_mul, nI_add]
      refine ⟨vp_in_nI hl.2.2 (by omega), ?_⟩
      rw [nI_clamp (by omega), (hr _ hl.2.2).2]
      refine hRR q _ ⟨?_, rfl⟩
      show nI _ ||| (if bI (!decide (kk (13 * y + i) = 0)) = 0 then (1 : Int32) <<< (nI i &&& 31) else 0) = _
      rw [hb, ← orNI]
      congr 1
      unfold freP
      rw [hin, Bool.true_and]
      by_cases w : kk (13 * y + i) = 0
      · rw [decide_eq_true w, if_pos rfl]
        exact shl_tab i q
      · rw [decide_eq_false w, if_neg (by decide), if_neg (by decide)]; rfl
    · rw [decide_eq_false z, bI_f, if_pos rfl]
      refine hRR q _ ⟨?_, rfl⟩
      show nI _ ||| 0 = _
      rw [hb, l0, orNI]
      unfold freP
      rw [inn_no q z, Bool.false_and, if_neg (by decide)]
  · rw [if_pos (nI_le (by omega) (by omega))]
    have : i = 13 := by omega
    subst this
    exact h
theorem m_figJ {A a s : Nat} {fa : Int32} (hA : A < 2 ^ 13) (hs : s < 256) {Q : Int32 → Int32 → Int32 → Prop} (h1 : A.testBit (dgN s) = false → Q 0 (nI a) (if fa = -9 then nI a else fa)) (h2 : A.testBit (dgN s) = true → Q (nI (dgN s)) (nI (a + 1)) fa) : wX6_figure_J33 (nI a) fa (nI A) Q (nI s) := by
  have hd := dgN_lim s
  have h31 : A.testBit 31 = false := Nat.testBit_lt_two_pow (Nat.lt_of_lt_of_le hA (Nat.pow_le_pow_right (by decide) (by decide)))
  have hv0 : ¬ (48 ≤ s ∧ s ≤ 57) → (if nI s = 97 then (10 : Int32) else if nI s = 98 then 11 else 31) = nI (dgN s) := by
    intro z
    unfold dgN
    rw [if_neg z, l97, l98]
    by_cases z1 : s = 97
    · rw [if_pos (show nI s = nI 97 by rw [z1]), if_pos z1]; rfl
    · rw [if_neg (fun e => z1 (nI_inj (by omega) (by omega) e)), if_neg z1]
      by_cases z2 : s = 98
      · rw [if_pos (show nI s = nI 98 by rw [z2]), if_pos z2]; rfl
      · rw [if_neg (fun e => z2 (nI_inj (by omega) (by omega) e)), if_neg z2]; rfl
  have hv1 : (48 ≤ s ∧ s ≤ 57) → nI s - 48 = nI (dgN s) := by
    intro z
    unfold dgN
    rw [if_pos z, l48, pk_sub z.1]
  have tail : (if nI (dgN s) = 31 then wX6_figure_J94 (nI a) fa Q else if (nI A >>> (nI (dgN s) &&& 31)) &&& 1 = 0 then wX6_figure_J94 (nI a) fa Q else Q (nI (dgN s)) (nI a + 1) fa) := by
    by_cases w : dgN s = 31
    · rw [if_pos (by rw [w]; rfl)]
      rw [w] at h1
      exact h1 h31
    · rw [if_neg (show ¬ nI (dgN s) = 31 from fun e => w (nI_inj (b := 31) (by omega) (by omega) e))]
      cases hb : A.testBit (dgN s) with
      | false =>
        rw [if_pos ((bit_I hA (by omega)).mpr hb)]
        exact h1 hb
      | true =>
        rw [if_neg (fun e => by rw [(bit_I hA (by omega)).mp e] at hb; cases hb), nI_1]
        exact h2 hb
  unfold wX6_figure_J33
  refine m_rg 48 57 (by decide) (by decide) (by omega) (by omega) (fun y => ?_) (fun n y => ?_)
  · rw [rgI_nI (by omega)] at y
    have z : ¬ (48 ≤ s ∧ s ≤ 57) := fun z => by rw [if_pos z] at y; cases y
    rw [if_pos (show (0 : Int32) = 0 from rfl), hv0 z]
    exact tail
  · rw [rgI_nI (by omega)] at y
    have z : 48 ≤ s ∧ s ≤ 57 := by
      by_cases z : 48 ≤ s ∧ s ≤ 57
      · exact z
      · rw [if_neg z] at y; cases y
    rw [if_neg (show ¬ (1 : Int32) = 0 by decide), hv1 z]
    exact tail
theorem m_figure {tx : Nat → Nat} {ln : Nat} (hln : ln ≤ 72) (htx : ∀ j, j < ln → tx j < 256) {f : Nat → Int32} (hf : TxR tx ln f) {A a : Nat} (hA : A < 2 ^ 13) (ha : a ≤ 100) {Q : Int32 → Int32 → Int32 → Prop} (h1 : (ln ≤ a ∨ A.testBit (dgN (tx a)) = false) → Q 0 (nI a) (nI a)) (h2 : a < ln → A.testBit (dgN (tx a)) = true → Q (nI (dgN (tx a))) (nI (a + 1)) (-9)) : wX6_figure f (nI ln) (nI a) (-9) (nI A) Q := by
  unfold wX6_figure
  rw [if_pos rfl]
  have h31 : A.testBit 31 = false := Nat.testBit_lt_two_pow (Nat.lt_of_lt_of_le hA (Nat.pow_le_pow_right (by decide) (by decide)))
  by_cases q : a < ln
  · rw [if_neg (nI_ge q (by omega))]
    refine ⟨vp_in_nI (by omega) (by omega), ?_⟩
    rw [nI_clamp (by omega), hf a q]
    refine m_figJ hA (htx a q) (fun z => ?_) (fun z => h2 q z)
    rw [if_pos rfl]
    exact h1 (Or.inr z)
  · rw [if_pos (nI_le (by omega) (by omega))]
    refine m_figJ (s := 0) hA (by omega) (fun z => ?_) (fun z => ?_)
    · rw [if_pos rfl]
      exact h1 (Or.inl (by omega))
    · rw [show dgN 0 = 31 from rfl, h31] at z
      cases z
theorem m_figureF {f : Nat → Int32} {ln A a b : Nat} (hA : A < 2 ^ 13) (hb : b < 2 ^ 31) {Q : Int32 → Int32 → Int32 → Prop} (h : Q 0 (nI a) (nI b)) : wX6_figure f (nI ln) (nI a) (nI b) (nI A) Q := by
  unfold wX6_figure
  have h31 : A.testBit 31 = false := Nat.testBit_lt_two_pow (Nat.lt_of_lt_of_le hA (Nat.pow_le_pow_right (by decide) (by decide)))
  rw [if_neg (neg_ne hb (by decide))]
  refine m_figJ (s := 0) hA (by omega) (fun z => ?_) (fun z => ?_)
  · rw [if_neg (neg_ne hb (by decide))]
    exact h
  · rw [show dgN 0 = 31 from rfl, h31] at z
    cases z
theorem row_mask {r c : Nat} (kk : Nat → Nat) (y : Nat) : (bmF (fun x => freP r c kk (13 * y + x)) 13 = 0) ↔ rowF r c kk y = false := by
  rw [bmF_z]
  unfold rowF
  constructor
  · intro h
    exact decide_eq_false (fun z => by rw [fb_ct_zero.mpr h] at z; exact absurd z (Nat.lt_irrefl 0))
  · intro h
    have := of_decide_eq_false h
    exact fb_ct_zero.mp (by omega)
theorem any_mask {r c : Nat} (hR : RC r c) (kk : Nat → Nat) : (bmF (rowF r c kk) 13 = 0) ↔ anyF r c kk = false := by
  rw [bmF_z]
  unfold anyF
  constructor
  · intro h
    refine decide_eq_false (fun z => ?_)
    obtain ⟨p, hp, hf⟩ := fb_ct_pos.mp z
    have h1 := h (p / 13) (by omega)
    unfold rowF at h1
    exact of_decide_eq_false h1 (fb_ct_pos.mpr ⟨p % 13, Nat.mod_lt _ (by decide), by show freP r c kk (13 * (p / 13) + p % 13) = true; rw [show 13 * (p / 13) + p % 13 = p by omega]; exact hf⟩)
  · intro h y hy
    have h2 := of_decide_eq_false h
    unfold rowF
    refine decide_eq_false (fun z => h2 ?_)
    obtain ⟨x, hx, hf⟩ := fb_ct_pos.mp z
    exact fb_ct_pos.mpr ⟨13 * y + x, by omega, hf⟩
theorem m_rows {r c : Nat} (hR : RC r c) {kk : Nat → Nat} {read told : Nat → Int32} (hr : RdR kk read told) {K : Int32 → Prop} (h : K (nI (bmF (rowF r c kk) 13))) : lX6_readPart_4 (nI r) (nI c) told K FU 0 0 := by
  unfold lX6_readPart_4
  refine lp_up (fun i a => a.1 = nI (bmF (rowF r c kk) i) ∧ a.2 = nI i) 13 ?_ FU 0 _ ⟨rfl, rfl⟩ (Nat.zero_le _) (FU_of (by omega))
  rintro RR i ⟨x1, x2⟩ ⟨e1, e2⟩ hi hRR
  dsimp only at e1 e2 ⊢
  subst e1; subst e2
  unfold bX6_readPart_4
  rw [l13]
  by_cases q : i < 13
  · rw [if_neg (nI_ge q (by omega)), nI_1]
    refine m_freeOf hR hr (by omega) ?_
    refine hRR q _ ⟨?_, rfl⟩
    show nI _ ||| (if nI (bmF (fun x => freP r c kk (13 * i + x)) 13) = 0 then (0 : Int32) else (1 : Int32) <<< (nI i &&& 31)) = nI (bmF (rowF r c kk) i ||| (if rowF r c kk i = true then 2 ^ i else 0))
    rw [← orNI]
    congr 1
    have hlt := bmF_lt (fun x => freP r c kk (13 * i + x)) 13
    have hm := row_mask (r := r) (c := c) kk i
    cases hw : rowF r c kk i with
    | false =>
      rw [hm.mpr hw, if_pos (by decide), if_neg (by decide)]; rfl
    | true =>
      have hne : bmF (fun x => freP r c kk (13 * i + x)) 13 ≠ 0 := fun z => by rw [hm.mp z] at hw; cases hw
      rw [if_neg (nI_ne0 (by omega) (by omega)), if_pos rfl]
      exact shl_tab i q
  · rw [if_pos (nI_le (by omega) (by omega))]
    have : i = 13 := by omega
    subst this
    exact h
theorem RdR.put {kk : Nat → Nat} {read told : Nat → Int32} (hr : RdR kk read told) {p v : Nat} (hv : v ≠ 0) : RdR (kU kk p v) (upd read p (nI v)) (upd told p 1) := by
  intro q hq
  rw [upd_e, upd_e]
  unfold kU
  by_cases z : q = p
  · rw [if_pos z, if_pos z, if_pos z, decide_eq_false hv]; exact ⟨rfl, rfl⟩
  · rw [if_neg z, if_neg z, if_neg z]; exact hr q hq
theorem bit_lt12 {f : Nat → Bool} {s : Nat} (h : (bmF f 13).testBit (dgN s) = true) : dgN s < 12 ∧ f (dgN s) = true := by
  rw [bmF_bit] at h
  obtain ⟨h1, h2⟩ := Bool.and_eq_true_iff.mp h
  have := of_decide_eq_true h1
  have := dgN_lim s
  exact ⟨by omega, h2⟩
set_option maxHeartbeats 1000000 in
theorem m_readPart {r c : Nat} (hR : RC r c) {tx : Nat → Nat} {ln : Nat} (hln : ln ≤ 72) (htx : ∀ j, j < ln → tx j < 256) {f : Nat → Int32} (hf : TxR tx ln f) {kk : Nat → Nat} {read told : Nat → Int32} (hr : RdR kk read told) {a fu : Nat} (ha : a < ln) (hfu : ln < a + 3 * fu) {Q : (Nat → Int32) → (Nat → Int32) → Int32 → Int32 → Prop}
    (h1 : ∀ b rd td ab, b ≤ a + 2 → (rdP tx ln r c fu a kk).1 = nI b → Q rd td ab (nI b)) (h2 : ∀ kk' rd td, (∀ p, kk p ≤ 3) → (∀ p, kk' p ≤ 3) → RdR kk' rd td → a + 3 ≤ ln → rdP tx ln r c fu a kk = rdP tx ln r c (fu - 1) (a + 3) kk' → Q rd td (nI (a + 3)) (-9)) (hk3 : ∀ p, kk p ≤ 3) : wX6_readPart (nI r) (nI c) read told f (nI ln) (nI a) (-9) (nI (tx a)) Q := by
  unfold wX6_readPart
  refine m_rows hR hr ?_
  unfold wX6_readPart_X34
  have h256 := htx a ha
  have hlt : (if nI (tx a) = 72 then (1 : Int32) else if nI (tx a) = 86 then 2 else if nI (tx a) = 79 then 3 else -9) = if ltN (tx a) = 0 then -9 else nI (ltN (tx a)) := by
    have l72' : (72 : Int32) = nI 72 := rfl
    have l79' : (79 : Int32) = nI 79 := rfl
    have l86' : (86 : Int32) = nI 86 := rfl
    rw [l72', l79', l86']
    generalize tx a = s at h256
    unfold ltN
    by_cases q1 : s = 72
    · rw [if_pos (by rw [q1])]; subst q1; rfl
    · rw [if_neg (fun z => q1 (nI_inj (by omega) (by omega) z)), if_neg q1]
      by_cases q2 : s = 86
      · rw [if_pos (by rw [q2])]; subst q2; rfl
      · rw [if_neg (fun z => q2 (nI_inj (by omega) (by omega) z)), if_neg q2]
        by_cases q3 : s = 79
        · rw [if_pos (by rw [q3])]; subst q3; rfl
        · rw [if_neg (fun z => q3 (nI_inj (by omega) (by omega) z)), if_neg q3]; rfl
  rw [hlt]
  by_cases z : ltN (tx a) = 0
  · rw [if_pos z, if_pos rfl]
    exact h1 a _ _ _ (by omega) (rdP_1 ha hfu (Or.inl z))
  · have h3 := ltN_3 (tx a)
    rw [if_neg z, if_neg (neg_ne (by omega) (by decide))]
    have hrl := bmF_lt (rowF r c kk) 13
    cases hany : anyF r c kk with
    | false =>
      rw [(any_mask hR kk).mpr hany, if_pos (by decide)]
      exact h1 a _ _ _ (by omega) (rdP_1 ha hfu (Or.inr hany))
    | true =>
      have hne : bmF (rowF r c kk) 13 ≠ 0 := fun w => by rw [(any_mask hR kk).mp w] at hany; cases hany
      rw [if_neg (nI_ne0 (by omega) (by omega)), nI_1]
      refine m_figure hln htx hf hrl (by omega) (fun w => ?_) (fun w1 w2 => ?_)
      · -- no row
        have hfa : (rdP tx ln r c fu a kk).1 = nI (a + 1) := by
          refine rdP_2 ha hfu z hany ?_
          rcases w with w | w
          · exact Or.inl w
          · right
            rw [bmF_bit] at w
            rcases dgN_lim (tx (a + 1)) with y | y
            · cases hq : rowF r c kk (dgN (tx (a + 1))) with
              | false => rfl
              | true => exact absurd (rowF_lt hR hq) (by omega)
            · rw [decide_eq_true (show dgN (tx (a + 1)) < 13 by omega), Bool.true_and] at w
              exact w
        refine m_freeOf (y := 0) hR hr (by omega) ?_
        refine m_figureF (bmF_lt _ 13) (by omega) ?_
        refine ⟨show ¬ ((13 : Int32) * 0 + 0 < 0 ∨ 169 ≤ ((13 : Int32) * 0 + 0).toNatClampNeg) by decide, ?_⟩
        exact h1 (a + 1) _ _ _ (by omega) hfa
      · obtain ⟨y1, y2⟩ := bit_lt12 w2
        refine m_freeOf hR hr (by omega) ?_
        refine m_figure hln htx hf (bmF_lt _ 13) (by omega) (fun w => ?_) (fun w3 w4 => ?_)
        · -- no column
          have hfa : (rdP tx ln r c fu a kk).1 = nI (a + 2) := by
            refine rdP_3 w1 hfu z hany y2 ?_
            rcases w with w | w
            · exact Or.inl w
            · right
              intro x
              rw [bmF_bit, decide_eq_true x.1, Bool.true_and] at w
              rw [show freP r c kk (13 * dgN (tx (a + 1)) + dgN (tx (a + 2))) = false from w] at x
              cases x.2
          rw [l13, pk_mul, l0, nI_add]
          refine ⟨vp_in_nI (by omega) (by omega), ?_⟩
          exact h1 (a + 2) _ _ _ (by omega) hfa
        · obtain ⟨x1, x2⟩ := bit_lt12 w4
          have x1' : dgN (tx (a + 2)) < 12 := x1
          have hst := rdP_4 w3 hfu z hany y2 ⟨by omega, x2⟩
          have hp169 : 13 * dgN (tx (a + 1)) + dgN (tx (a + 2)) < 169 := by omega
          rw [l13, pk_mul, nI_add]
          refine ⟨vp_in_nI hp169 (by omega), ?_⟩
          rw [nI_clamp (by omega), vB isB_1]
          exact h2 _ _ _ hk3 (kU_3 hk3 h3) (hr.put z) (by omega) hst
