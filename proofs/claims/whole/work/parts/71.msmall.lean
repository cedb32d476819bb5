/-! the model: points, strands, signs -/
theorem i64_lt (x y : Int32) : (x.toInt64 < y.toInt64) = (x < y) := by
  apply propext
  rw [Int64.lt_iff_toInt_lt, Int32.lt_iff_toInt_lt, Int32.toInt_toInt64, Int32.toInt_toInt64]
theorem m_in {x lo hi : Int32} {Q : Int32 → Prop} (h : Q (if x < lo then 0 else if hi < x then 0 else 1)) : wX6_in x.toInt64 lo.toInt64 hi.toInt64 Q := by
  unfold wX6_in
  simp only [i64_lt]
  exact h
theorem in_rg {a b : Nat} (ha : a < 2 ^ 31) (hb : b < 2 ^ 31) (x : Int32) {Q : Int32 → Prop} (h1 : rgI a b x = none → Q 0) (h2 : ∀ n, rgI a b x = some n → Q 1) : Q (if x < nI a then 0 else if nI b < x then 0 else 1) := by
  rcases I_cases x with q | ⟨n, hn, rfl⟩
  · rw [if_pos (I_neg_lt q a ha)]
    exact h1 (rgI_neg q)
  · rw [rgI_nI hn] at h1 h2
    by_cases q1 : n < a
    · rw [if_pos (nI_lt q1 ha)]
      exact h1 (if_neg (by omega))
    · rw [if_neg (nI_nlt (by omega) hn)]
      by_cases q2 : b < n
      · rw [if_pos (nI_lt q2 hn)]
        exact h1 (if_neg (by omega))
      · rw [if_neg (nI_nlt (by omega) hb)]
        exact h2 n (if_pos ⟨by omega, by omega⟩)
/-- within a and b -/
theorem m_rg {x : Int32} {A B : Int64} (a b : Nat) (hA : A = (nI a).toInt64) (hB : B = (nI b).toInt64) (ha : a < 2 ^ 31) (hb : b < 2 ^ 31) {Q : Int32 → Prop} (h1 : rgI a b x = none → Q 0) (h2 : ∀ n, rgI a b x = some n → Q 1) : wX6_in x.toInt64 A B Q := by
  subst hA; subst hB
  exact m_in (in_rg ha hb x h1 h2)
theorem m_isInner {r c : Nat} (hR : RC r c) {y x : Nat} (hy : y < 2 ^ 30) (hx : x < 2 ^ 30) {Q : Int32 → Prop} (h : Q (bI (decide (inYX r c y x)))) : wX6_isInner (nI r) (nI c) (nI y) (nI x) Q := by
  obtain ⟨r1, r2, r3, r4⟩ := hR
  unfold wX6_isInner
  have e1 : (((2 : Int32) * nI r) - 1).toInt64 = (nI (2 * r - 1)).toInt64 := by rw [l2, pk_mul, l1, pk_sub (by omega)]
  have e2 : (((2 : Int32) * nI c) - 1).toInt64 = (nI (2 * c - 1)).toInt64 := by rw [l2, pk_mul, l1, pk_sub (by omega)]
  refine m_rg 1 (2 * r - 1) (by decide) e1 (by omega) (by omega) (fun hn => ?_) (fun n hn => ?_)
  · rw [rgI_nI (by omega)] at hn
    rw [if_pos rfl]
    rw [decide_eq_false (fun z => by rw [if_pos ⟨z.1, by have := z.2.1; omega⟩] at hn; cases hn)] at h
    exact h
  · rw [rgI_nI (by omega)] at hn
    have hy2 : 1 ≤ y ∧ y ≤ 2 * r - 1 := by
      by_cases z : 1 ≤ y ∧ y ≤ 2 * r - 1
      · exact z
      · rw [if_neg z] at hn; cases hn
    rw [if_neg (by decide)]
    refine m_rg 1 (2 * c - 1) (by decide) e2 (by omega) (by omega) (fun hn => ?_) (fun n hn => ?_)
    · rw [rgI_nI (by omega)] at hn
      rw [if_pos rfl]
      rw [decide_eq_false (fun z => by rw [if_pos ⟨z.2.2.1, by have := z.2.2.2.1; omega⟩] at hn; cases hn)] at h
      exact h
    · rw [rgI_nI (by omega)] at hn
      have hx2 : 1 ≤ x ∧ x ≤ 2 * c - 1 := by
        by_cases z : 1 ≤ x ∧ x ≤ 2 * c - 1
        · exact z
        · rw [if_neg z] at hn; cases hn
      rw [if_neg (by decide), nI_add, odd_I (by omega)]
      by_cases z : (y + x) % 2 = 1
      · rw [decide_eq_true z]
        rw [decide_eq_true (show inYX r c y x from ⟨hy2.1, by omega, hx2.1, by omega, z⟩)] at h
        exact h
      · rw [decide_eq_false z]
        rw [decide_eq_false (fun w => z w.2.2.2.2)] at h
        exact h
theorem m_isInnerP {r c : Nat} (hR : RC r c) {p : Nat} (hp : p < 169) {Q : Int32 → Prop} (h : Q (bI (inn r c p))) : wX6_isInner (nI r) (nI c) (nI p / 13) (jr (nI p) 13) Q := by
  rw [l13, pk_div (by omega) (by omega) (by omega), jr_nI (by omega) (by omega) (by omega)]
  exact m_isInner hR (by omega) (by omega) h
theorem m_isCr {r c : Nat} (hR : RC r c) {k : Nat → Nat} (hk : ∀ p, k p ≤ 3) {pts : Nat → Int32} (hp : MpR k pts) {p : Nat} (h169 : p < 169) {Q : Int32 → Prop} (h : Q (bI (crB r c k p))) : wX6_isCrossing (nI r) (nI c) pts (nI p) Q := by
  unfold wX6_isCrossing
  refine m_isInnerP hR h169 ?_
  unfold crB at h
  cases hi : inn r c p with
  | false =>
    rw [hi, Bool.false_and] at h
    rw [bI_f, if_pos rfl]
    exact h
  | true =>
    rw [hi, Bool.true_and] at h
    rw [bI_t, if_neg (by decide)]
    refine ⟨vp_in_nI h169 (by omega), ?_⟩
    have h3 := hk p
    rw [nI_clamp (by omega), hp p h169, l3, jr_nI (by omega) (by omega) (by omega)]
    have e : (if nI (k p % 3) = 0 then (1 : Int32) else 0) = bI (decide (k p % 3 = 0)) := eq_I (b := 0) (by omega) (by omega)
    rw [e]; exact h
theorem m_isOver {k : Nat → Nat} (hk : ∀ p, k p ≤ 3) {pts : Nat → Int32} (hp : MpR k pts) {p : Nat} (h169 : p < 169) {Q : Int32 → Prop} (h : Q (bI (ovD k p))) : wX6_isOver pts (nI p) Q := by
  unfold wX6_isOver
  refine ⟨vp_in_nI h169 (by omega), ?_⟩
  have h3 := hk p
  rw [nI_clamp (by omega), hp p h169, l13, pk_div (by omega) (by omega) (by omega), odd_I (by omega), l3, eq_I (by omega) (by omega), bne_I]
  exact h
theorem m_strand {r c : Nat} {k : Nat → Nat} (hk : ∀ p, k p ≤ 3) {pts : Nat → Int32} (hp : MpR k pts) {p : Nat} (h169 : p < 169) (hi : inn r c p = true) (o : Bool) {Q : Int32 → Prop} (h : Q (nI (ceN (upC p (ovD k p == o))))) : wX6_strand pts (nI p) (bI o) Q := by
  obtain ⟨g1, g2, g3, g4, g5⟩ := inn_iff.mp hi
  unfold wX6_strand
  refine m_isOver hk hp h169 ?_
  unfold wX6_cellAt
  unfold upC ceN at h
  rw [l13, pk_div (by omega) (by omega) (by omega), jr_nI (by omega) (by omega) (by omega)]
  dsimp only at h
  cases hd : (ovD k p == o) with
  | true =>
    have he : ovD k p = o := eq_of_beq hd
    rw [hd, if_pos rfl] at h
    have e : (if bI (ovD k p) = bI o then (0 : Int32) else 1) = 0 := if_pos (by rw [he])
    rw [e, if_pos rfl, l1, pk_sub g1, if_pos rfl, pk_sub g3, l12, pk_mul, nI_add]
    exact h
  | false =>
    have he : ¬ ovD k p = o := fun z => by rw [z] at hd; cases o <;> cases hd
    rw [hd, if_neg (by decide)] at h
    have e : (if bI (ovD k p) = bI o then (0 : Int32) else 1) = 1 := if_neg (fun z => he (bI_inj.mp z))
    rw [e, if_neg (by decide), if_pos rfl, l1, pk_sub g1, if_neg (by decide), if_neg (by decide), l0, pk_sub (by omega), Nat.sub_zero, l12, pk_mul, nI_add]
    exact h
/-- a crossing's strand in the model's rows -/
theorem up_own {r c : Nat} {k : Nat → Nat} (hR : RC r c) {p : Nat} (hc : crB r c k p = true) (d : Bool) {lo : Nat → Int32} (hO : OwR (LY r c k) lo) : ceN (upC p d) < 144 ∧ lo (ceN (upC p d)) = nI (lpD (LY r c k) p d) := by
  obtain ⟨r1, r2, r3, r4⟩ := id hR
  have hi := (upC_in (crB_inn hc) d).1
  have h1 := hi.1
  have h2 := hi.2
  have hlt : ceN (upC p d) < 144 := by unfold ceN; omega
  refine ⟨hlt, ?_⟩
  have e := (stD_ok hR hc d).2.2.1
  have e2 := (lpD_lt hR hc d).2
  rw [hO _ hlt, e, e2, if_neg (by omega)]
  rfl
theorem up_dn {r c : Nat} {k : Nat → Nat} (hR : RC r c) {p : Nat} (hc : crB r c k p = true) (d : Bool) {dn : Nat → Int32} (hD : DnR (LY r c k) dn) : dn (ceN (upC p d)) = bI (dnD (LY r c k) p d) := by
  obtain ⟨tu, h1, h2, h3⟩ := (stD_ok hR hc d).2.2.2
  rw [← h2, hD tu h1, h3]
  rfl
theorem sgn_M (o d1 d2 : Bool) : (if (((if bI o = 0 then (-(if bI d1 = 0 then (-1 : Int32) else (1 : Int32))) else (if bI d1 = 0 then (-1 : Int32) else (1 : Int32))) * (if bI d2 = 0 then (-1 : Int32) else (1 : Int32))) - ((if bI d1 = 0 then (-1 : Int32) else (1 : Int32)) * (if bI (!o) = 0 then (-(if bI d2 = 0 then (-1 : Int32) else (1 : Int32))) else (if bI d2 = 0 then (-1 : Int32) else (1 : Int32))))) ≤ 0 then (-1 : Int32) else (1 : Int32)) = sg ((d1 == d2) == o) := by cases o <;> cases d1 <;> cases d2 <;> decide
theorem m_signOf {r c : Nat} (hR : RC r c) {k : Nat → Nat} (hk : ∀ p, k p ≤ 3) {pts : Nat → Int32} (hp : MpR k pts) {dn : Nat → Int32} (hD : DnR (LY r c k) dn) {p : Nat} (hc : crB r c k p = true) {Q : Int32 → Prop} (h : Q (sg (sgB r c k p))) : wX6_signOf pts dn (nI p) Q := by
  obtain ⟨r1, r2, r3, r4⟩ := id hR
  have hi := crB_inn hc
  have h169 := inn_lt hR hi
  obtain ⟨g1, g2, g3, g4, g5⟩ := inn_iff.mp hi
  have hu : ∀ d, ceN (upC p d) < 144 ∧ flB (ceN (upC p d) / 12) (ceN (upC p d) % 12) = d := by
    intro d
    have h1 := (upC_in hi d).1
    have h2 := h1.1
    have h3 := h1.2
    obtain ⟨e1, e2⟩ := ceN_dm (s := upC p d) (by omega)
    rw [e1, e2]
    exact ⟨by unfold ceN; omega, (upC_end rfl rfl g1 g3 g5 d).2.2.1⟩
  unfold wX6_signOf
  refine m_strand (o := true) hk hp h169 hi ?_
  refine m_strand (o := false) hk hp h169 hi ?_
  have o1 : (ovD k p == true) = ovD k p := by cases ovD k p <;> rfl
  have o2 : (ovD k p == false) = !ovD k p := by cases ovD k p <;> rfl
  rw [o1, o2]
  refine ⟨vp_in_nI (hu _).1 (by omega), m_falls (hu _).1 ⟨vp_in_nI (hu _).1 (by omega), m_falls (hu _).1 ?_⟩⟩
  have b1 := (hu (ovD k p)).1
  have b2 := (hu (!ovD k p)).1
  rw [(hu (ovD k p)).2, (hu (!ovD k p)).2, nI_clamp (by omega), nI_clamp (by omega), up_dn hR hc _ hD, up_dn hR hc _ hD, sgn_M]
  exact h
theorem FP_pair {α β : Type} {r c : Nat} {g1 : Nat → α → α} {g2 : Nat → β → β} {a : α} {b : β} : ∀ q, FP r c (fun p s => (g1 p s.1, g2 p s.2)) (a, b) q = (FP r c g1 a q, FP r c g2 b q) := by
  intro q
  induction q with
  | zero => rfl
  | succ q ih =>
    cases hq : inn r c q with
    | false => rw [FP_out hq, FP_out hq, FP_out hq]; exact ih
    | true => rw [FP_in hq, FP_in hq, FP_in hq, ih]
theorem crB_out {r c p : Nat} {k : Nat → Nat} (h : inn r c p = false) : crB r c k p = false := by unfold crB; rw [h, Bool.false_and]
theorem m_common {r c : Nat} (hR : RC r c) {k : Nat → Nat} (hk : ∀ p, k p ≤ 3) {pts : Nat → Int32} (hp : MpR k pts) {lo dn : Nat → Int32} (hO : OwR (LY r c k) lo) (hD : DnR (LY r c k) dn) {a b : Nat} (ha : a < 36) (hb : b < 36) {si : Int32} {Q : Int32 → Int32 → Prop} (h : Q (ctE r c k a b) (ssE r c k a b)) : wX6_common (nI r) (nI c) pts lo dn si (nI a) (nI b) Q := by
  obtain ⟨P, hn, h36⟩ := LY_fact k hR
  unfold wX6_common lX6_common_10
  refine lp_pla (r := r) (c := c) (fun p s => ((fun p (s : Int32) => if shB r c k a b p = true then s + 1 else s) p s.1, (fun p (s : Int32) => if shB r c k a b p = true then s + sg (sgB r c k p) else s) p s.2)) ((0, 0) : Int32 × Int32) (fun i s x => x.1 = s.1 ∧ x.2.1 = nI i ∧ x.2.2 = s.2) ?_ ?_ ?_ FU _ ⟨rfl, rfl, rfl⟩ (FU_of (by omega))
  · rintro RR p s ⟨x1, x2, x3⟩ hp169 hip hb2 ⟨e1, e2, e3⟩ hRR
    dsimp only at e1 e2 e3 hRR ⊢
    subst e1; subst e2; subst e3
    unfold bX6_common_10
    rw [l169, if_neg (nI_ge hp169 (by omega)), nI_1]
    refine m_isCr hR hk hp hp169 ?_
    cases hc : crB r c k p with
    | false =>
      have hs : shB r c k a b p = false := by unfold shB; rw [hc, Bool.false_and]
      rw [hs] at hRR
      rw [bI_f, if_pos rfl]
      exact hRR _ ⟨rfl, rfl, rfl⟩
    | true =>
      have o1 : (ovD k p == true) = ovD k p := by cases ovD k p <;> rfl
      have o2 : (ovD k p == false) = !ovD k p := by cases ovD k p <;> rfl
      rw [bI_t, if_neg (by decide)]
      refine m_strand (o := true) hk hp hp169 hip ?_
      rw [o1]
      obtain ⟨u1, u2⟩ := up_own hR hc (ovD k p) hO
      obtain ⟨v1, v2⟩ := up_own hR hc (!ovD k p) hO
      refine ⟨vp_in_nI u1 (by omega), m_strand (o := false) hk hp hp169 hip ?_⟩
      rw [o2]
      refine ⟨vp_in_nI v1 (by omega), ?_⟩
      have b1 := (lpD_lt hR hc (ovD k p)).1
      have b2 := (lpD_lt hR hc (!ovD k p)).1
      rw [nI_clamp (by omega), nI_clamp (by omega), u2, v2, sh_I (by omega) (by omega) (by omega) (by omega)]
      have hsh : ((decide (lpD (LY r c k) p (ovD k p) = a) && decide (lpD (LY r c k) p (!ovD k p) = b)) || (decide (lpD (LY r c k) p (ovD k p) = b) && decide (lpD (LY r c k) p (!ovD k p) = a))) = shB r c k a b p := by unfold shB; rw [hc, Bool.true_and]
      rw [hsh]
      cases hs : shB r c k a b p with
      | false =>
        rw [hs] at hRR
        rw [bI_f, if_pos rfl, if_pos rfl]
        refine hRR _ ⟨?_, rfl, ?_⟩
        · simp
        · simp
      | true =>
        rw [hs] at hRR
        rw [bI_t, if_neg (by decide), if_neg (by decide)]
        exact m_signOf hR hk hp hD hc (hRR _ ⟨rfl, rfl, rfl⟩)
  · rintro RR p s ⟨x1, x2, x3⟩ hp169 hip hb2 ⟨e1, e2, e3⟩ hRR
    dsimp only at e1 e2 e3 hRR ⊢
    subst e1; subst e2; subst e3
    unfold bX6_common_10
    rw [l169, if_neg (nI_ge hp169 (by omega)), nI_1]
    refine m_isCr hR hk hp hp169 ?_
    rw [crB_out hip, bI_f, if_pos rfl]
    exact hRR _ ⟨rfl, rfl, rfl⟩
  · rintro RR ⟨x1, x2, x3⟩ ⟨e1, e2, e3⟩
    dsimp only at e1 e2 e3 ⊢
    subst e1; subst e2; subst e3
    unfold bX6_common_10
    rw [l169, if_pos (nI_le (by omega) (by omega))]
    have e : FP r c (fun p (s : Int32 × Int32) => (if shB r c k a b p = true then s.1 + 1 else s.1, if shB r c k a b p = true then s.2 + sg (sgB r c k p) else s.2)) (0, 0) 169 = (ctE r c k a b, ssE r c k a b) := FP_pair (g1 := fun p (s : Int32) => if shB r c k a b p = true then s + 1 else s) (g2 := fun p (s : Int32) => if shB r c k a b p = true then s + sg (sgB r c k p) else s) 169
    rw [e]
    exact h
theorem L_pos {r c : Nat} {k : Nat → Nat} (hR : RC r c) : 1 ≤ (LY r c k).2.1 := by
  obtain ⟨P, hn, h36⟩ := LY_fact k hR
  have hall := (LY_ok (r := r) (c := c) k hR.2.1 hR.2.2.2).2
  have h0 := hall 0 0 (by have := hR.1; omega) (by have := hR.2.2.1; omega)
  obtain ⟨t, ht, -⟩ := P.2.2.2.1 _ h0
  obtain ⟨l, hl, -⟩ := bg_of P ht
  omega
theorem rg_lp {L : Nat} (h1 : 1 ≤ L) (x : Int32) : rgI 0 (L - 1) x = lpI L x := by
  rcases I_cases x with q | ⟨n, hn, rfl⟩
  · rw [rgI_neg q]
    unfold lpI
    rw [if_pos q]
  · rw [rgI_nI hn]
    unfold lpI
    rw [if_neg (nI_pos hn), nI_clamp hn]
    by_cases z : n < L
    · rw [if_pos z, if_pos ⟨by omega, by omega⟩]
    · rw [if_neg z, if_neg (by omega)]
theorem m_isLoop {r c : Nat} (hR : RC r c) {k : Nat → Nat} (hk : ∀ p, k p ≤ 3) {pts : Nat → Int32} (hp : MpR k pts) {lo dn ro be : Nat → Int32} {lp nc nd : Int32} {x : Int32} {Q : Int32 → (Nat → Int32) → (Nat → Int32) → (Nat → Int32) → (Nat → Int32) → Int32 → Int32 → Int32 → Prop}
    (h1 : lpI (LY r c k).2.1 x = none → ∀ lo' dn' ro' be' lp' nc' nd', MdR (LY r c k) lo' dn' ro' be' lp' → Q 0 lo' dn' ro' be' lp' nc' nd') (h2 : ∀ l, lpI (LY r c k).2.1 x = some l → x = nI l → l < (LY r c k).2.1 → ∀ lo' dn' ro' be' lp' nc' nd', MdR (LY r c k) lo' dn' ro' be' lp' → Q 1 lo' dn' ro' be' lp' nc' nd') : wX6_isLoop (nI r) (nI c) pts lo dn ro be lp nc nd x Q := by
  obtain ⟨P, hn, h36⟩ := LY_fact k hR
  have hL := L_pos (k := k) hR
  unfold wX6_isLoop
  refine m_layLoops hR hk hp (fun lo' dn' ro' be' nc' nd' hM => ?_)
  refine m_rg 0 ((LY r c k).2.1 - 1) (by decide) (by rw [l1, pk_sub hL]) (by omega) (by omega) (fun z => ?_) (fun l z => ?_)
  · rw [rg_lp hL] at z
    exact ⟨isB_0, h1 z _ _ _ _ _ _ _ hM⟩
  · rw [rg_lp hL] at z
    obtain ⟨e1, e2, -⟩ := lpI_some z
    exact ⟨isB_1, h2 l z e1 e2 _ _ _ _ _ _ _ hM⟩
theorem m_placeOf {r c : Nat} (hR : RC r c) {x : Int32} {Q : Int32 → Prop} (h1 : plc r c x = none → Q (-9)) (h2 : ∀ p, plc r c x = some p → inn r c p = true → p < 169 → Q (nI p)) : wX6_placeOf (nI r) (nI c) x Q := by
  unfold wX6_placeOf
  rcases I_cases x with q | ⟨n, hn, rfl⟩
  · rw [if_pos q]
    exact h1 (if_pos q)
  · rw [if_neg (nI_pos hn), l100, pk_div hn (by omega) (by omega), jr_nI hn (by omega) (by omega)]
    refine m_isInner hR (by omega) (by omega) ?_
    have e : plc r c (nI n) = if inYX r c (n / 100) (n % 100) then some (13 * (n / 100) + n % 100) else none := by
      unfold plc
      rw [if_neg (nI_pos hn), nI_clamp hn]
    rw [e] at h1 h2
    by_cases z : inYX r c (n / 100) (n % 100)
    · rw [if_pos z] at h2
      have hl := inYX_lt hR z
      rw [decide_eq_true z, bI_t, if_neg (by decide), l13, pk_mul, nI_add]
      exact h2 _ rfl ((inn_yx hl.2.1).mpr z) hl.2.2
    · rw [if_neg z] at h1
      rw [decide_eq_false z, bI_f, if_pos rfl]
      exact h1 rfl
theorem m_inner {r c : Nat} (hR : RC r c) {Q : Int32 → Prop} (h : Q (nI (inN r c))) : wX6_inner (nI r) (nI c) Q := by
  unfold wX6_inner lX6_inner_4
  refine lp_up (fun i x => x.1 = nI (cnt r c i) ∧ x.2 = nI i) 169 ?_ FU 0 _ ⟨rfl, rfl⟩ (Nat.zero_le _) (FU_of (by omega))
  rintro RR i ⟨x1, x2⟩ ⟨e1, e2⟩ hi hRR
  dsimp only at e1 e2 ⊢
  subst e1; subst e2
  unfold bX6_inner_4
  rw [l169]
  by_cases q : i < 169
  · rw [if_neg (nI_ge q (by omega)), nI_1]
    refine m_isInnerP hR q ?_
    refine hRR q _ ⟨?_, rfl⟩
    show nI (cnt r c i) + (if bI (inn r c i) = 0 then 0 else 1) = nI (cnt r c (i + 1))
    rw [cnt_succ]
    cases inn r c i
    · rw [bI_f, if_pos rfl, if_neg (by decide), l0, nI_add]
    · rw [bI_t, if_neg (by decide), if_pos rfl, nI_1]
  · rw [if_pos (nI_le (by omega) (by omega))]
    have : i = 169 := by omega
    subst this
    exact h
