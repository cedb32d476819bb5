/-! the model's answers -/
theorem m_point {r c : Nat} (hR : RC r c) {k : Nat → Nat} {pts : Nat → Int32} (hp : MpR k pts) {x : Int32} {Q : Int32 → Prop} (h : Q (aPoint r c k x)) : wX6_point (nI r) (nI c) pts x Q := by
  unfold wX6_point
  unfold aPoint at h
  refine m_placeOf hR (fun z => ?_) (fun p z hi h169 => ?_)
  · rw [z] at h
    rw [if_pos rfl]; exact h
  · rw [z] at h
    rw [if_neg (neg_ne (by omega) (by decide))]
    refine ⟨vp_in_nI h169 (by omega), ?_⟩
    rw [nI_clamp (by omega), hp p h169]; exact h
theorem MpR.put {k : Nat → Nat} {pts : Nat → Int32} (hp : MpR k pts) (p v : Nat) : MpR (kU k p v) (upd pts p (nI v)) := by
  intro q hq
  rw [upd_e]
  unfold kU
  by_cases z : q = p
  · rw [if_pos z, if_pos z]
  · rw [if_neg z, if_neg z]; exact hp q hq
theorem m_set {r c : Nat} (hR : RC r c) {k : Nat → Nat} {pts : Nat → Int32} (hp : MpR k pts) {x w : Int32} {Q : Int32 → (Nat → Int32) → Prop} (h : ∀ pts', MpR (kSet r c k x w) pts' → Q (aSet r c k x w) pts') : wX6_set (nI r) (nI c) pts x w Q := by
  unfold wX6_set
  unfold aSet kSet at h
  refine m_placeOf hR (fun z => ?_) (fun p z hi h169 => ?_)
  · rw [z] at h
    rw [if_pos rfl]; exact h _ hp
  · rw [z] at h
    simp only [Option.elim_some] at h
    rw [if_neg (neg_ne (by omega) (by decide))]
    refine m_rg 0 3 (by decide) (by decide) (by omega) (by omega) (fun y => ?_) (fun v y => ?_)
    · rw [y] at h
      rw [if_pos rfl]; exact h _ hp
    · rw [y] at h
      obtain ⟨rfl, -, -, -⟩ := rgI_some y
      rw [if_neg (by decide)]
      refine ⟨vp_in_nI h169 (by omega), ?_⟩
      rw [nI_clamp (by omega), hp p h169]
      exact h _ (hp.put p v)
theorem m_loop {r c : Nat} (hR : RC r c) {k : Nat → Nat} (hk : ∀ p, k p ≤ 3) {pts : Nat → Int32} (hp : MpR k pts) {lo dn ro be : Nat → Int32} {lp nc nd : Int32} {x : Int32} {Q : Int32 → (Nat → Int32) → (Nat → Int32) → (Nat → Int32) → (Nat → Int32) → Int32 → Int32 → Int32 → Prop} (h : ∀ lo' dn' ro' be' lp' nc' nd', Q (aLoop r c k x) lo' dn' ro' be' lp' nc' nd') : wX6_loop (nI r) (nI c) pts lo dn ro be lp nc nd x Q := by
  obtain ⟨r1, r2, r3, r4⟩ := id hR
  have hall := (LY_ok (r := r) (c := c) k r2 r4).2
  unfold wX6_loop
  unfold aLoop clI at h
  by_cases q : x < 0
  · rw [if_pos q] at h ⊢; exact h _ _ _ _ _ _ _
  · rw [if_neg q] at h ⊢
    obtain ⟨n, hn, rfl⟩ := nI_of q
    rw [nI_clamp hn] at h
    rw [l100, pk_div hn (by omega) (by omega), jr_nI hn (by omega) (by omega), l2, pk_mul, pk_mul, l12]
    by_cases q1 : n / 100 < 2 * r
    · rw [if_neg (nI_ge q1 (by omega))]
      by_cases q2 : n % 100 < 2 * c
      · rw [if_pos ⟨q1, q2⟩] at h
        rw [if_pos (nI_lt q2 (by omega))]
        refine m_layLoops hR hk hp (fun lo' dn' ro' be' nc' nd' hM => ?_)
        rw [pk_mul, nI_add]
        refine ⟨vp_in_nI (by omega) (by omega), ?_⟩
        rw [nI_clamp (by omega), hM.2.1 _ (by omega), if_neg (hall _ _ q1 q2)]
        exact h _ _ _ _ _ _ _
      · rw [if_neg (fun z => q2 z.2)] at h
        rw [if_neg (nI_nlt (by omega) (by omega))]
        exact h _ _ _ _ _ _ _
    · rw [if_neg (fun z => q1 z.1)] at h
      rw [if_pos (nI_le (by omega) (by omega))]
      exact h _ _ _ _ _ _ _
theorem m_cellBehind {r c : Nat} (hR : RC r c) {k : Nat → Nat} {lo dn ro be : Nat → Int32} {lp : Int32} (hM : MdR (LY r c k) lo dn ro be lp) {l j : Nat} (hl : l < (LY r c k).2.1) (hj : j < 2 ^ 31) {Q : Int32 → Prop} (h : Q (nI (ceN ((LY r c k).2.2.2.1 (stB (LY r c k) l j))))) : wX6_cellBehind ro be (nI l) (nI j) Q := by
  obtain ⟨P, hn, h36⟩ := LY_fact k hR
  obtain ⟨m1, m2, m3, m4, m5⟩ := hM
  obtain ⟨b1, b2⟩ := bg_lim P hl
  obtain ⟨c1, c2, c3, c4⟩ := stB_ok P hl j
  have c5 : lenL (LY r c k) l ≤ 144 := by unfold lenL; omega
  unfold wX6_cellBehind
  rw [nI_1, nI_clamp (n := l) (by omega), nI_clamp (n := l + 1) (by omega), m5 l (by omega), m5 (l + 1) (by omega), pk_sub (by omega)]
  have e : nI ((LY r c k).2.2.2.2 (l + 1) - (LY r c k).2.2.2.2 l) = nI (lenL (LY r c k) l) := rfl
  rw [e, jr_nI hj (by omega) (by omega), nI_add]
  have e2 : (LY r c k).2.2.2.2 l + j % lenL (LY r c k) l = stB (LY r c k) l j := rfl
  rw [e2]
  refine ⟨vp_in_nI (by omega) (by omega), vp_in_nI (by omega) (by omega), nI_ne0 (by omega) (by omega), vp_in_nI (by omega) (by omega), ?_⟩
  rw [nI_clamp (by omega), m4 _ c2]
  exact h
theorem sq_lt {r c : Nat} (hR : RC r c) {k : Nat → Nat} {t : Nat} (ht : t < (LY r c k).1) : inG r c ((LY r c k).2.2.2.1 t) ∧ ((LY r c k).2.2.2.1 t).1 < 12 ∧ ((LY r c k).2.2.2.1 t).2.1 < 12 ∧ ceN ((LY r c k).2.2.2.1 t) < 144 := by
  obtain ⟨r1, r2, r3, r4⟩ := id hR
  obtain ⟨P, hn, h36⟩ := LY_fact k hR
  have hG : inG r c ((LY r c k).2.2.2.1 t) := P.2.1 t ht
  have g1 := hG.1
  have g2 := hG.2
  unfold ceN
  exact ⟨hG, by omega, by omega, by omega⟩
theorem m_toldCell {s : S3} (h1 : s.1 < 12) (h2 : s.2.1 < 12) {Q : Int32 → Prop} (h : Q (nI (toldS s))) : wX6_toldCell (nI (ceN s)) Q := by
  obtain ⟨e1, e2⟩ := ceN_dm h2
  unfold wX6_toldCell
  rw [l12, pk_div (by unfold ceN; omega) (by omega) (by omega), jr_nI (by unfold ceN; omega) (by omega) (by omega), e1, e2, l100, pk_mul, nI_add]
  exact h
theorem m_step {r c : Nat} (hR : RC r c) {k : Nat → Nat} (hk : ∀ p, k p ≤ 3) {pts : Nat → Int32} (hp : MpR k pts) {lo dn ro be : Nat → Int32} {lp nc nd : Int32} {x w : Int32} {Q : Int32 → (Nat → Int32) → (Nat → Int32) → (Nat → Int32) → (Nat → Int32) → Int32 → Int32 → Int32 → Prop} (h : ∀ lo' dn' ro' be' lp' nc' nd', Q (aStep r c k x w) lo' dn' ro' be' lp' nc' nd') : wX6_step (nI r) (nI c) pts lo dn ro be lp nc nd x w Q := by
  obtain ⟨P, hn, h36⟩ := LY_fact k hR
  unfold wX6_step
  unfold aStep at h
  refine m_isLoop hR hk hp (fun hno lo' dn' ro' be' lp' nc' nd' hM => ?_) (fun l hs hx hl lo' dn' ro' be' lp' nc' nd' hM => ?_)
  · rw [hno] at h
    rw [if_pos rfl]; exact h _ _ _ _ _ _ _
  · rw [hs] at h
    simp only [Option.elim_some] at h
    rw [if_neg (by decide)]
    subst hx
    refine m_rg 0 9999 (by decide) (by decide) (by omega) (by omega) (fun y => ?_) (fun j y => ?_)
    · rw [if_pos rfl]
      have e : (if w < 0 then (-2 : Int32) else if w ≤ 9999 then nI (toldS ((LY r c k).2.2.2.1 (stB (LY r c k) l w.toNatClampNeg))) else -2) = -2 := by
        rcases I_cases w with q | ⟨n, hn2, rfl⟩
        · rw [if_pos q]
        · rw [if_neg (nI_pos hn2)]
          rw [rgI_nI hn2] at y
          by_cases z : 0 ≤ n ∧ n ≤ 9999
          · rw [if_pos z] at y; cases y
          · rw [l9999, if_neg (nI_ge (by omega) hn2)]
      rw [e] at h
      exact h _ _ _ _ _ _ _
    · obtain ⟨rfl, y1, y2, y3⟩ := rgI_some y
      rw [if_neg (nI_pos y3), l9999, if_pos (nI_le y2 (by omega)), nI_clamp y3] at h
      rw [if_neg (by decide)]
      refine m_cellBehind hR hM hl y3 ?_
      have hq := sq_lt (k := k) hR (stB_ok P hl j).2.1
      exact m_toldCell hq.2.1 hq.2.2.1 (h _ _ _ _ _ _ _)
theorem m_toldOf {p : Nat} (hp : p < 169) {Q : Int32 → Prop} (h : Q (nI (toldP p))) : wX6_toldOf (nI p) Q := by
  unfold wX6_toldOf
  rw [l13, pk_div (by omega) (by omega) (by omega), jr_nI (by omega) (by omega) (by omega), l100, pk_mul, nI_add]
  exact h
theorem m_end {r c : Nat} (hR : RC r c) {k : Nat → Nat} (hk : ∀ p, k p ≤ 3) {pts : Nat → Int32} (hp : MpR k pts) {lo dn ro be : Nat → Int32} {lp nc nd : Int32} {x w : Int32} {Q : Int32 → (Nat → Int32) → (Nat → Int32) → (Nat → Int32) → (Nat → Int32) → Int32 → Int32 → Int32 → Prop} (h : ∀ lo' dn' ro' be' lp' nc' nd', Q (aEnd r c k x w) lo' dn' ro' be' lp' nc' nd') : wX6_end (nI r) (nI c) pts lo dn ro be lp nc nd x w Q := by
  obtain ⟨P, hn, h36⟩ := LY_fact k hR
  unfold wX6_end
  unfold aEnd at h
  refine m_isLoop hR hk hp (fun hno lo' dn' ro' be' lp' nc' nd' hM => ?_) (fun l hs hx hl lo' dn' ro' be' lp' nc' nd' hM => ?_)
  · rw [hno] at h
    rw [if_pos rfl]; exact h _ _ _ _ _ _ _
  · rw [hs] at h
    simp only [Option.elim_some] at h
    rw [if_neg (by decide)]
    subst hx
    refine m_rg 0 9999 (by decide) (by decide) (by omega) (by omega) (fun y => ?_) (fun j y => ?_)
    · rw [if_pos rfl]
      have e : (if w < 0 then (-2 : Int32) else if w ≤ 9999 then nI (100 * eY ((LY r c k).2.2.2.1 (stB (LY r c k) l w.toNatClampNeg)) + eX ((LY r c k).2.2.2.1 (stB (LY r c k) l w.toNatClampNeg))) else -2) = -2 := by
        rcases I_cases w with q | ⟨n, hn2, rfl⟩
        · rw [if_pos q]
        · rw [if_neg (nI_pos hn2)]
          rw [rgI_nI hn2] at y
          by_cases z : 0 ≤ n ∧ n ≤ 9999
          · rw [if_pos z] at y; cases y
          · rw [l9999, if_neg (nI_ge (by omega) hn2)]
      rw [e] at h
      exact h _ _ _ _ _ _ _
    · obtain ⟨rfl, y1, y2, y3⟩ := rgI_some y
      rw [if_neg (nI_pos y3), l9999, if_pos (nI_le y2 (by omega)), nI_clamp y3] at h
      rw [if_neg (by decide)]
      refine m_cellBehind hR hM hl y3 ?_
      have ht := (stB_ok P hl j).2.1
      have hq := sq_lt (k := k) hR ht
      obtain ⟨n1, n2, n3, n4, n5⟩ := en_lt hR hq.1
      refine ⟨vp_in_nI hq.2.2.2 (by omega), ?_⟩
      rw [nI_clamp (by omega), hM.2.2.1 _ ht]
      refine m_behind hq.2.1 hq.2.2.1 (m_toldOf n3 ?_)
      unfold toldP
      rw [n4, n5]
      exact h _ _ _ _ _ _ _
theorem m_between {r c : Nat} (hR : RC r c) {k : Nat → Nat} (hk : ∀ p, k p ≤ 3) {pts : Nat → Int32} (hp : MpR k pts) {lo dn ro be : Nat → Int32} {lp nc nd si : Int32} {x y : Int32} {Q : Int32 → (Nat → Int32) → (Nat → Int32) → (Nat → Int32) → (Nat → Int32) → Int32 → Int32 → Int32 → Int32 → Prop} (h : ∀ lo' dn' ro' be' lp' nc' nd' si', Q (aBetween r c k x y) lo' dn' ro' be' lp' nc' nd' si') : wX6_between (nI r) (nI c) pts lo dn ro be lp nc nd si x y Q := by
  obtain ⟨P, hn, h36⟩ := LY_fact k hR
  unfold wX6_between
  unfold aBetween at h
  refine m_isLoop hR hk hp (fun hno lo' dn' ro' be' lp' nc' nd' hM => ?_) (fun l hs hx hl lo' dn' ro' be' lp' nc' nd' hM => ?_)
  · rw [hno] at h
    rw [if_pos rfl]; exact h _ _ _ _ _ _ _ _
  · rw [hs] at h
    simp only [Option.elim_some] at h
    rw [if_neg (by decide)]
    subst hx
    refine m_isLoop hR hk hp (fun hno lo' dn' ro' be' lp' nc' nd' hM => ?_) (fun l2 hs2 hx2 hl2 lo' dn' ro' be' lp' nc' nd' hM => ?_)
    · rw [hno] at h
      rw [if_pos rfl]; exact h _ _ _ _ _ _ _ _
    · rw [hs2] at h
      simp only [Option.elim_some] at h
      rw [if_neg (by decide)]
      subst hx2
      exact m_common hR hk hp hM.2.1 hM.2.2.1 (by omega) (by omega) (h _ _ _ _ _ _ _ _)
theorem m_linked {r c : Nat} (hR : RC r c) {k : Nat → Nat} (hk : ∀ p, k p ≤ 3) {pts : Nat → Int32} (hp : MpR k pts) {lo dn ro be : Nat → Int32} {lp nc nd si : Int32} {x y : Int32} {Q : Int32 → (Nat → Int32) → (Nat → Int32) → (Nat → Int32) → (Nat → Int32) → Int32 → Int32 → Int32 → Int32 → Prop} (h : ∀ lo' dn' ro' be' lp' nc' nd' si', Q (aLinked r c k x y) lo' dn' ro' be' lp' nc' nd' si') : wX6_linked (nI r) (nI c) pts lo dn ro be lp nc nd si x y Q := by
  obtain ⟨P, hn, h36⟩ := LY_fact k hR
  unfold wX6_linked
  unfold aLinked at h
  refine m_isLoop hR hk hp (fun hno lo' dn' ro' be' lp' nc' nd' hM => ?_) (fun l hs hx hl lo' dn' ro' be' lp' nc' nd' hM => ?_)
  · rw [hno] at h
    rw [if_pos rfl]; exact h _ _ _ _ _ _ _ _
  · rw [hs] at h
    simp only [Option.elim_some] at h
    rw [if_neg (by decide)]
    refine m_isLoop hR hk hp (fun hno lo' dn' ro' be' lp' nc' nd' hM => ?_) (fun l2 hs2 hx2 hl2 lo' dn' ro' be' lp' nc' nd' hM => ?_)
    · rw [hno] at h
      rw [if_pos rfl]; exact h _ _ _ _ _ _ _ _
    · rw [hs2] at h
      simp only [Option.elim_some] at h
      rw [if_neg (by decide)]
      by_cases hxy : x = y
      · rw [if_pos hxy] at h ⊢; exact h _ _ _ _ _ _ _ _
      · rw [if_neg hxy] at h ⊢
        subst hx; subst hx2
        exact m_common hR hk hp hM.2.1 hM.2.2.1 (by omega) (by omega) (h _ _ _ _ _ _ _ _)
theorem m_which {r c : Nat} (hR : RC r c) {k : Nat → Nat} (hk : ∀ p, k p ≤ 3) {pts : Nat → Int32} (hp : MpR k pts) {lo dn ro be : Nat → Int32} {lp nc nd : Int32} {x : Int32} (o : Bool) {Q : Int32 → (Nat → Int32) → (Nat → Int32) → (Nat → Int32) → (Nat → Int32) → Int32 → Int32 → Int32 → Prop} (h : ∀ lo' dn' ro' be' lp' nc' nd', Q (aWhich r c k x (bI o)) lo' dn' ro' be' lp' nc' nd') : wX6_which (nI r) (nI c) pts lo dn ro be lp nc nd x (bI o) Q := by
  unfold wX6_which
  unfold aWhich at h
  refine m_placeOf hR (fun z => ?_) (fun p z hi h169 => ?_)
  · rw [z] at h
    rw [if_pos rfl]; exact h _ _ _ _ _ _ _
  · rw [z] at h
    simp only [Option.elim_some] at h
    rw [if_neg (neg_ne (by omega) (by decide))]
    refine m_layLoops hR hk hp (fun lo' dn' ro' be' nc' nd' hM => ?_)
    refine m_isCr hR hk hp h169 ?_
    cases hc : crB r c k p with
    | false =>
      rw [hc, if_neg (by decide)] at h
      rw [bI_f, if_pos rfl]; exact h _ _ _ _ _ _ _
    | true =>
      rw [hc, if_pos rfl] at h
      rw [bI_t, if_neg (by decide)]
      refine m_strand hk hp h169 hi o ?_
      obtain ⟨u1, u2⟩ := up_own hR hc (ovD k p == o) hM.2.1
      refine ⟨vp_in_nI u1 (by omega), ?_⟩
      rw [nI_clamp (by omega), u2]
      have e : (if bI o = 0 then !ovD k p else ovD k p) = (ovD k p == o) := by cases o <;> cases ovD k p <;> rfl
      rw [e] at h
      exact h _ _ _ _ _ _ _
theorem m_sign {r c : Nat} (hR : RC r c) {k : Nat → Nat} (hk : ∀ p, k p ≤ 3) {pts : Nat → Int32} (hp : MpR k pts) {lo dn ro be : Nat → Int32} {lp nc nd : Int32} {x : Int32} {Q : Int32 → (Nat → Int32) → (Nat → Int32) → (Nat → Int32) → (Nat → Int32) → Int32 → Int32 → Int32 → Prop} (h : ∀ lo' dn' ro' be' lp' nc' nd', Q (aSign r c k x) lo' dn' ro' be' lp' nc' nd') : wX6_sign (nI r) (nI c) pts lo dn ro be lp nc nd x Q := by
  unfold wX6_sign
  unfold aSign at h
  refine m_placeOf hR (fun z => ?_) (fun p z hi h169 => ?_)
  · rw [z] at h
    rw [if_pos rfl]; exact h _ _ _ _ _ _ _
  · rw [z] at h
    simp only [Option.elim_some] at h
    rw [if_neg (neg_ne (by omega) (by decide))]
    refine m_layLoops hR hk hp (fun lo' dn' ro' be' nc' nd' hM => ?_)
    refine m_isCr hR hk hp h169 ?_
    cases hc : crB r c k p with
    | false =>
      rw [hc, if_neg (by decide)] at h
      rw [bI_f, if_pos rfl]; exact h _ _ _ _ _ _ _
    | true =>
      rw [hc, if_pos rfl] at h
      rw [bI_t, if_neg (by decide)]
      exact m_signOf hR hk hp hM.2.2.1 hc (h _ _ _ _ _ _ _)
theorem i_comm3 (a b c : Int32) : a + b + c = a + (b + c) := by grind
theorem m_writhe {r c : Nat} (hR : RC r c) {k : Nat → Nat} (hk : ∀ p, k p ≤ 3) {pts : Nat → Int32} (hp : MpR k pts) {lo dn ro be : Nat → Int32} {lp nc nd : Int32} {Q : Int32 → (Nat → Int32) → (Nat → Int32) → (Nat → Int32) → (Nat → Int32) → Int32 → Int32 → Int32 → Prop} (h : ∀ lo' dn' ro' be' lp' nc' nd', Q (1000 + swE r c k) lo' dn' ro' be' lp' nc' nd') : wX6_writhe (nI r) (nI c) pts lo dn ro be lp nc nd Q := by
  unfold wX6_writhe
  refine m_layLoops hR hk hp (fun lo' dn' ro' be' nc' nd' hM => ?_)
  unfold lX6_writhe_11
  refine lp_pla (r := r) (c := c) (fun p s => if crB r c k p = true then s + sg (sgB r c k p) else s) (0 : Int32) (fun i s x => x.1 = 1000 + s ∧ x.2 = nI i) ?_ ?_ ?_ FU _ ⟨by simp, rfl⟩ (FU_of (by omega))
  · rintro RR p s ⟨x1, x2⟩ hp169 hip hb2 ⟨e1, e2⟩ hRR
    dsimp only at e1 e2 ⊢
    subst e1; subst e2
    unfold bX6_writhe_11
    rw [l169, if_neg (nI_ge hp169 (by omega)), nI_1]
    refine m_isCr hR hk hp hp169 ?_
    cases hc : crB r c k p with
    | false =>
      rw [hc, if_neg (by decide)] at hRR
      rw [bI_f, if_pos rfl]
      exact hRR _ ⟨by simp, rfl⟩
    | true =>
      rw [hc, if_pos rfl] at hRR
      rw [bI_t, if_neg (by decide)]
      exact m_signOf hR hk hp hM.2.2.1 hc (hRR _ ⟨i_comm3 _ _ _, rfl⟩)
  · rintro RR p s ⟨x1, x2⟩ hp169 hip hb2 ⟨e1, e2⟩ hRR
    dsimp only at e1 e2 ⊢
    subst e1; subst e2
    unfold bX6_writhe_11
    rw [l169, if_neg (nI_ge hp169 (by omega)), nI_1]
    refine m_isCr hR hk hp hp169 ?_
    rw [crB_out hip, bI_f, if_pos rfl]
    exact hRR _ ⟨by simp, rfl⟩
  · rintro RR ⟨x1, x2⟩ ⟨e1, e2⟩
    dsimp only at e1 e2 ⊢
    subst e1; subst e2
    unfold bX6_writhe_11
    rw [l169, if_pos (nI_le (by omega) (by omega))]
    exact h _ _ _ _ _ _ _
theorem m_one {r c : Nat} (hR : RC r c) {k : Nat → Nat} (hk : ∀ p, k p ≤ 3) {pts : Nat → Int32} (hp : MpR k pts) {lo dn ro be : Nat → Int32} {lp nc nd : Int32} {part brk : Nat → Int32} {Q : Int32 → (Nat → Int32) → (Nat → Int32) → (Nat → Int32) → (Nat → Int32) → Int32 → Int32 → Int32 → (Nat → Int32) → (Nat → Int32) → Prop} (h : ∀ lo' dn' ro' be' lp' nc' nd' part' brk', Q (aOne r c k) lo' dn' ro' be' lp' nc' nd' part' brk') : wX6_one (nI r) (nI c) pts lo dn ro be lp nc nd part brk Q := by
  unfold wX6_one
  exact m_layOne hR hk hp (fun _ _ _ _ _ _ _ _ _ _ => h _ _ _ _ _ _ _ _ _)
theorem m_oneAt {r c : Nat} (hR : RC r c) {k : Nat → Nat} (hk : ∀ p, k p ≤ 3) {pts : Nat → Int32} (hp : MpR k pts) {lo dn ro be : Nat → Int32} {lp nc nd : Int32} {part brk : Nat → Int32} {x : Int32} {Q : Int32 → (Nat → Int32) → (Nat → Int32) → (Nat → Int32) → (Nat → Int32) → Int32 → Int32 → Int32 → (Nat → Int32) → (Nat → Int32) → Prop} (h : ∀ lo' dn' ro' be' lp' nc' nd' part' brk', Q (aOneAt r c k x) lo' dn' ro' be' lp' nc' nd' part' brk') : wX6_oneAt (nI r) (nI c) pts lo dn ro be lp nc nd part brk x Q := by
  have h36 := ti_36 (k := k) hR
  unfold wX6_oneAt
  refine m_layOne hR hk hp (fun lo' dn' ro' be' lp' nc' nd' part' brk' hb => ?_)
  show wX6_in x.toInt64 (0 : Int32).toInt64 (aOne r c k - 1).toInt64 _
  refine m_in ?_
  unfold aOneAt at h
  unfold aOne
  by_cases q : nI (LY r c k).2.1 - nI (tiE r c k).1 = 1
  · rw [if_pos q] at h ⊢
    by_cases q1 : x < 0
    · rw [if_pos q1] at h ⊢
      rw [if_pos rfl]; exact h _ _ _ _ _ _ _ _ _
    · rw [if_neg q1] at h ⊢
      obtain ⟨j, hj, rfl⟩ := nI_of q1
      rw [nI_clamp hj] at h
      by_cases q2 : nI j < nI (tiE r c k).1
      · rw [if_pos q2] at h
        have hj2 := (nI_ltI hj (by omega)).mp q2
        rw [l1, pk_sub (by omega), if_neg (nI_nlt (by omega) (by omega)), if_neg (by decide)]
        refine ⟨vp_in_nI (by omega) (by omega), ?_⟩
        rw [nI_clamp (by omega), hb j hj2]
        exact h _ _ _ _ _ _ _ _ _
      · rw [if_neg q2] at h
        have hj2 : ¬ j < (tiE r c k).1 := fun z => q2 (nI_lt z (by omega))
        have e : nI (tiE r c k).1 - 1 < nI j := by
          rcases Nat.eq_zero_or_pos (tiE r c k).1 with z | z
          · rw [z]
            exact I_neg_lt (by decide) j hj
          · rw [l1, pk_sub z]
            exact nI_lt (by omega) hj
        rw [if_pos e, if_pos rfl]
        exact h _ _ _ _ _ _ _ _ _
  · rw [if_neg q] at h ⊢
    by_cases q1 : x < 0
    · rw [if_pos q1, if_pos rfl]; exact h _ _ _ _ _ _ _ _ _
    · obtain ⟨j, hj, rfl⟩ := nI_of q1
      rw [if_neg q1, if_pos (I_neg_lt (by decide) j hj), if_pos rfl]
      exact h _ _ _ _ _ _ _ _ _
