/-! the model's answers that count along a loop, or try a break -/
def mI (v : Nat) : Int32 := if v = 1 then 1 else if v = 2 then 0 else -9
theorem mI_inj : ∀ a, a < 3 → ∀ b, b < 3 → (mI a = mI b ↔ a = b) := by decide
theorem mI_now (v : Nat) (h0 : v ≠ 0) (h2 : v ≤ 2) : (if bI (decide (v = 2)) = 0 then (1 : Int32) else 0) = mI v := by
  rcases (show v = 1 ∨ v = 2 by omega) with rfl | rfl <;> rfl
set_option maxHeartbeats 2000000 in
theorem m_along {r c : Nat} (hR : RC r c) {k : Nat → Nat} (hk : ∀ p, k p ≤ 3) {pts : Nat → Int32} (hp : MpR k pts) {lo dn ro be : Nat → Int32} {lp nc nd si : Int32} {x w : Int32} {Q : Int32 → (Nat → Int32) → (Nat → Int32) → (Nat → Int32) → (Nat → Int32) → Int32 → Int32 → Int32 → Int32 → Prop} (h : ∀ lo' dn' ro' be' lp' nc' nd' si', Q (aAlong r c k x w) lo' dn' ro' be' lp' nc' nd' si') : wX6_along (nI r) (nI c) pts lo dn ro be lp nc nd si x w Q := by
  obtain ⟨P, hn, h36⟩ := LY_fact k hR
  unfold wX6_along
  unfold aAlong at h
  refine m_isLoop hR hk hp (fun hno lo' dn' ro' be' lp' nc' nd' hM => ?_) (fun l hs hx hl lo' dn' ro' be' lp' nc' nd' hM => ?_)
  · rw [hno] at h
    rw [if_pos rfl]; exact h _ _ _ _ _ _ _ _
  · rw [hs] at h
    simp only [Option.elim_some] at h
    rw [if_neg (by decide)]
    subst hx
    obtain ⟨m1, m2, m3, m4, m5⟩ := id hM
    obtain ⟨b1, b2⟩ := bg_lim P hl
    rw [nI_1]
    refine ⟨vp_in_nI (by omega) (by omega), vp_in_nI (by omega) (by omega), ?_⟩
    rw [nI_clamp (by omega), m5 l (by omega)]
    unfold lX6_along_48
    refine lp_up (fun i a => (∃ j n, i = (LY r c k).2.2.2.2 l + j ∧ a.1 = nI n ∧ n + (psC r c k (LY r c k) 0 i - psC r c k (LY r c k) 0 ((LY r c k).2.2.2.2 l)) = j ∧ (n = 0 ↔ (alP r c k (LY r c k) l j).2.1 = 0) ∧ a.2.1 = nI (alP r c k (LY r c k) l j).1 ∧ a.2.2.1 = mI (alP r c k (LY r c k) l j).2.2 ∧ a.2.2.2.1 = mI (alP r c k (LY r c k) l j).2.1) ∧ a.2.2.2.2 = nI i) ((LY r c k).2.2.2.2 (l + 1)) ?_ FU ((LY r c k).2.2.2.2 l) _ ⟨⟨0, 0, rfl, rfl, by rw [Nat.sub_self], Iff.rfl, rfl, rfl, rfl⟩, rfl⟩ (by omega) (FU_of (by omega))
    rintro RR i ⟨x4, x5, x6, x7, x8⟩ ⟨⟨j, n, gj, g1, g2, g3, g4, g5, g6⟩, g7⟩ hi hRR
    dsimp only at g1 g4 g5 g6 g7 ⊢
    subst g1; subst g4; subst g5; subst g6; subst g7
    have hJ := alP_ok r c k (LY r c k) l j
    unfold bX6_along_48
    rw [nI_1, nI_clamp (n := l + 1) (by omega), m5 (l + 1) (by omega)]
    by_cases q : i < (LY r c k).2.2.2.2 (l + 1)
    · have hit : i < (LY r c k).1 := by omega
      rw [if_neg (nI_ge q (by omega))]
      refine ⟨vp_in_nI (by omega) (by omega), ?_⟩
      have hq := sq_lt (k := k) hR hit
      obtain ⟨n1, n2, n3, n4, n5⟩ := en_lt hR hq.1
      rw [nI_clamp (n := i) (by omega), m4 i hit]
      refine ⟨vp_in_nI hq.2.2.2 (by omega), ?_⟩
      rw [nI_clamp (by omega), m3 i hit, nI_1]
      refine m_behind hq.2.1 hq.2.2.1 (m_isCr hR hk hp n3 ?_)
      have h3 := psT_2 r c k (LY r c k) i
      have hst : alP r c k (LY r c k) l (j + 1) = alG (psT r c k (LY r c k) i) (alP r c k (LY r c k) l j) := by rw [gj]; rfl
      have hsc := psC_succ r c k (LY r c k) 0 i
      have hmo : psC r c k (LY r c k) 0 ((LY r c k).2.2.2.2 l) ≤ psC r c k (LY r c k) 0 i := psC_mono (by omega)
      rcases psT_st (k := k) hR hit with ⟨hc, d, hst2, hd, hps⟩ | ⟨hc, hps⟩
      · have hne : psT r c k (LY r c k) i ≠ 0 := by rw [hps]; split <;> omega
        rw [hc, bI_t, if_neg (by decide)]
        refine m_isUnder hR hk hp m3 hit ?_
        rw [mI_now _ hne h3, nI_1]
        rw [if_neg hne] at hsc
        clear hps hd hst2
        generalize psT r c k (LY r c k) i = v at hne h3 hst ⊢
        have e1 : (alP r c k (LY r c k) l (j + 1)).1 = (if v = (alP r c k (LY r c k) l j).2.2 then (alP r c k (LY r c k) l j).1 + 1 else (alP r c k (LY r c k) l j).1) := by rw [hst]; unfold alG; rw [if_neg hne]
        have e2 : (alP r c k (LY r c k) l (j + 1)).2.1 = (if (alP r c k (LY r c k) l j).2.1 = 0 then v else (alP r c k (LY r c k) l j).2.1) := by rw [hst]; unfold alG; rw [if_neg hne]
        have e3 : (alP r c k (LY r c k) l (j + 1)).2.2 = v := by rw [hst]; unfold alG; rw [if_neg hne]
        obtain ⟨j1, j2, j3, j4, j5⟩ := hJ
        have hmi := mI_inj v (by omega) (alP r c k (LY r c k) l j).2.2 (by omega)
        refine hRR q _ ⟨⟨j + 1, n + 1, by omega, rfl, by omega, ?_, ?_, ?_, ?_⟩, rfl⟩
        · rw [e2]
          constructor
          · intro z; omega
          · intro z
            split at z <;> omega
        · show nI (alP r c k (LY r c k) l j).1 + (if mI v = mI (alP r c k (LY r c k) l j).2.2 then 1 else 0) = _
          rw [e1]
          by_cases z : v = (alP r c k (LY r c k) l j).2.2
          · rw [if_pos (hmi.mpr z), if_pos z, nI_1]
          · rw [if_neg (fun y => z (hmi.mp y)), if_neg z]; simp
        · show mI v = _
          rw [e3]
        · show (if nI n = 0 then mI v else mI (alP r c k (LY r c k) l j).2.1) = _
          rw [e2]
          by_cases z : n = 0
          · rw [if_pos (by rw [z]; rfl), if_pos (g3.mp z)]
          · have hn2 : n ≤ 144 := by omega
            rw [if_neg (nI_ne0 (by omega) (by omega)), if_neg (fun y => z (g3.mpr y))]
      · rw [hc, bI_f, if_pos rfl]
        rw [if_pos hps] at hsc
        have hst3 : alP r c k (LY r c k) l (j + 1) = alP r c k (LY r c k) l j := by rw [hst]; unfold alG; rw [if_pos hps]
        refine hRR q _ ⟨⟨j + 1, n, by omega, rfl, by omega, ?_, ?_, ?_, ?_⟩, rfl⟩
        · rw [hst3]; exact g3
        · rw [hst3]
        · rw [hst3]
        · rw [hst3]
    · rw [if_pos (nI_le (by omega) (by omega))]
      have hi2 : i = (LY r c k).2.2.2.2 (l + 1) := by omega
      subst hi2
      have ej : j = lenL (LY r c k) l := by unfold lenL; omega
      have eb : n + bendsL r c k (LY r c k) l = lenL (LY r c k) l := by unfold bendsL; omega
      rw [ej] at hJ g3 ⊢
      clear hRR
      have hlen : nI ((LY r c k).2.2.2.2 (l + 1)) - nI ((LY r c k).2.2.2.2 l) = nI (lenL (LY r c k) l) := pk_sub (by omega)
      have hl144 : lenL (LY r c k) l ≤ 144 := by unfold lenL; omega
      obtain ⟨j1, j2, j3, j4, j5⟩ := hJ
      unfold wX6_along_X159
      rw [nI_1, nI_clamp (n := l) (by omega), nI_clamp (n := l + 1) (by omega), m5 l (by omega), m5 (l + 1) (by omega), hlen]
      by_cases w0 : w = 0
      · rw [if_pos w0] at h ⊢
        refine ⟨vp_in_nI (by omega) (by omega), ?_⟩
        have hb : (LY r c k).2.2.2.2 l < (LY r c k).1 := by omega
        rw [nI_clamp (by omega), m4 _ hb]
        have hq := sq_lt (k := k) hR hb
        exact m_toldCell hq.2.1 hq.2.2.1 (h _ _ _ _ _ _ _ _)
      rw [if_neg w0] at h ⊢
      by_cases w1 : w = 1
      · rw [if_pos w1] at h ⊢; exact h _ _ _ _ _ _ _ _
      rw [if_neg w1] at h ⊢
      by_cases w2 : w = 2
      · rw [if_pos w2] at h ⊢
        rw [pk_sub (by omega), show lenL (LY r c k) l - n = bendsL r c k (LY r c k) l by omega]
        exact h _ _ _ _ _ _ _ _
      rw [if_neg w2] at h ⊢
      by_cases w3 : w = 3
      · rw [if_pos w3] at h ⊢
        rw [show lenL (LY r c k) l - bendsL r c k (LY r c k) l = n by omega] at h
        exact h _ _ _ _ _ _ _ _
      rw [if_neg w3] at h ⊢
      by_cases w4 : w = 4
      · rw [if_pos w4] at h ⊢
        exact m_common hR hk hp m2 m3 (by omega) (by omega) (h _ _ _ _ _ _ _ _)
      rw [if_neg w4] at h ⊢
      by_cases w5 : w = 5
      · rw [if_pos w5] at h ⊢
        have e : nI (alP r c k (LY r c k) l (lenL (LY r c k) l)).1 + (if nI n ≤ 0 then (0 : Int32) else if mI (alP r c k (LY r c k) l (lenL (LY r c k) l)).2.1 = mI (alP r c k (LY r c k) l (lenL (LY r c k) l)).2.2 then 1 else 0) = nI (unE r c k (LY r c k) l) := by
          unfold unE alE
          have hmi := mI_inj (alP r c k (LY r c k) l (lenL (LY r c k) l)).2.1 (by omega) (alP r c k (LY r c k) l (lenL (LY r c k) l)).2.2 (by omega)
          by_cases z : n = 0
          · have y1 := j2.mp (g3.mp z)
            rw [z, if_pos (by decide), if_neg (fun y => y.1 y1)]
            simp
          · have y1 : (alP r c k (LY r c k) l (lenL (LY r c k) l)).2.2 ≠ 0 := fun y => z (g3.mpr (j2.mpr y))
            rw [if_neg (nI_nle (by omega) (by omega))]
            by_cases u : (alP r c k (LY r c k) l (lenL (LY r c k) l)).2.1 = (alP r c k (LY r c k) l (lenL (LY r c k) l)).2.2
            · rw [if_pos (hmi.mpr u), if_pos ⟨y1, u⟩, nI_1]
            · rw [if_neg (fun y => u (hmi.mp y)), if_neg (fun y => u y.2)]
              simp
        rw [e]
        exact h _ _ _ _ _ _ _ _
      rw [if_neg w5] at h ⊢
      exact h _ _ _ _ _ _ _ _
theorem m_loopsBy {r c : Nat} (hR : RC r c) {k : Nat → Nat} (hk : ∀ p, k p ≤ 3) {pts : Nat → Int32} (hp : MpR k pts) {lo dn ro be : Nat → Int32} {lp nc nd : Int32} {p v : Nat} (h169 : p < 169) (hv : v ≤ 3) {Q : Int32 → (Nat → Int32) → (Nat → Int32) → (Nat → Int32) → (Nat → Int32) → (Nat → Int32) → Int32 → Int32 → Int32 → Prop} (h : ∀ pts' lo' dn' ro' be' lp' nc' nd', MpR k pts' → Q (nI (LY r c (kU k p v)).2.1) pts' lo' dn' ro' be' lp' nc' nd') : wX6_loopsBy (nI r) (nI c) pts lo dn ro be lp nc nd (nI p) (nI v) Q := by
  unfold wX6_loopsBy
  refine ⟨vp_in_nI h169 (by omega), ?_⟩
  rw [nI_clamp (by omega)]
  refine m_layLoops hR (kU_3 hk hv) (hp.put p v) (fun lo' dn' ro' be' nc' nd' hM => ?_)
  refine h _ _ _ _ _ _ _ _ (fun q hq => ?_)
  rw [upd_e, upd_e]
  by_cases z : q = p
  · rw [if_pos z, z]; exact hp p h169
  · rw [if_neg z, if_neg z]; exact hp q hq
theorem m_by {r c : Nat} (hR : RC r c) {k : Nat → Nat} (hk : ∀ p, k p ≤ 3) {pts : Nat → Int32} (hp : MpR k pts) {lo dn ro be : Nat → Int32} {lp nc nd : Int32} {x w : Int32} {Q : Int32 → (Nat → Int32) → (Nat → Int32) → (Nat → Int32) → (Nat → Int32) → (Nat → Int32) → Int32 → Int32 → Int32 → Prop} (h : ∀ pts' lo' dn' ro' be' lp' nc' nd', MpR k pts' → Q (aBy r c k x w) pts' lo' dn' ro' be' lp' nc' nd') : wX6_by (nI r) (nI c) pts lo dn ro be lp nc nd x w Q := by
  unfold wX6_by
  unfold aBy at h
  refine m_placeOf hR (fun z => ?_) (fun p z hi h169 => ?_)
  · rw [z] at h
    rw [if_pos rfl]; exact h _ _ _ _ _ _ _ _ hp
  · rw [z] at h
    simp only [Option.elim_some] at h
    rw [if_neg (neg_ne (by omega) (by decide))]
    refine m_rg 0 2 (by decide) (by decide) (by omega) (by omega) (fun y => ?_) (fun v y => ?_)
    · rw [y] at h
      rw [if_pos rfl]; exact h _ _ _ _ _ _ _ _ hp
    · rw [y] at h
      obtain ⟨rfl, -, y2, -⟩ := rgI_some y
      rw [if_neg (by decide)]
      exact m_loopsBy hR hk hp h169 (by omega) h
set_option maxHeartbeats 1000000 in
theorem m_most {r c : Nat} (hR : RC r c) {k : Nat → Nat} (hk : ∀ p, k p ≤ 3) {pts : Nat → Int32} (hp : MpR k pts) {lo dn ro be : Nat → Int32} {lp nc nd : Int32} {w : Int32} {Q : Int32 → (Nat → Int32) → (Nat → Int32) → (Nat → Int32) → (Nat → Int32) → (Nat → Int32) → Int32 → Int32 → Int32 → Prop} (h : ∀ pts' lo' dn' ro' be' lp' nc' nd', MpR k pts' → Q (aMost r c k w) pts' lo' dn' ro' be' lp' nc' nd') : wX6_most (nI r) (nI c) pts lo dn ro be lp nc nd w Q := by
  unfold wX6_most
  unfold aMost at h
  refine m_rg 1 2 (by decide) (by decide) (by omega) (by omega) (fun y => ?_) (fun v y => ?_)
  · rw [y] at h
    rw [if_pos rfl]; exact h _ _ _ _ _ _ _ _ hp
  · rw [y] at h
    simp only [Option.elim_some] at h
    obtain ⟨rfl, -, y2, -⟩ := rgI_some y
    rw [if_neg (by decide)]
    unfold lX6_most_23
    refine lp_pla (r := r) (c := c) (moG r c k v) ((-9, 0) : Int32 × Nat) (fun i s a => a.1 = s.1 ∧ a.2.1 = nI s.2 ∧ a.2.2.1 = nI i ∧ MpR k a.2.2.2.1) ?_ ?_ ?_ FU _ ⟨rfl, rfl, rfl, hp⟩ (FU_of (by omega))
    · rintro RR p s ⟨x1, x2, x3, pt, x4, x5, x6, x7, x8, x9, x10⟩ hp169 hip hb ⟨e1, e2, e3, e4⟩ hRR
      have hs36 : s.2 ≤ 36 := by rw [hb]; exact mo_36 hR p
      dsimp only at e1 e2 e3 e4 ⊢
      subst e1; subst e2; subst e3
      unfold bX6_most_23
      rw [l169, if_neg (nI_ge hp169 (by omega))]
      refine m_isCr hR hk e4 hp169 ?_
      unfold moG at hRR
      cases hc : crB r c k p with
      | false =>
        rw [hc, if_neg (by decide)] at hRR
        rw [bI_f, if_pos rfl]
        unfold wX6_most_J51 wX6_most_J68
        rw [l0, if_pos (nI_le (Nat.zero_le _) (by omega)), if_pos (nI_le (Nat.zero_le _) (by omega)), nI_1]
        exact hRR _ ⟨rfl, rfl, rfl, e4⟩
      | true =>
        rw [hc, if_pos rfl] at hRR
        rw [bI_t, if_neg (by decide)]
        refine m_loopsBy hR hk e4 hp169 (by omega) (fun pt' lo' dn' ro' be' lp' nc' nd' hp' => ?_)
        have hn36 := (LY_fact (r := r) (c := c) (kU k p v) hR).2.2
        unfold wX6_most_J51 wX6_most_J68
        by_cases hm : s.2 < (LY r c (kU k p v)).2.1
        · rw [if_pos hm] at hRR
          rw [if_neg (nI_ge hm (by omega))]
          refine m_toldOf hp169 ?_
          rw [if_neg (nI_ge hm (by omega)), nI_1]
          exact hRR _ ⟨rfl, rfl, rfl, hp'⟩
        · rw [if_neg hm] at hRR
          rw [if_pos (nI_le (by omega) (by omega)), if_pos (nI_le (by omega) (by omega)), nI_1]
          exact hRR _ ⟨rfl, rfl, rfl, hp'⟩
    · rintro RR p s ⟨x1, x2, x3, pt, x4, x5, x6, x7, x8, x9, x10⟩ hp169 hip hb ⟨e1, e2, e3, e4⟩ hRR
      have hs36 : s.2 ≤ 36 := by rw [hb]; exact mo_36 hR p
      dsimp only at e1 e2 e3 e4 ⊢
      subst e1; subst e2; subst e3
      unfold bX6_most_23
      rw [l169, if_neg (nI_ge hp169 (by omega))]
      refine m_isCr hR hk e4 hp169 ?_
      rw [crB_out hip, bI_f, if_pos rfl]
      unfold wX6_most_J51 wX6_most_J68
      rw [l0, if_pos (nI_le (Nat.zero_le _) (by omega)), if_pos (nI_le (Nat.zero_le _) (by omega)), nI_1]
      exact hRR _ ⟨rfl, rfl, rfl, e4⟩
    · rintro RR ⟨x1, x2, x3, pt, x4, x5, x6, x7, x8, x9, x10⟩ ⟨e1, e2, e3, e4⟩
      dsimp only at e1 e2 e3 e4 ⊢
      subst e1; subst e3
      unfold bX6_most_23
      rw [l169, if_pos (nI_le (by omega) (by omega))]
      exact h _ _ _ _ _ _ _ _ e4
theorem s_turnM {q : Nat} (hq : q < 4) {s : TN} (hs : tnI s) {x : Int32} (hx : jr x 4 = nI q) {K : Int32 → Int32 → Prop} (h : K (nI (tn q s).1) (nI (tn q s).2.1)) : lX6_same_141 x K FU (nI s.1) (nI s.2.1) (nI s.2.2.1) (nI s.2.2.2) 0 := by
  unfold lX6_same_141
  refine lp_up (fun i a => ∃ u : TN, tnI u ∧ tn (q - i) u = tn q s ∧ a.1 = nI u.1 ∧ a.2.1 = nI u.2.1 ∧ a.2.2.1 = nI u.2.2.1 ∧ a.2.2.2.1 = nI u.2.2.2 ∧ a.2.2.2.2 = nI i) q ?_ FU 0 _ ⟨s, hs, rfl, rfl, rfl, rfl, rfl, rfl⟩ (Nat.zero_le _) (FU_of (by omega))
  rintro RR i ⟨x4, x5, x6, x7, x8⟩ ⟨u, hu, hT, e1, e2, e3, e4, e5⟩ hi hRR
  dsimp only at e1 e2 e3 e4 e5 ⊢
  subst e1; subst e2; subst e3; subst e4; subst e5
  unfold bX6_same_141
  rw [hx]
  by_cases z : i < q
  · obtain ⟨h1, h2, h3, h4, h5, h6, h7, h8, h9⟩ := id hu
    rw [if_neg (nI_ge z (by omega)), pk_sub (by omega), nI_1]
    refine hRR z _ ⟨(u.2.1, u.2.2.1 - u.1, u.2.2.2, u.2.2.1), tnI_step hu, ?_, rfl, rfl, rfl, rfl, rfl⟩
    rw [← hT, show q - i = (q - (i + 1)) + 1 by omega]
    rfl
  · rw [if_pos (nI_le (by omega) (by omega))]
    have : i = q := by omega
    subst this
    rw [Nat.sub_self] at hT
    have hT2 : u = tn i s := hT
    rw [← hT2] at h
    exact h
set_option maxHeartbeats 1000000 in
theorem m_same {r c : Nat} (hR : RC r c) {k : Nat → Nat} (hk : ∀ p, k p ≤ 3) {pts : Nat → Int32} (hp : MpR k pts) {x : Int32} {Q : Int32 → Prop} (h : Q (aSame r c k x)) : wX6_same (nI r) (nI c) pts x Q := by
  obtain ⟨r1, r2, r3, r4⟩ := id hR
  unfold wX6_same
  unfold aSame at h
  refine m_rg 0 7 (by decide) (by decide) (by omega) (by omega) (fun y => ?_) (fun t y => ?_)
  · rw [y] at h
    rw [if_pos rfl]; exact h
  · rw [y] at h
    simp only [Option.elim_some] at h
    obtain ⟨rfl, -, ht, -⟩ := rgI_some y
    rw [if_neg (by decide)]
    have hodd : (if jr (nI t) 2 = 1 then (1 : Int32) else 0) = bI (decide (t % 2 = 1)) := odd_I (by omega)
    have hrc : (if nI r = nI c then (1 : Int32) else 0) = bI (decide (r = c)) := eq_I (by omega) (by omega)
    have h4 : jr (nI t) 4 = nI (t % 4) := jr_nI (b := 4) (by omega) (by omega) (by omega)
    have h0 : (if bI (decide (t % 2 = 1)) = 0 then (1 : Int32) else bI (decide (r = c))) = bI (decide (t % 2 = 0) || decide (r = c)) := by
      by_cases z : t % 2 = 1
      · rw [decide_eq_true z, bI_t, if_neg (by decide), decide_eq_false (show ¬ t % 2 = 0 by omega), Bool.false_or]
      · rw [decide_eq_false z, bI_f, if_pos rfl, decide_eq_true (show t % 2 = 0 by omega), Bool.true_or]; rfl
    rw [hodd, hrc, h0]
    unfold lX6_same_52
    refine lp_up (fun i a => a.1 = bI ((decide (t % 2 = 0) || decide (r = c)) && FP r c (fun p b => b && smB r c k t p) true i) ∧ a.2 = nI i) 169 ?_ FU 0 _ ⟨?_, rfl⟩ (Nat.zero_le _) (FU_of (by omega))
    · rintro RR i ⟨x3, x4⟩ ⟨e1, e2⟩ hi hRR
      dsimp only at e1 e2 ⊢
      subst e2
      unfold bX6_same_52
      rw [l169]
      have fin : (bI (smE r c k t) = x3) → wX6_same_X245 Q x3 := by
        intro e
        unfold wX6_same_X245
        rw [← e]
        cases hs : smE r c k t
        · rw [hs] at h; exact h
        · rw [hs] at h; exact h
      by_cases q : i < 169
      · rw [if_neg (nI_ge q (by omega))]
        cases hv : ((decide (t % 2 = 0) || decide (r = c)) && FP r c (fun p b => b && smB r c k t p) true i) with
        | false =>
          rw [hv] at e1
          subst e1
          rw [bI_f, if_pos rfl]
          refine fin ?_
          have : smE r c k t = false := by
            cases hs : smE r c k t with
            | false => rfl
            | true =>
              exfalso
              unfold smE at hs
              obtain ⟨s1, s2⟩ := Bool.and_eq_true_iff.mp hs
              rw [s1, Bool.true_and] at hv
              have s3 : FP r c (fun p b => b && smB r c k t p) true i = true := (FP_all i).mpr (fun p hp hi2 => (FP_all 169).mp s2 p (by omega) hi2)
              rw [s3] at hv
              cases hv
          rw [this, bI_f]
        | true =>
          rw [hv] at e1
          subst e1
          rw [bI_t, if_neg (by decide), nI_1]
          obtain ⟨s1, s2⟩ := Bool.and_eq_true_iff.mp hv
          refine m_isInnerP hR q ?_
          cases hq : inn r c i with
          | false =>
            rw [bI_f, if_pos rfl]
            refine hRR q _ ⟨?_, rfl⟩
            show 1 = _
            rw [FP_out hq, s1, s2]; rfl
          | true =>
            rw [bI_t, if_neg (by decide)]
            obtain ⟨g1, g2, g3, g4, g5⟩ := inn_iff.mp hq
            have hrc2 : t % 2 = 0 ∨ r = c := by
              rcases Bool.or_eq_true_iff.mp s1 with z | z
              · exact Or.inl (of_decide_eq_true z)
              · exact Or.inr (of_decide_eq_true z)
            rw [l13, pk_div (by omega) (by omega) (by omega), jr_nI (by omega) (by omega) (by omega), l2, pk_mul, pk_mul]
            have hx : (if (4 : Int32) ≤ nI t then nI (2 * c) - nI (i % 13) else nI (i % 13)) = nI (if t < 4 then i % 13 else 2 * c - i % 13) := by
              rw [l4]
              by_cases z : t < 4
              · rw [if_pos z, if_neg (nI_ge z (by omega))]
              · rw [if_neg z, if_pos (nI_le (by omega) (by omega)), pk_sub (by omega)]
            rw [hx]
            refine s_turnM (q := t % 4) (s := tnS r c t i) (by omega) (tnS_I hR hq) h4 ?_
            have hin := tnP_in (t := t) hR hq hrc2
            have hlim := inYX_lt hR hin
            have hP : 13 * (tn (t % 4) (tnS r c t i)).1 + (tn (t % 4) (tnS r c t i)).2.1 = tnP r c t i := rfl
            unfold wX6_same_X182
            refine ⟨vp_in_nI q (by omega), ?_⟩
            rw [l13, pk_mul, nI_add, hP]
            have hP169 : tnP r c t i < 169 := by rw [← hP]; omega
            refine ⟨vp_in_nI hP169 (by omega), ?_⟩
            have k1 := hk i
            have k2 := hk (tnP r c t i)
            rw [nI_clamp (by omega), nI_clamp (by omega), hp i q, hp _ hP169, l3, jr_nI (by omega) (by omega) (by omega), jr_nI (by omega) (by omega) (by omega)]
            have hodd2 : (if jr (nI t) 2 = 1 then (1 : Int32) else 0) = bI (decide (t % 2 = 1)) := hodd
            rw [hodd2, nI_1]
            have hthen : (if bI (decide (t % 2 = 1)) = 0 then nI (k i % 3) else if nI (k i % 3) ≤ 0 then nI (k i % 3) else nI 3 - nI (k i % 3)) = nI (if t % 2 = 1 ∧ 0 < k i % 3 then 3 - k i % 3 else k i % 3) := by
              by_cases z : t % 2 = 1
              · rw [decide_eq_true z, bI_t, if_neg (by decide)]
                by_cases y : 0 < k i % 3
                · rw [if_neg (nI_nle y (by omega)), if_pos ⟨z, y⟩, pk_sub (by omega)]
                · rw [show k i % 3 = 0 by omega, if_pos (show nI 0 ≤ 0 by decide), if_neg (fun w => absurd w.2 (Nat.lt_irrefl 0))]
              · rw [decide_eq_false z, bI_f, if_pos rfl, if_neg (fun w => z w.1)]
            rw [hthen, eq_I (by omega) (by split <;> omega)]
            refine hRR q _ ⟨?_, rfl⟩
            show bI _ = _
            rw [FP_in hq, s1, s2, Bool.true_and, Bool.true_and]
            rfl
      · rw [if_pos (nI_le (by omega) (by omega))]
        have : i = 169 := by omega
        subst this
        refine fin ?_
        rw [e1]; rfl
    · show bI _ = bI (_ && true)
      rw [Bool.and_true]
