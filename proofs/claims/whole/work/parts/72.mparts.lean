/-! the model: parts, the fewest breaks -/
def PtR (L : Nat) (b : TS) (part : Nat → Int32) : Prop := ∃ h : Nat → Nat, (∀ l, l < L → h l < L ∧ part l = nI (h l)) ∧ ∀ x y, x < L → y < L → (b.2.2 x = b.2.2 y ↔ h x = h y)
theorem m_join {L : Nat} (hL : L ≤ 36) {h : Nat → Nat} {part : Nat → Int32} (hp : ∀ l, l < L → h l < L ∧ part l = nI (h l)) {a b : Nat} (ha : a < L) (hb : b < L) {Q : Int32 → (Nat → Int32) → Prop} (hQ : ∀ part', (∀ l, l < L → part' l = nI (if h l = h b then h a else h l)) → Q (bI (decide (h a ≠ h b))) part') : wX6_join (nI L) part (nI a) (nI b) Q := by
  unfold wX6_join
  refine ⟨vp_in_nI (by omega) (by omega), vp_in_nI (by omega) (by omega), ?_⟩
  unfold lX6_join_18
  have pa := hp a ha
  have pb := hp b hb
  refine lp_up (fun i x => x.1 = nI i ∧ (∀ l, l < i → x.2 l = nI (if h l = h b then h a else h l)) ∧ ∀ l, i ≤ l → l < L → x.2 l = nI (h l)) L ?_ FU 0 _ ⟨rfl, fun l hl => absurd hl (Nat.not_lt_zero _), fun l _ hl => (hp l hl).2⟩ (Nat.zero_le _) (FU_of (by omega))
  rintro RR i ⟨x1, f'⟩ ⟨g1, g2, g3⟩ hi hRR
  dsimp only at g1 g2 g3 ⊢
  subst g1
  unfold bX6_join_18
  rw [nI_clamp (n := a) (by omega), nI_clamp (n := b) (by omega), pa.2, pb.2]
  by_cases q : i < L
  · have hi2 := hp i q
    rw [if_neg (nI_ge q (by omega))]
    refine ⟨vp_in_nI (by omega) (by omega), ?_⟩
    rw [nI_clamp (by omega), nI_1, g3 i (Nat.le_refl _) q]
    have key : ∀ v : Int32, v = nI (if h i = h b then h a else h i) → RR (nI (i + 1), upd f' i v) := by
      intro v hv
      refine hRR q _ ⟨rfl, fun l hl => ?_, fun l h1 h2 => ?_⟩
      · show upd f' i _ l = _
        rw [upd_e]
        by_cases y : l = i
        · rw [if_pos y, y]; exact hv
        · rw [if_neg y]; exact g2 l (by omega)
      · show upd f' i _ l = _
        rw [upd_e, if_neg (by omega)]; exact g3 l (by omega) h2
    by_cases z : h i = h b
    · rw [if_pos (by rw [z])]
      exact key _ (by rw [if_pos z])
    · rw [if_neg (fun e => z (nI_inj (by omega) (by omega) e))]
      exact key _ (by rw [if_neg z])
  · rw [if_pos (nI_le (by omega) (by omega))]
    have : i = L := by omega
    subst this
    unfold wX6_join_X63
    rw [nI_clamp (n := a) (by omega), nI_clamp (n := b) (by omega), pa.2, pb.2]
    have e : (if nI (h a) = nI (h b) then (0 : Int32) else 1) = bI (decide (h a ≠ h b)) := by
      by_cases z : h a = h b
      · rw [if_pos (by rw [z]), decide_eq_false (fun w => w z)]; rfl
      · rw [if_neg (fun e => z (nI_inj (by omega) (by omega) e)), decide_eq_true z]; rfl
    rw [e]
    exact hQ _ g2
/-- a crossing's two loops joined -/
theorem m_joinT {L : Nat} (hL : L ≤ 36) {b : TS} {part : Nat → Int32} (hp : PtR L b part) {f u p : Nat} (hf : f < L) (hu : u < L) {Q : Int32 → (Nat → Int32) → Prop} (h1 : b.2.2 f = b.2.2 u → ∀ part', PtR L (tiJ f u p b) part' → Q 0 part') (h2 : b.2.2 f ≠ b.2.2 u → ∀ part', PtR L (tiJ f u p b) part' → Q 1 part') : wX6_join (nI L) part (nI f) (nI u) Q := by
  obtain ⟨h, ha, hb⟩ := hp
  refine m_join hL ha hf hu (fun part' hp' => ?_)
  have efu := hb f u hf hu
  have hr : ∀ l, l < L → (if h l = h u then h f else h l) < L ∧ part' l = nI (if h l = h u then h f else h l) := by
    intro l hl
    refine ⟨?_, hp' l hl⟩
    split
    · exact (ha f hf).1
    · exact (ha l hl).1
  by_cases z : b.2.2 f = b.2.2 u
  · rw [decide_eq_false (fun w => w (efu.mp z)), bI_f]
    refine h1 z part' ⟨_, hr, fun x y hx hy => ?_⟩
    have e : tiJ f u p b = b := if_pos z
    rw [e]
    have e1 := hb x y hx hy
    have e2 := efu.mp z
    split <;> split <;> omega
  · have z2 : h f ≠ h u := fun w => z (efu.mpr w)
    rw [decide_eq_true z2, bI_t]
    refine h2 z part' ⟨_, hr, fun x y hx hy => ?_⟩
    have e : (tiJ f u p b).2.2 = fun l => if b.2.2 l = b.2.2 f then b.2.2 u else b.2.2 l := by unfold tiJ; rw [if_neg z]
    rw [e]
    dsimp only
    have e1 := hb x y hx hy
    have e2 := hb x f hx hf
    have e3 := hb x u hx hu
    have e4 := hb y f hy hf
    have e5 := hb y u hy hu
    split <;> split <;> split <;> split <;> omega
theorem PtR_0 {L : Nat} {part : Nat → Int32} (h : ∀ l, l < L → part l = nI l) : PtR L ti0 part := ⟨fun l => l, fun l hl => ⟨hl, h l hl⟩, fun _ _ _ _ => Iff.rfl⟩
theorem i_sub3 (a b c : Int32) : a - b - c = a - (b + c) := by grind
theorem i_subE (a b : Int32) : a = b - 1 ↔ b - a = 1 := by grind
/-- a crossing's two cells, their loops joined -/
theorem m_cross {r c : Nat} (hR : RC r c) {k : Nat → Nat} (hk : ∀ p, k p ≤ 3) {pts : Nat → Int32} (hp : MpR k pts) {lo : Nat → Int32} (hO : OwR (LY r c k) lo) {p : Nat} (hc : crB r c k p = true) {G : Int32 → Int32 → Prop} (h : G (nI (lpD (LY r c k) p (ovD k p))) (nI (lpD (LY r c k) p (!ovD k p)))) : wX6_strand pts (nI p) 1 (fun r59 => (vp_in r59 144 ∧ (wX6_strand pts (nI p) 0 (fun r70 => (vp_in r70 144 ∧ G (lo r59.toNatClampNeg) (lo r70.toNatClampNeg)))))) := by
  have hi := crB_inn hc
  have h169 := inn_lt hR hi
  have o1 : (ovD k p == true) = ovD k p := by cases ovD k p <;> rfl
  have o2 : (ovD k p == false) = !ovD k p := by cases ovD k p <;> rfl
  refine m_strand (o := true) hk hp h169 hi ?_
  rw [o1]
  obtain ⟨u1, u2⟩ := up_own hR hc (ovD k p) hO
  obtain ⟨v1, v2⟩ := up_own hR hc (!ovD k p) hO
  refine ⟨vp_in_nI u1 (by omega), m_strand (o := false) hk hp h169 hi ?_⟩
  rw [o2]
  refine ⟨vp_in_nI v1 (by omega), ?_⟩
  rw [nI_clamp (by omega), nI_clamp (by omega), u2, v2]
  exact h
set_option maxHeartbeats 1000000 in
theorem m_layParts {r c : Nat} (hR : RC r c) {k : Nat → Nat} (hk : ∀ p, k p ≤ 3) {pts : Nat → Int32} (hp : MpR k pts) {lo dn ro be : Nat → Int32} {lp nc nd : Int32} {part : Nat → Int32} {Q : Int32 → (Nat → Int32) → (Nat → Int32) → (Nat → Int32) → (Nat → Int32) → Int32 → Int32 → Int32 → (Nat → Int32) → Prop}
    (h : ∀ lo' dn' ro' be' lp' nc' nd' part', MdR (LY r c k) lo' dn' ro' be' lp' → Q (nI (LY r c k).2.1 - nI (tiE r c k).1) lo' dn' ro' be' lp' nc' nd' part') : wX6_layParts (nI r) (nI c) pts lo dn ro be lp nc nd part Q := by
  obtain ⟨P, hn, h36⟩ := LY_fact k hR
  unfold wX6_layParts
  refine m_layLoops hR hk hp (fun lo' dn' ro' be' nc' nd' hM => ?_)
  have hM2 := hM
  obtain ⟨m1, m2, m3, m4, m5⟩ := hM2
  unfold lX6_layParts_7
  refine lp_up (fun i x => x.1 = nI i ∧ ∀ l, l < i → x.2 l = nI l) (LY r c k).2.1 ?_ FU 0 _ ⟨rfl, fun l hl => absurd hl (Nat.not_lt_zero _)⟩ (Nat.zero_le _) (FU_of (by omega))
  rintro RR i ⟨x1, f⟩ ⟨g1, g2⟩ hi hRR
  dsimp only at g1 g2 ⊢
  subst g1
  unfold bX6_layParts_7
  by_cases q : i < (LY r c k).2.1
  · rw [if_neg (nI_ge q (by omega))]
    refine ⟨vp_in_nI (by omega) (by omega), ?_⟩
    rw [nI_clamp (by omega), nI_1]
    refine hRR q _ ⟨rfl, fun l hl => ?_⟩
    show upd f i _ l = _
    rw [upd_e]
    by_cases y : l = i
    · rw [if_pos y, y]
    · rw [if_neg y]; exact g2 l (by omega)
  · rw [if_pos (nI_le (by omega) (by omega))]
    have : i = (LY r c k).2.1 := by omega
    subst this
    unfold wX6_layParts_X28 lX6_layParts_35
    refine lp_pla (r := r) (c := c) (tiG r c k) ti0 (fun i b x => x.1 = nI (LY r c k).2.1 - nI b.1 ∧ x.2.1 = nI i ∧ PtR (LY r c k).2.1 b x.2.2) ?_ ?_ ?_ FU _ ⟨by show nI (LY r c k).2.1 = nI (LY r c k).2.1 - nI 0; rw [nI_0]; simp, rfl, PtR_0 g2⟩ (FU_of (by omega))
    · rintro RR p b ⟨x1, x2, pa⟩ hp169 hip hb2 ⟨e1, e2, e3⟩ hRR
      dsimp only at e1 e2 e3 ⊢
      subst e1; subst e2
      unfold bX6_layParts_35
      rw [l169, if_neg (nI_ge hp169 (by omega)), nI_1]
      refine m_isCr hR hk hp hp169 ?_
      cases hc : crB r c k p with
      | false =>
        have e : tiG r c k p b = b := if_neg (by rw [hc]; decide)
        rw [e] at hRR
        rw [bI_f, if_pos rfl]
        exact hRR _ ⟨rfl, rfl, e3⟩
      | true =>
        have e : tiG r c k p b = tiJ (lpD (LY r c k) p (ovD k p)) (lpD (LY r c k) p (!ovD k p)) p b := if_pos hc
        rw [e] at hRR
        rw [bI_t, if_neg (by decide)]
        refine m_cross (G := fun a b' => wX6_join (nI (LY r c k).2.1) pa a b' _) hR hk hp m2 hc ?_
        have b1 := (lpD_lt hR hc (ovD k p)).1
        have b2 := (lpD_lt hR hc (!ovD k p)).1
        refine m_joinT (p := p) h36 e3 b1 b2 (fun z part' hp' => ?_) (fun z part' hp' => ?_)
        · refine hRR _ ⟨?_, rfl, hp'⟩
          have e9 : tiJ (lpD (LY r c k) p (ovD k p)) (lpD (LY r c k) p (!ovD k p)) p b = b := if_pos z
          rw [e9]
          simp
        · refine hRR _ ⟨?_, rfl, hp'⟩
          have e9 : (tiJ (lpD (LY r c k) p (ovD k p)) (lpD (LY r c k) p (!ovD k p)) p b).1 = b.1 + 1 := by unfold tiJ; rw [if_neg z]
          rw [e9]
          exact (i_sub3 _ _ 1).trans (by rw [nI_1])
    · rintro RR p b ⟨x1, x2, pa⟩ hp169 hip hb2 ⟨e1, e2, e3⟩ hRR
      dsimp only at e1 e2 e3 ⊢
      subst e1; subst e2
      unfold bX6_layParts_35
      rw [l169, if_neg (nI_ge hp169 (by omega)), nI_1]
      refine m_isCr hR hk hp hp169 ?_
      rw [crB_out hip, bI_f, if_pos rfl]
      exact hRR _ ⟨rfl, rfl, e3⟩
    · rintro RR ⟨x1, x2, pa⟩ ⟨e1, e2, e3⟩
      dsimp only at e1 e2 e3 ⊢
      subst e1; subst e2
      unfold bX6_layParts_35
      rw [l169, if_pos (nI_le (by omega) (by omega))]
      exact h _ _ _ _ _ _ _ _ hM
set_option maxHeartbeats 1000000 in
theorem m_layOne {r c : Nat} (hR : RC r c) {k : Nat → Nat} (hk : ∀ p, k p ≤ 3) {pts : Nat → Int32} (hp : MpR k pts) {lo dn ro be : Nat → Int32} {lp nc nd : Int32} {part brk : Nat → Int32} {Q : Int32 → (Nat → Int32) → (Nat → Int32) → (Nat → Int32) → (Nat → Int32) → Int32 → Int32 → Int32 → (Nat → Int32) → (Nat → Int32) → Prop}
    (h : ∀ lo' dn' ro' be' lp' nc' nd' part' brk', (∀ j, j < (tiE r c k).1 → brk' j = nI (toldP ((tiE r c k).2.1 j))) → Q (aOne r c k) lo' dn' ro' be' lp' nc' nd' part' brk') : wX6_layOne (nI r) (nI c) pts lo dn ro be lp nc nd part brk Q := by
  obtain ⟨P, hn, h36⟩ := LY_fact k hR
  unfold wX6_layOne
  refine m_layLoops hR hk hp (fun lo' dn' ro' be' nc' nd' hM => ?_)
  have hM2 := hM
  obtain ⟨m1, m2, m3, m4, m5⟩ := hM2
  unfold lX6_layOne_7
  refine lp_up (fun i x => x.1 = nI i ∧ ∀ l, l < i → x.2 l = nI l) (LY r c k).2.1 ?_ FU 0 _ ⟨rfl, fun l hl => absurd hl (Nat.not_lt_zero _)⟩ (Nat.zero_le _) (FU_of (by omega))
  rintro RR i ⟨x1, f⟩ ⟨g1, g2⟩ hi hRR
  dsimp only at g1 g2 ⊢
  subst g1
  unfold bX6_layOne_7
  by_cases q : i < (LY r c k).2.1
  · rw [if_neg (nI_ge q (by omega))]
    refine ⟨vp_in_nI (by omega) (by omega), ?_⟩
    rw [nI_clamp (by omega), nI_1]
    refine hRR q _ ⟨rfl, fun l hl => ?_⟩
    show upd f i _ l = _
    rw [upd_e]
    by_cases y : l = i
    · rw [if_pos y, y]
    · rw [if_neg y]; exact g2 l (by omega)
  · rw [if_pos (nI_le (by omega) (by omega))]
    have : i = (LY r c k).2.1 := by omega
    subst this
    unfold wX6_layOne_X28 lX6_layOne_32
    refine lp_pla (r := r) (c := c) (tiG r c k) ti0 (fun i b x => x.1 = nI b.1 ∧ x.2.1 = nI i ∧ PtR (LY r c k).2.1 b x.2.2.1 ∧ ∀ j, j < b.1 → x.2.2.2 j = nI (toldP (b.2.1 j))) ?_ ?_ ?_ FU _ ⟨rfl, rfl, PtR_0 g2, fun j hj => absurd hj (Nat.not_lt_zero _)⟩ (FU_of (by omega))
    · rintro RR p b ⟨x1, x2, pa, bk⟩ hp169 hip hb2 ⟨e1, e2, e3, e4⟩ hRR
      dsimp only at e1 e2 e3 e4 ⊢
      subst e1; subst e2
      have hI : tiI b := by rw [hb2]; exact tiP_I hR p
      unfold bX6_layOne_32
      rw [l169, if_neg (nI_ge hp169 (by omega)), nI_1]
      refine m_isCr hR hk hp hp169 ?_
      cases hc : crB r c k p with
      | false =>
        have e : tiG r c k p b = b := if_neg (by rw [hc]; decide)
        rw [e] at hRR
        rw [bI_f, if_pos rfl]
        exact hRR _ ⟨rfl, rfl, e3, e4⟩
      | true =>
        have e : tiG r c k p b = tiJ (lpD (LY r c k) p (ovD k p)) (lpD (LY r c k) p (!ovD k p)) p b := if_pos hc
        rw [e] at hRR
        rw [bI_t, if_neg (by decide)]
        refine m_cross (G := fun a b' => wX6_join (nI (LY r c k).2.1) pa a b' _) hR hk hp m2 hc ?_
        have b1 := (lpD_lt hR hc (ovD k p)).1
        have b2 := (lpD_lt hR hc (!ovD k p)).1
        refine m_joinT (p := p) h36 e3 b1 b2 (fun z part' hp' => ?_) (fun z part' hp' => ?_)
        · have e9 : tiJ (lpD (LY r c k) p (ovD k p)) (lpD (LY r c k) p (!ovD k p)) p b = b := if_pos z
          rw [if_neg (by decide)]
          refine hRR _ ⟨?_, rfl, hp', ?_⟩
          · rw [e9]
          · rw [e9]; exact e4
        · have hlt := (tiJ_I (p := p) (show lpD (LY r c k) p (ovD k p) < 36 by omega) (show lpD (LY r c k) p (!ovD k p) < 36 by omega) hI).2 z
          have e9 : tiJ (lpD (LY r c k) p (ovD k p)) (lpD (LY r c k) p (!ovD k p)) p b = (b.1 + 1, (fun j => if j = b.1 then p else b.2.1 j), (tiJ (lpD (LY r c k) p (ovD k p)) (lpD (LY r c k) p (!ovD k p)) p b).2.2) := by unfold tiJ; rw [if_neg z]
          rw [if_pos rfl]
          unfold wX6_toldOf
          refine ⟨vp_in_nI (by omega) (by omega), ?_⟩
          rw [l13, pk_div (by omega) (by omega) (by omega), jr_nI (by omega) (by omega) (by omega), l100, pk_mul, nI_add, nI_1, nI_clamp (by omega)]
          refine hRR _ ⟨by rw [e9], rfl, hp', fun j hj => ?_⟩
          rw [e9] at hj ⊢
          have hj2 : j < b.1 + 1 := hj
          show upd bk b.1 _ j = nI (toldP (if j = b.1 then p else b.2.1 j))
          rw [upd_e]
          by_cases y : j = b.1
          · rw [if_pos y, if_pos y]; rfl
          · rw [if_neg y, if_neg y]; exact e4 j (by omega)
    · rintro RR p b ⟨x1, x2, pa, bk⟩ hp169 hip hb2 ⟨e1, e2, e3, e4⟩ hRR
      dsimp only at e1 e2 e3 e4 ⊢
      subst e1; subst e2
      unfold bX6_layOne_32
      rw [l169, if_neg (nI_ge hp169 (by omega)), nI_1]
      refine m_isCr hR hk hp hp169 ?_
      rw [crB_out hip, bI_f, if_pos rfl]
      exact hRR _ ⟨rfl, rfl, e3, e4⟩
    · rintro RR ⟨x1, x2, pa, bk⟩ ⟨e1, e2, e3, e4⟩
      dsimp only at e1 e2 e3 e4 ⊢
      subst e1; subst e2
      unfold bX6_layOne_32
      rw [l169, if_pos (nI_le (by omega) (by omega))]
      unfold wX6_layOne_X96
      have key : (if nI (FP r c (tiG r c k) ti0 169).1 = nI (LY r c k).2.1 - 1 then nI (FP r c (tiG r c k) ti0 169).1 else -9) = aOne r c k := by
        show (if nI (tiE r c k).1 = nI (LY r c k).2.1 - 1 then nI (tiE r c k).1 else -9) = if nI (LY r c k).2.1 - nI (tiE r c k).1 = 1 then nI (tiE r c k).1 else -9
        by_cases z : nI (tiE r c k).1 = nI (LY r c k).2.1 - 1
        · rw [if_pos z, if_pos ((i_subE _ _).mp z)]
        · rw [if_neg z, if_neg (fun w => z ((i_subE _ _).mpr w))]
      rw [key]
      exact h _ _ _ _ _ _ _ _ _ e4
