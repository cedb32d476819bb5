/-! the ties, taken in order; the component's crossings object -/
abbrev TS : Type := Nat × (Nat → Nat) × (Nat → Nat)
def tiJ (f u : Nat) (p : Nat) (b : TS) : TS := if b.2.2 f = b.2.2 u then b else (b.1 + 1, (fun j => if j = b.1 then p else b.2.1 j), fun l => if b.2.2 l = b.2.2 f then b.2.2 u else b.2.2 l)
noncomputable def tiG (r c : Nat) (k : Nat → Nat) (p : Nat) (b : TS) : TS := if crB r c k p = true then tiJ (lpD (LY r c k) p (ovD k p)) (lpD (LY r c k) p (!ovD k p)) p b else b
def ti0 : TS := (0, fun _ => 0, fun l => l)
noncomputable def tiP (r c : Nat) (k : Nat → Nat) (p : Nat) : TS := FP r c (tiG r c k) ti0 p
noncomputable def tiE (r c : Nat) (k : Nat → Nat) : TS := tiP r c k 169
theorem lpD_lt {r c : Nat} {k : Nat → Nat} (hR : RC r c) {p : Nat} (hp : crB r c k p = true) (d : Bool) : lpD (LY r c k) p d < (LY r c k).2.1 ∧ (LY r c k).2.2.1 (ceN ((LY r c k).2.2.2.1 (stD (LY r c k) p d))) = lpD (LY r c k) p d + 1 := by
  obtain ⟨P, hn, h36⟩ := LY_fact k hR
  obtain ⟨l, h1, h2, -⟩ := bg_of P (stD_ps hR hp d).1
  have e : lpD (LY r c k) p d = l := by unfold lpD; rw [h2]; rfl
  rw [e]
  exact ⟨h1, h2⟩
/-- the values that are taken -/
def tiI (b : TS) : Prop := (∀ l, l < 36 → b.2.2 l < 36) ∧ ∃ S : Nat → Bool, (∀ l, l < 36 → S (b.2.2 l) = true) ∧ fb_ct S 36 + b.1 ≤ 36
theorem tiJ_I {f u p : Nat} {b : TS} (hf : f < 36) (hu : u < 36) (h : tiI b) : tiI (tiJ f u p b) ∧ (b.2.2 f ≠ b.2.2 u → b.1 < 36) := by
  obtain ⟨h1, S, h2, h3⟩ := h
  have h36 : b.1 < 36 := by
    have : 0 < fb_ct S 36 := fb_ct_pos.mpr ⟨b.2.2 f, h1 f hf, h2 f hf⟩
    omega
  refine ⟨?_, fun _ => h36⟩
  unfold tiJ
  by_cases q : b.2.2 f = b.2.2 u
  · rw [if_pos q]; exact ⟨h1, S, h2, h3⟩
  · rw [if_neg q]
    refine ⟨fun l hl => ?_, fun v => if v = b.2.2 f then false else S v, fun l hl => ?_, ?_⟩
    · show (if b.2.2 l = b.2.2 f then b.2.2 u else b.2.2 l) < 36
      split
      · exact h1 u hu
      · exact h1 l hl
    · show (if (if b.2.2 l = b.2.2 f then b.2.2 u else b.2.2 l) = b.2.2 f then false else S (if b.2.2 l = b.2.2 f then b.2.2 u else b.2.2 l)) = true
      by_cases z : b.2.2 l = b.2.2 f
      · rw [if_pos z, if_neg (fun e => q e.symm)]
        exact h2 u hu
      · rw [if_neg z, if_neg z]
        exact h2 l hl
    · show fb_ct (fun v => if v = b.2.2 f then false else S v) 36 + (b.1 + 1) ≤ 36
      have h4 := fb_ct_upd S false (h1 f hf)
      rw [h2 f hf] at h4
      simp at h4
      simp only [Bool.if_false_left] at *
      omega
theorem tiP_I {r c : Nat} {k : Nat → Nat} (hR : RC r c) : ∀ p, tiI (tiP r c k p) := by
  obtain ⟨P, hn, h36⟩ := LY_fact k hR
  intro p
  induction p with
  | zero =>
    refine ⟨fun l hl => hl, fun _ => true, fun _ _ => rfl, ?_⟩
    show fb_ct (fun _ => true) 36 + 0 ≤ 36
    have := fb_ct_le (fun _ => true) 36
    omega
  | succ p ih =>
    cases hq : inn r c p with
    | false =>
      have e : tiP r c k (p + 1) = tiP r c k p := FP_out hq
      rw [e]; exact ih
    | true =>
      have e : tiP r c k (p + 1) = tiG r c k p (tiP r c k p) := FP_in hq
      rw [e]
      unfold tiG
      by_cases hc : crB r c k p = true
      · rw [if_pos hc]
        have h1 := (lpD_lt hR hc (ovD k p)).1
        have h2 := (lpD_lt hR hc (!ovD k p)).1
        exact (tiJ_I (by omega) (by omega) ih).1
      · rw [if_neg hc]; exact ih
theorem tiP_in {r c : Nat} {k : Nat → Nat} : ∀ p, ∀ j, j < (tiP r c k p).1 → inn r c ((tiP r c k p).2.1 j) = true := by
  intro p
  induction p with
  | zero => intro j hj; exact absurd hj (Nat.not_lt_zero _)
  | succ p ih =>
    cases hq : inn r c p with
    | false =>
      have e : tiP r c k (p + 1) = tiP r c k p := FP_out hq
      rw [e]; exact ih
    | true =>
      have e : tiP r c k (p + 1) = tiG r c k p (tiP r c k p) := FP_in hq
      rw [e]
      unfold tiG
      by_cases hc : crB r c k p = true
      · rw [if_pos hc]
        unfold tiJ
        split
        · exact ih
        · intro j hj
          have hj2 : j < (tiP r c k p).1 + 1 := hj
          show inn r c (if j = (tiP r c k p).1 then p else (tiP r c k p).2.1 j) = true
          split
          · exact hq
          · exact ih j (by omega)
      · rw [if_neg hc]; exact ih
/-- the crossings' row done -/
def OvF (r c : Nat) (k : Nat → Nat) (w : Nat → Bool) (f : Nat → Int32) : Prop := (∀ p, crB r c k p = true → f (cnt r c p) = nI (stD (LY r c k) p (w p))) ∧ (∀ p, inn r c p = true → crB r c k p = false → f (cnt r c p) = -9) ∧ ∀ i, inN r c ≤ i → i < 60 → f i = -9
theorem OvR.fin {r c : Nat} {k : Nat → Nat} (hR : RC r c) {w : Nat → Bool} {f : Nat → Int32} (h : OvR r c k w (LY r c k).1 f) : OvF r c k w f := by
  refine ⟨fun p hc => ?_, fun p hi hc => ?_, fun i h1 h2 => ?_⟩
  · rw [h.1 p (inn_lt hR (crB_inn hc)) hc, if_pos (stD_ps hR hc _).1]
  · refine h.2 _ (cnt_60 hR hi) (fun p' _ hc' e => ?_)
    have := cnt_inj (crB_inn hc') hi e
    rw [this, hc] at hc'
    exact absurd hc' (by decide)
  · refine h.2 i h2 (fun p' hp' hc' e => ?_)
    have := cnt_lt hp' (crB_inn hc')
    omega
theorem s_groupOf {f : Nat → Int32} {l : Nat} {Q : Int32 → Prop} (hl : l < 36) (h : Q (f l)) : wX1_groupOf f (nI l) Q := by
  unfold wX1_groupOf
  refine s_at (by omega) ?_
  rw [atv_in hl (by omega)]; exact h
theorem s_groupOf9 {f : Nat → Int32} {Q : Int32 → Prop} (h : Q (-9)) : wX1_groupOf f (-9) Q := by
  unfold wX1_groupOf
  refine s_at (by omega) ?_
  rw [atv_neg (by decide)]; exact h
theorem s_regroup {g : Nat → Nat} (hg : ∀ l, l < 36 → g l < 36) {a b : Nat} (ha : a < 36) (hb : b < 36) {f : Nat → Int32} (hf : ∀ l, l < 36 → f l = nI (g l)) {Q : (Nat → Int32) → Prop} (h : ∀ f', (∀ l, l < 36 → f' l = nI (if g l = a then b else g l)) → Q f') : wX1_regroup f (nI a) (nI b) Q := by
  unfold wX1_regroup lX1_regroup_2
  refine lp_up (fun i x => x.1 = nI i ∧ (∀ l, l < i → x.2 l = nI (if g l = a then b else g l)) ∧ ∀ l, i ≤ l → l < 36 → x.2 l = nI (g l)) 36 ?_ FU 0 _ ⟨rfl, fun l hl => absurd hl (Nat.not_lt_zero _), fun l _ hl => hf l hl⟩ (Nat.zero_le _) (FU_of (by omega))
  rintro RR i ⟨x1, f'⟩ ⟨g1, g2, g3⟩ hi hRR
  dsimp only at g1 g2 g3 ⊢
  subst g1
  unfold bX1_regroup_2
  rw [l36]
  by_cases q : i < 36
  · rw [if_neg (nI_ge q (by omega))]
    refine ⟨vp_in_nI q (by omega), ?_⟩
    rw [nI_clamp (by omega), nI_1]
    rw [g3 i (Nat.le_refl _) q]
    have hgi := hg i q
    by_cases z : g i = a
    · rw [if_pos (by rw [z])]
      refine hRR q _ ⟨rfl, fun l hl => ?_, fun l h1 h2 => ?_⟩
      · show upd f' i _ l = _
        rw [upd_e]
        by_cases y : l = i
        · rw [if_pos y, y, if_pos z]
        · rw [if_neg y]; exact g2 l (by omega)
      · show upd f' i _ l = _
        rw [upd_e, if_neg (by omega)]; exact g3 l (by omega) h2
    · rw [if_neg (fun e => z (nI_inj (by omega) (by omega) e))]
      refine hRR q _ ⟨rfl, fun l hl => ?_, fun l h1 h2 => ?_⟩
      · show f' l = _
        by_cases y : l = i
        · rw [y, if_neg z]; exact g3 i (Nat.le_refl _) q
        · exact g2 l (by omega)
      · exact g3 l (by omega) h2
  · rw [if_pos (nI_le (by omega) (by omega))]
    have : i = 36 := by omega
    subst this
    exact h _ g2
def TiR (r c : Nat) (b : TS) (ties : Int32) (tied groups : Nat → Int32) : Prop := ties = nI b.1 ∧ (∀ j, j < b.1 → tied j = nI (cnt r c (b.2.1 j))) ∧ ∀ l, l < 36 → groups l = nI (b.2.2 l)
set_option maxHeartbeats 1000000 in
theorem s_tie {r c : Nat} {k : Nat → Nat} (hR : RC r c) {ob ce en rg dn : Nat → Int32} (hS : StR (LY r c k) ob ce en rg dn) {ov un : Nat → Int32} (hO : OvF r c k (ovD k) ov) (hU : OvF r c k (fun p => !ovD k p) un) {ties : Int32} {tied groups : Nat → Int32} {Q : Int32 → (Nat → Int32) → (Nat → Int32) → Prop}
    (h : ∀ ties' tied' groups', TiR r c (tiE r c k) ties' tied' groups' → Q ties' tied' groups') : wX1_tie ties ov un tied groups ob Q := by
  obtain ⟨P, hn, h36⟩ := LY_fact k hR
  have h60 := inN_le hR
  unfold wX1_tie lX1_tie_7
  refine lp_up (fun i x => x.1 = nI i ∧ ∀ l, l < i → x.2 l = nI l) 36 ?_ FU 0 _ ⟨rfl, fun l hl => absurd hl (Nat.not_lt_zero _)⟩ (Nat.zero_le _) (FU_of (by omega))
  rintro RR i ⟨x1, f⟩ ⟨g1, g2⟩ hi hRR
  dsimp only at g1 g2 ⊢
  subst g1
  unfold bX1_tie_7
  rw [l36]
  by_cases q : i < 36
  · rw [if_neg (nI_ge q (by omega))]
    refine ⟨vp_in_nI q (by omega), ?_⟩
    rw [nI_clamp (by omega), nI_1]
    refine hRR q _ ⟨rfl, fun l hl => ?_⟩
    show upd f i _ l = _
    rw [upd_e]
    by_cases y : l = i
    · rw [if_pos y, y]
    · rw [if_neg y]; exact g2 l (by omega)
  · rw [if_pos (nI_le (by omega) (by omega))]
    have : i = 36 := by omega
    subst this
    unfold wX1_tie_X26 lX1_tie_28
    refine lp_num (r := r) (c := c) (tiG r c k) ti0 (fun i b x => x.1 = nI i ∧ TiR r c b x.2.1 x.2.2.1 x.2.2.2) 60 h60 ?_ ?_ ?_ FU _ ⟨rfl, rfl, fun j hj => absurd hj (Nat.not_lt_zero _), g2⟩ (FU_of (by omega))
    · rintro RR p b ⟨x1, t, td, gr⟩ h60p hp hip hb ⟨e1, e2, e3, e4⟩ hRR
      dsimp only at e1 e2 e3 e4 ⊢
      subst e1; subst e2
      have hI : tiI b := by rw [hb]; exact tiP_I hR p
      unfold bX1_tie_28
      rw [l60, if_neg (nI_ge h60p (by omega))]
      refine ⟨vp_in_nI h60p (by omega), ?_⟩
      rw [nI_clamp (by omega), nI_1]
      cases hc : crB r c k p with
      | false =>
        rw [hO.2.1 p hip hc, hU.2.1 p hip hc]
        refine s_ownerAt9 (s_groupOf9 (s_ownerAt9 (s_groupOf9 ?_)))
        rw [if_pos rfl]
        refine hRR _ ⟨rfl, ?_⟩
        have e : tiG r c k p b = b := if_neg (by rw [hc]; decide)
        rw [e]
        exact ⟨rfl, e3, e4⟩
      | true =>
        have hU1 : un (cnt r c p) = nI (stD (LY r c k) p (!ovD k p)) := hU.1 p hc
        rw [hO.1 p hc, hU1]
        have a1 := (stD_ps hR hc (ovD k p)).1
        have a2 := (stD_ps hR hc (!ovD k p)).1
        have b1 := lpD_lt hR hc (ovD k p)
        have b2 := lpD_lt hR hc (!ovD k p)
        have c1 := (hS _ a1).1
        have c2 := (hS _ a2).1
        rw [b1.2] at c1
        rw [b2.2] at c2
        refine s_ownerAt (by omega) ?_
        rw [c1, show lpD (LY r c k) p (ovD k p) + 1 - 1 = lpD (LY r c k) p (ovD k p) by omega]
        refine s_groupOf (by omega) (s_ownerAt (by omega) ?_)
        rw [c2, show lpD (LY r c k) p (!ovD k p) + 1 - 1 = lpD (LY r c k) p (!ovD k p) by omega]
        refine s_groupOf (by omega) ?_
        have e : tiG r c k p b = tiJ (lpD (LY r c k) p (ovD k p)) (lpD (LY r c k) p (!ovD k p)) p b := if_pos hc
        rw [e] at hRR
        rw [e4 (lpD (LY r c k) p (ovD k p)) (by omega), e4 (lpD (LY r c k) p (!ovD k p)) (by omega)]
        have d1 := hI.1 (lpD (LY r c k) p (ovD k p)) (by omega)
        have d2 := hI.1 (lpD (LY r c k) p (!ovD k p)) (by omega)
        unfold tiJ at hRR
        by_cases z : b.2.2 (lpD (LY r c k) p (ovD k p)) = b.2.2 (lpD (LY r c k) p (!ovD k p))
        · rw [if_pos (by rw [z])]
          rw [if_pos z] at hRR
          exact hRR _ ⟨rfl, rfl, e3, e4⟩
        · rw [if_neg (fun y => z (nI_inj (by omega) (by omega) y))]
          rw [if_neg z] at hRR
          have hlt := (tiJ_I (p := p) (show lpD (LY r c k) p (ovD k p) < 36 by omega) (show lpD (LY r c k) p (!ovD k p) < 36 by omega) hI).2 z
          rw [l36, if_neg (nI_ge hlt (by omega))]
          refine ⟨vp_in_nI hlt (by omega), ?_⟩
          refine s_regroup hI.1 d1 d2 e4 (fun f' hf' => ?_)
          rw [nI_clamp (by omega), nI_1]
          refine hRR _ ⟨rfl, rfl, fun j hj => ?_, hf'⟩
          have hj2 : j < b.1 + 1 := hj
          show upd td b.1 _ j = nI (cnt r c (if j = b.1 then p else b.2.1 j))
          rw [upd_e]
          by_cases y : j = b.1
          · rw [if_pos y, if_pos y]
          · rw [if_neg y, if_neg y]; exact e3 j (by omega)
    · rintro RR i b ⟨x1, t, td, gr⟩ hi1 hi2 hb ⟨e1, e2⟩ hRR
      dsimp only at e1 e2 ⊢
      subst e1
      unfold bX1_tie_28
      rw [l60, if_neg (nI_ge hi1 (by omega))]
      refine ⟨vp_in_nI hi1 (by omega), ?_⟩
      rw [nI_clamp (by omega), nI_1, hO.2.2 i hi2 hi1, hU.2.2 i hi2 hi1]
      refine s_ownerAt9 (s_groupOf9 (s_ownerAt9 (s_groupOf9 ?_)))
      rw [if_pos rfl]
      exact hRR _ ⟨rfl, e2⟩
    · rintro RR ⟨x1, t, td, gr⟩ ⟨e1, e2⟩
      dsimp only at e1 e2 ⊢
      subst e1
      unfold bX1_tie_28
      rw [l60, if_pos (nI_le (by omega) (by omega))]
      exact h _ _ _ e2
/-- the crossings object -/
def CrR (r c : Nat) (k : Nat → Nat) (arcs ties : Int32) (passes abs overs unders tied : Nat → Int32) : Prop := arcs = nI (arN r c k (LY r c k) (LY r c k).2.1) ∧ ties = nI (tiE r c k).1 ∧ PaR r c k (LY r c k).1 passes ∧ ArR r c k (LY r c k).1 abs ∧ OvF r c k (ovD k) overs ∧ OvF r c k (fun p => !ovD k p) unders ∧ ∀ j, j < (tiE r c k).1 → tied j = nI (cnt r c ((tiE r c k).2.1 j))
set_option maxHeartbeats 1000000 in
theorem s_survey {r c : Nat} {k : Nat → Nat} {down across inner : Int32} {pts kinds nums : Nat → Int32} (hR : RC r c) (hk : ∀ p, k p ≤ 3) (R : PlR r c k down across inner pts kinds nums) {count steps : Int32} {owners firsts ob ce en rg dn : Nat → Int32} (hL : LoR (LY r c k) count steps owners firsts ob ce en rg dn) {arcs ties : Int32} {passes abs overs unders tied groups : Nat → Int32} {Q : Int32 → Int32 → (Nat → Int32) → (Nat → Int32) → (Nat → Int32) → (Nat → Int32) → (Nat → Int32) → (Nat → Int32) → Prop}
    (h : ∀ arcs' ties' passes' abs' overs' unders' tied' groups', CrR r c k arcs' ties' passes' abs' overs' unders' tied' → Q arcs' ties' passes' abs' overs' unders' tied' groups') : wX1_survey arcs ties passes abs overs unders tied groups kinds nums count steps firsts ob en rg dn Q := by
  obtain ⟨P, hn, h36⟩ := LY_fact k hR
  obtain ⟨a1, a2, a3, a4, a5⟩ := hL
  subst a1; subst a2
  unfold wX1_survey
  refine s_fill (by omega) (fun ov ho _ => s_fill (by omega) (fun un hu _ => ?_))
  have h0 : ∀ w f, (∀ i, i < 60 → f i = (-9 : Int32)) → OvR r c k w 0 f := by
    intro w f hf
    refine ⟨fun p hp hc => ?_, fun i hi _ => hf i hi⟩
    rw [if_neg (Nat.not_lt_zero _)]
    exact hf _ (cnt_60 hR (crB_inn hc))
  unfold lX1_survey_20
  refine lp_up (fun i x => x.1 = nI i ∧ PaR r c k i x.2.1 ∧ OvR r c k (ovD k) i x.2.2.1 ∧ OvR r c k (fun p => !ovD k p) i x.2.2.2) (LY r c k).1 ?_ FU 0 _ ⟨rfl, fun t ht => absurd ht (Nat.not_lt_zero _), h0 _ _ ho, h0 _ _ hu⟩ (Nat.zero_le _) (FU_of (by omega))
  rintro RR i ⟨x1, pa, ov', un'⟩ ⟨g1, g2, g3, g4⟩ hi hRR
  dsimp only at g1 g2 g3 g4 ⊢
  subst g1
  unfold bX1_survey_20
  by_cases q : i < (LY r c k).1
  · rw [if_neg (nI_ge q (by omega)), l144, if_neg (nI_ge (by omega) (by omega))]
    refine s_passAt hR hk R a5 q g3 g4 (fun ov2 un2 k1 k2 => ⟨vp_in_nI (by omega) (by omega), ?_⟩)
    rw [nI_clamp (by omega), nI_1]
    refine hRR q _ ⟨rfl, fun t ht => ?_, k1, k2⟩
    show upd pa i _ t = _
    rw [upd_e]
    by_cases z : t = i
    · rw [if_pos z, z]
    · rw [if_neg z]; exact g2 t (by omega)
  · rw [if_pos (nI_le (by omega) (by omega))]
    have : i = (LY r c k).1 := by omega
    subst this
    unfold wX1_survey_X54 lX1_survey_61
    have hO := g3.fin hR
    have hU := g4.fin hR
    have hb0 : (LY r c k).2.2.2.2 0 = 0 := P.2.2.2.2.2.2.1
    have hbn : (LY r c k).2.2.2.2 (LY r c k).2.1 = (LY r c k).1 := P.2.2.2.2.2.2.2.1
    refine lp_up (fun l x => x.1 = nI l ∧ x.2.1 = nI (arN r c k (LY r c k) l) ∧ ArR r c k ((LY r c k).2.2.2.2 l) x.2.2) (LY r c k).2.1 ?_ FU 0 _ ⟨rfl, rfl, fun t ht => absurd ht (by rw [hb0]; exact Nat.not_lt_zero _)⟩ (Nat.zero_le _) (FU_of (by omega))
    rintro RR l ⟨x1, ar, ab⟩ ⟨e1, e2, e3⟩ hl hRR
    dsimp only at e1 e2 e3 ⊢
    subst e1; subst e2
    unfold bX1_survey_61
    by_cases q : l < (LY r c k).2.1
    · rw [if_neg (nI_ge q (by omega)), nI_1]
      exact s_numberArcs hR g2 a4 q e3 (fun f' hf' => hRR q _ ⟨rfl, rfl, hf'⟩)
    · rw [if_pos (nI_le (by omega) (by omega))]
      have : l = (LY r c k).2.1 := by omega
      subst this
      rw [hbn] at e3
      unfold wX1_survey_X81
      exact s_tie hR a5 hO hU (fun t' td' g' ht => h _ _ _ _ _ _ _ _ ⟨rfl, ht.1, g2, e3, hO, hU, ht.2.1⟩)
theorem s_redraw {r c : Nat} {k : Nat → Nat} {down across inner : Int32} {pts kinds nums : Nat → Int32} (hR : RC r c) (hk : ∀ p, k p ≤ 3) (R : PlR r c k down across inner pts kinds nums) {count steps : Int32} {owners firsts ob ce en rg dn : Nat → Int32} (h0 : firsts 0 = 0) {arcs ties : Int32} {passes abs overs unders tied groups : Nat → Int32} {Q : Int32 → Int32 → (Nat → Int32) → (Nat → Int32) → (Nat → Int32) → (Nat → Int32) → (Nat → Int32) → (Nat → Int32) → (Nat → Int32) → Int32 → Int32 → (Nat → Int32) → (Nat → Int32) → (Nat → Int32) → (Nat → Int32) → (Nat → Int32) → (Nat → Int32) → Prop}
    (h : ∀ count' steps' owners' firsts' ob' ce' en' rg' dn' arcs' ties' passes' abs' overs' unders' tied' groups', LoR (LY r c k) count' steps' owners' firsts' ob' ce' en' rg' dn' → CrR r c k arcs' ties' passes' abs' overs' unders' tied' → Q count' steps' owners' firsts' ob' ce' en' rg' dn' arcs' ties' passes' abs' overs' unders' tied' groups') : wX5_redraw down across kinds nums count steps owners firsts ob ce en rg dn arcs ties passes abs overs unders tied groups Q := by
  unfold wX5_redraw
  refine s_follow hR hk R h0 (fun _ _ _ _ _ _ _ _ _ hL => ?_)
  exact s_survey hR hk R hL (fun _ _ _ _ _ _ _ _ hC => h _ _ _ _ _ _ _ _ _ _ _ _ _ _ _ _ _ hL hC)
