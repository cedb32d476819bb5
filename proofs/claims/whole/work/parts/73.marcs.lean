/-! the model: arcs -/
theorem m_isUnder {r c : Nat} (hR : RC r c) {k : Nat → Nat} (hk : ∀ p, k p ≤ 3) {pts : Nat → Int32} (hp : MpR k pts) {dn : Nat → Int32} (hD : DnR (LY r c k) dn) {t : Nat} (ht : t < (LY r c k).1) {Q : Int32 → Prop} (h : Q (bI (decide (psT r c k (LY r c k) t = 2)))) : wX6_isUnder (nI r) (nI c) pts dn (nI (ceN ((LY r c k).2.2.2.1 t))) Q := by
  obtain ⟨r1, r2, r3, r4⟩ := id hR
  obtain ⟨P, hn, h36⟩ := LY_fact k hR
  have hG : inG r c ((LY r c k).2.2.2.1 t) := P.2.1 t ht
  have g1 := hG.1
  have g2 := hG.2
  obtain ⟨e1, e2, e3, e4, e5⟩ := en_lt hR hG
  obtain ⟨d1, d2⟩ := ceN_dm (s := (LY r c k).2.2.2.1 t) (by omega)
  have hlt : ceN ((LY r c k).2.2.2.1 t) < 144 := by unfold ceN; omega
  unfold wX6_isUnder
  refine ⟨vp_in_nI hlt (by omega), ?_⟩
  rw [nI_clamp (by omega), hD t ht]
  refine m_behind (by omega) (by omega) ?_
  refine m_isCr hR hk hp e3 ?_
  unfold psT psS at h
  cases hc : crB r c k (enP ((LY r c k).2.2.2.1 t)) with
  | false =>
    rw [hc, if_neg (by decide)] at h
    rw [bI_f, if_pos rfl]
    exact h
  | true =>
    rw [hc, if_pos rfl] at h
    rw [bI_t, if_neg (by decide)]
    refine m_isOver hk hp e3 (m_falls hlt ?_)
    rw [d1, d2, bne_I]
    have e : (ovD k (enP ((LY r c k).2.2.2.1 t)) != flB ((LY r c k).2.2.2.1 t).1 ((LY r c k).2.2.2.1 t).2.1) = decide ((if flB ((LY r c k).2.2.2.1 t).1 ((LY r c k).2.2.2.1 t).2.1 = ovD k (enP ((LY r c k).2.2.2.1 t)) then 1 else 2) = 2) := by
      cases ovD k (enP ((LY r c k).2.2.2.1 t)) <;> cases flB ((LY r c k).2.2.2.1 t).1 ((LY r c k).2.2.2.1 t).2.1 <;> rfl
    rw [e]; exact h
/-- values set at crossings by steps gone along -/
def SetR (r c : Nat) (k : Nat → Nat) (w : Nat → Bool) (v : Nat → Nat) (T : Nat) (f : Nat → Int32) : Prop := ∀ p, crB r c k p = true → stD (LY r c k) p (w p) < T → f p = nI (v p)
theorem SetR.step_no {r c : Nat} {k : Nat → Nat} (hR : RC r c) {w : Nat → Bool} {v : Nat → Nat} {T : Nat} {f : Nat → Int32} (h : SetR r c k w v T f) (hno : ∀ p, crB r c k p = true → stP (LY r c k) p (w p) T → False) : SetR r c k w v (T + 1) f := by
  intro p hc hl
  have h1 : ¬ stD (LY r c k) p (w p) = T := fun e => hno p hc (by rw [← e]; exact (stD_ok hR hc _).1)
  exact h p hc (by omega)
theorem SetR.step_yes {r c : Nat} {k : Nat → Nat} (hR : RC r c) {w : Nat → Bool} {v : Nat → Nat} {T p0 : Nat} {f : Nat → Int32} (h : SetR r c k w v T f) (hc0 : crB r c k p0 = true) (h0 : stP (LY r c k) p0 (w p0) T) : SetR r c k w v (T + 1) (upd f p0 (nI (v p0))) := by
  intro p hc hl
  rw [upd_e]
  by_cases q : p = p0
  · rw [if_pos q, q]
  · rw [if_neg q]
    have h1 : ¬ stD (LY r c k) p (w p) = T := fun e => by
      obtain ⟨-, s1, s2, -⟩ := (stD_ok hR hc (w p)).1
      rw [e] at s1 s2
      obtain ⟨-, s3, s4, -⟩ := h0
      omega
    exact h p hc (by omega)
def MaR (r c : Nat) (k : Nat → Nat) (T : Nat) (f1 f2 f3 : Nat → Int32) : Prop := SetR r c k (fun p => !ovD k p) (aIn r c k) T f1 ∧ SetR r c k (fun p => !ovD k p) (aOut r c k) T f2 ∧ SetR r c k (ovD k) (aOv r c k) T f3
theorem arT_in {r c : Nat} {k : Nat → Nat} {m : MS} (P : PM r c k m.1 m) {t l : Nat} (hl : l < m.2.1) (h1 : m.2.2.2.2 l ≤ t) (h2 : t < m.2.2.2.2 (l + 1)) : arT r c k m t = arN r c k m l + arO r c k m l t := by
  unfold arT
  rw [(own_of P hl h1 h2).2]
  rfl
set_option maxHeartbeats 2000000 in
theorem m_layArcs {r c : Nat} (hR : RC r c) {k : Nat → Nat} (hk : ∀ p, k p ≤ 3) {pts : Nat → Int32} (hp : MpR k pts) {lo dn ro be : Nat → Int32} {lp nc nd : Int32} {a1 a2 a3 : Nat → Int32} {a4 : Int32} {Q : (Nat → Int32) → (Nat → Int32) → (Nat → Int32) → (Nat → Int32) → Int32 → Int32 → Int32 → (Nat → Int32) → (Nat → Int32) → (Nat → Int32) → Int32 → Prop}
    (h : ∀ lo' dn' ro' be' nc' nd' f1 f2 f3, MdR (LY r c k) lo' dn' ro' be' (nI (LY r c k).2.1) → MaR r c k (LY r c k).1 f1 f2 f3 → Q lo' dn' ro' be' (nI (LY r c k).2.1) nc' nd' f1 f2 f3 (nI (arN r c k (LY r c k) (LY r c k).2.1))) : wX6_layArcs (nI r) (nI c) pts lo dn ro be lp nc nd a1 a2 a3 a4 Q := by
  obtain ⟨r1, r2, r3, r4⟩ := id hR
  obtain ⟨P, hn, h36⟩ := LY_fact k hR
  have hb0 : (LY r c k).2.2.2.2 0 = 0 := P.2.2.2.2.2.2.1
  have hbn : (LY r c k).2.2.2.2 (LY r c k).2.1 = (LY r c k).1 := P.2.2.2.2.2.2.2.1
  unfold wX6_layArcs
  refine m_layLoops hR hk hp (fun lo' dn' ro' be' nc' nd' hM => ?_)
  have hM2 := hM
  obtain ⟨m1, m2, m3, m4, m5⟩ := hM2
  unfold lX6_layArcs_12
  refine lp_up (fun l x => x.1 = nI l ∧ MaR r c k ((LY r c k).2.2.2.2 l) x.2.1 x.2.2.1 x.2.2.2.1 ∧ x.2.2.2.2 = nI (arN r c k (LY r c k) l)) (LY r c k).2.1 ?_ FU 0 _ ⟨rfl, ?_, rfl⟩ (Nat.zero_le _) (FU_of (by omega))
  · rintro RR l ⟨x1, f1, f2, f3, ar⟩ ⟨e1, e2, e3⟩ hl hRR
    dsimp only at e1 e2 e3 ⊢
    subst e1; subst e3
    unfold bX6_layArcs_12
    by_cases q : l < (LY r c k).2.1
    · obtain ⟨b1, b2⟩ := bg_lim P q
      have hm : psC r c k (LY r c k) 2 ((LY r c k).2.2.2.2 l) ≤ psC r c k (LY r c k) 2 ((LY r c k).2.2.2.2 (l + 1)) := psC_mono (by omega)
      have hle := psC_le (r := r) (c := c) (k := k) (m := LY r c k) (v := 2) (a := (LY r c k).2.2.2.2 (l + 1))
      have h96 := arN_96 (k := k) hR (show l + 1 ≤ (LY r c k).2.1 by omega)
      have h96b := arN_96 (k := k) hR (show l ≤ (LY r c k).2.1 by omega)
      rw [if_neg (nI_ge q (by omega))]
      refine ⟨vp_in_nI (by omega) (by omega), ?_⟩
      rw [nI_clamp (by omega), m5 l (by omega)]
      unfold lX6_layArcs_41
      refine lp_up (fun i x => (LY r c k).2.2.2.2 l ≤ i ∧ x.1 = nI (psC r c k (LY r c k) 2 i - psC r c k (LY r c k) 2 ((LY r c k).2.2.2.2 l)) ∧ x.2 = nI i) ((LY r c k).2.2.2.2 (l + 1)) ?_ FU ((LY r c k).2.2.2.2 l) _ ⟨Nat.le_refl _, by rw [Nat.sub_self]; rfl, rfl⟩ (by omega) (FU_of (by omega))
      rintro RA i ⟨x4, x5⟩ ⟨gi, g1, g2⟩ hi hRA
      dsimp only at g1 g2 ⊢
      subst g1; subst g2
      unfold bX6_layArcs_41
      rw [nI_1]
      refine ⟨vp_in_nI (by omega) (by omega), ?_⟩
      rw [nI_clamp (by omega), m5 (l + 1) (by omega)]
      by_cases q2 : i < (LY r c k).2.2.2.2 (l + 1)
      · rw [if_neg (nI_ge q2 (by omega))]
        refine ⟨vp_in_nI (by omega) (by omega), ?_⟩
        rw [nI_clamp (by omega), m4 i (by omega), nI_1]
        refine m_isUnder hR hk hp m3 (show i < (LY r c k).1 by omega) ?_
        refine hRA q2 _ ⟨by omega, ?_, rfl⟩
        have h1 := psC_succ r c k (LY r c k) 2 i
        have h2 : psC r c k (LY r c k) 2 ((LY r c k).2.2.2.2 l) ≤ psC r c k (LY r c k) 2 i := psC_mono gi
        show nI (psC r c k (LY r c k) 2 i - psC r c k (LY r c k) 2 ((LY r c k).2.2.2.2 l)) + (if bI (decide (psT r c k (LY r c k) i = 2)) = 0 then 0 else 1) = _
        by_cases z : psT r c k (LY r c k) i = 2
        · rw [if_pos z] at h1
          rw [decide_eq_true z, bI_t, if_neg (by decide), nI_1]
          exact congrArg nI (by omega)
        · rw [if_neg z] at h1
          rw [decide_eq_false z, bI_f, if_pos rfl, l0, nI_add]
          exact congrArg nI (by omega)
      · rw [if_pos (nI_le (by omega) (by omega))]
        have : i = (LY r c k).2.2.2.2 (l + 1) := by omega
        subst this
        unfold wX6_layArcs_X84
        rw [nI_clamp (by omega), m5 l (by omega)]
        have hmany : (if nI (psC r c k (LY r c k) 2 ((LY r c k).2.2.2.2 (l + 1)) - psC r c k (LY r c k) 2 ((LY r c k).2.2.2.2 l)) = 0 then (1 : Int32) else nI (psC r c k (LY r c k) 2 ((LY r c k).2.2.2.2 (l + 1)) - psC r c k (LY r c k) 2 ((LY r c k).2.2.2.2 l))) = nI (max (psC r c k (LY r c k) 2 ((LY r c k).2.2.2.2 (l + 1)) - psC r c k (LY r c k) 2 ((LY r c k).2.2.2.2 l)) 1) := by
          by_cases z : psC r c k (LY r c k) 2 ((LY r c k).2.2.2.2 (l + 1)) - psC r c k (LY r c k) 2 ((LY r c k).2.2.2.2 l) = 0
          · rw [z, if_pos (by rfl)]; rfl
          · rw [if_neg (nI_ne0 (by omega) (by omega))]
            exact congrArg nI (by omega)
        have hsucc : arN r c k (LY r c k) (l + 1) = arN r c k (LY r c k) l + max (psC r c k (LY r c k) 2 ((LY r c k).2.2.2.2 (l + 1)) - psC r c k (LY r c k) 2 ((LY r c k).2.2.2.2 l)) 1 := rfl
        unfold lX6_layArcs_105
        refine lp_up (fun i x => (LY r c k).2.2.2.2 l ≤ i ∧ x.1 = nI (arN r c k (LY r c k) l + arO r c k (LY r c k) l i) ∧ x.2.1 = nI i ∧ MaR r c k i x.2.2.1 x.2.2.2.1 x.2.2.2.2) ((LY r c k).2.2.2.2 (l + 1)) ?_ FU ((LY r c k).2.2.2.2 l) _ ⟨Nat.le_refl _, ?_, rfl, e2⟩ (by omega) (FU_of (by omega))
        · rintro RB i ⟨x3, x6, g1, g2, g3⟩ ⟨gi2, k1, k2, k3⟩ hi2 hRB
          dsimp only at k1 k2 k3 ⊢
          subst k1; subst k2
          unfold bX6_layArcs_105
          rw [nI_1]
          refine ⟨vp_in_nI (by omega) (by omega), ?_⟩
          rw [nI_clamp (by omega), m5 (l + 1) (by omega)]
          by_cases q3 : i < (LY r c k).2.2.2.2 (l + 1)
          · rw [if_neg (nI_ge q3 (by omega))]
            refine ⟨vp_in_nI (by omega) (by omega), ?_⟩
            have hit : i < (LY r c k).1 := by omega
            have hG : inG r c ((LY r c k).2.2.2.1 i) := P.2.1 i hit
            have gg1 := hG.1
            have gg2 := hG.2
            obtain ⟨n1, n2, n3, n4, n5⟩ := en_lt hR hG
            have hlt : ceN ((LY r c k).2.2.2.1 i) < 144 := by unfold ceN; omega
            rw [nI_clamp (by omega), m4 i hit]
            refine ⟨vp_in_nI hlt (by omega), ?_⟩
            rw [nI_clamp (by omega), m3 i hit]
            refine m_behind (by omega) (by omega) ?_
            refine m_isUnder hR hk hp m3 hit ?_
            have hob := arO_lt r c k (LY r c k) l i
            have hob2 := arO_lt r c k (LY r c k) l (i + 1)
            have hs := psC_succ r c k (LY r c k) 2 i
            have hs2 : psC r c k (LY r c k) 2 ((LY r c k).2.2.2.2 l) ≤ psC r c k (LY r c k) 2 i := psC_mono gi2
            have hs3 : psC r c k (LY r c k) 2 (i + 1) ≤ psC r c k (LY r c k) 2 ((LY r c k).2.2.2.2 (l + 1)) := psC_mono (by omega)
            have har := arT_in P q gi2 q3
            rcases psT_st (k := k) hR hit with ⟨hc, d, hst, hd, hps⟩ | ⟨hc, hps⟩
            · by_cases hov : d = ovD k (enP ((LY r c k).2.2.2.1 i))
              · -- over
                rw [if_pos hov] at hps
                rw [hps, decide_eq_false (by omega), bI_f, if_pos rfl]
                rw [hps, if_neg (by omega)] at hs
                have heq : arO r c k (LY r c k) l (i + 1) = arO r c k (LY r c k) l i := by unfold arO; rw [hs]; rfl
                refine m_isCr hR hk hp n3 ?_
                rw [hc, bI_t, if_neg (by decide)]
                refine ⟨vp_in_nI n3 (by omega), ?_⟩
                rw [nI_clamp (by omega), nI_1]
                rw [hov] at hst
                refine hRB q3 _ ⟨by omega, by show nI _ = nI _; rw [heq], rfl, k3.1.step_no hR (fun p hc2 hst2 => ?_), k3.2.1.step_no hR (fun p hc2 hst2 => ?_), ?_⟩
                · have h1 := (stD_ps hR hc2 (!ovD k p)).2.2
                  rw [← (stD_ok hR hc2 _).2.1 i hst2, hps, if_neg (by cases ovD k p <;> decide)] at h1
                  omega
                · have h1 := (stD_ps hR hc2 (!ovD k p)).2.2
                  rw [← (stD_ok hR hc2 _).2.1 i hst2, hps, if_neg (by cases ovD k p <;> decide)] at h1
                  omega
                · have e : aOv r c k (enP ((LY r c k).2.2.2.1 i)) = arN r c k (LY r c k) l + arO r c k (LY r c k) l i := by
                    unfold aOv
                    rw [← (stD_ok hR hc _).2.1 i hst]
                    exact har
                  rw [← e]
                  exact k3.2.2.step_yes hR hc hst
              · -- under
                rw [if_neg hov] at hps
                rw [hps, decide_eq_true rfl, bI_t, if_neg (by decide)]
                rw [hps, if_pos rfl] at hs
                refine ⟨vp_in_nI n3 (by omega), ?_⟩
                rw [hmany]
                refine ⟨nI_ne0 (by omega) (by omega), ?_⟩
                have hdo2 : d = !ovD k (enP ((LY r c k).2.2.2.1 i)) := by
                  revert hov
                  cases d <;> cases ovD k (enP ((LY r c k).2.2.2.1 i)) <;> simp
                rw [hdo2] at hst
                have eO : arO r c k (LY r c k) l i = psC r c k (LY r c k) 2 i - psC r c k (LY r c k) 2 ((LY r c k).2.2.2.2 l) := by
                  unfold arO
                  rw [if_pos (by omega)]
                have eO2 : (arO r c k (LY r c k) l i + 1) % max (psC r c k (LY r c k) 2 ((LY r c k).2.2.2.2 (l + 1)) - psC r c k (LY r c k) 2 ((LY r c k).2.2.2.2 l)) 1 = arO r c k (LY r c k) l (i + 1) := by
                  rw [eO]
                  unfold arO
                  rw [show max (psC r c k (LY r c k) 2 ((LY r c k).2.2.2.2 (l + 1)) - psC r c k (LY r c k) 2 ((LY r c k).2.2.2.2 l)) 1 = psC r c k (LY r c k) 2 ((LY r c k).2.2.2.2 (l + 1)) - psC r c k (LY r c k) 2 ((LY r c k).2.2.2.2 l) by omega]
                  by_cases w : psC r c k (LY r c k) 2 (i + 1) - psC r c k (LY r c k) 2 ((LY r c k).2.2.2.2 l) < psC r c k (LY r c k) 2 ((LY r c k).2.2.2.2 (l + 1)) - psC r c k (LY r c k) 2 ((LY r c k).2.2.2.2 l)
                  · rw [if_pos w, Nat.mod_eq_of_lt (by omega)]
                    omega
                  · rw [if_neg w]
                    have : psC r c k (LY r c k) 2 i - psC r c k (LY r c k) 2 ((LY r c k).2.2.2.2 l) + 1 = psC r c k (LY r c k) 2 ((LY r c k).2.2.2.2 (l + 1)) - psC r c k (LY r c k) 2 ((LY r c k).2.2.2.2 l) := by omega
                    rw [this, Nat.mod_self]
                have eN : nI (arN r c k (LY r c k) l) + jr (nI (arN r c k (LY r c k) l + arO r c k (LY r c k) l i) - nI (arN r c k (LY r c k) l) + 1) (nI (max (psC r c k (LY r c k) 2 ((LY r c k).2.2.2.2 (l + 1)) - psC r c k (LY r c k) 2 ((LY r c k).2.2.2.2 l)) 1)) = nI (arN r c k (LY r c k) l + arO r c k (LY r c k) l (i + 1)) := by
                  rw [pk_sub (by omega), show arN r c k (LY r c k) l + arO r c k (LY r c k) l i - arN r c k (LY r c k) l = arO r c k (LY r c k) l i by omega, nI_1, jr_nI (by omega) (by omega) (by omega), eO2, nI_add]
                rw [eN, nI_clamp (by omega), nI_1]
                have eA : aIn r c k (enP ((LY r c k).2.2.2.1 i)) = arN r c k (LY r c k) l + arO r c k (LY r c k) l i := by
                  unfold aIn
                  rw [← (stD_ok hR hc _).2.1 i hst]
                  exact har
                have eB : aOut r c k (enP ((LY r c k).2.2.2.1 i)) = arN r c k (LY r c k) l + arO r c k (LY r c k) l (i + 1) := by
                  unfold aOut
                  rw [← (stD_ok hR hc _).2.1 i hst]
                  have ea : aft (LY r c k) i = if i + 1 < (LY r c k).2.2.2.2 (l + 1) then i + 1 else (LY r c k).2.2.2.2 l := by
                    unfold aft
                    rw [(own_of P q gi2 q3).2]; rfl
                  rw [ea]
                  by_cases w : i + 1 < (LY r c k).2.2.2.2 (l + 1)
                  · rw [if_pos w]
                    exact arT_in P q (by omega) w
                  · rw [if_neg w, arT_in P q (Nat.le_refl _) (by omega)]
                    have w2 : i + 1 = (LY r c k).2.2.2.2 (l + 1) := by omega
                    have z1 : arO r c k (LY r c k) l ((LY r c k).2.2.2.2 l) = 0 := by
                      unfold arO
                      rw [Nat.sub_self]
                      split <;> rfl
                    have z2 : arO r c k (LY r c k) l (i + 1) = 0 := by
                      rw [w2]
                      unfold arO
                      rw [if_neg (Nat.lt_irrefl _)]
                    rw [z1, z2]
                refine hRB q3 _ ⟨by omega, rfl, rfl, ?_, ?_, k3.2.2.step_no hR (fun p hc2 hst2 => ?_)⟩
                · rw [← eA]
                  exact k3.1.step_yes (p0 := enP ((LY r c k).2.2.2.1 i)) hR hc hst
                · rw [← eB]
                  exact k3.2.1.step_yes (p0 := enP ((LY r c k).2.2.2.1 i)) hR hc hst
                · have h1 := (stD_ps hR hc2 (ovD k p)).2.2
                  rw [← (stD_ok hR hc2 _).2.1 i hst2, hps, if_pos rfl] at h1
                  omega
            · -- a bend
              rw [hps, decide_eq_false (by omega), bI_f, if_pos rfl]
              rw [hps, if_neg (by omega)] at hs
              have heq : arO r c k (LY r c k) l (i + 1) = arO r c k (LY r c k) l i := by unfold arO; rw [hs]; rfl
              refine m_isCr hR hk hp n3 ?_
              rw [hc, bI_f, if_pos rfl, nI_1]
              have key : ∀ p d, crB r c k p = true → stP (LY r c k) p d i → False := by
                intro p d hc2 hst2
                have h1 := (stD_ps hR hc2 d).2.2
                rw [← (stD_ok hR hc2 d).2.1 i hst2, hps] at h1
                split at h1 <;> omega
              exact hRB q3 _ ⟨by omega, by show nI _ = nI _; rw [heq], rfl, k3.1.step_no hR (fun p hc2 hst2 => key p _ hc2 hst2), k3.2.1.step_no hR (fun p hc2 hst2 => key p _ hc2 hst2), k3.2.2.step_no hR (fun p hc2 hst2 => key p _ hc2 hst2)⟩
          · rw [if_pos (nI_le (by omega) (by omega))]
            have : i = (LY r c k).2.2.2.2 (l + 1) := by omega
            subst this
            unfold wX6_layArcs_X209
            rw [hmany, nI_1, nI_add, ← hsucc]
            exact hRR q _ ⟨rfl, k3, rfl⟩
        · show nI (arN r c k (LY r c k) l) = nI (arN r c k (LY r c k) l + arO r c k (LY r c k) l ((LY r c k).2.2.2.2 l))
          have z1 : arO r c k (LY r c k) l ((LY r c k).2.2.2.2 l) = 0 := by
            unfold arO
            rw [Nat.sub_self]
            split <;> rfl
          rw [z1]; rfl
    · rw [if_pos (nI_le (by omega) (by omega))]
      have : l = (LY r c k).2.1 := by omega
      subst this
      rw [hbn] at e2
      unfold wX6_layArcs_X223
      exact h _ _ _ _ _ _ _ _ _ hM e2
  · rw [hb0]
    exact ⟨fun p _ hl => absurd hl (Nat.not_lt_zero _), fun p _ hl => absurd hl (Nat.not_lt_zero _), fun p _ hl => absurd hl (Nat.not_lt_zero _)⟩
