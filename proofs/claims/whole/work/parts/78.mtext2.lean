/-! the model's whole reading; the plait taken -/
set_option maxHeartbeats 1000000 in
theorem m_readText {tx : Nat → Nat} {ln : Nat} (hln : ln ≤ 72) (htx : ∀ j, j < ln → tx j < 256) {f : Nat → Int32} (hf : TxR tx ln f) {t1 t2 : Int32} {read told : Nat → Int32} {t3 t4 : Int32} {Q : Int32 → Int32 → Int32 → (Nat → Int32) → (Nat → Int32) → Int32 → Int32 → Prop}
    (h : ∀ t1' t2' rd td t3' t4', ((rdT tx ln).1 = -9 → t1' = nI (rdT tx ln).2.1 ∧ t2' = nI (rdT tx ln).2.2.1 ∧ RC (rdT tx ln).2.1 (rdT tx ln).2.2.1 ∧ (∀ p, (rdT tx ln).2.2.2 p ≤ 3) ∧ MpR (rdT tx ln).2.2.2 rd) → Q (rdT tx ln).1 t1' t2' rd td t3' t4') : wX6_readText t1 t2 read told f (nI ln) t3 t4 Q := by
  unfold wX6_readText lX6_readText_2
  refine lp_up (fun i a => a.1 = nI i ∧ ∀ p, p < i → a.2.1 p = 0 ∧ a.2.2 p = 0) 169 ?_ FU 0 _ ⟨rfl, fun p hp => absurd hp (Nat.not_lt_zero _)⟩ (Nat.zero_le _) (FU_of (by omega))
  rintro RR i ⟨x1, rd, td⟩ ⟨e1, e2⟩ hi hRR
  dsimp only at e1 e2 ⊢
  subst e1
  unfold bX6_readText_2
  rw [l169]
  by_cases q : i < 169
  · rw [if_neg (nI_ge q (by omega))]
    refine ⟨vp_in_nI q (by omega), ?_⟩
    rw [nI_clamp (by omega), nI_1, vB isB_0]
    refine hRR q _ ⟨rfl, fun p hp => ?_⟩
    show upd rd i 0 p = 0 ∧ upd td i 0 p = 0
    rw [upd_e, upd_e]
    by_cases z : p = i
    · rw [if_pos z, if_pos z]; exact ⟨rfl, rfl⟩
    · rw [if_neg z, if_neg z]; exact e2 p (by omega)
  · rw [if_pos (nI_le (by omega) (by omega))]
    have : i = 169 := by omega
    subst this
    clear hRR
    have hr0 : RdR (fun _ => 0) rd td := fun p hp => e2 p hp
    have hbad : ∀ {b : Nat} {t1' t2' t3' t4' : Int32} {rd' td' : Nat → Int32}, b < 2 ^ 31 → (rdT tx ln).1 = nI b → Q (nI b) t1' t2' rd' td' t3' t4' := by
      intro b t1' t2' t3' t4' rd' td' hb e
      have := h t1' t2' rd' td' t3' t4' (fun z => absurd (e.symm.trans z) (neg_ne hb (by decide)))
      rw [e] at this
      exact this
    unfold wX6_readText_X29
    by_cases z0 : ln = 0
    · subst z0
      rw [if_pos (by rfl)]
      exact hbad (b := 0) (by omega) (by unfold rdT; rw [if_pos (Or.inl rfl)]; rfl)
    · rw [if_neg (nI_ne0 (by omega) (by omega)), show ((0 : Int32).toNatClampNeg) = 0 from rfl, hf 0 (by omega)]
      have h0 := htx 0 (by omega)
      by_cases z1 : tx 0 = 78
      · rw [if_pos (by rw [z1]; rfl)]
        have b126 : ∀ s, Nat.testBit 126 (dgN s) = true ↔ 1 ≤ dgN s ∧ dgN s ≤ 6 := by
          intro s
          have key : ∀ d, d < 32 → (Nat.testBit 126 d = true ↔ 1 ≤ d ∧ d ≤ 6) := by decide
          exact key _ (by have := dgN_lim s; omega)
        have e126 : (126 : Int32) = nI 126 := rfl
        rw [e126]
        have fig1 : ∀ {P : Int32 → Int32 → Int32 → Prop}, ((ln ≤ 1 ∨ ¬ (1 ≤ dgN (tx 1) ∧ dgN (tx 1) ≤ 6)) → P 0 (nI 1) (nI 1)) → (1 < ln → 1 ≤ dgN (tx 1) ∧ dgN (tx 1) ≤ 6 → P (nI (dgN (tx 1))) (nI 2) (-9)) → wX6_figure f (nI ln) 1 (-9) (nI 126) P := by
          intro P p1 p2
          refine m_figure (a := 1) hln htx hf (by decide) (by omega) (fun w => p1 ?_) (fun w1 w2 => p2 w1 ((b126 _).mp w2))
          rcases w with w | w
          · exact Or.inl w
          · exact Or.inr (fun y => by rw [(b126 _).mpr y] at w; cases w)
        refine fig1 (fun w => ?_) (fun w1 w2 => ?_)
        · -- R is wanting
          refine m_figureF (a := 1) (b := 1) (by decide) (by omega) ?_
          have e : (rdT tx ln).1 = nI 1 := by
            unfold rdT
            rw [if_neg (by omega), if_pos w]; rfl
          unfold lX6_readText_85
          refine lpN_inv (fun a => a.2.2.2 = nI 1) (fun _ => 0) ?_ FU _ rfl (FU_of (by omega))
          rintro RB ⟨g1, g2, g3, g4⟩ ge _
          dsimp only at ge ⊢
          subst ge
          unfold bX6_readText_85
          rw [if_neg (by decide)]
          unfold wX6_readText_X121
          exact hbad (by omega) e
        · refine m_figure (a := 2) hln htx hf (by decide) (by omega) (fun w => ?_) (fun w3 w4 => ?_)
          · -- C is wanting
            have e : (rdT tx ln).1 = nI 2 := by
              unfold rdT
              rw [if_neg (by omega), if_neg (fun y => by rcases y with y | y; omega; exact y w2), if_pos]
              · rfl
              · rcases w with w | w
                · exact Or.inl w
                · exact Or.inr (fun y => by rw [(b126 _).mpr y] at w; cases w)
            unfold lX6_readText_85
            refine lpN_inv (fun a => a.2.2.2 = nI 2) (fun _ => 0) ?_ FU _ rfl (FU_of (by omega))
            rintro RB ⟨g1, g2, g3, g4⟩ ge _
            dsimp only at ge ⊢
            subst ge
            unfold bX6_readText_85
            rw [if_neg (by decide)]
            unfold wX6_readText_X121
            exact hbad (by omega) e
          · have w5 := (b126 _).mp w4
            have hT := rdT_3 (ln := ln) w3 z1 w2.1 w2.2 w5.1 w5.2
            have hR : RC (dgN (tx 1)) (dgN (tx 2)) := ⟨w2.1, w2.2, w5.1, w5.2⟩
            unfold lX6_readText_85
            refine lpN_inv (fun a => (∃ fu k kk, a.2.2.1 = nI k ∧ a.2.2.2 = -9 ∧ k ≤ ln ∧ (∀ p, kk p ≤ 3) ∧ RdR kk a.1 a.2.1 ∧ ln < k + 3 * fu ∧ rdP tx ln (dgN (tx 1)) (dgN (tx 2)) fu k kk = rdP tx ln (dgN (tx 1)) (dgN (tx 2)) 30 3 (fun _ => 0)) ∨ (∃ b, b < 1000 ∧ a.2.2.2 = nI b ∧ (rdT tx ln).1 = nI b)) (fun a => if a.2.2.2 = -9 then 200 - a.2.2.1.toNatClampNeg else 0) ?_ FU _ (Or.inl ⟨30, 3, fun _ => 0, rfl, rfl, by omega, fun _ => Nat.zero_le _, hr0, by omega, rfl⟩) ?_
            · rintro RB ⟨g1, g2, g3, g4⟩ hI hRB
              rcases hI with ⟨fu, k, kk, e1, e2, e3, e4, e5, e6, e7⟩ | ⟨b, hb, e1, e2⟩
              · dsimp only at e1 e2 e5 ⊢
                subst e1; subst e2
                have hT1 : (rdT tx ln).1 = (rdP tx ln (dgN (tx 1)) (dgN (tx 2)) fu k kk).1 := by rw [hT, e7]
                unfold bX6_readText_85
                rw [if_pos rfl]
                by_cases y : k < ln
                · rw [if_neg (nI_ge y (by omega))]
                  refine ⟨vp_in_nI (by omega) (by omega), ?_⟩
                  rw [nI_clamp (by omega), hf k y]
                  refine m_readPart hR hln htx hf e5 y e6 (fun b rd' td' ab hb hrd => ?_) (fun kk' rd' td' _ hk' hr' hle hst => ?_) e4
                  · refine hRB _ (Or.inr ⟨b, by omega, rfl, hT1.trans hrd⟩) ?_
                    show (if nI b = -9 then _ else 0) < (if (-9 : Int32) = -9 then 200 - (nI k).toNatClampNeg else 0)
                    rw [if_neg (neg_ne (by omega) (by decide)), if_pos rfl, nI_clamp (by omega)]
                    omega
                  · refine hRB _ (Or.inl ⟨fu - 1, k + 3, kk', rfl, rfl, hle, hk', hr', by omega, by rw [← hst]; exact e7⟩) ?_
                    show (if (-9 : Int32) = -9 then 200 - (nI (k + 3)).toNatClampNeg else 0) < (if (-9 : Int32) = -9 then 200 - (nI k).toNatClampNeg else 0)
                    rw [if_pos rfl, if_pos rfl, nI_clamp (by omega), nI_clamp (by omega)]
                    omega
                · rw [if_pos (nI_le (by omega) (by omega))]
                  unfold wX6_readText_X121
                  have e8 := rdP_0 (tx := tx) (ln := ln) (r := dgN (tx 1)) (c := dgN (tx 2)) (f := fu) (a := k) (kk := kk) (by omega)
                  rw [e8] at e7
                  have hT2 : rdT tx ln = (-9, dgN (tx 1), dgN (tx 2), kk) := by rw [hT, ← e7]
                  rw [hT2] at h
                  exact h _ _ _ _ _ _ (fun _ => ⟨rfl, rfl, hR, e4, fun p hp => (e5 p hp).1⟩)
              · dsimp only at e1 ⊢
                subst e1
                unfold bX6_readText_85
                rw [if_neg (neg_ne (by omega) (by decide))]
                unfold wX6_readText_X121
                exact hbad (by omega) e2
            · show (if (-9 : Int32) = -9 then 200 - (nI 3).toNatClampNeg else 0) < FU
              rw [if_pos rfl]
              exact FU_of (by omega)
      · rw [if_neg (show ¬ nI (tx 0) = 78 from fun e => z1 (nI_inj (b := 78) (by omega) (by omega) e))]
        exact hbad (b := 0) (by omega) (by unfold rdT; rw [if_pos (Or.inr z1)]; rfl)
theorem m_fault {tx : Nat → Nat} {ln : Nat} (hln : ln ≤ 72) (htx : ∀ j, j < ln → tx j < 256) {f : Nat → Int32} (hf : TxR tx ln f) {t1 t2 : Int32} {read told : Nat → Int32} {t3 t4 : Int32} {Q : Int32 → Int32 → Int32 → (Nat → Int32) → (Nat → Int32) → Int32 → Int32 → Prop} (h : ∀ t1' t2' rd td t3' t4', Q (rdT tx ln).1 t1' t2' rd td t3' t4') : wX6_fault t1 t2 read told f (nI ln) t3 t4 Q := by
  unfold wX6_fault
  exact m_readText hln htx hf (fun _ _ _ _ _ _ _ => h _ _ _ _ _ _)
theorem m_plait {tx : Nat → Nat} {ln : Nat} (hln : ln ≤ 72) (htx : ∀ j, j < ln → tx j < 256) {f : Nat → Int32} (hf : TxR tx ln f) {o1 o2 : Int32} {pts : Nat → Int32} {t1 t2 : Int32} {read told : Nat → Int32} {t3 t4 : Int32} {Q : Int32 → Int32 → Int32 → (Nat → Int32) → Int32 → Int32 → (Nat → Int32) → (Nat → Int32) → Int32 → Int32 → Prop}
    (hno : (rdT tx ln).1 ≠ -9 → ∀ t1' t2' rd td t3' t4', Q (-3) o1 o2 pts t1' t2' rd td t3' t4')
    (hyes : (rdT tx ln).1 = -9 → RC (rdT tx ln).2.1 (rdT tx ln).2.2.1 → (∀ p, (rdT tx ln).2.2.2 p ≤ 3) → ∀ pts' t1' t2' rd td t3' t4', MpR (rdT tx ln).2.2.2 pts' → Q (nI (inN (rdT tx ln).2.1 (rdT tx ln).2.2.1)) (nI (rdT tx ln).2.1) (nI (rdT tx ln).2.2.1) pts' t1' t2' rd td t3' t4') : wX6_plait o1 o2 pts t1 t2 read told f (nI ln) t3 t4 Q := by
  unfold wX6_plait
  refine m_readText hln htx hf (fun t1' t2' rd td t3' t4' hg => ?_)
  by_cases z : (rdT tx ln).1 = -9
  · obtain ⟨g1, g2, hR, hk, hM⟩ := hg z
    rw [if_pos z]
    unfold lX6_plait_14
    refine lp_up (fun i a => a.1 = nI i ∧ ∀ p, p < i → a.2 p = nI ((rdT tx ln).2.2.2 p)) 169 ?_ FU 0 _ ⟨rfl, fun p hp => absurd hp (Nat.not_lt_zero _)⟩ (Nat.zero_le _) (FU_of (by omega))
    rintro RR i ⟨x1, g⟩ ⟨e1, e2⟩ hi hRR
    dsimp only at e1 e2 ⊢
    subst e1
    unfold bX6_plait_14
    rw [l169]
    by_cases q : i < 169
    · rw [if_neg (nI_ge q (by omega))]
      refine ⟨vp_in_nI q (by omega), ?_⟩
      rw [nI_clamp (by omega), nI_1, hM i q]
      refine hRR q _ ⟨rfl, fun p hp => ?_⟩
      show upd g i _ p = _
      rw [upd_e]
      by_cases w : p = i
      · rw [if_pos w, w]
      · rw [if_neg w]; exact e2 p (by omega)
    · rw [if_pos (nI_le (by omega) (by omega))]
      have : i = 169 := by omega
      subst this
      unfold wX6_plait_X39
      rw [g1, g2]
      exact m_inner hR (hyes z hR hk _ _ _ _ _ _ _ (fun p hp => e2 p hp))
  · rw [if_neg z]
    exact hno z _ _ _ _ _ _
