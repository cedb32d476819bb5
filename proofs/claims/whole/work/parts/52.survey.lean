/-! the component's survey: passes, arcs, ties -/
theorem s_first {m : MS} {steps : Int32} {firsts : Nat → Int32} (hF : ∀ l, l ≤ m.2.1 → firsts l = nI (m.2.2.2.2 l)) (h36 : m.2.1 ≤ 36) {l : Nat} (hl : l ≤ m.2.1) {Q : Int32 → Prop} (h : Q (nI (m.2.2.2.2 l))) : wX2_firstStep steps firsts (nI l) Q := by
  unfold wX2_firstStep
  refine s_isIn ?_
  rw [isIn_in (by omega) (by omega), if_neg (by decide)]
  refine ⟨vp_in_nI (by omega) (by omega), ?_⟩
  rw [nI_clamp (by omega), hF l hl]
  exact h
theorem LY_fact {r c : Nat} (k : Nat → Nat) (hR : RC r c) : PM r c k (LY r c k).1 (LY r c k) ∧ (LY r c k).1 ≤ 144 ∧ (LY r c k).2.1 ≤ 36 := by
  have P := (LY_ok (r := r) (c := c) k hR.2.1 hR.2.2.2).1
  have h := PM_lp hR.2.1 hR.2.2.2 P
  exact ⟨P, h.1, by omega⟩
/-- a loop's begin and end -/
theorem bg_lim {r c : Nat} {k : Nat → Nat} {m : MS} (P : PM r c k m.1 m) {l : Nat} (hl : l < m.2.1) : m.2.2.2.2 l + 4 ≤ m.2.2.2.2 (l + 1) ∧ m.2.2.2.2 (l + 1) ≤ m.1 := by
  obtain ⟨p0, p1, p2, p3, p4, p5, p6, p7, p8, -⟩ := P
  have h := bg_mono p8 (show l + 1 ≤ m.2.1 by omega) (Nat.le_refl _)
  exact ⟨p8 l hl, by omega⟩
def psC (r c : Nat) (k : Nat → Nat) (m : MS) (v t : Nat) : Nat := fb_ct (fun j => decide (psT r c k m j = v)) t
theorem psC_succ (r c : Nat) (k : Nat → Nat) (m : MS) (v t : Nat) : psC r c k m v (t + 1) = psC r c k m v t + (if psT r c k m t = v then 1 else 0) := by
  unfold psC
  rw [fb_ct_succ]
  by_cases q : psT r c k m t = v <;> simp [q]
theorem psC_mono {r c : Nat} {k : Nat → Nat} {m : MS} {v a b : Nat} (h : a ≤ b) : psC r c k m v a ≤ psC r c k m v b := fb_ct_mono _ h
theorem psC_le {r c : Nat} {k : Nat → Nat} {m : MS} {v a : Nat} : psC r c k m v a ≤ a := fb_ct_le _ _
theorem psT_2 (r c : Nat) (k : Nat → Nat) (m : MS) (t : Nat) : psT r c k m t ≤ 2 := by
  unfold psT psS
  split
  · split <;> omega
  · omega
/-- the passes' row -/
def PaR (r c : Nat) (k : Nat → Nat) (T : Nat) (f : Nat → Int32) : Prop := ∀ t, t < T → f t = nI (psT r c k (LY r c k) t)
theorem s_countPasses {r c : Nat} {k : Nat → Nat} (hR : RC r c) {passes : Nat → Int32} (hP : PaR r c k (LY r c k).1 passes) {steps : Int32} {firsts : Nat → Int32} (hF : ∀ l, l ≤ (LY r c k).2.1 → firsts l = nI ((LY r c k).2.2.2.2 l)) {l v : Nat} (hl : l < (LY r c k).2.1) (hv : v ≤ 2) {Q : Int32 → Prop} (h : Q (nI (psC r c k (LY r c k) v ((LY r c k).2.2.2.2 (l + 1)) - psC r c k (LY r c k) v ((LY r c k).2.2.2.2 l)))) : wX1_countPasses passes steps firsts (nI l) (nI v) Q := by
  obtain ⟨P, hn, h36⟩ := LY_fact k hR
  obtain ⟨b1, b2⟩ := bg_lim P hl
  unfold wX1_countPasses
  rw [nI_1]
  refine s_first hF h36 (by omega) (s_first hF h36 (by omega) ?_)
  unfold lX1_countPasses_19
  refine lp_up (fun i a => (LY r c k).2.2.2.2 l ≤ i ∧ a.1 = nI (psC r c k (LY r c k) v i - psC r c k (LY r c k) v ((LY r c k).2.2.2.2 l)) ∧ a.2 = nI i) ((LY r c k).2.2.2.2 (l + 1)) ?_ FU ((LY r c k).2.2.2.2 l) _ ⟨Nat.le_refl _, by rw [Nat.sub_self]; rfl, rfl⟩ (by omega) (FU_of (by omega))
  rintro RR i ⟨x4, x6⟩ ⟨gi, g1, g2⟩ hi hRR
  dsimp only at g1 g2
  subst g1; subst g2
  unfold bX1_countPasses_19
  by_cases q : i < (LY r c k).2.2.2.2 (l + 1)
  · rw [if_neg (nI_ge q (by omega))]
    refine s_isIn ?_
    rw [isIn_in (by omega) (by omega), if_neg (by decide)]
    refine ⟨vp_in_nI (by omega) (by omega), ?_⟩
    rw [nI_clamp (by omega), hP i (by omega), nI_1, nI_1]
    refine hRR q _ ⟨by omega, ?_, rfl⟩
    have h1 := psC_succ r c k (LY r c k) v i
    have h2 : psC r c k (LY r c k) v ((LY r c k).2.2.2.2 l) ≤ psC r c k (LY r c k) v i := psC_mono gi
    have h3 := psT_2 r c k (LY r c k) i
    by_cases z : psT r c k (LY r c k) i = v
    · rw [if_pos (by rw [z])]
      rw [if_pos z] at h1
      exact congrArg nI (by omega)
    · rw [if_neg (fun e => z (nI_inj (by omega) (by omega) e))]
      rw [if_neg z] at h1
      exact congrArg nI (by omega)
  · rw [if_pos (nI_le (by omega) (by omega))]
    have : i = (LY r c k).2.2.2.2 (l + 1) := by omega
    subst this
    exact h
/-- arcs before a loop, in the loop, at a step -/
def arN (r c : Nat) (k : Nat → Nat) (m : MS) : Nat → Nat
  | 0 => 0
  | l + 1 => arN r c k m l + max (psC r c k m 2 (m.2.2.2.2 (l + 1)) - psC r c k m 2 (m.2.2.2.2 l)) 1
def arO (r c : Nat) (k : Nat → Nat) (m : MS) (l t : Nat) : Nat := if psC r c k m 2 t - psC r c k m 2 (m.2.2.2.2 l) < psC r c k m 2 (m.2.2.2.2 (l + 1)) - psC r c k m 2 (m.2.2.2.2 l) then psC r c k m 2 t - psC r c k m 2 (m.2.2.2.2 l) else 0
def arT (r c : Nat) (k : Nat → Nat) (m : MS) (t : Nat) : Nat := arN r c k m (m.2.2.1 (ceN (m.2.2.2.1 t)) - 1) + arO r c k m (m.2.2.1 (ceN (m.2.2.2.1 t)) - 1) t
theorem arN_le (r c : Nat) (k : Nat → Nat) (m : MS) : ∀ l, (∀ j, j < l → m.2.2.2.2 j ≤ m.2.2.2.2 (j + 1)) → arN r c k m l ≤ psC r c k m 2 (m.2.2.2.2 l) + l := by
  intro l
  induction l with
  | zero => intro _; exact Nat.zero_le _
  | succ l ih =>
    intro h
    have h1 := ih (fun j hj => h j (by omega))
    have h2 : psC r c k m 2 (m.2.2.2.2 l) ≤ psC r c k m 2 (m.2.2.2.2 (l + 1)) := psC_mono (h l (by omega))
    show arN r c k m l + max _ 1 ≤ _
    omega
/-- no more steps go under than there are crossings -/
theorem un_le {r c : Nat} {k : Nat → Nat} (hR : RC r c) {T : Nat} (hT : T ≤ (LY r c k).1) : psC r c k (LY r c k) 2 T ≤ inN r c := by
  have hk : ∀ i, i < psC r c k (LY r c k) 2 T → ∃ t, t < T ∧ psT r c k (LY r c k) t = 2 ∧ psC r c k (LY r c k) 2 t = i := by
    intro i hi
    obtain ⟨t, h1, h2, h3⟩ := fb_ct_kth hi
    exact ⟨t, h1, of_decide_eq_true h2, h3⟩
  refine fb_holes (inN r c) (psC r c k (LY r c k) 2 T) (fun i => cnt r c (enP ((LY r c k).2.2.2.1 (Classical.epsilon (fun t => t < T ∧ psT r c k (LY r c k) t = 2 ∧ psC r c k (LY r c k) 2 t = i))))) (fun i hi => ?_) (fun i j hij hj e => ?_)
  · obtain ⟨h1, h2, h3⟩ := Classical.epsilon_spec (hk i hi)
    rcases psT_st (k := k) hR (Nat.lt_of_lt_of_le h1 hT) with ⟨hc, -⟩ | ⟨-, hz⟩
    · exact cnt_lt (inn_lt hR (crB_inn hc)) (crB_inn hc)
    · omega
  · obtain ⟨h1, h2, h3⟩ := Classical.epsilon_spec (hk i (by omega))
    obtain ⟨g1, g2, g3⟩ := Classical.epsilon_spec (hk j hj)
    generalize Classical.epsilon (fun t => t < T ∧ psT r c k (LY r c k) t = 2 ∧ psC r c k (LY r c k) 2 t = i) = t at h1 h2 h3 e
    generalize Classical.epsilon (fun t => t < T ∧ psT r c k (LY r c k) t = 2 ∧ psC r c k (LY r c k) 2 t = j) = t' at g1 g2 g3 e
    rcases psT_st (k := k) hR (show t < (LY r c k).1 by omega) with ⟨hc, d, -, hd, hps⟩ | ⟨-, hz⟩
    · rcases psT_st (k := k) hR (show t' < (LY r c k).1 by omega) with ⟨hc', d', -, hd', hps'⟩ | ⟨-, hz'⟩
      · have e2 := cnt_inj (crB_inn hc) (crB_inn hc') e
        rw [← e2] at hd' hps'
        have e3 : d = d' := by
          rw [h2] at hps
          rw [g2] at hps'
          by_cases q : d = ovD k (enP ((LY r c k).2.2.2.1 t))
          · rw [if_pos q] at hps; omega
          · by_cases q' : d' = ovD k (enP ((LY r c k).2.2.2.1 t))
            · rw [if_pos q'] at hps'; omega
            · revert q q'
              cases d <;> cases d' <;> cases ovD k (enP ((LY r c k).2.2.2.1 t)) <;> simp
        rw [← e3, ← hd] at hd'
        rw [hd'] at g3
        omega
      · omega
    · omega
theorem arN_96 {r c : Nat} {k : Nat → Nat} (hR : RC r c) {l : Nat} (hl : l ≤ (LY r c k).2.1) : arN r c k (LY r c k) l ≤ 96 := by
  obtain ⟨P, hn, h36⟩ := LY_fact k hR
  have h1 := arN_le r c k (LY r c k) l (fun j hj => by have := (bg_lim P (show j < (LY r c k).2.1 by omega)).1; omega)
  have h2 : (LY r c k).2.2.2.2 l ≤ (LY r c k).1 := by
    have := bg_mono P.2.2.2.2.2.2.2.2.1 hl (Nat.le_refl _)
    have h3 := P.2.2.2.2.2.2.2.1
    omega
  have h3 := un_le (k := k) hR h2
  have h4 := inN_le hR
  omega
theorem arN_mono {r c : Nat} {k : Nat → Nat} {m : MS} : ∀ {b a : Nat}, a ≤ b → arN r c k m a ≤ arN r c k m b := by
  intro b
  induction b with
  | zero => intro a h; rw [show a = 0 by omega]; exact Nat.le_refl _
  | succ b ih =>
    intro a h
    rcases Nat.eq_or_lt_of_le h with e | e
    · rw [e]; exact Nat.le_refl _
    · have := ih (show a ≤ b by omega)
      show _ ≤ arN r c k m b + max _ 1
      omega
theorem arO_lt (r c : Nat) (k : Nat → Nat) (m : MS) (l t : Nat) : arN r c k m l + arO r c k m l t < arN r c k m (l + 1) := by
  show _ < arN r c k m l + max _ 1
  unfold arO
  split <;> omega
theorem arT_lt {r c : Nat} {k : Nat → Nat} (hR : RC r c) {t : Nat} (ht : t < (LY r c k).1) : arT r c k (LY r c k) t < arN r c k (LY r c k) (LY r c k).2.1 ∧ arN r c k (LY r c k) (LY r c k).2.1 ≤ 96 := by
  obtain ⟨P, hn, h36⟩ := LY_fact k hR
  obtain ⟨l, h1, h2, h3, h4⟩ := bg_of P ht
  have h5 := arO_lt r c k (LY r c k) l t
  have h6 : arN r c k (LY r c k) (l + 1) ≤ arN r c k (LY r c k) (LY r c k).2.1 := arN_mono (by omega)
  refine ⟨?_, arN_96 hR (Nat.le_refl _)⟩
  unfold arT
  rw [h2]
  show arN r c k (LY r c k) l + arO r c k (LY r c k) l t < _
  omega
def ArR (r c : Nat) (k : Nat → Nat) (T : Nat) (f : Nat → Int32) : Prop := ∀ t, t < T → f t = nI (arT r c k (LY r c k) t)
theorem s_numberArcs {r c : Nat} {k : Nat → Nat} (hR : RC r c) {passes : Nat → Int32} (hP : PaR r c k (LY r c k).1 passes) {steps : Int32} {firsts : Nat → Int32} (hF : ∀ l, l ≤ (LY r c k).2.1 → firsts l = nI ((LY r c k).2.2.2.2 l)) {l : Nat} (hl : l < (LY r c k).2.1) {f : Nat → Int32} (hA : ArR r c k ((LY r c k).2.2.2.2 l) f) {Q : Int32 → (Nat → Int32) → Prop} (h : ∀ f', ArR r c k ((LY r c k).2.2.2.2 (l + 1)) f' → Q (nI (arN r c k (LY r c k) (l + 1))) f') : wX1_numberArcs (nI (arN r c k (LY r c k) l)) passes f steps firsts (nI l) Q := by
  obtain ⟨P, hn, h36⟩ := LY_fact k hR
  obtain ⟨b1, b2⟩ := bg_lim P hl
  have hm : psC r c k (LY r c k) 2 ((LY r c k).2.2.2.2 l) ≤ psC r c k (LY r c k) 2 ((LY r c k).2.2.2.2 (l + 1)) := psC_mono (by omega)
  have hle := psC_le (r := r) (c := c) (k := k) (m := LY r c k) (v := 2) (a := (LY r c k).2.2.2.2 (l + 1))
  have h96 := arN_96 (k := k) hR (show l + 1 ≤ (LY r c k).2.1 by omega)
  unfold wX1_numberArcs
  rw [nI_1]
  refine s_first hF h36 (by omega) (s_countPasses (v := 2) hR hP hF hl (Nat.le_refl _) (s_first hF h36 (by omega) ?_))
  unfold lX1_numberArcs_27
  refine lp_up (fun i a => (LY r c k).2.2.2.2 l ≤ i ∧ a.1 = nI (psC r c k (LY r c k) 2 i - psC r c k (LY r c k) 2 ((LY r c k).2.2.2.2 l)) ∧ a.2.1 = nI i ∧ ArR r c k i a.2.2) ((LY r c k).2.2.2.2 (l + 1)) ?_ FU ((LY r c k).2.2.2.2 l) _ ⟨Nat.le_refl _, by rw [Nat.sub_self]; rfl, rfl, hA⟩ (by omega) (FU_of (by omega))
  rintro RR i ⟨x5, x6, g⟩ ⟨gi, g1, g2, g3⟩ hi hRR
  dsimp only at g1 g2 g3
  subst g1; subst g2
  unfold bX1_numberArcs_27
  by_cases q : i < (LY r c k).2.2.2.2 (l + 1)
  · rw [if_neg (nI_ge q (by omega))]
    refine s_isIn ?_
    rw [isIn_in (by omega) (by omega), if_neg (by decide)]
    refine ⟨vp_in_nI (by omega) (by omega), ?_⟩
    rw [nI_clamp (by omega), hP i (by omega), nI_1, nI_1]
    have h1 := psC_succ r c k (LY r c k) 2 i
    have h2 : psC r c k (LY r c k) 2 ((LY r c k).2.2.2.2 l) ≤ psC r c k (LY r c k) 2 i := psC_mono gi
    have h3 := psT_2 r c k (LY r c k) i
    have h4 : psC r c k (LY r c k) 2 i ≤ i := psC_le
    refine hRR q _ ⟨by omega, ?_, rfl, fun t ht => ?_⟩
    · show (if nI (psT r c k (LY r c k) i) = 2 then _ else _) = _
      by_cases z : psT r c k (LY r c k) i = 2
      · rw [if_pos (by rw [z]; rfl)]
        rw [if_pos z] at h1
        exact congrArg nI (by omega)
      · rw [if_neg (show ¬ nI (psT r c k (LY r c k) i) = 2 from fun e => z (nI_inj (b := 2) (by omega) (by omega) e))]
        rw [if_neg z] at h1
        exact congrArg nI (by omega)
    · show upd g i _ t = _
      rw [upd_e]
      by_cases z : t = i
      · subst z
        rw [if_pos rfl]
        have ho := own_of P hl gi q
        unfold arT
        rw [ho.2]
        show _ = nI (arN r c k (LY r c k) l + arO r c k (LY r c k) l t)
        unfold arO
        by_cases y : psC r c k (LY r c k) 2 t - psC r c k (LY r c k) 2 ((LY r c k).2.2.2.2 l) < psC r c k (LY r c k) 2 ((LY r c k).2.2.2.2 (l + 1)) - psC r c k (LY r c k) 2 ((LY r c k).2.2.2.2 l)
        · rw [if_pos y, if_neg (nI_ge y (by omega)), nI_add]
        · rw [if_neg y, if_pos (nI_le (by omega) (by omega)), l0, nI_add]
      · rw [if_neg z]; exact g3 t (by omega)
  · rw [if_pos (nI_le (by omega) (by omega))]
    have : i = (LY r c k).2.2.2.2 (l + 1) := by omega
    subst this
    have e : nI (arN r c k (LY r c k) l) + (if nI (psC r c k (LY r c k) 2 ((LY r c k).2.2.2.2 (l + 1)) - psC r c k (LY r c k) 2 ((LY r c k).2.2.2.2 l)) < 1 then 1 else nI (psC r c k (LY r c k) 2 ((LY r c k).2.2.2.2 (l + 1)) - psC r c k (LY r c k) 2 ((LY r c k).2.2.2.2 l))) = nI (arN r c k (LY r c k) (l + 1)) := by
      show _ = nI (arN r c k (LY r c k) l + max _ 1)
      rw [l1]
      by_cases z : psC r c k (LY r c k) 2 ((LY r c k).2.2.2.2 (l + 1)) - psC r c k (LY r c k) 2 ((LY r c k).2.2.2.2 l) < 1
      · rw [if_pos (nI_lt z (by omega)), nI_add]
        congr 1; omega
      · rw [if_neg (nI_nlt (by omega) (by omega)), nI_add]
        congr 1; omega
    unfold wX1_numberArcs_X90
    rw [e]
    exact h _ g3
