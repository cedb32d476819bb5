/-! the model's rules put, its rank, its colours -/
theorem m_zero {W s : Nat} (hW : W ≤ 96) (hs : s < 60) {M : Nat → Int32} {K : (Nat → Int32) → Prop} (h : ∀ M', (∀ j, j < W → M' (103 * s + j) = 0) → (∀ i, i ≠ s → ∀ j, j < 103 → M' (103 * i + j) = M (103 * i + j)) → K M') : lX6_colours_45 (nI W) (nI s) K FU 0 M := by
  have e103 : (103 : Int32) = nI 103 := rfl
  unfold lX6_colours_45
  refine lp_up (fun x a => a.1 = nI x ∧ (∀ j, j < x → a.2 (103 * s + j) = 0) ∧ ∀ i, i ≠ s → ∀ j, j < 103 → a.2 (103 * i + j) = M (103 * i + j)) W ?_ FU 0 _ ⟨rfl, fun j hj => absurd hj (Nat.not_lt_zero _), fun _ _ _ _ => rfl⟩ (Nat.zero_le _) (FU_of (by omega))
  rintro RR x ⟨x4, g⟩ ⟨e1, e2, e3⟩ hx hRR
  dsimp only at e1 e2 e3 ⊢
  subst e1
  unfold bX6_colours_45
  by_cases q : x < W
  · rw [if_neg (nI_ge q (by omega)), e103, pk_mul, nI_add]
    refine ⟨vp_in_nI (by omega) (by omega), ?_⟩
    rw [nI_clamp (by omega), nI_1]
    refine hRR q _ ⟨rfl, fun j hj => ?_, fun i hi j hj => ?_⟩
    · show upd g (103 * s + x) 0 (103 * s + j) = 0
      rw [upd_e]
      by_cases z : j = x
      · rw [if_pos (by rw [z])]
      · rw [if_neg (by omega)]; exact e2 j (by omega)
    · show upd g (103 * s + x) 0 (103 * i + j) = _
      rw [upd_e, if_neg (by omega)]; exact e3 i hi j hj
  · rw [if_pos (nI_le (by omega) (by omega))]
    have : x = W := by omega
    subst this
    exact h _ e2 e3
theorem row_val {P : Nat} (hP : P357 P) (j o1 o2 o3 : Nat) : ((if j = o3 then (if o3 = o2 then (if o2 = o1 then (0 : Int32) + 2 else 0) + nI (P - 1) else (if o3 = o1 then (0 : Int32) + 2 else 0)) + nI (P - 1) else (if j = o2 then (if o2 = o1 then (0 : Int32) + 2 else 0) + nI (P - 1) else (if j = o1 then (0 : Int32) + 2 else 0))).toInt % (P : Int) = ((if j = o1 then (2 : Int) else 0) - (if j = o2 then 1 else 0) - (if j = o3 then 1 else 0)) % (P : Int)) ∧ -20 ≤ (if j = o3 then (if o3 = o2 then (if o2 = o1 then (0 : Int32) + 2 else 0) + nI (P - 1) else (if o3 = o1 then (0 : Int32) + 2 else 0)) + nI (P - 1) else (if j = o2 then (if o2 = o1 then (0 : Int32) + 2 else 0) + nI (P - 1) else (if j = o1 then (0 : Int32) + 2 else 0))).toInt ∧ (if j = o3 then (if o3 = o2 then (if o2 = o1 then (0 : Int32) + 2 else 0) + nI (P - 1) else (if o3 = o1 then (0 : Int32) + 2 else 0)) + nI (P - 1) else (if j = o2 then (if o2 = o1 then (0 : Int32) + 2 else 0) + nI (P - 1) else (if j = o1 then (0 : Int32) + 2 else 0))).toInt ≤ 20 := by
  rcases hP with rfl | rfl | rfl <;> rcases Classical.propComplete (j = o1) with w1 | w1 <;> rcases Classical.propComplete (j = o2) with w2 | w2 <;> rcases Classical.propComplete (j = o3) with w3 | w3 <;> rcases Classical.propComplete (o2 = o1) with w4 | w4 <;> rcases Classical.propComplete (o3 = o1) with w5 | w5 <;> rcases Classical.propComplete (o3 = o2) with w6 | w6 <;> first | (simp only [w1, w2, w3, w4, w5, w6, if_true, if_false]; decide) | (exfalso; simp only [eq_iff_iff, iff_true, iff_false] at w1 w2 w3 w4 w5 w6; omega)
set_option maxHeartbeats 2000000 in
theorem m_colJ {r c : Nat} (hR : RC r c) {k : Nat → Nat} (hk : ∀ p, k p ≤ 3) {pts : Nat → Int32} (hp : MpR k pts) {lo dn ro be : Nat → Int32} {lp nc nd : Int32} {a1 a2 a3 : Nat → Int32} {a4 : Int32} {M : Nat → Int32} {P : Nat} (hP : P357 P) {Q : Int32 → (Nat → Int32) → (Nat → Int32) → (Nat → Int32) → (Nat → Int32) → Int32 → Int32 → Int32 → (Nat → Int32) → (Nat → Int32) → (Nat → Int32) → Int32 → (Nat → Int32) → Prop}
    (h : ∀ lo' dn' ro' be' lp' nc' nd' a1' a2' a3' a4' M', Q (nI (arN r c k (LY r c k) (LY r c k).2.1) - nI (coE r c k P)) lo' dn' ro' be' lp' nc' nd' a1' a2' a3' a4' M') : wX6_colours_J19 (nI r) (nI c) pts lo dn ro be lp nc nd a1 a2 a3 a4 M (nI P) Q := by
  have hP7 : P < 8 ∧ 1 ≤ P := by rcases hP with rfl | rfl | rfl <;> omega
  have e103 : (103 : Int32) = nI 103 := rfl
  have h60 := inN_le hR
  have h96 : arN r c k (LY r c k) (LY r c k).2.1 ≤ 96 := arN_96 hR (Nat.le_refl _)
  have hH : (cmP r c k 169).1 ≤ 60 := by
    have h1 := cmP_le r c k 169
    have h3 : cnt r c 169 = inN r c := rfl
    omega
  unfold wX6_colours_J19
  refine m_layArcs hR hk hp (fun lo' dn' ro' be' nc' nd' f1 f2 f3 hM hA => ?_)
  unfold lX6_colours_27
  refine lp_pla (r := r) (c := c) (cmG r c k) ((0, fun _ _ => 0) : Nat × MX) (fun i s a => a.1 = nI s.1 ∧ a.2.1 = nI i ∧ MxR P s.1 0 (arN r c k (LY r c k) (LY r c k).2.1) a.2.2 s.2) ?_ ?_ ?_ FU _ ⟨rfl, rfl, fun i hi => absurd hi (Nat.not_lt_zero _)⟩ (FU_of (by omega))
  · rintro RR p s ⟨x1, x2, g⟩ hp169 hip hb ⟨e1, e2, e3⟩ hRR
    dsimp only at e1 e2 e3 ⊢
    subst e1; subst e2
    have hs60 : s.1 < 60 := by
      have h1 := cmP_le r c k p
      have h2 := cnt_60 hR hip
      have h3 : s.1 = (cmP r c k p).1 := by rw [hb]; rfl
      omega
    unfold bX6_colours_27
    rw [l169, if_neg (nI_ge hp169 (by omega)), nI_1]
    refine m_isCr hR hk hp hp169 ?_
    unfold cmG at hRR
    cases hc : crB r c k p with
    | false =>
      rw [hc, if_neg (by decide)] at hRR
      rw [bI_f, if_pos rfl]
      exact hRR _ ⟨rfl, rfl, e3⟩
    | true =>
      rw [hc, if_pos rfl] at hRR
      rw [bI_t, if_neg (by decide)]
      obtain ⟨q1, q2, q3, q4⟩ := ar_lt hR hc
      have v1 := hA.1 p hc (stD_ps hR hc _).1
      have v2 := hA.2.1 p hc (stD_ps hR hc _).1
      have v3 := hA.2.2 p hc (stD_ps hR hc _).1
      refine m_zero h96 hs60 (fun M' z1 z2 => ?_)
      unfold wX6_colours_X73
      rw [e103, nI_clamp (n := p) (by omega), v1, v2, v3, pk_mul, nI_add, nI_add, nI_add]
      refine ⟨vp_in_nI hp169 (by omega), vp_in_nI (by omega) (by omega), vp_in_nI (by omega) (by omega), vp_in_nI (by omega) (by omega), ?_⟩
      rw [nI_clamp (by omega), nI_clamp (by omega), nI_clamp (by omega), nI_1, nI_1, l1, pk_sub hP7.2]
      refine hRR _ ⟨rfl, rfl, fun i hi j h1 h2 => ?_⟩
      have hi2 : i < s.1 + 1 := hi
      dsimp only
      by_cases w : i = s.1
      · subst w
        rw [if_pos rfl]
        rw [upd_e, upd_e, upd_e, upd_e, upd_e, upd_e, z1 j h2, z1 _ q1, z1 _ q2, z1 _ q3]
        unfold rwE
        have hj : ∀ a b : Nat, (103 * s.1 + a = 103 * s.1 + b) = (a = b) := fun a b => propext (by omega)
        simp only [hj]
        exact row_val hP j _ _ _
      · rw [if_neg w]
        rw [upd_e, if_neg (by omega), upd_e, if_neg (by omega), upd_e, if_neg (by omega), z2 i w j (by omega)]
        exact e3 i (by omega) j h1 h2
  · rintro RR p s ⟨x1, x2, g⟩ hp169 hip hb ⟨e1, e2, e3⟩ hRR
    dsimp only at e1 e2 e3 ⊢
    subst e1; subst e2
    unfold bX6_colours_27
    rw [l169, if_neg (nI_ge hp169 (by omega)), nI_1]
    refine m_isCr hR hk hp hp169 ?_
    rw [crB_out hip, bI_f, if_pos rfl]
    exact hRR _ ⟨rfl, rfl, e3⟩
  · rintro RR ⟨x1, x2, g⟩ ⟨e1, e2, e3⟩
    dsimp only at e1 e2 e3 ⊢
    subst e1; subst e2
    unfold bX6_colours_27
    rw [l169, if_pos (nI_le (by omega) (by omega))]
    unfold wX6_colours_X146 lX6_colours_151
    unfold coE at h
    change MxR P (cmP r c k 169).1 0 _ g (cmP r c k 169).2 at e3
    change lpN _ FU (0, 0, g)
    generalize arN r c k (LY r c k) (LY r c k).2.1 = W at h96 h e3 ⊢
    have eH : nI (FP r c (cmG r c k) (0, fun _ _ => 0) 169).1 = nI (cmP r c k 169).1 := rfl
    rw [eH]
    generalize (cmP r c k 169).1 = H at hH h e3 ⊢
    generalize (cmP r c k 169).2 = A0 at h e3
    refine lp_up (fun i a => ∃ rank A, a.1 = nI rank ∧ a.2.1 = nI i ∧ rank ≤ H ∧ MxR P H i W a.2.2 A ∧ elR P H (W - i) rank i A = elR P H W 0 0 A0) W ?_ FU 0 _ ⟨0, A0, rfl, rfl, Nat.zero_le _, e3, rfl⟩ (Nat.zero_le _) (FU_of (by omega))
    rintro RB i ⟨y1, y2, g2⟩ ⟨rank, A, k1, k2, k3, k4, k5⟩ hi hRB
    dsimp only at k1 k2 k4 ⊢
    subst k1; subst k2
    unfold bX6_colours_151
    have fin : elR P H (W - i) rank i A = rank → wX6_colours_X183 Q lo' dn' ro' be' (nI (LY r c k).2.1) nc' nd' f1 f2 f3 (nI W) (nI rank) g2 := by
      intro e
      unfold wX6_colours_X183
      rw [← k5, e] at h
      exact h _ _ _ _ _ _ _ _ _ _ _ _
    by_cases q : i < W
    · rw [if_neg (nI_ge q (by omega))]
      by_cases q2 : rank < H
      · rw [if_neg (nI_ge q2 (by omega))]
        have e7 : elR P H (W - i) rank i A = (match fdR P A i (H - rank) rank with
          | none => elR P H (W - (i + 1)) rank (i + 1) A
          | some j => elR P H (W - (i + 1)) (rank + 1) (i + 1) (clM P H (swM A rank j) rank i)) := by
          rw [show W - i = (W - (i + 1)) + 1 by omega]; rfl
        rw [e7] at k5
        refine m_sweep hP hH h96 q k4 q2 (fun hn => ?_) (fun j hj hjH M' hM' => ?_)
        · rw [hn] at k5
          refine hRB q _ ⟨rank, A, by simp, nI_1 i, k3, k4.less (by omega), k5⟩
        · rw [hj] at k5
          exact hRB q _ ⟨rank + 1, _, nI_1 rank, nI_1 i, by omega, hM'.less (by omega), k5⟩
      · rw [if_pos (nI_le (by omega) (by omega))]
        exact fin (elR_full _ _ _ _ (by omega))
    · rw [if_pos (nI_le (by omega) (by omega))]
      refine fin ?_
      rw [show W - i = 0 by omega]; rfl
theorem m_colours {r c : Nat} (hR : RC r c) {k : Nat → Nat} (hk : ∀ p, k p ≤ 3) {pts : Nat → Int32} (hp : MpR k pts) {lo dn ro be : Nat → Int32} {lp nc nd : Int32} {a1 a2 a3 : Nat → Int32} {a4 : Int32} {M : Nat → Int32} {x : Int32} {Q : Int32 → (Nat → Int32) → (Nat → Int32) → (Nat → Int32) → (Nat → Int32) → Int32 → Int32 → Int32 → (Nat → Int32) → (Nat → Int32) → (Nat → Int32) → Int32 → (Nat → Int32) → Prop}
    (h : ∀ lo' dn' ro' be' lp' nc' nd' a1' a2' a3' a4' M', Q (aColours r c k x) lo' dn' ro' be' lp' nc' nd' a1' a2' a3' a4' M') : wX6_colours (nI r) (nI c) pts lo dn ro be lp nc nd a1 a2 a3 a4 M x Q := by
  unfold wX6_colours
  unfold aColours at h
  by_cases w3 : x = 3
  · rw [if_pos w3] at h ⊢
    subst w3
    exact m_colJ (P := 3) hR hk hp (Or.inl rfl) h
  rw [if_neg w3] at h ⊢
  by_cases w5 : x = 5
  · rw [if_pos w5] at h ⊢
    subst w5
    exact m_colJ (P := 5) hR hk hp (Or.inr (Or.inl rfl)) h
  rw [if_neg w5] at h ⊢
  by_cases w7 : x = 7
  · rw [if_pos w7] at h ⊢
    subst w7
    exact m_colJ (P := 7) hR hk hp (Or.inr (Or.inr rfl)) h
  rw [if_neg w7] at h ⊢
  exact h _ _ _ _ _ _ _ _ _ _ _ _
