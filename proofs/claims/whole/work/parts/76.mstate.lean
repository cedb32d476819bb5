/-! the model made anew, kept, told about -/
theorem m_write {tx : Nat → Nat} {ln : Nat} (hln : ln ≤ 72) {f : Nat → Int32} (hf : TxR tx ln f) {n : Int32} {v : Int64} {Q : Int32 → (Nat → Int32) → Int32 → Prop} (h1 : rgI 1 8 n = none → Q (-2) f (nI ln)) (h2 : ∀ m, rgI 1 8 n = some m → 72 < ln + m → Q (-4) f (nI ln)) (h3 : ∀ m f', rgI 1 8 n = some m → ln + m ≤ 72 → TxR (wrT m v tx ln) (ln + m) f' → Q (nI (ln + m)) f' (nI (ln + m))) : wX6_write f (nI ln) n v Q := by
  unfold wX6_write
  refine m_rg 1 8 (by decide) (by decide) (by omega) (by omega) (fun y => ?_) (fun m y => ?_)
  · rw [if_pos rfl]; exact h1 y
  · have h2' := h2 m y
    have h3' := fun f' => h3 m f' y
    obtain ⟨rfl, y1, y2, -⟩ := rgI_some y
    rw [if_neg (by decide), nI_add, l72]
    by_cases q : ln + m ≤ 72
    · rw [if_pos (nI_le q (by omega))]
      have e0 : nI m - 1 = nI (m - 1) := pk_sub (a := m) (b := 1) y1
      rw [e0]
      unfold lX6_write_34
      refine lpN_inv (fun x => (∃ j, j < m ∧ x.1 = nI (m - 1 - j) ∧ x.2.2 = nI (ln + j) ∧ TxR (wrT m v tx ln) (ln + j) x.2.1) ∨ (x.1 = -1 ∧ x.2.2 = nI (ln + m) ∧ TxR (wrT m v tx ln) (ln + m) x.2.1)) (fun x => 100 - x.2.2.toNatClampNeg) ?_ FU _ (Or.inl ⟨0, by omega, rfl, rfl, fun j hj => ?_⟩) (FU_of (by omega))
      · rintro RR ⟨x5, g, le⟩ hI hRR
        rcases hI with ⟨j, hj, e1, e2, e3⟩ | ⟨e1, e2, e3⟩
        · dsimp only at e1 e2 e3 ⊢
          subst e1; subst e2
          unfold bX6_write_34
          rw [if_neg (nI_pos (by omega)), byt_m v (by omega)]
          refine ⟨vp_in_nI (by omega) (by omega), ?_⟩
          rw [nI_clamp (by omega), nI_1]
          have hS : TxR (wrT m v tx ln) (ln + j + 1) (upd g (ln + j) (nI (bytL v (m - 1 - j)))) := by
            intro q hq
            rw [upd_e]
            by_cases z : q = ln + j
            · subst z
              rw [if_pos rfl]
              unfold wrT
              rw [if_pos ⟨by omega, by omega⟩, show m - 1 - (ln + j - ln) = m - 1 - j by omega]
            · rw [if_neg z]; exact e3 q (by omega)
          refine hRR _ ?_ ?_
          · by_cases z : j + 1 < m
            · refine Or.inl ⟨j + 1, z, ?_, rfl, hS⟩
              show nI (m - 1 - j) + -1 = nI (m - 1 - (j + 1))
              rw [nI_m1 (by omega)]
              congr 1
            · refine Or.inr ⟨?_, ?_, ?_⟩
              · show nI (m - 1 - j) + -1 = -1
                rw [show m - 1 - j = 0 by omega]; rfl
              · show nI (ln + j + 1) = nI (ln + m)
                congr 1; omega
              · show TxR _ (ln + m) _
                rw [show ln + m = ln + j + 1 by omega]; exact hS
          · show 100 - (nI (ln + j + 1)).toNatClampNeg < 100 - (nI (ln + j)).toNatClampNeg
            rw [nI_clamp (by omega), nI_clamp (by omega)]
            omega
        · dsimp only at e1 e2 e3 ⊢
          subst e1; subst e2
          unfold bX6_write_34
          rw [if_pos (by decide)]
          exact h3' _ q e3
      · show f j = _
        rw [hf j (by omega)]
        unfold wrT
        rw [if_neg (by omega)]
    · rw [if_neg (nI_ge (by omega) (by omega))]
      exact h2' (by omega)
set_option maxHeartbeats 1000000 in
theorem m_make {t1 t2 : Int32} {pts : Nat → Int32} {p1 p2 : Int32} {p3 : Int64} {p4 p5 : Int32} {Q : Int32 → Int32 → Int32 → (Nat → Int32) → Prop} (hno : mkI p1 p2 p4 p5 = none → Q (-2) t1 t2 pts) (hyes : ∀ r c h v, mkI p1 p2 p4 p5 = some (r, c, h, v) → RC r c → ∀ pts', MpR (soE r c h v p3) pts' → Q (nI (inN r c)) (nI r) (nI c) pts') : wX6_make t1 t2 pts p1 p2 p3 p4 p5 Q := by
  unfold wX6_make
  unfold mkI at hno hyes
  refine m_rg 1 6 (by decide) (by decide) (by omega) (by omega) (fun y => ?_) (fun r y => ?_)
  · rw [if_pos rfl]
    exact hno (by rw [y]; rfl)
  rw [y] at hno hyes
  simp only [Option.bind_some] at hno hyes
  rw [if_neg (by decide)]
  obtain ⟨rfl, r1, r2, -⟩ := rgI_some y
  refine m_rg 1 6 (by decide) (by decide) (by omega) (by omega) (fun y => ?_) (fun c y => ?_)
  · rw [if_pos rfl]
    exact hno (by rw [y]; rfl)
  rw [y] at hno hyes
  simp only [Option.bind_some] at hno hyes
  rw [if_neg (by decide)]
  obtain ⟨rfl, c1, c2, -⟩ := rgI_some y
  refine m_rg 0 10 (by decide) (by decide) (by omega) (by omega) (fun y => ?_) (fun h y => ?_)
  · rw [if_pos rfl]
    exact hno (by rw [y]; rfl)
  rw [y] at hno hyes
  simp only [Option.bind_some] at hno hyes
  rw [if_neg (by decide)]
  obtain ⟨rfl, -, h2, -⟩ := rgI_some y
  refine m_rg 0 10 (by decide) (by decide) (by omega) (by omega) (fun y => ?_) (fun v y => ?_)
  · rw [if_pos rfl]
    exact hno (by rw [y]; rfl)
  rw [y] at hno hyes
  simp only [Option.bind_some] at hno hyes
  rw [if_neg (by decide)]
  obtain ⟨rfl, -, v2, -⟩ := rgI_some y
  rw [nI_add, l10]
  have hR : RC r c := ⟨r1, r2, c1, c2⟩
  by_cases q : h + v ≤ 10
  · rw [if_pos (nI_le q (by omega))]
    rw [if_pos q] at hyes
    unfold lX6_make_79
    have key : ∀ s : Int64, (if nI h ≤ (lN (lfN (sdN s))).toInt32 then (if nI (h + v) ≤ (lN (lfN (sdN s))).toInt32 then (0 : Int32) else 2) else 1) = nI (kdN h v (sdN s)) := by
      intro s
      have h10 := lf_10 (sdN s)
      rw [lN_i]
      unfold kdN
      by_cases q1 : lfN (sdN s) < h
      · rw [if_pos q1, if_neg (nI_ge q1 (by omega))]; rfl
      · rw [if_neg q1, if_pos (nI_le (by omega) (by omega))]
        by_cases q2 : lfN (sdN s) < h + v
        · rw [if_pos q2, if_neg (nI_ge q2 (by omega))]; rfl
        · rw [if_neg q2, if_pos (nI_le (by omega) (by omega))]; rfl
    refine lp_pla (r := r) (c := c) (soG h v) ((p3, fun _ => 0) : SS) (fun i s a => a.1 = s.1 ∧ a.2.1 = nI i ∧ (∀ p, p < i → a.2.2 p = nI (s.2 p)) ∧ ∀ p, i ≤ p → s.2 p = 0) ?_ ?_ ?_ FU _ ⟨rfl, rfl, fun p hp => absurd hp (Nat.not_lt_zero _), fun p _ => rfl⟩ (FU_of (by omega))
    · rintro RR p s ⟨x1, x2, pt⟩ hp169 hip hb ⟨e1, e2, e3, e4⟩ hRR
      dsimp only at e1 e2 e3 e4 ⊢
      subst e1; subst e2
      unfold bX6_make_79
      rw [l169, if_neg (nI_ge hp169 (by omega))]
      refine ⟨vp_in_nI hp169 (by omega), m_isInnerP hR hp169 ?_⟩
      rw [hip, bI_t, if_neg (by decide), nI_clamp (by omega), nI_1, nI_add]
      have hs : s.1 * 6364136223846793005 + 1442695040888963407 = sdN s.1 := rfl
      rw [hs, lf_L, key]
      refine hRR _ ⟨rfl, rfl, fun q hq => ?_, fun q hq => ?_⟩
      · show upd (upd pt p 0) p _ q = nI (kU s.2 p _ q)
        rw [upd_e, upd_e]
        unfold kU
        by_cases z : q = p
        · rw [if_pos z, if_pos z]
        · rw [if_neg z, if_neg z, if_neg z]; exact e3 q (by omega)
      · show kU s.2 p _ q = 0
        unfold kU
        rw [if_neg (by omega)]
        exact e4 q (by omega)
    · rintro RR p s ⟨x1, x2, pt⟩ hp169 hip hb ⟨e1, e2, e3, e4⟩ hRR
      dsimp only at e1 e2 e3 e4 ⊢
      subst e1; subst e2
      unfold bX6_make_79
      rw [l169, if_neg (nI_ge hp169 (by omega))]
      refine ⟨vp_in_nI hp169 (by omega), m_isInnerP hR hp169 ?_⟩
      rw [hip, bI_f, if_pos rfl, nI_clamp (by omega), nI_1]
      refine hRR _ ⟨rfl, rfl, fun q hq => ?_, fun q hq => e4 q (by omega)⟩
      show upd pt p 0 q = nI (s.2 q)
      rw [upd_e]
      by_cases z : q = p
      · rw [if_pos z, z, e4 p (Nat.le_refl _)]; rfl
      · rw [if_neg z]; exact e3 q (by omega)
    · rintro RR ⟨x1, x2, pt⟩ ⟨e1, e2, e3, e4⟩
      dsimp only at e1 e2 e3 e4 ⊢
      subst e2
      unfold bX6_make_79
      rw [l169, if_pos (nI_le (by omega) (by omega))]
      unfold wX6_make_X182
      refine m_inner hR ?_
      exact hyes r c h v rfl hR _ (fun p hp => e3 p hp)
  · rw [if_neg (nI_ge (by omega) (by omega))]
    rw [if_neg q] at hno
    exact hno rfl
/-- slots -/
abbrev KP : Type := Nat → Option (Nat × Nat × (Nat → Nat))
def KmR (kp : KP) (f1 f2 f3 : Nat → Int32) : Prop := ∀ s, s < 2 → (kp s = none → f1 s = 0) ∧ ∀ r c k, kp s = some (r, c, k) → f1 s = 1 ∧ f3 (2 * s) = nI r ∧ f3 (2 * s + 1) = nI c ∧ ∀ p, p < 169 → f2 (169 * s + p) = nI (k p)
def kpU (kp : KP) (s : Nat) (v : Nat × Nat × (Nat → Nat)) : KP := fun j => if j = s then some v else kp j
theorem m_keep {r c : Nat} (hR : RC r c) {k : Nat → Nat} {pts : Nat → Int32} (hp : MpR k pts) {kp : KP} {f1 f2 f3 : Nat → Int32} (hK : KmR kp f1 f2 f3) {x : Int32} {Q : Int32 → (Nat → Int32) → (Nat → Int32) → (Nat → Int32) → Prop} (h1 : rgI 0 1 x = none → Q (-1) f1 f2 f3) (h2 : ∀ s, rgI 0 1 x = some s → ∀ g1 g2 g3, KmR (kpU kp s (r, c, k)) g1 g2 g3 → Q (nI (inN r c)) g1 g2 g3) : wX6_keep (nI r) (nI c) pts f1 f2 f3 x Q := by
  unfold wX6_keep
  refine m_rg 0 1 (by decide) (by decide) (by omega) (by omega) (fun y => ?_) (fun s y => ?_)
  · rw [if_pos rfl]; exact h1 y
  · have h2' := h2 s y
    obtain ⟨rfl, -, y2, -⟩ := rgI_some y
    rw [if_neg (by decide)]
    refine ⟨vp_in_nI (by omega) (by omega), ?_⟩
    unfold lX6_keep_21
    refine lp_up (fun i a => a.1 = nI i ∧ (∀ p, p < i → a.2 (169 * s + p) = nI (k p)) ∧ ∀ q, (q < 169 * s ∨ 169 * s + 169 ≤ q) → a.2 q = f2 q) 169 ?_ FU 0 _ ⟨rfl, fun p hp => absurd hp (Nat.not_lt_zero _), fun _ _ => rfl⟩ (Nat.zero_le _) (FU_of (by omega))
    rintro RR i ⟨x1, g⟩ ⟨e1, e2, e3⟩ hi hRR
    dsimp only at e1 e2 e3 ⊢
    subst e1
    unfold bX6_keep_21
    rw [l169, pk_mul, nI_add]
    by_cases q : i < 169
    · rw [if_neg (nI_ge q (by omega))]
      refine ⟨vp_in_nI q (by omega), vp_in_nI (by omega) (by omega), ?_⟩
      rw [nI_clamp (by omega), nI_clamp (by omega), nI_1, hp i q]
      refine hRR q _ ⟨rfl, fun p hp2 => ?_, fun q2 hq => ?_⟩
      · show upd g (169 * s + i) _ (169 * s + p) = _
        rw [upd_e]
        by_cases z : p = i
        · rw [if_pos (by omega), z]
        · rw [if_neg (by omega)]; exact e2 p (by omega)
      · show upd g (169 * s + i) _ q2 = _
        rw [upd_e, if_neg (by omega)]; exact e3 q2 hq
    · rw [if_pos (nI_le (by omega) (by omega))]
      have : i = 169 := by omega
      subst this
      unfold wX6_keep_X52
      rw [l2, pk_mul, nI_1]
      refine ⟨vp_in_nI (by omega) (by omega), vp_in_nI (by omega) (by omega), m_inner hR ?_⟩
      rw [nI_clamp (by omega), nI_clamp (by omega), nI_clamp (by omega), vB isB_1]
      refine h2' _ _ _ (fun j hj => ?_)
      unfold kpU
      by_cases z : j = s
      · rw [if_pos z]
        refine ⟨fun w => (by cases w), fun r' c' k' w => ?_⟩
        cases w
        subst z
        refine ⟨upd_s, ?_, upd_s, fun p hp2 => e2 p hp2⟩
        rw [upd_e, if_neg (by omega), upd_s]
      · rw [if_neg z]
        obtain ⟨a1, a2⟩ := hK j hj
        refine ⟨fun w => ?_, fun r' c' k' w => ?_⟩
        · rw [upd_e, if_neg z]; exact a1 w
        · obtain ⟨b1, b2, b3, b4⟩ := a2 r' c' k' w
          refine ⟨?_, ?_, ?_, fun p hp2 => ?_⟩
          · rw [upd_e, if_neg z]; exact b1
          · rw [upd_e, if_neg (by omega), upd_e, if_neg (by omega)]; exact b2
          · rw [upd_e, if_neg (by omega), upd_e, if_neg (by omega)]; exact b3
          · rw [e3 _ (by omega)]; exact b4 p hp2
theorem m_again {t1 t2 : Int32} {pts : Nat → Int32} {kp : KP} {f1 f2 f3 : Nat → Int32} (hK : KmR kp f1 f2 f3) (hkp : ∀ s r c k, kp s = some (r, c, k) → RC r c) {x : Int32} {Q : Int32 → Int32 → Int32 → (Nat → Int32) → Prop} (h1 : rgI 0 1 x = none → Q (-1) t1 t2 pts) (h2 : ∀ s, rgI 0 1 x = some s → kp s = none → Q (-3) t1 t2 pts) (h3 : ∀ s r c k, rgI 0 1 x = some s → kp s = some (r, c, k) → ∀ pts', MpR k pts' → Q (nI (inN r c)) (nI r) (nI c) pts') : wX6_again t1 t2 pts f1 f2 f3 x Q := by
  unfold wX6_again
  refine m_rg 0 1 (by decide) (by decide) (by omega) (by omega) (fun y => ?_) (fun s y => ?_)
  · rw [if_pos rfl]; exact h1 y
  · have h2' := h2 s y
    have h3' := fun r c k => h3 s r c k y
    obtain ⟨rfl, -, y2, -⟩ := rgI_some y
    rw [if_neg (by decide)]
    refine ⟨vp_in_nI (by omega) (by omega), ?_⟩
    rw [nI_clamp (by omega)]
    obtain ⟨a1, a2⟩ := hK s (by omega)
    cases hs : kp s with
    | none =>
      rw [a1 hs, if_pos rfl]
      exact h2' hs
    | some v =>
      obtain ⟨r, c, k⟩ := v
      obtain ⟨b1, b2, b3, b4⟩ := a2 r c k hs
      have hR := hkp s r c k hs
      rw [b1, if_neg (by decide)]
      unfold lX6_again_26
      refine lp_up (fun i a => a.1 = nI i ∧ ∀ p, p < i → a.2 p = nI (k p)) 169 ?_ FU 0 _ ⟨rfl, fun p hp => absurd hp (Nat.not_lt_zero _)⟩ (Nat.zero_le _) (FU_of (by omega))
      rintro RR i ⟨x1, g⟩ ⟨e1, e2⟩ hi hRR
      dsimp only at e1 e2 ⊢
      subst e1
      unfold bX6_again_26
      rw [l169, pk_mul, nI_add]
      by_cases q : i < 169
      · rw [if_neg (nI_ge q (by omega))]
        refine ⟨vp_in_nI (by omega) (by omega), vp_in_nI q (by omega), ?_⟩
        rw [nI_clamp (by omega), nI_clamp (by omega), nI_1, b4 i q]
        refine hRR q _ ⟨rfl, fun p hp2 => ?_⟩
        show upd g i _ p = _
        rw [upd_e]
        by_cases z : p = i
        · rw [if_pos z, z]
        · rw [if_neg z]; exact e2 p (by omega)
      · rw [if_pos (nI_le (by omega) (by omega))]
        have : i = 169 := by omega
        subst this
        unfold wX6_again_X57
        rw [l2, pk_mul, nI_1]
        refine ⟨vp_in_nI (by omega) (by omega), vp_in_nI (by omega) (by omega), ?_⟩
        rw [nI_clamp (by omega), nI_clamp (by omega), b2, b3]
        exact m_inner hR (h3' r c k hs _ (fun p hp2 => e2 p hp2))
/-- crossings by their two kinds -/
theorem cr_ct {r c : Nat} {k : Nat → Nat} (hk : ∀ p, k p ≤ 3) : nI (fb_ct (crB r c k) 169) = kcE r c k 0 + kcE r c k 3 := by
  rw [kcE_ct, kcE_ct, nI_add]
  refine congrArg nI ?_
  refine (fb_ct_cong (fun p _ => ?_)).trans (fb_ct_or (p := fun p => inn r c p && decide (k p = 0)) (q := fun p => inn r c p && decide (k p = 3)) (n := 169) (fun p _ h => by
    obtain ⟨h1, h2⟩ := h
    have a1 := of_decide_eq_true (Bool.and_eq_true_iff.mp h1).2
    have a2 := of_decide_eq_true (Bool.and_eq_true_iff.mp h2).2
    omega))
  have h3 := hk p
  unfold crB
  cases inn r c p
  · rfl
  · rcases (show k p = 0 ∨ k p = 1 ∨ k p = 2 ∨ k p = 3 by omega) with e | e | e | e <;> rw [e] <;> rfl
set_option maxHeartbeats 2000000 in
theorem m_about {r c : Nat} (hR : RC r c) {k : Nat → Nat} (hk : ∀ p, k p ≤ 3) {pts : Nat → Int32} (hp : MpR k pts) {ln : Nat} {lo dn ro be : Nat → Int32} {lp nc nd : Int32} {part a1 a2 a3 : Nat → Int32} {a4 : Int32} {w : Int32} {Q : Int32 → (Nat → Int32) → (Nat → Int32) → (Nat → Int32) → (Nat → Int32) → Int32 → Int32 → Int32 → (Nat → Int32) → (Nat → Int32) → (Nat → Int32) → (Nat → Int32) → Int32 → Prop} (h : ∀ lo' dn' ro' be' lp' nc' nd' part' a1' a2' a3' a4', Q (aAbout r c k ln w) lo' dn' ro' be' lp' nc' nd' part' a1' a2' a3' a4') : wX6_about (nI r) (nI c) pts (nI ln) lo dn ro be lp nc nd part a1 a2 a3 a4 w Q := by
  obtain ⟨P, hn, h36⟩ := LY_fact k hR
  unfold wX6_about lX6_about_13
  refine lp_up (fun i x => x.1 = nI (fb_ct (crB r c k) i) ∧ x.2.1 = nI (fb_ct (fun p => inn r c p && decide (k p = 1)) i) ∧ x.2.2.1 = nI (fb_ct (fun p => inn r c p && decide (k p = 2)) i) ∧ x.2.2.2.1 = nI (fb_ct (fun p => inn r c p && decide (k p = 3)) i) ∧ x.2.2.2.2 = nI i) 169 ?_ FU 0 _ ⟨rfl, rfl, rfl, rfl, rfl⟩ (Nat.zero_le _) (FU_of (by omega))
  rintro RR i ⟨x2, x3, x4, x5, x6⟩ ⟨e1, e2, e3, e4, e5⟩ hi hRR
  dsimp only at e1 e2 e3 e4 e5 ⊢
  subst e1; subst e2; subst e3; subst e4; subst e5
  unfold bX6_about_13
  rw [l169]
  by_cases q : i < 169
  · rw [if_neg (nI_ge q (by omega))]
    refine m_isInnerP hR q (m_isCr hR hk hp q ?_)
    have h3 := hk i
    have g := hRR q
    clear hRR
    have s1 := fb_ct_succ (crB r c k) i
    have s2 := fb_ct_succ (fun p => inn r c p && decide (k p = 1)) i
    have s3 := fb_ct_succ (fun p => inn r c p && decide (k p = 2)) i
    have s4 := fb_ct_succ (fun p => inn r c p && decide (k p = 3)) i
    have bz : ∀ b : Bool, (if bI b = 0 then (0 : Int32) else 1) = nI (if b = true then 1 else 0) := by intro b; cases b <;> rfl
    cases hq : inn r c i with
    | false =>
      rw [crB_out hq] at s1 ⊢
      simp only [hq, Bool.false_and] at s2 s3 s4
      rw [bI_f, if_pos rfl]
      unfold wX6_about_J83
      rw [if_pos rfl]
      unfold wX6_about_J108
      rw [if_pos rfl, if_pos rfl, l0, nI_add, nI_add, nI_add, nI_add, nI_1]
      refine g _ ⟨congrArg nI ?_, congrArg nI ?_, congrArg nI ?_, congrArg nI ?_, rfl⟩
      · rw [s1]; rfl
      · rw [s2]; rfl
      · rw [s3]; rfl
      · rw [s4]; rfl
    | true =>
      simp only [hq, Bool.true_and] at s2 s3 s4
      have hJ : ∀ a b : Nat, a = (if decide (k i = 1) = true then 1 else 0) → b = (if decide (k i = 2) = true then 1 else 0) → wX6_about_J108 pts (fun x13_2 x13_3 x13_4 x13_5 x13_6 => RR (x13_2, x13_3, x13_4, x13_5, x13_6)) (nI (fb_ct (crB r c k) i)) (nI (fb_ct (fun p => inn r c p && decide (k p = 1)) i)) (nI (fb_ct (fun p => inn r c p && decide (k p = 2)) i)) (nI (fb_ct (fun p => inn r c p && decide (k p = 3)) i)) (nI i) (bI true) (bI (crB r c k i)) (nI a) (nI b) := by
        intro a b ha hb
        unfold wX6_about_J108
        rw [bI_t, if_neg (by decide)]
        refine ⟨vp_in_nI q (by omega), ?_⟩
        have e3 : (if nI (k i) = 3 then (1 : Int32) else 0) = nI (if decide (k i = 3) = true then 1 else 0) := by
          rw [show (3 : Int32) = nI 3 from rfl, eq_I (by omega) (by omega)]
          cases decide (k i = 3) <;> rfl
        rw [nI_clamp (by omega), hp i q, e3, bz, nI_add, nI_add, nI_add, nI_add, nI_1]
        refine g _ ⟨congrArg nI ?_, congrArg nI ?_, congrArg nI ?_, congrArg nI ?_, rfl⟩
        · rw [s1]
        · rw [s2, ha]
        · rw [s3, hb]
        · rw [s4]
      have hJ2 : ∀ a : Nat, a = (if decide (k i = 1) = true then 1 else 0) → wX6_about_J83 pts (fun x13_2 x13_3 x13_4 x13_5 x13_6 => RR (x13_2, x13_3, x13_4, x13_5, x13_6)) (nI (fb_ct (crB r c k) i)) (nI (fb_ct (fun p => inn r c p && decide (k p = 1)) i)) (nI (fb_ct (fun p => inn r c p && decide (k p = 2)) i)) (nI (fb_ct (fun p => inn r c p && decide (k p = 3)) i)) (nI i) (bI true) (bI (crB r c k i)) (nI a) := by
        intro a ha
        unfold wX6_about_J83
        rw [show (if bI true = 0 then _ else _) = _ from if_neg (show ¬ bI true = 0 by decide)]
        refine ⟨vp_in_nI q (by omega), ?_⟩
        rw [nI_clamp (by omega), hp i q]
        by_cases z : k i = 2
        · rw [if_pos (by rw [z]; rfl)]
          exact hJ a 1 ha (by rw [decide_eq_true z]; rfl)
        · rw [if_neg (show ¬ nI (k i) = 2 from fun e => z (nI_inj (b := 2) (by omega) (by omega) e))]
          exact hJ a 0 ha (by rw [decide_eq_false z]; rfl)
      rw [show (if bI true = 0 then _ else _) = _ from if_neg (show ¬ bI true = 0 by decide)]
      refine ⟨vp_in_nI q (by omega), ?_⟩
      rw [nI_clamp (by omega), hp i q]
      by_cases z : k i = 1
      · rw [if_pos (by rw [z]; rfl)]
        exact hJ2 1 (by rw [decide_eq_true z]; rfl)
      · rw [if_neg (show ¬ nI (k i) = 1 from fun e => z (nI_inj (b := 1) (by omega) (by omega) e))]
        exact hJ2 0 (by rw [decide_eq_false z]; rfl)
  · rw [if_pos (nI_le (by omega) (by omega))]
    have : i = 169 := by omega
    subst this
    clear hRR
    rw [cr_ct hk, ← kcE_ct, ← kcE_ct, ← kcE_ct]
    unfold wX6_about_X143
    refine m_layArcs hR hk hp (fun lo' dn' ro' be' nc' nd' f1 f2 f3 hM hA => ?_)
    unfold aAbout at h
    by_cases w0 : w = 0
    · rw [if_pos w0] at h ⊢; exact h _ _ _ _ _ _ _ _ _ _ _ _
    rw [if_neg w0] at h ⊢
    by_cases w1 : w = 1
    · rw [if_pos w1] at h ⊢; exact h _ _ _ _ _ _ _ _ _ _ _ _
    rw [if_neg w1] at h ⊢
    by_cases w2 : w = 2
    · rw [if_pos w2] at h ⊢; rw [l4, pk_mul, pk_mul]; exact h _ _ _ _ _ _ _ _ _ _ _ _
    rw [if_neg w2] at h ⊢
    by_cases w3 : w = 3
    · rw [if_pos w3] at h ⊢; exact m_inner hR (h _ _ _ _ _ _ _ _ _ _ _ _)
    rw [if_neg w3] at h ⊢
    by_cases w4 : w = 4
    · rw [if_pos w4] at h ⊢; exact h _ _ _ _ _ _ _ _ _ _ _ _
    rw [if_neg w4] at h ⊢
    by_cases w5 : w = 5
    · rw [if_pos w5] at h ⊢; exact h _ _ _ _ _ _ _ _ _ _ _ _
    rw [if_neg w5] at h ⊢
    by_cases w6 : w = 6
    · rw [if_pos w6] at h ⊢; exact h _ _ _ _ _ _ _ _ _ _ _ _
    rw [if_neg w6] at h ⊢
    by_cases w7 : w = 7
    · rw [if_pos w7] at h ⊢; exact h _ _ _ _ _ _ _ _ _ _ _ _
    rw [if_neg w7] at h ⊢
    by_cases w8 : w = 8
    · rw [if_pos w8] at h ⊢; exact h _ _ _ _ _ _ _ _ _ _ _ _
    rw [if_neg w8] at h ⊢
    by_cases w9 : w = 9
    · rw [if_pos w9] at h ⊢
      exact m_layParts hR hk hp (fun _ _ _ _ _ _ _ _ _ => h _ _ _ _ _ _ _ _ _ _ _ _)
    rw [if_neg w9] at h ⊢
    by_cases w10 : w = 10
    · rw [if_pos w10] at h ⊢
      exact m_layParts hR hk hp (fun _ _ _ _ _ _ _ _ _ => h _ _ _ _ _ _ _ _ _ _ _ _)
    rw [if_neg w10] at h ⊢
    by_cases w11 : w = 11
    · rw [if_pos w11] at h ⊢; exact h _ _ _ _ _ _ _ _ _ _ _ _
    rw [if_neg w11] at h ⊢
    by_cases w12 : w = 12
    · rw [if_pos w12] at h ⊢; exact h _ _ _ _ _ _ _ _ _ _ _ _
    rw [if_neg w12] at h ⊢
    exact h _ _ _ _ _ _ _ _ _ _ _ _
